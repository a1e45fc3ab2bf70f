/-! ScriptLedgerModel.evaluate()Z -/
theorem jd_101_0 : decode prog_10_method_14_code 0 = .ok (.aload_n 0, 1) := by decide +kernel
theorem jd_101_1 : decode prog_10_method_14_code 1 = .ok (.getfield 135, 3) := by decide +kernel
theorem jd_101_4 : decode prog_10_method_14_code 4 = .ok (.istore_n 1, 1) := by decide +kernel
theorem jd_101_5 : decode prog_10_method_14_code 5 = .ok (.aload_n 0, 1) := by decide +kernel
theorem jd_101_6 : decode prog_10_method_14_code 6 = .ok (.getfield 7, 3) := by decide +kernel
theorem jd_101_9 : decode prog_10_method_14_code 9 = .ok (.iload_n 1, 1) := by decide +kernel
theorem jd_101_10 : decode prog_10_method_14_code 10 = .ok (.iaload, 1) := by decide +kernel
theorem jd_101_11 : decode prog_10_method_14_code 11 = .ok (.istore_n 2, 1) := by decide +kernel
theorem jd_101_12 : decode prog_10_method_14_code 12 = .ok (.aload_n 0, 1) := by decide +kernel
theorem jd_101_13 : decode prog_10_method_14_code 13 = .ok (.iconst 1, 1) := by decide +kernel
theorem jd_101_14 : decode prog_10_method_14_code 14 = .ok (.invokevirtual 138, 3) := by decide +kernel
theorem jd_101_17 : decode prog_10_method_14_code 17 = .ok (.ifCond .ne 5, 3) := by decide +kernel
theorem jd_101_20 : decode prog_10_method_14_code 20 = .ok (.iconst 0, 1) := by decide +kernel
theorem jd_101_21 : decode prog_10_method_14_code 21 = .ok (.ireturn, 1) := by decide +kernel
theorem jd_101_22 : decode prog_10_method_14_code 22 = .ok (.aload_n 0, 1) := by decide +kernel
theorem jd_101_23 : decode prog_10_method_14_code 23 = .ok (.iconst (-1), 1) := by decide +kernel
theorem jd_101_24 : decode prog_10_method_14_code 24 = .ok (.putfield 135, 3) := by decide +kernel
theorem jd_101_27 : decode prog_10_method_14_code 27 = .ok (.iload_n 2, 1) := by decide +kernel
theorem jd_101_28 : decode prog_10_method_14_code 28 = .ok (.ifCond .ne 49, 3) := by decide +kernel
theorem jd_101_31 : decode prog_10_method_14_code 31 = .ok (.aload_n 0, 1) := by decide +kernel
theorem jd_101_32 : decode prog_10_method_14_code 32 = .ok (.getfield 142, 3) := by decide +kernel
theorem jd_101_35 : decode prog_10_method_14_code 35 = .ok (.istore_n 3, 1) := by decide +kernel
theorem jd_101_36 : decode prog_10_method_14_code 36 = .ok (.aload_n 0, 1) := by decide +kernel
theorem jd_101_37 : decode prog_10_method_14_code 37 = .ok (.getfield 7, 3) := by decide +kernel
theorem jd_101_40 : decode prog_10_method_14_code 40 = .ok (.iload_n 1, 1) := by decide +kernel
theorem jd_101_41 : decode prog_10_method_14_code 41 = .ok (.iconst 1, 1) := by decide +kernel
theorem jd_101_42 : decode prog_10_method_14_code 42 = .ok (.iadd, 1) := by decide +kernel
theorem jd_101_43 : decode prog_10_method_14_code 43 = .ok (.iaload, 1) := by decide +kernel
theorem jd_101_44 : decode prog_10_method_14_code 44 = .ok (.istore 4, 2) := by decide +kernel
theorem jd_101_46 : decode prog_10_method_14_code 46 = .ok (.iload 4, 2) := by decide +kernel
theorem jd_101_48 : decode prog_10_method_14_code 48 = .ok (.ifCond .le 16, 3) := by decide +kernel
theorem jd_101_51 : decode prog_10_method_14_code 51 = .ok (.aload_n 0, 1) := by decide +kernel
theorem jd_101_52 : decode prog_10_method_14_code 52 = .ok (.getfield 37, 3) := by decide +kernel
theorem jd_101_55 : decode prog_10_method_14_code 55 = .ok (.iload_n 3, 1) := by decide +kernel
theorem jd_101_56 : decode prog_10_method_14_code 56 = .ok (.iaload, 1) := by decide +kernel
theorem jd_101_57 : decode prog_10_method_14_code 57 = .ok (.istore_n 3, 1) := by decide +kernel
theorem jd_101_58 : decode prog_10_method_14_code 58 = .ok (.iinc 4 (-1), 3) := by decide +kernel
theorem jd_101_61 : decode prog_10_method_14_code 61 = .ok (.goto (-15), 3) := by decide +kernel
theorem jd_101_64 : decode prog_10_method_14_code 64 = .ok (.aload_n 0, 1) := by decide +kernel
theorem jd_101_65 : decode prog_10_method_14_code 65 = .ok (.aload_n 0, 1) := by decide +kernel
theorem jd_101_66 : decode prog_10_method_14_code 66 = .ok (.getfield 34, 3) := by decide +kernel
theorem jd_101_69 : decode prog_10_method_14_code 69 = .ok (.iload_n 3, 1) := by decide +kernel
theorem jd_101_70 : decode prog_10_method_14_code 70 = .ok (.iaload, 1) := by decide +kernel
theorem jd_101_71 : decode prog_10_method_14_code 71 = .ok (.putfield 145, 3) := by decide +kernel
theorem jd_101_74 : decode prog_10_method_14_code 74 = .ok (.goto 189, 3) := by decide +kernel
theorem jd_101_77 : decode prog_10_method_14_code 77 = .ok (.iload_n 2, 1) := by decide +kernel
theorem jd_101_78 : decode prog_10_method_14_code 78 = .ok (.iconst 1, 1) := by decide +kernel
theorem jd_101_79 : decode prog_10_method_14_code 79 = .ok (.if_icmp .ne 24, 3) := by decide +kernel
theorem jd_101_82 : decode prog_10_method_14_code 82 = .ok (.aload_n 0, 1) := by decide +kernel
theorem jd_101_83 : decode prog_10_method_14_code 83 = .ok (.aload_n 0, 1) := by decide +kernel
theorem jd_101_84 : decode prog_10_method_14_code 84 = .ok (.iconst 3, 1) := by decide +kernel
theorem jd_101_85 : decode prog_10_method_14_code 85 = .ok (.iload_n 1, 1) := by decide +kernel
theorem jd_101_86 : decode prog_10_method_14_code 86 = .ok (.iconst 1, 1) := by decide +kernel
theorem jd_101_87 : decode prog_10_method_14_code 87 = .ok (.iadd, 1) := by decide +kernel
theorem jd_101_88 : decode prog_10_method_14_code 88 = .ok (.aload_n 0, 1) := by decide +kernel
theorem jd_101_89 : decode prog_10_method_14_code 89 = .ok (.getfield 142, 3) := by decide +kernel
theorem jd_101_92 : decode prog_10_method_14_code 92 = .ok (.iconst 0, 1) := by decide +kernel
theorem jd_101_93 : decode prog_10_method_14_code 93 = .ok (.iconst 0, 1) := by decide +kernel
theorem jd_101_94 : decode prog_10_method_14_code 94 = .ok (.invokevirtual 122, 3) := by decide +kernel
theorem jd_101_97 : decode prog_10_method_14_code 97 = .ok (.putfield 145, 3) := by decide +kernel
theorem jd_101_100 : decode prog_10_method_14_code 100 = .ok (.goto 163, 3) := by decide +kernel
theorem jd_101_103 : decode prog_10_method_14_code 103 = .ok (.iload_n 2, 1) := by decide +kernel
theorem jd_101_104 : decode prog_10_method_14_code 104 = .ok (.iconst 2, 1) := by decide +kernel
theorem jd_101_105 : decode prog_10_method_14_code 105 = .ok (.if_icmp .ne 29, 3) := by decide +kernel
theorem jd_101_108 : decode prog_10_method_14_code 108 = .ok (.aload_n 0, 1) := by decide +kernel
theorem jd_101_109 : decode prog_10_method_14_code 109 = .ok (.iconst 1, 1) := by decide +kernel
theorem jd_101_110 : decode prog_10_method_14_code 110 = .ok (.aload_n 0, 1) := by decide +kernel
theorem jd_101_111 : decode prog_10_method_14_code 111 = .ok (.iload_n 1, 1) := by decide +kernel
theorem jd_101_112 : decode prog_10_method_14_code 112 = .ok (.iconst 1, 1) := by decide +kernel
theorem jd_101_113 : decode prog_10_method_14_code 113 = .ok (.iadd, 1) := by decide +kernel
theorem jd_101_114 : decode prog_10_method_14_code 114 = .ok (.invokevirtual 148, 3) := by decide +kernel
theorem jd_101_117 : decode prog_10_method_14_code 117 = .ok (.aload_n 0, 1) := by decide +kernel
theorem jd_101_118 : decode prog_10_method_14_code 118 = .ok (.getfield 142, 3) := by decide +kernel
theorem jd_101_121 : decode prog_10_method_14_code 121 = .ok (.invokevirtual 152, 3) := by decide +kernel
theorem jd_101_124 : decode prog_10_method_14_code 124 = .ok (.aload_n 0, 1) := by decide +kernel
theorem jd_101_125 : decode prog_10_method_14_code 125 = .ok (.iload_n 1, 1) := by decide +kernel
theorem jd_101_126 : decode prog_10_method_14_code 126 = .ok (.iconst 1, 1) := by decide +kernel
theorem jd_101_127 : decode prog_10_method_14_code 127 = .ok (.iadd, 1) := by decide +kernel
theorem jd_101_128 : decode prog_10_method_14_code 128 = .ok (.putfield 135, 3) := by decide +kernel
theorem jd_101_131 : decode prog_10_method_14_code 131 = .ok (.goto 132, 3) := by decide +kernel
theorem jd_101_134 : decode prog_10_method_14_code 134 = .ok (.iload_n 2, 1) := by decide +kernel
theorem jd_101_135 : decode prog_10_method_14_code 135 = .ok (.iconst 3, 1) := by decide +kernel
theorem jd_101_136 : decode prog_10_method_14_code 136 = .ok (.if_icmp .ne 26, 3) := by decide +kernel
theorem jd_101_139 : decode prog_10_method_14_code 139 = .ok (.aload_n 0, 1) := by decide +kernel
theorem jd_101_140 : decode prog_10_method_14_code 140 = .ok (.aload_n 0, 1) := by decide +kernel
theorem jd_101_141 : decode prog_10_method_14_code 141 = .ok (.aload_n 0, 1) := by decide +kernel
theorem jd_101_142 : decode prog_10_method_14_code 142 = .ok (.getfield 7, 3) := by decide +kernel
theorem jd_101_145 : decode prog_10_method_14_code 145 = .ok (.iload_n 1, 1) := by decide +kernel
theorem jd_101_146 : decode prog_10_method_14_code 146 = .ok (.iconst 1, 1) := by decide +kernel
theorem jd_101_147 : decode prog_10_method_14_code 147 = .ok (.iadd, 1) := by decide +kernel
theorem jd_101_148 : decode prog_10_method_14_code 148 = .ok (.iaload, 1) := by decide +kernel
theorem jd_101_149 : decode prog_10_method_14_code 149 = .ok (.sipush 128, 3) := by decide +kernel
theorem jd_101_152 : decode prog_10_method_14_code 152 = .ok (.isub, 1) := by decide +kernel
theorem jd_101_153 : decode prog_10_method_14_code 153 = .ok (.invokevirtual 156, 3) := by decide +kernel
theorem jd_101_156 : decode prog_10_method_14_code 156 = .ok (.putfield 145, 3) := by decide +kernel
theorem jd_101_159 : decode prog_10_method_14_code 159 = .ok (.goto 104, 3) := by decide +kernel
theorem jd_101_162 : decode prog_10_method_14_code 162 = .ok (.iload_n 2, 1) := by decide +kernel
theorem jd_101_163 : decode prog_10_method_14_code 163 = .ok (.iconst 4, 1) := by decide +kernel
theorem jd_101_164 : decode prog_10_method_14_code 164 = .ok (.if_icmp .ne 26, 3) := by decide +kernel
theorem jd_101_167 : decode prog_10_method_14_code 167 = .ok (.aload_n 0, 1) := by decide +kernel
theorem jd_101_168 : decode prog_10_method_14_code 168 = .ok (.aload_n 0, 1) := by decide +kernel
theorem jd_101_169 : decode prog_10_method_14_code 169 = .ok (.iconst 5, 1) := by decide +kernel
theorem jd_101_170 : decode prog_10_method_14_code 170 = .ok (.aload_n 0, 1) := by decide +kernel
theorem jd_101_171 : decode prog_10_method_14_code 171 = .ok (.getfield 7, 3) := by decide +kernel
theorem jd_101_174 : decode prog_10_method_14_code 174 = .ok (.iload_n 1, 1) := by decide +kernel
theorem jd_101_175 : decode prog_10_method_14_code 175 = .ok (.iconst 1, 1) := by decide +kernel
theorem jd_101_176 : decode prog_10_method_14_code 176 = .ok (.iadd, 1) := by decide +kernel
theorem jd_101_177 : decode prog_10_method_14_code 177 = .ok (.iaload, 1) := by decide +kernel
theorem jd_101_178 : decode prog_10_method_14_code 178 = .ok (.iconst 0, 1) := by decide +kernel
theorem jd_101_179 : decode prog_10_method_14_code 179 = .ok (.iconst 0, 1) := by decide +kernel
theorem jd_101_180 : decode prog_10_method_14_code 180 = .ok (.iconst 0, 1) := by decide +kernel
theorem jd_101_181 : decode prog_10_method_14_code 181 = .ok (.invokevirtual 122, 3) := by decide +kernel
theorem jd_101_184 : decode prog_10_method_14_code 184 = .ok (.putfield 145, 3) := by decide +kernel
theorem jd_101_187 : decode prog_10_method_14_code 187 = .ok (.goto 76, 3) := by decide +kernel
theorem jd_101_190 : decode prog_10_method_14_code 190 = .ok (.iload_n 2, 1) := by decide +kernel
theorem jd_101_191 : decode prog_10_method_14_code 191 = .ok (.iconst 5, 1) := by decide +kernel
theorem jd_101_192 : decode prog_10_method_14_code 192 = .ok (.if_icmp .ne 24, 3) := by decide +kernel
theorem jd_101_195 : decode prog_10_method_14_code 195 = .ok (.aload_n 0, 1) := by decide +kernel
theorem jd_101_196 : decode prog_10_method_14_code 196 = .ok (.aload_n 0, 1) := by decide +kernel
theorem jd_101_197 : decode prog_10_method_14_code 197 = .ok (.iconst 4, 1) := by decide +kernel
theorem jd_101_198 : decode prog_10_method_14_code 198 = .ok (.iload_n 1, 1) := by decide +kernel
theorem jd_101_199 : decode prog_10_method_14_code 199 = .ok (.iconst 1, 1) := by decide +kernel
theorem jd_101_200 : decode prog_10_method_14_code 200 = .ok (.iadd, 1) := by decide +kernel
theorem jd_101_201 : decode prog_10_method_14_code 201 = .ok (.aload_n 0, 1) := by decide +kernel
theorem jd_101_202 : decode prog_10_method_14_code 202 = .ok (.getfield 142, 3) := by decide +kernel
theorem jd_101_205 : decode prog_10_method_14_code 205 = .ok (.iconst 0, 1) := by decide +kernel
theorem jd_101_206 : decode prog_10_method_14_code 206 = .ok (.iconst 0, 1) := by decide +kernel
theorem jd_101_207 : decode prog_10_method_14_code 207 = .ok (.invokevirtual 122, 3) := by decide +kernel
theorem jd_101_210 : decode prog_10_method_14_code 210 = .ok (.putfield 145, 3) := by decide +kernel
theorem jd_101_213 : decode prog_10_method_14_code 213 = .ok (.goto 50, 3) := by decide +kernel
theorem jd_101_216 : decode prog_10_method_14_code 216 = .ok (.iload_n 2, 1) := by decide +kernel
theorem jd_101_217 : decode prog_10_method_14_code 217 = .ok (.bipush 6, 2) := by decide +kernel
theorem jd_101_219 : decode prog_10_method_14_code 219 = .ok (.if_icmp .ne 20, 3) := by decide +kernel
theorem jd_101_222 : decode prog_10_method_14_code 222 = .ok (.aload_n 0, 1) := by decide +kernel
theorem jd_101_223 : decode prog_10_method_14_code 223 = .ok (.iconst 0, 1) := by decide +kernel
theorem jd_101_224 : decode prog_10_method_14_code 224 = .ok (.iconst 0, 1) := by decide +kernel
theorem jd_101_225 : decode prog_10_method_14_code 225 = .ok (.iconst 0, 1) := by decide +kernel
theorem jd_101_226 : decode prog_10_method_14_code 226 = .ok (.invokevirtual 152, 3) := by decide +kernel
theorem jd_101_229 : decode prog_10_method_14_code 229 = .ok (.aload_n 0, 1) := by decide +kernel
theorem jd_101_230 : decode prog_10_method_14_code 230 = .ok (.iload_n 1, 1) := by decide +kernel
theorem jd_101_231 : decode prog_10_method_14_code 231 = .ok (.iconst 1, 1) := by decide +kernel
theorem jd_101_232 : decode prog_10_method_14_code 232 = .ok (.iadd, 1) := by decide +kernel
theorem jd_101_233 : decode prog_10_method_14_code 233 = .ok (.putfield 135, 3) := by decide +kernel
theorem jd_101_236 : decode prog_10_method_14_code 236 = .ok (.goto 27, 3) := by decide +kernel
theorem jd_101_239 : decode prog_10_method_14_code 239 = .ok (.iload_n 2, 1) := by decide +kernel
theorem jd_101_240 : decode prog_10_method_14_code 240 = .ok (.bipush 7, 2) := by decide +kernel
theorem jd_101_242 : decode prog_10_method_14_code 242 = .ok (.if_icmp .ne 8, 3) := by decide +kernel
theorem jd_101_245 : decode prog_10_method_14_code 245 = .ok (.aload_n 0, 1) := by decide +kernel
theorem jd_101_246 : decode prog_10_method_14_code 246 = .ok (.invokevirtual 159, 3) := by decide +kernel
theorem jd_101_249 : decode prog_10_method_14_code 249 = .ok (.ireturn, 1) := by decide +kernel
theorem jd_101_250 : decode prog_10_method_14_code 250 = .ok (.aload_n 0, 1) := by decide +kernel
theorem jd_101_251 : decode prog_10_method_14_code 251 = .ok (.aload_n 0, 1) := by decide +kernel
theorem jd_101_252 : decode prog_10_method_14_code 252 = .ok (.iconst 2, 1) := by decide +kernel
theorem jd_101_253 : decode prog_10_method_14_code 253 = .ok (.iconst 0, 1) := by decide +kernel
theorem jd_101_254 : decode prog_10_method_14_code 254 = .ok (.iconst 0, 1) := by decide +kernel
theorem jd_101_255 : decode prog_10_method_14_code 255 = .ok (.iconst 0, 1) := by decide +kernel
theorem jd_101_256 : decode prog_10_method_14_code 256 = .ok (.iconst 0, 1) := by decide +kernel
theorem jd_101_257 : decode prog_10_method_14_code 257 = .ok (.invokevirtual 122, 3) := by decide +kernel
theorem jd_101_260 : decode prog_10_method_14_code 260 = .ok (.putfield 145, 3) := by decide +kernel
theorem jd_101_263 : decode prog_10_method_14_code 263 = .ok (.iconst 1, 1) := by decide +kernel
theorem jd_101_264 : decode prog_10_method_14_code 264 = .ok (.ireturn, 1) := by decide +kernel
def jt_101 (pc : Nat) : jx_Sp := bif Nat.ble pc 134 then (bif Nat.ble pc 66 then (bif Nat.ble pc 32 then (bif Nat.ble pc 14 then (bif Nat.ble pc 9 then (bif Nat.ble pc 4 then (bif Nat.ble pc 1 then (bif Nat.ble pc 0 then (bif Nat.beq pc 0 then js_al 0 1 else js_none) else (bif Nat.beq pc 1 then js_getf 8 18 else js_none)) else (bif Nat.beq pc 4 then js_is 1 1 else js_none)) else (bif Nat.ble pc 6 then (bif Nat.ble pc 5 then (bif Nat.beq pc 5 then js_al 0 1 else js_none) else (bif Nat.beq pc 6 then js_getf 8 1 else js_none)) else (bif Nat.beq pc 9 then js_il 1 1 else js_none))) else (bif Nat.ble pc 12 then (bif Nat.ble pc 11 then (bif Nat.ble pc 10 then (bif Nat.beq pc 10 then js_ald else js_none) else (bif Nat.beq pc 11 then js_is 2 1 else js_none)) else (bif Nat.beq pc 12 then js_al 0 1 else js_none)) else (bif Nat.ble pc 13 then (bif Nat.beq pc 13 then js_c 1 1 else js_none) else (bif Nat.beq pc 14 then js_v1 8 98 else js_none)))) else (bif Nat.ble pc 23 then (bif Nat.ble pc 21 then (bif Nat.ble pc 20 then (bif Nat.ble pc 17 then (bif Nat.beq pc 17 then js_ifne 22 else js_none) else (bif Nat.beq pc 20 then js_c 0 1 else js_none)) else (bif Nat.beq pc 21 then js_zr else js_none)) else (bif Nat.ble pc 22 then (bif Nat.beq pc 22 then js_al 0 1 else js_none) else (bif Nat.beq pc 23 then js_c (-1) 1 else js_none))) else (bif Nat.ble pc 28 then (bif Nat.ble pc 27 then (bif Nat.ble pc 24 then (bif Nat.beq pc 24 then js_putf 8 18 false else js_none) else (bif Nat.beq pc 27 then js_il 2 1 else js_none)) else (bif Nat.beq pc 28 then js_ifne 77 else js_none)) else (bif Nat.ble pc 31 then (bif Nat.beq pc 31 then js_al 0 1 else js_none) else (bif Nat.beq pc 32 then js_getf 8 19 else js_none))))) else (bif Nat.ble pc 48 then (bif Nat.ble pc 41 then (bif Nat.ble pc 37 then (bif Nat.ble pc 36 then (bif Nat.ble pc 35 then (bif Nat.beq pc 35 then js_is 3 1 else js_none) else (bif Nat.beq pc 36 then js_al 0 1 else js_none)) else (bif Nat.beq pc 37 then js_getf 8 1 else js_none)) else (bif Nat.ble pc 40 then (bif Nat.beq pc 40 then js_il 1 1 else js_none) else (bif Nat.beq pc 41 then js_c 1 1 else js_none))) else (bif Nat.ble pc 44 then (bif Nat.ble pc 43 then (bif Nat.ble pc 42 then (bif Nat.beq pc 42 then js_iadd else js_none) else (bif Nat.beq pc 43 then js_ald else js_none)) else (bif Nat.beq pc 44 then js_is 4 2 else js_none)) else (bif Nat.ble pc 46 then (bif Nat.beq pc 46 then js_il 4 2 else js_none) else (bif Nat.beq pc 48 then js_ifle 64 else js_none)))) else (bif Nat.ble pc 57 then (bif Nat.ble pc 55 then (bif Nat.ble pc 52 then (bif Nat.ble pc 51 then (bif Nat.beq pc 51 then js_al 0 1 else js_none) else (bif Nat.beq pc 52 then js_getf 8 13 else js_none)) else (bif Nat.beq pc 55 then js_il 3 1 else js_none)) else (bif Nat.ble pc 56 then (bif Nat.beq pc 56 then js_ald else js_none) else (bif Nat.beq pc 57 then js_is 3 1 else js_none))) else (bif Nat.ble pc 64 then (bif Nat.ble pc 61 then (bif Nat.ble pc 58 then (bif Nat.beq pc 58 then js_inc 4 (-1) else js_none) else (bif Nat.beq pc 61 then js_go 46 else js_none)) else (bif Nat.beq pc 64 then js_al 0 1 else js_none)) else (bif Nat.ble pc 65 then (bif Nat.beq pc 65 then js_al 0 1 else js_none) else (bif Nat.beq pc 66 then js_getf 8 12 else js_none)))))) else (bif Nat.ble pc 100 then (bif Nat.ble pc 84 then (bif Nat.ble pc 77 then (bif Nat.ble pc 71 then (bif Nat.ble pc 70 then (bif Nat.ble pc 69 then (bif Nat.beq pc 69 then js_il 3 1 else js_none) else (bif Nat.beq pc 70 then js_ald else js_none)) else (bif Nat.beq pc 71 then js_putf 8 20 false else js_none)) else (bif Nat.ble pc 74 then (bif Nat.beq pc 74 then js_go 263 else js_none) else (bif Nat.beq pc 77 then js_il 2 1 else js_none))) else (bif Nat.ble pc 82 then (bif Nat.ble pc 79 then (bif Nat.ble pc 78 then (bif Nat.beq pc 78 then js_c 1 1 else js_none) else (bif Nat.beq pc 79 then js_cne 103 else js_none)) else (bif Nat.beq pc 82 then js_al 0 1 else js_none)) else (bif Nat.ble pc 83 then (bif Nat.beq pc 83 then js_al 0 1 else js_none) else (bif Nat.beq pc 84 then js_c 3 1 else js_none)))) else (bif Nat.ble pc 89 then (bif Nat.ble pc 87 then (bif Nat.ble pc 86 then (bif Nat.ble pc 85 then (bif Nat.beq pc 85 then js_il 1 1 else js_none) else (bif Nat.beq pc 86 then js_c 1 1 else js_none)) else (bif Nat.beq pc 87 then js_iadd else js_none)) else (bif Nat.ble pc 88 then (bif Nat.beq pc 88 then js_al 0 1 else js_none) else (bif Nat.beq pc 89 then js_getf 8 19 else js_none))) else (bif Nat.ble pc 94 then (bif Nat.ble pc 93 then (bif Nat.ble pc 92 then (bif Nat.beq pc 92 then js_c 0 1 else js_none) else (bif Nat.beq pc 93 then js_c 0 1 else js_none)) else (bif Nat.beq pc 94 then js_v5 8 94 else js_none)) else (bif Nat.ble pc 97 then (bif Nat.beq pc 97 then js_putf 8 20 false else js_none) else (bif Nat.beq pc 100 then js_go 263 else js_none))))) else (bif Nat.ble pc 114 then (bif Nat.ble pc 109 then (bif Nat.ble pc 105 then (bif Nat.ble pc 104 then (bif Nat.ble pc 103 then (bif Nat.beq pc 103 then js_il 2 1 else js_none) else (bif Nat.beq pc 104 then js_c 2 1 else js_none)) else (bif Nat.beq pc 105 then js_cne 134 else js_none)) else (bif Nat.ble pc 108 then (bif Nat.beq pc 108 then js_al 0 1 else js_none) else (bif Nat.beq pc 109 then js_c 1 1 else js_none))) else (bif Nat.ble pc 112 then (bif Nat.ble pc 111 then (bif Nat.ble pc 110 then (bif Nat.beq pc 110 then js_al 0 1 else js_none) else (bif Nat.beq pc 111 then js_il 1 1 else js_none)) else (bif Nat.beq pc 112 then js_c 1 1 else js_none)) else (bif Nat.ble pc 113 then (bif Nat.beq pc 113 then js_iadd else js_none) else (bif Nat.beq pc 114 then js_v1 8 93 else js_none)))) else (bif Nat.ble pc 125 then (bif Nat.ble pc 121 then (bif Nat.ble pc 118 then (bif Nat.ble pc 117 then (bif Nat.beq pc 117 then js_al 0 1 else js_none) else (bif Nat.beq pc 118 then js_getf 8 19 else js_none)) else (bif Nat.beq pc 121 then js_v3 8 100 else js_none)) else (bif Nat.ble pc 124 then (bif Nat.beq pc 124 then js_al 0 1 else js_none) else (bif Nat.beq pc 125 then js_il 1 1 else js_none))) else (bif Nat.ble pc 128 then (bif Nat.ble pc 127 then (bif Nat.ble pc 126 then (bif Nat.beq pc 126 then js_c 1 1 else js_none) else (bif Nat.beq pc 127 then js_iadd else js_none)) else (bif Nat.beq pc 128 then js_putf 8 18 false else js_none)) else (bif Nat.ble pc 131 then (bif Nat.beq pc 131 then js_go 263 else js_none) else (bif Nat.beq pc 134 then js_il 2 1 else js_none))))))) else (bif Nat.ble pc 198 then (bif Nat.ble pc 168 then (bif Nat.ble pc 148 then (bif Nat.ble pc 141 then (bif Nat.ble pc 139 then (bif Nat.ble pc 136 then (bif Nat.ble pc 135 then (bif Nat.beq pc 135 then js_c 3 1 else js_none) else (bif Nat.beq pc 136 then js_cne 162 else js_none)) else (bif Nat.beq pc 139 then js_al 0 1 else js_none)) else (bif Nat.ble pc 140 then (bif Nat.beq pc 140 then js_al 0 1 else js_none) else (bif Nat.beq pc 141 then js_al 0 1 else js_none))) else (bif Nat.ble pc 146 then (bif Nat.ble pc 145 then (bif Nat.ble pc 142 then (bif Nat.beq pc 142 then js_getf 8 1 else js_none) else (bif Nat.beq pc 145 then js_il 1 1 else js_none)) else (bif Nat.beq pc 146 then js_c 1 1 else js_none)) else (bif Nat.ble pc 147 then (bif Nat.beq pc 147 then js_iadd else js_none) else (bif Nat.beq pc 148 then js_ald else js_none)))) else (bif Nat.ble pc 159 then (bif Nat.ble pc 153 then (bif Nat.ble pc 152 then (bif Nat.ble pc 149 then (bif Nat.beq pc 149 then js_c 128 3 else js_none) else (bif Nat.beq pc 152 then js_isub else js_none)) else (bif Nat.beq pc 153 then js_v1 8 95 else js_none)) else (bif Nat.ble pc 156 then (bif Nat.beq pc 156 then js_putf 8 20 false else js_none) else (bif Nat.beq pc 159 then js_go 263 else js_none))) else (bif Nat.ble pc 164 then (bif Nat.ble pc 163 then (bif Nat.ble pc 162 then (bif Nat.beq pc 162 then js_il 2 1 else js_none) else (bif Nat.beq pc 163 then js_c 4 1 else js_none)) else (bif Nat.beq pc 164 then js_cne 190 else js_none)) else (bif Nat.ble pc 167 then (bif Nat.beq pc 167 then js_al 0 1 else js_none) else (bif Nat.beq pc 168 then js_al 0 1 else js_none))))) else (bif Nat.ble pc 180 then (bif Nat.ble pc 175 then (bif Nat.ble pc 171 then (bif Nat.ble pc 170 then (bif Nat.ble pc 169 then (bif Nat.beq pc 169 then js_c 5 1 else js_none) else (bif Nat.beq pc 170 then js_al 0 1 else js_none)) else (bif Nat.beq pc 171 then js_getf 8 1 else js_none)) else (bif Nat.ble pc 174 then (bif Nat.beq pc 174 then js_il 1 1 else js_none) else (bif Nat.beq pc 175 then js_c 1 1 else js_none))) else (bif Nat.ble pc 178 then (bif Nat.ble pc 177 then (bif Nat.ble pc 176 then (bif Nat.beq pc 176 then js_iadd else js_none) else (bif Nat.beq pc 177 then js_ald else js_none)) else (bif Nat.beq pc 178 then js_c 0 1 else js_none)) else (bif Nat.ble pc 179 then (bif Nat.beq pc 179 then js_c 0 1 else js_none) else (bif Nat.beq pc 180 then js_c 0 1 else js_none)))) else (bif Nat.ble pc 191 then (bif Nat.ble pc 187 then (bif Nat.ble pc 184 then (bif Nat.ble pc 181 then (bif Nat.beq pc 181 then js_v5 8 94 else js_none) else (bif Nat.beq pc 184 then js_putf 8 20 false else js_none)) else (bif Nat.beq pc 187 then js_go 263 else js_none)) else (bif Nat.ble pc 190 then (bif Nat.beq pc 190 then js_il 2 1 else js_none) else (bif Nat.beq pc 191 then js_c 5 1 else js_none))) else (bif Nat.ble pc 196 then (bif Nat.ble pc 195 then (bif Nat.ble pc 192 then (bif Nat.beq pc 192 then js_cne 216 else js_none) else (bif Nat.beq pc 195 then js_al 0 1 else js_none)) else (bif Nat.beq pc 196 then js_al 0 1 else js_none)) else (bif Nat.ble pc 197 then (bif Nat.beq pc 197 then js_c 4 1 else js_none) else (bif Nat.beq pc 198 then js_il 1 1 else js_none)))))) else (bif Nat.ble pc 231 then (bif Nat.ble pc 216 then (bif Nat.ble pc 205 then (bif Nat.ble pc 201 then (bif Nat.ble pc 200 then (bif Nat.ble pc 199 then (bif Nat.beq pc 199 then js_c 1 1 else js_none) else (bif Nat.beq pc 200 then js_iadd else js_none)) else (bif Nat.beq pc 201 then js_al 0 1 else js_none)) else (bif Nat.ble pc 202 then (bif Nat.beq pc 202 then js_getf 8 19 else js_none) else (bif Nat.beq pc 205 then js_c 0 1 else js_none))) else (bif Nat.ble pc 210 then (bif Nat.ble pc 207 then (bif Nat.ble pc 206 then (bif Nat.beq pc 206 then js_c 0 1 else js_none) else (bif Nat.beq pc 207 then js_v5 8 94 else js_none)) else (bif Nat.beq pc 210 then js_putf 8 20 false else js_none)) else (bif Nat.ble pc 213 then (bif Nat.beq pc 213 then js_go 263 else js_none) else (bif Nat.beq pc 216 then js_il 2 1 else js_none)))) else (bif Nat.ble pc 224 then (bif Nat.ble pc 222 then (bif Nat.ble pc 219 then (bif Nat.ble pc 217 then (bif Nat.beq pc 217 then js_c 6 2 else js_none) else (bif Nat.beq pc 219 then js_cne 239 else js_none)) else (bif Nat.beq pc 222 then js_al 0 1 else js_none)) else (bif Nat.ble pc 223 then (bif Nat.beq pc 223 then js_c 0 1 else js_none) else (bif Nat.beq pc 224 then js_c 0 1 else js_none))) else (bif Nat.ble pc 229 then (bif Nat.ble pc 226 then (bif Nat.ble pc 225 then (bif Nat.beq pc 225 then js_c 0 1 else js_none) else (bif Nat.beq pc 226 then js_v3 8 100 else js_none)) else (bif Nat.beq pc 229 then js_al 0 1 else js_none)) else (bif Nat.ble pc 230 then (bif Nat.beq pc 230 then js_il 1 1 else js_none) else (bif Nat.beq pc 231 then js_c 1 1 else js_none))))) else (bif Nat.ble pc 250 then (bif Nat.ble pc 240 then (bif Nat.ble pc 236 then (bif Nat.ble pc 233 then (bif Nat.ble pc 232 then (bif Nat.beq pc 232 then js_iadd else js_none) else (bif Nat.beq pc 233 then js_putf 8 18 false else js_none)) else (bif Nat.beq pc 236 then js_go 263 else js_none)) else (bif Nat.ble pc 239 then (bif Nat.beq pc 239 then js_il 2 1 else js_none) else (bif Nat.beq pc 240 then js_c 7 2 else js_none))) else (bif Nat.ble pc 246 then (bif Nat.ble pc 245 then (bif Nat.ble pc 242 then (bif Nat.beq pc 242 then js_cne 250 else js_none) else (bif Nat.beq pc 245 then js_al 0 1 else js_none)) else (bif Nat.beq pc 246 then js_v0 8 99 else js_none)) else (bif Nat.ble pc 249 then (bif Nat.beq pc 249 then js_zr else js_none) else (bif Nat.beq pc 250 then js_al 0 1 else js_none)))) else (bif Nat.ble pc 255 then (bif Nat.ble pc 253 then (bif Nat.ble pc 252 then (bif Nat.ble pc 251 then (bif Nat.beq pc 251 then js_al 0 1 else js_none) else (bif Nat.beq pc 252 then js_c 2 1 else js_none)) else (bif Nat.beq pc 253 then js_c 0 1 else js_none)) else (bif Nat.ble pc 254 then (bif Nat.beq pc 254 then js_c 0 1 else js_none) else (bif Nat.beq pc 255 then js_c 0 1 else js_none))) else (bif Nat.ble pc 260 then (bif Nat.ble pc 257 then (bif Nat.ble pc 256 then (bif Nat.beq pc 256 then js_c 0 1 else js_none) else (bif Nat.beq pc 257 then js_v5 8 94 else js_none)) else (bif Nat.beq pc 260 then js_putf 8 20 false else js_none)) else (bif Nat.ble pc 263 then (bif Nat.beq pc 263 then js_c 1 1 else js_none) else (bif Nat.beq pc 264 then js_zr else js_none)))))))
theorem jk_101_0 : jx_Snd 101 0 (js_al 0 1) := jo_aload_n (i := 0) (w := 0) rfl jd_101_0
theorem jk_101_1 : jx_Snd 101 1 (js_getf 8 18) := jo_getf rfl jf_8_135 jd_101_1
theorem jk_101_4 : jx_Snd 101 4 (js_is 1 1) := jo_istore_n (i := 1) (w := 1) rfl (Nat.le_of_ble_eq_true rfl) jd_101_4
theorem jk_101_5 : jx_Snd 101 5 (js_al 0 1) := jo_aload_n (i := 0) (w := 0) rfl jd_101_5
theorem jk_101_6 : jx_Snd 101 6 (js_getf 8 1) := jo_getf rfl jf_8_7 jd_101_6
theorem jk_101_9 : jx_Snd 101 9 (js_il 1 1) := jo_iload_n (i := 1) (w := 1) rfl jd_101_9
theorem jk_101_10 : jx_Snd 101 10 (js_ald) := jo_ald jd_101_10
theorem jk_101_11 : jx_Snd 101 11 (js_is 2 1) := jo_istore_n (i := 2) (w := 2) rfl (Nat.le_of_ble_eq_true rfl) jd_101_11
theorem jk_101_12 : jx_Snd 101 12 (js_al 0 1) := jo_aload_n (i := 0) (w := 0) rfl jd_101_12
theorem jk_101_13 : jx_Snd 101 13 (js_c 1 1) := jo_iconst (z := 1) jd_101_13 rfl
theorem jk_101_14 : jx_Snd 101 14 (js_v1 8 98) := jo_v1 rfl jok_98 (Or.inl jw_550) jw_551 jw_720 rfl jd_101_14
theorem jk_101_17 : jx_Snd 101 17 (js_ifne 22) := jo_ifne (o := 5) rfl jd_101_17
theorem jk_101_20 : jx_Snd 101 20 (js_c 0 1) := jo_iconst (z := 0) jd_101_20 rfl
theorem jk_101_21 : jx_Snd 101 21 (js_zr) := jo_zr rfl jd_101_21
theorem jk_101_22 : jx_Snd 101 22 (js_al 0 1) := jo_aload_n (i := 0) (w := 0) rfl jd_101_22
theorem jk_101_23 : jx_Snd 101 23 (js_c (-1) 1) := jo_iconst (z := (-1)) jd_101_23 rfl
theorem jk_101_24 : jx_Snd 101 24 (js_putf 8 18 false) := jo_putf (z := false) rfl jf_8_135 (fun C T N h => by cases h; rfl) jd_101_24
theorem jk_101_27 : jx_Snd 101 27 (js_il 2 1) := jo_iload_n (i := 2) (w := 2) rfl jd_101_27
theorem jk_101_28 : jx_Snd 101 28 (js_ifne 77) := jo_ifne (o := 49) rfl jd_101_28
theorem jk_101_31 : jx_Snd 101 31 (js_al 0 1) := jo_aload_n (i := 0) (w := 0) rfl jd_101_31
theorem jk_101_32 : jx_Snd 101 32 (js_getf 8 19) := jo_getf rfl jf_8_142 jd_101_32
theorem jk_101_35 : jx_Snd 101 35 (js_is 3 1) := jo_istore_n (i := 3) (w := 3) rfl (Nat.le_of_ble_eq_true rfl) jd_101_35
theorem jk_101_36 : jx_Snd 101 36 (js_al 0 1) := jo_aload_n (i := 0) (w := 0) rfl jd_101_36
theorem jk_101_37 : jx_Snd 101 37 (js_getf 8 1) := jo_getf rfl jf_8_7 jd_101_37
theorem jk_101_40 : jx_Snd 101 40 (js_il 1 1) := jo_iload_n (i := 1) (w := 1) rfl jd_101_40
theorem jk_101_41 : jx_Snd 101 41 (js_c 1 1) := jo_iconst (z := 1) jd_101_41 rfl
theorem jk_101_42 : jx_Snd 101 42 (js_iadd) := jo_iadd jd_101_42
theorem jk_101_43 : jx_Snd 101 43 (js_ald) := jo_ald jd_101_43
theorem jk_101_44 : jx_Snd 101 44 (js_is 4 2) := jo_istore (i := 4) (Nat.le_of_ble_eq_true rfl) jd_101_44
theorem jk_101_46 : jx_Snd 101 46 (js_il 4 2) := jo_iload (i := 4) jd_101_46
theorem jk_101_48 : jx_Snd 101 48 (js_ifle 64) := jo_ifle (o := 16) rfl jd_101_48
theorem jk_101_51 : jx_Snd 101 51 (js_al 0 1) := jo_aload_n (i := 0) (w := 0) rfl jd_101_51
theorem jk_101_52 : jx_Snd 101 52 (js_getf 8 13) := jo_getf rfl jf_8_37 jd_101_52
theorem jk_101_55 : jx_Snd 101 55 (js_il 3 1) := jo_iload_n (i := 3) (w := 3) rfl jd_101_55
theorem jk_101_56 : jx_Snd 101 56 (js_ald) := jo_ald jd_101_56
theorem jk_101_57 : jx_Snd 101 57 (js_is 3 1) := jo_istore_n (i := 3) (w := 3) rfl (Nat.le_of_ble_eq_true rfl) jd_101_57
theorem jk_101_58 : jx_Snd 101 58 (js_inc 4 (-1)) := jo_iinc (w := (-1)) rfl (Nat.le_of_ble_eq_true rfl) jd_101_58
theorem jk_101_61 : jx_Snd 101 61 (js_go 46) := jo_goto (o := (-15)) rfl jd_101_61
theorem jk_101_64 : jx_Snd 101 64 (js_al 0 1) := jo_aload_n (i := 0) (w := 0) rfl jd_101_64
theorem jk_101_65 : jx_Snd 101 65 (js_al 0 1) := jo_aload_n (i := 0) (w := 0) rfl jd_101_65
theorem jk_101_66 : jx_Snd 101 66 (js_getf 8 12) := jo_getf rfl jf_8_34 jd_101_66
theorem jk_101_69 : jx_Snd 101 69 (js_il 3 1) := jo_iload_n (i := 3) (w := 3) rfl jd_101_69
theorem jk_101_70 : jx_Snd 101 70 (js_ald) := jo_ald jd_101_70
theorem jk_101_71 : jx_Snd 101 71 (js_putf 8 20 false) := jo_putf (z := false) rfl jf_8_145 (fun C T N h => by cases h; rfl) jd_101_71
theorem jk_101_74 : jx_Snd 101 74 (js_go 263) := jo_goto (o := 189) rfl jd_101_74
theorem jk_101_77 : jx_Snd 101 77 (js_il 2 1) := jo_iload_n (i := 2) (w := 2) rfl jd_101_77
theorem jk_101_78 : jx_Snd 101 78 (js_c 1 1) := jo_iconst (z := 1) jd_101_78 rfl
theorem jk_101_79 : jx_Snd 101 79 (js_cne 103) := jo_cne (o := 24) rfl jd_101_79
theorem jk_101_82 : jx_Snd 101 82 (js_al 0 1) := jo_aload_n (i := 0) (w := 0) rfl jd_101_82
theorem jk_101_83 : jx_Snd 101 83 (js_al 0 1) := jo_aload_n (i := 0) (w := 0) rfl jd_101_83
theorem jk_101_84 : jx_Snd 101 84 (js_c 3 1) := jo_iconst (z := 3) jd_101_84 rfl
theorem jk_101_85 : jx_Snd 101 85 (js_il 1 1) := jo_iload_n (i := 1) (w := 1) rfl jd_101_85
theorem jk_101_86 : jx_Snd 101 86 (js_c 1 1) := jo_iconst (z := 1) jd_101_86 rfl
theorem jk_101_87 : jx_Snd 101 87 (js_iadd) := jo_iadd jd_101_87
theorem jk_101_88 : jx_Snd 101 88 (js_al 0 1) := jo_aload_n (i := 0) (w := 0) rfl jd_101_88
theorem jk_101_89 : jx_Snd 101 89 (js_getf 8 19) := jo_getf rfl jf_8_142 jd_101_89
theorem jk_101_92 : jx_Snd 101 92 (js_c 0 1) := jo_iconst (z := 0) jd_101_92 rfl
theorem jk_101_93 : jx_Snd 101 93 (js_c 0 1) := jo_iconst (z := 0) jd_101_93 rfl
theorem jk_101_94 : jx_Snd 101 94 (js_v5 8 94) := jo_v5 rfl jok_94 (Or.inl jw_538) jw_539 jw_716 rfl jd_101_94
theorem jk_101_97 : jx_Snd 101 97 (js_putf 8 20 false) := jo_putf (z := false) rfl jf_8_145 (fun C T N h => by cases h; rfl) jd_101_97
theorem jk_101_100 : jx_Snd 101 100 (js_go 263) := jo_goto (o := 163) rfl jd_101_100
theorem jk_101_103 : jx_Snd 101 103 (js_il 2 1) := jo_iload_n (i := 2) (w := 2) rfl jd_101_103
theorem jk_101_104 : jx_Snd 101 104 (js_c 2 1) := jo_iconst (z := 2) jd_101_104 rfl
theorem jk_101_105 : jx_Snd 101 105 (js_cne 134) := jo_cne (o := 29) rfl jd_101_105
theorem jk_101_108 : jx_Snd 101 108 (js_al 0 1) := jo_aload_n (i := 0) (w := 0) rfl jd_101_108
theorem jk_101_109 : jx_Snd 101 109 (js_c 1 1) := jo_iconst (z := 1) jd_101_109 rfl
theorem jk_101_110 : jx_Snd 101 110 (js_al 0 1) := jo_aload_n (i := 0) (w := 0) rfl jd_101_110
theorem jk_101_111 : jx_Snd 101 111 (js_il 1 1) := jo_iload_n (i := 1) (w := 1) rfl jd_101_111
theorem jk_101_112 : jx_Snd 101 112 (js_c 1 1) := jo_iconst (z := 1) jd_101_112 rfl
theorem jk_101_113 : jx_Snd 101 113 (js_iadd) := jo_iadd jd_101_113
theorem jk_101_114 : jx_Snd 101 114 (js_v1 8 93) := jo_v1 rfl jok_93 (Or.inl jw_553) jw_554 jw_721 rfl jd_101_114
theorem jk_101_117 : jx_Snd 101 117 (js_al 0 1) := jo_aload_n (i := 0) (w := 0) rfl jd_101_117
theorem jk_101_118 : jx_Snd 101 118 (js_getf 8 19) := jo_getf rfl jf_8_142 jd_101_118
theorem jk_101_121 : jx_Snd 101 121 (js_v3 8 100) := jo_v3 rfl jok_100 (Or.inl jw_544) jw_545 jw_718 rfl jd_101_121
theorem jk_101_124 : jx_Snd 101 124 (js_al 0 1) := jo_aload_n (i := 0) (w := 0) rfl jd_101_124
theorem jk_101_125 : jx_Snd 101 125 (js_il 1 1) := jo_iload_n (i := 1) (w := 1) rfl jd_101_125
theorem jk_101_126 : jx_Snd 101 126 (js_c 1 1) := jo_iconst (z := 1) jd_101_126 rfl
theorem jk_101_127 : jx_Snd 101 127 (js_iadd) := jo_iadd jd_101_127
theorem jk_101_128 : jx_Snd 101 128 (js_putf 8 18 false) := jo_putf (z := false) rfl jf_8_135 (fun C T N h => by cases h; rfl) jd_101_128
theorem jk_101_131 : jx_Snd 101 131 (js_go 263) := jo_goto (o := 132) rfl jd_101_131
theorem jk_101_134 : jx_Snd 101 134 (js_il 2 1) := jo_iload_n (i := 2) (w := 2) rfl jd_101_134
theorem jk_101_135 : jx_Snd 101 135 (js_c 3 1) := jo_iconst (z := 3) jd_101_135 rfl
theorem jk_101_136 : jx_Snd 101 136 (js_cne 162) := jo_cne (o := 26) rfl jd_101_136
theorem jk_101_139 : jx_Snd 101 139 (js_al 0 1) := jo_aload_n (i := 0) (w := 0) rfl jd_101_139
theorem jk_101_140 : jx_Snd 101 140 (js_al 0 1) := jo_aload_n (i := 0) (w := 0) rfl jd_101_140
theorem jk_101_141 : jx_Snd 101 141 (js_al 0 1) := jo_aload_n (i := 0) (w := 0) rfl jd_101_141
theorem jk_101_142 : jx_Snd 101 142 (js_getf 8 1) := jo_getf rfl jf_8_7 jd_101_142
theorem jk_101_145 : jx_Snd 101 145 (js_il 1 1) := jo_iload_n (i := 1) (w := 1) rfl jd_101_145
theorem jk_101_146 : jx_Snd 101 146 (js_c 1 1) := jo_iconst (z := 1) jd_101_146 rfl
theorem jk_101_147 : jx_Snd 101 147 (js_iadd) := jo_iadd jd_101_147
theorem jk_101_148 : jx_Snd 101 148 (js_ald) := jo_ald jd_101_148
theorem jk_101_149 : jx_Snd 101 149 (js_c 128 3) := jo_sipush (z := 128) jd_101_149 (by decide +kernel)
theorem jk_101_152 : jx_Snd 101 152 (js_isub) := jo_isub jd_101_152
theorem jk_101_153 : jx_Snd 101 153 (js_v1 8 95) := jo_v1 rfl jok_95 (Or.inl jw_535) jw_536 jw_715 rfl jd_101_153
theorem jk_101_156 : jx_Snd 101 156 (js_putf 8 20 false) := jo_putf (z := false) rfl jf_8_145 (fun C T N h => by cases h; rfl) jd_101_156
theorem jk_101_159 : jx_Snd 101 159 (js_go 263) := jo_goto (o := 104) rfl jd_101_159
theorem jk_101_162 : jx_Snd 101 162 (js_il 2 1) := jo_iload_n (i := 2) (w := 2) rfl jd_101_162
theorem jk_101_163 : jx_Snd 101 163 (js_c 4 1) := jo_iconst (z := 4) jd_101_163 rfl
theorem jk_101_164 : jx_Snd 101 164 (js_cne 190) := jo_cne (o := 26) rfl jd_101_164
theorem jk_101_167 : jx_Snd 101 167 (js_al 0 1) := jo_aload_n (i := 0) (w := 0) rfl jd_101_167
theorem jk_101_168 : jx_Snd 101 168 (js_al 0 1) := jo_aload_n (i := 0) (w := 0) rfl jd_101_168
theorem jk_101_169 : jx_Snd 101 169 (js_c 5 1) := jo_iconst (z := 5) jd_101_169 rfl
theorem jk_101_170 : jx_Snd 101 170 (js_al 0 1) := jo_aload_n (i := 0) (w := 0) rfl jd_101_170
theorem jk_101_171 : jx_Snd 101 171 (js_getf 8 1) := jo_getf rfl jf_8_7 jd_101_171
theorem jk_101_174 : jx_Snd 101 174 (js_il 1 1) := jo_iload_n (i := 1) (w := 1) rfl jd_101_174
theorem jk_101_175 : jx_Snd 101 175 (js_c 1 1) := jo_iconst (z := 1) jd_101_175 rfl
theorem jk_101_176 : jx_Snd 101 176 (js_iadd) := jo_iadd jd_101_176
theorem jk_101_177 : jx_Snd 101 177 (js_ald) := jo_ald jd_101_177
theorem jk_101_178 : jx_Snd 101 178 (js_c 0 1) := jo_iconst (z := 0) jd_101_178 rfl
theorem jk_101_179 : jx_Snd 101 179 (js_c 0 1) := jo_iconst (z := 0) jd_101_179 rfl
theorem jk_101_180 : jx_Snd 101 180 (js_c 0 1) := jo_iconst (z := 0) jd_101_180 rfl
theorem jk_101_181 : jx_Snd 101 181 (js_v5 8 94) := jo_v5 rfl jok_94 (Or.inl jw_538) jw_539 jw_716 rfl jd_101_181
theorem jk_101_184 : jx_Snd 101 184 (js_putf 8 20 false) := jo_putf (z := false) rfl jf_8_145 (fun C T N h => by cases h; rfl) jd_101_184
theorem jk_101_187 : jx_Snd 101 187 (js_go 263) := jo_goto (o := 76) rfl jd_101_187
theorem jk_101_190 : jx_Snd 101 190 (js_il 2 1) := jo_iload_n (i := 2) (w := 2) rfl jd_101_190
theorem jk_101_191 : jx_Snd 101 191 (js_c 5 1) := jo_iconst (z := 5) jd_101_191 rfl
theorem jk_101_192 : jx_Snd 101 192 (js_cne 216) := jo_cne (o := 24) rfl jd_101_192
theorem jk_101_195 : jx_Snd 101 195 (js_al 0 1) := jo_aload_n (i := 0) (w := 0) rfl jd_101_195
theorem jk_101_196 : jx_Snd 101 196 (js_al 0 1) := jo_aload_n (i := 0) (w := 0) rfl jd_101_196
theorem jk_101_197 : jx_Snd 101 197 (js_c 4 1) := jo_iconst (z := 4) jd_101_197 rfl
theorem jk_101_198 : jx_Snd 101 198 (js_il 1 1) := jo_iload_n (i := 1) (w := 1) rfl jd_101_198
theorem jk_101_199 : jx_Snd 101 199 (js_c 1 1) := jo_iconst (z := 1) jd_101_199 rfl
theorem jk_101_200 : jx_Snd 101 200 (js_iadd) := jo_iadd jd_101_200
theorem jk_101_201 : jx_Snd 101 201 (js_al 0 1) := jo_aload_n (i := 0) (w := 0) rfl jd_101_201
theorem jk_101_202 : jx_Snd 101 202 (js_getf 8 19) := jo_getf rfl jf_8_142 jd_101_202
theorem jk_101_205 : jx_Snd 101 205 (js_c 0 1) := jo_iconst (z := 0) jd_101_205 rfl
theorem jk_101_206 : jx_Snd 101 206 (js_c 0 1) := jo_iconst (z := 0) jd_101_206 rfl
theorem jk_101_207 : jx_Snd 101 207 (js_v5 8 94) := jo_v5 rfl jok_94 (Or.inl jw_538) jw_539 jw_716 rfl jd_101_207
theorem jk_101_210 : jx_Snd 101 210 (js_putf 8 20 false) := jo_putf (z := false) rfl jf_8_145 (fun C T N h => by cases h; rfl) jd_101_210
theorem jk_101_213 : jx_Snd 101 213 (js_go 263) := jo_goto (o := 50) rfl jd_101_213
theorem jk_101_216 : jx_Snd 101 216 (js_il 2 1) := jo_iload_n (i := 2) (w := 2) rfl jd_101_216
theorem jk_101_217 : jx_Snd 101 217 (js_c 6 2) := jo_bipush (z := 6) jd_101_217 (by decide +kernel)
theorem jk_101_219 : jx_Snd 101 219 (js_cne 239) := jo_cne (o := 20) rfl jd_101_219
theorem jk_101_222 : jx_Snd 101 222 (js_al 0 1) := jo_aload_n (i := 0) (w := 0) rfl jd_101_222
theorem jk_101_223 : jx_Snd 101 223 (js_c 0 1) := jo_iconst (z := 0) jd_101_223 rfl
theorem jk_101_224 : jx_Snd 101 224 (js_c 0 1) := jo_iconst (z := 0) jd_101_224 rfl
theorem jk_101_225 : jx_Snd 101 225 (js_c 0 1) := jo_iconst (z := 0) jd_101_225 rfl
theorem jk_101_226 : jx_Snd 101 226 (js_v3 8 100) := jo_v3 rfl jok_100 (Or.inl jw_544) jw_545 jw_718 rfl jd_101_226
theorem jk_101_229 : jx_Snd 101 229 (js_al 0 1) := jo_aload_n (i := 0) (w := 0) rfl jd_101_229
theorem jk_101_230 : jx_Snd 101 230 (js_il 1 1) := jo_iload_n (i := 1) (w := 1) rfl jd_101_230
theorem jk_101_231 : jx_Snd 101 231 (js_c 1 1) := jo_iconst (z := 1) jd_101_231 rfl
theorem jk_101_232 : jx_Snd 101 232 (js_iadd) := jo_iadd jd_101_232
theorem jk_101_233 : jx_Snd 101 233 (js_putf 8 18 false) := jo_putf (z := false) rfl jf_8_135 (fun C T N h => by cases h; rfl) jd_101_233
theorem jk_101_236 : jx_Snd 101 236 (js_go 263) := jo_goto (o := 27) rfl jd_101_236
theorem jk_101_239 : jx_Snd 101 239 (js_il 2 1) := jo_iload_n (i := 2) (w := 2) rfl jd_101_239
theorem jk_101_240 : jx_Snd 101 240 (js_c 7 2) := jo_bipush (z := 7) jd_101_240 (by decide +kernel)
theorem jk_101_242 : jx_Snd 101 242 (js_cne 250) := jo_cne (o := 8) rfl jd_101_242
theorem jk_101_245 : jx_Snd 101 245 (js_al 0 1) := jo_aload_n (i := 0) (w := 0) rfl jd_101_245
theorem jk_101_246 : jx_Snd 101 246 (js_v0 8 99) := jo_v0 rfl jok_99 (Or.inl jw_556) jw_557 jw_722 rfl jd_101_246
theorem jk_101_249 : jx_Snd 101 249 (js_zr) := jo_zr rfl jd_101_249
theorem jk_101_250 : jx_Snd 101 250 (js_al 0 1) := jo_aload_n (i := 0) (w := 0) rfl jd_101_250
theorem jk_101_251 : jx_Snd 101 251 (js_al 0 1) := jo_aload_n (i := 0) (w := 0) rfl jd_101_251
theorem jk_101_252 : jx_Snd 101 252 (js_c 2 1) := jo_iconst (z := 2) jd_101_252 rfl
theorem jk_101_253 : jx_Snd 101 253 (js_c 0 1) := jo_iconst (z := 0) jd_101_253 rfl
theorem jk_101_254 : jx_Snd 101 254 (js_c 0 1) := jo_iconst (z := 0) jd_101_254 rfl
theorem jk_101_255 : jx_Snd 101 255 (js_c 0 1) := jo_iconst (z := 0) jd_101_255 rfl
theorem jk_101_256 : jx_Snd 101 256 (js_c 0 1) := jo_iconst (z := 0) jd_101_256 rfl
theorem jk_101_257 : jx_Snd 101 257 (js_v5 8 94) := jo_v5 rfl jok_94 (Or.inl jw_538) jw_539 jw_716 rfl jd_101_257
theorem jk_101_260 : jx_Snd 101 260 (js_putf 8 20 false) := jo_putf (z := false) rfl jf_8_145 (fun C T N h => by cases h; rfl) jd_101_260
theorem jk_101_263 : jx_Snd 101 263 (js_c 1 1) := jo_iconst (z := 1) jd_101_263 rfl
theorem jk_101_264 : jx_Snd 101 264 (js_zr) := jo_zr rfl jd_101_264
theorem jk_101 : jx_So 101 jt_101 := fun pc => jo_le (jo_le (jo_le (jo_le (jo_le (jo_le (jo_le (jo_le (jo_at (jk_101_0)) (jo_at (jk_101_1))) (jo_at (jk_101_4))) (jo_le (jo_le (jo_at (jk_101_5)) (jo_at (jk_101_6))) (jo_at (jk_101_9)))) (jo_le (jo_le (jo_le (jo_at (jk_101_10)) (jo_at (jk_101_11))) (jo_at (jk_101_12))) (jo_le (jo_at (jk_101_13)) (jo_at (jk_101_14))))) (jo_le (jo_le (jo_le (jo_le (jo_at (jk_101_17)) (jo_at (jk_101_20))) (jo_at (jk_101_21))) (jo_le (jo_at (jk_101_22)) (jo_at (jk_101_23)))) (jo_le (jo_le (jo_le (jo_at (jk_101_24)) (jo_at (jk_101_27))) (jo_at (jk_101_28))) (jo_le (jo_at (jk_101_31)) (jo_at (jk_101_32)))))) (jo_le (jo_le (jo_le (jo_le (jo_le (jo_at (jk_101_35)) (jo_at (jk_101_36))) (jo_at (jk_101_37))) (jo_le (jo_at (jk_101_40)) (jo_at (jk_101_41)))) (jo_le (jo_le (jo_le (jo_at (jk_101_42)) (jo_at (jk_101_43))) (jo_at (jk_101_44))) (jo_le (jo_at (jk_101_46)) (jo_at (jk_101_48))))) (jo_le (jo_le (jo_le (jo_le (jo_at (jk_101_51)) (jo_at (jk_101_52))) (jo_at (jk_101_55))) (jo_le (jo_at (jk_101_56)) (jo_at (jk_101_57)))) (jo_le (jo_le (jo_le (jo_at (jk_101_58)) (jo_at (jk_101_61))) (jo_at (jk_101_64))) (jo_le (jo_at (jk_101_65)) (jo_at (jk_101_66))))))) (jo_le (jo_le (jo_le (jo_le (jo_le (jo_le (jo_at (jk_101_69)) (jo_at (jk_101_70))) (jo_at (jk_101_71))) (jo_le (jo_at (jk_101_74)) (jo_at (jk_101_77)))) (jo_le (jo_le (jo_le (jo_at (jk_101_78)) (jo_at (jk_101_79))) (jo_at (jk_101_82))) (jo_le (jo_at (jk_101_83)) (jo_at (jk_101_84))))) (jo_le (jo_le (jo_le (jo_le (jo_at (jk_101_85)) (jo_at (jk_101_86))) (jo_at (jk_101_87))) (jo_le (jo_at (jk_101_88)) (jo_at (jk_101_89)))) (jo_le (jo_le (jo_le (jo_at (jk_101_92)) (jo_at (jk_101_93))) (jo_at (jk_101_94))) (jo_le (jo_at (jk_101_97)) (jo_at (jk_101_100)))))) (jo_le (jo_le (jo_le (jo_le (jo_le (jo_at (jk_101_103)) (jo_at (jk_101_104))) (jo_at (jk_101_105))) (jo_le (jo_at (jk_101_108)) (jo_at (jk_101_109)))) (jo_le (jo_le (jo_le (jo_at (jk_101_110)) (jo_at (jk_101_111))) (jo_at (jk_101_112))) (jo_le (jo_at (jk_101_113)) (jo_at (jk_101_114))))) (jo_le (jo_le (jo_le (jo_le (jo_at (jk_101_117)) (jo_at (jk_101_118))) (jo_at (jk_101_121))) (jo_le (jo_at (jk_101_124)) (jo_at (jk_101_125)))) (jo_le (jo_le (jo_le (jo_at (jk_101_126)) (jo_at (jk_101_127))) (jo_at (jk_101_128))) (jo_le (jo_at (jk_101_131)) (jo_at (jk_101_134)))))))) (jo_le (jo_le (jo_le (jo_le (jo_le (jo_le (jo_le (jo_at (jk_101_135)) (jo_at (jk_101_136))) (jo_at (jk_101_139))) (jo_le (jo_at (jk_101_140)) (jo_at (jk_101_141)))) (jo_le (jo_le (jo_le (jo_at (jk_101_142)) (jo_at (jk_101_145))) (jo_at (jk_101_146))) (jo_le (jo_at (jk_101_147)) (jo_at (jk_101_148))))) (jo_le (jo_le (jo_le (jo_le (jo_at (jk_101_149)) (jo_at (jk_101_152))) (jo_at (jk_101_153))) (jo_le (jo_at (jk_101_156)) (jo_at (jk_101_159)))) (jo_le (jo_le (jo_le (jo_at (jk_101_162)) (jo_at (jk_101_163))) (jo_at (jk_101_164))) (jo_le (jo_at (jk_101_167)) (jo_at (jk_101_168)))))) (jo_le (jo_le (jo_le (jo_le (jo_le (jo_at (jk_101_169)) (jo_at (jk_101_170))) (jo_at (jk_101_171))) (jo_le (jo_at (jk_101_174)) (jo_at (jk_101_175)))) (jo_le (jo_le (jo_le (jo_at (jk_101_176)) (jo_at (jk_101_177))) (jo_at (jk_101_178))) (jo_le (jo_at (jk_101_179)) (jo_at (jk_101_180))))) (jo_le (jo_le (jo_le (jo_le (jo_at (jk_101_181)) (jo_at (jk_101_184))) (jo_at (jk_101_187))) (jo_le (jo_at (jk_101_190)) (jo_at (jk_101_191)))) (jo_le (jo_le (jo_le (jo_at (jk_101_192)) (jo_at (jk_101_195))) (jo_at (jk_101_196))) (jo_le (jo_at (jk_101_197)) (jo_at (jk_101_198))))))) (jo_le (jo_le (jo_le (jo_le (jo_le (jo_le (jo_at (jk_101_199)) (jo_at (jk_101_200))) (jo_at (jk_101_201))) (jo_le (jo_at (jk_101_202)) (jo_at (jk_101_205)))) (jo_le (jo_le (jo_le (jo_at (jk_101_206)) (jo_at (jk_101_207))) (jo_at (jk_101_210))) (jo_le (jo_at (jk_101_213)) (jo_at (jk_101_216))))) (jo_le (jo_le (jo_le (jo_le (jo_at (jk_101_217)) (jo_at (jk_101_219))) (jo_at (jk_101_222))) (jo_le (jo_at (jk_101_223)) (jo_at (jk_101_224)))) (jo_le (jo_le (jo_le (jo_at (jk_101_225)) (jo_at (jk_101_226))) (jo_at (jk_101_229))) (jo_le (jo_at (jk_101_230)) (jo_at (jk_101_231)))))) (jo_le (jo_le (jo_le (jo_le (jo_le (jo_at (jk_101_232)) (jo_at (jk_101_233))) (jo_at (jk_101_236))) (jo_le (jo_at (jk_101_239)) (jo_at (jk_101_240)))) (jo_le (jo_le (jo_le (jo_at (jk_101_242)) (jo_at (jk_101_245))) (jo_at (jk_101_246))) (jo_le (jo_at (jk_101_249)) (jo_at (jk_101_250))))) (jo_le (jo_le (jo_le (jo_le (jo_at (jk_101_251)) (jo_at (jk_101_252))) (jo_at (jk_101_253))) (jo_le (jo_at (jk_101_254)) (jo_at (jk_101_255)))) (jo_le (jo_le (jo_le (jo_at (jk_101_256)) (jo_at (jk_101_257))) (jo_at (jk_101_260))) (jo_le (jo_at (jk_101_263)) (jo_at (jk_101_264))))))))
theorem ji_101 {l : Launch} {D : va_G} {cA : ClassId} {ρ : Nat → Nat} {Λ : List jx_Lc} {d : Nat} {Q : Option Value → jx_St → Prop} {σ : jx_St} {z0 : Nat} (h : jt_101 0 Λ jx_tb0 (jx_rn Λ jx_tb0 jt_101 (fun k' as σ K => jx_C l D cA ρ Λ d k' as σ K) Q (jx_J l D cA ρ Λ (jx_A ρ Λ) jx_tb0 (d + 1) 101 Q) [] 400) (fun k' as σ K => jx_C l D cA ρ Λ d k' as σ K) Q 0 [(0, .ref z0)] [] σ) : jx_C l D cA ρ Λ (d + 1) 101 [.ref z0] σ Q := jx_in jk_101 400 [] rfl (Nat.le_of_ble_eq_true rfl) h
/-! ScriptLedgerModel.goOn()Z -/
theorem jd_102_0 : decode prog_10_method_15_code 0 = .ok (.aload_n 0, 1) := by decide +kernel
theorem jd_102_1 : decode prog_10_method_15_code 1 = .ok (.dup, 1) := by decide +kernel
theorem jd_102_2 : decode prog_10_method_15_code 2 = .ok (.getfield 132, 3) := by decide +kernel
theorem jd_102_5 : decode prog_10_method_15_code 5 = .ok (.iconst 1, 1) := by decide +kernel
theorem jd_102_6 : decode prog_10_method_15_code 6 = .ok (.isub, 1) := by decide +kernel
theorem jd_102_7 : decode prog_10_method_15_code 7 = .ok (.putfield 132, 3) := by decide +kernel
theorem jd_102_10 : decode prog_10_method_15_code 10 = .ok (.aload_n 0, 1) := by decide +kernel
theorem jd_102_11 : decode prog_10_method_15_code 11 = .ok (.getfield 40, 3) := by decide +kernel
theorem jd_102_14 : decode prog_10_method_15_code 14 = .ok (.aload_n 0, 1) := by decide +kernel
theorem jd_102_15 : decode prog_10_method_15_code 15 = .ok (.getfield 132, 3) := by decide +kernel
theorem jd_102_18 : decode prog_10_method_15_code 18 = .ok (.iaload, 1) := by decide +kernel
theorem jd_102_19 : decode prog_10_method_15_code 19 = .ok (.istore_n 1, 1) := by decide +kernel
theorem jd_102_20 : decode prog_10_method_15_code 20 = .ok (.aload_n 0, 1) := by decide +kernel
theorem jd_102_21 : decode prog_10_method_15_code 21 = .ok (.getfield 43, 3) := by decide +kernel
theorem jd_102_24 : decode prog_10_method_15_code 24 = .ok (.aload_n 0, 1) := by decide +kernel
theorem jd_102_25 : decode prog_10_method_15_code 25 = .ok (.getfield 132, 3) := by decide +kernel
theorem jd_102_28 : decode prog_10_method_15_code 28 = .ok (.iaload, 1) := by decide +kernel
theorem jd_102_29 : decode prog_10_method_15_code 29 = .ok (.istore_n 2, 1) := by decide +kernel
theorem jd_102_30 : decode prog_10_method_15_code 30 = .ok (.aload_n 0, 1) := by decide +kernel
theorem jd_102_31 : decode prog_10_method_15_code 31 = .ok (.getfield 46, 3) := by decide +kernel
theorem jd_102_34 : decode prog_10_method_15_code 34 = .ok (.aload_n 0, 1) := by decide +kernel
theorem jd_102_35 : decode prog_10_method_15_code 35 = .ok (.getfield 132, 3) := by decide +kernel
theorem jd_102_38 : decode prog_10_method_15_code 38 = .ok (.iaload, 1) := by decide +kernel
theorem jd_102_39 : decode prog_10_method_15_code 39 = .ok (.istore_n 3, 1) := by decide +kernel
theorem jd_102_40 : decode prog_10_method_15_code 40 = .ok (.iload_n 1, 1) := by decide +kernel
theorem jd_102_41 : decode prog_10_method_15_code 41 = .ok (.ifCond .ne 49, 3) := by decide +kernel
theorem jd_102_44 : decode prog_10_method_15_code 44 = .ok (.aload_n 0, 1) := by decide +kernel
theorem jd_102_45 : decode prog_10_method_15_code 45 = .ok (.getfield 19, 3) := by decide +kernel
theorem jd_102_48 : decode prog_10_method_15_code 48 = .ok (.aload_n 0, 1) := by decide +kernel
theorem jd_102_49 : decode prog_10_method_15_code 49 = .ok (.getfield 145, 3) := by decide +kernel
theorem jd_102_52 : decode prog_10_method_15_code 52 = .ok (.iaload, 1) := by decide +kernel
theorem jd_102_53 : decode prog_10_method_15_code 53 = .ok (.iconst 4, 1) := by decide +kernel
theorem jd_102_54 : decode prog_10_method_15_code 54 = .ok (.if_icmp .eq 8, 3) := by decide +kernel
theorem jd_102_57 : decode prog_10_method_15_code 57 = .ok (.aload_n 0, 1) := by decide +kernel
theorem jd_102_58 : decode prog_10_method_15_code 58 = .ok (.invokevirtual 159, 3) := by decide +kernel
theorem jd_102_61 : decode prog_10_method_15_code 61 = .ok (.ireturn, 1) := by decide +kernel
theorem jd_102_62 : decode prog_10_method_15_code 62 = .ok (.aload_n 0, 1) := by decide +kernel
theorem jd_102_63 : decode prog_10_method_15_code 63 = .ok (.aload_n 0, 1) := by decide +kernel
theorem jd_102_64 : decode prog_10_method_15_code 64 = .ok (.getfield 22, 3) := by decide +kernel
theorem jd_102_67 : decode prog_10_method_15_code 67 = .ok (.aload_n 0, 1) := by decide +kernel
theorem jd_102_68 : decode prog_10_method_15_code 68 = .ok (.getfield 145, 3) := by decide +kernel
theorem jd_102_71 : decode prog_10_method_15_code 71 = .ok (.iaload, 1) := by decide +kernel
theorem jd_102_72 : decode prog_10_method_15_code 72 = .ok (.putfield 135, 3) := by decide +kernel
theorem jd_102_75 : decode prog_10_method_15_code 75 = .ok (.aload_n 0, 1) := by decide +kernel
theorem jd_102_76 : decode prog_10_method_15_code 76 = .ok (.aload_n 0, 1) := by decide +kernel
theorem jd_102_77 : decode prog_10_method_15_code 77 = .ok (.getfield 25, 3) := by decide +kernel
theorem jd_102_80 : decode prog_10_method_15_code 80 = .ok (.aload_n 0, 1) := by decide +kernel
theorem jd_102_81 : decode prog_10_method_15_code 81 = .ok (.getfield 145, 3) := by decide +kernel
theorem jd_102_84 : decode prog_10_method_15_code 84 = .ok (.iaload, 1) := by decide +kernel
theorem jd_102_85 : decode prog_10_method_15_code 85 = .ok (.putfield 142, 3) := by decide +kernel
theorem jd_102_88 : decode prog_10_method_15_code 88 = .ok (.iconst 1, 1) := by decide +kernel
theorem jd_102_89 : decode prog_10_method_15_code 89 = .ok (.ireturn, 1) := by decide +kernel
theorem jd_102_90 : decode prog_10_method_15_code 90 = .ok (.iload_n 1, 1) := by decide +kernel
theorem jd_102_91 : decode prog_10_method_15_code 91 = .ok (.iconst 1, 1) := by decide +kernel
theorem jd_102_92 : decode prog_10_method_15_code 92 = .ok (.if_icmp .ne 25, 3) := by decide +kernel
theorem jd_102_95 : decode prog_10_method_15_code 95 = .ok (.aload_n 0, 1) := by decide +kernel
theorem jd_102_96 : decode prog_10_method_15_code 96 = .ok (.iconst 2, 1) := by decide +kernel
theorem jd_102_97 : decode prog_10_method_15_code 97 = .ok (.aload_n 0, 1) := by decide +kernel
theorem jd_102_98 : decode prog_10_method_15_code 98 = .ok (.getfield 145, 3) := by decide +kernel
theorem jd_102_101 : decode prog_10_method_15_code 101 = .ok (.iconst 0, 1) := by decide +kernel
theorem jd_102_102 : decode prog_10_method_15_code 102 = .ok (.invokevirtual 152, 3) := by decide +kernel
theorem jd_102_105 : decode prog_10_method_15_code 105 = .ok (.aload_n 0, 1) := by decide +kernel
theorem jd_102_106 : decode prog_10_method_15_code 106 = .ok (.iload_n 2, 1) := by decide +kernel
theorem jd_102_107 : decode prog_10_method_15_code 107 = .ok (.putfield 135, 3) := by decide +kernel
theorem jd_102_110 : decode prog_10_method_15_code 110 = .ok (.aload_n 0, 1) := by decide +kernel
theorem jd_102_111 : decode prog_10_method_15_code 111 = .ok (.iload_n 3, 1) := by decide +kernel
theorem jd_102_112 : decode prog_10_method_15_code 112 = .ok (.putfield 142, 3) := by decide +kernel
theorem jd_102_115 : decode prog_10_method_15_code 115 = .ok (.iconst 1, 1) := by decide +kernel
theorem jd_102_116 : decode prog_10_method_15_code 116 = .ok (.ireturn, 1) := by decide +kernel
theorem jd_102_117 : decode prog_10_method_15_code 117 = .ok (.iload_n 1, 1) := by decide +kernel
theorem jd_102_118 : decode prog_10_method_15_code 118 = .ok (.iconst 2, 1) := by decide +kernel
theorem jd_102_119 : decode prog_10_method_15_code 119 = .ok (.if_icmp .ne 15, 3) := by decide +kernel
theorem jd_102_122 : decode prog_10_method_15_code 122 = .ok (.aload_n 0, 1) := by decide +kernel
theorem jd_102_123 : decode prog_10_method_15_code 123 = .ok (.iload_n 2, 1) := by decide +kernel
theorem jd_102_124 : decode prog_10_method_15_code 124 = .ok (.aload_n 0, 1) := by decide +kernel
theorem jd_102_125 : decode prog_10_method_15_code 125 = .ok (.getfield 145, 3) := by decide +kernel
theorem jd_102_128 : decode prog_10_method_15_code 128 = .ok (.invokevirtual 162, 3) := by decide +kernel
theorem jd_102_131 : decode prog_10_method_15_code 131 = .ok (.goto 12, 3) := by decide +kernel
theorem jd_102_134 : decode prog_10_method_15_code 134 = .ok (.aload_n 0, 1) := by decide +kernel
theorem jd_102_135 : decode prog_10_method_15_code 135 = .ok (.aload_n 0, 1) := by decide +kernel
theorem jd_102_136 : decode prog_10_method_15_code 136 = .ok (.getfield 145, 3) := by decide +kernel
theorem jd_102_139 : decode prog_10_method_15_code 139 = .ok (.iload_n 2, 1) := by decide +kernel
theorem jd_102_140 : decode prog_10_method_15_code 140 = .ok (.invokevirtual 162, 3) := by decide +kernel
theorem jd_102_143 : decode prog_10_method_15_code 143 = .ok (.ireturn, 1) := by decide +kernel
def jt_102 (pc : Nat) : jx_Sp := bif Nat.ble pc 71 then (bif Nat.ble pc 34 then (bif Nat.ble pc 18 then (bif Nat.ble pc 7 then (bif Nat.ble pc 2 then (bif Nat.ble pc 1 then (bif Nat.ble pc 0 then (bif Nat.beq pc 0 then js_al 0 1 else js_none) else (bif Nat.beq pc 1 then js_dup else js_none)) else (bif Nat.beq pc 2 then js_getf 8 14 else js_none)) else (bif Nat.ble pc 6 then (bif Nat.ble pc 5 then (bif Nat.beq pc 5 then js_c 1 1 else js_none) else (bif Nat.beq pc 6 then js_isub else js_none)) else (bif Nat.beq pc 7 then js_putf 8 14 false else js_none))) else (bif Nat.ble pc 14 then (bif Nat.ble pc 11 then (bif Nat.ble pc 10 then (bif Nat.beq pc 10 then js_al 0 1 else js_none) else (bif Nat.beq pc 11 then js_getf 8 15 else js_none)) else (bif Nat.beq pc 14 then js_al 0 1 else js_none)) else (bif Nat.ble pc 15 then (bif Nat.beq pc 15 then js_getf 8 14 else js_none) else (bif Nat.beq pc 18 then js_ald else js_none)))) else (bif Nat.ble pc 25 then (bif Nat.ble pc 21 then (bif Nat.ble pc 20 then (bif Nat.ble pc 19 then (bif Nat.beq pc 19 then js_is 1 1 else js_none) else (bif Nat.beq pc 20 then js_al 0 1 else js_none)) else (bif Nat.beq pc 21 then js_getf 8 16 else js_none)) else (bif Nat.ble pc 24 then (bif Nat.beq pc 24 then js_al 0 1 else js_none) else (bif Nat.beq pc 25 then js_getf 8 14 else js_none))) else (bif Nat.ble pc 30 then (bif Nat.ble pc 29 then (bif Nat.ble pc 28 then (bif Nat.beq pc 28 then js_ald else js_none) else (bif Nat.beq pc 29 then js_is 2 1 else js_none)) else (bif Nat.beq pc 30 then js_al 0 1 else js_none)) else (bif Nat.ble pc 31 then (bif Nat.beq pc 31 then js_getf 8 17 else js_none) else (bif Nat.beq pc 34 then js_al 0 1 else js_none))))) else (bif Nat.ble pc 53 then (bif Nat.ble pc 44 then (bif Nat.ble pc 39 then (bif Nat.ble pc 38 then (bif Nat.ble pc 35 then (bif Nat.beq pc 35 then js_getf 8 14 else js_none) else (bif Nat.beq pc 38 then js_ald else js_none)) else (bif Nat.beq pc 39 then js_is 3 1 else js_none)) else (bif Nat.ble pc 41 then (bif Nat.ble pc 40 then (bif Nat.beq pc 40 then js_il 1 1 else js_none) else (bif Nat.beq pc 41 then js_ifne 90 else js_none)) else (bif Nat.beq pc 44 then js_al 0 1 else js_none))) else (bif Nat.ble pc 49 then (bif Nat.ble pc 48 then (bif Nat.ble pc 45 then (bif Nat.beq pc 45 then js_getf 8 6 else js_none) else (bif Nat.beq pc 48 then js_al 0 1 else js_none)) else (bif Nat.beq pc 49 then js_getf 8 20 else js_none)) else (bif Nat.ble pc 52 then (bif Nat.beq pc 52 then js_ald else js_none) else (bif Nat.beq pc 53 then js_c 4 1 else js_none)))) else (bif Nat.ble pc 62 then (bif Nat.ble pc 58 then (bif Nat.ble pc 57 then (bif Nat.ble pc 54 then (bif Nat.beq pc 54 then js_ceq 62 else js_none) else (bif Nat.beq pc 57 then js_al 0 1 else js_none)) else (bif Nat.beq pc 58 then js_v0 8 99 else js_none)) else (bif Nat.ble pc 61 then (bif Nat.beq pc 61 then js_zr else js_none) else (bif Nat.beq pc 62 then js_al 0 1 else js_none))) else (bif Nat.ble pc 67 then (bif Nat.ble pc 64 then (bif Nat.ble pc 63 then (bif Nat.beq pc 63 then js_al 0 1 else js_none) else (bif Nat.beq pc 64 then js_getf 8 7 else js_none)) else (bif Nat.beq pc 67 then js_al 0 1 else js_none)) else (bif Nat.ble pc 68 then (bif Nat.beq pc 68 then js_getf 8 20 else js_none) else (bif Nat.beq pc 71 then js_ald else js_none)))))) else (bif Nat.ble pc 106 then (bif Nat.ble pc 90 then (bif Nat.ble pc 81 then (bif Nat.ble pc 76 then (bif Nat.ble pc 75 then (bif Nat.ble pc 72 then (bif Nat.beq pc 72 then js_putf 8 18 false else js_none) else (bif Nat.beq pc 75 then js_al 0 1 else js_none)) else (bif Nat.beq pc 76 then js_al 0 1 else js_none)) else (bif Nat.ble pc 80 then (bif Nat.ble pc 77 then (bif Nat.beq pc 77 then js_getf 8 8 else js_none) else (bif Nat.beq pc 80 then js_al 0 1 else js_none)) else (bif Nat.beq pc 81 then js_getf 8 20 else js_none))) else (bif Nat.ble pc 88 then (bif Nat.ble pc 85 then (bif Nat.ble pc 84 then (bif Nat.beq pc 84 then js_ald else js_none) else (bif Nat.beq pc 85 then js_putf 8 19 false else js_none)) else (bif Nat.beq pc 88 then js_c 1 1 else js_none)) else (bif Nat.ble pc 89 then (bif Nat.beq pc 89 then js_zr else js_none) else (bif Nat.beq pc 90 then js_il 1 1 else js_none)))) else (bif Nat.ble pc 97 then (bif Nat.ble pc 95 then (bif Nat.ble pc 92 then (bif Nat.ble pc 91 then (bif Nat.beq pc 91 then js_c 1 1 else js_none) else (bif Nat.beq pc 92 then js_cne 117 else js_none)) else (bif Nat.beq pc 95 then js_al 0 1 else js_none)) else (bif Nat.ble pc 96 then (bif Nat.beq pc 96 then js_c 2 1 else js_none) else (bif Nat.beq pc 97 then js_al 0 1 else js_none))) else (bif Nat.ble pc 102 then (bif Nat.ble pc 101 then (bif Nat.ble pc 98 then (bif Nat.beq pc 98 then js_getf 8 20 else js_none) else (bif Nat.beq pc 101 then js_c 0 1 else js_none)) else (bif Nat.beq pc 102 then js_v3 8 100 else js_none)) else (bif Nat.ble pc 105 then (bif Nat.beq pc 105 then js_al 0 1 else js_none) else (bif Nat.beq pc 106 then js_il 2 1 else js_none))))) else (bif Nat.ble pc 123 then (bif Nat.ble pc 116 then (bif Nat.ble pc 111 then (bif Nat.ble pc 110 then (bif Nat.ble pc 107 then (bif Nat.beq pc 107 then js_putf 8 18 false else js_none) else (bif Nat.beq pc 110 then js_al 0 1 else js_none)) else (bif Nat.beq pc 111 then js_il 3 1 else js_none)) else (bif Nat.ble pc 115 then (bif Nat.ble pc 112 then (bif Nat.beq pc 112 then js_putf 8 19 false else js_none) else (bif Nat.beq pc 115 then js_c 1 1 else js_none)) else (bif Nat.beq pc 116 then js_zr else js_none))) else (bif Nat.ble pc 119 then (bif Nat.ble pc 118 then (bif Nat.ble pc 117 then (bif Nat.beq pc 117 then js_il 1 1 else js_none) else (bif Nat.beq pc 118 then js_c 2 1 else js_none)) else (bif Nat.beq pc 119 then js_cne 134 else js_none)) else (bif Nat.ble pc 122 then (bif Nat.beq pc 122 then js_al 0 1 else js_none) else (bif Nat.beq pc 123 then js_il 2 1 else js_none)))) else (bif Nat.ble pc 134 then (bif Nat.ble pc 128 then (bif Nat.ble pc 125 then (bif Nat.ble pc 124 then (bif Nat.beq pc 124 then js_al 0 1 else js_none) else (bif Nat.beq pc 125 then js_getf 8 20 else js_none)) else (bif Nat.beq pc 128 then js_v2 8 103 else js_none)) else (bif Nat.ble pc 131 then (bif Nat.beq pc 131 then js_go 143 else js_none) else (bif Nat.beq pc 134 then js_al 0 1 else js_none))) else (bif Nat.ble pc 139 then (bif Nat.ble pc 136 then (bif Nat.ble pc 135 then (bif Nat.beq pc 135 then js_al 0 1 else js_none) else (bif Nat.beq pc 136 then js_getf 8 20 else js_none)) else (bif Nat.beq pc 139 then js_il 2 1 else js_none)) else (bif Nat.ble pc 140 then (bif Nat.beq pc 140 then js_v2 8 103 else js_none) else (bif Nat.beq pc 143 then js_zr else js_none))))))
theorem jk_102_0 : jx_Snd 102 0 (js_al 0 1) := jo_aload_n (i := 0) (w := 0) rfl jd_102_0
theorem jk_102_1 : jx_Snd 102 1 (js_dup) := jo_dup jd_102_1
theorem jk_102_2 : jx_Snd 102 2 (js_getf 8 14) := jo_getf rfl jf_8_132 jd_102_2
theorem jk_102_5 : jx_Snd 102 5 (js_c 1 1) := jo_iconst (z := 1) jd_102_5 rfl
theorem jk_102_6 : jx_Snd 102 6 (js_isub) := jo_isub jd_102_6
theorem jk_102_7 : jx_Snd 102 7 (js_putf 8 14 false) := jo_putf (z := false) rfl jf_8_132 (fun C T N h => by cases h; rfl) jd_102_7
theorem jk_102_10 : jx_Snd 102 10 (js_al 0 1) := jo_aload_n (i := 0) (w := 0) rfl jd_102_10
theorem jk_102_11 : jx_Snd 102 11 (js_getf 8 15) := jo_getf rfl jf_8_40 jd_102_11
theorem jk_102_14 : jx_Snd 102 14 (js_al 0 1) := jo_aload_n (i := 0) (w := 0) rfl jd_102_14
theorem jk_102_15 : jx_Snd 102 15 (js_getf 8 14) := jo_getf rfl jf_8_132 jd_102_15
theorem jk_102_18 : jx_Snd 102 18 (js_ald) := jo_ald jd_102_18
theorem jk_102_19 : jx_Snd 102 19 (js_is 1 1) := jo_istore_n (i := 1) (w := 1) rfl (Nat.le_of_ble_eq_true rfl) jd_102_19
theorem jk_102_20 : jx_Snd 102 20 (js_al 0 1) := jo_aload_n (i := 0) (w := 0) rfl jd_102_20
theorem jk_102_21 : jx_Snd 102 21 (js_getf 8 16) := jo_getf rfl jf_8_43 jd_102_21
theorem jk_102_24 : jx_Snd 102 24 (js_al 0 1) := jo_aload_n (i := 0) (w := 0) rfl jd_102_24
theorem jk_102_25 : jx_Snd 102 25 (js_getf 8 14) := jo_getf rfl jf_8_132 jd_102_25
theorem jk_102_28 : jx_Snd 102 28 (js_ald) := jo_ald jd_102_28
theorem jk_102_29 : jx_Snd 102 29 (js_is 2 1) := jo_istore_n (i := 2) (w := 2) rfl (Nat.le_of_ble_eq_true rfl) jd_102_29
theorem jk_102_30 : jx_Snd 102 30 (js_al 0 1) := jo_aload_n (i := 0) (w := 0) rfl jd_102_30
theorem jk_102_31 : jx_Snd 102 31 (js_getf 8 17) := jo_getf rfl jf_8_46 jd_102_31
theorem jk_102_34 : jx_Snd 102 34 (js_al 0 1) := jo_aload_n (i := 0) (w := 0) rfl jd_102_34
theorem jk_102_35 : jx_Snd 102 35 (js_getf 8 14) := jo_getf rfl jf_8_132 jd_102_35
theorem jk_102_38 : jx_Snd 102 38 (js_ald) := jo_ald jd_102_38
theorem jk_102_39 : jx_Snd 102 39 (js_is 3 1) := jo_istore_n (i := 3) (w := 3) rfl (Nat.le_of_ble_eq_true rfl) jd_102_39
theorem jk_102_40 : jx_Snd 102 40 (js_il 1 1) := jo_iload_n (i := 1) (w := 1) rfl jd_102_40
theorem jk_102_41 : jx_Snd 102 41 (js_ifne 90) := jo_ifne (o := 49) rfl jd_102_41
theorem jk_102_44 : jx_Snd 102 44 (js_al 0 1) := jo_aload_n (i := 0) (w := 0) rfl jd_102_44
theorem jk_102_45 : jx_Snd 102 45 (js_getf 8 6) := jo_getf rfl jf_8_19 jd_102_45
theorem jk_102_48 : jx_Snd 102 48 (js_al 0 1) := jo_aload_n (i := 0) (w := 0) rfl jd_102_48
theorem jk_102_49 : jx_Snd 102 49 (js_getf 8 20) := jo_getf rfl jf_8_145 jd_102_49
theorem jk_102_52 : jx_Snd 102 52 (js_ald) := jo_ald jd_102_52
theorem jk_102_53 : jx_Snd 102 53 (js_c 4 1) := jo_iconst (z := 4) jd_102_53 rfl
theorem jk_102_54 : jx_Snd 102 54 (js_ceq 62) := jo_ceq (o := 8) rfl jd_102_54
theorem jk_102_57 : jx_Snd 102 57 (js_al 0 1) := jo_aload_n (i := 0) (w := 0) rfl jd_102_57
theorem jk_102_58 : jx_Snd 102 58 (js_v0 8 99) := jo_v0 rfl jok_99 (Or.inl jw_556) jw_557 jw_722 rfl jd_102_58
theorem jk_102_61 : jx_Snd 102 61 (js_zr) := jo_zr rfl jd_102_61
theorem jk_102_62 : jx_Snd 102 62 (js_al 0 1) := jo_aload_n (i := 0) (w := 0) rfl jd_102_62
theorem jk_102_63 : jx_Snd 102 63 (js_al 0 1) := jo_aload_n (i := 0) (w := 0) rfl jd_102_63
theorem jk_102_64 : jx_Snd 102 64 (js_getf 8 7) := jo_getf rfl jf_8_22 jd_102_64
theorem jk_102_67 : jx_Snd 102 67 (js_al 0 1) := jo_aload_n (i := 0) (w := 0) rfl jd_102_67
theorem jk_102_68 : jx_Snd 102 68 (js_getf 8 20) := jo_getf rfl jf_8_145 jd_102_68
theorem jk_102_71 : jx_Snd 102 71 (js_ald) := jo_ald jd_102_71
theorem jk_102_72 : jx_Snd 102 72 (js_putf 8 18 false) := jo_putf (z := false) rfl jf_8_135 (fun C T N h => by cases h; rfl) jd_102_72
theorem jk_102_75 : jx_Snd 102 75 (js_al 0 1) := jo_aload_n (i := 0) (w := 0) rfl jd_102_75
theorem jk_102_76 : jx_Snd 102 76 (js_al 0 1) := jo_aload_n (i := 0) (w := 0) rfl jd_102_76
theorem jk_102_77 : jx_Snd 102 77 (js_getf 8 8) := jo_getf rfl jf_8_25 jd_102_77
theorem jk_102_80 : jx_Snd 102 80 (js_al 0 1) := jo_aload_n (i := 0) (w := 0) rfl jd_102_80
theorem jk_102_81 : jx_Snd 102 81 (js_getf 8 20) := jo_getf rfl jf_8_145 jd_102_81
theorem jk_102_84 : jx_Snd 102 84 (js_ald) := jo_ald jd_102_84
theorem jk_102_85 : jx_Snd 102 85 (js_putf 8 19 false) := jo_putf (z := false) rfl jf_8_142 (fun C T N h => by cases h; rfl) jd_102_85
theorem jk_102_88 : jx_Snd 102 88 (js_c 1 1) := jo_iconst (z := 1) jd_102_88 rfl
theorem jk_102_89 : jx_Snd 102 89 (js_zr) := jo_zr rfl jd_102_89
theorem jk_102_90 : jx_Snd 102 90 (js_il 1 1) := jo_iload_n (i := 1) (w := 1) rfl jd_102_90
theorem jk_102_91 : jx_Snd 102 91 (js_c 1 1) := jo_iconst (z := 1) jd_102_91 rfl
theorem jk_102_92 : jx_Snd 102 92 (js_cne 117) := jo_cne (o := 25) rfl jd_102_92
theorem jk_102_95 : jx_Snd 102 95 (js_al 0 1) := jo_aload_n (i := 0) (w := 0) rfl jd_102_95
theorem jk_102_96 : jx_Snd 102 96 (js_c 2 1) := jo_iconst (z := 2) jd_102_96 rfl
theorem jk_102_97 : jx_Snd 102 97 (js_al 0 1) := jo_aload_n (i := 0) (w := 0) rfl jd_102_97
theorem jk_102_98 : jx_Snd 102 98 (js_getf 8 20) := jo_getf rfl jf_8_145 jd_102_98
theorem jk_102_101 : jx_Snd 102 101 (js_c 0 1) := jo_iconst (z := 0) jd_102_101 rfl
theorem jk_102_102 : jx_Snd 102 102 (js_v3 8 100) := jo_v3 rfl jok_100 (Or.inl jw_544) jw_545 jw_718 rfl jd_102_102
theorem jk_102_105 : jx_Snd 102 105 (js_al 0 1) := jo_aload_n (i := 0) (w := 0) rfl jd_102_105
theorem jk_102_106 : jx_Snd 102 106 (js_il 2 1) := jo_iload_n (i := 2) (w := 2) rfl jd_102_106
theorem jk_102_107 : jx_Snd 102 107 (js_putf 8 18 false) := jo_putf (z := false) rfl jf_8_135 (fun C T N h => by cases h; rfl) jd_102_107
theorem jk_102_110 : jx_Snd 102 110 (js_al 0 1) := jo_aload_n (i := 0) (w := 0) rfl jd_102_110
theorem jk_102_111 : jx_Snd 102 111 (js_il 3 1) := jo_iload_n (i := 3) (w := 3) rfl jd_102_111
theorem jk_102_112 : jx_Snd 102 112 (js_putf 8 19 false) := jo_putf (z := false) rfl jf_8_142 (fun C T N h => by cases h; rfl) jd_102_112
theorem jk_102_115 : jx_Snd 102 115 (js_c 1 1) := jo_iconst (z := 1) jd_102_115 rfl
theorem jk_102_116 : jx_Snd 102 116 (js_zr) := jo_zr rfl jd_102_116
theorem jk_102_117 : jx_Snd 102 117 (js_il 1 1) := jo_iload_n (i := 1) (w := 1) rfl jd_102_117
theorem jk_102_118 : jx_Snd 102 118 (js_c 2 1) := jo_iconst (z := 2) jd_102_118 rfl
theorem jk_102_119 : jx_Snd 102 119 (js_cne 134) := jo_cne (o := 15) rfl jd_102_119
theorem jk_102_122 : jx_Snd 102 122 (js_al 0 1) := jo_aload_n (i := 0) (w := 0) rfl jd_102_122
theorem jk_102_123 : jx_Snd 102 123 (js_il 2 1) := jo_iload_n (i := 2) (w := 2) rfl jd_102_123
theorem jk_102_124 : jx_Snd 102 124 (js_al 0 1) := jo_aload_n (i := 0) (w := 0) rfl jd_102_124
theorem jk_102_125 : jx_Snd 102 125 (js_getf 8 20) := jo_getf rfl jf_8_145 jd_102_125
theorem jk_102_128 : jx_Snd 102 128 (js_v2 8 103) := jo_v2 rfl jok_103 (Or.inl jw_562) jw_563 jw_724 rfl jd_102_128
theorem jk_102_131 : jx_Snd 102 131 (js_go 143) := jo_goto (o := 12) rfl jd_102_131
theorem jk_102_134 : jx_Snd 102 134 (js_al 0 1) := jo_aload_n (i := 0) (w := 0) rfl jd_102_134
theorem jk_102_135 : jx_Snd 102 135 (js_al 0 1) := jo_aload_n (i := 0) (w := 0) rfl jd_102_135
theorem jk_102_136 : jx_Snd 102 136 (js_getf 8 20) := jo_getf rfl jf_8_145 jd_102_136
theorem jk_102_139 : jx_Snd 102 139 (js_il 2 1) := jo_iload_n (i := 2) (w := 2) rfl jd_102_139
theorem jk_102_140 : jx_Snd 102 140 (js_v2 8 103) := jo_v2 rfl jok_103 (Or.inl jw_562) jw_563 jw_724 rfl jd_102_140
theorem jk_102_143 : jx_Snd 102 143 (js_zr) := jo_zr rfl jd_102_143
theorem jk_102 : jx_So 102 jt_102 := fun pc => jo_le (jo_le (jo_le (jo_le (jo_le (jo_le (jo_le (jo_at (jk_102_0)) (jo_at (jk_102_1))) (jo_at (jk_102_2))) (jo_le (jo_le (jo_at (jk_102_5)) (jo_at (jk_102_6))) (jo_at (jk_102_7)))) (jo_le (jo_le (jo_le (jo_at (jk_102_10)) (jo_at (jk_102_11))) (jo_at (jk_102_14))) (jo_le (jo_at (jk_102_15)) (jo_at (jk_102_18))))) (jo_le (jo_le (jo_le (jo_le (jo_at (jk_102_19)) (jo_at (jk_102_20))) (jo_at (jk_102_21))) (jo_le (jo_at (jk_102_24)) (jo_at (jk_102_25)))) (jo_le (jo_le (jo_le (jo_at (jk_102_28)) (jo_at (jk_102_29))) (jo_at (jk_102_30))) (jo_le (jo_at (jk_102_31)) (jo_at (jk_102_34)))))) (jo_le (jo_le (jo_le (jo_le (jo_le (jo_at (jk_102_35)) (jo_at (jk_102_38))) (jo_at (jk_102_39))) (jo_le (jo_le (jo_at (jk_102_40)) (jo_at (jk_102_41))) (jo_at (jk_102_44)))) (jo_le (jo_le (jo_le (jo_at (jk_102_45)) (jo_at (jk_102_48))) (jo_at (jk_102_49))) (jo_le (jo_at (jk_102_52)) (jo_at (jk_102_53))))) (jo_le (jo_le (jo_le (jo_le (jo_at (jk_102_54)) (jo_at (jk_102_57))) (jo_at (jk_102_58))) (jo_le (jo_at (jk_102_61)) (jo_at (jk_102_62)))) (jo_le (jo_le (jo_le (jo_at (jk_102_63)) (jo_at (jk_102_64))) (jo_at (jk_102_67))) (jo_le (jo_at (jk_102_68)) (jo_at (jk_102_71))))))) (jo_le (jo_le (jo_le (jo_le (jo_le (jo_le (jo_at (jk_102_72)) (jo_at (jk_102_75))) (jo_at (jk_102_76))) (jo_le (jo_le (jo_at (jk_102_77)) (jo_at (jk_102_80))) (jo_at (jk_102_81)))) (jo_le (jo_le (jo_le (jo_at (jk_102_84)) (jo_at (jk_102_85))) (jo_at (jk_102_88))) (jo_le (jo_at (jk_102_89)) (jo_at (jk_102_90))))) (jo_le (jo_le (jo_le (jo_le (jo_at (jk_102_91)) (jo_at (jk_102_92))) (jo_at (jk_102_95))) (jo_le (jo_at (jk_102_96)) (jo_at (jk_102_97)))) (jo_le (jo_le (jo_le (jo_at (jk_102_98)) (jo_at (jk_102_101))) (jo_at (jk_102_102))) (jo_le (jo_at (jk_102_105)) (jo_at (jk_102_106)))))) (jo_le (jo_le (jo_le (jo_le (jo_le (jo_at (jk_102_107)) (jo_at (jk_102_110))) (jo_at (jk_102_111))) (jo_le (jo_le (jo_at (jk_102_112)) (jo_at (jk_102_115))) (jo_at (jk_102_116)))) (jo_le (jo_le (jo_le (jo_at (jk_102_117)) (jo_at (jk_102_118))) (jo_at (jk_102_119))) (jo_le (jo_at (jk_102_122)) (jo_at (jk_102_123))))) (jo_le (jo_le (jo_le (jo_le (jo_at (jk_102_124)) (jo_at (jk_102_125))) (jo_at (jk_102_128))) (jo_le (jo_at (jk_102_131)) (jo_at (jk_102_134)))) (jo_le (jo_le (jo_le (jo_at (jk_102_135)) (jo_at (jk_102_136))) (jo_at (jk_102_139))) (jo_le (jo_at (jk_102_140)) (jo_at (jk_102_143)))))))
theorem ji_102 {l : Launch} {D : va_G} {cA : ClassId} {ρ : Nat → Nat} {Λ : List jx_Lc} {d : Nat} {Q : Option Value → jx_St → Prop} {σ : jx_St} {z0 : Nat} (h : jt_102 0 Λ jx_tb0 (jx_rn Λ jx_tb0 jt_102 (fun k' as σ K => jx_C l D cA ρ Λ d k' as σ K) Q (jx_J l D cA ρ Λ (jx_A ρ Λ) jx_tb0 (d + 1) 102 Q) [] 400) (fun k' as σ K => jx_C l D cA ρ Λ d k' as σ K) Q 0 [(0, .ref z0)] [] σ) : jx_C l D cA ρ Λ (d + 1) 102 [.ref z0] σ Q := jx_in jk_102 400 [] rfl (Nat.le_of_ble_eq_true rfl) h
/-! ScriptLedgerModel.apply(II)Z -/
theorem jd_103_0 : decode prog_10_method_16_code 0 = .ok (.aload_n 0, 1) := by decide +kernel
theorem jd_103_1 : decode prog_10_method_16_code 1 = .ok (.getfield 19, 3) := by decide +kernel
theorem jd_103_4 : decode prog_10_method_16_code 4 = .ok (.iload_n 1, 1) := by decide +kernel
theorem jd_103_5 : decode prog_10_method_16_code 5 = .ok (.iaload, 1) := by decide +kernel
theorem jd_103_6 : decode prog_10_method_16_code 6 = .ok (.iconst 3, 1) := by decide +kernel
theorem jd_103_7 : decode prog_10_method_16_code 7 = .ok (.if_icmp .ne 58, 3) := by decide +kernel
theorem jd_103_10 : decode prog_10_method_16_code 10 = .ok (.aload_n 0, 1) := by decide +kernel
theorem jd_103_11 : decode prog_10_method_16_code 11 = .ok (.dup, 1) := by decide +kernel
theorem jd_103_12 : decode prog_10_method_16_code 12 = .ok (.getfield 166, 3) := by decide +kernel
theorem jd_103_15 : decode prog_10_method_16_code 15 = .ok (.iconst 1, 1) := by decide +kernel
theorem jd_103_16 : decode prog_10_method_16_code 16 = .ok (.iadd, 1) := by decide +kernel
theorem jd_103_17 : decode prog_10_method_16_code 17 = .ok (.putfield 166, 3) := by decide +kernel
theorem jd_103_20 : decode prog_10_method_16_code 20 = .ok (.aload_n 0, 1) := by decide +kernel
theorem jd_103_21 : decode prog_10_method_16_code 21 = .ok (.getfield 34, 3) := by decide +kernel
theorem jd_103_24 : decode prog_10_method_16_code 24 = .ok (.aload_n 0, 1) := by decide +kernel
theorem jd_103_25 : decode prog_10_method_16_code 25 = .ok (.getfield 166, 3) := by decide +kernel
theorem jd_103_28 : decode prog_10_method_16_code 28 = .ok (.iload_n 2, 1) := by decide +kernel
theorem jd_103_29 : decode prog_10_method_16_code 29 = .ok (.iastore, 1) := by decide +kernel
theorem jd_103_30 : decode prog_10_method_16_code 30 = .ok (.aload_n 0, 1) := by decide +kernel
theorem jd_103_31 : decode prog_10_method_16_code 31 = .ok (.getfield 37, 3) := by decide +kernel
theorem jd_103_34 : decode prog_10_method_16_code 34 = .ok (.aload_n 0, 1) := by decide +kernel
theorem jd_103_35 : decode prog_10_method_16_code 35 = .ok (.getfield 166, 3) := by decide +kernel
theorem jd_103_38 : decode prog_10_method_16_code 38 = .ok (.aload_n 0, 1) := by decide +kernel
theorem jd_103_39 : decode prog_10_method_16_code 39 = .ok (.getfield 25, 3) := by decide +kernel
theorem jd_103_42 : decode prog_10_method_16_code 42 = .ok (.iload_n 1, 1) := by decide +kernel
theorem jd_103_43 : decode prog_10_method_16_code 43 = .ok (.iaload, 1) := by decide +kernel
theorem jd_103_44 : decode prog_10_method_16_code 44 = .ok (.iastore, 1) := by decide +kernel
theorem jd_103_45 : decode prog_10_method_16_code 45 = .ok (.aload_n 0, 1) := by decide +kernel
theorem jd_103_46 : decode prog_10_method_16_code 46 = .ok (.aload_n 0, 1) := by decide +kernel
theorem jd_103_47 : decode prog_10_method_16_code 47 = .ok (.getfield 166, 3) := by decide +kernel
theorem jd_103_50 : decode prog_10_method_16_code 50 = .ok (.putfield 142, 3) := by decide +kernel
theorem jd_103_53 : decode prog_10_method_16_code 53 = .ok (.aload_n 0, 1) := by decide +kernel
theorem jd_103_54 : decode prog_10_method_16_code 54 = .ok (.aload_n 0, 1) := by decide +kernel
theorem jd_103_55 : decode prog_10_method_16_code 55 = .ok (.getfield 22, 3) := by decide +kernel
theorem jd_103_58 : decode prog_10_method_16_code 58 = .ok (.iload_n 1, 1) := by decide +kernel
theorem jd_103_59 : decode prog_10_method_16_code 59 = .ok (.iaload, 1) := by decide +kernel
theorem jd_103_60 : decode prog_10_method_16_code 60 = .ok (.putfield 135, 3) := by decide +kernel
theorem jd_103_63 : decode prog_10_method_16_code 63 = .ok (.iconst 1, 1) := by decide +kernel
theorem jd_103_64 : decode prog_10_method_16_code 64 = .ok (.ireturn, 1) := by decide +kernel
theorem jd_103_65 : decode prog_10_method_16_code 65 = .ok (.aload_n 0, 1) := by decide +kernel
theorem jd_103_66 : decode prog_10_method_16_code 66 = .ok (.getfield 19, 3) := by decide +kernel
theorem jd_103_69 : decode prog_10_method_16_code 69 = .ok (.iload_n 1, 1) := by decide +kernel
theorem jd_103_70 : decode prog_10_method_16_code 70 = .ok (.iaload, 1) := by decide +kernel
theorem jd_103_71 : decode prog_10_method_16_code 71 = .ok (.iconst 5, 1) := by decide +kernel
theorem jd_103_72 : decode prog_10_method_16_code 72 = .ok (.if_icmp .eq 8, 3) := by decide +kernel
theorem jd_103_75 : decode prog_10_method_16_code 75 = .ok (.aload_n 0, 1) := by decide +kernel
theorem jd_103_76 : decode prog_10_method_16_code 76 = .ok (.invokevirtual 159, 3) := by decide +kernel
theorem jd_103_79 : decode prog_10_method_16_code 79 = .ok (.ireturn, 1) := by decide +kernel
theorem jd_103_80 : decode prog_10_method_16_code 80 = .ok (.aload_n 0, 1) := by decide +kernel
theorem jd_103_81 : decode prog_10_method_16_code 81 = .ok (.getfield 25, 3) := by decide +kernel
theorem jd_103_84 : decode prog_10_method_16_code 84 = .ok (.iload_n 1, 1) := by decide +kernel
theorem jd_103_85 : decode prog_10_method_16_code 85 = .ok (.iaload, 1) := by decide +kernel
theorem jd_103_86 : decode prog_10_method_16_code 86 = .ok (.istore_n 3, 1) := by decide +kernel
theorem jd_103_87 : decode prog_10_method_16_code 87 = .ok (.aload_n 0, 1) := by decide +kernel
theorem jd_103_88 : decode prog_10_method_16_code 88 = .ok (.aload_n 0, 1) := by decide +kernel
theorem jd_103_89 : decode prog_10_method_16_code 89 = .ok (.iconst 5, 1) := by decide +kernel
theorem jd_103_90 : decode prog_10_method_16_code 90 = .ok (.aload_n 0, 1) := by decide +kernel
theorem jd_103_91 : decode prog_10_method_16_code 91 = .ok (.getfield 22, 3) := by decide +kernel
theorem jd_103_94 : decode prog_10_method_16_code 94 = .ok (.iload_n 1, 1) := by decide +kernel
theorem jd_103_95 : decode prog_10_method_16_code 95 = .ok (.iaload, 1) := by decide +kernel
theorem jd_103_96 : decode prog_10_method_16_code 96 = .ok (.iload_n 3, 1) := by decide +kernel
theorem jd_103_97 : decode prog_10_method_16_code 97 = .ok (.iconst 1, 1) := by decide +kernel
theorem jd_103_98 : decode prog_10_method_16_code 98 = .ok (.iadd, 1) := by decide +kernel
theorem jd_103_99 : decode prog_10_method_16_code 99 = .ok (.iload_n 3, 1) := by decide +kernel
theorem jd_103_100 : decode prog_10_method_16_code 100 = .ok (.ifCond .ne 7, 3) := by decide +kernel
theorem jd_103_103 : decode prog_10_method_16_code 103 = .ok (.iload_n 2, 1) := by decide +kernel
theorem jd_103_104 : decode prog_10_method_16_code 104 = .ok (.goto 9, 3) := by decide +kernel
theorem jd_103_107 : decode prog_10_method_16_code 107 = .ok (.aload_n 0, 1) := by decide +kernel
theorem jd_103_108 : decode prog_10_method_16_code 108 = .ok (.getfield 28, 3) := by decide +kernel
theorem jd_103_111 : decode prog_10_method_16_code 111 = .ok (.iload_n 1, 1) := by decide +kernel
theorem jd_103_112 : decode prog_10_method_16_code 112 = .ok (.iaload, 1) := by decide +kernel
theorem jd_103_113 : decode prog_10_method_16_code 113 = .ok (.iload_n 3, 1) := by decide +kernel
theorem jd_103_114 : decode prog_10_method_16_code 114 = .ok (.iconst 1, 1) := by decide +kernel
theorem jd_103_115 : decode prog_10_method_16_code 115 = .ok (.if_icmp .ne 7, 3) := by decide +kernel
theorem jd_103_118 : decode prog_10_method_16_code 118 = .ok (.iload_n 2, 1) := by decide +kernel
theorem jd_103_119 : decode prog_10_method_16_code 119 = .ok (.goto 9, 3) := by decide +kernel
theorem jd_103_122 : decode prog_10_method_16_code 122 = .ok (.aload_n 0, 1) := by decide +kernel
theorem jd_103_123 : decode prog_10_method_16_code 123 = .ok (.getfield 31, 3) := by decide +kernel
theorem jd_103_126 : decode prog_10_method_16_code 126 = .ok (.iload_n 1, 1) := by decide +kernel
theorem jd_103_127 : decode prog_10_method_16_code 127 = .ok (.iaload, 1) := by decide +kernel
theorem jd_103_128 : decode prog_10_method_16_code 128 = .ok (.invokevirtual 122, 3) := by decide +kernel
theorem jd_103_131 : decode prog_10_method_16_code 131 = .ok (.putfield 145, 3) := by decide +kernel
theorem jd_103_134 : decode prog_10_method_16_code 134 = .ok (.iload_n 3, 1) := by decide +kernel
theorem jd_103_135 : decode prog_10_method_16_code 135 = .ok (.iconst 1, 1) := by decide +kernel
theorem jd_103_136 : decode prog_10_method_16_code 136 = .ok (.iadd, 1) := by decide +kernel
theorem jd_103_137 : decode prog_10_method_16_code 137 = .ok (.aload_n 0, 1) := by decide +kernel
theorem jd_103_138 : decode prog_10_method_16_code 138 = .ok (.getfield 22, 3) := by decide +kernel
theorem jd_103_141 : decode prog_10_method_16_code 141 = .ok (.iload_n 1, 1) := by decide +kernel
theorem jd_103_142 : decode prog_10_method_16_code 142 = .ok (.iaload, 1) := by decide +kernel
theorem jd_103_143 : decode prog_10_method_16_code 143 = .ok (.invokestatic 169, 3) := by decide +kernel
theorem jd_103_146 : decode prog_10_method_16_code 146 = .ok (.if_icmp .lt 35, 3) := by decide +kernel
theorem jd_103_149 : decode prog_10_method_16_code 149 = .ok (.aload_n 0, 1) := by decide +kernel
theorem jd_103_150 : decode prog_10_method_16_code 150 = .ok (.aload_n 0, 1) := by decide +kernel
theorem jd_103_151 : decode prog_10_method_16_code 151 = .ok (.getfield 22, 3) := by decide +kernel
theorem jd_103_154 : decode prog_10_method_16_code 154 = .ok (.iload_n 1, 1) := by decide +kernel
theorem jd_103_155 : decode prog_10_method_16_code 155 = .ok (.iaload, 1) := by decide +kernel
theorem jd_103_156 : decode prog_10_method_16_code 156 = .ok (.aload_n 0, 1) := by decide +kernel
theorem jd_103_157 : decode prog_10_method_16_code 157 = .ok (.getfield 28, 3) := by decide +kernel
theorem jd_103_160 : decode prog_10_method_16_code 160 = .ok (.aload_n 0, 1) := by decide +kernel
theorem jd_103_161 : decode prog_10_method_16_code 161 = .ok (.getfield 145, 3) := by decide +kernel
theorem jd_103_164 : decode prog_10_method_16_code 164 = .ok (.iaload, 1) := by decide +kernel
theorem jd_103_165 : decode prog_10_method_16_code 165 = .ok (.aload_n 0, 1) := by decide +kernel
theorem jd_103_166 : decode prog_10_method_16_code 166 = .ok (.getfield 31, 3) := by decide +kernel
theorem jd_103_169 : decode prog_10_method_16_code 169 = .ok (.aload_n 0, 1) := by decide +kernel
theorem jd_103_170 : decode prog_10_method_16_code 170 = .ok (.getfield 145, 3) := by decide +kernel
theorem jd_103_173 : decode prog_10_method_16_code 173 = .ok (.iaload, 1) := by decide +kernel
theorem jd_103_174 : decode prog_10_method_16_code 174 = .ok (.iload_n 2, 1) := by decide +kernel
theorem jd_103_175 : decode prog_10_method_16_code 175 = .ok (.invokevirtual 172, 3) := by decide +kernel
theorem jd_103_178 : decode prog_10_method_16_code 178 = .ok (.ifCond .eq 7, 3) := by decide +kernel
theorem jd_103_181 : decode prog_10_method_16_code 181 = .ok (.iconst 1, 1) := by decide +kernel
theorem jd_103_182 : decode prog_10_method_16_code 182 = .ok (.goto 4, 3) := by decide +kernel
theorem jd_103_185 : decode prog_10_method_16_code 185 = .ok (.iconst 0, 1) := by decide +kernel
theorem jd_103_186 : decode prog_10_method_16_code 186 = .ok (.ireturn, 1) := by decide +kernel
def jt_103 (pc : Nat) : jx_Sp := bif Nat.ble pc 90 then (bif Nat.ble pc 46 then (bif Nat.ble pc 24 then (bif Nat.ble pc 11 then (bif Nat.ble pc 5 then (bif Nat.ble pc 1 then (bif Nat.ble pc 0 then (bif Nat.beq pc 0 then js_al 0 1 else js_none) else (bif Nat.beq pc 1 then js_getf 8 6 else js_none)) else (bif Nat.ble pc 4 then (bif Nat.beq pc 4 then js_il 1 1 else js_none) else (bif Nat.beq pc 5 then js_ald else js_none))) else (bif Nat.ble pc 7 then (bif Nat.ble pc 6 then (bif Nat.beq pc 6 then js_c 3 1 else js_none) else (bif Nat.beq pc 7 then js_cne 65 else js_none)) else (bif Nat.ble pc 10 then (bif Nat.beq pc 10 then js_al 0 1 else js_none) else (bif Nat.beq pc 11 then js_dup else js_none)))) else (bif Nat.ble pc 17 then (bif Nat.ble pc 15 then (bif Nat.ble pc 12 then (bif Nat.beq pc 12 then js_getf 8 11 else js_none) else (bif Nat.beq pc 15 then js_c 1 1 else js_none)) else (bif Nat.ble pc 16 then (bif Nat.beq pc 16 then js_iadd else js_none) else (bif Nat.beq pc 17 then js_putf 8 11 false else js_none))) else (bif Nat.ble pc 21 then (bif Nat.ble pc 20 then (bif Nat.beq pc 20 then js_al 0 1 else js_none) else (bif Nat.beq pc 21 then js_getf 8 12 else js_none)) else (bif Nat.beq pc 24 then js_al 0 1 else js_none)))) else (bif Nat.ble pc 35 then (bif Nat.ble pc 30 then (bif Nat.ble pc 28 then (bif Nat.ble pc 25 then (bif Nat.beq pc 25 then js_getf 8 11 else js_none) else (bif Nat.beq pc 28 then js_il 2 1 else js_none)) else (bif Nat.ble pc 29 then (bif Nat.beq pc 29 then js_ast else js_none) else (bif Nat.beq pc 30 then js_al 0 1 else js_none))) else (bif Nat.ble pc 34 then (bif Nat.ble pc 31 then (bif Nat.beq pc 31 then js_getf 8 13 else js_none) else (bif Nat.beq pc 34 then js_al 0 1 else js_none)) else (bif Nat.beq pc 35 then js_getf 8 11 else js_none))) else (bif Nat.ble pc 43 then (bif Nat.ble pc 39 then (bif Nat.ble pc 38 then (bif Nat.beq pc 38 then js_al 0 1 else js_none) else (bif Nat.beq pc 39 then js_getf 8 8 else js_none)) else (bif Nat.ble pc 42 then (bif Nat.beq pc 42 then js_il 1 1 else js_none) else (bif Nat.beq pc 43 then js_ald else js_none))) else (bif Nat.ble pc 45 then (bif Nat.ble pc 44 then (bif Nat.beq pc 44 then js_ast else js_none) else (bif Nat.beq pc 45 then js_al 0 1 else js_none)) else (bif Nat.beq pc 46 then js_al 0 1 else js_none))))) else (bif Nat.ble pc 70 then (bif Nat.ble pc 59 then (bif Nat.ble pc 54 then (bif Nat.ble pc 50 then (bif Nat.ble pc 47 then (bif Nat.beq pc 47 then js_getf 8 11 else js_none) else (bif Nat.beq pc 50 then js_putf 8 19 false else js_none)) else (bif Nat.ble pc 53 then (bif Nat.beq pc 53 then js_al 0 1 else js_none) else (bif Nat.beq pc 54 then js_al 0 1 else js_none))) else (bif Nat.ble pc 58 then (bif Nat.ble pc 55 then (bif Nat.beq pc 55 then js_getf 8 7 else js_none) else (bif Nat.beq pc 58 then js_il 1 1 else js_none)) else (bif Nat.beq pc 59 then js_ald else js_none))) else (bif Nat.ble pc 65 then (bif Nat.ble pc 63 then (bif Nat.ble pc 60 then (bif Nat.beq pc 60 then js_putf 8 18 false else js_none) else (bif Nat.beq pc 63 then js_c 1 1 else js_none)) else (bif Nat.ble pc 64 then (bif Nat.beq pc 64 then js_zr else js_none) else (bif Nat.beq pc 65 then js_al 0 1 else js_none))) else (bif Nat.ble pc 69 then (bif Nat.ble pc 66 then (bif Nat.beq pc 66 then js_getf 8 6 else js_none) else (bif Nat.beq pc 69 then js_il 1 1 else js_none)) else (bif Nat.beq pc 70 then js_ald else js_none)))) else (bif Nat.ble pc 81 then (bif Nat.ble pc 76 then (bif Nat.ble pc 72 then (bif Nat.ble pc 71 then (bif Nat.beq pc 71 then js_c 5 1 else js_none) else (bif Nat.beq pc 72 then js_ceq 80 else js_none)) else (bif Nat.ble pc 75 then (bif Nat.beq pc 75 then js_al 0 1 else js_none) else (bif Nat.beq pc 76 then js_v0 8 99 else js_none))) else (bif Nat.ble pc 80 then (bif Nat.ble pc 79 then (bif Nat.beq pc 79 then js_zr else js_none) else (bif Nat.beq pc 80 then js_al 0 1 else js_none)) else (bif Nat.beq pc 81 then js_getf 8 8 else js_none))) else (bif Nat.ble pc 87 then (bif Nat.ble pc 85 then (bif Nat.ble pc 84 then (bif Nat.beq pc 84 then js_il 1 1 else js_none) else (bif Nat.beq pc 85 then js_ald else js_none)) else (bif Nat.ble pc 86 then (bif Nat.beq pc 86 then js_is 3 1 else js_none) else (bif Nat.beq pc 87 then js_al 0 1 else js_none))) else (bif Nat.ble pc 89 then (bif Nat.ble pc 88 then (bif Nat.beq pc 88 then js_al 0 1 else js_none) else (bif Nat.beq pc 89 then js_c 5 1 else js_none)) else (bif Nat.beq pc 90 then js_al 0 1 else js_none)))))) else (bif Nat.ble pc 136 then (bif Nat.ble pc 112 then (bif Nat.ble pc 99 then (bif Nat.ble pc 96 then (bif Nat.ble pc 94 then (bif Nat.ble pc 91 then (bif Nat.beq pc 91 then js_getf 8 7 else js_none) else (bif Nat.beq pc 94 then js_il 1 1 else js_none)) else (bif Nat.ble pc 95 then (bif Nat.beq pc 95 then js_ald else js_none) else (bif Nat.beq pc 96 then js_il 3 1 else js_none))) else (bif Nat.ble pc 98 then (bif Nat.ble pc 97 then (bif Nat.beq pc 97 then js_c 1 1 else js_none) else (bif Nat.beq pc 98 then js_iadd else js_none)) else (bif Nat.beq pc 99 then js_il 3 1 else js_none))) else (bif Nat.ble pc 107 then (bif Nat.ble pc 103 then (bif Nat.ble pc 100 then (bif Nat.beq pc 100 then js_ifne 107 else js_none) else (bif Nat.beq pc 103 then js_il 2 1 else js_none)) else (bif Nat.ble pc 104 then (bif Nat.beq pc 104 then js_go 113 else js_none) else (bif Nat.beq pc 107 then js_al 0 1 else js_none))) else (bif Nat.ble pc 111 then (bif Nat.ble pc 108 then (bif Nat.beq pc 108 then js_getf 8 9 else js_none) else (bif Nat.beq pc 111 then js_il 1 1 else js_none)) else (bif Nat.beq pc 112 then js_ald else js_none)))) else (bif Nat.ble pc 123 then (bif Nat.ble pc 118 then (bif Nat.ble pc 114 then (bif Nat.ble pc 113 then (bif Nat.beq pc 113 then js_il 3 1 else js_none) else (bif Nat.beq pc 114 then js_c 1 1 else js_none)) else (bif Nat.ble pc 115 then (bif Nat.beq pc 115 then js_cne 122 else js_none) else (bif Nat.beq pc 118 then js_il 2 1 else js_none))) else (bif Nat.ble pc 122 then (bif Nat.ble pc 119 then (bif Nat.beq pc 119 then js_go 128 else js_none) else (bif Nat.beq pc 122 then js_al 0 1 else js_none)) else (bif Nat.beq pc 123 then js_getf 8 10 else js_none))) else (bif Nat.ble pc 131 then (bif Nat.ble pc 127 then (bif Nat.ble pc 126 then (bif Nat.beq pc 126 then js_il 1 1 else js_none) else (bif Nat.beq pc 127 then js_ald else js_none)) else (bif Nat.ble pc 128 then (bif Nat.beq pc 128 then js_v5 8 94 else js_none) else (bif Nat.beq pc 131 then js_putf 8 20 false else js_none))) else (bif Nat.ble pc 135 then (bif Nat.ble pc 134 then (bif Nat.beq pc 134 then js_il 3 1 else js_none) else (bif Nat.beq pc 135 then js_c 1 1 else js_none)) else (bif Nat.beq pc 136 then js_iadd else js_none))))) else (bif Nat.ble pc 160 then (bif Nat.ble pc 149 then (bif Nat.ble pc 142 then (bif Nat.ble pc 138 then (bif Nat.ble pc 137 then (bif Nat.beq pc 137 then js_al 0 1 else js_none) else (bif Nat.beq pc 138 then js_getf 8 7 else js_none)) else (bif Nat.ble pc 141 then (bif Nat.beq pc 141 then js_il 1 1 else js_none) else (bif Nat.beq pc 142 then js_ald else js_none))) else (bif Nat.ble pc 146 then (bif Nat.ble pc 143 then (bif Nat.beq pc 143 then js_s1 97 else js_none) else (bif Nat.beq pc 146 then js_clt 181 else js_none)) else (bif Nat.beq pc 149 then js_al 0 1 else js_none))) else (bif Nat.ble pc 155 then (bif Nat.ble pc 151 then (bif Nat.ble pc 150 then (bif Nat.beq pc 150 then js_al 0 1 else js_none) else (bif Nat.beq pc 151 then js_getf 8 7 else js_none)) else (bif Nat.ble pc 154 then (bif Nat.beq pc 154 then js_il 1 1 else js_none) else (bif Nat.beq pc 155 then js_ald else js_none))) else (bif Nat.ble pc 157 then (bif Nat.ble pc 156 then (bif Nat.beq pc 156 then js_al 0 1 else js_none) else (bif Nat.beq pc 157 then js_getf 8 9 else js_none)) else (bif Nat.beq pc 160 then js_al 0 1 else js_none)))) else (bif Nat.ble pc 173 then (bif Nat.ble pc 166 then (bif Nat.ble pc 164 then (bif Nat.ble pc 161 then (bif Nat.beq pc 161 then js_getf 8 20 else js_none) else (bif Nat.beq pc 164 then js_ald else js_none)) else (bif Nat.ble pc 165 then (bif Nat.beq pc 165 then js_al 0 1 else js_none) else (bif Nat.beq pc 166 then js_getf 8 10 else js_none))) else (bif Nat.ble pc 170 then (bif Nat.ble pc 169 then (bif Nat.beq pc 169 then js_al 0 1 else js_none) else (bif Nat.beq pc 170 then js_getf 8 20 else js_none)) else (bif Nat.beq pc 173 then js_ald else js_none))) else (bif Nat.ble pc 181 then (bif Nat.ble pc 175 then (bif Nat.ble pc 174 then (bif Nat.beq pc 174 then js_il 2 1 else js_none) else (bif Nat.beq pc 175 then js_v4 8 105 else js_none)) else (bif Nat.ble pc 178 then (bif Nat.beq pc 178 then js_ifeq 185 else js_none) else (bif Nat.beq pc 181 then js_c 1 1 else js_none))) else (bif Nat.ble pc 185 then (bif Nat.ble pc 182 then (bif Nat.beq pc 182 then js_go 186 else js_none) else (bif Nat.beq pc 185 then js_c 0 1 else js_none)) else (bif Nat.beq pc 186 then js_zr else js_none))))))
theorem jk_103_0 : jx_Snd 103 0 (js_al 0 1) := jo_aload_n (i := 0) (w := 0) rfl jd_103_0
theorem jk_103_1 : jx_Snd 103 1 (js_getf 8 6) := jo_getf rfl jf_8_19 jd_103_1
theorem jk_103_4 : jx_Snd 103 4 (js_il 1 1) := jo_iload_n (i := 1) (w := 1) rfl jd_103_4
theorem jk_103_5 : jx_Snd 103 5 (js_ald) := jo_ald jd_103_5
theorem jk_103_6 : jx_Snd 103 6 (js_c 3 1) := jo_iconst (z := 3) jd_103_6 rfl
theorem jk_103_7 : jx_Snd 103 7 (js_cne 65) := jo_cne (o := 58) rfl jd_103_7
theorem jk_103_10 : jx_Snd 103 10 (js_al 0 1) := jo_aload_n (i := 0) (w := 0) rfl jd_103_10
theorem jk_103_11 : jx_Snd 103 11 (js_dup) := jo_dup jd_103_11
theorem jk_103_12 : jx_Snd 103 12 (js_getf 8 11) := jo_getf rfl jf_8_166 jd_103_12
theorem jk_103_15 : jx_Snd 103 15 (js_c 1 1) := jo_iconst (z := 1) jd_103_15 rfl
theorem jk_103_16 : jx_Snd 103 16 (js_iadd) := jo_iadd jd_103_16
theorem jk_103_17 : jx_Snd 103 17 (js_putf 8 11 false) := jo_putf (z := false) rfl jf_8_166 (fun C T N h => by cases h; rfl) jd_103_17
theorem jk_103_20 : jx_Snd 103 20 (js_al 0 1) := jo_aload_n (i := 0) (w := 0) rfl jd_103_20
theorem jk_103_21 : jx_Snd 103 21 (js_getf 8 12) := jo_getf rfl jf_8_34 jd_103_21
theorem jk_103_24 : jx_Snd 103 24 (js_al 0 1) := jo_aload_n (i := 0) (w := 0) rfl jd_103_24
theorem jk_103_25 : jx_Snd 103 25 (js_getf 8 11) := jo_getf rfl jf_8_166 jd_103_25
theorem jk_103_28 : jx_Snd 103 28 (js_il 2 1) := jo_iload_n (i := 2) (w := 2) rfl jd_103_28
theorem jk_103_29 : jx_Snd 103 29 (js_ast) := jo_ast jd_103_29
theorem jk_103_30 : jx_Snd 103 30 (js_al 0 1) := jo_aload_n (i := 0) (w := 0) rfl jd_103_30
theorem jk_103_31 : jx_Snd 103 31 (js_getf 8 13) := jo_getf rfl jf_8_37 jd_103_31
theorem jk_103_34 : jx_Snd 103 34 (js_al 0 1) := jo_aload_n (i := 0) (w := 0) rfl jd_103_34
theorem jk_103_35 : jx_Snd 103 35 (js_getf 8 11) := jo_getf rfl jf_8_166 jd_103_35
theorem jk_103_38 : jx_Snd 103 38 (js_al 0 1) := jo_aload_n (i := 0) (w := 0) rfl jd_103_38
theorem jk_103_39 : jx_Snd 103 39 (js_getf 8 8) := jo_getf rfl jf_8_25 jd_103_39
theorem jk_103_42 : jx_Snd 103 42 (js_il 1 1) := jo_iload_n (i := 1) (w := 1) rfl jd_103_42
theorem jk_103_43 : jx_Snd 103 43 (js_ald) := jo_ald jd_103_43
theorem jk_103_44 : jx_Snd 103 44 (js_ast) := jo_ast jd_103_44
theorem jk_103_45 : jx_Snd 103 45 (js_al 0 1) := jo_aload_n (i := 0) (w := 0) rfl jd_103_45
theorem jk_103_46 : jx_Snd 103 46 (js_al 0 1) := jo_aload_n (i := 0) (w := 0) rfl jd_103_46
theorem jk_103_47 : jx_Snd 103 47 (js_getf 8 11) := jo_getf rfl jf_8_166 jd_103_47
theorem jk_103_50 : jx_Snd 103 50 (js_putf 8 19 false) := jo_putf (z := false) rfl jf_8_142 (fun C T N h => by cases h; rfl) jd_103_50
theorem jk_103_53 : jx_Snd 103 53 (js_al 0 1) := jo_aload_n (i := 0) (w := 0) rfl jd_103_53
theorem jk_103_54 : jx_Snd 103 54 (js_al 0 1) := jo_aload_n (i := 0) (w := 0) rfl jd_103_54
theorem jk_103_55 : jx_Snd 103 55 (js_getf 8 7) := jo_getf rfl jf_8_22 jd_103_55
theorem jk_103_58 : jx_Snd 103 58 (js_il 1 1) := jo_iload_n (i := 1) (w := 1) rfl jd_103_58
theorem jk_103_59 : jx_Snd 103 59 (js_ald) := jo_ald jd_103_59
theorem jk_103_60 : jx_Snd 103 60 (js_putf 8 18 false) := jo_putf (z := false) rfl jf_8_135 (fun C T N h => by cases h; rfl) jd_103_60
theorem jk_103_63 : jx_Snd 103 63 (js_c 1 1) := jo_iconst (z := 1) jd_103_63 rfl
theorem jk_103_64 : jx_Snd 103 64 (js_zr) := jo_zr rfl jd_103_64
theorem jk_103_65 : jx_Snd 103 65 (js_al 0 1) := jo_aload_n (i := 0) (w := 0) rfl jd_103_65
theorem jk_103_66 : jx_Snd 103 66 (js_getf 8 6) := jo_getf rfl jf_8_19 jd_103_66
theorem jk_103_69 : jx_Snd 103 69 (js_il 1 1) := jo_iload_n (i := 1) (w := 1) rfl jd_103_69
theorem jk_103_70 : jx_Snd 103 70 (js_ald) := jo_ald jd_103_70
theorem jk_103_71 : jx_Snd 103 71 (js_c 5 1) := jo_iconst (z := 5) jd_103_71 rfl
theorem jk_103_72 : jx_Snd 103 72 (js_ceq 80) := jo_ceq (o := 8) rfl jd_103_72
theorem jk_103_75 : jx_Snd 103 75 (js_al 0 1) := jo_aload_n (i := 0) (w := 0) rfl jd_103_75
theorem jk_103_76 : jx_Snd 103 76 (js_v0 8 99) := jo_v0 rfl jok_99 (Or.inl jw_556) jw_557 jw_722 rfl jd_103_76
theorem jk_103_79 : jx_Snd 103 79 (js_zr) := jo_zr rfl jd_103_79
theorem jk_103_80 : jx_Snd 103 80 (js_al 0 1) := jo_aload_n (i := 0) (w := 0) rfl jd_103_80
theorem jk_103_81 : jx_Snd 103 81 (js_getf 8 8) := jo_getf rfl jf_8_25 jd_103_81
theorem jk_103_84 : jx_Snd 103 84 (js_il 1 1) := jo_iload_n (i := 1) (w := 1) rfl jd_103_84
theorem jk_103_85 : jx_Snd 103 85 (js_ald) := jo_ald jd_103_85
theorem jk_103_86 : jx_Snd 103 86 (js_is 3 1) := jo_istore_n (i := 3) (w := 3) rfl (Nat.le_of_ble_eq_true rfl) jd_103_86
theorem jk_103_87 : jx_Snd 103 87 (js_al 0 1) := jo_aload_n (i := 0) (w := 0) rfl jd_103_87
theorem jk_103_88 : jx_Snd 103 88 (js_al 0 1) := jo_aload_n (i := 0) (w := 0) rfl jd_103_88
theorem jk_103_89 : jx_Snd 103 89 (js_c 5 1) := jo_iconst (z := 5) jd_103_89 rfl
theorem jk_103_90 : jx_Snd 103 90 (js_al 0 1) := jo_aload_n (i := 0) (w := 0) rfl jd_103_90
theorem jk_103_91 : jx_Snd 103 91 (js_getf 8 7) := jo_getf rfl jf_8_22 jd_103_91
theorem jk_103_94 : jx_Snd 103 94 (js_il 1 1) := jo_iload_n (i := 1) (w := 1) rfl jd_103_94
theorem jk_103_95 : jx_Snd 103 95 (js_ald) := jo_ald jd_103_95
theorem jk_103_96 : jx_Snd 103 96 (js_il 3 1) := jo_iload_n (i := 3) (w := 3) rfl jd_103_96
theorem jk_103_97 : jx_Snd 103 97 (js_c 1 1) := jo_iconst (z := 1) jd_103_97 rfl
theorem jk_103_98 : jx_Snd 103 98 (js_iadd) := jo_iadd jd_103_98
theorem jk_103_99 : jx_Snd 103 99 (js_il 3 1) := jo_iload_n (i := 3) (w := 3) rfl jd_103_99
theorem jk_103_100 : jx_Snd 103 100 (js_ifne 107) := jo_ifne (o := 7) rfl jd_103_100
theorem jk_103_103 : jx_Snd 103 103 (js_il 2 1) := jo_iload_n (i := 2) (w := 2) rfl jd_103_103
theorem jk_103_104 : jx_Snd 103 104 (js_go 113) := jo_goto (o := 9) rfl jd_103_104
theorem jk_103_107 : jx_Snd 103 107 (js_al 0 1) := jo_aload_n (i := 0) (w := 0) rfl jd_103_107
theorem jk_103_108 : jx_Snd 103 108 (js_getf 8 9) := jo_getf rfl jf_8_28 jd_103_108
theorem jk_103_111 : jx_Snd 103 111 (js_il 1 1) := jo_iload_n (i := 1) (w := 1) rfl jd_103_111
theorem jk_103_112 : jx_Snd 103 112 (js_ald) := jo_ald jd_103_112
theorem jk_103_113 : jx_Snd 103 113 (js_il 3 1) := jo_iload_n (i := 3) (w := 3) rfl jd_103_113
theorem jk_103_114 : jx_Snd 103 114 (js_c 1 1) := jo_iconst (z := 1) jd_103_114 rfl
theorem jk_103_115 : jx_Snd 103 115 (js_cne 122) := jo_cne (o := 7) rfl jd_103_115
theorem jk_103_118 : jx_Snd 103 118 (js_il 2 1) := jo_iload_n (i := 2) (w := 2) rfl jd_103_118
theorem jk_103_119 : jx_Snd 103 119 (js_go 128) := jo_goto (o := 9) rfl jd_103_119
theorem jk_103_122 : jx_Snd 103 122 (js_al 0 1) := jo_aload_n (i := 0) (w := 0) rfl jd_103_122
theorem jk_103_123 : jx_Snd 103 123 (js_getf 8 10) := jo_getf rfl jf_8_31 jd_103_123
theorem jk_103_126 : jx_Snd 103 126 (js_il 1 1) := jo_iload_n (i := 1) (w := 1) rfl jd_103_126
theorem jk_103_127 : jx_Snd 103 127 (js_ald) := jo_ald jd_103_127
theorem jk_103_128 : jx_Snd 103 128 (js_v5 8 94) := jo_v5 rfl jok_94 (Or.inl jw_538) jw_539 jw_716 rfl jd_103_128
theorem jk_103_131 : jx_Snd 103 131 (js_putf 8 20 false) := jo_putf (z := false) rfl jf_8_145 (fun C T N h => by cases h; rfl) jd_103_131
theorem jk_103_134 : jx_Snd 103 134 (js_il 3 1) := jo_iload_n (i := 3) (w := 3) rfl jd_103_134
theorem jk_103_135 : jx_Snd 103 135 (js_c 1 1) := jo_iconst (z := 1) jd_103_135 rfl
theorem jk_103_136 : jx_Snd 103 136 (js_iadd) := jo_iadd jd_103_136
theorem jk_103_137 : jx_Snd 103 137 (js_al 0 1) := jo_aload_n (i := 0) (w := 0) rfl jd_103_137
theorem jk_103_138 : jx_Snd 103 138 (js_getf 8 7) := jo_getf rfl jf_8_22 jd_103_138
theorem jk_103_141 : jx_Snd 103 141 (js_il 1 1) := jo_iload_n (i := 1) (w := 1) rfl jd_103_141
theorem jk_103_142 : jx_Snd 103 142 (js_ald) := jo_ald jd_103_142
theorem jk_103_143 : jx_Snd 103 143 (js_s1 97) := jo_s1 rfl jok_97 (Or.inl jw_565) jw_566 jd_103_143
theorem jk_103_146 : jx_Snd 103 146 (js_clt 181) := jo_clt (o := 35) rfl jd_103_146
theorem jk_103_149 : jx_Snd 103 149 (js_al 0 1) := jo_aload_n (i := 0) (w := 0) rfl jd_103_149
theorem jk_103_150 : jx_Snd 103 150 (js_al 0 1) := jo_aload_n (i := 0) (w := 0) rfl jd_103_150
theorem jk_103_151 : jx_Snd 103 151 (js_getf 8 7) := jo_getf rfl jf_8_22 jd_103_151
theorem jk_103_154 : jx_Snd 103 154 (js_il 1 1) := jo_iload_n (i := 1) (w := 1) rfl jd_103_154
theorem jk_103_155 : jx_Snd 103 155 (js_ald) := jo_ald jd_103_155
theorem jk_103_156 : jx_Snd 103 156 (js_al 0 1) := jo_aload_n (i := 0) (w := 0) rfl jd_103_156
theorem jk_103_157 : jx_Snd 103 157 (js_getf 8 9) := jo_getf rfl jf_8_28 jd_103_157
theorem jk_103_160 : jx_Snd 103 160 (js_al 0 1) := jo_aload_n (i := 0) (w := 0) rfl jd_103_160
theorem jk_103_161 : jx_Snd 103 161 (js_getf 8 20) := jo_getf rfl jf_8_145 jd_103_161
theorem jk_103_164 : jx_Snd 103 164 (js_ald) := jo_ald jd_103_164
theorem jk_103_165 : jx_Snd 103 165 (js_al 0 1) := jo_aload_n (i := 0) (w := 0) rfl jd_103_165
theorem jk_103_166 : jx_Snd 103 166 (js_getf 8 10) := jo_getf rfl jf_8_31 jd_103_166
theorem jk_103_169 : jx_Snd 103 169 (js_al 0 1) := jo_aload_n (i := 0) (w := 0) rfl jd_103_169
theorem jk_103_170 : jx_Snd 103 170 (js_getf 8 20) := jo_getf rfl jf_8_145 jd_103_170
theorem jk_103_173 : jx_Snd 103 173 (js_ald) := jo_ald jd_103_173
theorem jk_103_174 : jx_Snd 103 174 (js_il 2 1) := jo_iload_n (i := 2) (w := 2) rfl jd_103_174
theorem jk_103_175 : jx_Snd 103 175 (js_v4 8 105) := jo_v4 rfl jok_105 (Or.inl jw_568) jw_569 jw_725 rfl jd_103_175
theorem jk_103_178 : jx_Snd 103 178 (js_ifeq 185) := jo_ifeq (o := 7) rfl jd_103_178
theorem jk_103_181 : jx_Snd 103 181 (js_c 1 1) := jo_iconst (z := 1) jd_103_181 rfl
theorem jk_103_182 : jx_Snd 103 182 (js_go 186) := jo_goto (o := 4) rfl jd_103_182
theorem jk_103_185 : jx_Snd 103 185 (js_c 0 1) := jo_iconst (z := 0) jd_103_185 rfl
theorem jk_103_186 : jx_Snd 103 186 (js_zr) := jo_zr rfl jd_103_186
theorem jk_103 : jx_So 103 jt_103 := fun pc => jo_le (jo_le (jo_le (jo_le (jo_le (jo_le (jo_le (jo_at (jk_103_0)) (jo_at (jk_103_1))) (jo_le (jo_at (jk_103_4)) (jo_at (jk_103_5)))) (jo_le (jo_le (jo_at (jk_103_6)) (jo_at (jk_103_7))) (jo_le (jo_at (jk_103_10)) (jo_at (jk_103_11))))) (jo_le (jo_le (jo_le (jo_at (jk_103_12)) (jo_at (jk_103_15))) (jo_le (jo_at (jk_103_16)) (jo_at (jk_103_17)))) (jo_le (jo_le (jo_at (jk_103_20)) (jo_at (jk_103_21))) (jo_at (jk_103_24))))) (jo_le (jo_le (jo_le (jo_le (jo_at (jk_103_25)) (jo_at (jk_103_28))) (jo_le (jo_at (jk_103_29)) (jo_at (jk_103_30)))) (jo_le (jo_le (jo_at (jk_103_31)) (jo_at (jk_103_34))) (jo_at (jk_103_35)))) (jo_le (jo_le (jo_le (jo_at (jk_103_38)) (jo_at (jk_103_39))) (jo_le (jo_at (jk_103_42)) (jo_at (jk_103_43)))) (jo_le (jo_le (jo_at (jk_103_44)) (jo_at (jk_103_45))) (jo_at (jk_103_46)))))) (jo_le (jo_le (jo_le (jo_le (jo_le (jo_at (jk_103_47)) (jo_at (jk_103_50))) (jo_le (jo_at (jk_103_53)) (jo_at (jk_103_54)))) (jo_le (jo_le (jo_at (jk_103_55)) (jo_at (jk_103_58))) (jo_at (jk_103_59)))) (jo_le (jo_le (jo_le (jo_at (jk_103_60)) (jo_at (jk_103_63))) (jo_le (jo_at (jk_103_64)) (jo_at (jk_103_65)))) (jo_le (jo_le (jo_at (jk_103_66)) (jo_at (jk_103_69))) (jo_at (jk_103_70))))) (jo_le (jo_le (jo_le (jo_le (jo_at (jk_103_71)) (jo_at (jk_103_72))) (jo_le (jo_at (jk_103_75)) (jo_at (jk_103_76)))) (jo_le (jo_le (jo_at (jk_103_79)) (jo_at (jk_103_80))) (jo_at (jk_103_81)))) (jo_le (jo_le (jo_le (jo_at (jk_103_84)) (jo_at (jk_103_85))) (jo_le (jo_at (jk_103_86)) (jo_at (jk_103_87)))) (jo_le (jo_le (jo_at (jk_103_88)) (jo_at (jk_103_89))) (jo_at (jk_103_90))))))) (jo_le (jo_le (jo_le (jo_le (jo_le (jo_le (jo_at (jk_103_91)) (jo_at (jk_103_94))) (jo_le (jo_at (jk_103_95)) (jo_at (jk_103_96)))) (jo_le (jo_le (jo_at (jk_103_97)) (jo_at (jk_103_98))) (jo_at (jk_103_99)))) (jo_le (jo_le (jo_le (jo_at (jk_103_100)) (jo_at (jk_103_103))) (jo_le (jo_at (jk_103_104)) (jo_at (jk_103_107)))) (jo_le (jo_le (jo_at (jk_103_108)) (jo_at (jk_103_111))) (jo_at (jk_103_112))))) (jo_le (jo_le (jo_le (jo_le (jo_at (jk_103_113)) (jo_at (jk_103_114))) (jo_le (jo_at (jk_103_115)) (jo_at (jk_103_118)))) (jo_le (jo_le (jo_at (jk_103_119)) (jo_at (jk_103_122))) (jo_at (jk_103_123)))) (jo_le (jo_le (jo_le (jo_at (jk_103_126)) (jo_at (jk_103_127))) (jo_le (jo_at (jk_103_128)) (jo_at (jk_103_131)))) (jo_le (jo_le (jo_at (jk_103_134)) (jo_at (jk_103_135))) (jo_at (jk_103_136)))))) (jo_le (jo_le (jo_le (jo_le (jo_le (jo_at (jk_103_137)) (jo_at (jk_103_138))) (jo_le (jo_at (jk_103_141)) (jo_at (jk_103_142)))) (jo_le (jo_le (jo_at (jk_103_143)) (jo_at (jk_103_146))) (jo_at (jk_103_149)))) (jo_le (jo_le (jo_le (jo_at (jk_103_150)) (jo_at (jk_103_151))) (jo_le (jo_at (jk_103_154)) (jo_at (jk_103_155)))) (jo_le (jo_le (jo_at (jk_103_156)) (jo_at (jk_103_157))) (jo_at (jk_103_160))))) (jo_le (jo_le (jo_le (jo_le (jo_at (jk_103_161)) (jo_at (jk_103_164))) (jo_le (jo_at (jk_103_165)) (jo_at (jk_103_166)))) (jo_le (jo_le (jo_at (jk_103_169)) (jo_at (jk_103_170))) (jo_at (jk_103_173)))) (jo_le (jo_le (jo_le (jo_at (jk_103_174)) (jo_at (jk_103_175))) (jo_le (jo_at (jk_103_178)) (jo_at (jk_103_181)))) (jo_le (jo_le (jo_at (jk_103_182)) (jo_at (jk_103_185))) (jo_at (jk_103_186)))))))
theorem ji_103 {l : Launch} {D : va_G} {cA : ClassId} {ρ : Nat → Nat} {Λ : List jx_Lc} {d : Nat} {Q : Option Value → jx_St → Prop} {σ : jx_St} {z0 : Nat} {a1 : Int32} {a2 : Int32} (h : jt_103 0 Λ jx_tb0 (jx_rn Λ jx_tb0 jt_103 (fun k' as σ K => jx_C l D cA ρ Λ d k' as σ K) Q (jx_J l D cA ρ Λ (jx_A ρ Λ) jx_tb0 (d + 1) 103 Q) [] 400) (fun k' as σ K => jx_C l D cA ρ Λ d k' as σ K) Q 0 [(0, .ref z0), (1, .int a1), (2, .int a2)] [] σ) : jx_C l D cA ρ Λ (d + 1) 103 [.ref z0, .int a1, .int a2] σ Q := jx_in jk_103 400 [] rfl (Nat.le_of_ble_eq_true rfl) h
/-! ScriptLedgerModel.isWhole(I)Z -/
theorem jd_104_0 : decode prog_10_method_17_code 0 = .ok (.aload_n 0, 1) := by decide +kernel
theorem jd_104_1 : decode prog_10_method_17_code 1 = .ok (.getfield 19, 3) := by decide +kernel
theorem jd_104_4 : decode prog_10_method_17_code 4 = .ok (.iload_n 1, 1) := by decide +kernel
theorem jd_104_5 : decode prog_10_method_17_code 5 = .ok (.iaload, 1) := by decide +kernel
theorem jd_104_6 : decode prog_10_method_17_code 6 = .ok (.ifCond .ne 7, 3) := by decide +kernel
theorem jd_104_9 : decode prog_10_method_17_code 9 = .ok (.iconst 1, 1) := by decide +kernel
theorem jd_104_10 : decode prog_10_method_17_code 10 = .ok (.goto 4, 3) := by decide +kernel
theorem jd_104_13 : decode prog_10_method_17_code 13 = .ok (.iconst 0, 1) := by decide +kernel
theorem jd_104_14 : decode prog_10_method_17_code 14 = .ok (.ireturn, 1) := by decide +kernel
def jt_104 (pc : Nat) : jx_Sp := bif Nat.ble pc 6 then (bif Nat.ble pc 4 then (bif Nat.ble pc 1 then (bif Nat.ble pc 0 then (bif Nat.beq pc 0 then js_al 0 1 else js_none) else (bif Nat.beq pc 1 then js_getf 8 6 else js_none)) else (bif Nat.beq pc 4 then js_il 1 1 else js_none)) else (bif Nat.ble pc 5 then (bif Nat.beq pc 5 then js_ald else js_none) else (bif Nat.beq pc 6 then js_ifne 13 else js_none))) else (bif Nat.ble pc 10 then (bif Nat.ble pc 9 then (bif Nat.beq pc 9 then js_c 1 1 else js_none) else (bif Nat.beq pc 10 then js_go 14 else js_none)) else (bif Nat.ble pc 13 then (bif Nat.beq pc 13 then js_c 0 1 else js_none) else (bif Nat.beq pc 14 then js_zr else js_none)))
theorem jk_104_0 : jx_Snd 104 0 (js_al 0 1) := jo_aload_n (i := 0) (w := 0) rfl jd_104_0
theorem jk_104_1 : jx_Snd 104 1 (js_getf 8 6) := jo_getf rfl jf_8_19 jd_104_1
theorem jk_104_4 : jx_Snd 104 4 (js_il 1 1) := jo_iload_n (i := 1) (w := 1) rfl jd_104_4
theorem jk_104_5 : jx_Snd 104 5 (js_ald) := jo_ald jd_104_5
theorem jk_104_6 : jx_Snd 104 6 (js_ifne 13) := jo_ifne (o := 7) rfl jd_104_6
theorem jk_104_9 : jx_Snd 104 9 (js_c 1 1) := jo_iconst (z := 1) jd_104_9 rfl
theorem jk_104_10 : jx_Snd 104 10 (js_go 14) := jo_goto (o := 4) rfl jd_104_10
theorem jk_104_13 : jx_Snd 104 13 (js_c 0 1) := jo_iconst (z := 0) jd_104_13 rfl
theorem jk_104_14 : jx_Snd 104 14 (js_zr) := jo_zr rfl jd_104_14
theorem jk_104 : jx_So 104 jt_104 := fun pc => jo_le (jo_le (jo_le (jo_le (jo_at (jk_104_0)) (jo_at (jk_104_1))) (jo_at (jk_104_4))) (jo_le (jo_at (jk_104_5)) (jo_at (jk_104_6)))) (jo_le (jo_le (jo_at (jk_104_9)) (jo_at (jk_104_10))) (jo_le (jo_at (jk_104_13)) (jo_at (jk_104_14))))
theorem ji_104 {l : Launch} {D : va_G} {cA : ClassId} {ρ : Nat → Nat} {Λ : List jx_Lc} {d : Nat} {Q : Option Value → jx_St → Prop} {σ : jx_St} {z0 : Nat} {a1 : Int32} (h : jt_104 0 Λ jx_tb0 (jx_rn Λ jx_tb0 jt_104 (fun k' as σ K => jx_C l D cA ρ Λ d k' as σ K) Q (jx_J l D cA ρ Λ (jx_A ρ Λ) jx_tb0 (d + 1) 104 Q) [] 400) (fun k' as σ K => jx_C l D cA ρ Λ d k' as σ K) Q 0 [(0, .ref z0), (1, .int a1)] [] σ) : jx_C l D cA ρ Λ (d + 1) 104 [.ref z0, .int a1] σ Q := jx_in jk_104 400 [] rfl (Nat.le_of_ble_eq_true rfl) h

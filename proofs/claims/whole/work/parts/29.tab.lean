/-! ScriptLedgerModel.done(IIII)Z -/
theorem jd_105_0 : decode prog_10_method_18_code 0 = .ok (.aload_n 0, 1) := by decide +kernel
theorem jd_105_1 : decode prog_10_method_18_code 1 = .ok (.iload_n 1, 1) := by decide +kernel
theorem jd_105_2 : decode prog_10_method_18_code 2 = .ok (.iconst 2, 1) := by decide +kernel
theorem jd_105_3 : decode prog_10_method_18_code 3 = .ok (.if_icmp .eq 8, 3) := by decide +kernel
theorem jd_105_6 : decode prog_10_method_18_code 6 = .ok (.iload_n 1, 1) := by decide +kernel
theorem jd_105_7 : decode prog_10_method_18_code 7 = .ok (.iconst 3, 1) := by decide +kernel
theorem jd_105_8 : decode prog_10_method_18_code 8 = .ok (.if_icmp .ne 7, 3) := by decide +kernel
theorem jd_105_11 : decode prog_10_method_18_code 11 = .ok (.iconst 3, 1) := by decide +kernel
theorem jd_105_12 : decode prog_10_method_18_code 12 = .ok (.goto 4, 3) := by decide +kernel
theorem jd_105_15 : decode prog_10_method_18_code 15 = .ok (.iconst 1, 1) := by decide +kernel
theorem jd_105_16 : decode prog_10_method_18_code 16 = .ok (.invokevirtual 138, 3) := by decide +kernel
theorem jd_105_19 : decode prog_10_method_18_code 19 = .ok (.ifCond .ne 5, 3) := by decide +kernel
theorem jd_105_22 : decode prog_10_method_18_code 22 = .ok (.iconst 0, 1) := by decide +kernel
theorem jd_105_23 : decode prog_10_method_18_code 23 = .ok (.ireturn, 1) := by decide +kernel
theorem jd_105_24 : decode prog_10_method_18_code 24 = .ok (.iload_n 1, 1) := by decide +kernel
theorem jd_105_25 : decode prog_10_method_18_code 25 = .ok (.iconst 5, 1) := by decide +kernel
theorem jd_105_26 : decode prog_10_method_18_code 26 = .ok (.if_icmp .gt 44, 3) := by decide +kernel
theorem jd_105_29 : decode prog_10_method_18_code 29 = .ok (.aload_n 0, 1) := by decide +kernel
theorem jd_105_30 : decode prog_10_method_18_code 30 = .ok (.iload_n 2, 1) := by decide +kernel
theorem jd_105_31 : decode prog_10_method_18_code 31 = .ok (.invokevirtual 176, 3) := by decide +kernel
theorem jd_105_34 : decode prog_10_method_18_code 34 = .ok (.ifCond .eq 31, 3) := by decide +kernel
theorem jd_105_37 : decode prog_10_method_18_code 37 = .ok (.aload_n 0, 1) := by decide +kernel
theorem jd_105_38 : decode prog_10_method_18_code 38 = .ok (.iload_n 3, 1) := by decide +kernel
theorem jd_105_39 : decode prog_10_method_18_code 39 = .ok (.invokevirtual 176, 3) := by decide +kernel
theorem jd_105_42 : decode prog_10_method_18_code 42 = .ok (.ifCond .eq 23, 3) := by decide +kernel
theorem jd_105_45 : decode prog_10_method_18_code 45 = .ok (.aload_n 0, 1) := by decide +kernel
theorem jd_105_46 : decode prog_10_method_18_code 46 = .ok (.iload_n 1, 1) := by decide +kernel
theorem jd_105_47 : decode prog_10_method_18_code 47 = .ok (.aload_n 0, 1) := by decide +kernel
theorem jd_105_48 : decode prog_10_method_18_code 48 = .ok (.getfield 22, 3) := by decide +kernel
theorem jd_105_51 : decode prog_10_method_18_code 51 = .ok (.iload_n 2, 1) := by decide +kernel
theorem jd_105_52 : decode prog_10_method_18_code 52 = .ok (.iaload, 1) := by decide +kernel
theorem jd_105_53 : decode prog_10_method_18_code 53 = .ok (.aload_n 0, 1) := by decide +kernel
theorem jd_105_54 : decode prog_10_method_18_code 54 = .ok (.getfield 22, 3) := by decide +kernel
theorem jd_105_57 : decode prog_10_method_18_code 57 = .ok (.iload_n 3, 1) := by decide +kernel
theorem jd_105_58 : decode prog_10_method_18_code 58 = .ok (.iaload, 1) := by decide +kernel
theorem jd_105_59 : decode prog_10_method_18_code 59 = .ok (.invokevirtual 179, 3) := by decide +kernel
theorem jd_105_62 : decode prog_10_method_18_code 62 = .ok (.goto 7, 3) := by decide +kernel
theorem jd_105_65 : decode prog_10_method_18_code 65 = .ok (.aload_n 0, 1) := by decide +kernel
theorem jd_105_66 : decode prog_10_method_18_code 66 = .ok (.invokevirtual 159, 3) := by decide +kernel
theorem jd_105_69 : decode prog_10_method_18_code 69 = .ok (.ireturn, 1) := by decide +kernel
theorem jd_105_70 : decode prog_10_method_18_code 70 = .ok (.iload_n 1, 1) := by decide +kernel
theorem jd_105_71 : decode prog_10_method_18_code 71 = .ok (.bipush 6, 2) := by decide +kernel
theorem jd_105_73 : decode prog_10_method_18_code 73 = .ok (.if_icmp .ne 40, 3) := by decide +kernel
theorem jd_105_76 : decode prog_10_method_18_code 76 = .ok (.aload_n 0, 1) := by decide +kernel
theorem jd_105_77 : decode prog_10_method_18_code 77 = .ok (.getfield 19, 3) := by decide +kernel
theorem jd_105_80 : decode prog_10_method_18_code 80 = .ok (.iload_n 2, 1) := by decide +kernel
theorem jd_105_81 : decode prog_10_method_18_code 81 = .ok (.iaload, 1) := by decide +kernel
theorem jd_105_82 : decode prog_10_method_18_code 82 = .ok (.iconst 1, 1) := by decide +kernel
theorem jd_105_83 : decode prog_10_method_18_code 83 = .ok (.if_icmp .eq 8, 3) := by decide +kernel
theorem jd_105_86 : decode prog_10_method_18_code 86 = .ok (.aload_n 0, 1) := by decide +kernel
theorem jd_105_87 : decode prog_10_method_18_code 87 = .ok (.invokevirtual 159, 3) := by decide +kernel
theorem jd_105_90 : decode prog_10_method_18_code 90 = .ok (.ireturn, 1) := by decide +kernel
theorem jd_105_91 : decode prog_10_method_18_code 91 = .ok (.aload_n 0, 1) := by decide +kernel
theorem jd_105_92 : decode prog_10_method_18_code 92 = .ok (.aload_n 0, 1) := by decide +kernel
theorem jd_105_93 : decode prog_10_method_18_code 93 = .ok (.getfield 22, 3) := by decide +kernel
theorem jd_105_96 : decode prog_10_method_18_code 96 = .ok (.iload_n 2, 1) := by decide +kernel
theorem jd_105_97 : decode prog_10_method_18_code 97 = .ok (.iaload, 1) := by decide +kernel
theorem jd_105_98 : decode prog_10_method_18_code 98 = .ok (.iconst 1, 1) := by decide +kernel
theorem jd_105_99 : decode prog_10_method_18_code 99 = .ok (.if_icmp .ne 7, 3) := by decide +kernel
theorem jd_105_102 : decode prog_10_method_18_code 102 = .ok (.iload_n 3, 1) := by decide +kernel
theorem jd_105_103 : decode prog_10_method_18_code 103 = .ok (.goto 5, 3) := by decide +kernel
theorem jd_105_106 : decode prog_10_method_18_code 106 = .ok (.iload 4, 2) := by decide +kernel
theorem jd_105_108 : decode prog_10_method_18_code 108 = .ok (.putfield 145, 3) := by decide +kernel
theorem jd_105_111 : decode prog_10_method_18_code 111 = .ok (.iconst 1, 1) := by decide +kernel
theorem jd_105_112 : decode prog_10_method_18_code 112 = .ok (.ireturn, 1) := by decide +kernel
theorem jd_105_113 : decode prog_10_method_18_code 113 = .ok (.iload_n 1, 1) := by decide +kernel
theorem jd_105_114 : decode prog_10_method_18_code 114 = .ok (.bipush 7, 2) := by decide +kernel
theorem jd_105_116 : decode prog_10_method_18_code 116 = .ok (.if_icmp .ne 48, 3) := by decide +kernel
theorem jd_105_119 : decode prog_10_method_18_code 119 = .ok (.aload_n 0, 1) := by decide +kernel
theorem jd_105_120 : decode prog_10_method_18_code 120 = .ok (.iload_n 2, 1) := by decide +kernel
theorem jd_105_121 : decode prog_10_method_18_code 121 = .ok (.invokevirtual 176, 3) := by decide +kernel
theorem jd_105_124 : decode prog_10_method_18_code 124 = .ok (.ifCond .ne 13, 3) := by decide +kernel
theorem jd_105_127 : decode prog_10_method_18_code 127 = .ok (.aload_n 0, 1) := by decide +kernel
theorem jd_105_128 : decode prog_10_method_18_code 128 = .ok (.getfield 19, 3) := by decide +kernel
theorem jd_105_131 : decode prog_10_method_18_code 131 = .ok (.iload_n 2, 1) := by decide +kernel
theorem jd_105_132 : decode prog_10_method_18_code 132 = .ok (.iaload, 1) := by decide +kernel
theorem jd_105_133 : decode prog_10_method_18_code 133 = .ok (.iconst 2, 1) := by decide +kernel
theorem jd_105_134 : decode prog_10_method_18_code 134 = .ok (.if_icmp .ne 13, 3) := by decide +kernel
theorem jd_105_137 : decode prog_10_method_18_code 137 = .ok (.aload_n 0, 1) := by decide +kernel
theorem jd_105_138 : decode prog_10_method_18_code 138 = .ok (.getfield 19, 3) := by decide +kernel
theorem jd_105_141 : decode prog_10_method_18_code 141 = .ok (.iload_n 3, 1) := by decide +kernel
theorem jd_105_142 : decode prog_10_method_18_code 142 = .ok (.iaload, 1) := by decide +kernel
theorem jd_105_143 : decode prog_10_method_18_code 143 = .ok (.iconst 2, 1) := by decide +kernel
theorem jd_105_144 : decode prog_10_method_18_code 144 = .ok (.if_icmp .eq 8, 3) := by decide +kernel
theorem jd_105_147 : decode prog_10_method_18_code 147 = .ok (.aload_n 0, 1) := by decide +kernel
theorem jd_105_148 : decode prog_10_method_18_code 148 = .ok (.invokevirtual 159, 3) := by decide +kernel
theorem jd_105_151 : decode prog_10_method_18_code 151 = .ok (.ireturn, 1) := by decide +kernel
theorem jd_105_152 : decode prog_10_method_18_code 152 = .ok (.aload_n 0, 1) := by decide +kernel
theorem jd_105_153 : decode prog_10_method_18_code 153 = .ok (.aload_n 0, 1) := by decide +kernel
theorem jd_105_154 : decode prog_10_method_18_code 154 = .ok (.iload_n 2, 1) := by decide +kernel
theorem jd_105_155 : decode prog_10_method_18_code 155 = .ok (.iload_n 3, 1) := by decide +kernel
theorem jd_105_156 : decode prog_10_method_18_code 156 = .ok (.invokevirtual 183, 3) := by decide +kernel
theorem jd_105_159 : decode prog_10_method_18_code 159 = .ok (.putfield 145, 3) := by decide +kernel
theorem jd_105_162 : decode prog_10_method_18_code 162 = .ok (.iconst 1, 1) := by decide +kernel
theorem jd_105_163 : decode prog_10_method_18_code 163 = .ok (.ireturn, 1) := by decide +kernel
theorem jd_105_164 : decode prog_10_method_18_code 164 = .ok (.aload_n 0, 1) := by decide +kernel
theorem jd_105_165 : decode prog_10_method_18_code 165 = .ok (.getfield 19, 3) := by decide +kernel
theorem jd_105_168 : decode prog_10_method_18_code 168 = .ok (.iload_n 2, 1) := by decide +kernel
theorem jd_105_169 : decode prog_10_method_18_code 169 = .ok (.iaload, 1) := by decide +kernel
theorem jd_105_170 : decode prog_10_method_18_code 170 = .ok (.iconst 2, 1) := by decide +kernel
theorem jd_105_171 : decode prog_10_method_18_code 171 = .ok (.if_icmp .eq 8, 3) := by decide +kernel
theorem jd_105_174 : decode prog_10_method_18_code 174 = .ok (.aload_n 0, 1) := by decide +kernel
theorem jd_105_175 : decode prog_10_method_18_code 175 = .ok (.invokevirtual 159, 3) := by decide +kernel
theorem jd_105_178 : decode prog_10_method_18_code 178 = .ok (.ireturn, 1) := by decide +kernel
theorem jd_105_179 : decode prog_10_method_18_code 179 = .ok (.iload_n 1, 1) := by decide +kernel
theorem jd_105_180 : decode prog_10_method_18_code 180 = .ok (.bipush 10, 2) := by decide +kernel
theorem jd_105_182 : decode prog_10_method_18_code 182 = .ok (.if_icmp .ne 31, 3) := by decide +kernel
theorem jd_105_185 : decode prog_10_method_18_code 185 = .ok (.aload_n 0, 1) := by decide +kernel
theorem jd_105_186 : decode prog_10_method_18_code 186 = .ok (.aload_n 0, 1) := by decide +kernel
theorem jd_105_187 : decode prog_10_method_18_code 187 = .ok (.iconst 1, 1) := by decide +kernel
theorem jd_105_188 : decode prog_10_method_18_code 188 = .ok (.aload_n 0, 1) := by decide +kernel
theorem jd_105_189 : decode prog_10_method_18_code 189 = .ok (.getfield 28, 3) := by decide +kernel
theorem jd_105_192 : decode prog_10_method_18_code 192 = .ok (.iload_n 2, 1) := by decide +kernel
theorem jd_105_193 : decode prog_10_method_18_code 193 = .ok (.iaload, 1) := by decide +kernel
theorem jd_105_194 : decode prog_10_method_18_code 194 = .ok (.ifCond .ne 7, 3) := by decide +kernel
theorem jd_105_197 : decode prog_10_method_18_code 197 = .ok (.iconst 1, 1) := by decide +kernel
theorem jd_105_198 : decode prog_10_method_18_code 198 = .ok (.goto 4, 3) := by decide +kernel
theorem jd_105_201 : decode prog_10_method_18_code 201 = .ok (.iconst 0, 1) := by decide +kernel
theorem jd_105_202 : decode prog_10_method_18_code 202 = .ok (.iconst 0, 1) := by decide +kernel
theorem jd_105_203 : decode prog_10_method_18_code 203 = .ok (.iconst 0, 1) := by decide +kernel
theorem jd_105_204 : decode prog_10_method_18_code 204 = .ok (.iconst 0, 1) := by decide +kernel
theorem jd_105_205 : decode prog_10_method_18_code 205 = .ok (.invokevirtual 122, 3) := by decide +kernel
theorem jd_105_208 : decode prog_10_method_18_code 208 = .ok (.putfield 145, 3) := by decide +kernel
theorem jd_105_211 : decode prog_10_method_18_code 211 = .ok (.iconst 1, 1) := by decide +kernel
theorem jd_105_212 : decode prog_10_method_18_code 212 = .ok (.ireturn, 1) := by decide +kernel
theorem jd_105_213 : decode prog_10_method_18_code 213 = .ok (.aload_n 0, 1) := by decide +kernel
theorem jd_105_214 : decode prog_10_method_18_code 214 = .ok (.getfield 28, 3) := by decide +kernel
theorem jd_105_217 : decode prog_10_method_18_code 217 = .ok (.iload_n 2, 1) := by decide +kernel
theorem jd_105_218 : decode prog_10_method_18_code 218 = .ok (.iaload, 1) := by decide +kernel
theorem jd_105_219 : decode prog_10_method_18_code 219 = .ok (.ifCond .ne 8, 3) := by decide +kernel
theorem jd_105_222 : decode prog_10_method_18_code 222 = .ok (.aload_n 0, 1) := by decide +kernel
theorem jd_105_223 : decode prog_10_method_18_code 223 = .ok (.invokevirtual 159, 3) := by decide +kernel
theorem jd_105_226 : decode prog_10_method_18_code 226 = .ok (.ireturn, 1) := by decide +kernel
theorem jd_105_227 : decode prog_10_method_18_code 227 = .ok (.aload_n 0, 1) := by decide +kernel
theorem jd_105_228 : decode prog_10_method_18_code 228 = .ok (.iload_n 1, 1) := by decide +kernel
theorem jd_105_229 : decode prog_10_method_18_code 229 = .ok (.bipush 8, 2) := by decide +kernel
theorem jd_105_231 : decode prog_10_method_18_code 231 = .ok (.if_icmp .ne 12, 3) := by decide +kernel
theorem jd_105_234 : decode prog_10_method_18_code 234 = .ok (.aload_n 0, 1) := by decide +kernel
theorem jd_105_235 : decode prog_10_method_18_code 235 = .ok (.getfield 22, 3) := by decide +kernel
theorem jd_105_238 : decode prog_10_method_18_code 238 = .ok (.iload_n 2, 1) := by decide +kernel
theorem jd_105_239 : decode prog_10_method_18_code 239 = .ok (.iaload, 1) := by decide +kernel
theorem jd_105_240 : decode prog_10_method_18_code 240 = .ok (.goto 9, 3) := by decide +kernel
theorem jd_105_243 : decode prog_10_method_18_code 243 = .ok (.aload_n 0, 1) := by decide +kernel
theorem jd_105_244 : decode prog_10_method_18_code 244 = .ok (.getfield 25, 3) := by decide +kernel
theorem jd_105_247 : decode prog_10_method_18_code 247 = .ok (.iload_n 2, 1) := by decide +kernel
theorem jd_105_248 : decode prog_10_method_18_code 248 = .ok (.iaload, 1) := by decide +kernel
theorem jd_105_249 : decode prog_10_method_18_code 249 = .ok (.putfield 145, 3) := by decide +kernel
theorem jd_105_252 : decode prog_10_method_18_code 252 = .ok (.iconst 1, 1) := by decide +kernel
theorem jd_105_253 : decode prog_10_method_18_code 253 = .ok (.ireturn, 1) := by decide +kernel
def jt_105 (pc : Nat) : jx_Sp := bif Nat.ble pc 131 then (bif Nat.ble pc 65 then (bif Nat.ble pc 30 then (bif Nat.ble pc 15 then (bif Nat.ble pc 6 then (bif Nat.ble pc 2 then (bif Nat.ble pc 1 then (bif Nat.ble pc 0 then (bif Nat.beq pc 0 then js_al 0 1 else js_none) else (bif Nat.beq pc 1 then js_il 1 1 else js_none)) else (bif Nat.beq pc 2 then js_c 2 1 else js_none)) else (bif Nat.ble pc 3 then (bif Nat.beq pc 3 then js_ceq 11 else js_none) else (bif Nat.beq pc 6 then js_il 1 1 else js_none))) else (bif Nat.ble pc 11 then (bif Nat.ble pc 8 then (bif Nat.ble pc 7 then (bif Nat.beq pc 7 then js_c 3 1 else js_none) else (bif Nat.beq pc 8 then js_cne 15 else js_none)) else (bif Nat.beq pc 11 then js_c 3 1 else js_none)) else (bif Nat.ble pc 12 then (bif Nat.beq pc 12 then js_go 16 else js_none) else (bif Nat.beq pc 15 then js_c 1 1 else js_none)))) else (bif Nat.ble pc 24 then (bif Nat.ble pc 22 then (bif Nat.ble pc 19 then (bif Nat.ble pc 16 then (bif Nat.beq pc 16 then js_v1 8 98 else js_none) else (bif Nat.beq pc 19 then js_ifne 24 else js_none)) else (bif Nat.beq pc 22 then js_c 0 1 else js_none)) else (bif Nat.ble pc 23 then (bif Nat.beq pc 23 then js_zr else js_none) else (bif Nat.beq pc 24 then js_il 1 1 else js_none))) else (bif Nat.ble pc 26 then (bif Nat.ble pc 25 then (bif Nat.beq pc 25 then js_c 5 1 else js_none) else (bif Nat.beq pc 26 then js_cgt 70 else js_none)) else (bif Nat.ble pc 29 then (bif Nat.beq pc 29 then js_al 0 1 else js_none) else (bif Nat.beq pc 30 then js_il 2 1 else js_none))))) else (bif Nat.ble pc 48 then (bif Nat.ble pc 39 then (bif Nat.ble pc 37 then (bif Nat.ble pc 34 then (bif Nat.ble pc 31 then (bif Nat.beq pc 31 then js_v1 8 104 else js_none) else (bif Nat.beq pc 34 then js_ifeq 65 else js_none)) else (bif Nat.beq pc 37 then js_al 0 1 else js_none)) else (bif Nat.ble pc 38 then (bif Nat.beq pc 38 then js_il 3 1 else js_none) else (bif Nat.beq pc 39 then js_v1 8 104 else js_none))) else (bif Nat.ble pc 46 then (bif Nat.ble pc 45 then (bif Nat.ble pc 42 then (bif Nat.beq pc 42 then js_ifeq 65 else js_none) else (bif Nat.beq pc 45 then js_al 0 1 else js_none)) else (bif Nat.beq pc 46 then js_il 1 1 else js_none)) else (bif Nat.ble pc 47 then (bif Nat.beq pc 47 then js_al 0 1 else js_none) else (bif Nat.beq pc 48 then js_getf 8 7 else js_none)))) else (bif Nat.ble pc 57 then (bif Nat.ble pc 53 then (bif Nat.ble pc 52 then (bif Nat.ble pc 51 then (bif Nat.beq pc 51 then js_il 2 1 else js_none) else (bif Nat.beq pc 52 then js_ald else js_none)) else (bif Nat.beq pc 53 then js_al 0 1 else js_none)) else (bif Nat.ble pc 54 then (bif Nat.beq pc 54 then js_getf 8 7 else js_none) else (bif Nat.beq pc 57 then js_il 3 1 else js_none))) else (bif Nat.ble pc 59 then (bif Nat.ble pc 58 then (bif Nat.beq pc 58 then js_ald else js_none) else (bif Nat.beq pc 59 then js_v3 8 106 else js_none)) else (bif Nat.ble pc 62 then (bif Nat.beq pc 62 then js_go 69 else js_none) else (bif Nat.beq pc 65 then js_al 0 1 else js_none)))))) else (bif Nat.ble pc 97 then (bif Nat.ble pc 82 then (bif Nat.ble pc 73 then (bif Nat.ble pc 70 then (bif Nat.ble pc 69 then (bif Nat.ble pc 66 then (bif Nat.beq pc 66 then js_v0 8 99 else js_none) else (bif Nat.beq pc 69 then js_zr else js_none)) else (bif Nat.beq pc 70 then js_il 1 1 else js_none)) else (bif Nat.ble pc 71 then (bif Nat.beq pc 71 then js_c 6 2 else js_none) else (bif Nat.beq pc 73 then js_cne 113 else js_none))) else (bif Nat.ble pc 80 then (bif Nat.ble pc 77 then (bif Nat.ble pc 76 then (bif Nat.beq pc 76 then js_al 0 1 else js_none) else (bif Nat.beq pc 77 then js_getf 8 6 else js_none)) else (bif Nat.beq pc 80 then js_il 2 1 else js_none)) else (bif Nat.ble pc 81 then (bif Nat.beq pc 81 then js_ald else js_none) else (bif Nat.beq pc 82 then js_c 1 1 else js_none)))) else (bif Nat.ble pc 91 then (bif Nat.ble pc 87 then (bif Nat.ble pc 86 then (bif Nat.ble pc 83 then (bif Nat.beq pc 83 then js_ceq 91 else js_none) else (bif Nat.beq pc 86 then js_al 0 1 else js_none)) else (bif Nat.beq pc 87 then js_v0 8 99 else js_none)) else (bif Nat.ble pc 90 then (bif Nat.beq pc 90 then js_zr else js_none) else (bif Nat.beq pc 91 then js_al 0 1 else js_none))) else (bif Nat.ble pc 93 then (bif Nat.ble pc 92 then (bif Nat.beq pc 92 then js_al 0 1 else js_none) else (bif Nat.beq pc 93 then js_getf 8 7 else js_none)) else (bif Nat.ble pc 96 then (bif Nat.beq pc 96 then js_il 2 1 else js_none) else (bif Nat.beq pc 97 then js_ald else js_none))))) else (bif Nat.ble pc 113 then (bif Nat.ble pc 106 then (bif Nat.ble pc 102 then (bif Nat.ble pc 99 then (bif Nat.ble pc 98 then (bif Nat.beq pc 98 then js_c 1 1 else js_none) else (bif Nat.beq pc 99 then js_cne 106 else js_none)) else (bif Nat.beq pc 102 then js_il 3 1 else js_none)) else (bif Nat.ble pc 103 then (bif Nat.beq pc 103 then js_go 108 else js_none) else (bif Nat.beq pc 106 then js_il 4 2 else js_none))) else (bif Nat.ble pc 111 then (bif Nat.ble pc 108 then (bif Nat.beq pc 108 then js_putf 8 20 false else js_none) else (bif Nat.beq pc 111 then js_c 1 1 else js_none)) else (bif Nat.ble pc 112 then (bif Nat.beq pc 112 then js_zr else js_none) else (bif Nat.beq pc 113 then js_il 1 1 else js_none)))) else (bif Nat.ble pc 121 then (bif Nat.ble pc 119 then (bif Nat.ble pc 116 then (bif Nat.ble pc 114 then (bif Nat.beq pc 114 then js_c 7 2 else js_none) else (bif Nat.beq pc 116 then js_cne 164 else js_none)) else (bif Nat.beq pc 119 then js_al 0 1 else js_none)) else (bif Nat.ble pc 120 then (bif Nat.beq pc 120 then js_il 2 1 else js_none) else (bif Nat.beq pc 121 then js_v1 8 104 else js_none))) else (bif Nat.ble pc 127 then (bif Nat.ble pc 124 then (bif Nat.beq pc 124 then js_ifne 137 else js_none) else (bif Nat.beq pc 127 then js_al 0 1 else js_none)) else (bif Nat.ble pc 128 then (bif Nat.beq pc 128 then js_getf 8 6 else js_none) else (bif Nat.beq pc 131 then js_il 2 1 else js_none))))))) else (bif Nat.ble pc 189 then (bif Nat.ble pc 162 then (bif Nat.ble pc 147 then (bif Nat.ble pc 138 then (bif Nat.ble pc 134 then (bif Nat.ble pc 133 then (bif Nat.ble pc 132 then (bif Nat.beq pc 132 then js_ald else js_none) else (bif Nat.beq pc 133 then js_c 2 1 else js_none)) else (bif Nat.beq pc 134 then js_cne 147 else js_none)) else (bif Nat.ble pc 137 then (bif Nat.beq pc 137 then js_al 0 1 else js_none) else (bif Nat.beq pc 138 then js_getf 8 6 else js_none))) else (bif Nat.ble pc 143 then (bif Nat.ble pc 142 then (bif Nat.ble pc 141 then (bif Nat.beq pc 141 then js_il 3 1 else js_none) else (bif Nat.beq pc 142 then js_ald else js_none)) else (bif Nat.beq pc 143 then js_c 2 1 else js_none)) else (bif Nat.ble pc 144 then (bif Nat.beq pc 144 then js_ceq 152 else js_none) else (bif Nat.beq pc 147 then js_al 0 1 else js_none)))) else (bif Nat.ble pc 154 then (bif Nat.ble pc 152 then (bif Nat.ble pc 151 then (bif Nat.ble pc 148 then (bif Nat.beq pc 148 then js_v0 8 99 else js_none) else (bif Nat.beq pc 151 then js_zr else js_none)) else (bif Nat.beq pc 152 then js_al 0 1 else js_none)) else (bif Nat.ble pc 153 then (bif Nat.beq pc 153 then js_al 0 1 else js_none) else (bif Nat.beq pc 154 then js_il 2 1 else js_none))) else (bif Nat.ble pc 156 then (bif Nat.ble pc 155 then (bif Nat.beq pc 155 then js_il 3 1 else js_none) else (bif Nat.beq pc 156 then js_v2 8 96 else js_none)) else (bif Nat.ble pc 159 then (bif Nat.beq pc 159 then js_putf 8 20 false else js_none) else (bif Nat.beq pc 162 then js_c 1 1 else js_none))))) else (bif Nat.ble pc 175 then (bif Nat.ble pc 169 then (bif Nat.ble pc 165 then (bif Nat.ble pc 164 then (bif Nat.ble pc 163 then (bif Nat.beq pc 163 then js_zr else js_none) else (bif Nat.beq pc 164 then js_al 0 1 else js_none)) else (bif Nat.beq pc 165 then js_getf 8 6 else js_none)) else (bif Nat.ble pc 168 then (bif Nat.beq pc 168 then js_il 2 1 else js_none) else (bif Nat.beq pc 169 then js_ald else js_none))) else (bif Nat.ble pc 171 then (bif Nat.ble pc 170 then (bif Nat.beq pc 170 then js_c 2 1 else js_none) else (bif Nat.beq pc 171 then js_ceq 179 else js_none)) else (bif Nat.ble pc 174 then (bif Nat.beq pc 174 then js_al 0 1 else js_none) else (bif Nat.beq pc 175 then js_v0 8 99 else js_none)))) else (bif Nat.ble pc 185 then (bif Nat.ble pc 180 then (bif Nat.ble pc 179 then (bif Nat.ble pc 178 then (bif Nat.beq pc 178 then js_zr else js_none) else (bif Nat.beq pc 179 then js_il 1 1 else js_none)) else (bif Nat.beq pc 180 then js_c 10 2 else js_none)) else (bif Nat.ble pc 182 then (bif Nat.beq pc 182 then js_cne 213 else js_none) else (bif Nat.beq pc 185 then js_al 0 1 else js_none))) else (bif Nat.ble pc 187 then (bif Nat.ble pc 186 then (bif Nat.beq pc 186 then js_al 0 1 else js_none) else (bif Nat.beq pc 187 then js_c 1 1 else js_none)) else (bif Nat.ble pc 188 then (bif Nat.beq pc 188 then js_al 0 1 else js_none) else (bif Nat.beq pc 189 then js_getf 8 9 else js_none)))))) else (bif Nat.ble pc 222 then (bif Nat.ble pc 205 then (bif Nat.ble pc 198 then (bif Nat.ble pc 194 then (bif Nat.ble pc 193 then (bif Nat.ble pc 192 then (bif Nat.beq pc 192 then js_il 2 1 else js_none) else (bif Nat.beq pc 193 then js_ald else js_none)) else (bif Nat.beq pc 194 then js_ifne 201 else js_none)) else (bif Nat.ble pc 197 then (bif Nat.beq pc 197 then js_c 1 1 else js_none) else (bif Nat.beq pc 198 then js_go 202 else js_none))) else (bif Nat.ble pc 203 then (bif Nat.ble pc 202 then (bif Nat.ble pc 201 then (bif Nat.beq pc 201 then js_c 0 1 else js_none) else (bif Nat.beq pc 202 then js_c 0 1 else js_none)) else (bif Nat.beq pc 203 then js_c 0 1 else js_none)) else (bif Nat.ble pc 204 then (bif Nat.beq pc 204 then js_c 0 1 else js_none) else (bif Nat.beq pc 205 then js_v5 8 94 else js_none)))) else (bif Nat.ble pc 214 then (bif Nat.ble pc 212 then (bif Nat.ble pc 211 then (bif Nat.ble pc 208 then (bif Nat.beq pc 208 then js_putf 8 20 false else js_none) else (bif Nat.beq pc 211 then js_c 1 1 else js_none)) else (bif Nat.beq pc 212 then js_zr else js_none)) else (bif Nat.ble pc 213 then (bif Nat.beq pc 213 then js_al 0 1 else js_none) else (bif Nat.beq pc 214 then js_getf 8 9 else js_none))) else (bif Nat.ble pc 218 then (bif Nat.ble pc 217 then (bif Nat.beq pc 217 then js_il 2 1 else js_none) else (bif Nat.beq pc 218 then js_ald else js_none)) else (bif Nat.ble pc 219 then (bif Nat.beq pc 219 then js_ifne 227 else js_none) else (bif Nat.beq pc 222 then js_al 0 1 else js_none))))) else (bif Nat.ble pc 238 then (bif Nat.ble pc 229 then (bif Nat.ble pc 227 then (bif Nat.ble pc 226 then (bif Nat.ble pc 223 then (bif Nat.beq pc 223 then js_v0 8 99 else js_none) else (bif Nat.beq pc 226 then js_zr else js_none)) else (bif Nat.beq pc 227 then js_al 0 1 else js_none)) else (bif Nat.ble pc 228 then (bif Nat.beq pc 228 then js_il 1 1 else js_none) else (bif Nat.beq pc 229 then js_c 8 2 else js_none))) else (bif Nat.ble pc 234 then (bif Nat.ble pc 231 then (bif Nat.beq pc 231 then js_cne 243 else js_none) else (bif Nat.beq pc 234 then js_al 0 1 else js_none)) else (bif Nat.ble pc 235 then (bif Nat.beq pc 235 then js_getf 8 7 else js_none) else (bif Nat.beq pc 238 then js_il 2 1 else js_none)))) else (bif Nat.ble pc 247 then (bif Nat.ble pc 243 then (bif Nat.ble pc 240 then (bif Nat.ble pc 239 then (bif Nat.beq pc 239 then js_ald else js_none) else (bif Nat.beq pc 240 then js_go 249 else js_none)) else (bif Nat.beq pc 243 then js_al 0 1 else js_none)) else (bif Nat.ble pc 244 then (bif Nat.beq pc 244 then js_getf 8 8 else js_none) else (bif Nat.beq pc 247 then js_il 2 1 else js_none))) else (bif Nat.ble pc 249 then (bif Nat.ble pc 248 then (bif Nat.beq pc 248 then js_ald else js_none) else (bif Nat.beq pc 249 then js_putf 8 20 false else js_none)) else (bif Nat.ble pc 252 then (bif Nat.beq pc 252 then js_c 1 1 else js_none) else (bif Nat.beq pc 253 then js_zr else js_none)))))))
theorem jk_105_0 : jx_Snd 105 0 (js_al 0 1) := jo_aload_n (i := 0) (w := 0) rfl jd_105_0
theorem jk_105_1 : jx_Snd 105 1 (js_il 1 1) := jo_iload_n (i := 1) (w := 1) rfl jd_105_1
theorem jk_105_2 : jx_Snd 105 2 (js_c 2 1) := jo_iconst (z := 2) jd_105_2 rfl
theorem jk_105_3 : jx_Snd 105 3 (js_ceq 11) := jo_ceq (o := 8) rfl jd_105_3
theorem jk_105_6 : jx_Snd 105 6 (js_il 1 1) := jo_iload_n (i := 1) (w := 1) rfl jd_105_6
theorem jk_105_7 : jx_Snd 105 7 (js_c 3 1) := jo_iconst (z := 3) jd_105_7 rfl
theorem jk_105_8 : jx_Snd 105 8 (js_cne 15) := jo_cne (o := 7) rfl jd_105_8
theorem jk_105_11 : jx_Snd 105 11 (js_c 3 1) := jo_iconst (z := 3) jd_105_11 rfl
theorem jk_105_12 : jx_Snd 105 12 (js_go 16) := jo_goto (o := 4) rfl jd_105_12
theorem jk_105_15 : jx_Snd 105 15 (js_c 1 1) := jo_iconst (z := 1) jd_105_15 rfl
theorem jk_105_16 : jx_Snd 105 16 (js_v1 8 98) := jo_v1 rfl jok_98 (Or.inl jw_550) jw_551 jw_720 rfl jd_105_16
theorem jk_105_19 : jx_Snd 105 19 (js_ifne 24) := jo_ifne (o := 5) rfl jd_105_19
theorem jk_105_22 : jx_Snd 105 22 (js_c 0 1) := jo_iconst (z := 0) jd_105_22 rfl
theorem jk_105_23 : jx_Snd 105 23 (js_zr) := jo_zr rfl jd_105_23
theorem jk_105_24 : jx_Snd 105 24 (js_il 1 1) := jo_iload_n (i := 1) (w := 1) rfl jd_105_24
theorem jk_105_25 : jx_Snd 105 25 (js_c 5 1) := jo_iconst (z := 5) jd_105_25 rfl
theorem jk_105_26 : jx_Snd 105 26 (js_cgt 70) := jo_cgt (o := 44) rfl jd_105_26
theorem jk_105_29 : jx_Snd 105 29 (js_al 0 1) := jo_aload_n (i := 0) (w := 0) rfl jd_105_29
theorem jk_105_30 : jx_Snd 105 30 (js_il 2 1) := jo_iload_n (i := 2) (w := 2) rfl jd_105_30
theorem jk_105_31 : jx_Snd 105 31 (js_v1 8 104) := jo_v1 rfl jok_104 (Or.inl jw_571) jw_572 jw_726 rfl jd_105_31
theorem jk_105_34 : jx_Snd 105 34 (js_ifeq 65) := jo_ifeq (o := 31) rfl jd_105_34
theorem jk_105_37 : jx_Snd 105 37 (js_al 0 1) := jo_aload_n (i := 0) (w := 0) rfl jd_105_37
theorem jk_105_38 : jx_Snd 105 38 (js_il 3 1) := jo_iload_n (i := 3) (w := 3) rfl jd_105_38
theorem jk_105_39 : jx_Snd 105 39 (js_v1 8 104) := jo_v1 rfl jok_104 (Or.inl jw_571) jw_572 jw_726 rfl jd_105_39
theorem jk_105_42 : jx_Snd 105 42 (js_ifeq 65) := jo_ifeq (o := 23) rfl jd_105_42
theorem jk_105_45 : jx_Snd 105 45 (js_al 0 1) := jo_aload_n (i := 0) (w := 0) rfl jd_105_45
theorem jk_105_46 : jx_Snd 105 46 (js_il 1 1) := jo_iload_n (i := 1) (w := 1) rfl jd_105_46
theorem jk_105_47 : jx_Snd 105 47 (js_al 0 1) := jo_aload_n (i := 0) (w := 0) rfl jd_105_47
theorem jk_105_48 : jx_Snd 105 48 (js_getf 8 7) := jo_getf rfl jf_8_22 jd_105_48
theorem jk_105_51 : jx_Snd 105 51 (js_il 2 1) := jo_iload_n (i := 2) (w := 2) rfl jd_105_51
theorem jk_105_52 : jx_Snd 105 52 (js_ald) := jo_ald jd_105_52
theorem jk_105_53 : jx_Snd 105 53 (js_al 0 1) := jo_aload_n (i := 0) (w := 0) rfl jd_105_53
theorem jk_105_54 : jx_Snd 105 54 (js_getf 8 7) := jo_getf rfl jf_8_22 jd_105_54
theorem jk_105_57 : jx_Snd 105 57 (js_il 3 1) := jo_iload_n (i := 3) (w := 3) rfl jd_105_57
theorem jk_105_58 : jx_Snd 105 58 (js_ald) := jo_ald jd_105_58
theorem jk_105_59 : jx_Snd 105 59 (js_v3 8 106) := jo_v3 rfl jok_106 (Or.inl jw_574) jw_575 jw_727 rfl jd_105_59
theorem jk_105_62 : jx_Snd 105 62 (js_go 69) := jo_goto (o := 7) rfl jd_105_62
theorem jk_105_65 : jx_Snd 105 65 (js_al 0 1) := jo_aload_n (i := 0) (w := 0) rfl jd_105_65
theorem jk_105_66 : jx_Snd 105 66 (js_v0 8 99) := jo_v0 rfl jok_99 (Or.inl jw_556) jw_557 jw_722 rfl jd_105_66
theorem jk_105_69 : jx_Snd 105 69 (js_zr) := jo_zr rfl jd_105_69
theorem jk_105_70 : jx_Snd 105 70 (js_il 1 1) := jo_iload_n (i := 1) (w := 1) rfl jd_105_70
theorem jk_105_71 : jx_Snd 105 71 (js_c 6 2) := jo_bipush (z := 6) jd_105_71 (by decide +kernel)
theorem jk_105_73 : jx_Snd 105 73 (js_cne 113) := jo_cne (o := 40) rfl jd_105_73
theorem jk_105_76 : jx_Snd 105 76 (js_al 0 1) := jo_aload_n (i := 0) (w := 0) rfl jd_105_76
theorem jk_105_77 : jx_Snd 105 77 (js_getf 8 6) := jo_getf rfl jf_8_19 jd_105_77
theorem jk_105_80 : jx_Snd 105 80 (js_il 2 1) := jo_iload_n (i := 2) (w := 2) rfl jd_105_80
theorem jk_105_81 : jx_Snd 105 81 (js_ald) := jo_ald jd_105_81
theorem jk_105_82 : jx_Snd 105 82 (js_c 1 1) := jo_iconst (z := 1) jd_105_82 rfl
theorem jk_105_83 : jx_Snd 105 83 (js_ceq 91) := jo_ceq (o := 8) rfl jd_105_83
theorem jk_105_86 : jx_Snd 105 86 (js_al 0 1) := jo_aload_n (i := 0) (w := 0) rfl jd_105_86
theorem jk_105_87 : jx_Snd 105 87 (js_v0 8 99) := jo_v0 rfl jok_99 (Or.inl jw_556) jw_557 jw_722 rfl jd_105_87
theorem jk_105_90 : jx_Snd 105 90 (js_zr) := jo_zr rfl jd_105_90
theorem jk_105_91 : jx_Snd 105 91 (js_al 0 1) := jo_aload_n (i := 0) (w := 0) rfl jd_105_91
theorem jk_105_92 : jx_Snd 105 92 (js_al 0 1) := jo_aload_n (i := 0) (w := 0) rfl jd_105_92
theorem jk_105_93 : jx_Snd 105 93 (js_getf 8 7) := jo_getf rfl jf_8_22 jd_105_93
theorem jk_105_96 : jx_Snd 105 96 (js_il 2 1) := jo_iload_n (i := 2) (w := 2) rfl jd_105_96
theorem jk_105_97 : jx_Snd 105 97 (js_ald) := jo_ald jd_105_97
theorem jk_105_98 : jx_Snd 105 98 (js_c 1 1) := jo_iconst (z := 1) jd_105_98 rfl
theorem jk_105_99 : jx_Snd 105 99 (js_cne 106) := jo_cne (o := 7) rfl jd_105_99
theorem jk_105_102 : jx_Snd 105 102 (js_il 3 1) := jo_iload_n (i := 3) (w := 3) rfl jd_105_102
theorem jk_105_103 : jx_Snd 105 103 (js_go 108) := jo_goto (o := 5) rfl jd_105_103
theorem jk_105_106 : jx_Snd 105 106 (js_il 4 2) := jo_iload (i := 4) jd_105_106
theorem jk_105_108 : jx_Snd 105 108 (js_putf 8 20 false) := jo_putf (z := false) rfl jf_8_145 (fun C T N h => by cases h; rfl) jd_105_108
theorem jk_105_111 : jx_Snd 105 111 (js_c 1 1) := jo_iconst (z := 1) jd_105_111 rfl
theorem jk_105_112 : jx_Snd 105 112 (js_zr) := jo_zr rfl jd_105_112
theorem jk_105_113 : jx_Snd 105 113 (js_il 1 1) := jo_iload_n (i := 1) (w := 1) rfl jd_105_113
theorem jk_105_114 : jx_Snd 105 114 (js_c 7 2) := jo_bipush (z := 7) jd_105_114 (by decide +kernel)
theorem jk_105_116 : jx_Snd 105 116 (js_cne 164) := jo_cne (o := 48) rfl jd_105_116
theorem jk_105_119 : jx_Snd 105 119 (js_al 0 1) := jo_aload_n (i := 0) (w := 0) rfl jd_105_119
theorem jk_105_120 : jx_Snd 105 120 (js_il 2 1) := jo_iload_n (i := 2) (w := 2) rfl jd_105_120
theorem jk_105_121 : jx_Snd 105 121 (js_v1 8 104) := jo_v1 rfl jok_104 (Or.inl jw_571) jw_572 jw_726 rfl jd_105_121
theorem jk_105_124 : jx_Snd 105 124 (js_ifne 137) := jo_ifne (o := 13) rfl jd_105_124
theorem jk_105_127 : jx_Snd 105 127 (js_al 0 1) := jo_aload_n (i := 0) (w := 0) rfl jd_105_127
theorem jk_105_128 : jx_Snd 105 128 (js_getf 8 6) := jo_getf rfl jf_8_19 jd_105_128
theorem jk_105_131 : jx_Snd 105 131 (js_il 2 1) := jo_iload_n (i := 2) (w := 2) rfl jd_105_131
theorem jk_105_132 : jx_Snd 105 132 (js_ald) := jo_ald jd_105_132
theorem jk_105_133 : jx_Snd 105 133 (js_c 2 1) := jo_iconst (z := 2) jd_105_133 rfl
theorem jk_105_134 : jx_Snd 105 134 (js_cne 147) := jo_cne (o := 13) rfl jd_105_134
theorem jk_105_137 : jx_Snd 105 137 (js_al 0 1) := jo_aload_n (i := 0) (w := 0) rfl jd_105_137
theorem jk_105_138 : jx_Snd 105 138 (js_getf 8 6) := jo_getf rfl jf_8_19 jd_105_138
theorem jk_105_141 : jx_Snd 105 141 (js_il 3 1) := jo_iload_n (i := 3) (w := 3) rfl jd_105_141
theorem jk_105_142 : jx_Snd 105 142 (js_ald) := jo_ald jd_105_142
theorem jk_105_143 : jx_Snd 105 143 (js_c 2 1) := jo_iconst (z := 2) jd_105_143 rfl
theorem jk_105_144 : jx_Snd 105 144 (js_ceq 152) := jo_ceq (o := 8) rfl jd_105_144
theorem jk_105_147 : jx_Snd 105 147 (js_al 0 1) := jo_aload_n (i := 0) (w := 0) rfl jd_105_147
theorem jk_105_148 : jx_Snd 105 148 (js_v0 8 99) := jo_v0 rfl jok_99 (Or.inl jw_556) jw_557 jw_722 rfl jd_105_148
theorem jk_105_151 : jx_Snd 105 151 (js_zr) := jo_zr rfl jd_105_151
theorem jk_105_152 : jx_Snd 105 152 (js_al 0 1) := jo_aload_n (i := 0) (w := 0) rfl jd_105_152
theorem jk_105_153 : jx_Snd 105 153 (js_al 0 1) := jo_aload_n (i := 0) (w := 0) rfl jd_105_153
theorem jk_105_154 : jx_Snd 105 154 (js_il 2 1) := jo_iload_n (i := 2) (w := 2) rfl jd_105_154
theorem jk_105_155 : jx_Snd 105 155 (js_il 3 1) := jo_iload_n (i := 3) (w := 3) rfl jd_105_155
theorem jk_105_156 : jx_Snd 105 156 (js_v2 8 96) := jo_v2 rfl jok_96 (Or.inl jw_577) jw_578 jw_728 rfl jd_105_156
theorem jk_105_159 : jx_Snd 105 159 (js_putf 8 20 false) := jo_putf (z := false) rfl jf_8_145 (fun C T N h => by cases h; rfl) jd_105_159
theorem jk_105_162 : jx_Snd 105 162 (js_c 1 1) := jo_iconst (z := 1) jd_105_162 rfl
theorem jk_105_163 : jx_Snd 105 163 (js_zr) := jo_zr rfl jd_105_163
theorem jk_105_164 : jx_Snd 105 164 (js_al 0 1) := jo_aload_n (i := 0) (w := 0) rfl jd_105_164
theorem jk_105_165 : jx_Snd 105 165 (js_getf 8 6) := jo_getf rfl jf_8_19 jd_105_165
theorem jk_105_168 : jx_Snd 105 168 (js_il 2 1) := jo_iload_n (i := 2) (w := 2) rfl jd_105_168
theorem jk_105_169 : jx_Snd 105 169 (js_ald) := jo_ald jd_105_169
theorem jk_105_170 : jx_Snd 105 170 (js_c 2 1) := jo_iconst (z := 2) jd_105_170 rfl
theorem jk_105_171 : jx_Snd 105 171 (js_ceq 179) := jo_ceq (o := 8) rfl jd_105_171
theorem jk_105_174 : jx_Snd 105 174 (js_al 0 1) := jo_aload_n (i := 0) (w := 0) rfl jd_105_174
theorem jk_105_175 : jx_Snd 105 175 (js_v0 8 99) := jo_v0 rfl jok_99 (Or.inl jw_556) jw_557 jw_722 rfl jd_105_175
theorem jk_105_178 : jx_Snd 105 178 (js_zr) := jo_zr rfl jd_105_178
theorem jk_105_179 : jx_Snd 105 179 (js_il 1 1) := jo_iload_n (i := 1) (w := 1) rfl jd_105_179
theorem jk_105_180 : jx_Snd 105 180 (js_c 10 2) := jo_bipush (z := 10) jd_105_180 (by decide +kernel)
theorem jk_105_182 : jx_Snd 105 182 (js_cne 213) := jo_cne (o := 31) rfl jd_105_182
theorem jk_105_185 : jx_Snd 105 185 (js_al 0 1) := jo_aload_n (i := 0) (w := 0) rfl jd_105_185
theorem jk_105_186 : jx_Snd 105 186 (js_al 0 1) := jo_aload_n (i := 0) (w := 0) rfl jd_105_186
theorem jk_105_187 : jx_Snd 105 187 (js_c 1 1) := jo_iconst (z := 1) jd_105_187 rfl
theorem jk_105_188 : jx_Snd 105 188 (js_al 0 1) := jo_aload_n (i := 0) (w := 0) rfl jd_105_188
theorem jk_105_189 : jx_Snd 105 189 (js_getf 8 9) := jo_getf rfl jf_8_28 jd_105_189
theorem jk_105_192 : jx_Snd 105 192 (js_il 2 1) := jo_iload_n (i := 2) (w := 2) rfl jd_105_192
theorem jk_105_193 : jx_Snd 105 193 (js_ald) := jo_ald jd_105_193
theorem jk_105_194 : jx_Snd 105 194 (js_ifne 201) := jo_ifne (o := 7) rfl jd_105_194
theorem jk_105_197 : jx_Snd 105 197 (js_c 1 1) := jo_iconst (z := 1) jd_105_197 rfl
theorem jk_105_198 : jx_Snd 105 198 (js_go 202) := jo_goto (o := 4) rfl jd_105_198
theorem jk_105_201 : jx_Snd 105 201 (js_c 0 1) := jo_iconst (z := 0) jd_105_201 rfl
theorem jk_105_202 : jx_Snd 105 202 (js_c 0 1) := jo_iconst (z := 0) jd_105_202 rfl
theorem jk_105_203 : jx_Snd 105 203 (js_c 0 1) := jo_iconst (z := 0) jd_105_203 rfl
theorem jk_105_204 : jx_Snd 105 204 (js_c 0 1) := jo_iconst (z := 0) jd_105_204 rfl
theorem jk_105_205 : jx_Snd 105 205 (js_v5 8 94) := jo_v5 rfl jok_94 (Or.inl jw_538) jw_539 jw_716 rfl jd_105_205
theorem jk_105_208 : jx_Snd 105 208 (js_putf 8 20 false) := jo_putf (z := false) rfl jf_8_145 (fun C T N h => by cases h; rfl) jd_105_208
theorem jk_105_211 : jx_Snd 105 211 (js_c 1 1) := jo_iconst (z := 1) jd_105_211 rfl
theorem jk_105_212 : jx_Snd 105 212 (js_zr) := jo_zr rfl jd_105_212
theorem jk_105_213 : jx_Snd 105 213 (js_al 0 1) := jo_aload_n (i := 0) (w := 0) rfl jd_105_213
theorem jk_105_214 : jx_Snd 105 214 (js_getf 8 9) := jo_getf rfl jf_8_28 jd_105_214
theorem jk_105_217 : jx_Snd 105 217 (js_il 2 1) := jo_iload_n (i := 2) (w := 2) rfl jd_105_217
theorem jk_105_218 : jx_Snd 105 218 (js_ald) := jo_ald jd_105_218
theorem jk_105_219 : jx_Snd 105 219 (js_ifne 227) := jo_ifne (o := 8) rfl jd_105_219
theorem jk_105_222 : jx_Snd 105 222 (js_al 0 1) := jo_aload_n (i := 0) (w := 0) rfl jd_105_222
theorem jk_105_223 : jx_Snd 105 223 (js_v0 8 99) := jo_v0 rfl jok_99 (Or.inl jw_556) jw_557 jw_722 rfl jd_105_223
theorem jk_105_226 : jx_Snd 105 226 (js_zr) := jo_zr rfl jd_105_226
theorem jk_105_227 : jx_Snd 105 227 (js_al 0 1) := jo_aload_n (i := 0) (w := 0) rfl jd_105_227
theorem jk_105_228 : jx_Snd 105 228 (js_il 1 1) := jo_iload_n (i := 1) (w := 1) rfl jd_105_228
theorem jk_105_229 : jx_Snd 105 229 (js_c 8 2) := jo_bipush (z := 8) jd_105_229 (by decide +kernel)
theorem jk_105_231 : jx_Snd 105 231 (js_cne 243) := jo_cne (o := 12) rfl jd_105_231
theorem jk_105_234 : jx_Snd 105 234 (js_al 0 1) := jo_aload_n (i := 0) (w := 0) rfl jd_105_234
theorem jk_105_235 : jx_Snd 105 235 (js_getf 8 7) := jo_getf rfl jf_8_22 jd_105_235
theorem jk_105_238 : jx_Snd 105 238 (js_il 2 1) := jo_iload_n (i := 2) (w := 2) rfl jd_105_238
theorem jk_105_239 : jx_Snd 105 239 (js_ald) := jo_ald jd_105_239
theorem jk_105_240 : jx_Snd 105 240 (js_go 249) := jo_goto (o := 9) rfl jd_105_240
theorem jk_105_243 : jx_Snd 105 243 (js_al 0 1) := jo_aload_n (i := 0) (w := 0) rfl jd_105_243
theorem jk_105_244 : jx_Snd 105 244 (js_getf 8 8) := jo_getf rfl jf_8_25 jd_105_244
theorem jk_105_247 : jx_Snd 105 247 (js_il 2 1) := jo_iload_n (i := 2) (w := 2) rfl jd_105_247
theorem jk_105_248 : jx_Snd 105 248 (js_ald) := jo_ald jd_105_248
theorem jk_105_249 : jx_Snd 105 249 (js_putf 8 20 false) := jo_putf (z := false) rfl jf_8_145 (fun C T N h => by cases h; rfl) jd_105_249
theorem jk_105_252 : jx_Snd 105 252 (js_c 1 1) := jo_iconst (z := 1) jd_105_252 rfl
theorem jk_105_253 : jx_Snd 105 253 (js_zr) := jo_zr rfl jd_105_253
theorem jk_105 : jx_So 105 jt_105 := fun pc => jo_le (jo_le (jo_le (jo_le (jo_le (jo_le (jo_le (jo_le (jo_at (jk_105_0)) (jo_at (jk_105_1))) (jo_at (jk_105_2))) (jo_le (jo_at (jk_105_3)) (jo_at (jk_105_6)))) (jo_le (jo_le (jo_le (jo_at (jk_105_7)) (jo_at (jk_105_8))) (jo_at (jk_105_11))) (jo_le (jo_at (jk_105_12)) (jo_at (jk_105_15))))) (jo_le (jo_le (jo_le (jo_le (jo_at (jk_105_16)) (jo_at (jk_105_19))) (jo_at (jk_105_22))) (jo_le (jo_at (jk_105_23)) (jo_at (jk_105_24)))) (jo_le (jo_le (jo_at (jk_105_25)) (jo_at (jk_105_26))) (jo_le (jo_at (jk_105_29)) (jo_at (jk_105_30)))))) (jo_le (jo_le (jo_le (jo_le (jo_le (jo_at (jk_105_31)) (jo_at (jk_105_34))) (jo_at (jk_105_37))) (jo_le (jo_at (jk_105_38)) (jo_at (jk_105_39)))) (jo_le (jo_le (jo_le (jo_at (jk_105_42)) (jo_at (jk_105_45))) (jo_at (jk_105_46))) (jo_le (jo_at (jk_105_47)) (jo_at (jk_105_48))))) (jo_le (jo_le (jo_le (jo_le (jo_at (jk_105_51)) (jo_at (jk_105_52))) (jo_at (jk_105_53))) (jo_le (jo_at (jk_105_54)) (jo_at (jk_105_57)))) (jo_le (jo_le (jo_at (jk_105_58)) (jo_at (jk_105_59))) (jo_le (jo_at (jk_105_62)) (jo_at (jk_105_65))))))) (jo_le (jo_le (jo_le (jo_le (jo_le (jo_le (jo_at (jk_105_66)) (jo_at (jk_105_69))) (jo_at (jk_105_70))) (jo_le (jo_at (jk_105_71)) (jo_at (jk_105_73)))) (jo_le (jo_le (jo_le (jo_at (jk_105_76)) (jo_at (jk_105_77))) (jo_at (jk_105_80))) (jo_le (jo_at (jk_105_81)) (jo_at (jk_105_82))))) (jo_le (jo_le (jo_le (jo_le (jo_at (jk_105_83)) (jo_at (jk_105_86))) (jo_at (jk_105_87))) (jo_le (jo_at (jk_105_90)) (jo_at (jk_105_91)))) (jo_le (jo_le (jo_at (jk_105_92)) (jo_at (jk_105_93))) (jo_le (jo_at (jk_105_96)) (jo_at (jk_105_97)))))) (jo_le (jo_le (jo_le (jo_le (jo_le (jo_at (jk_105_98)) (jo_at (jk_105_99))) (jo_at (jk_105_102))) (jo_le (jo_at (jk_105_103)) (jo_at (jk_105_106)))) (jo_le (jo_le (jo_at (jk_105_108)) (jo_at (jk_105_111))) (jo_le (jo_at (jk_105_112)) (jo_at (jk_105_113))))) (jo_le (jo_le (jo_le (jo_le (jo_at (jk_105_114)) (jo_at (jk_105_116))) (jo_at (jk_105_119))) (jo_le (jo_at (jk_105_120)) (jo_at (jk_105_121)))) (jo_le (jo_le (jo_at (jk_105_124)) (jo_at (jk_105_127))) (jo_le (jo_at (jk_105_128)) (jo_at (jk_105_131)))))))) (jo_le (jo_le (jo_le (jo_le (jo_le (jo_le (jo_le (jo_at (jk_105_132)) (jo_at (jk_105_133))) (jo_at (jk_105_134))) (jo_le (jo_at (jk_105_137)) (jo_at (jk_105_138)))) (jo_le (jo_le (jo_le (jo_at (jk_105_141)) (jo_at (jk_105_142))) (jo_at (jk_105_143))) (jo_le (jo_at (jk_105_144)) (jo_at (jk_105_147))))) (jo_le (jo_le (jo_le (jo_le (jo_at (jk_105_148)) (jo_at (jk_105_151))) (jo_at (jk_105_152))) (jo_le (jo_at (jk_105_153)) (jo_at (jk_105_154)))) (jo_le (jo_le (jo_at (jk_105_155)) (jo_at (jk_105_156))) (jo_le (jo_at (jk_105_159)) (jo_at (jk_105_162)))))) (jo_le (jo_le (jo_le (jo_le (jo_le (jo_at (jk_105_163)) (jo_at (jk_105_164))) (jo_at (jk_105_165))) (jo_le (jo_at (jk_105_168)) (jo_at (jk_105_169)))) (jo_le (jo_le (jo_at (jk_105_170)) (jo_at (jk_105_171))) (jo_le (jo_at (jk_105_174)) (jo_at (jk_105_175))))) (jo_le (jo_le (jo_le (jo_le (jo_at (jk_105_178)) (jo_at (jk_105_179))) (jo_at (jk_105_180))) (jo_le (jo_at (jk_105_182)) (jo_at (jk_105_185)))) (jo_le (jo_le (jo_at (jk_105_186)) (jo_at (jk_105_187))) (jo_le (jo_at (jk_105_188)) (jo_at (jk_105_189))))))) (jo_le (jo_le (jo_le (jo_le (jo_le (jo_le (jo_at (jk_105_192)) (jo_at (jk_105_193))) (jo_at (jk_105_194))) (jo_le (jo_at (jk_105_197)) (jo_at (jk_105_198)))) (jo_le (jo_le (jo_le (jo_at (jk_105_201)) (jo_at (jk_105_202))) (jo_at (jk_105_203))) (jo_le (jo_at (jk_105_204)) (jo_at (jk_105_205))))) (jo_le (jo_le (jo_le (jo_le (jo_at (jk_105_208)) (jo_at (jk_105_211))) (jo_at (jk_105_212))) (jo_le (jo_at (jk_105_213)) (jo_at (jk_105_214)))) (jo_le (jo_le (jo_at (jk_105_217)) (jo_at (jk_105_218))) (jo_le (jo_at (jk_105_219)) (jo_at (jk_105_222)))))) (jo_le (jo_le (jo_le (jo_le (jo_le (jo_at (jk_105_223)) (jo_at (jk_105_226))) (jo_at (jk_105_227))) (jo_le (jo_at (jk_105_228)) (jo_at (jk_105_229)))) (jo_le (jo_le (jo_at (jk_105_231)) (jo_at (jk_105_234))) (jo_le (jo_at (jk_105_235)) (jo_at (jk_105_238))))) (jo_le (jo_le (jo_le (jo_le (jo_at (jk_105_239)) (jo_at (jk_105_240))) (jo_at (jk_105_243))) (jo_le (jo_at (jk_105_244)) (jo_at (jk_105_247)))) (jo_le (jo_le (jo_at (jk_105_248)) (jo_at (jk_105_249))) (jo_le (jo_at (jk_105_252)) (jo_at (jk_105_253))))))))
theorem ji_105 {l : Launch} {D : va_G} {cA : ClassId} {ρ : Nat → Nat} {Λ : List jx_Lc} {d : Nat} {Q : Option Value → jx_St → Prop} {σ : jx_St} {z0 : Nat} {a1 : Int32} {a2 : Int32} {a3 : Int32} {a4 : Int32} (h : jt_105 0 Λ jx_tb0 (jx_rn Λ jx_tb0 jt_105 (fun k' as σ K => jx_C l D cA ρ Λ d k' as σ K) Q (jx_J l D cA ρ Λ (jx_A ρ Λ) jx_tb0 (d + 1) 105 Q) [] 400) (fun k' as σ K => jx_C l D cA ρ Λ d k' as σ K) Q 0 [(0, .ref z0), (1, .int a1), (2, .int a2), (3, .int a3), (4, .int a4)] [] σ) : jx_C l D cA ρ Λ (d + 1) 105 [.ref z0, .int a1, .int a2, .int a3, .int a4] σ Q := jx_in jk_105 400 [] rfl (Nat.le_of_ble_eq_true rfl) h
/-! ScriptLedgerModel.reckon(III)Z -/
theorem jd_106_0 : decode prog_10_method_19_code 0 = .ok (.iload_n 1, 1) := by decide +kernel
theorem jd_106_1 : decode prog_10_method_19_code 1 = .ok (.iconst 3, 1) := by decide +kernel
theorem jd_106_2 : decode prog_10_method_19_code 2 = .ok (.if_icmp .ne 12, 3) := by decide +kernel
theorem jd_106_5 : decode prog_10_method_19_code 5 = .ok (.iload_n 3, 1) := by decide +kernel
theorem jd_106_6 : decode prog_10_method_19_code 6 = .ok (.ifCond .ne 8, 3) := by decide +kernel
theorem jd_106_9 : decode prog_10_method_19_code 9 = .ok (.aload_n 0, 1) := by decide +kernel
theorem jd_106_10 : decode prog_10_method_19_code 10 = .ok (.invokevirtual 159, 3) := by decide +kernel
theorem jd_106_13 : decode prog_10_method_19_code 13 = .ok (.ireturn, 1) := by decide +kernel
theorem jd_106_14 : decode prog_10_method_19_code 14 = .ok (.iload_n 1, 1) := by decide +kernel
theorem jd_106_15 : decode prog_10_method_19_code 15 = .ok (.iconst 4, 1) := by decide +kernel
theorem jd_106_16 : decode prog_10_method_19_code 16 = .ok (.if_icmp .eq 8, 3) := by decide +kernel
theorem jd_106_19 : decode prog_10_method_19_code 19 = .ok (.iload_n 1, 1) := by decide +kernel
theorem jd_106_20 : decode prog_10_method_19_code 20 = .ok (.iconst 5, 1) := by decide +kernel
theorem jd_106_21 : decode prog_10_method_19_code 21 = .ok (.if_icmp .ne 41, 3) := by decide +kernel
theorem jd_106_24 : decode prog_10_method_19_code 24 = .ok (.aload_n 0, 1) := by decide +kernel
theorem jd_106_25 : decode prog_10_method_19_code 25 = .ok (.aload_n 0, 1) := by decide +kernel
theorem jd_106_26 : decode prog_10_method_19_code 26 = .ok (.iconst 1, 1) := by decide +kernel
theorem jd_106_27 : decode prog_10_method_19_code 27 = .ok (.iload_n 1, 1) := by decide +kernel
theorem jd_106_28 : decode prog_10_method_19_code 28 = .ok (.iconst 4, 1) := by decide +kernel
theorem jd_106_29 : decode prog_10_method_19_code 29 = .ok (.if_icmp .ne 11, 3) := by decide +kernel
theorem jd_106_32 : decode prog_10_method_19_code 32 = .ok (.iload_n 2, 1) := by decide +kernel
theorem jd_106_33 : decode prog_10_method_19_code 33 = .ok (.iload_n 3, 1) := by decide +kernel
theorem jd_106_34 : decode prog_10_method_19_code 34 = .ok (.if_icmp .ne 15, 3) := by decide +kernel
theorem jd_106_37 : decode prog_10_method_19_code 37 = .ok (.goto 8, 3) := by decide +kernel
theorem jd_106_40 : decode prog_10_method_19_code 40 = .ok (.iload_n 2, 1) := by decide +kernel
theorem jd_106_41 : decode prog_10_method_19_code 41 = .ok (.iload_n 3, 1) := by decide +kernel
theorem jd_106_42 : decode prog_10_method_19_code 42 = .ok (.if_icmp .ge 7, 3) := by decide +kernel
theorem jd_106_45 : decode prog_10_method_19_code 45 = .ok (.iconst 1, 1) := by decide +kernel
theorem jd_106_46 : decode prog_10_method_19_code 46 = .ok (.goto 4, 3) := by decide +kernel
theorem jd_106_49 : decode prog_10_method_19_code 49 = .ok (.iconst 0, 1) := by decide +kernel
theorem jd_106_50 : decode prog_10_method_19_code 50 = .ok (.iconst 0, 1) := by decide +kernel
theorem jd_106_51 : decode prog_10_method_19_code 51 = .ok (.iconst 0, 1) := by decide +kernel
theorem jd_106_52 : decode prog_10_method_19_code 52 = .ok (.iconst 0, 1) := by decide +kernel
theorem jd_106_53 : decode prog_10_method_19_code 53 = .ok (.invokevirtual 122, 3) := by decide +kernel
theorem jd_106_56 : decode prog_10_method_19_code 56 = .ok (.putfield 145, 3) := by decide +kernel
theorem jd_106_59 : decode prog_10_method_19_code 59 = .ok (.goto 46, 3) := by decide +kernel
theorem jd_106_62 : decode prog_10_method_19_code 62 = .ok (.aload_n 0, 1) := by decide +kernel
theorem jd_106_63 : decode prog_10_method_19_code 63 = .ok (.aload_n 0, 1) := by decide +kernel
theorem jd_106_64 : decode prog_10_method_19_code 64 = .ok (.iload_n 1, 1) := by decide +kernel
theorem jd_106_65 : decode prog_10_method_19_code 65 = .ok (.ifCond .ne 9, 3) := by decide +kernel
theorem jd_106_68 : decode prog_10_method_19_code 68 = .ok (.iload_n 2, 1) := by decide +kernel
theorem jd_106_69 : decode prog_10_method_19_code 69 = .ok (.iload_n 3, 1) := by decide +kernel
theorem jd_106_70 : decode prog_10_method_19_code 70 = .ok (.iadd, 1) := by decide +kernel
theorem jd_106_71 : decode prog_10_method_19_code 71 = .ok (.goto 28, 3) := by decide +kernel
theorem jd_106_74 : decode prog_10_method_19_code 74 = .ok (.iload_n 1, 1) := by decide +kernel
theorem jd_106_75 : decode prog_10_method_19_code 75 = .ok (.iconst 1, 1) := by decide +kernel
theorem jd_106_76 : decode prog_10_method_19_code 76 = .ok (.if_icmp .ne 9, 3) := by decide +kernel
theorem jd_106_79 : decode prog_10_method_19_code 79 = .ok (.iload_n 2, 1) := by decide +kernel
theorem jd_106_80 : decode prog_10_method_19_code 80 = .ok (.iload_n 3, 1) := by decide +kernel
theorem jd_106_81 : decode prog_10_method_19_code 81 = .ok (.isub, 1) := by decide +kernel
theorem jd_106_82 : decode prog_10_method_19_code 82 = .ok (.goto 17, 3) := by decide +kernel
theorem jd_106_85 : decode prog_10_method_19_code 85 = .ok (.iload_n 1, 1) := by decide +kernel
theorem jd_106_86 : decode prog_10_method_19_code 86 = .ok (.iconst 2, 1) := by decide +kernel
theorem jd_106_87 : decode prog_10_method_19_code 87 = .ok (.if_icmp .ne 9, 3) := by decide +kernel
theorem jd_106_90 : decode prog_10_method_19_code 90 = .ok (.iload_n 2, 1) := by decide +kernel
theorem jd_106_91 : decode prog_10_method_19_code 91 = .ok (.iload_n 3, 1) := by decide +kernel
theorem jd_106_92 : decode prog_10_method_19_code 92 = .ok (.imul, 1) := by decide +kernel
theorem jd_106_93 : decode prog_10_method_19_code 93 = .ok (.goto 6, 3) := by decide +kernel
theorem jd_106_96 : decode prog_10_method_19_code 96 = .ok (.iload_n 2, 1) := by decide +kernel
theorem jd_106_97 : decode prog_10_method_19_code 97 = .ok (.iload_n 3, 1) := by decide +kernel
theorem jd_106_98 : decode prog_10_method_19_code 98 = .ok (.idiv, 1) := by decide +kernel
theorem jd_106_99 : decode prog_10_method_19_code 99 = .ok (.invokevirtual 156, 3) := by decide +kernel
theorem jd_106_102 : decode prog_10_method_19_code 102 = .ok (.putfield 145, 3) := by decide +kernel
theorem jd_106_105 : decode prog_10_method_19_code 105 = .ok (.iconst 1, 1) := by decide +kernel
theorem jd_106_106 : decode prog_10_method_19_code 106 = .ok (.ireturn, 1) := by decide +kernel
def jt_106 (pc : Nat) : jx_Sp := bif Nat.ble pc 52 then (bif Nat.ble pc 26 then (bif Nat.ble pc 14 then (bif Nat.ble pc 6 then (bif Nat.ble pc 2 then (bif Nat.ble pc 1 then (bif Nat.ble pc 0 then (bif Nat.beq pc 0 then js_il 1 1 else js_none) else (bif Nat.beq pc 1 then js_c 3 1 else js_none)) else (bif Nat.beq pc 2 then js_cne 14 else js_none)) else (bif Nat.ble pc 5 then (bif Nat.beq pc 5 then js_il 3 1 else js_none) else (bif Nat.beq pc 6 then js_ifne 14 else js_none))) else (bif Nat.ble pc 10 then (bif Nat.ble pc 9 then (bif Nat.beq pc 9 then js_al 0 1 else js_none) else (bif Nat.beq pc 10 then js_v0 8 99 else js_none)) else (bif Nat.ble pc 13 then (bif Nat.beq pc 13 then js_zr else js_none) else (bif Nat.beq pc 14 then js_il 1 1 else js_none)))) else (bif Nat.ble pc 20 then (bif Nat.ble pc 16 then (bif Nat.ble pc 15 then (bif Nat.beq pc 15 then js_c 4 1 else js_none) else (bif Nat.beq pc 16 then js_ceq 24 else js_none)) else (bif Nat.ble pc 19 then (bif Nat.beq pc 19 then js_il 1 1 else js_none) else (bif Nat.beq pc 20 then js_c 5 1 else js_none))) else (bif Nat.ble pc 24 then (bif Nat.ble pc 21 then (bif Nat.beq pc 21 then js_cne 62 else js_none) else (bif Nat.beq pc 24 then js_al 0 1 else js_none)) else (bif Nat.ble pc 25 then (bif Nat.beq pc 25 then js_al 0 1 else js_none) else (bif Nat.beq pc 26 then js_c 1 1 else js_none))))) else (bif Nat.ble pc 40 then (bif Nat.ble pc 32 then (bif Nat.ble pc 28 then (bif Nat.ble pc 27 then (bif Nat.beq pc 27 then js_il 1 1 else js_none) else (bif Nat.beq pc 28 then js_c 4 1 else js_none)) else (bif Nat.ble pc 29 then (bif Nat.beq pc 29 then js_cne 40 else js_none) else (bif Nat.beq pc 32 then js_il 2 1 else js_none))) else (bif Nat.ble pc 34 then (bif Nat.ble pc 33 then (bif Nat.beq pc 33 then js_il 3 1 else js_none) else (bif Nat.beq pc 34 then js_cne 49 else js_none)) else (bif Nat.ble pc 37 then (bif Nat.beq pc 37 then js_go 45 else js_none) else (bif Nat.beq pc 40 then js_il 2 1 else js_none)))) else (bif Nat.ble pc 46 then (bif Nat.ble pc 42 then (bif Nat.ble pc 41 then (bif Nat.beq pc 41 then js_il 3 1 else js_none) else (bif Nat.beq pc 42 then js_cge 49 else js_none)) else (bif Nat.ble pc 45 then (bif Nat.beq pc 45 then js_c 1 1 else js_none) else (bif Nat.beq pc 46 then js_go 50 else js_none))) else (bif Nat.ble pc 50 then (bif Nat.ble pc 49 then (bif Nat.beq pc 49 then js_c 0 1 else js_none) else (bif Nat.beq pc 50 then js_c 0 1 else js_none)) else (bif Nat.ble pc 51 then (bif Nat.beq pc 51 then js_c 0 1 else js_none) else (bif Nat.beq pc 52 then js_c 0 1 else js_none)))))) else (bif Nat.ble pc 80 then (bif Nat.ble pc 68 then (bif Nat.ble pc 62 then (bif Nat.ble pc 56 then (bif Nat.ble pc 53 then (bif Nat.beq pc 53 then js_v5 8 94 else js_none) else (bif Nat.beq pc 56 then js_putf 8 20 false else js_none)) else (bif Nat.ble pc 59 then (bif Nat.beq pc 59 then js_go 105 else js_none) else (bif Nat.beq pc 62 then js_al 0 1 else js_none))) else (bif Nat.ble pc 64 then (bif Nat.ble pc 63 then (bif Nat.beq pc 63 then js_al 0 1 else js_none) else (bif Nat.beq pc 64 then js_il 1 1 else js_none)) else (bif Nat.ble pc 65 then (bif Nat.beq pc 65 then js_ifne 74 else js_none) else (bif Nat.beq pc 68 then js_il 2 1 else js_none)))) else (bif Nat.ble pc 74 then (bif Nat.ble pc 70 then (bif Nat.ble pc 69 then (bif Nat.beq pc 69 then js_il 3 1 else js_none) else (bif Nat.beq pc 70 then js_iadd else js_none)) else (bif Nat.ble pc 71 then (bif Nat.beq pc 71 then js_go 99 else js_none) else (bif Nat.beq pc 74 then js_il 1 1 else js_none))) else (bif Nat.ble pc 76 then (bif Nat.ble pc 75 then (bif Nat.beq pc 75 then js_c 1 1 else js_none) else (bif Nat.beq pc 76 then js_cne 85 else js_none)) else (bif Nat.ble pc 79 then (bif Nat.beq pc 79 then js_il 2 1 else js_none) else (bif Nat.beq pc 80 then js_il 3 1 else js_none))))) else (bif Nat.ble pc 92 then (bif Nat.ble pc 86 then (bif Nat.ble pc 82 then (bif Nat.ble pc 81 then (bif Nat.beq pc 81 then js_isub else js_none) else (bif Nat.beq pc 82 then js_go 99 else js_none)) else (bif Nat.ble pc 85 then (bif Nat.beq pc 85 then js_il 1 1 else js_none) else (bif Nat.beq pc 86 then js_c 2 1 else js_none))) else (bif Nat.ble pc 90 then (bif Nat.ble pc 87 then (bif Nat.beq pc 87 then js_cne 96 else js_none) else (bif Nat.beq pc 90 then js_il 2 1 else js_none)) else (bif Nat.ble pc 91 then (bif Nat.beq pc 91 then js_il 3 1 else js_none) else (bif Nat.beq pc 92 then js_imul else js_none)))) else (bif Nat.ble pc 98 then (bif Nat.ble pc 96 then (bif Nat.ble pc 93 then (bif Nat.beq pc 93 then js_go 99 else js_none) else (bif Nat.beq pc 96 then js_il 2 1 else js_none)) else (bif Nat.ble pc 97 then (bif Nat.beq pc 97 then js_il 3 1 else js_none) else (bif Nat.beq pc 98 then js_idiv else js_none))) else (bif Nat.ble pc 102 then (bif Nat.ble pc 99 then (bif Nat.beq pc 99 then js_v1 8 95 else js_none) else (bif Nat.beq pc 102 then js_putf 8 20 false else js_none)) else (bif Nat.ble pc 105 then (bif Nat.beq pc 105 then js_c 1 1 else js_none) else (bif Nat.beq pc 106 then js_zr else js_none))))))
theorem jk_106_0 : jx_Snd 106 0 (js_il 1 1) := jo_iload_n (i := 1) (w := 1) rfl jd_106_0
theorem jk_106_1 : jx_Snd 106 1 (js_c 3 1) := jo_iconst (z := 3) jd_106_1 rfl
theorem jk_106_2 : jx_Snd 106 2 (js_cne 14) := jo_cne (o := 12) rfl jd_106_2
theorem jk_106_5 : jx_Snd 106 5 (js_il 3 1) := jo_iload_n (i := 3) (w := 3) rfl jd_106_5
theorem jk_106_6 : jx_Snd 106 6 (js_ifne 14) := jo_ifne (o := 8) rfl jd_106_6
theorem jk_106_9 : jx_Snd 106 9 (js_al 0 1) := jo_aload_n (i := 0) (w := 0) rfl jd_106_9
theorem jk_106_10 : jx_Snd 106 10 (js_v0 8 99) := jo_v0 rfl jok_99 (Or.inl jw_556) jw_557 jw_722 rfl jd_106_10
theorem jk_106_13 : jx_Snd 106 13 (js_zr) := jo_zr rfl jd_106_13
theorem jk_106_14 : jx_Snd 106 14 (js_il 1 1) := jo_iload_n (i := 1) (w := 1) rfl jd_106_14
theorem jk_106_15 : jx_Snd 106 15 (js_c 4 1) := jo_iconst (z := 4) jd_106_15 rfl
theorem jk_106_16 : jx_Snd 106 16 (js_ceq 24) := jo_ceq (o := 8) rfl jd_106_16
theorem jk_106_19 : jx_Snd 106 19 (js_il 1 1) := jo_iload_n (i := 1) (w := 1) rfl jd_106_19
theorem jk_106_20 : jx_Snd 106 20 (js_c 5 1) := jo_iconst (z := 5) jd_106_20 rfl
theorem jk_106_21 : jx_Snd 106 21 (js_cne 62) := jo_cne (o := 41) rfl jd_106_21
theorem jk_106_24 : jx_Snd 106 24 (js_al 0 1) := jo_aload_n (i := 0) (w := 0) rfl jd_106_24
theorem jk_106_25 : jx_Snd 106 25 (js_al 0 1) := jo_aload_n (i := 0) (w := 0) rfl jd_106_25
theorem jk_106_26 : jx_Snd 106 26 (js_c 1 1) := jo_iconst (z := 1) jd_106_26 rfl
theorem jk_106_27 : jx_Snd 106 27 (js_il 1 1) := jo_iload_n (i := 1) (w := 1) rfl jd_106_27
theorem jk_106_28 : jx_Snd 106 28 (js_c 4 1) := jo_iconst (z := 4) jd_106_28 rfl
theorem jk_106_29 : jx_Snd 106 29 (js_cne 40) := jo_cne (o := 11) rfl jd_106_29
theorem jk_106_32 : jx_Snd 106 32 (js_il 2 1) := jo_iload_n (i := 2) (w := 2) rfl jd_106_32
theorem jk_106_33 : jx_Snd 106 33 (js_il 3 1) := jo_iload_n (i := 3) (w := 3) rfl jd_106_33
theorem jk_106_34 : jx_Snd 106 34 (js_cne 49) := jo_cne (o := 15) rfl jd_106_34
theorem jk_106_37 : jx_Snd 106 37 (js_go 45) := jo_goto (o := 8) rfl jd_106_37
theorem jk_106_40 : jx_Snd 106 40 (js_il 2 1) := jo_iload_n (i := 2) (w := 2) rfl jd_106_40
theorem jk_106_41 : jx_Snd 106 41 (js_il 3 1) := jo_iload_n (i := 3) (w := 3) rfl jd_106_41
theorem jk_106_42 : jx_Snd 106 42 (js_cge 49) := jo_cge (o := 7) rfl jd_106_42
theorem jk_106_45 : jx_Snd 106 45 (js_c 1 1) := jo_iconst (z := 1) jd_106_45 rfl
theorem jk_106_46 : jx_Snd 106 46 (js_go 50) := jo_goto (o := 4) rfl jd_106_46
theorem jk_106_49 : jx_Snd 106 49 (js_c 0 1) := jo_iconst (z := 0) jd_106_49 rfl
theorem jk_106_50 : jx_Snd 106 50 (js_c 0 1) := jo_iconst (z := 0) jd_106_50 rfl
theorem jk_106_51 : jx_Snd 106 51 (js_c 0 1) := jo_iconst (z := 0) jd_106_51 rfl
theorem jk_106_52 : jx_Snd 106 52 (js_c 0 1) := jo_iconst (z := 0) jd_106_52 rfl
theorem jk_106_53 : jx_Snd 106 53 (js_v5 8 94) := jo_v5 rfl jok_94 (Or.inl jw_538) jw_539 jw_716 rfl jd_106_53
theorem jk_106_56 : jx_Snd 106 56 (js_putf 8 20 false) := jo_putf (z := false) rfl jf_8_145 (fun C T N h => by cases h; rfl) jd_106_56
theorem jk_106_59 : jx_Snd 106 59 (js_go 105) := jo_goto (o := 46) rfl jd_106_59
theorem jk_106_62 : jx_Snd 106 62 (js_al 0 1) := jo_aload_n (i := 0) (w := 0) rfl jd_106_62
theorem jk_106_63 : jx_Snd 106 63 (js_al 0 1) := jo_aload_n (i := 0) (w := 0) rfl jd_106_63
theorem jk_106_64 : jx_Snd 106 64 (js_il 1 1) := jo_iload_n (i := 1) (w := 1) rfl jd_106_64
theorem jk_106_65 : jx_Snd 106 65 (js_ifne 74) := jo_ifne (o := 9) rfl jd_106_65
theorem jk_106_68 : jx_Snd 106 68 (js_il 2 1) := jo_iload_n (i := 2) (w := 2) rfl jd_106_68
theorem jk_106_69 : jx_Snd 106 69 (js_il 3 1) := jo_iload_n (i := 3) (w := 3) rfl jd_106_69
theorem jk_106_70 : jx_Snd 106 70 (js_iadd) := jo_iadd jd_106_70
theorem jk_106_71 : jx_Snd 106 71 (js_go 99) := jo_goto (o := 28) rfl jd_106_71
theorem jk_106_74 : jx_Snd 106 74 (js_il 1 1) := jo_iload_n (i := 1) (w := 1) rfl jd_106_74
theorem jk_106_75 : jx_Snd 106 75 (js_c 1 1) := jo_iconst (z := 1) jd_106_75 rfl
theorem jk_106_76 : jx_Snd 106 76 (js_cne 85) := jo_cne (o := 9) rfl jd_106_76
theorem jk_106_79 : jx_Snd 106 79 (js_il 2 1) := jo_iload_n (i := 2) (w := 2) rfl jd_106_79
theorem jk_106_80 : jx_Snd 106 80 (js_il 3 1) := jo_iload_n (i := 3) (w := 3) rfl jd_106_80
theorem jk_106_81 : jx_Snd 106 81 (js_isub) := jo_isub jd_106_81
theorem jk_106_82 : jx_Snd 106 82 (js_go 99) := jo_goto (o := 17) rfl jd_106_82
theorem jk_106_85 : jx_Snd 106 85 (js_il 1 1) := jo_iload_n (i := 1) (w := 1) rfl jd_106_85
theorem jk_106_86 : jx_Snd 106 86 (js_c 2 1) := jo_iconst (z := 2) jd_106_86 rfl
theorem jk_106_87 : jx_Snd 106 87 (js_cne 96) := jo_cne (o := 9) rfl jd_106_87
theorem jk_106_90 : jx_Snd 106 90 (js_il 2 1) := jo_iload_n (i := 2) (w := 2) rfl jd_106_90
theorem jk_106_91 : jx_Snd 106 91 (js_il 3 1) := jo_iload_n (i := 3) (w := 3) rfl jd_106_91
theorem jk_106_92 : jx_Snd 106 92 (js_imul) := jo_imul jd_106_92
theorem jk_106_93 : jx_Snd 106 93 (js_go 99) := jo_goto (o := 6) rfl jd_106_93
theorem jk_106_96 : jx_Snd 106 96 (js_il 2 1) := jo_iload_n (i := 2) (w := 2) rfl jd_106_96
theorem jk_106_97 : jx_Snd 106 97 (js_il 3 1) := jo_iload_n (i := 3) (w := 3) rfl jd_106_97
theorem jk_106_98 : jx_Snd 106 98 (js_idiv) := jo_idiv jd_106_98
theorem jk_106_99 : jx_Snd 106 99 (js_v1 8 95) := jo_v1 rfl jok_95 (Or.inl jw_535) jw_536 jw_715 rfl jd_106_99
theorem jk_106_102 : jx_Snd 106 102 (js_putf 8 20 false) := jo_putf (z := false) rfl jf_8_145 (fun C T N h => by cases h; rfl) jd_106_102
theorem jk_106_105 : jx_Snd 106 105 (js_c 1 1) := jo_iconst (z := 1) jd_106_105 rfl
theorem jk_106_106 : jx_Snd 106 106 (js_zr) := jo_zr rfl jd_106_106
theorem jk_106 : jx_So 106 jt_106 := fun pc => jo_le (jo_le (jo_le (jo_le (jo_le (jo_le (jo_le (jo_at (jk_106_0)) (jo_at (jk_106_1))) (jo_at (jk_106_2))) (jo_le (jo_at (jk_106_5)) (jo_at (jk_106_6)))) (jo_le (jo_le (jo_at (jk_106_9)) (jo_at (jk_106_10))) (jo_le (jo_at (jk_106_13)) (jo_at (jk_106_14))))) (jo_le (jo_le (jo_le (jo_at (jk_106_15)) (jo_at (jk_106_16))) (jo_le (jo_at (jk_106_19)) (jo_at (jk_106_20)))) (jo_le (jo_le (jo_at (jk_106_21)) (jo_at (jk_106_24))) (jo_le (jo_at (jk_106_25)) (jo_at (jk_106_26)))))) (jo_le (jo_le (jo_le (jo_le (jo_at (jk_106_27)) (jo_at (jk_106_28))) (jo_le (jo_at (jk_106_29)) (jo_at (jk_106_32)))) (jo_le (jo_le (jo_at (jk_106_33)) (jo_at (jk_106_34))) (jo_le (jo_at (jk_106_37)) (jo_at (jk_106_40))))) (jo_le (jo_le (jo_le (jo_at (jk_106_41)) (jo_at (jk_106_42))) (jo_le (jo_at (jk_106_45)) (jo_at (jk_106_46)))) (jo_le (jo_le (jo_at (jk_106_49)) (jo_at (jk_106_50))) (jo_le (jo_at (jk_106_51)) (jo_at (jk_106_52))))))) (jo_le (jo_le (jo_le (jo_le (jo_le (jo_at (jk_106_53)) (jo_at (jk_106_56))) (jo_le (jo_at (jk_106_59)) (jo_at (jk_106_62)))) (jo_le (jo_le (jo_at (jk_106_63)) (jo_at (jk_106_64))) (jo_le (jo_at (jk_106_65)) (jo_at (jk_106_68))))) (jo_le (jo_le (jo_le (jo_at (jk_106_69)) (jo_at (jk_106_70))) (jo_le (jo_at (jk_106_71)) (jo_at (jk_106_74)))) (jo_le (jo_le (jo_at (jk_106_75)) (jo_at (jk_106_76))) (jo_le (jo_at (jk_106_79)) (jo_at (jk_106_80)))))) (jo_le (jo_le (jo_le (jo_le (jo_at (jk_106_81)) (jo_at (jk_106_82))) (jo_le (jo_at (jk_106_85)) (jo_at (jk_106_86)))) (jo_le (jo_le (jo_at (jk_106_87)) (jo_at (jk_106_90))) (jo_le (jo_at (jk_106_91)) (jo_at (jk_106_92))))) (jo_le (jo_le (jo_le (jo_at (jk_106_93)) (jo_at (jk_106_96))) (jo_le (jo_at (jk_106_97)) (jo_at (jk_106_98)))) (jo_le (jo_le (jo_at (jk_106_99)) (jo_at (jk_106_102))) (jo_le (jo_at (jk_106_105)) (jo_at (jk_106_106)))))))
theorem ji_106 {l : Launch} {D : va_G} {cA : ClassId} {ρ : Nat → Nat} {Λ : List jx_Lc} {d : Nat} {Q : Option Value → jx_St → Prop} {σ : jx_St} {z0 : Nat} {a1 : Int32} {a2 : Int32} {a3 : Int32} (h : jt_106 0 Λ jx_tb0 (jx_rn Λ jx_tb0 jt_106 (fun k' as σ K => jx_C l D cA ρ Λ d k' as σ K) Q (jx_J l D cA ρ Λ (jx_A ρ Λ) jx_tb0 (d + 1) 106 Q) [] 400) (fun k' as σ K => jx_C l D cA ρ Λ d k' as σ K) Q 0 [(0, .ref z0), (1, .int a1), (2, .int a2), (3, .int a3)] [] σ) : jx_C l D cA ρ Λ (d + 1) 106 [.ref z0, .int a1, .int a2, .int a3] σ Q := jx_in jk_106 400 [] rfl (Nat.le_of_ble_eq_true rfl) h
/-! ScriptLedgerModel.runWith(IIIII)V -/
theorem jd_107_0 : decode prog_10_method_20_code 0 = .ok (.aload_n 0, 1) := by decide +kernel
theorem jd_107_1 : decode prog_10_method_20_code 1 = .ok (.iconst 1, 1) := by decide +kernel
theorem jd_107_2 : decode prog_10_method_20_code 2 = .ok (.putfield 187, 3) := by decide +kernel
theorem jd_107_5 : decode prog_10_method_20_code 5 = .ok (.aload_n 0, 1) := by decide +kernel
theorem jd_107_6 : decode prog_10_method_20_code 6 = .ok (.iload 5, 2) := by decide +kernel
theorem jd_107_8 : decode prog_10_method_20_code 8 = .ok (.putfield 129, 3) := by decide +kernel
theorem jd_107_11 : decode prog_10_method_20_code 11 = .ok (.aload_n 0, 1) := by decide +kernel
theorem jd_107_12 : decode prog_10_method_20_code 12 = .ok (.iconst 0, 1) := by decide +kernel
theorem jd_107_13 : decode prog_10_method_20_code 13 = .ok (.putfield 126, 3) := by decide +kernel
theorem jd_107_16 : decode prog_10_method_20_code 16 = .ok (.aload_n 0, 1) := by decide +kernel
theorem jd_107_17 : decode prog_10_method_20_code 17 = .ok (.iconst 0, 1) := by decide +kernel
theorem jd_107_18 : decode prog_10_method_20_code 18 = .ok (.putfield 49, 3) := by decide +kernel
theorem jd_107_21 : decode prog_10_method_20_code 21 = .ok (.aload_n 0, 1) := by decide +kernel
theorem jd_107_22 : decode prog_10_method_20_code 22 = .ok (.iconst 0, 1) := by decide +kernel
theorem jd_107_23 : decode prog_10_method_20_code 23 = .ok (.putfield 166, 3) := by decide +kernel
theorem jd_107_26 : decode prog_10_method_20_code 26 = .ok (.aload_n 0, 1) := by decide +kernel
theorem jd_107_27 : decode prog_10_method_20_code 27 = .ok (.iconst 0, 1) := by decide +kernel
theorem jd_107_28 : decode prog_10_method_20_code 28 = .ok (.putfield 132, 3) := by decide +kernel
theorem jd_107_31 : decode prog_10_method_20_code 31 = .ok (.aload_n 0, 1) := by decide +kernel
theorem jd_107_32 : decode prog_10_method_20_code 32 = .ok (.iconst 3, 1) := by decide +kernel
theorem jd_107_33 : decode prog_10_method_20_code 33 = .ok (.iload 4, 2) := by decide +kernel
theorem jd_107_35 : decode prog_10_method_20_code 35 = .ok (.iconst 0, 1) := by decide +kernel
theorem jd_107_36 : decode prog_10_method_20_code 36 = .ok (.invokevirtual 152, 3) := by decide +kernel
theorem jd_107_39 : decode prog_10_method_20_code 39 = .ok (.aload_n 0, 1) := by decide +kernel
theorem jd_107_40 : decode prog_10_method_20_code 40 = .ok (.iconst 3, 1) := by decide +kernel
theorem jd_107_41 : decode prog_10_method_20_code 41 = .ok (.iload_n 3, 1) := by decide +kernel
theorem jd_107_42 : decode prog_10_method_20_code 42 = .ok (.iconst 0, 1) := by decide +kernel
theorem jd_107_43 : decode prog_10_method_20_code 43 = .ok (.invokevirtual 152, 3) := by decide +kernel
theorem jd_107_46 : decode prog_10_method_20_code 46 = .ok (.aload_n 0, 1) := by decide +kernel
theorem jd_107_47 : decode prog_10_method_20_code 47 = .ok (.iconst 3, 1) := by decide +kernel
theorem jd_107_48 : decode prog_10_method_20_code 48 = .ok (.iload_n 2, 1) := by decide +kernel
theorem jd_107_49 : decode prog_10_method_20_code 49 = .ok (.iconst 0, 1) := by decide +kernel
theorem jd_107_50 : decode prog_10_method_20_code 50 = .ok (.invokevirtual 152, 3) := by decide +kernel
theorem jd_107_53 : decode prog_10_method_20_code 53 = .ok (.aload_n 0, 1) := by decide +kernel
theorem jd_107_54 : decode prog_10_method_20_code 54 = .ok (.bipush 48, 2) := by decide +kernel
theorem jd_107_56 : decode prog_10_method_20_code 56 = .ok (.iload_n 1, 1) := by decide +kernel
theorem jd_107_57 : decode prog_10_method_20_code 57 = .ok (.imul, 1) := by decide +kernel
theorem jd_107_58 : decode prog_10_method_20_code 58 = .ok (.putfield 135, 3) := by decide +kernel
theorem jd_107_61 : decode prog_10_method_20_code 61 = .ok (.aload_n 0, 1) := by decide +kernel
theorem jd_107_62 : decode prog_10_method_20_code 62 = .ok (.iconst 0, 1) := by decide +kernel
theorem jd_107_63 : decode prog_10_method_20_code 63 = .ok (.putfield 142, 3) := by decide +kernel
theorem jd_107_66 : decode prog_10_method_20_code 66 = .ok (.iconst 1, 1) := by decide +kernel
theorem jd_107_67 : decode prog_10_method_20_code 67 = .ok (.istore 6, 2) := by decide +kernel
theorem jd_107_69 : decode prog_10_method_20_code 69 = .ok (.iload 6, 2) := by decide +kernel
theorem jd_107_71 : decode prog_10_method_20_code 71 = .ok (.ifCond .eq 40, 3) := by decide +kernel
theorem jd_107_74 : decode prog_10_method_20_code 74 = .ok (.aload_n 0, 1) := by decide +kernel
theorem jd_107_75 : decode prog_10_method_20_code 75 = .ok (.getfield 135, 3) := by decide +kernel
theorem jd_107_78 : decode prog_10_method_20_code 78 = .ok (.ifCond .ge 10, 3) := by decide +kernel
theorem jd_107_81 : decode prog_10_method_20_code 81 = .ok (.aload_n 0, 1) := by decide +kernel
theorem jd_107_82 : decode prog_10_method_20_code 82 = .ok (.getfield 132, 3) := by decide +kernel
theorem jd_107_85 : decode prog_10_method_20_code 85 = .ok (.ifCond .le 26, 3) := by decide +kernel
theorem jd_107_88 : decode prog_10_method_20_code 88 = .ok (.aload_n 0, 1) := by decide +kernel
theorem jd_107_89 : decode prog_10_method_20_code 89 = .ok (.getfield 135, 3) := by decide +kernel
theorem jd_107_92 : decode prog_10_method_20_code 92 = .ok (.ifCond .lt 10, 3) := by decide +kernel
theorem jd_107_95 : decode prog_10_method_20_code 95 = .ok (.aload_n 0, 1) := by decide +kernel
theorem jd_107_96 : decode prog_10_method_20_code 96 = .ok (.invokevirtual 191, 3) := by decide +kernel
theorem jd_107_99 : decode prog_10_method_20_code 99 = .ok (.goto 7, 3) := by decide +kernel
theorem jd_107_102 : decode prog_10_method_20_code 102 = .ok (.aload_n 0, 1) := by decide +kernel
theorem jd_107_103 : decode prog_10_method_20_code 103 = .ok (.invokevirtual 194, 3) := by decide +kernel
theorem jd_107_106 : decode prog_10_method_20_code 106 = .ok (.istore 6, 2) := by decide +kernel
theorem jd_107_108 : decode prog_10_method_20_code 108 = .ok (.goto (-39), 3) := by decide +kernel
theorem jd_107_111 : decode prog_10_method_20_code 111 = .ok (.iload 6, 2) := by decide +kernel
theorem jd_107_113 : decode prog_10_method_20_code 113 = .ok (.ifCond .eq 38, 3) := by decide +kernel
theorem jd_107_116 : decode prog_10_method_20_code 116 = .ok (.aload_n 0, 1) := by decide +kernel
theorem jd_107_117 : decode prog_10_method_20_code 117 = .ok (.aload_n 0, 1) := by decide +kernel
theorem jd_107_118 : decode prog_10_method_20_code 118 = .ok (.getfield 19, 3) := by decide +kernel
theorem jd_107_121 : decode prog_10_method_20_code 121 = .ok (.aload_n 0, 1) := by decide +kernel
theorem jd_107_122 : decode prog_10_method_20_code 122 = .ok (.getfield 145, 3) := by decide +kernel
theorem jd_107_125 : decode prog_10_method_20_code 125 = .ok (.iaload, 1) := by decide +kernel
theorem jd_107_126 : decode prog_10_method_20_code 126 = .ok (.iconst 1, 1) := by decide +kernel
theorem jd_107_127 : decode prog_10_method_20_code 127 = .ok (.if_icmp .ne 20, 3) := by decide +kernel
theorem jd_107_130 : decode prog_10_method_20_code 130 = .ok (.aload_n 0, 1) := by decide +kernel
theorem jd_107_131 : decode prog_10_method_20_code 131 = .ok (.getfield 22, 3) := by decide +kernel
theorem jd_107_134 : decode prog_10_method_20_code 134 = .ok (.aload_n 0, 1) := by decide +kernel
theorem jd_107_135 : decode prog_10_method_20_code 135 = .ok (.getfield 145, 3) := by decide +kernel
theorem jd_107_138 : decode prog_10_method_20_code 138 = .ok (.iaload, 1) := by decide +kernel
theorem jd_107_139 : decode prog_10_method_20_code 139 = .ok (.iconst 1, 1) := by decide +kernel
theorem jd_107_140 : decode prog_10_method_20_code 140 = .ok (.if_icmp .ne 7, 3) := by decide +kernel
theorem jd_107_143 : decode prog_10_method_20_code 143 = .ok (.iconst 0, 1) := by decide +kernel
theorem jd_107_144 : decode prog_10_method_20_code 144 = .ok (.goto 4, 3) := by decide +kernel
theorem jd_107_147 : decode prog_10_method_20_code 147 = .ok (.iconst 1, 1) := by decide +kernel
theorem jd_107_148 : decode prog_10_method_20_code 148 = .ok (.putfield 49, 3) := by decide +kernel
theorem jd_107_151 : decode prog_10_method_20_code 151 = .ok (.return_, 1) := by decide +kernel
def jt_107 (pc : Nat) : jx_Sp := bif Nat.ble pc 66 then (bif Nat.ble pc 33 then (bif Nat.ble pc 17 then (bif Nat.ble pc 8 then (bif Nat.ble pc 2 then (bif Nat.ble pc 1 then (bif Nat.ble pc 0 then (bif Nat.beq pc 0 then js_al 0 1 else js_none) else (bif Nat.beq pc 1 then js_c 1 1 else js_none)) else (bif Nat.beq pc 2 then js_putf 8 24 true else js_none)) else (bif Nat.ble pc 6 then (bif Nat.ble pc 5 then (bif Nat.beq pc 5 then js_al 0 1 else js_none) else (bif Nat.beq pc 6 then js_il 5 2 else js_none)) else (bif Nat.beq pc 8 then js_putf 8 22 false else js_none))) else (bif Nat.ble pc 13 then (bif Nat.ble pc 12 then (bif Nat.ble pc 11 then (bif Nat.beq pc 11 then js_al 0 1 else js_none) else (bif Nat.beq pc 12 then js_c 0 1 else js_none)) else (bif Nat.beq pc 13 then js_putf 8 21 false else js_none)) else (bif Nat.ble pc 16 then (bif Nat.beq pc 16 then js_al 0 1 else js_none) else (bif Nat.beq pc 17 then js_c 0 1 else js_none)))) else (bif Nat.ble pc 26 then (bif Nat.ble pc 22 then (bif Nat.ble pc 21 then (bif Nat.ble pc 18 then (bif Nat.beq pc 18 then js_putf 8 23 false else js_none) else (bif Nat.beq pc 21 then js_al 0 1 else js_none)) else (bif Nat.beq pc 22 then js_c 0 1 else js_none)) else (bif Nat.ble pc 23 then (bif Nat.beq pc 23 then js_putf 8 11 false else js_none) else (bif Nat.beq pc 26 then js_al 0 1 else js_none))) else (bif Nat.ble pc 31 then (bif Nat.ble pc 28 then (bif Nat.ble pc 27 then (bif Nat.beq pc 27 then js_c 0 1 else js_none) else (bif Nat.beq pc 28 then js_putf 8 14 false else js_none)) else (bif Nat.beq pc 31 then js_al 0 1 else js_none)) else (bif Nat.ble pc 32 then (bif Nat.beq pc 32 then js_c 3 1 else js_none) else (bif Nat.beq pc 33 then js_il 4 2 else js_none))))) else (bif Nat.ble pc 49 then (bif Nat.ble pc 42 then (bif Nat.ble pc 39 then (bif Nat.ble pc 36 then (bif Nat.ble pc 35 then (bif Nat.beq pc 35 then js_c 0 1 else js_none) else (bif Nat.beq pc 36 then js_v3 8 100 else js_none)) else (bif Nat.beq pc 39 then js_al 0 1 else js_none)) else (bif Nat.ble pc 41 then (bif Nat.ble pc 40 then (bif Nat.beq pc 40 then js_c 3 1 else js_none) else (bif Nat.beq pc 41 then js_il 3 1 else js_none)) else (bif Nat.beq pc 42 then js_c 0 1 else js_none))) else (bif Nat.ble pc 47 then (bif Nat.ble pc 46 then (bif Nat.ble pc 43 then (bif Nat.beq pc 43 then js_v3 8 100 else js_none) else (bif Nat.beq pc 46 then js_al 0 1 else js_none)) else (bif Nat.beq pc 47 then js_c 3 1 else js_none)) else (bif Nat.ble pc 48 then (bif Nat.beq pc 48 then js_il 2 1 else js_none) else (bif Nat.beq pc 49 then js_c 0 1 else js_none)))) else (bif Nat.ble pc 57 then (bif Nat.ble pc 54 then (bif Nat.ble pc 53 then (bif Nat.ble pc 50 then (bif Nat.beq pc 50 then js_v3 8 100 else js_none) else (bif Nat.beq pc 53 then js_al 0 1 else js_none)) else (bif Nat.beq pc 54 then js_c 48 2 else js_none)) else (bif Nat.ble pc 56 then (bif Nat.beq pc 56 then js_il 1 1 else js_none) else (bif Nat.beq pc 57 then js_imul else js_none))) else (bif Nat.ble pc 62 then (bif Nat.ble pc 61 then (bif Nat.ble pc 58 then (bif Nat.beq pc 58 then js_putf 8 18 false else js_none) else (bif Nat.beq pc 61 then js_al 0 1 else js_none)) else (bif Nat.beq pc 62 then js_c 0 1 else js_none)) else (bif Nat.ble pc 63 then (bif Nat.beq pc 63 then js_putf 8 19 false else js_none) else (bif Nat.beq pc 66 then js_c 1 1 else js_none)))))) else (bif Nat.ble pc 113 then (bif Nat.ble pc 89 then (bif Nat.ble pc 78 then (bif Nat.ble pc 71 then (bif Nat.ble pc 69 then (bif Nat.ble pc 67 then (bif Nat.beq pc 67 then js_is 6 2 else js_none) else (bif Nat.beq pc 69 then js_il 6 2 else js_none)) else (bif Nat.beq pc 71 then js_ifeq 111 else js_none)) else (bif Nat.ble pc 75 then (bif Nat.ble pc 74 then (bif Nat.beq pc 74 then js_al 0 1 else js_none) else (bif Nat.beq pc 75 then js_getf 8 18 else js_none)) else (bif Nat.beq pc 78 then js_ifge 88 else js_none))) else (bif Nat.ble pc 85 then (bif Nat.ble pc 82 then (bif Nat.ble pc 81 then (bif Nat.beq pc 81 then js_al 0 1 else js_none) else (bif Nat.beq pc 82 then js_getf 8 14 else js_none)) else (bif Nat.beq pc 85 then js_ifle 111 else js_none)) else (bif Nat.ble pc 88 then (bif Nat.beq pc 88 then js_al 0 1 else js_none) else (bif Nat.beq pc 89 then js_getf 8 18 else js_none)))) else (bif Nat.ble pc 102 then (bif Nat.ble pc 96 then (bif Nat.ble pc 95 then (bif Nat.ble pc 92 then (bif Nat.beq pc 92 then js_iflt 102 else js_none) else (bif Nat.beq pc 95 then js_al 0 1 else js_none)) else (bif Nat.beq pc 96 then js_v0 8 101 else js_none)) else (bif Nat.ble pc 99 then (bif Nat.beq pc 99 then js_go 106 else js_none) else (bif Nat.beq pc 102 then js_al 0 1 else js_none))) else (bif Nat.ble pc 108 then (bif Nat.ble pc 106 then (bif Nat.ble pc 103 then (bif Nat.beq pc 103 then js_v0 8 102 else js_none) else (bif Nat.beq pc 106 then js_is 6 2 else js_none)) else (bif Nat.beq pc 108 then js_go 69 else js_none)) else (bif Nat.ble pc 111 then (bif Nat.beq pc 111 then js_il 6 2 else js_none) else (bif Nat.beq pc 113 then js_ifeq 151 else js_none))))) else (bif Nat.ble pc 131 then (bif Nat.ble pc 122 then (bif Nat.ble pc 118 then (bif Nat.ble pc 117 then (bif Nat.ble pc 116 then (bif Nat.beq pc 116 then js_al 0 1 else js_none) else (bif Nat.beq pc 117 then js_al 0 1 else js_none)) else (bif Nat.beq pc 118 then js_getf 8 6 else js_none)) else (bif Nat.ble pc 121 then (bif Nat.beq pc 121 then js_al 0 1 else js_none) else (bif Nat.beq pc 122 then js_getf 8 20 else js_none))) else (bif Nat.ble pc 127 then (bif Nat.ble pc 126 then (bif Nat.ble pc 125 then (bif Nat.beq pc 125 then js_ald else js_none) else (bif Nat.beq pc 126 then js_c 1 1 else js_none)) else (bif Nat.beq pc 127 then js_cne 147 else js_none)) else (bif Nat.ble pc 130 then (bif Nat.beq pc 130 then js_al 0 1 else js_none) else (bif Nat.beq pc 131 then js_getf 8 7 else js_none)))) else (bif Nat.ble pc 140 then (bif Nat.ble pc 138 then (bif Nat.ble pc 135 then (bif Nat.ble pc 134 then (bif Nat.beq pc 134 then js_al 0 1 else js_none) else (bif Nat.beq pc 135 then js_getf 8 20 else js_none)) else (bif Nat.beq pc 138 then js_ald else js_none)) else (bif Nat.ble pc 139 then (bif Nat.beq pc 139 then js_c 1 1 else js_none) else (bif Nat.beq pc 140 then js_cne 147 else js_none))) else (bif Nat.ble pc 147 then (bif Nat.ble pc 144 then (bif Nat.ble pc 143 then (bif Nat.beq pc 143 then js_c 0 1 else js_none) else (bif Nat.beq pc 144 then js_go 148 else js_none)) else (bif Nat.beq pc 147 then js_c 1 1 else js_none)) else (bif Nat.ble pc 148 then (bif Nat.beq pc 148 then js_putf 8 23 false else js_none) else (bif Nat.beq pc 151 then js_vr else js_none))))))
theorem jk_107_0 : jx_Snd 107 0 (js_al 0 1) := jo_aload_n (i := 0) (w := 0) rfl jd_107_0
theorem jk_107_1 : jx_Snd 107 1 (js_c 1 1) := jo_iconst (z := 1) jd_107_1 rfl
theorem jk_107_2 : jx_Snd 107 2 (js_putf 8 24 true) := jo_putf (z := true) rfl jf_8_187 (fun C T N h => by cases h; rfl) jd_107_2
theorem jk_107_5 : jx_Snd 107 5 (js_al 0 1) := jo_aload_n (i := 0) (w := 0) rfl jd_107_5
theorem jk_107_6 : jx_Snd 107 6 (js_il 5 2) := jo_iload (i := 5) jd_107_6
theorem jk_107_8 : jx_Snd 107 8 (js_putf 8 22 false) := jo_putf (z := false) rfl jf_8_129 (fun C T N h => by cases h; rfl) jd_107_8
theorem jk_107_11 : jx_Snd 107 11 (js_al 0 1) := jo_aload_n (i := 0) (w := 0) rfl jd_107_11
theorem jk_107_12 : jx_Snd 107 12 (js_c 0 1) := jo_iconst (z := 0) jd_107_12 rfl
theorem jk_107_13 : jx_Snd 107 13 (js_putf 8 21 false) := jo_putf (z := false) rfl jf_8_126 (fun C T N h => by cases h; rfl) jd_107_13
theorem jk_107_16 : jx_Snd 107 16 (js_al 0 1) := jo_aload_n (i := 0) (w := 0) rfl jd_107_16
theorem jk_107_17 : jx_Snd 107 17 (js_c 0 1) := jo_iconst (z := 0) jd_107_17 rfl
theorem jk_107_18 : jx_Snd 107 18 (js_putf 8 23 false) := jo_putf (z := false) rfl jf_8_49 (fun C T N h => by cases h; rfl) jd_107_18
theorem jk_107_21 : jx_Snd 107 21 (js_al 0 1) := jo_aload_n (i := 0) (w := 0) rfl jd_107_21
theorem jk_107_22 : jx_Snd 107 22 (js_c 0 1) := jo_iconst (z := 0) jd_107_22 rfl
theorem jk_107_23 : jx_Snd 107 23 (js_putf 8 11 false) := jo_putf (z := false) rfl jf_8_166 (fun C T N h => by cases h; rfl) jd_107_23
theorem jk_107_26 : jx_Snd 107 26 (js_al 0 1) := jo_aload_n (i := 0) (w := 0) rfl jd_107_26
theorem jk_107_27 : jx_Snd 107 27 (js_c 0 1) := jo_iconst (z := 0) jd_107_27 rfl
theorem jk_107_28 : jx_Snd 107 28 (js_putf 8 14 false) := jo_putf (z := false) rfl jf_8_132 (fun C T N h => by cases h; rfl) jd_107_28
theorem jk_107_31 : jx_Snd 107 31 (js_al 0 1) := jo_aload_n (i := 0) (w := 0) rfl jd_107_31
theorem jk_107_32 : jx_Snd 107 32 (js_c 3 1) := jo_iconst (z := 3) jd_107_32 rfl
theorem jk_107_33 : jx_Snd 107 33 (js_il 4 2) := jo_iload (i := 4) jd_107_33
theorem jk_107_35 : jx_Snd 107 35 (js_c 0 1) := jo_iconst (z := 0) jd_107_35 rfl
theorem jk_107_36 : jx_Snd 107 36 (js_v3 8 100) := jo_v3 rfl jok_100 (Or.inl jw_544) jw_545 jw_718 rfl jd_107_36
theorem jk_107_39 : jx_Snd 107 39 (js_al 0 1) := jo_aload_n (i := 0) (w := 0) rfl jd_107_39
theorem jk_107_40 : jx_Snd 107 40 (js_c 3 1) := jo_iconst (z := 3) jd_107_40 rfl
theorem jk_107_41 : jx_Snd 107 41 (js_il 3 1) := jo_iload_n (i := 3) (w := 3) rfl jd_107_41
theorem jk_107_42 : jx_Snd 107 42 (js_c 0 1) := jo_iconst (z := 0) jd_107_42 rfl
theorem jk_107_43 : jx_Snd 107 43 (js_v3 8 100) := jo_v3 rfl jok_100 (Or.inl jw_544) jw_545 jw_718 rfl jd_107_43
theorem jk_107_46 : jx_Snd 107 46 (js_al 0 1) := jo_aload_n (i := 0) (w := 0) rfl jd_107_46
theorem jk_107_47 : jx_Snd 107 47 (js_c 3 1) := jo_iconst (z := 3) jd_107_47 rfl
theorem jk_107_48 : jx_Snd 107 48 (js_il 2 1) := jo_iload_n (i := 2) (w := 2) rfl jd_107_48
theorem jk_107_49 : jx_Snd 107 49 (js_c 0 1) := jo_iconst (z := 0) jd_107_49 rfl
theorem jk_107_50 : jx_Snd 107 50 (js_v3 8 100) := jo_v3 rfl jok_100 (Or.inl jw_544) jw_545 jw_718 rfl jd_107_50
theorem jk_107_53 : jx_Snd 107 53 (js_al 0 1) := jo_aload_n (i := 0) (w := 0) rfl jd_107_53
theorem jk_107_54 : jx_Snd 107 54 (js_c 48 2) := jo_bipush (z := 48) jd_107_54 (by decide +kernel)
theorem jk_107_56 : jx_Snd 107 56 (js_il 1 1) := jo_iload_n (i := 1) (w := 1) rfl jd_107_56
theorem jk_107_57 : jx_Snd 107 57 (js_imul) := jo_imul jd_107_57
theorem jk_107_58 : jx_Snd 107 58 (js_putf 8 18 false) := jo_putf (z := false) rfl jf_8_135 (fun C T N h => by cases h; rfl) jd_107_58
theorem jk_107_61 : jx_Snd 107 61 (js_al 0 1) := jo_aload_n (i := 0) (w := 0) rfl jd_107_61
theorem jk_107_62 : jx_Snd 107 62 (js_c 0 1) := jo_iconst (z := 0) jd_107_62 rfl
theorem jk_107_63 : jx_Snd 107 63 (js_putf 8 19 false) := jo_putf (z := false) rfl jf_8_142 (fun C T N h => by cases h; rfl) jd_107_63
theorem jk_107_66 : jx_Snd 107 66 (js_c 1 1) := jo_iconst (z := 1) jd_107_66 rfl
theorem jk_107_67 : jx_Snd 107 67 (js_is 6 2) := jo_istore (i := 6) (Nat.le_of_ble_eq_true rfl) jd_107_67
theorem jk_107_69 : jx_Snd 107 69 (js_il 6 2) := jo_iload (i := 6) jd_107_69
theorem jk_107_71 : jx_Snd 107 71 (js_ifeq 111) := jo_ifeq (o := 40) rfl jd_107_71
theorem jk_107_74 : jx_Snd 107 74 (js_al 0 1) := jo_aload_n (i := 0) (w := 0) rfl jd_107_74
theorem jk_107_75 : jx_Snd 107 75 (js_getf 8 18) := jo_getf rfl jf_8_135 jd_107_75
theorem jk_107_78 : jx_Snd 107 78 (js_ifge 88) := jo_ifge (o := 10) rfl jd_107_78
theorem jk_107_81 : jx_Snd 107 81 (js_al 0 1) := jo_aload_n (i := 0) (w := 0) rfl jd_107_81
theorem jk_107_82 : jx_Snd 107 82 (js_getf 8 14) := jo_getf rfl jf_8_132 jd_107_82
theorem jk_107_85 : jx_Snd 107 85 (js_ifle 111) := jo_ifle (o := 26) rfl jd_107_85
theorem jk_107_88 : jx_Snd 107 88 (js_al 0 1) := jo_aload_n (i := 0) (w := 0) rfl jd_107_88
theorem jk_107_89 : jx_Snd 107 89 (js_getf 8 18) := jo_getf rfl jf_8_135 jd_107_89
theorem jk_107_92 : jx_Snd 107 92 (js_iflt 102) := jo_iflt (o := 10) rfl jd_107_92
theorem jk_107_95 : jx_Snd 107 95 (js_al 0 1) := jo_aload_n (i := 0) (w := 0) rfl jd_107_95
theorem jk_107_96 : jx_Snd 107 96 (js_v0 8 101) := jo_v0 rfl jok_101 (Or.inl jw_547) jw_548 jw_719 rfl jd_107_96
theorem jk_107_99 : jx_Snd 107 99 (js_go 106) := jo_goto (o := 7) rfl jd_107_99
theorem jk_107_102 : jx_Snd 107 102 (js_al 0 1) := jo_aload_n (i := 0) (w := 0) rfl jd_107_102
theorem jk_107_103 : jx_Snd 107 103 (js_v0 8 102) := jo_v0 rfl jok_102 (Or.inl jw_559) jw_560 jw_723 rfl jd_107_103
theorem jk_107_106 : jx_Snd 107 106 (js_is 6 2) := jo_istore (i := 6) (Nat.le_of_ble_eq_true rfl) jd_107_106
theorem jk_107_108 : jx_Snd 107 108 (js_go 69) := jo_goto (o := (-39)) rfl jd_107_108
theorem jk_107_111 : jx_Snd 107 111 (js_il 6 2) := jo_iload (i := 6) jd_107_111
theorem jk_107_113 : jx_Snd 107 113 (js_ifeq 151) := jo_ifeq (o := 38) rfl jd_107_113
theorem jk_107_116 : jx_Snd 107 116 (js_al 0 1) := jo_aload_n (i := 0) (w := 0) rfl jd_107_116
theorem jk_107_117 : jx_Snd 107 117 (js_al 0 1) := jo_aload_n (i := 0) (w := 0) rfl jd_107_117
theorem jk_107_118 : jx_Snd 107 118 (js_getf 8 6) := jo_getf rfl jf_8_19 jd_107_118
theorem jk_107_121 : jx_Snd 107 121 (js_al 0 1) := jo_aload_n (i := 0) (w := 0) rfl jd_107_121
theorem jk_107_122 : jx_Snd 107 122 (js_getf 8 20) := jo_getf rfl jf_8_145 jd_107_122
theorem jk_107_125 : jx_Snd 107 125 (js_ald) := jo_ald jd_107_125
theorem jk_107_126 : jx_Snd 107 126 (js_c 1 1) := jo_iconst (z := 1) jd_107_126 rfl
theorem jk_107_127 : jx_Snd 107 127 (js_cne 147) := jo_cne (o := 20) rfl jd_107_127
theorem jk_107_130 : jx_Snd 107 130 (js_al 0 1) := jo_aload_n (i := 0) (w := 0) rfl jd_107_130
theorem jk_107_131 : jx_Snd 107 131 (js_getf 8 7) := jo_getf rfl jf_8_22 jd_107_131
theorem jk_107_134 : jx_Snd 107 134 (js_al 0 1) := jo_aload_n (i := 0) (w := 0) rfl jd_107_134
theorem jk_107_135 : jx_Snd 107 135 (js_getf 8 20) := jo_getf rfl jf_8_145 jd_107_135
theorem jk_107_138 : jx_Snd 107 138 (js_ald) := jo_ald jd_107_138
theorem jk_107_139 : jx_Snd 107 139 (js_c 1 1) := jo_iconst (z := 1) jd_107_139 rfl
theorem jk_107_140 : jx_Snd 107 140 (js_cne 147) := jo_cne (o := 7) rfl jd_107_140
theorem jk_107_143 : jx_Snd 107 143 (js_c 0 1) := jo_iconst (z := 0) jd_107_143 rfl
theorem jk_107_144 : jx_Snd 107 144 (js_go 148) := jo_goto (o := 4) rfl jd_107_144
theorem jk_107_147 : jx_Snd 107 147 (js_c 1 1) := jo_iconst (z := 1) jd_107_147 rfl
theorem jk_107_148 : jx_Snd 107 148 (js_putf 8 23 false) := jo_putf (z := false) rfl jf_8_49 (fun C T N h => by cases h; rfl) jd_107_148
theorem jk_107_151 : jx_Snd 107 151 (js_vr) := jo_vr rfl jd_107_151
theorem jk_107 : jx_So 107 jt_107 := fun pc => jo_le (jo_le (jo_le (jo_le (jo_le (jo_le (jo_le (jo_at (jk_107_0)) (jo_at (jk_107_1))) (jo_at (jk_107_2))) (jo_le (jo_le (jo_at (jk_107_5)) (jo_at (jk_107_6))) (jo_at (jk_107_8)))) (jo_le (jo_le (jo_le (jo_at (jk_107_11)) (jo_at (jk_107_12))) (jo_at (jk_107_13))) (jo_le (jo_at (jk_107_16)) (jo_at (jk_107_17))))) (jo_le (jo_le (jo_le (jo_le (jo_at (jk_107_18)) (jo_at (jk_107_21))) (jo_at (jk_107_22))) (jo_le (jo_at (jk_107_23)) (jo_at (jk_107_26)))) (jo_le (jo_le (jo_le (jo_at (jk_107_27)) (jo_at (jk_107_28))) (jo_at (jk_107_31))) (jo_le (jo_at (jk_107_32)) (jo_at (jk_107_33)))))) (jo_le (jo_le (jo_le (jo_le (jo_le (jo_at (jk_107_35)) (jo_at (jk_107_36))) (jo_at (jk_107_39))) (jo_le (jo_le (jo_at (jk_107_40)) (jo_at (jk_107_41))) (jo_at (jk_107_42)))) (jo_le (jo_le (jo_le (jo_at (jk_107_43)) (jo_at (jk_107_46))) (jo_at (jk_107_47))) (jo_le (jo_at (jk_107_48)) (jo_at (jk_107_49))))) (jo_le (jo_le (jo_le (jo_le (jo_at (jk_107_50)) (jo_at (jk_107_53))) (jo_at (jk_107_54))) (jo_le (jo_at (jk_107_56)) (jo_at (jk_107_57)))) (jo_le (jo_le (jo_le (jo_at (jk_107_58)) (jo_at (jk_107_61))) (jo_at (jk_107_62))) (jo_le (jo_at (jk_107_63)) (jo_at (jk_107_66))))))) (jo_le (jo_le (jo_le (jo_le (jo_le (jo_le (jo_at (jk_107_67)) (jo_at (jk_107_69))) (jo_at (jk_107_71))) (jo_le (jo_le (jo_at (jk_107_74)) (jo_at (jk_107_75))) (jo_at (jk_107_78)))) (jo_le (jo_le (jo_le (jo_at (jk_107_81)) (jo_at (jk_107_82))) (jo_at (jk_107_85))) (jo_le (jo_at (jk_107_88)) (jo_at (jk_107_89))))) (jo_le (jo_le (jo_le (jo_le (jo_at (jk_107_92)) (jo_at (jk_107_95))) (jo_at (jk_107_96))) (jo_le (jo_at (jk_107_99)) (jo_at (jk_107_102)))) (jo_le (jo_le (jo_le (jo_at (jk_107_103)) (jo_at (jk_107_106))) (jo_at (jk_107_108))) (jo_le (jo_at (jk_107_111)) (jo_at (jk_107_113)))))) (jo_le (jo_le (jo_le (jo_le (jo_le (jo_at (jk_107_116)) (jo_at (jk_107_117))) (jo_at (jk_107_118))) (jo_le (jo_at (jk_107_121)) (jo_at (jk_107_122)))) (jo_le (jo_le (jo_le (jo_at (jk_107_125)) (jo_at (jk_107_126))) (jo_at (jk_107_127))) (jo_le (jo_at (jk_107_130)) (jo_at (jk_107_131))))) (jo_le (jo_le (jo_le (jo_le (jo_at (jk_107_134)) (jo_at (jk_107_135))) (jo_at (jk_107_138))) (jo_le (jo_at (jk_107_139)) (jo_at (jk_107_140)))) (jo_le (jo_le (jo_le (jo_at (jk_107_143)) (jo_at (jk_107_144))) (jo_at (jk_107_147))) (jo_le (jo_at (jk_107_148)) (jo_at (jk_107_151)))))))
theorem ji_107 {l : Launch} {D : va_G} {cA : ClassId} {ρ : Nat → Nat} {Λ : List jx_Lc} {d : Nat} {Q : Option Value → jx_St → Prop} {σ : jx_St} {z0 : Nat} {a1 : Int32} {a2 : Int32} {a3 : Int32} {a4 : Int32} {a5 : Int32} (h : jt_107 0 Λ jx_tb0 (jx_rn Λ jx_tb0 jt_107 (fun k' as σ K => jx_C l D cA ρ Λ d k' as σ K) Q (jx_J l D cA ρ Λ (jx_A ρ Λ) jx_tb0 (d + 1) 107 Q) [] 400) (fun k' as σ K => jx_C l D cA ρ Λ d k' as σ K) Q 0 [(0, .ref z0), (1, .int a1), (2, .int a2), (3, .int a3), (4, .int a4), (5, .int a5)] [] σ) : jx_C l D cA ρ Λ (d + 1) 107 [.ref z0, .int a1, .int a2, .int a3, .int a4, .int a5] σ Q := jx_in jk_107 400 [] rfl (Nat.le_of_ble_eq_true rfl) h
/-! ScriptLedgerModel.run(IIII)I -/
theorem jd_108_0 : decode prog_10_method_21_code 0 = .ok (.iload_n 1, 1) := by decide +kernel
theorem jd_108_1 : decode prog_10_method_21_code 1 = .ok (.aload_n 0, 1) := by decide +kernel
theorem jd_108_2 : decode prog_10_method_21_code 2 = .ok (.getfield 116, 3) := by decide +kernel
theorem jd_108_5 : decode prog_10_method_21_code 5 = .ok (.invokestatic 197, 3) := by decide +kernel
theorem jd_108_8 : decode prog_10_method_21_code 8 = .ok (.ifCond .ne 13, 3) := by decide +kernel
theorem jd_108_11 : decode prog_10_method_21_code 11 = .ok (.iload 4, 2) := by decide +kernel
theorem jd_108_13 : decode prog_10_method_21_code 13 = .ok (.bipush 100, 2) := by decide +kernel
theorem jd_108_15 : decode prog_10_method_21_code 15 = .ok (.invokestatic 197, 3) := by decide +kernel
theorem jd_108_18 : decode prog_10_method_21_code 18 = .ok (.ifCond .eq 5, 3) := by decide +kernel
theorem jd_108_21 : decode prog_10_method_21_code 21 = .ok (.iconst (-1), 1) := by decide +kernel
theorem jd_108_22 : decode prog_10_method_21_code 22 = .ok (.ireturn, 1) := by decide +kernel
theorem jd_108_23 : decode prog_10_method_21_code 23 = .ok (.aload_n 0, 1) := by decide +kernel
theorem jd_108_24 : decode prog_10_method_21_code 24 = .ok (.iconst 0, 1) := by decide +kernel
theorem jd_108_25 : decode prog_10_method_21_code 25 = .ok (.putfield 119, 3) := by decide +kernel
theorem jd_108_28 : decode prog_10_method_21_code 28 = .ok (.aload_n 0, 1) := by decide +kernel
theorem jd_108_29 : decode prog_10_method_21_code 29 = .ok (.iload_n 2, 1) := by decide +kernel
theorem jd_108_30 : decode prog_10_method_21_code 30 = .ok (.invokevirtual 156, 3) := by decide +kernel
theorem jd_108_33 : decode prog_10_method_21_code 33 = .ok (.istore 5, 2) := by decide +kernel
theorem jd_108_35 : decode prog_10_method_21_code 35 = .ok (.aload_n 0, 1) := by decide +kernel
theorem jd_108_36 : decode prog_10_method_21_code 36 = .ok (.iload_n 3, 1) := by decide +kernel
theorem jd_108_37 : decode prog_10_method_21_code 37 = .ok (.invokevirtual 156, 3) := by decide +kernel
theorem jd_108_40 : decode prog_10_method_21_code 40 = .ok (.istore 6, 2) := by decide +kernel
theorem jd_108_42 : decode prog_10_method_21_code 42 = .ok (.aload_n 0, 1) := by decide +kernel
theorem jd_108_43 : decode prog_10_method_21_code 43 = .ok (.iconst 2, 1) := by decide +kernel
theorem jd_108_44 : decode prog_10_method_21_code 44 = .ok (.iconst 0, 1) := by decide +kernel
theorem jd_108_45 : decode prog_10_method_21_code 45 = .ok (.iconst 0, 1) := by decide +kernel
theorem jd_108_46 : decode prog_10_method_21_code 46 = .ok (.iconst 0, 1) := by decide +kernel
theorem jd_108_47 : decode prog_10_method_21_code 47 = .ok (.iconst 0, 1) := by decide +kernel
theorem jd_108_48 : decode prog_10_method_21_code 48 = .ok (.invokevirtual 122, 3) := by decide +kernel
theorem jd_108_51 : decode prog_10_method_21_code 51 = .ok (.istore 7, 2) := by decide +kernel
theorem jd_108_53 : decode prog_10_method_21_code 53 = .ok (.aload_n 0, 1) := by decide +kernel
theorem jd_108_54 : decode prog_10_method_21_code 54 = .ok (.iload_n 1, 1) := by decide +kernel
theorem jd_108_55 : decode prog_10_method_21_code 55 = .ok (.iload 5, 2) := by decide +kernel
theorem jd_108_57 : decode prog_10_method_21_code 57 = .ok (.iload 6, 2) := by decide +kernel
theorem jd_108_59 : decode prog_10_method_21_code 59 = .ok (.iload 7, 2) := by decide +kernel
theorem jd_108_61 : decode prog_10_method_21_code 61 = .ok (.iload 4, 2) := by decide +kernel
theorem jd_108_63 : decode prog_10_method_21_code 63 = .ok (.invokevirtual 200, 3) := by decide +kernel
theorem jd_108_66 : decode prog_10_method_21_code 66 = .ok (.aload_n 0, 1) := by decide +kernel
theorem jd_108_67 : decode prog_10_method_21_code 67 = .ok (.getfield 49, 3) := by decide +kernel
theorem jd_108_70 : decode prog_10_method_21_code 70 = .ok (.ireturn, 1) := by decide +kernel
def jt_108 (pc : Nat) : jx_Sp := bif Nat.ble pc 36 then (bif Nat.ble pc 21 then (bif Nat.ble pc 8 then (bif Nat.ble pc 2 then (bif Nat.ble pc 1 then (bif Nat.ble pc 0 then (bif Nat.beq pc 0 then js_il 1 1 else js_none) else (bif Nat.beq pc 1 then js_al 0 1 else js_none)) else (bif Nat.beq pc 2 then js_getf 8 0 else js_none)) else (bif Nat.ble pc 5 then (bif Nat.beq pc 5 then js_s2 89 else js_none) else (bif Nat.beq pc 8 then js_ifne 21 else js_none))) else (bif Nat.ble pc 15 then (bif Nat.ble pc 13 then (bif Nat.ble pc 11 then (bif Nat.beq pc 11 then js_il 4 2 else js_none) else (bif Nat.beq pc 13 then js_c 100 2 else js_none)) else (bif Nat.beq pc 15 then js_s2 89 else js_none)) else (bif Nat.ble pc 18 then (bif Nat.beq pc 18 then js_ifeq 23 else js_none) else (bif Nat.beq pc 21 then js_c (-1) 1 else js_none)))) else (bif Nat.ble pc 28 then (bif Nat.ble pc 24 then (bif Nat.ble pc 23 then (bif Nat.ble pc 22 then (bif Nat.beq pc 22 then js_ir else js_none) else (bif Nat.beq pc 23 then js_al 0 1 else js_none)) else (bif Nat.beq pc 24 then js_c 0 1 else js_none)) else (bif Nat.ble pc 25 then (bif Nat.beq pc 25 then js_putf 8 5 false else js_none) else (bif Nat.beq pc 28 then js_al 0 1 else js_none))) else (bif Nat.ble pc 33 then (bif Nat.ble pc 30 then (bif Nat.ble pc 29 then (bif Nat.beq pc 29 then js_il 2 1 else js_none) else (bif Nat.beq pc 30 then js_v1 8 95 else js_none)) else (bif Nat.beq pc 33 then js_is 5 2 else js_none)) else (bif Nat.ble pc 35 then (bif Nat.beq pc 35 then js_al 0 1 else js_none) else (bif Nat.beq pc 36 then js_il 3 1 else js_none))))) else (bif Nat.ble pc 51 then (bif Nat.ble pc 44 then (bif Nat.ble pc 42 then (bif Nat.ble pc 40 then (bif Nat.ble pc 37 then (bif Nat.beq pc 37 then js_v1 8 95 else js_none) else (bif Nat.beq pc 40 then js_is 6 2 else js_none)) else (bif Nat.beq pc 42 then js_al 0 1 else js_none)) else (bif Nat.ble pc 43 then (bif Nat.beq pc 43 then js_c 2 1 else js_none) else (bif Nat.beq pc 44 then js_c 0 1 else js_none))) else (bif Nat.ble pc 47 then (bif Nat.ble pc 46 then (bif Nat.ble pc 45 then (bif Nat.beq pc 45 then js_c 0 1 else js_none) else (bif Nat.beq pc 46 then js_c 0 1 else js_none)) else (bif Nat.beq pc 47 then js_c 0 1 else js_none)) else (bif Nat.ble pc 48 then (bif Nat.beq pc 48 then js_v5 8 94 else js_none) else (bif Nat.beq pc 51 then js_is 7 2 else js_none)))) else (bif Nat.ble pc 59 then (bif Nat.ble pc 55 then (bif Nat.ble pc 54 then (bif Nat.ble pc 53 then (bif Nat.beq pc 53 then js_al 0 1 else js_none) else (bif Nat.beq pc 54 then js_il 1 1 else js_none)) else (bif Nat.beq pc 55 then js_il 5 2 else js_none)) else (bif Nat.ble pc 57 then (bif Nat.beq pc 57 then js_il 6 2 else js_none) else (bif Nat.beq pc 59 then js_il 7 2 else js_none))) else (bif Nat.ble pc 66 then (bif Nat.ble pc 63 then (bif Nat.ble pc 61 then (bif Nat.beq pc 61 then js_il 4 2 else js_none) else (bif Nat.beq pc 63 then js_v5 8 107 else js_none)) else (bif Nat.beq pc 66 then js_al 0 1 else js_none)) else (bif Nat.ble pc 67 then (bif Nat.beq pc 67 then js_getf 8 23 else js_none) else (bif Nat.beq pc 70 then js_ir else js_none)))))
theorem jk_108_0 : jx_Snd 108 0 (js_il 1 1) := jo_iload_n (i := 1) (w := 1) rfl jd_108_0
theorem jk_108_1 : jx_Snd 108 1 (js_al 0 1) := jo_aload_n (i := 0) (w := 0) rfl jd_108_1
theorem jk_108_2 : jx_Snd 108 2 (js_getf 8 0) := jo_getf rfl jf_8_116 jd_108_2
theorem jk_108_5 : jx_Snd 108 5 (js_s2 89) := jo_s2 rfl jok_89 (Or.inl jw_532) jw_533 jd_108_5
theorem jk_108_8 : jx_Snd 108 8 (js_ifne 21) := jo_ifne (o := 13) rfl jd_108_8
theorem jk_108_11 : jx_Snd 108 11 (js_il 4 2) := jo_iload (i := 4) jd_108_11
theorem jk_108_13 : jx_Snd 108 13 (js_c 100 2) := jo_bipush (z := 100) jd_108_13 (by decide +kernel)
theorem jk_108_15 : jx_Snd 108 15 (js_s2 89) := jo_s2 rfl jok_89 (Or.inl jw_532) jw_533 jd_108_15
theorem jk_108_18 : jx_Snd 108 18 (js_ifeq 23) := jo_ifeq (o := 5) rfl jd_108_18
theorem jk_108_21 : jx_Snd 108 21 (js_c (-1) 1) := jo_iconst (z := (-1)) jd_108_21 rfl
theorem jk_108_22 : jx_Snd 108 22 (js_ir) := jo_ir rfl jd_108_22
theorem jk_108_23 : jx_Snd 108 23 (js_al 0 1) := jo_aload_n (i := 0) (w := 0) rfl jd_108_23
theorem jk_108_24 : jx_Snd 108 24 (js_c 0 1) := jo_iconst (z := 0) jd_108_24 rfl
theorem jk_108_25 : jx_Snd 108 25 (js_putf 8 5 false) := jo_putf (z := false) rfl jf_8_119 (fun C T N h => by cases h; rfl) jd_108_25
theorem jk_108_28 : jx_Snd 108 28 (js_al 0 1) := jo_aload_n (i := 0) (w := 0) rfl jd_108_28
theorem jk_108_29 : jx_Snd 108 29 (js_il 2 1) := jo_iload_n (i := 2) (w := 2) rfl jd_108_29
theorem jk_108_30 : jx_Snd 108 30 (js_v1 8 95) := jo_v1 rfl jok_95 (Or.inl jw_535) jw_536 jw_715 rfl jd_108_30
theorem jk_108_33 : jx_Snd 108 33 (js_is 5 2) := jo_istore (i := 5) (Nat.le_of_ble_eq_true rfl) jd_108_33
theorem jk_108_35 : jx_Snd 108 35 (js_al 0 1) := jo_aload_n (i := 0) (w := 0) rfl jd_108_35
theorem jk_108_36 : jx_Snd 108 36 (js_il 3 1) := jo_iload_n (i := 3) (w := 3) rfl jd_108_36
theorem jk_108_37 : jx_Snd 108 37 (js_v1 8 95) := jo_v1 rfl jok_95 (Or.inl jw_535) jw_536 jw_715 rfl jd_108_37
theorem jk_108_40 : jx_Snd 108 40 (js_is 6 2) := jo_istore (i := 6) (Nat.le_of_ble_eq_true rfl) jd_108_40
theorem jk_108_42 : jx_Snd 108 42 (js_al 0 1) := jo_aload_n (i := 0) (w := 0) rfl jd_108_42
theorem jk_108_43 : jx_Snd 108 43 (js_c 2 1) := jo_iconst (z := 2) jd_108_43 rfl
theorem jk_108_44 : jx_Snd 108 44 (js_c 0 1) := jo_iconst (z := 0) jd_108_44 rfl
theorem jk_108_45 : jx_Snd 108 45 (js_c 0 1) := jo_iconst (z := 0) jd_108_45 rfl
theorem jk_108_46 : jx_Snd 108 46 (js_c 0 1) := jo_iconst (z := 0) jd_108_46 rfl
theorem jk_108_47 : jx_Snd 108 47 (js_c 0 1) := jo_iconst (z := 0) jd_108_47 rfl
theorem jk_108_48 : jx_Snd 108 48 (js_v5 8 94) := jo_v5 rfl jok_94 (Or.inl jw_538) jw_539 jw_716 rfl jd_108_48
theorem jk_108_51 : jx_Snd 108 51 (js_is 7 2) := jo_istore (i := 7) (Nat.le_of_ble_eq_true rfl) jd_108_51
theorem jk_108_53 : jx_Snd 108 53 (js_al 0 1) := jo_aload_n (i := 0) (w := 0) rfl jd_108_53
theorem jk_108_54 : jx_Snd 108 54 (js_il 1 1) := jo_iload_n (i := 1) (w := 1) rfl jd_108_54
theorem jk_108_55 : jx_Snd 108 55 (js_il 5 2) := jo_iload (i := 5) jd_108_55
theorem jk_108_57 : jx_Snd 108 57 (js_il 6 2) := jo_iload (i := 6) jd_108_57
theorem jk_108_59 : jx_Snd 108 59 (js_il 7 2) := jo_iload (i := 7) jd_108_59
theorem jk_108_61 : jx_Snd 108 61 (js_il 4 2) := jo_iload (i := 4) jd_108_61
theorem jk_108_63 : jx_Snd 108 63 (js_v5 8 107) := jo_v5 rfl jok_107 (Or.inl jw_541) jw_542 jw_717 rfl jd_108_63
theorem jk_108_66 : jx_Snd 108 66 (js_al 0 1) := jo_aload_n (i := 0) (w := 0) rfl jd_108_66
theorem jk_108_67 : jx_Snd 108 67 (js_getf 8 23) := jo_getf rfl jf_8_49 jd_108_67
theorem jk_108_70 : jx_Snd 108 70 (js_ir) := jo_ir rfl jd_108_70
theorem jk_108 : jx_So 108 jt_108 := fun pc => jo_le (jo_le (jo_le (jo_le (jo_le (jo_le (jo_at (jk_108_0)) (jo_at (jk_108_1))) (jo_at (jk_108_2))) (jo_le (jo_at (jk_108_5)) (jo_at (jk_108_8)))) (jo_le (jo_le (jo_le (jo_at (jk_108_11)) (jo_at (jk_108_13))) (jo_at (jk_108_15))) (jo_le (jo_at (jk_108_18)) (jo_at (jk_108_21))))) (jo_le (jo_le (jo_le (jo_le (jo_at (jk_108_22)) (jo_at (jk_108_23))) (jo_at (jk_108_24))) (jo_le (jo_at (jk_108_25)) (jo_at (jk_108_28)))) (jo_le (jo_le (jo_le (jo_at (jk_108_29)) (jo_at (jk_108_30))) (jo_at (jk_108_33))) (jo_le (jo_at (jk_108_35)) (jo_at (jk_108_36)))))) (jo_le (jo_le (jo_le (jo_le (jo_le (jo_at (jk_108_37)) (jo_at (jk_108_40))) (jo_at (jk_108_42))) (jo_le (jo_at (jk_108_43)) (jo_at (jk_108_44)))) (jo_le (jo_le (jo_le (jo_at (jk_108_45)) (jo_at (jk_108_46))) (jo_at (jk_108_47))) (jo_le (jo_at (jk_108_48)) (jo_at (jk_108_51))))) (jo_le (jo_le (jo_le (jo_le (jo_at (jk_108_53)) (jo_at (jk_108_54))) (jo_at (jk_108_55))) (jo_le (jo_at (jk_108_57)) (jo_at (jk_108_59)))) (jo_le (jo_le (jo_le (jo_at (jk_108_61)) (jo_at (jk_108_63))) (jo_at (jk_108_66))) (jo_le (jo_at (jk_108_67)) (jo_at (jk_108_70))))))
theorem ji_108 {l : Launch} {D : va_G} {cA : ClassId} {ρ : Nat → Nat} {Λ : List jx_Lc} {d : Nat} {Q : Option Value → jx_St → Prop} {σ : jx_St} {z0 : Nat} {a1 : Int32} {a2 : Int32} {a3 : Int32} {a4 : Int32} (h : jt_108 0 Λ jx_tb0 (jx_rn Λ jx_tb0 jt_108 (fun k' as σ K => jx_C l D cA ρ Λ d k' as σ K) Q (jx_J l D cA ρ Λ (jx_A ρ Λ) jx_tb0 (d + 1) 108 Q) [] 400) (fun k' as σ K => jx_C l D cA ρ Λ d k' as σ K) Q 0 [(0, .ref z0), (1, .int a1), (2, .int a2), (3, .int a3), (4, .int a4)] [] σ) : jx_C l D cA ρ Λ (d + 1) 108 [.ref z0, .int a1, .int a2, .int a3, .int a4] σ Q := jx_in jk_108 400 [] rfl (Nat.le_of_ble_eq_true rfl) h
/-! ScriptLedgerModel.result(I)I -/
theorem jd_109_0 : decode prog_10_method_22_code 0 = .ok (.aload_n 0, 1) := by decide +kernel
theorem jd_109_1 : decode prog_10_method_22_code 1 = .ok (.getfield 187, 3) := by decide +kernel
theorem jd_109_4 : decode prog_10_method_22_code 4 = .ok (.ifCond .eq 11, 3) := by decide +kernel
theorem jd_109_7 : decode prog_10_method_22_code 7 = .ok (.iload_n 1, 1) := by decide +kernel
theorem jd_109_8 : decode prog_10_method_22_code 8 = .ok (.iconst 4, 1) := by decide +kernel
theorem jd_109_9 : decode prog_10_method_22_code 9 = .ok (.invokestatic 197, 3) := by decide +kernel
theorem jd_109_12 : decode prog_10_method_22_code 12 = .ok (.ifCond .eq 5, 3) := by decide +kernel
theorem jd_109_15 : decode prog_10_method_22_code 15 = .ok (.iconst (-1), 1) := by decide +kernel
theorem jd_109_16 : decode prog_10_method_22_code 16 = .ok (.ireturn, 1) := by decide +kernel
theorem jd_109_17 : decode prog_10_method_22_code 17 = .ok (.iload_n 1, 1) := by decide +kernel
theorem jd_109_18 : decode prog_10_method_22_code 18 = .ok (.iconst 2, 1) := by decide +kernel
theorem jd_109_19 : decode prog_10_method_22_code 19 = .ok (.if_icmp .ge 19, 3) := by decide +kernel
theorem jd_109_22 : decode prog_10_method_22_code 22 = .ok (.iload_n 1, 1) := by decide +kernel
theorem jd_109_23 : decode prog_10_method_22_code 23 = .ok (.ifCond .ne 10, 3) := by decide +kernel
theorem jd_109_26 : decode prog_10_method_22_code 26 = .ok (.aload_n 0, 1) := by decide +kernel
theorem jd_109_27 : decode prog_10_method_22_code 27 = .ok (.getfield 49, 3) := by decide +kernel
theorem jd_109_30 : decode prog_10_method_22_code 30 = .ok (.goto 7, 3) := by decide +kernel
theorem jd_109_33 : decode prog_10_method_22_code 33 = .ok (.aload_n 0, 1) := by decide +kernel
theorem jd_109_34 : decode prog_10_method_22_code 34 = .ok (.getfield 126, 3) := by decide +kernel
theorem jd_109_37 : decode prog_10_method_22_code 37 = .ok (.ireturn, 1) := by decide +kernel
theorem jd_109_38 : decode prog_10_method_22_code 38 = .ok (.aload_n 0, 1) := by decide +kernel
theorem jd_109_39 : decode prog_10_method_22_code 39 = .ok (.getfield 49, 3) := by decide +kernel
theorem jd_109_42 : decode prog_10_method_22_code 42 = .ok (.iconst 1, 1) := by decide +kernel
theorem jd_109_43 : decode prog_10_method_22_code 43 = .ok (.if_icmp .le 14, 3) := by decide +kernel
theorem jd_109_46 : decode prog_10_method_22_code 46 = .ok (.iload_n 1, 1) := by decide +kernel
theorem jd_109_47 : decode prog_10_method_22_code 47 = .ok (.iconst 2, 1) := by decide +kernel
theorem jd_109_48 : decode prog_10_method_22_code 48 = .ok (.if_icmp .ne 7, 3) := by decide +kernel
theorem jd_109_51 : decode prog_10_method_22_code 51 = .ok (.iconst (-1), 1) := by decide +kernel
theorem jd_109_52 : decode prog_10_method_22_code 52 = .ok (.goto 4, 3) := by decide +kernel
theorem jd_109_55 : decode prog_10_method_22_code 55 = .ok (.iconst 0, 1) := by decide +kernel
theorem jd_109_56 : decode prog_10_method_22_code 56 = .ok (.ireturn, 1) := by decide +kernel
theorem jd_109_57 : decode prog_10_method_22_code 57 = .ok (.iload_n 1, 1) := by decide +kernel
theorem jd_109_58 : decode prog_10_method_22_code 58 = .ok (.iconst 2, 1) := by decide +kernel
theorem jd_109_59 : decode prog_10_method_22_code 59 = .ok (.if_icmp .ne 30, 3) := by decide +kernel
theorem jd_109_62 : decode prog_10_method_22_code 62 = .ok (.aload_n 0, 1) := by decide +kernel
theorem jd_109_63 : decode prog_10_method_22_code 63 = .ok (.getfield 19, 3) := by decide +kernel
theorem jd_109_66 : decode prog_10_method_22_code 66 = .ok (.aload_n 0, 1) := by decide +kernel
theorem jd_109_67 : decode prog_10_method_22_code 67 = .ok (.getfield 145, 3) := by decide +kernel
theorem jd_109_70 : decode prog_10_method_22_code 70 = .ok (.iaload, 1) := by decide +kernel
theorem jd_109_71 : decode prog_10_method_22_code 71 = .ok (.iconst 2, 1) := by decide +kernel
theorem jd_109_72 : decode prog_10_method_22_code 72 = .ok (.if_icmp .le 7, 3) := by decide +kernel
theorem jd_109_75 : decode prog_10_method_22_code 75 = .ok (.iconst 3, 1) := by decide +kernel
theorem jd_109_76 : decode prog_10_method_22_code 76 = .ok (.goto 12, 3) := by decide +kernel
theorem jd_109_79 : decode prog_10_method_22_code 79 = .ok (.aload_n 0, 1) := by decide +kernel
theorem jd_109_80 : decode prog_10_method_22_code 80 = .ok (.getfield 19, 3) := by decide +kernel
theorem jd_109_83 : decode prog_10_method_22_code 83 = .ok (.aload_n 0, 1) := by decide +kernel
theorem jd_109_84 : decode prog_10_method_22_code 84 = .ok (.getfield 145, 3) := by decide +kernel
theorem jd_109_87 : decode prog_10_method_22_code 87 = .ok (.iaload, 1) := by decide +kernel
theorem jd_109_88 : decode prog_10_method_22_code 88 = .ok (.ireturn, 1) := by decide +kernel
theorem jd_109_89 : decode prog_10_method_22_code 89 = .ok (.aload_n 0, 1) := by decide +kernel
theorem jd_109_90 : decode prog_10_method_22_code 90 = .ok (.getfield 19, 3) := by decide +kernel
theorem jd_109_93 : decode prog_10_method_22_code 93 = .ok (.aload_n 0, 1) := by decide +kernel
theorem jd_109_94 : decode prog_10_method_22_code 94 = .ok (.getfield 145, 3) := by decide +kernel
theorem jd_109_97 : decode prog_10_method_22_code 97 = .ok (.iaload, 1) := by decide +kernel
theorem jd_109_98 : decode prog_10_method_22_code 98 = .ok (.iconst 2, 1) := by decide +kernel
theorem jd_109_99 : decode prog_10_method_22_code 99 = .ok (.if_icmp .le 7, 3) := by decide +kernel
theorem jd_109_102 : decode prog_10_method_22_code 102 = .ok (.iconst 0, 1) := by decide +kernel
theorem jd_109_103 : decode prog_10_method_22_code 103 = .ok (.goto 37, 3) := by decide +kernel
theorem jd_109_106 : decode prog_10_method_22_code 106 = .ok (.aload_n 0, 1) := by decide +kernel
theorem jd_109_107 : decode prog_10_method_22_code 107 = .ok (.getfield 19, 3) := by decide +kernel
theorem jd_109_110 : decode prog_10_method_22_code 110 = .ok (.aload_n 0, 1) := by decide +kernel
theorem jd_109_111 : decode prog_10_method_22_code 111 = .ok (.getfield 145, 3) := by decide +kernel
theorem jd_109_114 : decode prog_10_method_22_code 114 = .ok (.iaload, 1) := by decide +kernel
theorem jd_109_115 : decode prog_10_method_22_code 115 = .ok (.iconst 2, 1) := by decide +kernel
theorem jd_109_116 : decode prog_10_method_22_code 116 = .ok (.if_icmp .ne 15, 3) := by decide +kernel
theorem jd_109_119 : decode prog_10_method_22_code 119 = .ok (.aload_n 0, 1) := by decide +kernel
theorem jd_109_120 : decode prog_10_method_22_code 120 = .ok (.getfield 28, 3) := by decide +kernel
theorem jd_109_123 : decode prog_10_method_22_code 123 = .ok (.aload_n 0, 1) := by decide +kernel
theorem jd_109_124 : decode prog_10_method_22_code 124 = .ok (.getfield 145, 3) := by decide +kernel
theorem jd_109_127 : decode prog_10_method_22_code 127 = .ok (.iaload, 1) := by decide +kernel
theorem jd_109_128 : decode prog_10_method_22_code 128 = .ok (.goto 12, 3) := by decide +kernel
theorem jd_109_131 : decode prog_10_method_22_code 131 = .ok (.aload_n 0, 1) := by decide +kernel
theorem jd_109_132 : decode prog_10_method_22_code 132 = .ok (.getfield 22, 3) := by decide +kernel
theorem jd_109_135 : decode prog_10_method_22_code 135 = .ok (.aload_n 0, 1) := by decide +kernel
theorem jd_109_136 : decode prog_10_method_22_code 136 = .ok (.getfield 145, 3) := by decide +kernel
theorem jd_109_139 : decode prog_10_method_22_code 139 = .ok (.iaload, 1) := by decide +kernel
theorem jd_109_140 : decode prog_10_method_22_code 140 = .ok (.ireturn, 1) := by decide +kernel
def jt_109 (pc : Nat) : jx_Sp := bif Nat.ble pc 70 then (bif Nat.ble pc 37 then (bif Nat.ble pc 17 then (bif Nat.ble pc 8 then (bif Nat.ble pc 4 then (bif Nat.ble pc 1 then (bif Nat.ble pc 0 then (bif Nat.beq pc 0 then js_al 0 1 else js_none) else (bif Nat.beq pc 1 then js_getf 8 24 else js_none)) else (bif Nat.beq pc 4 then js_ifeq 15 else js_none)) else (bif Nat.ble pc 7 then (bif Nat.beq pc 7 then js_il 1 1 else js_none) else (bif Nat.beq pc 8 then js_c 4 1 else js_none))) else (bif Nat.ble pc 15 then (bif Nat.ble pc 12 then (bif Nat.ble pc 9 then (bif Nat.beq pc 9 then js_s2 89 else js_none) else (bif Nat.beq pc 12 then js_ifeq 17 else js_none)) else (bif Nat.beq pc 15 then js_c (-1) 1 else js_none)) else (bif Nat.ble pc 16 then (bif Nat.beq pc 16 then js_ir else js_none) else (bif Nat.beq pc 17 then js_il 1 1 else js_none)))) else (bif Nat.ble pc 26 then (bif Nat.ble pc 22 then (bif Nat.ble pc 19 then (bif Nat.ble pc 18 then (bif Nat.beq pc 18 then js_c 2 1 else js_none) else (bif Nat.beq pc 19 then js_cge 38 else js_none)) else (bif Nat.beq pc 22 then js_il 1 1 else js_none)) else (bif Nat.ble pc 23 then (bif Nat.beq pc 23 then js_ifne 33 else js_none) else (bif Nat.beq pc 26 then js_al 0 1 else js_none))) else (bif Nat.ble pc 33 then (bif Nat.ble pc 30 then (bif Nat.ble pc 27 then (bif Nat.beq pc 27 then js_getf 8 23 else js_none) else (bif Nat.beq pc 30 then js_go 37 else js_none)) else (bif Nat.beq pc 33 then js_al 0 1 else js_none)) else (bif Nat.ble pc 34 then (bif Nat.beq pc 34 then js_getf 8 21 else js_none) else (bif Nat.beq pc 37 then js_ir else js_none))))) else (bif Nat.ble pc 55 then (bif Nat.ble pc 46 then (bif Nat.ble pc 42 then (bif Nat.ble pc 39 then (bif Nat.ble pc 38 then (bif Nat.beq pc 38 then js_al 0 1 else js_none) else (bif Nat.beq pc 39 then js_getf 8 23 else js_none)) else (bif Nat.beq pc 42 then js_c 1 1 else js_none)) else (bif Nat.ble pc 43 then (bif Nat.beq pc 43 then js_cle 57 else js_none) else (bif Nat.beq pc 46 then js_il 1 1 else js_none))) else (bif Nat.ble pc 51 then (bif Nat.ble pc 48 then (bif Nat.ble pc 47 then (bif Nat.beq pc 47 then js_c 2 1 else js_none) else (bif Nat.beq pc 48 then js_cne 55 else js_none)) else (bif Nat.beq pc 51 then js_c (-1) 1 else js_none)) else (bif Nat.ble pc 52 then (bif Nat.beq pc 52 then js_go 56 else js_none) else (bif Nat.beq pc 55 then js_c 0 1 else js_none)))) else (bif Nat.ble pc 62 then (bif Nat.ble pc 58 then (bif Nat.ble pc 57 then (bif Nat.ble pc 56 then (bif Nat.beq pc 56 then js_ir else js_none) else (bif Nat.beq pc 57 then js_il 1 1 else js_none)) else (bif Nat.beq pc 58 then js_c 2 1 else js_none)) else (bif Nat.ble pc 59 then (bif Nat.beq pc 59 then js_cne 89 else js_none) else (bif Nat.beq pc 62 then js_al 0 1 else js_none))) else (bif Nat.ble pc 66 then (bif Nat.ble pc 63 then (bif Nat.beq pc 63 then js_getf 8 6 else js_none) else (bif Nat.beq pc 66 then js_al 0 1 else js_none)) else (bif Nat.ble pc 67 then (bif Nat.beq pc 67 then js_getf 8 20 else js_none) else (bif Nat.beq pc 70 then js_ald else js_none)))))) else (bif Nat.ble pc 103 then (bif Nat.ble pc 88 then (bif Nat.ble pc 79 then (bif Nat.ble pc 75 then (bif Nat.ble pc 72 then (bif Nat.ble pc 71 then (bif Nat.beq pc 71 then js_c 2 1 else js_none) else (bif Nat.beq pc 72 then js_cle 79 else js_none)) else (bif Nat.beq pc 75 then js_c 3 1 else js_none)) else (bif Nat.ble pc 76 then (bif Nat.beq pc 76 then js_go 88 else js_none) else (bif Nat.beq pc 79 then js_al 0 1 else js_none))) else (bif Nat.ble pc 84 then (bif Nat.ble pc 83 then (bif Nat.ble pc 80 then (bif Nat.beq pc 80 then js_getf 8 6 else js_none) else (bif Nat.beq pc 83 then js_al 0 1 else js_none)) else (bif Nat.beq pc 84 then js_getf 8 20 else js_none)) else (bif Nat.ble pc 87 then (bif Nat.beq pc 87 then js_ald else js_none) else (bif Nat.beq pc 88 then js_ir else js_none)))) else (bif Nat.ble pc 97 then (bif Nat.ble pc 93 then (bif Nat.ble pc 90 then (bif Nat.ble pc 89 then (bif Nat.beq pc 89 then js_al 0 1 else js_none) else (bif Nat.beq pc 90 then js_getf 8 6 else js_none)) else (bif Nat.beq pc 93 then js_al 0 1 else js_none)) else (bif Nat.ble pc 94 then (bif Nat.beq pc 94 then js_getf 8 20 else js_none) else (bif Nat.beq pc 97 then js_ald else js_none))) else (bif Nat.ble pc 99 then (bif Nat.ble pc 98 then (bif Nat.beq pc 98 then js_c 2 1 else js_none) else (bif Nat.beq pc 99 then js_cle 106 else js_none)) else (bif Nat.ble pc 102 then (bif Nat.beq pc 102 then js_c 0 1 else js_none) else (bif Nat.beq pc 103 then js_go 140 else js_none))))) else (bif Nat.ble pc 123 then (bif Nat.ble pc 114 then (bif Nat.ble pc 110 then (bif Nat.ble pc 107 then (bif Nat.ble pc 106 then (bif Nat.beq pc 106 then js_al 0 1 else js_none) else (bif Nat.beq pc 107 then js_getf 8 6 else js_none)) else (bif Nat.beq pc 110 then js_al 0 1 else js_none)) else (bif Nat.ble pc 111 then (bif Nat.beq pc 111 then js_getf 8 20 else js_none) else (bif Nat.beq pc 114 then js_ald else js_none))) else (bif Nat.ble pc 119 then (bif Nat.ble pc 116 then (bif Nat.ble pc 115 then (bif Nat.beq pc 115 then js_c 2 1 else js_none) else (bif Nat.beq pc 116 then js_cne 131 else js_none)) else (bif Nat.beq pc 119 then js_al 0 1 else js_none)) else (bif Nat.ble pc 120 then (bif Nat.beq pc 120 then js_getf 8 9 else js_none) else (bif Nat.beq pc 123 then js_al 0 1 else js_none)))) else (bif Nat.ble pc 132 then (bif Nat.ble pc 128 then (bif Nat.ble pc 127 then (bif Nat.ble pc 124 then (bif Nat.beq pc 124 then js_getf 8 20 else js_none) else (bif Nat.beq pc 127 then js_ald else js_none)) else (bif Nat.beq pc 128 then js_go 140 else js_none)) else (bif Nat.ble pc 131 then (bif Nat.beq pc 131 then js_al 0 1 else js_none) else (bif Nat.beq pc 132 then js_getf 8 7 else js_none))) else (bif Nat.ble pc 136 then (bif Nat.ble pc 135 then (bif Nat.beq pc 135 then js_al 0 1 else js_none) else (bif Nat.beq pc 136 then js_getf 8 20 else js_none)) else (bif Nat.ble pc 139 then (bif Nat.beq pc 139 then js_ald else js_none) else (bif Nat.beq pc 140 then js_ir else js_none))))))
theorem jk_109_0 : jx_Snd 109 0 (js_al 0 1) := jo_aload_n (i := 0) (w := 0) rfl jd_109_0
theorem jk_109_1 : jx_Snd 109 1 (js_getf 8 24) := jo_getf rfl jf_8_187 jd_109_1
theorem jk_109_4 : jx_Snd 109 4 (js_ifeq 15) := jo_ifeq (o := 11) rfl jd_109_4
theorem jk_109_7 : jx_Snd 109 7 (js_il 1 1) := jo_iload_n (i := 1) (w := 1) rfl jd_109_7
theorem jk_109_8 : jx_Snd 109 8 (js_c 4 1) := jo_iconst (z := 4) jd_109_8 rfl
theorem jk_109_9 : jx_Snd 109 9 (js_s2 89) := jo_s2 rfl jok_89 (Or.inl jw_532) jw_533 jd_109_9
theorem jk_109_12 : jx_Snd 109 12 (js_ifeq 17) := jo_ifeq (o := 5) rfl jd_109_12
theorem jk_109_15 : jx_Snd 109 15 (js_c (-1) 1) := jo_iconst (z := (-1)) jd_109_15 rfl
theorem jk_109_16 : jx_Snd 109 16 (js_ir) := jo_ir rfl jd_109_16
theorem jk_109_17 : jx_Snd 109 17 (js_il 1 1) := jo_iload_n (i := 1) (w := 1) rfl jd_109_17
theorem jk_109_18 : jx_Snd 109 18 (js_c 2 1) := jo_iconst (z := 2) jd_109_18 rfl
theorem jk_109_19 : jx_Snd 109 19 (js_cge 38) := jo_cge (o := 19) rfl jd_109_19
theorem jk_109_22 : jx_Snd 109 22 (js_il 1 1) := jo_iload_n (i := 1) (w := 1) rfl jd_109_22
theorem jk_109_23 : jx_Snd 109 23 (js_ifne 33) := jo_ifne (o := 10) rfl jd_109_23
theorem jk_109_26 : jx_Snd 109 26 (js_al 0 1) := jo_aload_n (i := 0) (w := 0) rfl jd_109_26
theorem jk_109_27 : jx_Snd 109 27 (js_getf 8 23) := jo_getf rfl jf_8_49 jd_109_27
theorem jk_109_30 : jx_Snd 109 30 (js_go 37) := jo_goto (o := 7) rfl jd_109_30
theorem jk_109_33 : jx_Snd 109 33 (js_al 0 1) := jo_aload_n (i := 0) (w := 0) rfl jd_109_33
theorem jk_109_34 : jx_Snd 109 34 (js_getf 8 21) := jo_getf rfl jf_8_126 jd_109_34
theorem jk_109_37 : jx_Snd 109 37 (js_ir) := jo_ir rfl jd_109_37
theorem jk_109_38 : jx_Snd 109 38 (js_al 0 1) := jo_aload_n (i := 0) (w := 0) rfl jd_109_38
theorem jk_109_39 : jx_Snd 109 39 (js_getf 8 23) := jo_getf rfl jf_8_49 jd_109_39
theorem jk_109_42 : jx_Snd 109 42 (js_c 1 1) := jo_iconst (z := 1) jd_109_42 rfl
theorem jk_109_43 : jx_Snd 109 43 (js_cle 57) := jo_cle (o := 14) rfl jd_109_43
theorem jk_109_46 : jx_Snd 109 46 (js_il 1 1) := jo_iload_n (i := 1) (w := 1) rfl jd_109_46
theorem jk_109_47 : jx_Snd 109 47 (js_c 2 1) := jo_iconst (z := 2) jd_109_47 rfl
theorem jk_109_48 : jx_Snd 109 48 (js_cne 55) := jo_cne (o := 7) rfl jd_109_48
theorem jk_109_51 : jx_Snd 109 51 (js_c (-1) 1) := jo_iconst (z := (-1)) jd_109_51 rfl
theorem jk_109_52 : jx_Snd 109 52 (js_go 56) := jo_goto (o := 4) rfl jd_109_52
theorem jk_109_55 : jx_Snd 109 55 (js_c 0 1) := jo_iconst (z := 0) jd_109_55 rfl
theorem jk_109_56 : jx_Snd 109 56 (js_ir) := jo_ir rfl jd_109_56
theorem jk_109_57 : jx_Snd 109 57 (js_il 1 1) := jo_iload_n (i := 1) (w := 1) rfl jd_109_57
theorem jk_109_58 : jx_Snd 109 58 (js_c 2 1) := jo_iconst (z := 2) jd_109_58 rfl
theorem jk_109_59 : jx_Snd 109 59 (js_cne 89) := jo_cne (o := 30) rfl jd_109_59
theorem jk_109_62 : jx_Snd 109 62 (js_al 0 1) := jo_aload_n (i := 0) (w := 0) rfl jd_109_62
theorem jk_109_63 : jx_Snd 109 63 (js_getf 8 6) := jo_getf rfl jf_8_19 jd_109_63
theorem jk_109_66 : jx_Snd 109 66 (js_al 0 1) := jo_aload_n (i := 0) (w := 0) rfl jd_109_66
theorem jk_109_67 : jx_Snd 109 67 (js_getf 8 20) := jo_getf rfl jf_8_145 jd_109_67
theorem jk_109_70 : jx_Snd 109 70 (js_ald) := jo_ald jd_109_70
theorem jk_109_71 : jx_Snd 109 71 (js_c 2 1) := jo_iconst (z := 2) jd_109_71 rfl
theorem jk_109_72 : jx_Snd 109 72 (js_cle 79) := jo_cle (o := 7) rfl jd_109_72
theorem jk_109_75 : jx_Snd 109 75 (js_c 3 1) := jo_iconst (z := 3) jd_109_75 rfl
theorem jk_109_76 : jx_Snd 109 76 (js_go 88) := jo_goto (o := 12) rfl jd_109_76
theorem jk_109_79 : jx_Snd 109 79 (js_al 0 1) := jo_aload_n (i := 0) (w := 0) rfl jd_109_79
theorem jk_109_80 : jx_Snd 109 80 (js_getf 8 6) := jo_getf rfl jf_8_19 jd_109_80
theorem jk_109_83 : jx_Snd 109 83 (js_al 0 1) := jo_aload_n (i := 0) (w := 0) rfl jd_109_83
theorem jk_109_84 : jx_Snd 109 84 (js_getf 8 20) := jo_getf rfl jf_8_145 jd_109_84
theorem jk_109_87 : jx_Snd 109 87 (js_ald) := jo_ald jd_109_87
theorem jk_109_88 : jx_Snd 109 88 (js_ir) := jo_ir rfl jd_109_88
theorem jk_109_89 : jx_Snd 109 89 (js_al 0 1) := jo_aload_n (i := 0) (w := 0) rfl jd_109_89
theorem jk_109_90 : jx_Snd 109 90 (js_getf 8 6) := jo_getf rfl jf_8_19 jd_109_90
theorem jk_109_93 : jx_Snd 109 93 (js_al 0 1) := jo_aload_n (i := 0) (w := 0) rfl jd_109_93
theorem jk_109_94 : jx_Snd 109 94 (js_getf 8 20) := jo_getf rfl jf_8_145 jd_109_94
theorem jk_109_97 : jx_Snd 109 97 (js_ald) := jo_ald jd_109_97
theorem jk_109_98 : jx_Snd 109 98 (js_c 2 1) := jo_iconst (z := 2) jd_109_98 rfl
theorem jk_109_99 : jx_Snd 109 99 (js_cle 106) := jo_cle (o := 7) rfl jd_109_99
theorem jk_109_102 : jx_Snd 109 102 (js_c 0 1) := jo_iconst (z := 0) jd_109_102 rfl
theorem jk_109_103 : jx_Snd 109 103 (js_go 140) := jo_goto (o := 37) rfl jd_109_103
theorem jk_109_106 : jx_Snd 109 106 (js_al 0 1) := jo_aload_n (i := 0) (w := 0) rfl jd_109_106
theorem jk_109_107 : jx_Snd 109 107 (js_getf 8 6) := jo_getf rfl jf_8_19 jd_109_107
theorem jk_109_110 : jx_Snd 109 110 (js_al 0 1) := jo_aload_n (i := 0) (w := 0) rfl jd_109_110
theorem jk_109_111 : jx_Snd 109 111 (js_getf 8 20) := jo_getf rfl jf_8_145 jd_109_111
theorem jk_109_114 : jx_Snd 109 114 (js_ald) := jo_ald jd_109_114
theorem jk_109_115 : jx_Snd 109 115 (js_c 2 1) := jo_iconst (z := 2) jd_109_115 rfl
theorem jk_109_116 : jx_Snd 109 116 (js_cne 131) := jo_cne (o := 15) rfl jd_109_116
theorem jk_109_119 : jx_Snd 109 119 (js_al 0 1) := jo_aload_n (i := 0) (w := 0) rfl jd_109_119
theorem jk_109_120 : jx_Snd 109 120 (js_getf 8 9) := jo_getf rfl jf_8_28 jd_109_120
theorem jk_109_123 : jx_Snd 109 123 (js_al 0 1) := jo_aload_n (i := 0) (w := 0) rfl jd_109_123
theorem jk_109_124 : jx_Snd 109 124 (js_getf 8 20) := jo_getf rfl jf_8_145 jd_109_124
theorem jk_109_127 : jx_Snd 109 127 (js_ald) := jo_ald jd_109_127
theorem jk_109_128 : jx_Snd 109 128 (js_go 140) := jo_goto (o := 12) rfl jd_109_128
theorem jk_109_131 : jx_Snd 109 131 (js_al 0 1) := jo_aload_n (i := 0) (w := 0) rfl jd_109_131
theorem jk_109_132 : jx_Snd 109 132 (js_getf 8 7) := jo_getf rfl jf_8_22 jd_109_132
theorem jk_109_135 : jx_Snd 109 135 (js_al 0 1) := jo_aload_n (i := 0) (w := 0) rfl jd_109_135
theorem jk_109_136 : jx_Snd 109 136 (js_getf 8 20) := jo_getf rfl jf_8_145 jd_109_136
theorem jk_109_139 : jx_Snd 109 139 (js_ald) := jo_ald jd_109_139
theorem jk_109_140 : jx_Snd 109 140 (js_ir) := jo_ir rfl jd_109_140
theorem jk_109 : jx_So 109 jt_109 := fun pc => jo_le (jo_le (jo_le (jo_le (jo_le (jo_le (jo_le (jo_at (jk_109_0)) (jo_at (jk_109_1))) (jo_at (jk_109_4))) (jo_le (jo_at (jk_109_7)) (jo_at (jk_109_8)))) (jo_le (jo_le (jo_le (jo_at (jk_109_9)) (jo_at (jk_109_12))) (jo_at (jk_109_15))) (jo_le (jo_at (jk_109_16)) (jo_at (jk_109_17))))) (jo_le (jo_le (jo_le (jo_le (jo_at (jk_109_18)) (jo_at (jk_109_19))) (jo_at (jk_109_22))) (jo_le (jo_at (jk_109_23)) (jo_at (jk_109_26)))) (jo_le (jo_le (jo_le (jo_at (jk_109_27)) (jo_at (jk_109_30))) (jo_at (jk_109_33))) (jo_le (jo_at (jk_109_34)) (jo_at (jk_109_37)))))) (jo_le (jo_le (jo_le (jo_le (jo_le (jo_at (jk_109_38)) (jo_at (jk_109_39))) (jo_at (jk_109_42))) (jo_le (jo_at (jk_109_43)) (jo_at (jk_109_46)))) (jo_le (jo_le (jo_le (jo_at (jk_109_47)) (jo_at (jk_109_48))) (jo_at (jk_109_51))) (jo_le (jo_at (jk_109_52)) (jo_at (jk_109_55))))) (jo_le (jo_le (jo_le (jo_le (jo_at (jk_109_56)) (jo_at (jk_109_57))) (jo_at (jk_109_58))) (jo_le (jo_at (jk_109_59)) (jo_at (jk_109_62)))) (jo_le (jo_le (jo_at (jk_109_63)) (jo_at (jk_109_66))) (jo_le (jo_at (jk_109_67)) (jo_at (jk_109_70))))))) (jo_le (jo_le (jo_le (jo_le (jo_le (jo_le (jo_at (jk_109_71)) (jo_at (jk_109_72))) (jo_at (jk_109_75))) (jo_le (jo_at (jk_109_76)) (jo_at (jk_109_79)))) (jo_le (jo_le (jo_le (jo_at (jk_109_80)) (jo_at (jk_109_83))) (jo_at (jk_109_84))) (jo_le (jo_at (jk_109_87)) (jo_at (jk_109_88))))) (jo_le (jo_le (jo_le (jo_le (jo_at (jk_109_89)) (jo_at (jk_109_90))) (jo_at (jk_109_93))) (jo_le (jo_at (jk_109_94)) (jo_at (jk_109_97)))) (jo_le (jo_le (jo_at (jk_109_98)) (jo_at (jk_109_99))) (jo_le (jo_at (jk_109_102)) (jo_at (jk_109_103)))))) (jo_le (jo_le (jo_le (jo_le (jo_le (jo_at (jk_109_106)) (jo_at (jk_109_107))) (jo_at (jk_109_110))) (jo_le (jo_at (jk_109_111)) (jo_at (jk_109_114)))) (jo_le (jo_le (jo_le (jo_at (jk_109_115)) (jo_at (jk_109_116))) (jo_at (jk_109_119))) (jo_le (jo_at (jk_109_120)) (jo_at (jk_109_123))))) (jo_le (jo_le (jo_le (jo_le (jo_at (jk_109_124)) (jo_at (jk_109_127))) (jo_at (jk_109_128))) (jo_le (jo_at (jk_109_131)) (jo_at (jk_109_132)))) (jo_le (jo_le (jo_at (jk_109_135)) (jo_at (jk_109_136))) (jo_le (jo_at (jk_109_139)) (jo_at (jk_109_140)))))))
theorem ji_109 {l : Launch} {D : va_G} {cA : ClassId} {ρ : Nat → Nat} {Λ : List jx_Lc} {d : Nat} {Q : Option Value → jx_St → Prop} {σ : jx_St} {z0 : Nat} {a1 : Int32} (h : jt_109 0 Λ jx_tb0 (jx_rn Λ jx_tb0 jt_109 (fun k' as σ K => jx_C l D cA ρ Λ d k' as σ K) Q (jx_J l D cA ρ Λ (jx_A ρ Λ) jx_tb0 (d + 1) 109 Q) [] 400) (fun k' as σ K => jx_C l D cA ρ Λ d k' as σ K) Q 0 [(0, .ref z0), (1, .int a1)] [] σ) : jx_C l D cA ρ Λ (d + 1) 109 [.ref z0, .int a1] σ Q := jx_in jk_109 400 [] rfl (Nat.le_of_ble_eq_true rfl) h
/-! ScriptLedgerModel.begin()V -/
theorem jd_110_0 : decode prog_10_method_23_code 0 = .ok (.aload_n 0, 1) := by decide +kernel
theorem jd_110_1 : decode prog_10_method_23_code 1 = .ok (.iconst 0, 1) := by decide +kernel
theorem jd_110_2 : decode prog_10_method_23_code 2 = .ok (.putfield 204, 3) := by decide +kernel
theorem jd_110_5 : decode prog_10_method_23_code 5 = .ok (.aload_n 0, 1) := by decide +kernel
theorem jd_110_6 : decode prog_10_method_23_code 6 = .ok (.iconst 0, 1) := by decide +kernel
theorem jd_110_7 : decode prog_10_method_23_code 7 = .ok (.putfield 207, 3) := by decide +kernel
theorem jd_110_10 : decode prog_10_method_23_code 10 = .ok (.iconst 0, 1) := by decide +kernel
theorem jd_110_11 : decode prog_10_method_23_code 11 = .ok (.istore_n 1, 1) := by decide +kernel
theorem jd_110_12 : decode prog_10_method_23_code 12 = .ok (.iload_n 1, 1) := by decide +kernel
theorem jd_110_13 : decode prog_10_method_23_code 13 = .ok (.iconst 3, 1) := by decide +kernel
theorem jd_110_14 : decode prog_10_method_23_code 14 = .ok (.if_icmp .ge 23, 3) := by decide +kernel
theorem jd_110_17 : decode prog_10_method_23_code 17 = .ok (.aload_n 0, 1) := by decide +kernel
theorem jd_110_18 : decode prog_10_method_23_code 18 = .ok (.getfield 86, 3) := by decide +kernel
theorem jd_110_21 : decode prog_10_method_23_code 21 = .ok (.iload_n 1, 1) := by decide +kernel
theorem jd_110_22 : decode prog_10_method_23_code 22 = .ok (.iconst 0, 1) := by decide +kernel
theorem jd_110_23 : decode prog_10_method_23_code 23 = .ok (.iastore, 1) := by decide +kernel
theorem jd_110_24 : decode prog_10_method_23_code 24 = .ok (.aload_n 0, 1) := by decide +kernel
theorem jd_110_25 : decode prog_10_method_23_code 25 = .ok (.getfield 89, 3) := by decide +kernel
theorem jd_110_28 : decode prog_10_method_23_code 28 = .ok (.iload_n 1, 1) := by decide +kernel
theorem jd_110_29 : decode prog_10_method_23_code 29 = .ok (.iconst 0, 1) := by decide +kernel
theorem jd_110_30 : decode prog_10_method_23_code 30 = .ok (.iastore, 1) := by decide +kernel
theorem jd_110_31 : decode prog_10_method_23_code 31 = .ok (.iinc 1 1, 3) := by decide +kernel
theorem jd_110_34 : decode prog_10_method_23_code 34 = .ok (.goto (-22), 3) := by decide +kernel
theorem jd_110_37 : decode prog_10_method_23_code 37 = .ok (.aload_n 0, 1) := by decide +kernel
theorem jd_110_38 : decode prog_10_method_23_code 38 = .ok (.iconst 0, 1) := by decide +kernel
theorem jd_110_39 : decode prog_10_method_23_code 39 = .ok (.putfield 210, 3) := by decide +kernel
theorem jd_110_42 : decode prog_10_method_23_code 42 = .ok (.aload_n 0, 1) := by decide +kernel
theorem jd_110_43 : decode prog_10_method_23_code 43 = .ok (.iconst 0, 1) := by decide +kernel
theorem jd_110_44 : decode prog_10_method_23_code 44 = .ok (.putfield 213, 3) := by decide +kernel
theorem jd_110_47 : decode prog_10_method_23_code 47 = .ok (.aload_n 0, 1) := by decide +kernel
theorem jd_110_48 : decode prog_10_method_23_code 48 = .ok (.bipush 40, 2) := by decide +kernel
theorem jd_110_50 : decode prog_10_method_23_code 50 = .ok (.putfield 92, 3) := by decide +kernel
theorem jd_110_53 : decode prog_10_method_23_code 53 = .ok (.aload_n 0, 1) := by decide +kernel
theorem jd_110_54 : decode prog_10_method_23_code 54 = .ok (.iconst 0, 1) := by decide +kernel
theorem jd_110_55 : decode prog_10_method_23_code 55 = .ok (.putfield 216, 3) := by decide +kernel
theorem jd_110_58 : decode prog_10_method_23_code 58 = .ok (.aload_n 0, 1) := by decide +kernel
theorem jd_110_59 : decode prog_10_method_23_code 59 = .ok (.iconst 0, 1) := by decide +kernel
theorem jd_110_60 : decode prog_10_method_23_code 60 = .ok (.putfield 219, 3) := by decide +kernel
theorem jd_110_63 : decode prog_10_method_23_code 63 = .ok (.aload_n 0, 1) := by decide +kernel
theorem jd_110_64 : decode prog_10_method_23_code 64 = .ok (.iconst (-1), 1) := by decide +kernel
theorem jd_110_65 : decode prog_10_method_23_code 65 = .ok (.putfield 95, 3) := by decide +kernel
theorem jd_110_68 : decode prog_10_method_23_code 68 = .ok (.return_, 1) := by decide +kernel
def jt_110 (pc : Nat) : jx_Sp := bif Nat.ble pc 30 then (bif Nat.ble pc 14 then (bif Nat.ble pc 7 then (bif Nat.ble pc 2 then (bif Nat.ble pc 1 then (bif Nat.ble pc 0 then (bif Nat.beq pc 0 then js_al 0 1 else js_none) else (bif Nat.beq pc 1 then js_c 0 1 else js_none)) else (bif Nat.beq pc 2 then js_putf 8 33 false else js_none)) else (bif Nat.ble pc 6 then (bif Nat.ble pc 5 then (bif Nat.beq pc 5 then js_al 0 1 else js_none) else (bif Nat.beq pc 6 then js_c 0 1 else js_none)) else (bif Nat.beq pc 7 then js_putf 8 36 false else js_none))) else (bif Nat.ble pc 12 then (bif Nat.ble pc 11 then (bif Nat.ble pc 10 then (bif Nat.beq pc 10 then js_c 0 1 else js_none) else (bif Nat.beq pc 11 then js_is 1 1 else js_none)) else (bif Nat.beq pc 12 then js_il 1 1 else js_none)) else (bif Nat.ble pc 13 then (bif Nat.beq pc 13 then js_c 3 1 else js_none) else (bif Nat.beq pc 14 then js_cge 37 else js_none)))) else (bif Nat.ble pc 23 then (bif Nat.ble pc 21 then (bif Nat.ble pc 18 then (bif Nat.ble pc 17 then (bif Nat.beq pc 17 then js_al 0 1 else js_none) else (bif Nat.beq pc 18 then js_getf 8 40 else js_none)) else (bif Nat.beq pc 21 then js_il 1 1 else js_none)) else (bif Nat.ble pc 22 then (bif Nat.beq pc 22 then js_c 0 1 else js_none) else (bif Nat.beq pc 23 then js_ast else js_none))) else (bif Nat.ble pc 28 then (bif Nat.ble pc 25 then (bif Nat.ble pc 24 then (bif Nat.beq pc 24 then js_al 0 1 else js_none) else (bif Nat.beq pc 25 then js_getf 8 41 else js_none)) else (bif Nat.beq pc 28 then js_il 1 1 else js_none)) else (bif Nat.ble pc 29 then (bif Nat.beq pc 29 then js_c 0 1 else js_none) else (bif Nat.beq pc 30 then js_ast else js_none))))) else (bif Nat.ble pc 50 then (bif Nat.ble pc 42 then (bif Nat.ble pc 37 then (bif Nat.ble pc 34 then (bif Nat.ble pc 31 then (bif Nat.beq pc 31 then js_inc 1 1 else js_none) else (bif Nat.beq pc 34 then js_go 12 else js_none)) else (bif Nat.beq pc 37 then js_al 0 1 else js_none)) else (bif Nat.ble pc 39 then (bif Nat.ble pc 38 then (bif Nat.beq pc 38 then js_c 0 1 else js_none) else (bif Nat.beq pc 39 then js_putf 8 42 false else js_none)) else (bif Nat.beq pc 42 then js_al 0 1 else js_none))) else (bif Nat.ble pc 47 then (bif Nat.ble pc 44 then (bif Nat.ble pc 43 then (bif Nat.beq pc 43 then js_c 0 1 else js_none) else (bif Nat.beq pc 44 then js_putf 8 43 false else js_none)) else (bif Nat.beq pc 47 then js_al 0 1 else js_none)) else (bif Nat.ble pc 48 then (bif Nat.beq pc 48 then js_c 40 2 else js_none) else (bif Nat.beq pc 50 then js_putf 8 44 false else js_none)))) else (bif Nat.ble pc 59 then (bif Nat.ble pc 55 then (bif Nat.ble pc 54 then (bif Nat.ble pc 53 then (bif Nat.beq pc 53 then js_al 0 1 else js_none) else (bif Nat.beq pc 54 then js_c 0 1 else js_none)) else (bif Nat.beq pc 55 then js_putf 8 45 false else js_none)) else (bif Nat.ble pc 58 then (bif Nat.beq pc 58 then js_al 0 1 else js_none) else (bif Nat.beq pc 59 then js_c 0 1 else js_none))) else (bif Nat.ble pc 64 then (bif Nat.ble pc 63 then (bif Nat.ble pc 60 then (bif Nat.beq pc 60 then js_putf 8 46 false else js_none) else (bif Nat.beq pc 63 then js_al 0 1 else js_none)) else (bif Nat.beq pc 64 then js_c (-1) 1 else js_none)) else (bif Nat.ble pc 65 then (bif Nat.beq pc 65 then js_putf 8 47 false else js_none) else (bif Nat.beq pc 68 then js_vr else js_none)))))
theorem jk_110_0 : jx_Snd 110 0 (js_al 0 1) := jo_aload_n (i := 0) (w := 0) rfl jd_110_0
theorem jk_110_1 : jx_Snd 110 1 (js_c 0 1) := jo_iconst (z := 0) jd_110_1 rfl
theorem jk_110_2 : jx_Snd 110 2 (js_putf 8 33 false) := jo_putf (z := false) rfl jf_8_204 (fun C T N h => by cases h; rfl) jd_110_2
theorem jk_110_5 : jx_Snd 110 5 (js_al 0 1) := jo_aload_n (i := 0) (w := 0) rfl jd_110_5
theorem jk_110_6 : jx_Snd 110 6 (js_c 0 1) := jo_iconst (z := 0) jd_110_6 rfl
theorem jk_110_7 : jx_Snd 110 7 (js_putf 8 36 false) := jo_putf (z := false) rfl jf_8_207 (fun C T N h => by cases h; rfl) jd_110_7
theorem jk_110_10 : jx_Snd 110 10 (js_c 0 1) := jo_iconst (z := 0) jd_110_10 rfl
theorem jk_110_11 : jx_Snd 110 11 (js_is 1 1) := jo_istore_n (i := 1) (w := 1) rfl (Nat.le_of_ble_eq_true rfl) jd_110_11
theorem jk_110_12 : jx_Snd 110 12 (js_il 1 1) := jo_iload_n (i := 1) (w := 1) rfl jd_110_12
theorem jk_110_13 : jx_Snd 110 13 (js_c 3 1) := jo_iconst (z := 3) jd_110_13 rfl
theorem jk_110_14 : jx_Snd 110 14 (js_cge 37) := jo_cge (o := 23) rfl jd_110_14
theorem jk_110_17 : jx_Snd 110 17 (js_al 0 1) := jo_aload_n (i := 0) (w := 0) rfl jd_110_17
theorem jk_110_18 : jx_Snd 110 18 (js_getf 8 40) := jo_getf rfl jf_8_86 jd_110_18
theorem jk_110_21 : jx_Snd 110 21 (js_il 1 1) := jo_iload_n (i := 1) (w := 1) rfl jd_110_21
theorem jk_110_22 : jx_Snd 110 22 (js_c 0 1) := jo_iconst (z := 0) jd_110_22 rfl
theorem jk_110_23 : jx_Snd 110 23 (js_ast) := jo_ast jd_110_23
theorem jk_110_24 : jx_Snd 110 24 (js_al 0 1) := jo_aload_n (i := 0) (w := 0) rfl jd_110_24
theorem jk_110_25 : jx_Snd 110 25 (js_getf 8 41) := jo_getf rfl jf_8_89 jd_110_25
theorem jk_110_28 : jx_Snd 110 28 (js_il 1 1) := jo_iload_n (i := 1) (w := 1) rfl jd_110_28
theorem jk_110_29 : jx_Snd 110 29 (js_c 0 1) := jo_iconst (z := 0) jd_110_29 rfl
theorem jk_110_30 : jx_Snd 110 30 (js_ast) := jo_ast jd_110_30
theorem jk_110_31 : jx_Snd 110 31 (js_inc 1 1) := jo_iinc (w := 1) rfl (Nat.le_of_ble_eq_true rfl) jd_110_31
theorem jk_110_34 : jx_Snd 110 34 (js_go 12) := jo_goto (o := (-22)) rfl jd_110_34
theorem jk_110_37 : jx_Snd 110 37 (js_al 0 1) := jo_aload_n (i := 0) (w := 0) rfl jd_110_37
theorem jk_110_38 : jx_Snd 110 38 (js_c 0 1) := jo_iconst (z := 0) jd_110_38 rfl
theorem jk_110_39 : jx_Snd 110 39 (js_putf 8 42 false) := jo_putf (z := false) rfl jf_8_210 (fun C T N h => by cases h; rfl) jd_110_39
theorem jk_110_42 : jx_Snd 110 42 (js_al 0 1) := jo_aload_n (i := 0) (w := 0) rfl jd_110_42
theorem jk_110_43 : jx_Snd 110 43 (js_c 0 1) := jo_iconst (z := 0) jd_110_43 rfl
theorem jk_110_44 : jx_Snd 110 44 (js_putf 8 43 false) := jo_putf (z := false) rfl jf_8_213 (fun C T N h => by cases h; rfl) jd_110_44
theorem jk_110_47 : jx_Snd 110 47 (js_al 0 1) := jo_aload_n (i := 0) (w := 0) rfl jd_110_47
theorem jk_110_48 : jx_Snd 110 48 (js_c 40 2) := jo_bipush (z := 40) jd_110_48 (by decide +kernel)
theorem jk_110_50 : jx_Snd 110 50 (js_putf 8 44 false) := jo_putf (z := false) rfl jf_8_92 (fun C T N h => by cases h; rfl) jd_110_50
theorem jk_110_53 : jx_Snd 110 53 (js_al 0 1) := jo_aload_n (i := 0) (w := 0) rfl jd_110_53
theorem jk_110_54 : jx_Snd 110 54 (js_c 0 1) := jo_iconst (z := 0) jd_110_54 rfl
theorem jk_110_55 : jx_Snd 110 55 (js_putf 8 45 false) := jo_putf (z := false) rfl jf_8_216 (fun C T N h => by cases h; rfl) jd_110_55
theorem jk_110_58 : jx_Snd 110 58 (js_al 0 1) := jo_aload_n (i := 0) (w := 0) rfl jd_110_58
theorem jk_110_59 : jx_Snd 110 59 (js_c 0 1) := jo_iconst (z := 0) jd_110_59 rfl
theorem jk_110_60 : jx_Snd 110 60 (js_putf 8 46 false) := jo_putf (z := false) rfl jf_8_219 (fun C T N h => by cases h; rfl) jd_110_60
theorem jk_110_63 : jx_Snd 110 63 (js_al 0 1) := jo_aload_n (i := 0) (w := 0) rfl jd_110_63
theorem jk_110_64 : jx_Snd 110 64 (js_c (-1) 1) := jo_iconst (z := (-1)) jd_110_64 rfl
theorem jk_110_65 : jx_Snd 110 65 (js_putf 8 47 false) := jo_putf (z := false) rfl jf_8_95 (fun C T N h => by cases h; rfl) jd_110_65
theorem jk_110_68 : jx_Snd 110 68 (js_vr) := jo_vr rfl jd_110_68
theorem jk_110 : jx_So 110 jt_110 := fun pc => jo_le (jo_le (jo_le (jo_le (jo_le (jo_le (jo_at (jk_110_0)) (jo_at (jk_110_1))) (jo_at (jk_110_2))) (jo_le (jo_le (jo_at (jk_110_5)) (jo_at (jk_110_6))) (jo_at (jk_110_7)))) (jo_le (jo_le (jo_le (jo_at (jk_110_10)) (jo_at (jk_110_11))) (jo_at (jk_110_12))) (jo_le (jo_at (jk_110_13)) (jo_at (jk_110_14))))) (jo_le (jo_le (jo_le (jo_le (jo_at (jk_110_17)) (jo_at (jk_110_18))) (jo_at (jk_110_21))) (jo_le (jo_at (jk_110_22)) (jo_at (jk_110_23)))) (jo_le (jo_le (jo_le (jo_at (jk_110_24)) (jo_at (jk_110_25))) (jo_at (jk_110_28))) (jo_le (jo_at (jk_110_29)) (jo_at (jk_110_30)))))) (jo_le (jo_le (jo_le (jo_le (jo_le (jo_at (jk_110_31)) (jo_at (jk_110_34))) (jo_at (jk_110_37))) (jo_le (jo_le (jo_at (jk_110_38)) (jo_at (jk_110_39))) (jo_at (jk_110_42)))) (jo_le (jo_le (jo_le (jo_at (jk_110_43)) (jo_at (jk_110_44))) (jo_at (jk_110_47))) (jo_le (jo_at (jk_110_48)) (jo_at (jk_110_50))))) (jo_le (jo_le (jo_le (jo_le (jo_at (jk_110_53)) (jo_at (jk_110_54))) (jo_at (jk_110_55))) (jo_le (jo_at (jk_110_58)) (jo_at (jk_110_59)))) (jo_le (jo_le (jo_le (jo_at (jk_110_60)) (jo_at (jk_110_63))) (jo_at (jk_110_64))) (jo_le (jo_at (jk_110_65)) (jo_at (jk_110_68))))))
theorem ji_110 {l : Launch} {D : va_G} {cA : ClassId} {ρ : Nat → Nat} {Λ : List jx_Lc} {d : Nat} {Q : Option Value → jx_St → Prop} {σ : jx_St} {z0 : Nat} (h : jt_110 0 Λ jx_tb0 (jx_rn Λ jx_tb0 jt_110 (fun k' as σ K => jx_C l D cA ρ Λ d k' as σ K) Q (jx_J l D cA ρ Λ (jx_A ρ Λ) jx_tb0 (d + 1) 110 Q) [] 400) (fun k' as σ K => jx_C l D cA ρ Λ d k' as σ K) Q 0 [(0, .ref z0)] [] σ) : jx_C l D cA ρ Λ (d + 1) 110 [.ref z0] σ Q := jx_in jk_110 400 [] rfl (Nat.le_of_ble_eq_true rfl) h
/-! ScriptLedgerModel.isInput(I)Z -/
theorem jd_111_0 : decode prog_10_method_24_code 0 = .ok (.iconst 0, 1) := by decide +kernel
theorem jd_111_1 : decode prog_10_method_24_code 1 = .ok (.istore_n 2, 1) := by decide +kernel
theorem jd_111_2 : decode prog_10_method_24_code 2 = .ok (.iconst 0, 1) := by decide +kernel
theorem jd_111_3 : decode prog_10_method_24_code 3 = .ok (.istore_n 3, 1) := by decide +kernel
theorem jd_111_4 : decode prog_10_method_24_code 4 = .ok (.iload_n 3, 1) := by decide +kernel
theorem jd_111_5 : decode prog_10_method_24_code 5 = .ok (.aload_n 0, 1) := by decide +kernel
theorem jd_111_6 : decode prog_10_method_24_code 6 = .ok (.getfield 204, 3) := by decide +kernel
theorem jd_111_9 : decode prog_10_method_24_code 9 = .ok (.if_icmp .ge 29, 3) := by decide +kernel
theorem jd_111_12 : decode prog_10_method_24_code 12 = .ok (.iload_n 2, 1) := by decide +kernel
theorem jd_111_13 : decode prog_10_method_24_code 13 = .ok (.ifCond .ne 13, 3) := by decide +kernel
theorem jd_111_16 : decode prog_10_method_24_code 16 = .ok (.aload_n 0, 1) := by decide +kernel
theorem jd_111_17 : decode prog_10_method_24_code 17 = .ok (.getfield 71, 3) := by decide +kernel
theorem jd_111_20 : decode prog_10_method_24_code 20 = .ok (.iload_n 3, 1) := by decide +kernel
theorem jd_111_21 : decode prog_10_method_24_code 21 = .ok (.iaload, 1) := by decide +kernel
theorem jd_111_22 : decode prog_10_method_24_code 22 = .ok (.iload_n 1, 1) := by decide +kernel
theorem jd_111_23 : decode prog_10_method_24_code 23 = .ok (.if_icmp .ne 7, 3) := by decide +kernel
theorem jd_111_26 : decode prog_10_method_24_code 26 = .ok (.iconst 1, 1) := by decide +kernel
theorem jd_111_27 : decode prog_10_method_24_code 27 = .ok (.goto 4, 3) := by decide +kernel
theorem jd_111_30 : decode prog_10_method_24_code 30 = .ok (.iconst 0, 1) := by decide +kernel
theorem jd_111_31 : decode prog_10_method_24_code 31 = .ok (.istore_n 2, 1) := by decide +kernel
theorem jd_111_32 : decode prog_10_method_24_code 32 = .ok (.iinc 3 1, 3) := by decide +kernel
theorem jd_111_35 : decode prog_10_method_24_code 35 = .ok (.goto (-31), 3) := by decide +kernel
theorem jd_111_38 : decode prog_10_method_24_code 38 = .ok (.iload_n 2, 1) := by decide +kernel
theorem jd_111_39 : decode prog_10_method_24_code 39 = .ok (.ireturn, 1) := by decide +kernel
def jt_111 (pc : Nat) : jx_Sp := bif Nat.ble pc 17 then (bif Nat.ble pc 5 then (bif Nat.ble pc 2 then (bif Nat.ble pc 1 then (bif Nat.ble pc 0 then (bif Nat.beq pc 0 then js_c 0 1 else js_none) else (bif Nat.beq pc 1 then js_is 2 1 else js_none)) else (bif Nat.beq pc 2 then js_c 0 1 else js_none)) else (bif Nat.ble pc 4 then (bif Nat.ble pc 3 then (bif Nat.beq pc 3 then js_is 3 1 else js_none) else (bif Nat.beq pc 4 then js_il 3 1 else js_none)) else (bif Nat.beq pc 5 then js_al 0 1 else js_none))) else (bif Nat.ble pc 12 then (bif Nat.ble pc 9 then (bif Nat.ble pc 6 then (bif Nat.beq pc 6 then js_getf 8 33 else js_none) else (bif Nat.beq pc 9 then js_cge 38 else js_none)) else (bif Nat.beq pc 12 then js_il 2 1 else js_none)) else (bif Nat.ble pc 16 then (bif Nat.ble pc 13 then (bif Nat.beq pc 13 then js_ifne 26 else js_none) else (bif Nat.beq pc 16 then js_al 0 1 else js_none)) else (bif Nat.beq pc 17 then js_getf 8 34 else js_none)))) else (bif Nat.ble pc 27 then (bif Nat.ble pc 22 then (bif Nat.ble pc 21 then (bif Nat.ble pc 20 then (bif Nat.beq pc 20 then js_il 3 1 else js_none) else (bif Nat.beq pc 21 then js_ald else js_none)) else (bif Nat.beq pc 22 then js_il 1 1 else js_none)) else (bif Nat.ble pc 26 then (bif Nat.ble pc 23 then (bif Nat.beq pc 23 then js_cne 30 else js_none) else (bif Nat.beq pc 26 then js_c 1 1 else js_none)) else (bif Nat.beq pc 27 then js_go 31 else js_none))) else (bif Nat.ble pc 32 then (bif Nat.ble pc 31 then (bif Nat.ble pc 30 then (bif Nat.beq pc 30 then js_c 0 1 else js_none) else (bif Nat.beq pc 31 then js_is 2 1 else js_none)) else (bif Nat.beq pc 32 then js_inc 3 1 else js_none)) else (bif Nat.ble pc 38 then (bif Nat.ble pc 35 then (bif Nat.beq pc 35 then js_go 4 else js_none) else (bif Nat.beq pc 38 then js_il 2 1 else js_none)) else (bif Nat.beq pc 39 then js_zr else js_none))))
theorem jk_111_0 : jx_Snd 111 0 (js_c 0 1) := jo_iconst (z := 0) jd_111_0 rfl
theorem jk_111_1 : jx_Snd 111 1 (js_is 2 1) := jo_istore_n (i := 2) (w := 2) rfl (Nat.le_of_ble_eq_true rfl) jd_111_1
theorem jk_111_2 : jx_Snd 111 2 (js_c 0 1) := jo_iconst (z := 0) jd_111_2 rfl
theorem jk_111_3 : jx_Snd 111 3 (js_is 3 1) := jo_istore_n (i := 3) (w := 3) rfl (Nat.le_of_ble_eq_true rfl) jd_111_3
theorem jk_111_4 : jx_Snd 111 4 (js_il 3 1) := jo_iload_n (i := 3) (w := 3) rfl jd_111_4
theorem jk_111_5 : jx_Snd 111 5 (js_al 0 1) := jo_aload_n (i := 0) (w := 0) rfl jd_111_5
theorem jk_111_6 : jx_Snd 111 6 (js_getf 8 33) := jo_getf rfl jf_8_204 jd_111_6
theorem jk_111_9 : jx_Snd 111 9 (js_cge 38) := jo_cge (o := 29) rfl jd_111_9
theorem jk_111_12 : jx_Snd 111 12 (js_il 2 1) := jo_iload_n (i := 2) (w := 2) rfl jd_111_12
theorem jk_111_13 : jx_Snd 111 13 (js_ifne 26) := jo_ifne (o := 13) rfl jd_111_13
theorem jk_111_16 : jx_Snd 111 16 (js_al 0 1) := jo_aload_n (i := 0) (w := 0) rfl jd_111_16
theorem jk_111_17 : jx_Snd 111 17 (js_getf 8 34) := jo_getf rfl jf_8_71 jd_111_17
theorem jk_111_20 : jx_Snd 111 20 (js_il 3 1) := jo_iload_n (i := 3) (w := 3) rfl jd_111_20
theorem jk_111_21 : jx_Snd 111 21 (js_ald) := jo_ald jd_111_21
theorem jk_111_22 : jx_Snd 111 22 (js_il 1 1) := jo_iload_n (i := 1) (w := 1) rfl jd_111_22
theorem jk_111_23 : jx_Snd 111 23 (js_cne 30) := jo_cne (o := 7) rfl jd_111_23
theorem jk_111_26 : jx_Snd 111 26 (js_c 1 1) := jo_iconst (z := 1) jd_111_26 rfl
theorem jk_111_27 : jx_Snd 111 27 (js_go 31) := jo_goto (o := 4) rfl jd_111_27
theorem jk_111_30 : jx_Snd 111 30 (js_c 0 1) := jo_iconst (z := 0) jd_111_30 rfl
theorem jk_111_31 : jx_Snd 111 31 (js_is 2 1) := jo_istore_n (i := 2) (w := 2) rfl (Nat.le_of_ble_eq_true rfl) jd_111_31
theorem jk_111_32 : jx_Snd 111 32 (js_inc 3 1) := jo_iinc (w := 1) rfl (Nat.le_of_ble_eq_true rfl) jd_111_32
theorem jk_111_35 : jx_Snd 111 35 (js_go 4) := jo_goto (o := (-31)) rfl jd_111_35
theorem jk_111_38 : jx_Snd 111 38 (js_il 2 1) := jo_iload_n (i := 2) (w := 2) rfl jd_111_38
theorem jk_111_39 : jx_Snd 111 39 (js_zr) := jo_zr rfl jd_111_39
theorem jk_111 : jx_So 111 jt_111 := fun pc => jo_le (jo_le (jo_le (jo_le (jo_le (jo_at (jk_111_0)) (jo_at (jk_111_1))) (jo_at (jk_111_2))) (jo_le (jo_le (jo_at (jk_111_3)) (jo_at (jk_111_4))) (jo_at (jk_111_5)))) (jo_le (jo_le (jo_le (jo_at (jk_111_6)) (jo_at (jk_111_9))) (jo_at (jk_111_12))) (jo_le (jo_le (jo_at (jk_111_13)) (jo_at (jk_111_16))) (jo_at (jk_111_17))))) (jo_le (jo_le (jo_le (jo_le (jo_at (jk_111_20)) (jo_at (jk_111_21))) (jo_at (jk_111_22))) (jo_le (jo_le (jo_at (jk_111_23)) (jo_at (jk_111_26))) (jo_at (jk_111_27)))) (jo_le (jo_le (jo_le (jo_at (jk_111_30)) (jo_at (jk_111_31))) (jo_at (jk_111_32))) (jo_le (jo_le (jo_at (jk_111_35)) (jo_at (jk_111_38))) (jo_at (jk_111_39)))))
theorem ji_111 {l : Launch} {D : va_G} {cA : ClassId} {ρ : Nat → Nat} {Λ : List jx_Lc} {d : Nat} {Q : Option Value → jx_St → Prop} {σ : jx_St} {z0 : Nat} {a1 : Int32} (h : jt_111 0 Λ jx_tb0 (jx_rn Λ jx_tb0 jt_111 (fun k' as σ K => jx_C l D cA ρ Λ d k' as σ K) Q (jx_J l D cA ρ Λ (jx_A ρ Λ) jx_tb0 (d + 1) 111 Q) [] 400) (fun k' as σ K => jx_C l D cA ρ Λ d k' as σ K) Q 0 [(0, .ref z0), (1, .int a1)] [] σ) : jx_C l D cA ρ Λ (d + 1) 111 [.ref z0, .int a1] σ Q := jx_in jk_111 400 [] rfl (Nat.le_of_ble_eq_true rfl) h

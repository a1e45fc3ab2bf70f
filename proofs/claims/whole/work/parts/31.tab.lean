/-! ScriptLedgerModel.phaseOne()I -/
theorem jd_124_0 : decode prog_10_method_37_code 0 = .ok (.aload_n 0, 1) := by decide +kernel
theorem jd_124_1 : decode prog_10_method_37_code 1 = .ok (.getfield 204, 3) := by decide +kernel
theorem jd_124_4 : decode prog_10_method_37_code 4 = .ok (.ifCond .ne 5, 3) := by decide +kernel
theorem jd_124_7 : decode prog_10_method_37_code 7 = .ok (.iconst 2, 1) := by decide +kernel
theorem jd_124_8 : decode prog_10_method_37_code 8 = .ok (.ireturn, 1) := by decide +kernel
theorem jd_124_9 : decode prog_10_method_37_code 9 = .ok (.aload_n 0, 1) := by decide +kernel
theorem jd_124_10 : decode prog_10_method_37_code 10 = .ok (.invokevirtual 236, 3) := by decide +kernel
theorem jd_124_13 : decode prog_10_method_37_code 13 = .ok (.ifCond .ne 5, 3) := by decide +kernel
theorem jd_124_16 : decode prog_10_method_37_code 16 = .ok (.iconst 3, 1) := by decide +kernel
theorem jd_124_17 : decode prog_10_method_37_code 17 = .ok (.ireturn, 1) := by decide +kernel
theorem jd_124_18 : decode prog_10_method_37_code 18 = .ok (.aload_n 0, 1) := by decide +kernel
theorem jd_124_19 : decode prog_10_method_37_code 19 = .ok (.getfield 239, 3) := by decide +kernel
theorem jd_124_22 : decode prog_10_method_37_code 22 = .ok (.aload_n 0, 1) := by decide +kernel
theorem jd_124_23 : decode prog_10_method_37_code 23 = .ok (.getfield 213, 3) := by decide +kernel
theorem jd_124_26 : decode prog_10_method_37_code 26 = .ok (.if_icmp .lt 14, 3) := by decide +kernel
theorem jd_124_29 : decode prog_10_method_37_code 29 = .ok (.aload_n 0, 1) := by decide +kernel
theorem jd_124_30 : decode prog_10_method_37_code 30 = .ok (.getfield 239, 3) := by decide +kernel
theorem jd_124_33 : decode prog_10_method_37_code 33 = .ok (.aload_n 0, 1) := by decide +kernel
theorem jd_124_34 : decode prog_10_method_37_code 34 = .ok (.getfield 92, 3) := by decide +kernel
theorem jd_124_37 : decode prog_10_method_37_code 37 = .ok (.if_icmp .le 5, 3) := by decide +kernel
theorem jd_124_40 : decode prog_10_method_37_code 40 = .ok (.iconst 4, 1) := by decide +kernel
theorem jd_124_41 : decode prog_10_method_37_code 41 = .ok (.ireturn, 1) := by decide +kernel
theorem jd_124_42 : decode prog_10_method_37_code 42 = .ok (.aload_n 0, 1) := by decide +kernel
theorem jd_124_43 : decode prog_10_method_37_code 43 = .ok (.getfield 210, 3) := by decide +kernel
theorem jd_124_46 : decode prog_10_method_37_code 46 = .ok (.iconst 5, 1) := by decide +kernel
theorem jd_124_47 : decode prog_10_method_37_code 47 = .ok (.aload_n 0, 1) := by decide +kernel
theorem jd_124_48 : decode prog_10_method_37_code 48 = .ok (.getfield 204, 3) := by decide +kernel
theorem jd_124_51 : decode prog_10_method_37_code 51 = .ok (.iadd, 1) := by decide +kernel
theorem jd_124_52 : decode prog_10_method_37_code 52 = .ok (.aload_n 0, 1) := by decide +kernel
theorem jd_124_53 : decode prog_10_method_37_code 53 = .ok (.getfield 207, 3) := by decide +kernel
theorem jd_124_56 : decode prog_10_method_37_code 56 = .ok (.iadd, 1) := by decide +kernel
theorem jd_124_57 : decode prog_10_method_37_code 57 = .ok (.aload_n 0, 1) := by decide +kernel
theorem jd_124_58 : decode prog_10_method_37_code 58 = .ok (.getfield 219, 3) := by decide +kernel
theorem jd_124_61 : decode prog_10_method_37_code 61 = .ok (.bipush 8, 2) := by decide +kernel
theorem jd_124_63 : decode prog_10_method_37_code 63 = .ok (.idiv, 1) := by decide +kernel
theorem jd_124_64 : decode prog_10_method_37_code 64 = .ok (.iadd, 1) := by decide +kernel
theorem jd_124_65 : decode prog_10_method_37_code 65 = .ok (.if_icmp .ge 5, 3) := by decide +kernel
theorem jd_124_68 : decode prog_10_method_37_code 68 = .ok (.iconst 5, 1) := by decide +kernel
theorem jd_124_69 : decode prog_10_method_37_code 69 = .ok (.ireturn, 1) := by decide +kernel
theorem jd_124_70 : decode prog_10_method_37_code 70 = .ok (.aload_n 0, 1) := by decide +kernel
theorem jd_124_71 : decode prog_10_method_37_code 71 = .ok (.invokevirtual 242, 3) := by decide +kernel
theorem jd_124_74 : decode prog_10_method_37_code 74 = .ok (.ifCond .ne 6, 3) := by decide +kernel
theorem jd_124_77 : decode prog_10_method_37_code 77 = .ok (.bipush 6, 2) := by decide +kernel
theorem jd_124_79 : decode prog_10_method_37_code 79 = .ok (.ireturn, 1) := by decide +kernel
theorem jd_124_80 : decode prog_10_method_37_code 80 = .ok (.aload_n 0, 1) := by decide +kernel
theorem jd_124_81 : decode prog_10_method_37_code 81 = .ok (.invokevirtual 245, 3) := by decide +kernel
theorem jd_124_84 : decode prog_10_method_37_code 84 = .ok (.ifCond .ne 6, 3) := by decide +kernel
theorem jd_124_87 : decode prog_10_method_37_code 87 = .ok (.bipush 7, 2) := by decide +kernel
theorem jd_124_89 : decode prog_10_method_37_code 89 = .ok (.ireturn, 1) := by decide +kernel
theorem jd_124_90 : decode prog_10_method_37_code 90 = .ok (.aload_n 0, 1) := by decide +kernel
theorem jd_124_91 : decode prog_10_method_37_code 91 = .ok (.invokevirtual 248, 3) := by decide +kernel
theorem jd_124_94 : decode prog_10_method_37_code 94 = .ok (.aload_n 0, 1) := by decide +kernel
theorem jd_124_95 : decode prog_10_method_37_code 95 = .ok (.getfield 116, 3) := by decide +kernel
theorem jd_124_98 : decode prog_10_method_37_code 98 = .ok (.if_icmp .lt 6, 3) := by decide +kernel
theorem jd_124_101 : decode prog_10_method_37_code 101 = .ok (.bipush 8, 2) := by decide +kernel
theorem jd_124_103 : decode prog_10_method_37_code 103 = .ok (.ireturn, 1) := by decide +kernel
theorem jd_124_104 : decode prog_10_method_37_code 104 = .ok (.aload_n 0, 1) := by decide +kernel
theorem jd_124_105 : decode prog_10_method_37_code 105 = .ok (.invokevirtual 248, 3) := by decide +kernel
theorem jd_124_108 : decode prog_10_method_37_code 108 = .ok (.ifCond .lt 13, 3) := by decide +kernel
theorem jd_124_111 : decode prog_10_method_37_code 111 = .ok (.aload_n 0, 1) := by decide +kernel
theorem jd_124_112 : decode prog_10_method_37_code 112 = .ok (.invokevirtual 252, 3) := by decide +kernel
theorem jd_124_115 : decode prog_10_method_37_code 115 = .ok (.ifCond .ne 6, 3) := by decide +kernel
theorem jd_124_118 : decode prog_10_method_37_code 118 = .ok (.bipush 9, 2) := by decide +kernel
theorem jd_124_120 : decode prog_10_method_37_code 120 = .ok (.ireturn, 1) := by decide +kernel
theorem jd_124_121 : decode prog_10_method_37_code 121 = .ok (.aload_n 0, 1) := by decide +kernel
theorem jd_124_122 : decode prog_10_method_37_code 122 = .ok (.getfield 104, 3) := by decide +kernel
theorem jd_124_125 : decode prog_10_method_37_code 125 = .ok (.aload_n 0, 1) := by decide +kernel
theorem jd_124_126 : decode prog_10_method_37_code 126 = .ok (.getfield 207, 3) := by decide +kernel
theorem jd_124_129 : decode prog_10_method_37_code 129 = .ok (.iadd, 1) := by decide +kernel
theorem jd_124_130 : decode prog_10_method_37_code 130 = .ok (.bipush 48, 2) := by decide +kernel
theorem jd_124_132 : decode prog_10_method_37_code 132 = .ok (.if_icmp .le 8, 3) := by decide +kernel
theorem jd_124_135 : decode prog_10_method_37_code 135 = .ok (.bipush 10, 2) := by decide +kernel
theorem jd_124_137 : decode prog_10_method_37_code 137 = .ok (.goto 4, 3) := by decide +kernel
theorem jd_124_140 : decode prog_10_method_37_code 140 = .ok (.iconst 0, 1) := by decide +kernel
theorem jd_124_141 : decode prog_10_method_37_code 141 = .ok (.ireturn, 1) := by decide +kernel
def jt_124 (pc : Nat) : jx_Sp := bif Nat.ble pc 68 then (bif Nat.ble pc 34 then (bif Nat.ble pc 17 then (bif Nat.ble pc 8 then (bif Nat.ble pc 4 then (bif Nat.ble pc 1 then (bif Nat.ble pc 0 then (bif Nat.beq pc 0 then js_al 0 1 else js_none) else (bif Nat.beq pc 1 then js_getf 8 33 else js_none)) else (bif Nat.beq pc 4 then js_ifne 9 else js_none)) else (bif Nat.ble pc 7 then (bif Nat.beq pc 7 then js_c 2 1 else js_none) else (bif Nat.beq pc 8 then js_ir else js_none))) else (bif Nat.ble pc 13 then (bif Nat.ble pc 10 then (bif Nat.ble pc 9 then (bif Nat.beq pc 9 then js_al 0 1 else js_none) else (bif Nat.beq pc 10 then js_v0 8 118 else js_none)) else (bif Nat.beq pc 13 then js_ifne 18 else js_none)) else (bif Nat.ble pc 16 then (bif Nat.beq pc 16 then js_c 3 1 else js_none) else (bif Nat.beq pc 17 then js_ir else js_none)))) else (bif Nat.ble pc 26 then (bif Nat.ble pc 22 then (bif Nat.ble pc 19 then (bif Nat.ble pc 18 then (bif Nat.beq pc 18 then js_al 0 1 else js_none) else (bif Nat.beq pc 19 then js_getf 8 31 else js_none)) else (bif Nat.beq pc 22 then js_al 0 1 else js_none)) else (bif Nat.ble pc 23 then (bif Nat.beq pc 23 then js_getf 8 43 else js_none) else (bif Nat.beq pc 26 then js_clt 40 else js_none))) else (bif Nat.ble pc 30 then (bif Nat.ble pc 29 then (bif Nat.beq pc 29 then js_al 0 1 else js_none) else (bif Nat.beq pc 30 then js_getf 8 31 else js_none)) else (bif Nat.ble pc 33 then (bif Nat.beq pc 33 then js_al 0 1 else js_none) else (bif Nat.beq pc 34 then js_getf 8 44 else js_none))))) else (bif Nat.ble pc 52 then (bif Nat.ble pc 43 then (bif Nat.ble pc 41 then (bif Nat.ble pc 40 then (bif Nat.ble pc 37 then (bif Nat.beq pc 37 then js_cle 42 else js_none) else (bif Nat.beq pc 40 then js_c 4 1 else js_none)) else (bif Nat.beq pc 41 then js_ir else js_none)) else (bif Nat.ble pc 42 then (bif Nat.beq pc 42 then js_al 0 1 else js_none) else (bif Nat.beq pc 43 then js_getf 8 42 else js_none))) else (bif Nat.ble pc 48 then (bif Nat.ble pc 47 then (bif Nat.ble pc 46 then (bif Nat.beq pc 46 then js_c 5 1 else js_none) else (bif Nat.beq pc 47 then js_al 0 1 else js_none)) else (bif Nat.beq pc 48 then js_getf 8 33 else js_none)) else (bif Nat.ble pc 51 then (bif Nat.beq pc 51 then js_iadd else js_none) else (bif Nat.beq pc 52 then js_al 0 1 else js_none)))) else (bif Nat.ble pc 61 then (bif Nat.ble pc 57 then (bif Nat.ble pc 56 then (bif Nat.ble pc 53 then (bif Nat.beq pc 53 then js_getf 8 36 else js_none) else (bif Nat.beq pc 56 then js_iadd else js_none)) else (bif Nat.beq pc 57 then js_al 0 1 else js_none)) else (bif Nat.ble pc 58 then (bif Nat.beq pc 58 then js_getf 8 46 else js_none) else (bif Nat.beq pc 61 then js_c 8 2 else js_none))) else (bif Nat.ble pc 64 then (bif Nat.ble pc 63 then (bif Nat.beq pc 63 then js_idiv else js_none) else (bif Nat.beq pc 64 then js_iadd else js_none)) else (bif Nat.ble pc 65 then (bif Nat.beq pc 65 then js_cge 70 else js_none) else (bif Nat.beq pc 68 then js_c 5 1 else js_none)))))) else (bif Nat.ble pc 104 then (bif Nat.ble pc 87 then (bif Nat.ble pc 77 then (bif Nat.ble pc 71 then (bif Nat.ble pc 70 then (bif Nat.ble pc 69 then (bif Nat.beq pc 69 then js_ir else js_none) else (bif Nat.beq pc 70 then js_al 0 1 else js_none)) else (bif Nat.beq pc 71 then js_v0 8 119 else js_none)) else (bif Nat.ble pc 74 then (bif Nat.beq pc 74 then js_ifne 80 else js_none) else (bif Nat.beq pc 77 then js_c 6 2 else js_none))) else (bif Nat.ble pc 81 then (bif Nat.ble pc 80 then (bif Nat.ble pc 79 then (bif Nat.beq pc 79 then js_ir else js_none) else (bif Nat.beq pc 80 then js_al 0 1 else js_none)) else (bif Nat.beq pc 81 then js_v0 8 121 else js_none)) else (bif Nat.ble pc 84 then (bif Nat.beq pc 84 then js_ifne 90 else js_none) else (bif Nat.beq pc 87 then js_c 7 2 else js_none)))) else (bif Nat.ble pc 95 then (bif Nat.ble pc 91 then (bif Nat.ble pc 90 then (bif Nat.ble pc 89 then (bif Nat.beq pc 89 then js_ir else js_none) else (bif Nat.beq pc 90 then js_al 0 1 else js_none)) else (bif Nat.beq pc 91 then js_v0 8 122 else js_none)) else (bif Nat.ble pc 94 then (bif Nat.beq pc 94 then js_al 0 1 else js_none) else (bif Nat.beq pc 95 then js_getf 8 0 else js_none))) else (bif Nat.ble pc 101 then (bif Nat.ble pc 98 then (bif Nat.beq pc 98 then js_clt 104 else js_none) else (bif Nat.beq pc 101 then js_c 8 2 else js_none)) else (bif Nat.ble pc 103 then (bif Nat.beq pc 103 then js_ir else js_none) else (bif Nat.beq pc 104 then js_al 0 1 else js_none))))) else (bif Nat.ble pc 122 then (bif Nat.ble pc 115 then (bif Nat.ble pc 111 then (bif Nat.ble pc 108 then (bif Nat.ble pc 105 then (bif Nat.beq pc 105 then js_v0 8 122 else js_none) else (bif Nat.beq pc 108 then js_iflt 121 else js_none)) else (bif Nat.beq pc 111 then js_al 0 1 else js_none)) else (bif Nat.ble pc 112 then (bif Nat.beq pc 112 then js_v0 8 123 else js_none) else (bif Nat.beq pc 115 then js_ifne 121 else js_none))) else (bif Nat.ble pc 120 then (bif Nat.ble pc 118 then (bif Nat.beq pc 118 then js_c 9 2 else js_none) else (bif Nat.beq pc 120 then js_ir else js_none)) else (bif Nat.ble pc 121 then (bif Nat.beq pc 121 then js_al 0 1 else js_none) else (bif Nat.beq pc 122 then js_getf 8 25 else js_none)))) else (bif Nat.ble pc 132 then (bif Nat.ble pc 129 then (bif Nat.ble pc 126 then (bif Nat.ble pc 125 then (bif Nat.beq pc 125 then js_al 0 1 else js_none) else (bif Nat.beq pc 126 then js_getf 8 36 else js_none)) else (bif Nat.beq pc 129 then js_iadd else js_none)) else (bif Nat.ble pc 130 then (bif Nat.beq pc 130 then js_c 48 2 else js_none) else (bif Nat.beq pc 132 then js_cle 140 else js_none))) else (bif Nat.ble pc 137 then (bif Nat.ble pc 135 then (bif Nat.beq pc 135 then js_c 10 2 else js_none) else (bif Nat.beq pc 137 then js_go 141 else js_none)) else (bif Nat.ble pc 140 then (bif Nat.beq pc 140 then js_c 0 1 else js_none) else (bif Nat.beq pc 141 then js_ir else js_none))))))
theorem jk_124_0 : jx_Snd 124 0 (js_al 0 1) := jo_aload_n (i := 0) (w := 0) rfl jd_124_0
theorem jk_124_1 : jx_Snd 124 1 (js_getf 8 33) := jo_getf rfl jf_8_204 jd_124_1
theorem jk_124_4 : jx_Snd 124 4 (js_ifne 9) := jo_ifne (o := 5) rfl jd_124_4
theorem jk_124_7 : jx_Snd 124 7 (js_c 2 1) := jo_iconst (z := 2) jd_124_7 rfl
theorem jk_124_8 : jx_Snd 124 8 (js_ir) := jo_ir rfl jd_124_8
theorem jk_124_9 : jx_Snd 124 9 (js_al 0 1) := jo_aload_n (i := 0) (w := 0) rfl jd_124_9
theorem jk_124_10 : jx_Snd 124 10 (js_v0 8 118) := jo_v0 rfl jok_118 (Or.inl jw_621) jw_622 jw_731 rfl jd_124_10
theorem jk_124_13 : jx_Snd 124 13 (js_ifne 18) := jo_ifne (o := 5) rfl jd_124_13
theorem jk_124_16 : jx_Snd 124 16 (js_c 3 1) := jo_iconst (z := 3) jd_124_16 rfl
theorem jk_124_17 : jx_Snd 124 17 (js_ir) := jo_ir rfl jd_124_17
theorem jk_124_18 : jx_Snd 124 18 (js_al 0 1) := jo_aload_n (i := 0) (w := 0) rfl jd_124_18
theorem jk_124_19 : jx_Snd 124 19 (js_getf 8 31) := jo_getf rfl jf_8_239 jd_124_19
theorem jk_124_22 : jx_Snd 124 22 (js_al 0 1) := jo_aload_n (i := 0) (w := 0) rfl jd_124_22
theorem jk_124_23 : jx_Snd 124 23 (js_getf 8 43) := jo_getf rfl jf_8_213 jd_124_23
theorem jk_124_26 : jx_Snd 124 26 (js_clt 40) := jo_clt (o := 14) rfl jd_124_26
theorem jk_124_29 : jx_Snd 124 29 (js_al 0 1) := jo_aload_n (i := 0) (w := 0) rfl jd_124_29
theorem jk_124_30 : jx_Snd 124 30 (js_getf 8 31) := jo_getf rfl jf_8_239 jd_124_30
theorem jk_124_33 : jx_Snd 124 33 (js_al 0 1) := jo_aload_n (i := 0) (w := 0) rfl jd_124_33
theorem jk_124_34 : jx_Snd 124 34 (js_getf 8 44) := jo_getf rfl jf_8_92 jd_124_34
theorem jk_124_37 : jx_Snd 124 37 (js_cle 42) := jo_cle (o := 5) rfl jd_124_37
theorem jk_124_40 : jx_Snd 124 40 (js_c 4 1) := jo_iconst (z := 4) jd_124_40 rfl
theorem jk_124_41 : jx_Snd 124 41 (js_ir) := jo_ir rfl jd_124_41
theorem jk_124_42 : jx_Snd 124 42 (js_al 0 1) := jo_aload_n (i := 0) (w := 0) rfl jd_124_42
theorem jk_124_43 : jx_Snd 124 43 (js_getf 8 42) := jo_getf rfl jf_8_210 jd_124_43
theorem jk_124_46 : jx_Snd 124 46 (js_c 5 1) := jo_iconst (z := 5) jd_124_46 rfl
theorem jk_124_47 : jx_Snd 124 47 (js_al 0 1) := jo_aload_n (i := 0) (w := 0) rfl jd_124_47
theorem jk_124_48 : jx_Snd 124 48 (js_getf 8 33) := jo_getf rfl jf_8_204 jd_124_48
theorem jk_124_51 : jx_Snd 124 51 (js_iadd) := jo_iadd jd_124_51
theorem jk_124_52 : jx_Snd 124 52 (js_al 0 1) := jo_aload_n (i := 0) (w := 0) rfl jd_124_52
theorem jk_124_53 : jx_Snd 124 53 (js_getf 8 36) := jo_getf rfl jf_8_207 jd_124_53
theorem jk_124_56 : jx_Snd 124 56 (js_iadd) := jo_iadd jd_124_56
theorem jk_124_57 : jx_Snd 124 57 (js_al 0 1) := jo_aload_n (i := 0) (w := 0) rfl jd_124_57
theorem jk_124_58 : jx_Snd 124 58 (js_getf 8 46) := jo_getf rfl jf_8_219 jd_124_58
theorem jk_124_61 : jx_Snd 124 61 (js_c 8 2) := jo_bipush (z := 8) jd_124_61 (by decide +kernel)
theorem jk_124_63 : jx_Snd 124 63 (js_idiv) := jo_idiv jd_124_63
theorem jk_124_64 : jx_Snd 124 64 (js_iadd) := jo_iadd jd_124_64
theorem jk_124_65 : jx_Snd 124 65 (js_cge 70) := jo_cge (o := 5) rfl jd_124_65
theorem jk_124_68 : jx_Snd 124 68 (js_c 5 1) := jo_iconst (z := 5) jd_124_68 rfl
theorem jk_124_69 : jx_Snd 124 69 (js_ir) := jo_ir rfl jd_124_69
theorem jk_124_70 : jx_Snd 124 70 (js_al 0 1) := jo_aload_n (i := 0) (w := 0) rfl jd_124_70
theorem jk_124_71 : jx_Snd 124 71 (js_v0 8 119) := jo_v0 rfl jok_119 (Or.inl jw_627) jw_628 jw_733 rfl jd_124_71
theorem jk_124_74 : jx_Snd 124 74 (js_ifne 80) := jo_ifne (o := 6) rfl jd_124_74
theorem jk_124_77 : jx_Snd 124 77 (js_c 6 2) := jo_bipush (z := 6) jd_124_77 (by decide +kernel)
theorem jk_124_79 : jx_Snd 124 79 (js_ir) := jo_ir rfl jd_124_79
theorem jk_124_80 : jx_Snd 124 80 (js_al 0 1) := jo_aload_n (i := 0) (w := 0) rfl jd_124_80
theorem jk_124_81 : jx_Snd 124 81 (js_v0 8 121) := jo_v0 rfl jok_121 (Or.inl jw_630) jw_631 jw_734 rfl jd_124_81
theorem jk_124_84 : jx_Snd 124 84 (js_ifne 90) := jo_ifne (o := 6) rfl jd_124_84
theorem jk_124_87 : jx_Snd 124 87 (js_c 7 2) := jo_bipush (z := 7) jd_124_87 (by decide +kernel)
theorem jk_124_89 : jx_Snd 124 89 (js_ir) := jo_ir rfl jd_124_89
theorem jk_124_90 : jx_Snd 124 90 (js_al 0 1) := jo_aload_n (i := 0) (w := 0) rfl jd_124_90
theorem jk_124_91 : jx_Snd 124 91 (js_v0 8 122) := jo_v0 rfl jok_122 (Or.inl jw_636) jw_637 jw_736 rfl jd_124_91
theorem jk_124_94 : jx_Snd 124 94 (js_al 0 1) := jo_aload_n (i := 0) (w := 0) rfl jd_124_94
theorem jk_124_95 : jx_Snd 124 95 (js_getf 8 0) := jo_getf rfl jf_8_116 jd_124_95
theorem jk_124_98 : jx_Snd 124 98 (js_clt 104) := jo_clt (o := 6) rfl jd_124_98
theorem jk_124_101 : jx_Snd 124 101 (js_c 8 2) := jo_bipush (z := 8) jd_124_101 (by decide +kernel)
theorem jk_124_103 : jx_Snd 124 103 (js_ir) := jo_ir rfl jd_124_103
theorem jk_124_104 : jx_Snd 124 104 (js_al 0 1) := jo_aload_n (i := 0) (w := 0) rfl jd_124_104
theorem jk_124_105 : jx_Snd 124 105 (js_v0 8 122) := jo_v0 rfl jok_122 (Or.inl jw_636) jw_637 jw_736 rfl jd_124_105
theorem jk_124_108 : jx_Snd 124 108 (js_iflt 121) := jo_iflt (o := 13) rfl jd_124_108
theorem jk_124_111 : jx_Snd 124 111 (js_al 0 1) := jo_aload_n (i := 0) (w := 0) rfl jd_124_111
theorem jk_124_112 : jx_Snd 124 112 (js_v0 8 123) := jo_v0 rfl jok_123 (Or.inl jw_639) jw_640 jw_737 rfl jd_124_112
theorem jk_124_115 : jx_Snd 124 115 (js_ifne 121) := jo_ifne (o := 6) rfl jd_124_115
theorem jk_124_118 : jx_Snd 124 118 (js_c 9 2) := jo_bipush (z := 9) jd_124_118 (by decide +kernel)
theorem jk_124_120 : jx_Snd 124 120 (js_ir) := jo_ir rfl jd_124_120
theorem jk_124_121 : jx_Snd 124 121 (js_al 0 1) := jo_aload_n (i := 0) (w := 0) rfl jd_124_121
theorem jk_124_122 : jx_Snd 124 122 (js_getf 8 25) := jo_getf rfl jf_8_104 jd_124_122
theorem jk_124_125 : jx_Snd 124 125 (js_al 0 1) := jo_aload_n (i := 0) (w := 0) rfl jd_124_125
theorem jk_124_126 : jx_Snd 124 126 (js_getf 8 36) := jo_getf rfl jf_8_207 jd_124_126
theorem jk_124_129 : jx_Snd 124 129 (js_iadd) := jo_iadd jd_124_129
theorem jk_124_130 : jx_Snd 124 130 (js_c 48 2) := jo_bipush (z := 48) jd_124_130 (by decide +kernel)
theorem jk_124_132 : jx_Snd 124 132 (js_cle 140) := jo_cle (o := 8) rfl jd_124_132
theorem jk_124_135 : jx_Snd 124 135 (js_c 10 2) := jo_bipush (z := 10) jd_124_135 (by decide +kernel)
theorem jk_124_137 : jx_Snd 124 137 (js_go 141) := jo_goto (o := 4) rfl jd_124_137
theorem jk_124_140 : jx_Snd 124 140 (js_c 0 1) := jo_iconst (z := 0) jd_124_140 rfl
theorem jk_124_141 : jx_Snd 124 141 (js_ir) := jo_ir rfl jd_124_141
theorem jk_124 : jx_So 124 jt_124 := fun pc => jo_le (jo_le (jo_le (jo_le (jo_le (jo_le (jo_le (jo_at (jk_124_0)) (jo_at (jk_124_1))) (jo_at (jk_124_4))) (jo_le (jo_at (jk_124_7)) (jo_at (jk_124_8)))) (jo_le (jo_le (jo_le (jo_at (jk_124_9)) (jo_at (jk_124_10))) (jo_at (jk_124_13))) (jo_le (jo_at (jk_124_16)) (jo_at (jk_124_17))))) (jo_le (jo_le (jo_le (jo_le (jo_at (jk_124_18)) (jo_at (jk_124_19))) (jo_at (jk_124_22))) (jo_le (jo_at (jk_124_23)) (jo_at (jk_124_26)))) (jo_le (jo_le (jo_at (jk_124_29)) (jo_at (jk_124_30))) (jo_le (jo_at (jk_124_33)) (jo_at (jk_124_34)))))) (jo_le (jo_le (jo_le (jo_le (jo_le (jo_at (jk_124_37)) (jo_at (jk_124_40))) (jo_at (jk_124_41))) (jo_le (jo_at (jk_124_42)) (jo_at (jk_124_43)))) (jo_le (jo_le (jo_le (jo_at (jk_124_46)) (jo_at (jk_124_47))) (jo_at (jk_124_48))) (jo_le (jo_at (jk_124_51)) (jo_at (jk_124_52))))) (jo_le (jo_le (jo_le (jo_le (jo_at (jk_124_53)) (jo_at (jk_124_56))) (jo_at (jk_124_57))) (jo_le (jo_at (jk_124_58)) (jo_at (jk_124_61)))) (jo_le (jo_le (jo_at (jk_124_63)) (jo_at (jk_124_64))) (jo_le (jo_at (jk_124_65)) (jo_at (jk_124_68))))))) (jo_le (jo_le (jo_le (jo_le (jo_le (jo_le (jo_at (jk_124_69)) (jo_at (jk_124_70))) (jo_at (jk_124_71))) (jo_le (jo_at (jk_124_74)) (jo_at (jk_124_77)))) (jo_le (jo_le (jo_le (jo_at (jk_124_79)) (jo_at (jk_124_80))) (jo_at (jk_124_81))) (jo_le (jo_at (jk_124_84)) (jo_at (jk_124_87))))) (jo_le (jo_le (jo_le (jo_le (jo_at (jk_124_89)) (jo_at (jk_124_90))) (jo_at (jk_124_91))) (jo_le (jo_at (jk_124_94)) (jo_at (jk_124_95)))) (jo_le (jo_le (jo_at (jk_124_98)) (jo_at (jk_124_101))) (jo_le (jo_at (jk_124_103)) (jo_at (jk_124_104)))))) (jo_le (jo_le (jo_le (jo_le (jo_le (jo_at (jk_124_105)) (jo_at (jk_124_108))) (jo_at (jk_124_111))) (jo_le (jo_at (jk_124_112)) (jo_at (jk_124_115)))) (jo_le (jo_le (jo_at (jk_124_118)) (jo_at (jk_124_120))) (jo_le (jo_at (jk_124_121)) (jo_at (jk_124_122))))) (jo_le (jo_le (jo_le (jo_le (jo_at (jk_124_125)) (jo_at (jk_124_126))) (jo_at (jk_124_129))) (jo_le (jo_at (jk_124_130)) (jo_at (jk_124_132)))) (jo_le (jo_le (jo_at (jk_124_135)) (jo_at (jk_124_137))) (jo_le (jo_at (jk_124_140)) (jo_at (jk_124_141)))))))
theorem ji_124 {l : Launch} {D : va_G} {cA : ClassId} {ρ : Nat → Nat} {Λ : List jx_Lc} {d : Nat} {Q : Option Value → jx_St → Prop} {σ : jx_St} {z0 : Nat} (h : jt_124 0 Λ jx_tb0 (jx_rn Λ jx_tb0 jt_124 (fun k' as σ K => jx_C l D cA ρ Λ d k' as σ K) Q (jx_J l D cA ρ Λ (jx_A ρ Λ) jx_tb0 (d + 1) 124 Q) [] 400) (fun k' as σ K => jx_C l D cA ρ Λ d k' as σ K) Q 0 [(0, .ref z0)] [] σ) : jx_C l D cA ρ Λ (d + 1) 124 [.ref z0] σ Q := jx_in jk_124 400 [] rfl (Nat.le_of_ble_eq_true rfl) h
/-! ScriptLedgerModel.context(I)I -/
theorem jd_125_0 : decode prog_10_method_38_code 0 = .ok (.iconst 0, 1) := by decide +kernel
theorem jd_125_1 : decode prog_10_method_38_code 1 = .ok (.istore_n 2, 1) := by decide +kernel
theorem jd_125_2 : decode prog_10_method_38_code 2 = .ok (.iconst 0, 1) := by decide +kernel
theorem jd_125_3 : decode prog_10_method_38_code 3 = .ok (.istore_n 3, 1) := by decide +kernel
theorem jd_125_4 : decode prog_10_method_38_code 4 = .ok (.iload_n 3, 1) := by decide +kernel
theorem jd_125_5 : decode prog_10_method_38_code 5 = .ok (.aload_n 0, 1) := by decide +kernel
theorem jd_125_6 : decode prog_10_method_38_code 6 = .ok (.getfield 204, 3) := by decide +kernel
theorem jd_125_9 : decode prog_10_method_38_code 9 = .ok (.if_icmp .ge 25, 3) := by decide +kernel
theorem jd_125_12 : decode prog_10_method_38_code 12 = .ok (.iload_n 2, 1) := by decide +kernel
theorem jd_125_13 : decode prog_10_method_38_code 13 = .ok (.aload_n 0, 1) := by decide +kernel
theorem jd_125_14 : decode prog_10_method_38_code 14 = .ok (.getfield 53, 3) := by decide +kernel
theorem jd_125_17 : decode prog_10_method_38_code 17 = .ok (.iconst 3, 1) := by decide +kernel
theorem jd_125_18 : decode prog_10_method_38_code 18 = .ok (.aload_n 0, 1) := by decide +kernel
theorem jd_125_19 : decode prog_10_method_38_code 19 = .ok (.getfield 71, 3) := by decide +kernel
theorem jd_125_22 : decode prog_10_method_38_code 22 = .ok (.iload_n 3, 1) := by decide +kernel
theorem jd_125_23 : decode prog_10_method_38_code 23 = .ok (.iaload, 1) := by decide +kernel
theorem jd_125_24 : decode prog_10_method_38_code 24 = .ok (.imul, 1) := by decide +kernel
theorem jd_125_25 : decode prog_10_method_38_code 25 = .ok (.iaload, 1) := by decide +kernel
theorem jd_125_26 : decode prog_10_method_38_code 26 = .ok (.iadd, 1) := by decide +kernel
theorem jd_125_27 : decode prog_10_method_38_code 27 = .ok (.istore_n 2, 1) := by decide +kernel
theorem jd_125_28 : decode prog_10_method_38_code 28 = .ok (.iinc 3 1, 3) := by decide +kernel
theorem jd_125_31 : decode prog_10_method_38_code 31 = .ok (.goto (-27), 3) := by decide +kernel
theorem jd_125_34 : decode prog_10_method_38_code 34 = .ok (.aload_n 0, 1) := by decide +kernel
theorem jd_125_35 : decode prog_10_method_38_code 35 = .ok (.iconst 2, 1) := by decide +kernel
theorem jd_125_36 : decode prog_10_method_38_code 36 = .ok (.iconst 0, 1) := by decide +kernel
theorem jd_125_37 : decode prog_10_method_38_code 37 = .ok (.iconst 0, 1) := by decide +kernel
theorem jd_125_38 : decode prog_10_method_38_code 38 = .ok (.iconst 0, 1) := by decide +kernel
theorem jd_125_39 : decode prog_10_method_38_code 39 = .ok (.iconst 0, 1) := by decide +kernel
theorem jd_125_40 : decode prog_10_method_38_code 40 = .ok (.invokevirtual 122, 3) := by decide +kernel
theorem jd_125_43 : decode prog_10_method_38_code 43 = .ok (.istore_n 3, 1) := by decide +kernel
theorem jd_125_44 : decode prog_10_method_38_code 44 = .ok (.aload_n 0, 1) := by decide +kernel
theorem jd_125_45 : decode prog_10_method_38_code 45 = .ok (.aload_n 0, 1) := by decide +kernel
theorem jd_125_46 : decode prog_10_method_38_code 46 = .ok (.iload_n 2, 1) := by decide +kernel
theorem jd_125_47 : decode prog_10_method_38_code 47 = .ok (.invokevirtual 156, 3) := by decide +kernel
theorem jd_125_50 : decode prog_10_method_38_code 50 = .ok (.iload_n 3, 1) := by decide +kernel
theorem jd_125_51 : decode prog_10_method_38_code 51 = .ok (.invokevirtual 183, 3) := by decide +kernel
theorem jd_125_54 : decode prog_10_method_38_code 54 = .ok (.istore_n 3, 1) := by decide +kernel
theorem jd_125_55 : decode prog_10_method_38_code 55 = .ok (.aload_n 0, 1) := by decide +kernel
theorem jd_125_56 : decode prog_10_method_38_code 56 = .ok (.aload_n 0, 1) := by decide +kernel
theorem jd_125_57 : decode prog_10_method_38_code 57 = .ok (.aload_n 0, 1) := by decide +kernel
theorem jd_125_58 : decode prog_10_method_38_code 58 = .ok (.getfield 86, 3) := by decide +kernel
theorem jd_125_61 : decode prog_10_method_38_code 61 = .ok (.iconst 2, 1) := by decide +kernel
theorem jd_125_62 : decode prog_10_method_38_code 62 = .ok (.iaload, 1) := by decide +kernel
theorem jd_125_63 : decode prog_10_method_38_code 63 = .ok (.invokevirtual 156, 3) := by decide +kernel
theorem jd_125_66 : decode prog_10_method_38_code 66 = .ok (.iload_n 3, 1) := by decide +kernel
theorem jd_125_67 : decode prog_10_method_38_code 67 = .ok (.invokevirtual 183, 3) := by decide +kernel
theorem jd_125_70 : decode prog_10_method_38_code 70 = .ok (.istore_n 3, 1) := by decide +kernel
theorem jd_125_71 : decode prog_10_method_38_code 71 = .ok (.aload_n 0, 1) := by decide +kernel
theorem jd_125_72 : decode prog_10_method_38_code 72 = .ok (.aload_n 0, 1) := by decide +kernel
theorem jd_125_73 : decode prog_10_method_38_code 73 = .ok (.aload_n 0, 1) := by decide +kernel
theorem jd_125_74 : decode prog_10_method_38_code 74 = .ok (.getfield 86, 3) := by decide +kernel
theorem jd_125_77 : decode prog_10_method_38_code 77 = .ok (.iconst 1, 1) := by decide +kernel
theorem jd_125_78 : decode prog_10_method_38_code 78 = .ok (.iaload, 1) := by decide +kernel
theorem jd_125_79 : decode prog_10_method_38_code 79 = .ok (.invokevirtual 156, 3) := by decide +kernel
theorem jd_125_82 : decode prog_10_method_38_code 82 = .ok (.iload_n 3, 1) := by decide +kernel
theorem jd_125_83 : decode prog_10_method_38_code 83 = .ok (.invokevirtual 183, 3) := by decide +kernel
theorem jd_125_86 : decode prog_10_method_38_code 86 = .ok (.istore_n 3, 1) := by decide +kernel
theorem jd_125_87 : decode prog_10_method_38_code 87 = .ok (.aload_n 0, 1) := by decide +kernel
theorem jd_125_88 : decode prog_10_method_38_code 88 = .ok (.aload_n 0, 1) := by decide +kernel
theorem jd_125_89 : decode prog_10_method_38_code 89 = .ok (.aload_n 0, 1) := by decide +kernel
theorem jd_125_90 : decode prog_10_method_38_code 90 = .ok (.getfield 207, 3) := by decide +kernel
theorem jd_125_93 : decode prog_10_method_38_code 93 = .ok (.invokevirtual 156, 3) := by decide +kernel
theorem jd_125_96 : decode prog_10_method_38_code 96 = .ok (.iload_n 3, 1) := by decide +kernel
theorem jd_125_97 : decode prog_10_method_38_code 97 = .ok (.invokevirtual 183, 3) := by decide +kernel
theorem jd_125_100 : decode prog_10_method_38_code 100 = .ok (.istore_n 3, 1) := by decide +kernel
theorem jd_125_101 : decode prog_10_method_38_code 101 = .ok (.aload_n 0, 1) := by decide +kernel
theorem jd_125_102 : decode prog_10_method_38_code 102 = .ok (.aload_n 0, 1) := by decide +kernel
theorem jd_125_103 : decode prog_10_method_38_code 103 = .ok (.aload_n 0, 1) := by decide +kernel
theorem jd_125_104 : decode prog_10_method_38_code 104 = .ok (.getfield 204, 3) := by decide +kernel
theorem jd_125_107 : decode prog_10_method_38_code 107 = .ok (.invokevirtual 156, 3) := by decide +kernel
theorem jd_125_110 : decode prog_10_method_38_code 110 = .ok (.iload_n 3, 1) := by decide +kernel
theorem jd_125_111 : decode prog_10_method_38_code 111 = .ok (.invokevirtual 183, 3) := by decide +kernel
theorem jd_125_114 : decode prog_10_method_38_code 114 = .ok (.istore_n 3, 1) := by decide +kernel
theorem jd_125_115 : decode prog_10_method_38_code 115 = .ok (.aload_n 0, 1) := by decide +kernel
theorem jd_125_116 : decode prog_10_method_38_code 116 = .ok (.aload_n 0, 1) := by decide +kernel
theorem jd_125_117 : decode prog_10_method_38_code 117 = .ok (.aload_n 0, 1) := by decide +kernel
theorem jd_125_118 : decode prog_10_method_38_code 118 = .ok (.getfield 216, 3) := by decide +kernel
theorem jd_125_121 : decode prog_10_method_38_code 121 = .ok (.invokevirtual 156, 3) := by decide +kernel
theorem jd_125_124 : decode prog_10_method_38_code 124 = .ok (.iload_n 3, 1) := by decide +kernel
theorem jd_125_125 : decode prog_10_method_38_code 125 = .ok (.invokevirtual 183, 3) := by decide +kernel
theorem jd_125_128 : decode prog_10_method_38_code 128 = .ok (.istore_n 3, 1) := by decide +kernel
theorem jd_125_129 : decode prog_10_method_38_code 129 = .ok (.aload_n 0, 1) := by decide +kernel
theorem jd_125_130 : decode prog_10_method_38_code 130 = .ok (.aload_n 0, 1) := by decide +kernel
theorem jd_125_131 : decode prog_10_method_38_code 131 = .ok (.aload_n 0, 1) := by decide +kernel
theorem jd_125_132 : decode prog_10_method_38_code 132 = .ok (.getfield 210, 3) := by decide +kernel
theorem jd_125_135 : decode prog_10_method_38_code 135 = .ok (.invokevirtual 156, 3) := by decide +kernel
theorem jd_125_138 : decode prog_10_method_38_code 138 = .ok (.iload_n 3, 1) := by decide +kernel
theorem jd_125_139 : decode prog_10_method_38_code 139 = .ok (.invokevirtual 183, 3) := by decide +kernel
theorem jd_125_142 : decode prog_10_method_38_code 142 = .ok (.istore_n 3, 1) := by decide +kernel
theorem jd_125_143 : decode prog_10_method_38_code 143 = .ok (.aload_n 0, 1) := by decide +kernel
theorem jd_125_144 : decode prog_10_method_38_code 144 = .ok (.aload_n 0, 1) := by decide +kernel
theorem jd_125_145 : decode prog_10_method_38_code 145 = .ok (.aload_n 0, 1) := by decide +kernel
theorem jd_125_146 : decode prog_10_method_38_code 146 = .ok (.getfield 92, 3) := by decide +kernel
theorem jd_125_149 : decode prog_10_method_38_code 149 = .ok (.invokevirtual 156, 3) := by decide +kernel
theorem jd_125_152 : decode prog_10_method_38_code 152 = .ok (.iload_n 3, 1) := by decide +kernel
theorem jd_125_153 : decode prog_10_method_38_code 153 = .ok (.invokevirtual 183, 3) := by decide +kernel
theorem jd_125_156 : decode prog_10_method_38_code 156 = .ok (.istore_n 3, 1) := by decide +kernel
theorem jd_125_157 : decode prog_10_method_38_code 157 = .ok (.aload_n 0, 1) := by decide +kernel
theorem jd_125_158 : decode prog_10_method_38_code 158 = .ok (.aload_n 0, 1) := by decide +kernel
theorem jd_125_159 : decode prog_10_method_38_code 159 = .ok (.aload_n 0, 1) := by decide +kernel
theorem jd_125_160 : decode prog_10_method_38_code 160 = .ok (.getfield 213, 3) := by decide +kernel
theorem jd_125_163 : decode prog_10_method_38_code 163 = .ok (.invokevirtual 156, 3) := by decide +kernel
theorem jd_125_166 : decode prog_10_method_38_code 166 = .ok (.iload_n 3, 1) := by decide +kernel
theorem jd_125_167 : decode prog_10_method_38_code 167 = .ok (.invokevirtual 183, 3) := by decide +kernel
theorem jd_125_170 : decode prog_10_method_38_code 170 = .ok (.istore_n 3, 1) := by decide +kernel
theorem jd_125_171 : decode prog_10_method_38_code 171 = .ok (.aload_n 0, 1) := by decide +kernel
theorem jd_125_172 : decode prog_10_method_38_code 172 = .ok (.aload_n 0, 1) := by decide +kernel
theorem jd_125_173 : decode prog_10_method_38_code 173 = .ok (.iload_n 1, 1) := by decide +kernel
theorem jd_125_174 : decode prog_10_method_38_code 174 = .ok (.invokevirtual 156, 3) := by decide +kernel
theorem jd_125_177 : decode prog_10_method_38_code 177 = .ok (.iload_n 3, 1) := by decide +kernel
theorem jd_125_178 : decode prog_10_method_38_code 178 = .ok (.invokevirtual 183, 3) := by decide +kernel
theorem jd_125_181 : decode prog_10_method_38_code 181 = .ok (.ireturn, 1) := by decide +kernel
def jt_125 (pc : Nat) : jx_Sp := bif Nat.ble pc 83 then (bif Nat.ble pc 39 then (bif Nat.ble pc 19 then (bif Nat.ble pc 6 then (bif Nat.ble pc 3 then (bif Nat.ble pc 1 then (bif Nat.ble pc 0 then (bif Nat.beq pc 0 then js_c 0 1 else js_none) else (bif Nat.beq pc 1 then js_is 2 1 else js_none)) else (bif Nat.ble pc 2 then (bif Nat.beq pc 2 then js_c 0 1 else js_none) else (bif Nat.beq pc 3 then js_is 3 1 else js_none))) else (bif Nat.ble pc 5 then (bif Nat.ble pc 4 then (bif Nat.beq pc 4 then js_il 3 1 else js_none) else (bif Nat.beq pc 5 then js_al 0 1 else js_none)) else (bif Nat.beq pc 6 then js_getf 8 33 else js_none))) else (bif Nat.ble pc 14 then (bif Nat.ble pc 12 then (bif Nat.ble pc 9 then (bif Nat.beq pc 9 then js_cge 34 else js_none) else (bif Nat.beq pc 12 then js_il 2 1 else js_none)) else (bif Nat.ble pc 13 then (bif Nat.beq pc 13 then js_al 0 1 else js_none) else (bif Nat.beq pc 14 then js_getf 8 26 else js_none))) else (bif Nat.ble pc 18 then (bif Nat.ble pc 17 then (bif Nat.beq pc 17 then js_c 3 1 else js_none) else (bif Nat.beq pc 18 then js_al 0 1 else js_none)) else (bif Nat.beq pc 19 then js_getf 8 34 else js_none)))) else (bif Nat.ble pc 28 then (bif Nat.ble pc 25 then (bif Nat.ble pc 23 then (bif Nat.ble pc 22 then (bif Nat.beq pc 22 then js_il 3 1 else js_none) else (bif Nat.beq pc 23 then js_ald else js_none)) else (bif Nat.ble pc 24 then (bif Nat.beq pc 24 then js_imul else js_none) else (bif Nat.beq pc 25 then js_ald else js_none))) else (bif Nat.ble pc 27 then (bif Nat.ble pc 26 then (bif Nat.beq pc 26 then js_iadd else js_none) else (bif Nat.beq pc 27 then js_is 2 1 else js_none)) else (bif Nat.beq pc 28 then js_inc 3 1 else js_none))) else (bif Nat.ble pc 36 then (bif Nat.ble pc 34 then (bif Nat.ble pc 31 then (bif Nat.beq pc 31 then js_go 4 else js_none) else (bif Nat.beq pc 34 then js_al 0 1 else js_none)) else (bif Nat.ble pc 35 then (bif Nat.beq pc 35 then js_c 2 1 else js_none) else (bif Nat.beq pc 36 then js_c 0 1 else js_none))) else (bif Nat.ble pc 38 then (bif Nat.ble pc 37 then (bif Nat.beq pc 37 then js_c 0 1 else js_none) else (bif Nat.beq pc 38 then js_c 0 1 else js_none)) else (bif Nat.beq pc 39 then js_c 0 1 else js_none))))) else (bif Nat.ble pc 61 then (bif Nat.ble pc 50 then (bif Nat.ble pc 45 then (bif Nat.ble pc 43 then (bif Nat.ble pc 40 then (bif Nat.beq pc 40 then js_v5 8 94 else js_none) else (bif Nat.beq pc 43 then js_is 3 1 else js_none)) else (bif Nat.ble pc 44 then (bif Nat.beq pc 44 then js_al 0 1 else js_none) else (bif Nat.beq pc 45 then js_al 0 1 else js_none))) else (bif Nat.ble pc 47 then (bif Nat.ble pc 46 then (bif Nat.beq pc 46 then js_il 2 1 else js_none) else (bif Nat.beq pc 47 then js_v1 8 95 else js_none)) else (bif Nat.beq pc 50 then js_il 3 1 else js_none))) else (bif Nat.ble pc 56 then (bif Nat.ble pc 54 then (bif Nat.ble pc 51 then (bif Nat.beq pc 51 then js_v2 8 96 else js_none) else (bif Nat.beq pc 54 then js_is 3 1 else js_none)) else (bif Nat.ble pc 55 then (bif Nat.beq pc 55 then js_al 0 1 else js_none) else (bif Nat.beq pc 56 then js_al 0 1 else js_none))) else (bif Nat.ble pc 58 then (bif Nat.ble pc 57 then (bif Nat.beq pc 57 then js_al 0 1 else js_none) else (bif Nat.beq pc 58 then js_getf 8 40 else js_none)) else (bif Nat.beq pc 61 then js_c 2 1 else js_none)))) else (bif Nat.ble pc 72 then (bif Nat.ble pc 67 then (bif Nat.ble pc 63 then (bif Nat.ble pc 62 then (bif Nat.beq pc 62 then js_ald else js_none) else (bif Nat.beq pc 63 then js_v1 8 95 else js_none)) else (bif Nat.ble pc 66 then (bif Nat.beq pc 66 then js_il 3 1 else js_none) else (bif Nat.beq pc 67 then js_v2 8 96 else js_none))) else (bif Nat.ble pc 71 then (bif Nat.ble pc 70 then (bif Nat.beq pc 70 then js_is 3 1 else js_none) else (bif Nat.beq pc 71 then js_al 0 1 else js_none)) else (bif Nat.beq pc 72 then js_al 0 1 else js_none))) else (bif Nat.ble pc 78 then (bif Nat.ble pc 74 then (bif Nat.ble pc 73 then (bif Nat.beq pc 73 then js_al 0 1 else js_none) else (bif Nat.beq pc 74 then js_getf 8 40 else js_none)) else (bif Nat.ble pc 77 then (bif Nat.beq pc 77 then js_c 1 1 else js_none) else (bif Nat.beq pc 78 then js_ald else js_none))) else (bif Nat.ble pc 82 then (bif Nat.ble pc 79 then (bif Nat.beq pc 79 then js_v1 8 95 else js_none) else (bif Nat.beq pc 82 then js_il 3 1 else js_none)) else (bif Nat.beq pc 83 then js_v2 8 96 else js_none)))))) else (bif Nat.ble pc 131 then (bif Nat.ble pc 107 then (bif Nat.ble pc 96 then (bif Nat.ble pc 89 then (bif Nat.ble pc 87 then (bif Nat.ble pc 86 then (bif Nat.beq pc 86 then js_is 3 1 else js_none) else (bif Nat.beq pc 87 then js_al 0 1 else js_none)) else (bif Nat.ble pc 88 then (bif Nat.beq pc 88 then js_al 0 1 else js_none) else (bif Nat.beq pc 89 then js_al 0 1 else js_none))) else (bif Nat.ble pc 93 then (bif Nat.ble pc 90 then (bif Nat.beq pc 90 then js_getf 8 36 else js_none) else (bif Nat.beq pc 93 then js_v1 8 95 else js_none)) else (bif Nat.beq pc 96 then js_il 3 1 else js_none))) else (bif Nat.ble pc 102 then (bif Nat.ble pc 100 then (bif Nat.ble pc 97 then (bif Nat.beq pc 97 then js_v2 8 96 else js_none) else (bif Nat.beq pc 100 then js_is 3 1 else js_none)) else (bif Nat.ble pc 101 then (bif Nat.beq pc 101 then js_al 0 1 else js_none) else (bif Nat.beq pc 102 then js_al 0 1 else js_none))) else (bif Nat.ble pc 104 then (bif Nat.ble pc 103 then (bif Nat.beq pc 103 then js_al 0 1 else js_none) else (bif Nat.beq pc 104 then js_getf 8 33 else js_none)) else (bif Nat.beq pc 107 then js_v1 8 95 else js_none)))) else (bif Nat.ble pc 118 then (bif Nat.ble pc 115 then (bif Nat.ble pc 111 then (bif Nat.ble pc 110 then (bif Nat.beq pc 110 then js_il 3 1 else js_none) else (bif Nat.beq pc 111 then js_v2 8 96 else js_none)) else (bif Nat.ble pc 114 then (bif Nat.beq pc 114 then js_is 3 1 else js_none) else (bif Nat.beq pc 115 then js_al 0 1 else js_none))) else (bif Nat.ble pc 117 then (bif Nat.ble pc 116 then (bif Nat.beq pc 116 then js_al 0 1 else js_none) else (bif Nat.beq pc 117 then js_al 0 1 else js_none)) else (bif Nat.beq pc 118 then js_getf 8 45 else js_none))) else (bif Nat.ble pc 128 then (bif Nat.ble pc 124 then (bif Nat.ble pc 121 then (bif Nat.beq pc 121 then js_v1 8 95 else js_none) else (bif Nat.beq pc 124 then js_il 3 1 else js_none)) else (bif Nat.ble pc 125 then (bif Nat.beq pc 125 then js_v2 8 96 else js_none) else (bif Nat.beq pc 128 then js_is 3 1 else js_none))) else (bif Nat.ble pc 130 then (bif Nat.ble pc 129 then (bif Nat.beq pc 129 then js_al 0 1 else js_none) else (bif Nat.beq pc 130 then js_al 0 1 else js_none)) else (bif Nat.beq pc 131 then js_al 0 1 else js_none))))) else (bif Nat.ble pc 157 then (bif Nat.ble pc 144 then (bif Nat.ble pc 139 then (bif Nat.ble pc 135 then (bif Nat.ble pc 132 then (bif Nat.beq pc 132 then js_getf 8 42 else js_none) else (bif Nat.beq pc 135 then js_v1 8 95 else js_none)) else (bif Nat.ble pc 138 then (bif Nat.beq pc 138 then js_il 3 1 else js_none) else (bif Nat.beq pc 139 then js_v2 8 96 else js_none))) else (bif Nat.ble pc 143 then (bif Nat.ble pc 142 then (bif Nat.beq pc 142 then js_is 3 1 else js_none) else (bif Nat.beq pc 143 then js_al 0 1 else js_none)) else (bif Nat.beq pc 144 then js_al 0 1 else js_none))) else (bif Nat.ble pc 152 then (bif Nat.ble pc 146 then (bif Nat.ble pc 145 then (bif Nat.beq pc 145 then js_al 0 1 else js_none) else (bif Nat.beq pc 146 then js_getf 8 44 else js_none)) else (bif Nat.ble pc 149 then (bif Nat.beq pc 149 then js_v1 8 95 else js_none) else (bif Nat.beq pc 152 then js_il 3 1 else js_none))) else (bif Nat.ble pc 156 then (bif Nat.ble pc 153 then (bif Nat.beq pc 153 then js_v2 8 96 else js_none) else (bif Nat.beq pc 156 then js_is 3 1 else js_none)) else (bif Nat.beq pc 157 then js_al 0 1 else js_none)))) else (bif Nat.ble pc 170 then (bif Nat.ble pc 163 then (bif Nat.ble pc 159 then (bif Nat.ble pc 158 then (bif Nat.beq pc 158 then js_al 0 1 else js_none) else (bif Nat.beq pc 159 then js_al 0 1 else js_none)) else (bif Nat.ble pc 160 then (bif Nat.beq pc 160 then js_getf 8 43 else js_none) else (bif Nat.beq pc 163 then js_v1 8 95 else js_none))) else (bif Nat.ble pc 167 then (bif Nat.ble pc 166 then (bif Nat.beq pc 166 then js_il 3 1 else js_none) else (bif Nat.beq pc 167 then js_v2 8 96 else js_none)) else (bif Nat.beq pc 170 then js_is 3 1 else js_none))) else (bif Nat.ble pc 174 then (bif Nat.ble pc 172 then (bif Nat.ble pc 171 then (bif Nat.beq pc 171 then js_al 0 1 else js_none) else (bif Nat.beq pc 172 then js_al 0 1 else js_none)) else (bif Nat.ble pc 173 then (bif Nat.beq pc 173 then js_il 1 1 else js_none) else (bif Nat.beq pc 174 then js_v1 8 95 else js_none))) else (bif Nat.ble pc 178 then (bif Nat.ble pc 177 then (bif Nat.beq pc 177 then js_il 3 1 else js_none) else (bif Nat.beq pc 178 then js_v2 8 96 else js_none)) else (bif Nat.beq pc 181 then js_ir else js_none))))))
theorem jk_125_0 : jx_Snd 125 0 (js_c 0 1) := jo_iconst (z := 0) jd_125_0 rfl
theorem jk_125_1 : jx_Snd 125 1 (js_is 2 1) := jo_istore_n (i := 2) (w := 2) rfl (Nat.le_of_ble_eq_true rfl) jd_125_1
theorem jk_125_2 : jx_Snd 125 2 (js_c 0 1) := jo_iconst (z := 0) jd_125_2 rfl
theorem jk_125_3 : jx_Snd 125 3 (js_is 3 1) := jo_istore_n (i := 3) (w := 3) rfl (Nat.le_of_ble_eq_true rfl) jd_125_3
theorem jk_125_4 : jx_Snd 125 4 (js_il 3 1) := jo_iload_n (i := 3) (w := 3) rfl jd_125_4
theorem jk_125_5 : jx_Snd 125 5 (js_al 0 1) := jo_aload_n (i := 0) (w := 0) rfl jd_125_5
theorem jk_125_6 : jx_Snd 125 6 (js_getf 8 33) := jo_getf rfl jf_8_204 jd_125_6
theorem jk_125_9 : jx_Snd 125 9 (js_cge 34) := jo_cge (o := 25) rfl jd_125_9
theorem jk_125_12 : jx_Snd 125 12 (js_il 2 1) := jo_iload_n (i := 2) (w := 2) rfl jd_125_12
theorem jk_125_13 : jx_Snd 125 13 (js_al 0 1) := jo_aload_n (i := 0) (w := 0) rfl jd_125_13
theorem jk_125_14 : jx_Snd 125 14 (js_getf 8 26) := jo_getf rfl jf_8_53 jd_125_14
theorem jk_125_17 : jx_Snd 125 17 (js_c 3 1) := jo_iconst (z := 3) jd_125_17 rfl
theorem jk_125_18 : jx_Snd 125 18 (js_al 0 1) := jo_aload_n (i := 0) (w := 0) rfl jd_125_18
theorem jk_125_19 : jx_Snd 125 19 (js_getf 8 34) := jo_getf rfl jf_8_71 jd_125_19
theorem jk_125_22 : jx_Snd 125 22 (js_il 3 1) := jo_iload_n (i := 3) (w := 3) rfl jd_125_22
theorem jk_125_23 : jx_Snd 125 23 (js_ald) := jo_ald jd_125_23
theorem jk_125_24 : jx_Snd 125 24 (js_imul) := jo_imul jd_125_24
theorem jk_125_25 : jx_Snd 125 25 (js_ald) := jo_ald jd_125_25
theorem jk_125_26 : jx_Snd 125 26 (js_iadd) := jo_iadd jd_125_26
theorem jk_125_27 : jx_Snd 125 27 (js_is 2 1) := jo_istore_n (i := 2) (w := 2) rfl (Nat.le_of_ble_eq_true rfl) jd_125_27
theorem jk_125_28 : jx_Snd 125 28 (js_inc 3 1) := jo_iinc (w := 1) rfl (Nat.le_of_ble_eq_true rfl) jd_125_28
theorem jk_125_31 : jx_Snd 125 31 (js_go 4) := jo_goto (o := (-27)) rfl jd_125_31
theorem jk_125_34 : jx_Snd 125 34 (js_al 0 1) := jo_aload_n (i := 0) (w := 0) rfl jd_125_34
theorem jk_125_35 : jx_Snd 125 35 (js_c 2 1) := jo_iconst (z := 2) jd_125_35 rfl
theorem jk_125_36 : jx_Snd 125 36 (js_c 0 1) := jo_iconst (z := 0) jd_125_36 rfl
theorem jk_125_37 : jx_Snd 125 37 (js_c 0 1) := jo_iconst (z := 0) jd_125_37 rfl
theorem jk_125_38 : jx_Snd 125 38 (js_c 0 1) := jo_iconst (z := 0) jd_125_38 rfl
theorem jk_125_39 : jx_Snd 125 39 (js_c 0 1) := jo_iconst (z := 0) jd_125_39 rfl
theorem jk_125_40 : jx_Snd 125 40 (js_v5 8 94) := jo_v5 rfl jok_94 (Or.inl jw_538) jw_539 jw_716 rfl jd_125_40
theorem jk_125_43 : jx_Snd 125 43 (js_is 3 1) := jo_istore_n (i := 3) (w := 3) rfl (Nat.le_of_ble_eq_true rfl) jd_125_43
theorem jk_125_44 : jx_Snd 125 44 (js_al 0 1) := jo_aload_n (i := 0) (w := 0) rfl jd_125_44
theorem jk_125_45 : jx_Snd 125 45 (js_al 0 1) := jo_aload_n (i := 0) (w := 0) rfl jd_125_45
theorem jk_125_46 : jx_Snd 125 46 (js_il 2 1) := jo_iload_n (i := 2) (w := 2) rfl jd_125_46
theorem jk_125_47 : jx_Snd 125 47 (js_v1 8 95) := jo_v1 rfl jok_95 (Or.inl jw_535) jw_536 jw_715 rfl jd_125_47
theorem jk_125_50 : jx_Snd 125 50 (js_il 3 1) := jo_iload_n (i := 3) (w := 3) rfl jd_125_50
theorem jk_125_51 : jx_Snd 125 51 (js_v2 8 96) := jo_v2 rfl jok_96 (Or.inl jw_577) jw_578 jw_728 rfl jd_125_51
theorem jk_125_54 : jx_Snd 125 54 (js_is 3 1) := jo_istore_n (i := 3) (w := 3) rfl (Nat.le_of_ble_eq_true rfl) jd_125_54
theorem jk_125_55 : jx_Snd 125 55 (js_al 0 1) := jo_aload_n (i := 0) (w := 0) rfl jd_125_55
theorem jk_125_56 : jx_Snd 125 56 (js_al 0 1) := jo_aload_n (i := 0) (w := 0) rfl jd_125_56
theorem jk_125_57 : jx_Snd 125 57 (js_al 0 1) := jo_aload_n (i := 0) (w := 0) rfl jd_125_57
theorem jk_125_58 : jx_Snd 125 58 (js_getf 8 40) := jo_getf rfl jf_8_86 jd_125_58
theorem jk_125_61 : jx_Snd 125 61 (js_c 2 1) := jo_iconst (z := 2) jd_125_61 rfl
theorem jk_125_62 : jx_Snd 125 62 (js_ald) := jo_ald jd_125_62
theorem jk_125_63 : jx_Snd 125 63 (js_v1 8 95) := jo_v1 rfl jok_95 (Or.inl jw_535) jw_536 jw_715 rfl jd_125_63
theorem jk_125_66 : jx_Snd 125 66 (js_il 3 1) := jo_iload_n (i := 3) (w := 3) rfl jd_125_66
theorem jk_125_67 : jx_Snd 125 67 (js_v2 8 96) := jo_v2 rfl jok_96 (Or.inl jw_577) jw_578 jw_728 rfl jd_125_67
theorem jk_125_70 : jx_Snd 125 70 (js_is 3 1) := jo_istore_n (i := 3) (w := 3) rfl (Nat.le_of_ble_eq_true rfl) jd_125_70
theorem jk_125_71 : jx_Snd 125 71 (js_al 0 1) := jo_aload_n (i := 0) (w := 0) rfl jd_125_71
theorem jk_125_72 : jx_Snd 125 72 (js_al 0 1) := jo_aload_n (i := 0) (w := 0) rfl jd_125_72
theorem jk_125_73 : jx_Snd 125 73 (js_al 0 1) := jo_aload_n (i := 0) (w := 0) rfl jd_125_73
theorem jk_125_74 : jx_Snd 125 74 (js_getf 8 40) := jo_getf rfl jf_8_86 jd_125_74
theorem jk_125_77 : jx_Snd 125 77 (js_c 1 1) := jo_iconst (z := 1) jd_125_77 rfl
theorem jk_125_78 : jx_Snd 125 78 (js_ald) := jo_ald jd_125_78
theorem jk_125_79 : jx_Snd 125 79 (js_v1 8 95) := jo_v1 rfl jok_95 (Or.inl jw_535) jw_536 jw_715 rfl jd_125_79
theorem jk_125_82 : jx_Snd 125 82 (js_il 3 1) := jo_iload_n (i := 3) (w := 3) rfl jd_125_82
theorem jk_125_83 : jx_Snd 125 83 (js_v2 8 96) := jo_v2 rfl jok_96 (Or.inl jw_577) jw_578 jw_728 rfl jd_125_83
theorem jk_125_86 : jx_Snd 125 86 (js_is 3 1) := jo_istore_n (i := 3) (w := 3) rfl (Nat.le_of_ble_eq_true rfl) jd_125_86
theorem jk_125_87 : jx_Snd 125 87 (js_al 0 1) := jo_aload_n (i := 0) (w := 0) rfl jd_125_87
theorem jk_125_88 : jx_Snd 125 88 (js_al 0 1) := jo_aload_n (i := 0) (w := 0) rfl jd_125_88
theorem jk_125_89 : jx_Snd 125 89 (js_al 0 1) := jo_aload_n (i := 0) (w := 0) rfl jd_125_89
theorem jk_125_90 : jx_Snd 125 90 (js_getf 8 36) := jo_getf rfl jf_8_207 jd_125_90
theorem jk_125_93 : jx_Snd 125 93 (js_v1 8 95) := jo_v1 rfl jok_95 (Or.inl jw_535) jw_536 jw_715 rfl jd_125_93
theorem jk_125_96 : jx_Snd 125 96 (js_il 3 1) := jo_iload_n (i := 3) (w := 3) rfl jd_125_96
theorem jk_125_97 : jx_Snd 125 97 (js_v2 8 96) := jo_v2 rfl jok_96 (Or.inl jw_577) jw_578 jw_728 rfl jd_125_97
theorem jk_125_100 : jx_Snd 125 100 (js_is 3 1) := jo_istore_n (i := 3) (w := 3) rfl (Nat.le_of_ble_eq_true rfl) jd_125_100
theorem jk_125_101 : jx_Snd 125 101 (js_al 0 1) := jo_aload_n (i := 0) (w := 0) rfl jd_125_101
theorem jk_125_102 : jx_Snd 125 102 (js_al 0 1) := jo_aload_n (i := 0) (w := 0) rfl jd_125_102
theorem jk_125_103 : jx_Snd 125 103 (js_al 0 1) := jo_aload_n (i := 0) (w := 0) rfl jd_125_103
theorem jk_125_104 : jx_Snd 125 104 (js_getf 8 33) := jo_getf rfl jf_8_204 jd_125_104
theorem jk_125_107 : jx_Snd 125 107 (js_v1 8 95) := jo_v1 rfl jok_95 (Or.inl jw_535) jw_536 jw_715 rfl jd_125_107
theorem jk_125_110 : jx_Snd 125 110 (js_il 3 1) := jo_iload_n (i := 3) (w := 3) rfl jd_125_110
theorem jk_125_111 : jx_Snd 125 111 (js_v2 8 96) := jo_v2 rfl jok_96 (Or.inl jw_577) jw_578 jw_728 rfl jd_125_111
theorem jk_125_114 : jx_Snd 125 114 (js_is 3 1) := jo_istore_n (i := 3) (w := 3) rfl (Nat.le_of_ble_eq_true rfl) jd_125_114
theorem jk_125_115 : jx_Snd 125 115 (js_al 0 1) := jo_aload_n (i := 0) (w := 0) rfl jd_125_115
theorem jk_125_116 : jx_Snd 125 116 (js_al 0 1) := jo_aload_n (i := 0) (w := 0) rfl jd_125_116
theorem jk_125_117 : jx_Snd 125 117 (js_al 0 1) := jo_aload_n (i := 0) (w := 0) rfl jd_125_117
theorem jk_125_118 : jx_Snd 125 118 (js_getf 8 45) := jo_getf rfl jf_8_216 jd_125_118
theorem jk_125_121 : jx_Snd 125 121 (js_v1 8 95) := jo_v1 rfl jok_95 (Or.inl jw_535) jw_536 jw_715 rfl jd_125_121
theorem jk_125_124 : jx_Snd 125 124 (js_il 3 1) := jo_iload_n (i := 3) (w := 3) rfl jd_125_124
theorem jk_125_125 : jx_Snd 125 125 (js_v2 8 96) := jo_v2 rfl jok_96 (Or.inl jw_577) jw_578 jw_728 rfl jd_125_125
theorem jk_125_128 : jx_Snd 125 128 (js_is 3 1) := jo_istore_n (i := 3) (w := 3) rfl (Nat.le_of_ble_eq_true rfl) jd_125_128
theorem jk_125_129 : jx_Snd 125 129 (js_al 0 1) := jo_aload_n (i := 0) (w := 0) rfl jd_125_129
theorem jk_125_130 : jx_Snd 125 130 (js_al 0 1) := jo_aload_n (i := 0) (w := 0) rfl jd_125_130
theorem jk_125_131 : jx_Snd 125 131 (js_al 0 1) := jo_aload_n (i := 0) (w := 0) rfl jd_125_131
theorem jk_125_132 : jx_Snd 125 132 (js_getf 8 42) := jo_getf rfl jf_8_210 jd_125_132
theorem jk_125_135 : jx_Snd 125 135 (js_v1 8 95) := jo_v1 rfl jok_95 (Or.inl jw_535) jw_536 jw_715 rfl jd_125_135
theorem jk_125_138 : jx_Snd 125 138 (js_il 3 1) := jo_iload_n (i := 3) (w := 3) rfl jd_125_138
theorem jk_125_139 : jx_Snd 125 139 (js_v2 8 96) := jo_v2 rfl jok_96 (Or.inl jw_577) jw_578 jw_728 rfl jd_125_139
theorem jk_125_142 : jx_Snd 125 142 (js_is 3 1) := jo_istore_n (i := 3) (w := 3) rfl (Nat.le_of_ble_eq_true rfl) jd_125_142
theorem jk_125_143 : jx_Snd 125 143 (js_al 0 1) := jo_aload_n (i := 0) (w := 0) rfl jd_125_143
theorem jk_125_144 : jx_Snd 125 144 (js_al 0 1) := jo_aload_n (i := 0) (w := 0) rfl jd_125_144
theorem jk_125_145 : jx_Snd 125 145 (js_al 0 1) := jo_aload_n (i := 0) (w := 0) rfl jd_125_145
theorem jk_125_146 : jx_Snd 125 146 (js_getf 8 44) := jo_getf rfl jf_8_92 jd_125_146
theorem jk_125_149 : jx_Snd 125 149 (js_v1 8 95) := jo_v1 rfl jok_95 (Or.inl jw_535) jw_536 jw_715 rfl jd_125_149
theorem jk_125_152 : jx_Snd 125 152 (js_il 3 1) := jo_iload_n (i := 3) (w := 3) rfl jd_125_152
theorem jk_125_153 : jx_Snd 125 153 (js_v2 8 96) := jo_v2 rfl jok_96 (Or.inl jw_577) jw_578 jw_728 rfl jd_125_153
theorem jk_125_156 : jx_Snd 125 156 (js_is 3 1) := jo_istore_n (i := 3) (w := 3) rfl (Nat.le_of_ble_eq_true rfl) jd_125_156
theorem jk_125_157 : jx_Snd 125 157 (js_al 0 1) := jo_aload_n (i := 0) (w := 0) rfl jd_125_157
theorem jk_125_158 : jx_Snd 125 158 (js_al 0 1) := jo_aload_n (i := 0) (w := 0) rfl jd_125_158
theorem jk_125_159 : jx_Snd 125 159 (js_al 0 1) := jo_aload_n (i := 0) (w := 0) rfl jd_125_159
theorem jk_125_160 : jx_Snd 125 160 (js_getf 8 43) := jo_getf rfl jf_8_213 jd_125_160
theorem jk_125_163 : jx_Snd 125 163 (js_v1 8 95) := jo_v1 rfl jok_95 (Or.inl jw_535) jw_536 jw_715 rfl jd_125_163
theorem jk_125_166 : jx_Snd 125 166 (js_il 3 1) := jo_iload_n (i := 3) (w := 3) rfl jd_125_166
theorem jk_125_167 : jx_Snd 125 167 (js_v2 8 96) := jo_v2 rfl jok_96 (Or.inl jw_577) jw_578 jw_728 rfl jd_125_167
theorem jk_125_170 : jx_Snd 125 170 (js_is 3 1) := jo_istore_n (i := 3) (w := 3) rfl (Nat.le_of_ble_eq_true rfl) jd_125_170
theorem jk_125_171 : jx_Snd 125 171 (js_al 0 1) := jo_aload_n (i := 0) (w := 0) rfl jd_125_171
theorem jk_125_172 : jx_Snd 125 172 (js_al 0 1) := jo_aload_n (i := 0) (w := 0) rfl jd_125_172
theorem jk_125_173 : jx_Snd 125 173 (js_il 1 1) := jo_iload_n (i := 1) (w := 1) rfl jd_125_173
theorem jk_125_174 : jx_Snd 125 174 (js_v1 8 95) := jo_v1 rfl jok_95 (Or.inl jw_535) jw_536 jw_715 rfl jd_125_174
theorem jk_125_177 : jx_Snd 125 177 (js_il 3 1) := jo_iload_n (i := 3) (w := 3) rfl jd_125_177
theorem jk_125_178 : jx_Snd 125 178 (js_v2 8 96) := jo_v2 rfl jok_96 (Or.inl jw_577) jw_578 jw_728 rfl jd_125_178
theorem jk_125_181 : jx_Snd 125 181 (js_ir) := jo_ir rfl jd_125_181
theorem jk_125 : jx_So 125 jt_125 := fun pc => jo_le (jo_le (jo_le (jo_le (jo_le (jo_le (jo_le (jo_at (jk_125_0)) (jo_at (jk_125_1))) (jo_le (jo_at (jk_125_2)) (jo_at (jk_125_3)))) (jo_le (jo_le (jo_at (jk_125_4)) (jo_at (jk_125_5))) (jo_at (jk_125_6)))) (jo_le (jo_le (jo_le (jo_at (jk_125_9)) (jo_at (jk_125_12))) (jo_le (jo_at (jk_125_13)) (jo_at (jk_125_14)))) (jo_le (jo_le (jo_at (jk_125_17)) (jo_at (jk_125_18))) (jo_at (jk_125_19))))) (jo_le (jo_le (jo_le (jo_le (jo_at (jk_125_22)) (jo_at (jk_125_23))) (jo_le (jo_at (jk_125_24)) (jo_at (jk_125_25)))) (jo_le (jo_le (jo_at (jk_125_26)) (jo_at (jk_125_27))) (jo_at (jk_125_28)))) (jo_le (jo_le (jo_le (jo_at (jk_125_31)) (jo_at (jk_125_34))) (jo_le (jo_at (jk_125_35)) (jo_at (jk_125_36)))) (jo_le (jo_le (jo_at (jk_125_37)) (jo_at (jk_125_38))) (jo_at (jk_125_39)))))) (jo_le (jo_le (jo_le (jo_le (jo_le (jo_at (jk_125_40)) (jo_at (jk_125_43))) (jo_le (jo_at (jk_125_44)) (jo_at (jk_125_45)))) (jo_le (jo_le (jo_at (jk_125_46)) (jo_at (jk_125_47))) (jo_at (jk_125_50)))) (jo_le (jo_le (jo_le (jo_at (jk_125_51)) (jo_at (jk_125_54))) (jo_le (jo_at (jk_125_55)) (jo_at (jk_125_56)))) (jo_le (jo_le (jo_at (jk_125_57)) (jo_at (jk_125_58))) (jo_at (jk_125_61))))) (jo_le (jo_le (jo_le (jo_le (jo_at (jk_125_62)) (jo_at (jk_125_63))) (jo_le (jo_at (jk_125_66)) (jo_at (jk_125_67)))) (jo_le (jo_le (jo_at (jk_125_70)) (jo_at (jk_125_71))) (jo_at (jk_125_72)))) (jo_le (jo_le (jo_le (jo_at (jk_125_73)) (jo_at (jk_125_74))) (jo_le (jo_at (jk_125_77)) (jo_at (jk_125_78)))) (jo_le (jo_le (jo_at (jk_125_79)) (jo_at (jk_125_82))) (jo_at (jk_125_83))))))) (jo_le (jo_le (jo_le (jo_le (jo_le (jo_le (jo_at (jk_125_86)) (jo_at (jk_125_87))) (jo_le (jo_at (jk_125_88)) (jo_at (jk_125_89)))) (jo_le (jo_le (jo_at (jk_125_90)) (jo_at (jk_125_93))) (jo_at (jk_125_96)))) (jo_le (jo_le (jo_le (jo_at (jk_125_97)) (jo_at (jk_125_100))) (jo_le (jo_at (jk_125_101)) (jo_at (jk_125_102)))) (jo_le (jo_le (jo_at (jk_125_103)) (jo_at (jk_125_104))) (jo_at (jk_125_107))))) (jo_le (jo_le (jo_le (jo_le (jo_at (jk_125_110)) (jo_at (jk_125_111))) (jo_le (jo_at (jk_125_114)) (jo_at (jk_125_115)))) (jo_le (jo_le (jo_at (jk_125_116)) (jo_at (jk_125_117))) (jo_at (jk_125_118)))) (jo_le (jo_le (jo_le (jo_at (jk_125_121)) (jo_at (jk_125_124))) (jo_le (jo_at (jk_125_125)) (jo_at (jk_125_128)))) (jo_le (jo_le (jo_at (jk_125_129)) (jo_at (jk_125_130))) (jo_at (jk_125_131)))))) (jo_le (jo_le (jo_le (jo_le (jo_le (jo_at (jk_125_132)) (jo_at (jk_125_135))) (jo_le (jo_at (jk_125_138)) (jo_at (jk_125_139)))) (jo_le (jo_le (jo_at (jk_125_142)) (jo_at (jk_125_143))) (jo_at (jk_125_144)))) (jo_le (jo_le (jo_le (jo_at (jk_125_145)) (jo_at (jk_125_146))) (jo_le (jo_at (jk_125_149)) (jo_at (jk_125_152)))) (jo_le (jo_le (jo_at (jk_125_153)) (jo_at (jk_125_156))) (jo_at (jk_125_157))))) (jo_le (jo_le (jo_le (jo_le (jo_at (jk_125_158)) (jo_at (jk_125_159))) (jo_le (jo_at (jk_125_160)) (jo_at (jk_125_163)))) (jo_le (jo_le (jo_at (jk_125_166)) (jo_at (jk_125_167))) (jo_at (jk_125_170)))) (jo_le (jo_le (jo_le (jo_at (jk_125_171)) (jo_at (jk_125_172))) (jo_le (jo_at (jk_125_173)) (jo_at (jk_125_174)))) (jo_le (jo_le (jo_at (jk_125_177)) (jo_at (jk_125_178))) (jo_at (jk_125_181)))))))
theorem ji_125 {l : Launch} {D : va_G} {cA : ClassId} {ρ : Nat → Nat} {Λ : List jx_Lc} {d : Nat} {Q : Option Value → jx_St → Prop} {σ : jx_St} {z0 : Nat} {a1 : Int32} (h : jt_125 0 Λ jx_tb0 (jx_rn Λ jx_tb0 jt_125 (fun k' as σ K => jx_C l D cA ρ Λ d k' as σ K) Q (jx_J l D cA ρ Λ (jx_A ρ Λ) jx_tb0 (d + 1) 125 Q) [] 400) (fun k' as σ K => jx_C l D cA ρ Λ d k' as σ K) Q 0 [(0, .ref z0), (1, .int a1)] [] σ) : jx_C l D cA ρ Λ (d + 1) 125 [.ref z0, .int a1] σ Q := jx_in jk_125 400 [] rfl (Nat.le_of_ble_eq_true rfl) h
/-! ScriptLedgerModel.agrees(IIIII)Z -/
theorem jd_126_0 : decode prog_10_method_39_code 0 = .ok (.aload_n 0, 1) := by decide +kernel
theorem jd_126_1 : decode prog_10_method_39_code 1 = .ok (.iconst 0, 1) := by decide +kernel
theorem jd_126_2 : decode prog_10_method_39_code 2 = .ok (.putfield 119, 3) := by decide +kernel
theorem jd_126_5 : decode prog_10_method_39_code 5 = .ok (.aload_n 0, 1) := by decide +kernel
theorem jd_126_6 : decode prog_10_method_39_code 6 = .ok (.iload_n 2, 1) := by decide +kernel
theorem jd_126_7 : decode prog_10_method_39_code 7 = .ok (.invokevirtual 156, 3) := by decide +kernel
theorem jd_126_10 : decode prog_10_method_39_code 10 = .ok (.istore 6, 2) := by decide +kernel
theorem jd_126_12 : decode prog_10_method_39_code 12 = .ok (.aload_n 0, 1) := by decide +kernel
theorem jd_126_13 : decode prog_10_method_39_code 13 = .ok (.iload_n 3, 1) := by decide +kernel
theorem jd_126_14 : decode prog_10_method_39_code 14 = .ok (.invokevirtual 156, 3) := by decide +kernel
theorem jd_126_17 : decode prog_10_method_39_code 17 = .ok (.istore 7, 2) := by decide +kernel
theorem jd_126_19 : decode prog_10_method_39_code 19 = .ok (.aload_n 0, 1) := by decide +kernel
theorem jd_126_20 : decode prog_10_method_39_code 20 = .ok (.iload 4, 2) := by decide +kernel
theorem jd_126_22 : decode prog_10_method_39_code 22 = .ok (.invokevirtual 255, 3) := by decide +kernel
theorem jd_126_25 : decode prog_10_method_39_code 25 = .ok (.istore 8, 2) := by decide +kernel
theorem jd_126_27 : decode prog_10_method_39_code 27 = .ok (.aload_n 0, 1) := by decide +kernel
theorem jd_126_28 : decode prog_10_method_39_code 28 = .ok (.iload_n 1, 1) := by decide +kernel
theorem jd_126_29 : decode prog_10_method_39_code 29 = .ok (.iload 6, 2) := by decide +kernel
theorem jd_126_31 : decode prog_10_method_39_code 31 = .ok (.iload 7, 2) := by decide +kernel
theorem jd_126_33 : decode prog_10_method_39_code 33 = .ok (.iload 8, 2) := by decide +kernel
theorem jd_126_35 : decode prog_10_method_39_code 35 = .ok (.iload 5, 2) := by decide +kernel
theorem jd_126_37 : decode prog_10_method_39_code 37 = .ok (.invokevirtual 200, 3) := by decide +kernel
theorem jd_126_40 : decode prog_10_method_39_code 40 = .ok (.aload_n 0, 1) := by decide +kernel
theorem jd_126_41 : decode prog_10_method_39_code 41 = .ok (.getfield 49, 3) := by decide +kernel
theorem jd_126_44 : decode prog_10_method_39_code 44 = .ok (.ifCond .ne 7, 3) := by decide +kernel
theorem jd_126_47 : decode prog_10_method_39_code 47 = .ok (.iconst 1, 1) := by decide +kernel
theorem jd_126_48 : decode prog_10_method_39_code 48 = .ok (.goto 4, 3) := by decide +kernel
theorem jd_126_51 : decode prog_10_method_39_code 51 = .ok (.iconst 0, 1) := by decide +kernel
theorem jd_126_52 : decode prog_10_method_39_code 52 = .ok (.ireturn, 1) := by decide +kernel
def jt_126 (pc : Nat) : jx_Sp := bif Nat.ble pc 25 then (bif Nat.ble pc 12 then (bif Nat.ble pc 5 then (bif Nat.ble pc 1 then (bif Nat.ble pc 0 then (bif Nat.beq pc 0 then js_al 0 1 else js_none) else (bif Nat.beq pc 1 then js_c 0 1 else js_none)) else (bif Nat.ble pc 2 then (bif Nat.beq pc 2 then js_putf 8 5 false else js_none) else (bif Nat.beq pc 5 then js_al 0 1 else js_none))) else (bif Nat.ble pc 7 then (bif Nat.ble pc 6 then (bif Nat.beq pc 6 then js_il 2 1 else js_none) else (bif Nat.beq pc 7 then js_v1 8 95 else js_none)) else (bif Nat.ble pc 10 then (bif Nat.beq pc 10 then js_is 6 2 else js_none) else (bif Nat.beq pc 12 then js_al 0 1 else js_none)))) else (bif Nat.ble pc 19 then (bif Nat.ble pc 14 then (bif Nat.ble pc 13 then (bif Nat.beq pc 13 then js_il 3 1 else js_none) else (bif Nat.beq pc 14 then js_v1 8 95 else js_none)) else (bif Nat.ble pc 17 then (bif Nat.beq pc 17 then js_is 7 2 else js_none) else (bif Nat.beq pc 19 then js_al 0 1 else js_none))) else (bif Nat.ble pc 22 then (bif Nat.ble pc 20 then (bif Nat.beq pc 20 then js_il 4 2 else js_none) else (bif Nat.beq pc 22 then js_v1 8 125 else js_none)) else (bif Nat.beq pc 25 then js_is 8 2 else js_none)))) else (bif Nat.ble pc 37 then (bif Nat.ble pc 31 then (bif Nat.ble pc 28 then (bif Nat.ble pc 27 then (bif Nat.beq pc 27 then js_al 0 1 else js_none) else (bif Nat.beq pc 28 then js_il 1 1 else js_none)) else (bif Nat.ble pc 29 then (bif Nat.beq pc 29 then js_il 6 2 else js_none) else (bif Nat.beq pc 31 then js_il 7 2 else js_none))) else (bif Nat.ble pc 35 then (bif Nat.ble pc 33 then (bif Nat.beq pc 33 then js_il 8 2 else js_none) else (bif Nat.beq pc 35 then js_il 5 2 else js_none)) else (bif Nat.beq pc 37 then js_v5 8 107 else js_none))) else (bif Nat.ble pc 47 then (bif Nat.ble pc 41 then (bif Nat.ble pc 40 then (bif Nat.beq pc 40 then js_al 0 1 else js_none) else (bif Nat.beq pc 41 then js_getf 8 23 else js_none)) else (bif Nat.ble pc 44 then (bif Nat.beq pc 44 then js_ifne 51 else js_none) else (bif Nat.beq pc 47 then js_c 1 1 else js_none))) else (bif Nat.ble pc 51 then (bif Nat.ble pc 48 then (bif Nat.beq pc 48 then js_go 52 else js_none) else (bif Nat.beq pc 51 then js_c 0 1 else js_none)) else (bif Nat.beq pc 52 then js_zr else js_none))))
theorem jk_126_0 : jx_Snd 126 0 (js_al 0 1) := jo_aload_n (i := 0) (w := 0) rfl jd_126_0
theorem jk_126_1 : jx_Snd 126 1 (js_c 0 1) := jo_iconst (z := 0) jd_126_1 rfl
theorem jk_126_2 : jx_Snd 126 2 (js_putf 8 5 false) := jo_putf (z := false) rfl jf_8_119 (fun C T N h => by cases h; rfl) jd_126_2
theorem jk_126_5 : jx_Snd 126 5 (js_al 0 1) := jo_aload_n (i := 0) (w := 0) rfl jd_126_5
theorem jk_126_6 : jx_Snd 126 6 (js_il 2 1) := jo_iload_n (i := 2) (w := 2) rfl jd_126_6
theorem jk_126_7 : jx_Snd 126 7 (js_v1 8 95) := jo_v1 rfl jok_95 (Or.inl jw_535) jw_536 jw_715 rfl jd_126_7
theorem jk_126_10 : jx_Snd 126 10 (js_is 6 2) := jo_istore (i := 6) (Nat.le_of_ble_eq_true rfl) jd_126_10
theorem jk_126_12 : jx_Snd 126 12 (js_al 0 1) := jo_aload_n (i := 0) (w := 0) rfl jd_126_12
theorem jk_126_13 : jx_Snd 126 13 (js_il 3 1) := jo_iload_n (i := 3) (w := 3) rfl jd_126_13
theorem jk_126_14 : jx_Snd 126 14 (js_v1 8 95) := jo_v1 rfl jok_95 (Or.inl jw_535) jw_536 jw_715 rfl jd_126_14
theorem jk_126_17 : jx_Snd 126 17 (js_is 7 2) := jo_istore (i := 7) (Nat.le_of_ble_eq_true rfl) jd_126_17
theorem jk_126_19 : jx_Snd 126 19 (js_al 0 1) := jo_aload_n (i := 0) (w := 0) rfl jd_126_19
theorem jk_126_20 : jx_Snd 126 20 (js_il 4 2) := jo_iload (i := 4) jd_126_20
theorem jk_126_22 : jx_Snd 126 22 (js_v1 8 125) := jo_v1 rfl jok_125 (Or.inl jw_649) jw_650 jw_740 rfl jd_126_22
theorem jk_126_25 : jx_Snd 126 25 (js_is 8 2) := jo_istore (i := 8) (Nat.le_of_ble_eq_true rfl) jd_126_25
theorem jk_126_27 : jx_Snd 126 27 (js_al 0 1) := jo_aload_n (i := 0) (w := 0) rfl jd_126_27
theorem jk_126_28 : jx_Snd 126 28 (js_il 1 1) := jo_iload_n (i := 1) (w := 1) rfl jd_126_28
theorem jk_126_29 : jx_Snd 126 29 (js_il 6 2) := jo_iload (i := 6) jd_126_29
theorem jk_126_31 : jx_Snd 126 31 (js_il 7 2) := jo_iload (i := 7) jd_126_31
theorem jk_126_33 : jx_Snd 126 33 (js_il 8 2) := jo_iload (i := 8) jd_126_33
theorem jk_126_35 : jx_Snd 126 35 (js_il 5 2) := jo_iload (i := 5) jd_126_35
theorem jk_126_37 : jx_Snd 126 37 (js_v5 8 107) := jo_v5 rfl jok_107 (Or.inl jw_541) jw_542 jw_717 rfl jd_126_37
theorem jk_126_40 : jx_Snd 126 40 (js_al 0 1) := jo_aload_n (i := 0) (w := 0) rfl jd_126_40
theorem jk_126_41 : jx_Snd 126 41 (js_getf 8 23) := jo_getf rfl jf_8_49 jd_126_41
theorem jk_126_44 : jx_Snd 126 44 (js_ifne 51) := jo_ifne (o := 7) rfl jd_126_44
theorem jk_126_47 : jx_Snd 126 47 (js_c 1 1) := jo_iconst (z := 1) jd_126_47 rfl
theorem jk_126_48 : jx_Snd 126 48 (js_go 52) := jo_goto (o := 4) rfl jd_126_48
theorem jk_126_51 : jx_Snd 126 51 (js_c 0 1) := jo_iconst (z := 0) jd_126_51 rfl
theorem jk_126_52 : jx_Snd 126 52 (js_zr) := jo_zr rfl jd_126_52
theorem jk_126 : jx_So 126 jt_126 := fun pc => jo_le (jo_le (jo_le (jo_le (jo_le (jo_at (jk_126_0)) (jo_at (jk_126_1))) (jo_le (jo_at (jk_126_2)) (jo_at (jk_126_5)))) (jo_le (jo_le (jo_at (jk_126_6)) (jo_at (jk_126_7))) (jo_le (jo_at (jk_126_10)) (jo_at (jk_126_12))))) (jo_le (jo_le (jo_le (jo_at (jk_126_13)) (jo_at (jk_126_14))) (jo_le (jo_at (jk_126_17)) (jo_at (jk_126_19)))) (jo_le (jo_le (jo_at (jk_126_20)) (jo_at (jk_126_22))) (jo_at (jk_126_25))))) (jo_le (jo_le (jo_le (jo_le (jo_at (jk_126_27)) (jo_at (jk_126_28))) (jo_le (jo_at (jk_126_29)) (jo_at (jk_126_31)))) (jo_le (jo_le (jo_at (jk_126_33)) (jo_at (jk_126_35))) (jo_at (jk_126_37)))) (jo_le (jo_le (jo_le (jo_at (jk_126_40)) (jo_at (jk_126_41))) (jo_le (jo_at (jk_126_44)) (jo_at (jk_126_47)))) (jo_le (jo_le (jo_at (jk_126_48)) (jo_at (jk_126_51))) (jo_at (jk_126_52)))))
theorem ji_126 {l : Launch} {D : va_G} {cA : ClassId} {ρ : Nat → Nat} {Λ : List jx_Lc} {d : Nat} {Q : Option Value → jx_St → Prop} {σ : jx_St} {z0 : Nat} {a1 : Int32} {a2 : Int32} {a3 : Int32} {a4 : Int32} {a5 : Int32} (h : jt_126 0 Λ jx_tb0 (jx_rn Λ jx_tb0 jt_126 (fun k' as σ K => jx_C l D cA ρ Λ d k' as σ K) Q (jx_J l D cA ρ Λ (jx_A ρ Λ) jx_tb0 (d + 1) 126 Q) [] 400) (fun k' as σ K => jx_C l D cA ρ Λ d k' as σ K) Q 0 [(0, .ref z0), (1, .int a1), (2, .int a2), (3, .int a3), (4, .int a4), (5, .int a5)] [] σ) : jx_C l D cA ρ Λ (d + 1) 126 [.ref z0, .int a1, .int a2, .int a3, .int a4, .int a5] σ Q := jx_in jk_126 400 [] rfl (Nat.le_of_ble_eq_true rfl) h
/-! ScriptLedgerModel.phaseTwo()Z -/
theorem jd_127_0 : decode prog_10_method_40_code 0 = .ok (.aload_n 0, 1) := by decide +kernel
theorem jd_127_1 : decode prog_10_method_40_code 1 = .ok (.getfield 219, 3) := by decide +kernel
theorem jd_127_4 : decode prog_10_method_40_code 4 = .ok (.istore_n 1, 1) := by decide +kernel
theorem jd_127_5 : decode prog_10_method_40_code 5 = .ok (.iconst 0, 1) := by decide +kernel
theorem jd_127_6 : decode prog_10_method_40_code 6 = .ok (.istore_n 2, 1) := by decide +kernel
theorem jd_127_7 : decode prog_10_method_40_code 7 = .ok (.iload_n 2, 1) := by decide +kernel
theorem jd_127_8 : decode prog_10_method_40_code 8 = .ok (.aload_n 0, 1) := by decide +kernel
theorem jd_127_9 : decode prog_10_method_40_code 9 = .ok (.getfield 204, 3) := by decide +kernel
theorem jd_127_12 : decode prog_10_method_40_code 12 = .ok (.if_icmp .ge 64, 3) := by decide +kernel
theorem jd_127_15 : decode prog_10_method_40_code 15 = .ok (.aload_n 0, 1) := by decide +kernel
theorem jd_127_16 : decode prog_10_method_40_code 16 = .ok (.getfield 71, 3) := by decide +kernel
theorem jd_127_19 : decode prog_10_method_40_code 19 = .ok (.iload_n 2, 1) := by decide +kernel
theorem jd_127_20 : decode prog_10_method_40_code 20 = .ok (.iaload, 1) := by decide +kernel
theorem jd_127_21 : decode prog_10_method_40_code 21 = .ok (.istore_n 3, 1) := by decide +kernel
theorem jd_127_22 : decode prog_10_method_40_code 22 = .ok (.aload_n 0, 1) := by decide +kernel
theorem jd_127_23 : decode prog_10_method_40_code 23 = .ok (.getfield 56, 3) := by decide +kernel
theorem jd_127_26 : decode prog_10_method_40_code 26 = .ok (.iload_n 3, 1) := by decide +kernel
theorem jd_127_27 : decode prog_10_method_40_code 27 = .ok (.iaload, 1) := by decide +kernel
theorem jd_127_28 : decode prog_10_method_40_code 28 = .ok (.iconst 3, 1) := by decide +kernel
theorem jd_127_29 : decode prog_10_method_40_code 29 = .ok (.if_icmp .le 41, 3) := by decide +kernel
theorem jd_127_32 : decode prog_10_method_40_code 32 = .ok (.aload_n 0, 1) := by decide +kernel
theorem jd_127_33 : decode prog_10_method_40_code 33 = .ok (.aload_n 0, 1) := by decide +kernel
theorem jd_127_34 : decode prog_10_method_40_code 34 = .ok (.getfield 56, 3) := by decide +kernel
theorem jd_127_37 : decode prog_10_method_40_code 37 = .ok (.iload_n 3, 1) := by decide +kernel
theorem jd_127_38 : decode prog_10_method_40_code 38 = .ok (.iaload, 1) := by decide +kernel
theorem jd_127_39 : decode prog_10_method_40_code 39 = .ok (.iconst 4, 1) := by decide +kernel
theorem jd_127_40 : decode prog_10_method_40_code 40 = .ok (.isub, 1) := by decide +kernel
theorem jd_127_41 : decode prog_10_method_40_code 41 = .ok (.aload_n 0, 1) := by decide +kernel
theorem jd_127_42 : decode prog_10_method_40_code 42 = .ok (.getfield 59, 3) := by decide +kernel
theorem jd_127_45 : decode prog_10_method_40_code 45 = .ok (.iload_n 3, 1) := by decide +kernel
theorem jd_127_46 : decode prog_10_method_40_code 46 = .ok (.iaload, 1) := by decide +kernel
theorem jd_127_47 : decode prog_10_method_40_code 47 = .ok (.aload_n 0, 1) := by decide +kernel
theorem jd_127_48 : decode prog_10_method_40_code 48 = .ok (.getfield 74, 3) := by decide +kernel
theorem jd_127_51 : decode prog_10_method_40_code 51 = .ok (.iload_n 2, 1) := by decide +kernel
theorem jd_127_52 : decode prog_10_method_40_code 52 = .ok (.iaload, 1) := by decide +kernel
theorem jd_127_53 : decode prog_10_method_40_code 53 = .ok (.iload_n 2, 1) := by decide +kernel
theorem jd_127_54 : decode prog_10_method_40_code 54 = .ok (.iload_n 1, 1) := by decide +kernel
theorem jd_127_55 : decode prog_10_method_40_code 55 = .ok (.invokevirtual 258, 3) := by decide +kernel
theorem jd_127_58 : decode prog_10_method_40_code 58 = .ok (.ifCond .ne 5, 3) := by decide +kernel
theorem jd_127_61 : decode prog_10_method_40_code 61 = .ok (.iconst 0, 1) := by decide +kernel
theorem jd_127_62 : decode prog_10_method_40_code 62 = .ok (.ireturn, 1) := by decide +kernel
theorem jd_127_63 : decode prog_10_method_40_code 63 = .ok (.iload_n 1, 1) := by decide +kernel
theorem jd_127_64 : decode prog_10_method_40_code 64 = .ok (.aload_n 0, 1) := by decide +kernel
theorem jd_127_65 : decode prog_10_method_40_code 65 = .ok (.getfield 126, 3) := by decide +kernel
theorem jd_127_68 : decode prog_10_method_40_code 68 = .ok (.isub, 1) := by decide +kernel
theorem jd_127_69 : decode prog_10_method_40_code 69 = .ok (.istore_n 1, 1) := by decide +kernel
theorem jd_127_70 : decode prog_10_method_40_code 70 = .ok (.iinc 2 1, 3) := by decide +kernel
theorem jd_127_73 : decode prog_10_method_40_code 73 = .ok (.goto (-66), 3) := by decide +kernel
theorem jd_127_76 : decode prog_10_method_40_code 76 = .ok (.iconst 1, 1) := by decide +kernel
theorem jd_127_77 : decode prog_10_method_40_code 77 = .ok (.istore_n 2, 1) := by decide +kernel
theorem jd_127_78 : decode prog_10_method_40_code 78 = .ok (.iload_n 2, 1) := by decide +kernel
theorem jd_127_79 : decode prog_10_method_40_code 79 = .ok (.iconst 3, 1) := by decide +kernel
theorem jd_127_80 : decode prog_10_method_40_code 80 = .ok (.if_icmp .ge 54, 3) := by decide +kernel
theorem jd_127_83 : decode prog_10_method_40_code 83 = .ok (.aload_n 0, 1) := by decide +kernel
theorem jd_127_84 : decode prog_10_method_40_code 84 = .ok (.getfield 86, 3) := by decide +kernel
theorem jd_127_87 : decode prog_10_method_40_code 87 = .ok (.iload_n 2, 1) := by decide +kernel
theorem jd_127_88 : decode prog_10_method_40_code 88 = .ok (.iaload, 1) := by decide +kernel
theorem jd_127_89 : decode prog_10_method_40_code 89 = .ok (.ifCond .eq 39, 3) := by decide +kernel
theorem jd_127_92 : decode prog_10_method_40_code 92 = .ok (.aload_n 0, 1) := by decide +kernel
theorem jd_127_93 : decode prog_10_method_40_code 93 = .ok (.iload_n 2, 1) := by decide +kernel
theorem jd_127_94 : decode prog_10_method_40_code 94 = .ok (.iconst 1, 1) := by decide +kernel
theorem jd_127_95 : decode prog_10_method_40_code 95 = .ok (.isub, 1) := by decide +kernel
theorem jd_127_96 : decode prog_10_method_40_code 96 = .ok (.aload_n 0, 1) := by decide +kernel
theorem jd_127_97 : decode prog_10_method_40_code 97 = .ok (.getfield 86, 3) := by decide +kernel
theorem jd_127_100 : decode prog_10_method_40_code 100 = .ok (.iload_n 2, 1) := by decide +kernel
theorem jd_127_101 : decode prog_10_method_40_code 101 = .ok (.iaload, 1) := by decide +kernel
theorem jd_127_102 : decode prog_10_method_40_code 102 = .ok (.aload_n 0, 1) := by decide +kernel
theorem jd_127_103 : decode prog_10_method_40_code 103 = .ok (.getfield 89, 3) := by decide +kernel
theorem jd_127_106 : decode prog_10_method_40_code 106 = .ok (.iload_n 2, 1) := by decide +kernel
theorem jd_127_107 : decode prog_10_method_40_code 107 = .ok (.iaload, 1) := by decide +kernel
theorem jd_127_108 : decode prog_10_method_40_code 108 = .ok (.bipush 8, 2) := by decide +kernel
theorem jd_127_110 : decode prog_10_method_40_code 110 = .ok (.iload_n 2, 1) := by decide +kernel
theorem jd_127_111 : decode prog_10_method_40_code 111 = .ok (.iadd, 1) := by decide +kernel
theorem jd_127_112 : decode prog_10_method_40_code 112 = .ok (.iload_n 1, 1) := by decide +kernel
theorem jd_127_113 : decode prog_10_method_40_code 113 = .ok (.invokevirtual 258, 3) := by decide +kernel
theorem jd_127_116 : decode prog_10_method_40_code 116 = .ok (.ifCond .ne 5, 3) := by decide +kernel
theorem jd_127_119 : decode prog_10_method_40_code 119 = .ok (.iconst 0, 1) := by decide +kernel
theorem jd_127_120 : decode prog_10_method_40_code 120 = .ok (.ireturn, 1) := by decide +kernel
theorem jd_127_121 : decode prog_10_method_40_code 121 = .ok (.iload_n 1, 1) := by decide +kernel
theorem jd_127_122 : decode prog_10_method_40_code 122 = .ok (.aload_n 0, 1) := by decide +kernel
theorem jd_127_123 : decode prog_10_method_40_code 123 = .ok (.getfield 126, 3) := by decide +kernel
theorem jd_127_126 : decode prog_10_method_40_code 126 = .ok (.isub, 1) := by decide +kernel
theorem jd_127_127 : decode prog_10_method_40_code 127 = .ok (.istore_n 1, 1) := by decide +kernel
theorem jd_127_128 : decode prog_10_method_40_code 128 = .ok (.iinc 2 1, 3) := by decide +kernel
theorem jd_127_131 : decode prog_10_method_40_code 131 = .ok (.goto (-53), 3) := by decide +kernel
theorem jd_127_134 : decode prog_10_method_40_code 134 = .ok (.iconst 1, 1) := by decide +kernel
theorem jd_127_135 : decode prog_10_method_40_code 135 = .ok (.ireturn, 1) := by decide +kernel
def jt_127 (pc : Nat) : jx_Sp := bif Nat.ble pc 65 then (bif Nat.ble pc 33 then (bif Nat.ble pc 16 then (bif Nat.ble pc 7 then (bif Nat.ble pc 4 then (bif Nat.ble pc 1 then (bif Nat.ble pc 0 then (bif Nat.beq pc 0 then js_al 0 1 else js_none) else (bif Nat.beq pc 1 then js_getf 8 46 else js_none)) else (bif Nat.beq pc 4 then js_is 1 1 else js_none)) else (bif Nat.ble pc 6 then (bif Nat.ble pc 5 then (bif Nat.beq pc 5 then js_c 0 1 else js_none) else (bif Nat.beq pc 6 then js_is 2 1 else js_none)) else (bif Nat.beq pc 7 then js_il 2 1 else js_none))) else (bif Nat.ble pc 12 then (bif Nat.ble pc 9 then (bif Nat.ble pc 8 then (bif Nat.beq pc 8 then js_al 0 1 else js_none) else (bif Nat.beq pc 9 then js_getf 8 33 else js_none)) else (bif Nat.beq pc 12 then js_cge 76 else js_none)) else (bif Nat.ble pc 15 then (bif Nat.beq pc 15 then js_al 0 1 else js_none) else (bif Nat.beq pc 16 then js_getf 8 34 else js_none)))) else (bif Nat.ble pc 26 then (bif Nat.ble pc 21 then (bif Nat.ble pc 20 then (bif Nat.ble pc 19 then (bif Nat.beq pc 19 then js_il 2 1 else js_none) else (bif Nat.beq pc 20 then js_ald else js_none)) else (bif Nat.beq pc 21 then js_is 3 1 else js_none)) else (bif Nat.ble pc 23 then (bif Nat.ble pc 22 then (bif Nat.beq pc 22 then js_al 0 1 else js_none) else (bif Nat.beq pc 23 then js_getf 8 27 else js_none)) else (bif Nat.beq pc 26 then js_il 3 1 else js_none))) else (bif Nat.ble pc 29 then (bif Nat.ble pc 28 then (bif Nat.ble pc 27 then (bif Nat.beq pc 27 then js_ald else js_none) else (bif Nat.beq pc 28 then js_c 3 1 else js_none)) else (bif Nat.beq pc 29 then js_cle 70 else js_none)) else (bif Nat.ble pc 32 then (bif Nat.beq pc 32 then js_al 0 1 else js_none) else (bif Nat.beq pc 33 then js_al 0 1 else js_none))))) else (bif Nat.ble pc 48 then (bif Nat.ble pc 41 then (bif Nat.ble pc 38 then (bif Nat.ble pc 37 then (bif Nat.ble pc 34 then (bif Nat.beq pc 34 then js_getf 8 27 else js_none) else (bif Nat.beq pc 37 then js_il 3 1 else js_none)) else (bif Nat.beq pc 38 then js_ald else js_none)) else (bif Nat.ble pc 40 then (bif Nat.ble pc 39 then (bif Nat.beq pc 39 then js_c 4 1 else js_none) else (bif Nat.beq pc 40 then js_isub else js_none)) else (bif Nat.beq pc 41 then js_al 0 1 else js_none))) else (bif Nat.ble pc 46 then (bif Nat.ble pc 45 then (bif Nat.ble pc 42 then (bif Nat.beq pc 42 then js_getf 8 28 else js_none) else (bif Nat.beq pc 45 then js_il 3 1 else js_none)) else (bif Nat.beq pc 46 then js_ald else js_none)) else (bif Nat.ble pc 47 then (bif Nat.beq pc 47 then js_al 0 1 else js_none) else (bif Nat.beq pc 48 then js_getf 8 35 else js_none)))) else (bif Nat.ble pc 58 then (bif Nat.ble pc 53 then (bif Nat.ble pc 52 then (bif Nat.ble pc 51 then (bif Nat.beq pc 51 then js_il 2 1 else js_none) else (bif Nat.beq pc 52 then js_ald else js_none)) else (bif Nat.beq pc 53 then js_il 2 1 else js_none)) else (bif Nat.ble pc 55 then (bif Nat.ble pc 54 then (bif Nat.beq pc 54 then js_il 1 1 else js_none) else (bif Nat.beq pc 55 then js_v5 8 126 else js_none)) else (bif Nat.beq pc 58 then js_ifne 63 else js_none))) else (bif Nat.ble pc 63 then (bif Nat.ble pc 62 then (bif Nat.ble pc 61 then (bif Nat.beq pc 61 then js_c 0 1 else js_none) else (bif Nat.beq pc 62 then js_zr else js_none)) else (bif Nat.beq pc 63 then js_il 1 1 else js_none)) else (bif Nat.ble pc 64 then (bif Nat.beq pc 64 then js_al 0 1 else js_none) else (bif Nat.beq pc 65 then js_getf 8 21 else js_none)))))) else (bif Nat.ble pc 101 then (bif Nat.ble pc 84 then (bif Nat.ble pc 77 then (bif Nat.ble pc 70 then (bif Nat.ble pc 69 then (bif Nat.ble pc 68 then (bif Nat.beq pc 68 then js_isub else js_none) else (bif Nat.beq pc 69 then js_is 1 1 else js_none)) else (bif Nat.beq pc 70 then js_inc 2 1 else js_none)) else (bif Nat.ble pc 76 then (bif Nat.ble pc 73 then (bif Nat.beq pc 73 then js_go 7 else js_none) else (bif Nat.beq pc 76 then js_c 1 1 else js_none)) else (bif Nat.beq pc 77 then js_is 2 1 else js_none))) else (bif Nat.ble pc 80 then (bif Nat.ble pc 79 then (bif Nat.ble pc 78 then (bif Nat.beq pc 78 then js_il 2 1 else js_none) else (bif Nat.beq pc 79 then js_c 3 1 else js_none)) else (bif Nat.beq pc 80 then js_cge 134 else js_none)) else (bif Nat.ble pc 83 then (bif Nat.beq pc 83 then js_al 0 1 else js_none) else (bif Nat.beq pc 84 then js_getf 8 40 else js_none)))) else (bif Nat.ble pc 94 then (bif Nat.ble pc 89 then (bif Nat.ble pc 88 then (bif Nat.ble pc 87 then (bif Nat.beq pc 87 then js_il 2 1 else js_none) else (bif Nat.beq pc 88 then js_ald else js_none)) else (bif Nat.beq pc 89 then js_ifeq 128 else js_none)) else (bif Nat.ble pc 93 then (bif Nat.ble pc 92 then (bif Nat.beq pc 92 then js_al 0 1 else js_none) else (bif Nat.beq pc 93 then js_il 2 1 else js_none)) else (bif Nat.beq pc 94 then js_c 1 1 else js_none))) else (bif Nat.ble pc 97 then (bif Nat.ble pc 96 then (bif Nat.ble pc 95 then (bif Nat.beq pc 95 then js_isub else js_none) else (bif Nat.beq pc 96 then js_al 0 1 else js_none)) else (bif Nat.beq pc 97 then js_getf 8 40 else js_none)) else (bif Nat.ble pc 100 then (bif Nat.beq pc 100 then js_il 2 1 else js_none) else (bif Nat.beq pc 101 then js_ald else js_none))))) else (bif Nat.ble pc 119 then (bif Nat.ble pc 110 then (bif Nat.ble pc 106 then (bif Nat.ble pc 103 then (bif Nat.ble pc 102 then (bif Nat.beq pc 102 then js_al 0 1 else js_none) else (bif Nat.beq pc 103 then js_getf 8 41 else js_none)) else (bif Nat.beq pc 106 then js_il 2 1 else js_none)) else (bif Nat.ble pc 108 then (bif Nat.ble pc 107 then (bif Nat.beq pc 107 then js_ald else js_none) else (bif Nat.beq pc 108 then js_c 8 2 else js_none)) else (bif Nat.beq pc 110 then js_il 2 1 else js_none))) else (bif Nat.ble pc 113 then (bif Nat.ble pc 112 then (bif Nat.ble pc 111 then (bif Nat.beq pc 111 then js_iadd else js_none) else (bif Nat.beq pc 112 then js_il 1 1 else js_none)) else (bif Nat.beq pc 113 then js_v5 8 126 else js_none)) else (bif Nat.ble pc 116 then (bif Nat.beq pc 116 then js_ifne 121 else js_none) else (bif Nat.beq pc 119 then js_c 0 1 else js_none)))) else (bif Nat.ble pc 126 then (bif Nat.ble pc 122 then (bif Nat.ble pc 121 then (bif Nat.ble pc 120 then (bif Nat.beq pc 120 then js_zr else js_none) else (bif Nat.beq pc 121 then js_il 1 1 else js_none)) else (bif Nat.beq pc 122 then js_al 0 1 else js_none)) else (bif Nat.ble pc 123 then (bif Nat.beq pc 123 then js_getf 8 21 else js_none) else (bif Nat.beq pc 126 then js_isub else js_none))) else (bif Nat.ble pc 131 then (bif Nat.ble pc 128 then (bif Nat.ble pc 127 then (bif Nat.beq pc 127 then js_is 1 1 else js_none) else (bif Nat.beq pc 128 then js_inc 2 1 else js_none)) else (bif Nat.beq pc 131 then js_go 78 else js_none)) else (bif Nat.ble pc 134 then (bif Nat.beq pc 134 then js_c 1 1 else js_none) else (bif Nat.beq pc 135 then js_zr else js_none))))))
theorem jk_127_0 : jx_Snd 127 0 (js_al 0 1) := jo_aload_n (i := 0) (w := 0) rfl jd_127_0
theorem jk_127_1 : jx_Snd 127 1 (js_getf 8 46) := jo_getf rfl jf_8_219 jd_127_1
theorem jk_127_4 : jx_Snd 127 4 (js_is 1 1) := jo_istore_n (i := 1) (w := 1) rfl (Nat.le_of_ble_eq_true rfl) jd_127_4
theorem jk_127_5 : jx_Snd 127 5 (js_c 0 1) := jo_iconst (z := 0) jd_127_5 rfl
theorem jk_127_6 : jx_Snd 127 6 (js_is 2 1) := jo_istore_n (i := 2) (w := 2) rfl (Nat.le_of_ble_eq_true rfl) jd_127_6
theorem jk_127_7 : jx_Snd 127 7 (js_il 2 1) := jo_iload_n (i := 2) (w := 2) rfl jd_127_7
theorem jk_127_8 : jx_Snd 127 8 (js_al 0 1) := jo_aload_n (i := 0) (w := 0) rfl jd_127_8
theorem jk_127_9 : jx_Snd 127 9 (js_getf 8 33) := jo_getf rfl jf_8_204 jd_127_9
theorem jk_127_12 : jx_Snd 127 12 (js_cge 76) := jo_cge (o := 64) rfl jd_127_12
theorem jk_127_15 : jx_Snd 127 15 (js_al 0 1) := jo_aload_n (i := 0) (w := 0) rfl jd_127_15
theorem jk_127_16 : jx_Snd 127 16 (js_getf 8 34) := jo_getf rfl jf_8_71 jd_127_16
theorem jk_127_19 : jx_Snd 127 19 (js_il 2 1) := jo_iload_n (i := 2) (w := 2) rfl jd_127_19
theorem jk_127_20 : jx_Snd 127 20 (js_ald) := jo_ald jd_127_20
theorem jk_127_21 : jx_Snd 127 21 (js_is 3 1) := jo_istore_n (i := 3) (w := 3) rfl (Nat.le_of_ble_eq_true rfl) jd_127_21
theorem jk_127_22 : jx_Snd 127 22 (js_al 0 1) := jo_aload_n (i := 0) (w := 0) rfl jd_127_22
theorem jk_127_23 : jx_Snd 127 23 (js_getf 8 27) := jo_getf rfl jf_8_56 jd_127_23
theorem jk_127_26 : jx_Snd 127 26 (js_il 3 1) := jo_iload_n (i := 3) (w := 3) rfl jd_127_26
theorem jk_127_27 : jx_Snd 127 27 (js_ald) := jo_ald jd_127_27
theorem jk_127_28 : jx_Snd 127 28 (js_c 3 1) := jo_iconst (z := 3) jd_127_28 rfl
theorem jk_127_29 : jx_Snd 127 29 (js_cle 70) := jo_cle (o := 41) rfl jd_127_29
theorem jk_127_32 : jx_Snd 127 32 (js_al 0 1) := jo_aload_n (i := 0) (w := 0) rfl jd_127_32
theorem jk_127_33 : jx_Snd 127 33 (js_al 0 1) := jo_aload_n (i := 0) (w := 0) rfl jd_127_33
theorem jk_127_34 : jx_Snd 127 34 (js_getf 8 27) := jo_getf rfl jf_8_56 jd_127_34
theorem jk_127_37 : jx_Snd 127 37 (js_il 3 1) := jo_iload_n (i := 3) (w := 3) rfl jd_127_37
theorem jk_127_38 : jx_Snd 127 38 (js_ald) := jo_ald jd_127_38
theorem jk_127_39 : jx_Snd 127 39 (js_c 4 1) := jo_iconst (z := 4) jd_127_39 rfl
theorem jk_127_40 : jx_Snd 127 40 (js_isub) := jo_isub jd_127_40
theorem jk_127_41 : jx_Snd 127 41 (js_al 0 1) := jo_aload_n (i := 0) (w := 0) rfl jd_127_41
theorem jk_127_42 : jx_Snd 127 42 (js_getf 8 28) := jo_getf rfl jf_8_59 jd_127_42
theorem jk_127_45 : jx_Snd 127 45 (js_il 3 1) := jo_iload_n (i := 3) (w := 3) rfl jd_127_45
theorem jk_127_46 : jx_Snd 127 46 (js_ald) := jo_ald jd_127_46
theorem jk_127_47 : jx_Snd 127 47 (js_al 0 1) := jo_aload_n (i := 0) (w := 0) rfl jd_127_47
theorem jk_127_48 : jx_Snd 127 48 (js_getf 8 35) := jo_getf rfl jf_8_74 jd_127_48
theorem jk_127_51 : jx_Snd 127 51 (js_il 2 1) := jo_iload_n (i := 2) (w := 2) rfl jd_127_51
theorem jk_127_52 : jx_Snd 127 52 (js_ald) := jo_ald jd_127_52
theorem jk_127_53 : jx_Snd 127 53 (js_il 2 1) := jo_iload_n (i := 2) (w := 2) rfl jd_127_53
theorem jk_127_54 : jx_Snd 127 54 (js_il 1 1) := jo_iload_n (i := 1) (w := 1) rfl jd_127_54
theorem jk_127_55 : jx_Snd 127 55 (js_v5 8 126) := jo_v5 rfl jok_126 (Or.inl jw_646) jw_647 jw_739 rfl jd_127_55
theorem jk_127_58 : jx_Snd 127 58 (js_ifne 63) := jo_ifne (o := 5) rfl jd_127_58
theorem jk_127_61 : jx_Snd 127 61 (js_c 0 1) := jo_iconst (z := 0) jd_127_61 rfl
theorem jk_127_62 : jx_Snd 127 62 (js_zr) := jo_zr rfl jd_127_62
theorem jk_127_63 : jx_Snd 127 63 (js_il 1 1) := jo_iload_n (i := 1) (w := 1) rfl jd_127_63
theorem jk_127_64 : jx_Snd 127 64 (js_al 0 1) := jo_aload_n (i := 0) (w := 0) rfl jd_127_64
theorem jk_127_65 : jx_Snd 127 65 (js_getf 8 21) := jo_getf rfl jf_8_126 jd_127_65
theorem jk_127_68 : jx_Snd 127 68 (js_isub) := jo_isub jd_127_68
theorem jk_127_69 : jx_Snd 127 69 (js_is 1 1) := jo_istore_n (i := 1) (w := 1) rfl (Nat.le_of_ble_eq_true rfl) jd_127_69
theorem jk_127_70 : jx_Snd 127 70 (js_inc 2 1) := jo_iinc (w := 1) rfl (Nat.le_of_ble_eq_true rfl) jd_127_70
theorem jk_127_73 : jx_Snd 127 73 (js_go 7) := jo_goto (o := (-66)) rfl jd_127_73
theorem jk_127_76 : jx_Snd 127 76 (js_c 1 1) := jo_iconst (z := 1) jd_127_76 rfl
theorem jk_127_77 : jx_Snd 127 77 (js_is 2 1) := jo_istore_n (i := 2) (w := 2) rfl (Nat.le_of_ble_eq_true rfl) jd_127_77
theorem jk_127_78 : jx_Snd 127 78 (js_il 2 1) := jo_iload_n (i := 2) (w := 2) rfl jd_127_78
theorem jk_127_79 : jx_Snd 127 79 (js_c 3 1) := jo_iconst (z := 3) jd_127_79 rfl
theorem jk_127_80 : jx_Snd 127 80 (js_cge 134) := jo_cge (o := 54) rfl jd_127_80
theorem jk_127_83 : jx_Snd 127 83 (js_al 0 1) := jo_aload_n (i := 0) (w := 0) rfl jd_127_83
theorem jk_127_84 : jx_Snd 127 84 (js_getf 8 40) := jo_getf rfl jf_8_86 jd_127_84
theorem jk_127_87 : jx_Snd 127 87 (js_il 2 1) := jo_iload_n (i := 2) (w := 2) rfl jd_127_87
theorem jk_127_88 : jx_Snd 127 88 (js_ald) := jo_ald jd_127_88
theorem jk_127_89 : jx_Snd 127 89 (js_ifeq 128) := jo_ifeq (o := 39) rfl jd_127_89
theorem jk_127_92 : jx_Snd 127 92 (js_al 0 1) := jo_aload_n (i := 0) (w := 0) rfl jd_127_92
theorem jk_127_93 : jx_Snd 127 93 (js_il 2 1) := jo_iload_n (i := 2) (w := 2) rfl jd_127_93
theorem jk_127_94 : jx_Snd 127 94 (js_c 1 1) := jo_iconst (z := 1) jd_127_94 rfl
theorem jk_127_95 : jx_Snd 127 95 (js_isub) := jo_isub jd_127_95
theorem jk_127_96 : jx_Snd 127 96 (js_al 0 1) := jo_aload_n (i := 0) (w := 0) rfl jd_127_96
theorem jk_127_97 : jx_Snd 127 97 (js_getf 8 40) := jo_getf rfl jf_8_86 jd_127_97
theorem jk_127_100 : jx_Snd 127 100 (js_il 2 1) := jo_iload_n (i := 2) (w := 2) rfl jd_127_100
theorem jk_127_101 : jx_Snd 127 101 (js_ald) := jo_ald jd_127_101
theorem jk_127_102 : jx_Snd 127 102 (js_al 0 1) := jo_aload_n (i := 0) (w := 0) rfl jd_127_102
theorem jk_127_103 : jx_Snd 127 103 (js_getf 8 41) := jo_getf rfl jf_8_89 jd_127_103
theorem jk_127_106 : jx_Snd 127 106 (js_il 2 1) := jo_iload_n (i := 2) (w := 2) rfl jd_127_106
theorem jk_127_107 : jx_Snd 127 107 (js_ald) := jo_ald jd_127_107
theorem jk_127_108 : jx_Snd 127 108 (js_c 8 2) := jo_bipush (z := 8) jd_127_108 (by decide +kernel)
theorem jk_127_110 : jx_Snd 127 110 (js_il 2 1) := jo_iload_n (i := 2) (w := 2) rfl jd_127_110
theorem jk_127_111 : jx_Snd 127 111 (js_iadd) := jo_iadd jd_127_111
theorem jk_127_112 : jx_Snd 127 112 (js_il 1 1) := jo_iload_n (i := 1) (w := 1) rfl jd_127_112
theorem jk_127_113 : jx_Snd 127 113 (js_v5 8 126) := jo_v5 rfl jok_126 (Or.inl jw_646) jw_647 jw_739 rfl jd_127_113
theorem jk_127_116 : jx_Snd 127 116 (js_ifne 121) := jo_ifne (o := 5) rfl jd_127_116
theorem jk_127_119 : jx_Snd 127 119 (js_c 0 1) := jo_iconst (z := 0) jd_127_119 rfl
theorem jk_127_120 : jx_Snd 127 120 (js_zr) := jo_zr rfl jd_127_120
theorem jk_127_121 : jx_Snd 127 121 (js_il 1 1) := jo_iload_n (i := 1) (w := 1) rfl jd_127_121
theorem jk_127_122 : jx_Snd 127 122 (js_al 0 1) := jo_aload_n (i := 0) (w := 0) rfl jd_127_122
theorem jk_127_123 : jx_Snd 127 123 (js_getf 8 21) := jo_getf rfl jf_8_126 jd_127_123
theorem jk_127_126 : jx_Snd 127 126 (js_isub) := jo_isub jd_127_126
theorem jk_127_127 : jx_Snd 127 127 (js_is 1 1) := jo_istore_n (i := 1) (w := 1) rfl (Nat.le_of_ble_eq_true rfl) jd_127_127
theorem jk_127_128 : jx_Snd 127 128 (js_inc 2 1) := jo_iinc (w := 1) rfl (Nat.le_of_ble_eq_true rfl) jd_127_128
theorem jk_127_131 : jx_Snd 127 131 (js_go 78) := jo_goto (o := (-53)) rfl jd_127_131
theorem jk_127_134 : jx_Snd 127 134 (js_c 1 1) := jo_iconst (z := 1) jd_127_134 rfl
theorem jk_127_135 : jx_Snd 127 135 (js_zr) := jo_zr rfl jd_127_135
theorem jk_127 : jx_So 127 jt_127 := fun pc => jo_le (jo_le (jo_le (jo_le (jo_le (jo_le (jo_le (jo_at (jk_127_0)) (jo_at (jk_127_1))) (jo_at (jk_127_4))) (jo_le (jo_le (jo_at (jk_127_5)) (jo_at (jk_127_6))) (jo_at (jk_127_7)))) (jo_le (jo_le (jo_le (jo_at (jk_127_8)) (jo_at (jk_127_9))) (jo_at (jk_127_12))) (jo_le (jo_at (jk_127_15)) (jo_at (jk_127_16))))) (jo_le (jo_le (jo_le (jo_le (jo_at (jk_127_19)) (jo_at (jk_127_20))) (jo_at (jk_127_21))) (jo_le (jo_le (jo_at (jk_127_22)) (jo_at (jk_127_23))) (jo_at (jk_127_26)))) (jo_le (jo_le (jo_le (jo_at (jk_127_27)) (jo_at (jk_127_28))) (jo_at (jk_127_29))) (jo_le (jo_at (jk_127_32)) (jo_at (jk_127_33)))))) (jo_le (jo_le (jo_le (jo_le (jo_le (jo_at (jk_127_34)) (jo_at (jk_127_37))) (jo_at (jk_127_38))) (jo_le (jo_le (jo_at (jk_127_39)) (jo_at (jk_127_40))) (jo_at (jk_127_41)))) (jo_le (jo_le (jo_le (jo_at (jk_127_42)) (jo_at (jk_127_45))) (jo_at (jk_127_46))) (jo_le (jo_at (jk_127_47)) (jo_at (jk_127_48))))) (jo_le (jo_le (jo_le (jo_le (jo_at (jk_127_51)) (jo_at (jk_127_52))) (jo_at (jk_127_53))) (jo_le (jo_le (jo_at (jk_127_54)) (jo_at (jk_127_55))) (jo_at (jk_127_58)))) (jo_le (jo_le (jo_le (jo_at (jk_127_61)) (jo_at (jk_127_62))) (jo_at (jk_127_63))) (jo_le (jo_at (jk_127_64)) (jo_at (jk_127_65))))))) (jo_le (jo_le (jo_le (jo_le (jo_le (jo_le (jo_at (jk_127_68)) (jo_at (jk_127_69))) (jo_at (jk_127_70))) (jo_le (jo_le (jo_at (jk_127_73)) (jo_at (jk_127_76))) (jo_at (jk_127_77)))) (jo_le (jo_le (jo_le (jo_at (jk_127_78)) (jo_at (jk_127_79))) (jo_at (jk_127_80))) (jo_le (jo_at (jk_127_83)) (jo_at (jk_127_84))))) (jo_le (jo_le (jo_le (jo_le (jo_at (jk_127_87)) (jo_at (jk_127_88))) (jo_at (jk_127_89))) (jo_le (jo_le (jo_at (jk_127_92)) (jo_at (jk_127_93))) (jo_at (jk_127_94)))) (jo_le (jo_le (jo_le (jo_at (jk_127_95)) (jo_at (jk_127_96))) (jo_at (jk_127_97))) (jo_le (jo_at (jk_127_100)) (jo_at (jk_127_101)))))) (jo_le (jo_le (jo_le (jo_le (jo_le (jo_at (jk_127_102)) (jo_at (jk_127_103))) (jo_at (jk_127_106))) (jo_le (jo_le (jo_at (jk_127_107)) (jo_at (jk_127_108))) (jo_at (jk_127_110)))) (jo_le (jo_le (jo_le (jo_at (jk_127_111)) (jo_at (jk_127_112))) (jo_at (jk_127_113))) (jo_le (jo_at (jk_127_116)) (jo_at (jk_127_119))))) (jo_le (jo_le (jo_le (jo_le (jo_at (jk_127_120)) (jo_at (jk_127_121))) (jo_at (jk_127_122))) (jo_le (jo_at (jk_127_123)) (jo_at (jk_127_126)))) (jo_le (jo_le (jo_le (jo_at (jk_127_127)) (jo_at (jk_127_128))) (jo_at (jk_127_131))) (jo_le (jo_at (jk_127_134)) (jo_at (jk_127_135)))))))
theorem ji_127 {l : Launch} {D : va_G} {cA : ClassId} {ρ : Nat → Nat} {Λ : List jx_Lc} {d : Nat} {Q : Option Value → jx_St → Prop} {σ : jx_St} {z0 : Nat} (h : jt_127 0 Λ jx_tb0 (jx_rn Λ jx_tb0 jt_127 (fun k' as σ K => jx_C l D cA ρ Λ d k' as σ K) Q (jx_J l D cA ρ Λ (jx_A ρ Λ) jx_tb0 (d + 1) 127 Q) [] 400) (fun k' as σ K => jx_C l D cA ρ Λ d k' as σ K) Q 0 [(0, .ref z0)] [] σ) : jx_C l D cA ρ Λ (d + 1) 127 [.ref z0] σ Q := jx_in jk_127 400 [] rfl (Nat.le_of_ble_eq_true rfl) h
/-! ScriptLedgerModel.takeEffect()V -/
theorem jd_128_0 : decode prog_10_method_41_code 0 = .ok (.iconst 0, 1) := by decide +kernel
theorem jd_128_1 : decode prog_10_method_41_code 1 = .ok (.istore_n 1, 1) := by decide +kernel
theorem jd_128_2 : decode prog_10_method_41_code 2 = .ok (.iload_n 1, 1) := by decide +kernel
theorem jd_128_3 : decode prog_10_method_41_code 3 = .ok (.aload_n 0, 1) := by decide +kernel
theorem jd_128_4 : decode prog_10_method_41_code 4 = .ok (.getfield 204, 3) := by decide +kernel
theorem jd_128_7 : decode prog_10_method_41_code 7 = .ok (.if_icmp .ge 24, 3) := by decide +kernel
theorem jd_128_10 : decode prog_10_method_41_code 10 = .ok (.aload_n 0, 1) := by decide +kernel
theorem jd_128_11 : decode prog_10_method_41_code 11 = .ok (.getfield 65, 3) := by decide +kernel
theorem jd_128_14 : decode prog_10_method_41_code 14 = .ok (.aload_n 0, 1) := by decide +kernel
theorem jd_128_15 : decode prog_10_method_41_code 15 = .ok (.getfield 71, 3) := by decide +kernel
theorem jd_128_18 : decode prog_10_method_41_code 18 = .ok (.iload_n 1, 1) := by decide +kernel
theorem jd_128_19 : decode prog_10_method_41_code 19 = .ok (.iaload, 1) := by decide +kernel
theorem jd_128_20 : decode prog_10_method_41_code 20 = .ok (.aload_n 0, 1) := by decide +kernel
theorem jd_128_21 : decode prog_10_method_41_code 21 = .ok (.getfield 239, 3) := by decide +kernel
theorem jd_128_24 : decode prog_10_method_41_code 24 = .ok (.iastore, 1) := by decide +kernel
theorem jd_128_25 : decode prog_10_method_41_code 25 = .ok (.iinc 1 1, 3) := by decide +kernel
theorem jd_128_28 : decode prog_10_method_41_code 28 = .ok (.goto (-26), 3) := by decide +kernel
theorem jd_128_31 : decode prog_10_method_41_code 31 = .ok (.iconst 0, 1) := by decide +kernel
theorem jd_128_32 : decode prog_10_method_41_code 32 = .ok (.istore_n 1, 1) := by decide +kernel
theorem jd_128_33 : decode prog_10_method_41_code 33 = .ok (.iload_n 1, 1) := by decide +kernel
theorem jd_128_34 : decode prog_10_method_41_code 34 = .ok (.aload_n 0, 1) := by decide +kernel
theorem jd_128_35 : decode prog_10_method_41_code 35 = .ok (.getfield 207, 3) := by decide +kernel
theorem jd_128_38 : decode prog_10_method_41_code 38 = .ok (.if_icmp .ge 108, 3) := by decide +kernel
theorem jd_128_41 : decode prog_10_method_41_code 41 = .ok (.iconst 0, 1) := by decide +kernel
theorem jd_128_42 : decode prog_10_method_41_code 42 = .ok (.istore_n 2, 1) := by decide +kernel
theorem jd_128_43 : decode prog_10_method_41_code 43 = .ok (.iload_n 2, 1) := by decide +kernel
theorem jd_128_44 : decode prog_10_method_41_code 44 = .ok (.iconst 3, 1) := by decide +kernel
theorem jd_128_45 : decode prog_10_method_41_code 45 = .ok (.if_icmp .ge 32, 3) := by decide +kernel
theorem jd_128_48 : decode prog_10_method_41_code 48 = .ok (.aload_n 0, 1) := by decide +kernel
theorem jd_128_49 : decode prog_10_method_41_code 49 = .ok (.getfield 53, 3) := by decide +kernel
theorem jd_128_52 : decode prog_10_method_41_code 52 = .ok (.iconst 3, 1) := by decide +kernel
theorem jd_128_53 : decode prog_10_method_41_code 53 = .ok (.aload_n 0, 1) := by decide +kernel
theorem jd_128_54 : decode prog_10_method_41_code 54 = .ok (.getfield 104, 3) := by decide +kernel
theorem jd_128_57 : decode prog_10_method_41_code 57 = .ok (.imul, 1) := by decide +kernel
theorem jd_128_58 : decode prog_10_method_41_code 58 = .ok (.iload_n 2, 1) := by decide +kernel
theorem jd_128_59 : decode prog_10_method_41_code 59 = .ok (.iadd, 1) := by decide +kernel
theorem jd_128_60 : decode prog_10_method_41_code 60 = .ok (.aload_n 0, 1) := by decide +kernel
theorem jd_128_61 : decode prog_10_method_41_code 61 = .ok (.getfield 83, 3) := by decide +kernel
theorem jd_128_64 : decode prog_10_method_41_code 64 = .ok (.iconst 3, 1) := by decide +kernel
theorem jd_128_65 : decode prog_10_method_41_code 65 = .ok (.iload_n 1, 1) := by decide +kernel
theorem jd_128_66 : decode prog_10_method_41_code 66 = .ok (.imul, 1) := by decide +kernel
theorem jd_128_67 : decode prog_10_method_41_code 67 = .ok (.iload_n 2, 1) := by decide +kernel
theorem jd_128_68 : decode prog_10_method_41_code 68 = .ok (.iadd, 1) := by decide +kernel
theorem jd_128_69 : decode prog_10_method_41_code 69 = .ok (.iaload, 1) := by decide +kernel
theorem jd_128_70 : decode prog_10_method_41_code 70 = .ok (.iastore, 1) := by decide +kernel
theorem jd_128_71 : decode prog_10_method_41_code 71 = .ok (.iinc 2 1, 3) := by decide +kernel
theorem jd_128_74 : decode prog_10_method_41_code 74 = .ok (.goto (-31), 3) := by decide +kernel
theorem jd_128_77 : decode prog_10_method_41_code 77 = .ok (.aload_n 0, 1) := by decide +kernel
theorem jd_128_78 : decode prog_10_method_41_code 78 = .ok (.getfield 56, 3) := by decide +kernel
theorem jd_128_81 : decode prog_10_method_41_code 81 = .ok (.aload_n 0, 1) := by decide +kernel
theorem jd_128_82 : decode prog_10_method_41_code 82 = .ok (.getfield 104, 3) := by decide +kernel
theorem jd_128_85 : decode prog_10_method_41_code 85 = .ok (.aload_n 0, 1) := by decide +kernel
theorem jd_128_86 : decode prog_10_method_41_code 86 = .ok (.getfield 77, 3) := by decide +kernel
theorem jd_128_89 : decode prog_10_method_41_code 89 = .ok (.iload_n 1, 1) := by decide +kernel
theorem jd_128_90 : decode prog_10_method_41_code 90 = .ok (.iaload, 1) := by decide +kernel
theorem jd_128_91 : decode prog_10_method_41_code 91 = .ok (.iastore, 1) := by decide +kernel
theorem jd_128_92 : decode prog_10_method_41_code 92 = .ok (.aload_n 0, 1) := by decide +kernel
theorem jd_128_93 : decode prog_10_method_41_code 93 = .ok (.getfield 59, 3) := by decide +kernel
theorem jd_128_96 : decode prog_10_method_41_code 96 = .ok (.aload_n 0, 1) := by decide +kernel
theorem jd_128_97 : decode prog_10_method_41_code 97 = .ok (.getfield 104, 3) := by decide +kernel
theorem jd_128_100 : decode prog_10_method_41_code 100 = .ok (.aload_n 0, 1) := by decide +kernel
theorem jd_128_101 : decode prog_10_method_41_code 101 = .ok (.getfield 80, 3) := by decide +kernel
theorem jd_128_104 : decode prog_10_method_41_code 104 = .ok (.iload_n 1, 1) := by decide +kernel
theorem jd_128_105 : decode prog_10_method_41_code 105 = .ok (.iaload, 1) := by decide +kernel
theorem jd_128_106 : decode prog_10_method_41_code 106 = .ok (.iastore, 1) := by decide +kernel
theorem jd_128_107 : decode prog_10_method_41_code 107 = .ok (.aload_n 0, 1) := by decide +kernel
theorem jd_128_108 : decode prog_10_method_41_code 108 = .ok (.getfield 62, 3) := by decide +kernel
theorem jd_128_111 : decode prog_10_method_41_code 111 = .ok (.aload_n 0, 1) := by decide +kernel
theorem jd_128_112 : decode prog_10_method_41_code 112 = .ok (.getfield 104, 3) := by decide +kernel
theorem jd_128_115 : decode prog_10_method_41_code 115 = .ok (.aload_n 0, 1) := by decide +kernel
theorem jd_128_116 : decode prog_10_method_41_code 116 = .ok (.getfield 239, 3) := by decide +kernel
theorem jd_128_119 : decode prog_10_method_41_code 119 = .ok (.iastore, 1) := by decide +kernel
theorem jd_128_120 : decode prog_10_method_41_code 120 = .ok (.aload_n 0, 1) := by decide +kernel
theorem jd_128_121 : decode prog_10_method_41_code 121 = .ok (.getfield 65, 3) := by decide +kernel
theorem jd_128_124 : decode prog_10_method_41_code 124 = .ok (.aload_n 0, 1) := by decide +kernel
theorem jd_128_125 : decode prog_10_method_41_code 125 = .ok (.getfield 104, 3) := by decide +kernel
theorem jd_128_128 : decode prog_10_method_41_code 128 = .ok (.iconst (-1), 1) := by decide +kernel
theorem jd_128_129 : decode prog_10_method_41_code 129 = .ok (.iastore, 1) := by decide +kernel
theorem jd_128_130 : decode prog_10_method_41_code 130 = .ok (.aload_n 0, 1) := by decide +kernel
theorem jd_128_131 : decode prog_10_method_41_code 131 = .ok (.dup, 1) := by decide +kernel
theorem jd_128_132 : decode prog_10_method_41_code 132 = .ok (.getfield 104, 3) := by decide +kernel
theorem jd_128_135 : decode prog_10_method_41_code 135 = .ok (.iconst 1, 1) := by decide +kernel
theorem jd_128_136 : decode prog_10_method_41_code 136 = .ok (.iadd, 1) := by decide +kernel
theorem jd_128_137 : decode prog_10_method_41_code 137 = .ok (.putfield 104, 3) := by decide +kernel
theorem jd_128_140 : decode prog_10_method_41_code 140 = .ok (.iinc 1 1, 3) := by decide +kernel
theorem jd_128_143 : decode prog_10_method_41_code 143 = .ok (.goto (-110), 3) := by decide +kernel
theorem jd_128_146 : decode prog_10_method_41_code 146 = .ok (.aload_n 0, 1) := by decide +kernel
theorem jd_128_147 : decode prog_10_method_41_code 147 = .ok (.getfield 68, 3) := by decide +kernel
theorem jd_128_150 : decode prog_10_method_41_code 150 = .ok (.aload_n 0, 1) := by decide +kernel
theorem jd_128_151 : decode prog_10_method_41_code 151 = .ok (.getfield 239, 3) := by decide +kernel
theorem jd_128_154 : decode prog_10_method_41_code 154 = .ok (.aload_n 0, 1) := by decide +kernel
theorem jd_128_155 : decode prog_10_method_41_code 155 = .ok (.getfield 68, 3) := by decide +kernel
theorem jd_128_158 : decode prog_10_method_41_code 158 = .ok (.aload_n 0, 1) := by decide +kernel
theorem jd_128_159 : decode prog_10_method_41_code 159 = .ok (.getfield 239, 3) := by decide +kernel
theorem jd_128_162 : decode prog_10_method_41_code 162 = .ok (.iaload, 1) := by decide +kernel
theorem jd_128_163 : decode prog_10_method_41_code 163 = .ok (.aload_n 0, 1) := by decide +kernel
theorem jd_128_164 : decode prog_10_method_41_code 164 = .ok (.getfield 210, 3) := by decide +kernel
theorem jd_128_167 : decode prog_10_method_41_code 167 = .ok (.iadd, 1) := by decide +kernel
theorem jd_128_168 : decode prog_10_method_41_code 168 = .ok (.iastore, 1) := by decide +kernel
theorem jd_128_169 : decode prog_10_method_41_code 169 = .ok (.return_, 1) := by decide +kernel
def jt_128 (pc : Nat) : jx_Sp := bif Nat.ble pc 81 then (bif Nat.ble pc 42 then (bif Nat.ble pc 20 then (bif Nat.ble pc 10 then (bif Nat.ble pc 3 then (bif Nat.ble pc 1 then (bif Nat.ble pc 0 then (bif Nat.beq pc 0 then js_c 0 1 else js_none) else (bif Nat.beq pc 1 then js_is 1 1 else js_none)) else (bif Nat.ble pc 2 then (bif Nat.beq pc 2 then js_il 1 1 else js_none) else (bif Nat.beq pc 3 then js_al 0 1 else js_none))) else (bif Nat.ble pc 7 then (bif Nat.ble pc 4 then (bif Nat.beq pc 4 then js_getf 8 33 else js_none) else (bif Nat.beq pc 7 then js_cge 31 else js_none)) else (bif Nat.beq pc 10 then js_al 0 1 else js_none))) else (bif Nat.ble pc 15 then (bif Nat.ble pc 14 then (bif Nat.ble pc 11 then (bif Nat.beq pc 11 then js_getf 8 30 else js_none) else (bif Nat.beq pc 14 then js_al 0 1 else js_none)) else (bif Nat.beq pc 15 then js_getf 8 34 else js_none)) else (bif Nat.ble pc 19 then (bif Nat.ble pc 18 then (bif Nat.beq pc 18 then js_il 1 1 else js_none) else (bif Nat.beq pc 19 then js_ald else js_none)) else (bif Nat.beq pc 20 then js_al 0 1 else js_none)))) else (bif Nat.ble pc 32 then (bif Nat.ble pc 25 then (bif Nat.ble pc 24 then (bif Nat.ble pc 21 then (bif Nat.beq pc 21 then js_getf 8 31 else js_none) else (bif Nat.beq pc 24 then js_ast else js_none)) else (bif Nat.beq pc 25 then js_inc 1 1 else js_none)) else (bif Nat.ble pc 31 then (bif Nat.ble pc 28 then (bif Nat.beq pc 28 then js_go 2 else js_none) else (bif Nat.beq pc 31 then js_c 0 1 else js_none)) else (bif Nat.beq pc 32 then js_is 1 1 else js_none))) else (bif Nat.ble pc 35 then (bif Nat.ble pc 34 then (bif Nat.ble pc 33 then (bif Nat.beq pc 33 then js_il 1 1 else js_none) else (bif Nat.beq pc 34 then js_al 0 1 else js_none)) else (bif Nat.beq pc 35 then js_getf 8 36 else js_none)) else (bif Nat.ble pc 41 then (bif Nat.ble pc 38 then (bif Nat.beq pc 38 then js_cge 146 else js_none) else (bif Nat.beq pc 41 then js_c 0 1 else js_none)) else (bif Nat.beq pc 42 then js_is 2 1 else js_none))))) else (bif Nat.ble pc 61 then (bif Nat.ble pc 53 then (bif Nat.ble pc 48 then (bif Nat.ble pc 44 then (bif Nat.ble pc 43 then (bif Nat.beq pc 43 then js_il 2 1 else js_none) else (bif Nat.beq pc 44 then js_c 3 1 else js_none)) else (bif Nat.ble pc 45 then (bif Nat.beq pc 45 then js_cge 77 else js_none) else (bif Nat.beq pc 48 then js_al 0 1 else js_none))) else (bif Nat.ble pc 52 then (bif Nat.ble pc 49 then (bif Nat.beq pc 49 then js_getf 8 26 else js_none) else (bif Nat.beq pc 52 then js_c 3 1 else js_none)) else (bif Nat.beq pc 53 then js_al 0 1 else js_none))) else (bif Nat.ble pc 58 then (bif Nat.ble pc 57 then (bif Nat.ble pc 54 then (bif Nat.beq pc 54 then js_getf 8 25 else js_none) else (bif Nat.beq pc 57 then js_imul else js_none)) else (bif Nat.beq pc 58 then js_il 2 1 else js_none)) else (bif Nat.ble pc 60 then (bif Nat.ble pc 59 then (bif Nat.beq pc 59 then js_iadd else js_none) else (bif Nat.beq pc 60 then js_al 0 1 else js_none)) else (bif Nat.beq pc 61 then js_getf 8 39 else js_none)))) else (bif Nat.ble pc 69 then (bif Nat.ble pc 66 then (bif Nat.ble pc 65 then (bif Nat.ble pc 64 then (bif Nat.beq pc 64 then js_c 3 1 else js_none) else (bif Nat.beq pc 65 then js_il 1 1 else js_none)) else (bif Nat.beq pc 66 then js_imul else js_none)) else (bif Nat.ble pc 68 then (bif Nat.ble pc 67 then (bif Nat.beq pc 67 then js_il 2 1 else js_none) else (bif Nat.beq pc 68 then js_iadd else js_none)) else (bif Nat.beq pc 69 then js_ald else js_none))) else (bif Nat.ble pc 74 then (bif Nat.ble pc 71 then (bif Nat.ble pc 70 then (bif Nat.beq pc 70 then js_ast else js_none) else (bif Nat.beq pc 71 then js_inc 2 1 else js_none)) else (bif Nat.beq pc 74 then js_go 43 else js_none)) else (bif Nat.ble pc 78 then (bif Nat.ble pc 77 then (bif Nat.beq pc 77 then js_al 0 1 else js_none) else (bif Nat.beq pc 78 then js_getf 8 27 else js_none)) else (bif Nat.beq pc 81 then js_al 0 1 else js_none)))))) else (bif Nat.ble pc 124 then (bif Nat.ble pc 104 then (bif Nat.ble pc 92 then (bif Nat.ble pc 89 then (bif Nat.ble pc 85 then (bif Nat.ble pc 82 then (bif Nat.beq pc 82 then js_getf 8 25 else js_none) else (bif Nat.beq pc 85 then js_al 0 1 else js_none)) else (bif Nat.ble pc 86 then (bif Nat.beq pc 86 then js_getf 8 37 else js_none) else (bif Nat.beq pc 89 then js_il 1 1 else js_none))) else (bif Nat.ble pc 91 then (bif Nat.ble pc 90 then (bif Nat.beq pc 90 then js_ald else js_none) else (bif Nat.beq pc 91 then js_ast else js_none)) else (bif Nat.beq pc 92 then js_al 0 1 else js_none))) else (bif Nat.ble pc 97 then (bif Nat.ble pc 96 then (bif Nat.ble pc 93 then (bif Nat.beq pc 93 then js_getf 8 28 else js_none) else (bif Nat.beq pc 96 then js_al 0 1 else js_none)) else (bif Nat.beq pc 97 then js_getf 8 25 else js_none)) else (bif Nat.ble pc 101 then (bif Nat.ble pc 100 then (bif Nat.beq pc 100 then js_al 0 1 else js_none) else (bif Nat.beq pc 101 then js_getf 8 38 else js_none)) else (bif Nat.beq pc 104 then js_il 1 1 else js_none)))) else (bif Nat.ble pc 112 then (bif Nat.ble pc 107 then (bif Nat.ble pc 106 then (bif Nat.ble pc 105 then (bif Nat.beq pc 105 then js_ald else js_none) else (bif Nat.beq pc 106 then js_ast else js_none)) else (bif Nat.beq pc 107 then js_al 0 1 else js_none)) else (bif Nat.ble pc 111 then (bif Nat.ble pc 108 then (bif Nat.beq pc 108 then js_getf 8 29 else js_none) else (bif Nat.beq pc 111 then js_al 0 1 else js_none)) else (bif Nat.beq pc 112 then js_getf 8 25 else js_none))) else (bif Nat.ble pc 119 then (bif Nat.ble pc 116 then (bif Nat.ble pc 115 then (bif Nat.beq pc 115 then js_al 0 1 else js_none) else (bif Nat.beq pc 116 then js_getf 8 31 else js_none)) else (bif Nat.beq pc 119 then js_ast else js_none)) else (bif Nat.ble pc 121 then (bif Nat.ble pc 120 then (bif Nat.beq pc 120 then js_al 0 1 else js_none) else (bif Nat.beq pc 121 then js_getf 8 30 else js_none)) else (bif Nat.beq pc 124 then js_al 0 1 else js_none))))) else (bif Nat.ble pc 147 then (bif Nat.ble pc 135 then (bif Nat.ble pc 130 then (bif Nat.ble pc 128 then (bif Nat.ble pc 125 then (bif Nat.beq pc 125 then js_getf 8 25 else js_none) else (bif Nat.beq pc 128 then js_c (-1) 1 else js_none)) else (bif Nat.ble pc 129 then (bif Nat.beq pc 129 then js_ast else js_none) else (bif Nat.beq pc 130 then js_al 0 1 else js_none))) else (bif Nat.ble pc 132 then (bif Nat.ble pc 131 then (bif Nat.beq pc 131 then js_dup else js_none) else (bif Nat.beq pc 132 then js_getf 8 25 else js_none)) else (bif Nat.beq pc 135 then js_c 1 1 else js_none))) else (bif Nat.ble pc 140 then (bif Nat.ble pc 137 then (bif Nat.ble pc 136 then (bif Nat.beq pc 136 then js_iadd else js_none) else (bif Nat.beq pc 137 then js_putf 8 25 false else js_none)) else (bif Nat.beq pc 140 then js_inc 1 1 else js_none)) else (bif Nat.ble pc 146 then (bif Nat.ble pc 143 then (bif Nat.beq pc 143 then js_go 33 else js_none) else (bif Nat.beq pc 146 then js_al 0 1 else js_none)) else (bif Nat.beq pc 147 then js_getf 8 32 else js_none)))) else (bif Nat.ble pc 159 then (bif Nat.ble pc 154 then (bif Nat.ble pc 151 then (bif Nat.ble pc 150 then (bif Nat.beq pc 150 then js_al 0 1 else js_none) else (bif Nat.beq pc 151 then js_getf 8 31 else js_none)) else (bif Nat.beq pc 154 then js_al 0 1 else js_none)) else (bif Nat.ble pc 158 then (bif Nat.ble pc 155 then (bif Nat.beq pc 155 then js_getf 8 32 else js_none) else (bif Nat.beq pc 158 then js_al 0 1 else js_none)) else (bif Nat.beq pc 159 then js_getf 8 31 else js_none))) else (bif Nat.ble pc 164 then (bif Nat.ble pc 163 then (bif Nat.ble pc 162 then (bif Nat.beq pc 162 then js_ald else js_none) else (bif Nat.beq pc 163 then js_al 0 1 else js_none)) else (bif Nat.beq pc 164 then js_getf 8 42 else js_none)) else (bif Nat.ble pc 168 then (bif Nat.ble pc 167 then (bif Nat.beq pc 167 then js_iadd else js_none) else (bif Nat.beq pc 168 then js_ast else js_none)) else (bif Nat.beq pc 169 then js_vr else js_none))))))
theorem jk_128_0 : jx_Snd 128 0 (js_c 0 1) := jo_iconst (z := 0) jd_128_0 rfl
theorem jk_128_1 : jx_Snd 128 1 (js_is 1 1) := jo_istore_n (i := 1) (w := 1) rfl (Nat.le_of_ble_eq_true rfl) jd_128_1
theorem jk_128_2 : jx_Snd 128 2 (js_il 1 1) := jo_iload_n (i := 1) (w := 1) rfl jd_128_2
theorem jk_128_3 : jx_Snd 128 3 (js_al 0 1) := jo_aload_n (i := 0) (w := 0) rfl jd_128_3
theorem jk_128_4 : jx_Snd 128 4 (js_getf 8 33) := jo_getf rfl jf_8_204 jd_128_4
theorem jk_128_7 : jx_Snd 128 7 (js_cge 31) := jo_cge (o := 24) rfl jd_128_7
theorem jk_128_10 : jx_Snd 128 10 (js_al 0 1) := jo_aload_n (i := 0) (w := 0) rfl jd_128_10
theorem jk_128_11 : jx_Snd 128 11 (js_getf 8 30) := jo_getf rfl jf_8_65 jd_128_11
theorem jk_128_14 : jx_Snd 128 14 (js_al 0 1) := jo_aload_n (i := 0) (w := 0) rfl jd_128_14
theorem jk_128_15 : jx_Snd 128 15 (js_getf 8 34) := jo_getf rfl jf_8_71 jd_128_15
theorem jk_128_18 : jx_Snd 128 18 (js_il 1 1) := jo_iload_n (i := 1) (w := 1) rfl jd_128_18
theorem jk_128_19 : jx_Snd 128 19 (js_ald) := jo_ald jd_128_19
theorem jk_128_20 : jx_Snd 128 20 (js_al 0 1) := jo_aload_n (i := 0) (w := 0) rfl jd_128_20
theorem jk_128_21 : jx_Snd 128 21 (js_getf 8 31) := jo_getf rfl jf_8_239 jd_128_21
theorem jk_128_24 : jx_Snd 128 24 (js_ast) := jo_ast jd_128_24
theorem jk_128_25 : jx_Snd 128 25 (js_inc 1 1) := jo_iinc (w := 1) rfl (Nat.le_of_ble_eq_true rfl) jd_128_25
theorem jk_128_28 : jx_Snd 128 28 (js_go 2) := jo_goto (o := (-26)) rfl jd_128_28
theorem jk_128_31 : jx_Snd 128 31 (js_c 0 1) := jo_iconst (z := 0) jd_128_31 rfl
theorem jk_128_32 : jx_Snd 128 32 (js_is 1 1) := jo_istore_n (i := 1) (w := 1) rfl (Nat.le_of_ble_eq_true rfl) jd_128_32
theorem jk_128_33 : jx_Snd 128 33 (js_il 1 1) := jo_iload_n (i := 1) (w := 1) rfl jd_128_33
theorem jk_128_34 : jx_Snd 128 34 (js_al 0 1) := jo_aload_n (i := 0) (w := 0) rfl jd_128_34
theorem jk_128_35 : jx_Snd 128 35 (js_getf 8 36) := jo_getf rfl jf_8_207 jd_128_35
theorem jk_128_38 : jx_Snd 128 38 (js_cge 146) := jo_cge (o := 108) rfl jd_128_38
theorem jk_128_41 : jx_Snd 128 41 (js_c 0 1) := jo_iconst (z := 0) jd_128_41 rfl
theorem jk_128_42 : jx_Snd 128 42 (js_is 2 1) := jo_istore_n (i := 2) (w := 2) rfl (Nat.le_of_ble_eq_true rfl) jd_128_42
theorem jk_128_43 : jx_Snd 128 43 (js_il 2 1) := jo_iload_n (i := 2) (w := 2) rfl jd_128_43
theorem jk_128_44 : jx_Snd 128 44 (js_c 3 1) := jo_iconst (z := 3) jd_128_44 rfl
theorem jk_128_45 : jx_Snd 128 45 (js_cge 77) := jo_cge (o := 32) rfl jd_128_45
theorem jk_128_48 : jx_Snd 128 48 (js_al 0 1) := jo_aload_n (i := 0) (w := 0) rfl jd_128_48
theorem jk_128_49 : jx_Snd 128 49 (js_getf 8 26) := jo_getf rfl jf_8_53 jd_128_49
theorem jk_128_52 : jx_Snd 128 52 (js_c 3 1) := jo_iconst (z := 3) jd_128_52 rfl
theorem jk_128_53 : jx_Snd 128 53 (js_al 0 1) := jo_aload_n (i := 0) (w := 0) rfl jd_128_53
theorem jk_128_54 : jx_Snd 128 54 (js_getf 8 25) := jo_getf rfl jf_8_104 jd_128_54
theorem jk_128_57 : jx_Snd 128 57 (js_imul) := jo_imul jd_128_57
theorem jk_128_58 : jx_Snd 128 58 (js_il 2 1) := jo_iload_n (i := 2) (w := 2) rfl jd_128_58
theorem jk_128_59 : jx_Snd 128 59 (js_iadd) := jo_iadd jd_128_59
theorem jk_128_60 : jx_Snd 128 60 (js_al 0 1) := jo_aload_n (i := 0) (w := 0) rfl jd_128_60
theorem jk_128_61 : jx_Snd 128 61 (js_getf 8 39) := jo_getf rfl jf_8_83 jd_128_61
theorem jk_128_64 : jx_Snd 128 64 (js_c 3 1) := jo_iconst (z := 3) jd_128_64 rfl
theorem jk_128_65 : jx_Snd 128 65 (js_il 1 1) := jo_iload_n (i := 1) (w := 1) rfl jd_128_65
theorem jk_128_66 : jx_Snd 128 66 (js_imul) := jo_imul jd_128_66
theorem jk_128_67 : jx_Snd 128 67 (js_il 2 1) := jo_iload_n (i := 2) (w := 2) rfl jd_128_67
theorem jk_128_68 : jx_Snd 128 68 (js_iadd) := jo_iadd jd_128_68
theorem jk_128_69 : jx_Snd 128 69 (js_ald) := jo_ald jd_128_69
theorem jk_128_70 : jx_Snd 128 70 (js_ast) := jo_ast jd_128_70
theorem jk_128_71 : jx_Snd 128 71 (js_inc 2 1) := jo_iinc (w := 1) rfl (Nat.le_of_ble_eq_true rfl) jd_128_71
theorem jk_128_74 : jx_Snd 128 74 (js_go 43) := jo_goto (o := (-31)) rfl jd_128_74
theorem jk_128_77 : jx_Snd 128 77 (js_al 0 1) := jo_aload_n (i := 0) (w := 0) rfl jd_128_77
theorem jk_128_78 : jx_Snd 128 78 (js_getf 8 27) := jo_getf rfl jf_8_56 jd_128_78
theorem jk_128_81 : jx_Snd 128 81 (js_al 0 1) := jo_aload_n (i := 0) (w := 0) rfl jd_128_81
theorem jk_128_82 : jx_Snd 128 82 (js_getf 8 25) := jo_getf rfl jf_8_104 jd_128_82
theorem jk_128_85 : jx_Snd 128 85 (js_al 0 1) := jo_aload_n (i := 0) (w := 0) rfl jd_128_85
theorem jk_128_86 : jx_Snd 128 86 (js_getf 8 37) := jo_getf rfl jf_8_77 jd_128_86
theorem jk_128_89 : jx_Snd 128 89 (js_il 1 1) := jo_iload_n (i := 1) (w := 1) rfl jd_128_89
theorem jk_128_90 : jx_Snd 128 90 (js_ald) := jo_ald jd_128_90
theorem jk_128_91 : jx_Snd 128 91 (js_ast) := jo_ast jd_128_91
theorem jk_128_92 : jx_Snd 128 92 (js_al 0 1) := jo_aload_n (i := 0) (w := 0) rfl jd_128_92
theorem jk_128_93 : jx_Snd 128 93 (js_getf 8 28) := jo_getf rfl jf_8_59 jd_128_93
theorem jk_128_96 : jx_Snd 128 96 (js_al 0 1) := jo_aload_n (i := 0) (w := 0) rfl jd_128_96
theorem jk_128_97 : jx_Snd 128 97 (js_getf 8 25) := jo_getf rfl jf_8_104 jd_128_97
theorem jk_128_100 : jx_Snd 128 100 (js_al 0 1) := jo_aload_n (i := 0) (w := 0) rfl jd_128_100
theorem jk_128_101 : jx_Snd 128 101 (js_getf 8 38) := jo_getf rfl jf_8_80 jd_128_101
theorem jk_128_104 : jx_Snd 128 104 (js_il 1 1) := jo_iload_n (i := 1) (w := 1) rfl jd_128_104
theorem jk_128_105 : jx_Snd 128 105 (js_ald) := jo_ald jd_128_105
theorem jk_128_106 : jx_Snd 128 106 (js_ast) := jo_ast jd_128_106
theorem jk_128_107 : jx_Snd 128 107 (js_al 0 1) := jo_aload_n (i := 0) (w := 0) rfl jd_128_107
theorem jk_128_108 : jx_Snd 128 108 (js_getf 8 29) := jo_getf rfl jf_8_62 jd_128_108
theorem jk_128_111 : jx_Snd 128 111 (js_al 0 1) := jo_aload_n (i := 0) (w := 0) rfl jd_128_111
theorem jk_128_112 : jx_Snd 128 112 (js_getf 8 25) := jo_getf rfl jf_8_104 jd_128_112
theorem jk_128_115 : jx_Snd 128 115 (js_al 0 1) := jo_aload_n (i := 0) (w := 0) rfl jd_128_115
theorem jk_128_116 : jx_Snd 128 116 (js_getf 8 31) := jo_getf rfl jf_8_239 jd_128_116
theorem jk_128_119 : jx_Snd 128 119 (js_ast) := jo_ast jd_128_119
theorem jk_128_120 : jx_Snd 128 120 (js_al 0 1) := jo_aload_n (i := 0) (w := 0) rfl jd_128_120
theorem jk_128_121 : jx_Snd 128 121 (js_getf 8 30) := jo_getf rfl jf_8_65 jd_128_121
theorem jk_128_124 : jx_Snd 128 124 (js_al 0 1) := jo_aload_n (i := 0) (w := 0) rfl jd_128_124
theorem jk_128_125 : jx_Snd 128 125 (js_getf 8 25) := jo_getf rfl jf_8_104 jd_128_125
theorem jk_128_128 : jx_Snd 128 128 (js_c (-1) 1) := jo_iconst (z := (-1)) jd_128_128 rfl
theorem jk_128_129 : jx_Snd 128 129 (js_ast) := jo_ast jd_128_129
theorem jk_128_130 : jx_Snd 128 130 (js_al 0 1) := jo_aload_n (i := 0) (w := 0) rfl jd_128_130
theorem jk_128_131 : jx_Snd 128 131 (js_dup) := jo_dup jd_128_131
theorem jk_128_132 : jx_Snd 128 132 (js_getf 8 25) := jo_getf rfl jf_8_104 jd_128_132
theorem jk_128_135 : jx_Snd 128 135 (js_c 1 1) := jo_iconst (z := 1) jd_128_135 rfl
theorem jk_128_136 : jx_Snd 128 136 (js_iadd) := jo_iadd jd_128_136
theorem jk_128_137 : jx_Snd 128 137 (js_putf 8 25 false) := jo_putf (z := false) rfl jf_8_104 (fun C T N h => by cases h; rfl) jd_128_137
theorem jk_128_140 : jx_Snd 128 140 (js_inc 1 1) := jo_iinc (w := 1) rfl (Nat.le_of_ble_eq_true rfl) jd_128_140
theorem jk_128_143 : jx_Snd 128 143 (js_go 33) := jo_goto (o := (-110)) rfl jd_128_143
theorem jk_128_146 : jx_Snd 128 146 (js_al 0 1) := jo_aload_n (i := 0) (w := 0) rfl jd_128_146
theorem jk_128_147 : jx_Snd 128 147 (js_getf 8 32) := jo_getf rfl jf_8_68 jd_128_147
theorem jk_128_150 : jx_Snd 128 150 (js_al 0 1) := jo_aload_n (i := 0) (w := 0) rfl jd_128_150
theorem jk_128_151 : jx_Snd 128 151 (js_getf 8 31) := jo_getf rfl jf_8_239 jd_128_151
theorem jk_128_154 : jx_Snd 128 154 (js_al 0 1) := jo_aload_n (i := 0) (w := 0) rfl jd_128_154
theorem jk_128_155 : jx_Snd 128 155 (js_getf 8 32) := jo_getf rfl jf_8_68 jd_128_155
theorem jk_128_158 : jx_Snd 128 158 (js_al 0 1) := jo_aload_n (i := 0) (w := 0) rfl jd_128_158
theorem jk_128_159 : jx_Snd 128 159 (js_getf 8 31) := jo_getf rfl jf_8_239 jd_128_159
theorem jk_128_162 : jx_Snd 128 162 (js_ald) := jo_ald jd_128_162
theorem jk_128_163 : jx_Snd 128 163 (js_al 0 1) := jo_aload_n (i := 0) (w := 0) rfl jd_128_163
theorem jk_128_164 : jx_Snd 128 164 (js_getf 8 42) := jo_getf rfl jf_8_210 jd_128_164
theorem jk_128_167 : jx_Snd 128 167 (js_iadd) := jo_iadd jd_128_167
theorem jk_128_168 : jx_Snd 128 168 (js_ast) := jo_ast jd_128_168
theorem jk_128_169 : jx_Snd 128 169 (js_vr) := jo_vr rfl jd_128_169
theorem jk_128 : jx_So 128 jt_128 := fun pc => jo_le (jo_le (jo_le (jo_le (jo_le (jo_le (jo_le (jo_at (jk_128_0)) (jo_at (jk_128_1))) (jo_le (jo_at (jk_128_2)) (jo_at (jk_128_3)))) (jo_le (jo_le (jo_at (jk_128_4)) (jo_at (jk_128_7))) (jo_at (jk_128_10)))) (jo_le (jo_le (jo_le (jo_at (jk_128_11)) (jo_at (jk_128_14))) (jo_at (jk_128_15))) (jo_le (jo_le (jo_at (jk_128_18)) (jo_at (jk_128_19))) (jo_at (jk_128_20))))) (jo_le (jo_le (jo_le (jo_le (jo_at (jk_128_21)) (jo_at (jk_128_24))) (jo_at (jk_128_25))) (jo_le (jo_le (jo_at (jk_128_28)) (jo_at (jk_128_31))) (jo_at (jk_128_32)))) (jo_le (jo_le (jo_le (jo_at (jk_128_33)) (jo_at (jk_128_34))) (jo_at (jk_128_35))) (jo_le (jo_le (jo_at (jk_128_38)) (jo_at (jk_128_41))) (jo_at (jk_128_42)))))) (jo_le (jo_le (jo_le (jo_le (jo_le (jo_at (jk_128_43)) (jo_at (jk_128_44))) (jo_le (jo_at (jk_128_45)) (jo_at (jk_128_48)))) (jo_le (jo_le (jo_at (jk_128_49)) (jo_at (jk_128_52))) (jo_at (jk_128_53)))) (jo_le (jo_le (jo_le (jo_at (jk_128_54)) (jo_at (jk_128_57))) (jo_at (jk_128_58))) (jo_le (jo_le (jo_at (jk_128_59)) (jo_at (jk_128_60))) (jo_at (jk_128_61))))) (jo_le (jo_le (jo_le (jo_le (jo_at (jk_128_64)) (jo_at (jk_128_65))) (jo_at (jk_128_66))) (jo_le (jo_le (jo_at (jk_128_67)) (jo_at (jk_128_68))) (jo_at (jk_128_69)))) (jo_le (jo_le (jo_le (jo_at (jk_128_70)) (jo_at (jk_128_71))) (jo_at (jk_128_74))) (jo_le (jo_le (jo_at (jk_128_77)) (jo_at (jk_128_78))) (jo_at (jk_128_81))))))) (jo_le (jo_le (jo_le (jo_le (jo_le (jo_le (jo_at (jk_128_82)) (jo_at (jk_128_85))) (jo_le (jo_at (jk_128_86)) (jo_at (jk_128_89)))) (jo_le (jo_le (jo_at (jk_128_90)) (jo_at (jk_128_91))) (jo_at (jk_128_92)))) (jo_le (jo_le (jo_le (jo_at (jk_128_93)) (jo_at (jk_128_96))) (jo_at (jk_128_97))) (jo_le (jo_le (jo_at (jk_128_100)) (jo_at (jk_128_101))) (jo_at (jk_128_104))))) (jo_le (jo_le (jo_le (jo_le (jo_at (jk_128_105)) (jo_at (jk_128_106))) (jo_at (jk_128_107))) (jo_le (jo_le (jo_at (jk_128_108)) (jo_at (jk_128_111))) (jo_at (jk_128_112)))) (jo_le (jo_le (jo_le (jo_at (jk_128_115)) (jo_at (jk_128_116))) (jo_at (jk_128_119))) (jo_le (jo_le (jo_at (jk_128_120)) (jo_at (jk_128_121))) (jo_at (jk_128_124)))))) (jo_le (jo_le (jo_le (jo_le (jo_le (jo_at (jk_128_125)) (jo_at (jk_128_128))) (jo_le (jo_at (jk_128_129)) (jo_at (jk_128_130)))) (jo_le (jo_le (jo_at (jk_128_131)) (jo_at (jk_128_132))) (jo_at (jk_128_135)))) (jo_le (jo_le (jo_le (jo_at (jk_128_136)) (jo_at (jk_128_137))) (jo_at (jk_128_140))) (jo_le (jo_le (jo_at (jk_128_143)) (jo_at (jk_128_146))) (jo_at (jk_128_147))))) (jo_le (jo_le (jo_le (jo_le (jo_at (jk_128_150)) (jo_at (jk_128_151))) (jo_at (jk_128_154))) (jo_le (jo_le (jo_at (jk_128_155)) (jo_at (jk_128_158))) (jo_at (jk_128_159)))) (jo_le (jo_le (jo_le (jo_at (jk_128_162)) (jo_at (jk_128_163))) (jo_at (jk_128_164))) (jo_le (jo_le (jo_at (jk_128_167)) (jo_at (jk_128_168))) (jo_at (jk_128_169)))))))
theorem ji_128 {l : Launch} {D : va_G} {cA : ClassId} {ρ : Nat → Nat} {Λ : List jx_Lc} {d : Nat} {Q : Option Value → jx_St → Prop} {σ : jx_St} {z0 : Nat} (h : jt_128 0 Λ jx_tb0 (jx_rn Λ jx_tb0 jt_128 (fun k' as σ K => jx_C l D cA ρ Λ d k' as σ K) Q (jx_J l D cA ρ Λ (jx_A ρ Λ) jx_tb0 (d + 1) 128 Q) [] 400) (fun k' as σ K => jx_C l D cA ρ Λ d k' as σ K) Q 0 [(0, .ref z0)] [] σ) : jx_C l D cA ρ Λ (d + 1) 128 [.ref z0] σ Q := jx_in jk_128 400 [] rfl (Nat.le_of_ble_eq_true rfl) h
/-! ScriptLedgerModel.submit()I -/
theorem jd_129_0 : decode prog_10_method_42_code 0 = .ok (.aload_n 0, 1) := by decide +kernel
theorem jd_129_1 : decode prog_10_method_42_code 1 = .ok (.invokevirtual 262, 3) := by decide +kernel
theorem jd_129_4 : decode prog_10_method_42_code 4 = .ok (.istore_n 1, 1) := by decide +kernel
theorem jd_129_5 : decode prog_10_method_42_code 5 = .ok (.iload_n 1, 1) := by decide +kernel
theorem jd_129_6 : decode prog_10_method_42_code 6 = .ok (.ifCond .ne 12, 3) := by decide +kernel
theorem jd_129_9 : decode prog_10_method_42_code 9 = .ok (.aload_n 0, 1) := by decide +kernel
theorem jd_129_10 : decode prog_10_method_42_code 10 = .ok (.invokevirtual 265, 3) := by decide +kernel
theorem jd_129_13 : decode prog_10_method_42_code 13 = .ok (.ifCond .ne 5, 3) := by decide +kernel
theorem jd_129_16 : decode prog_10_method_42_code 16 = .ok (.iconst 1, 1) := by decide +kernel
theorem jd_129_17 : decode prog_10_method_42_code 17 = .ok (.istore_n 1, 1) := by decide +kernel
theorem jd_129_18 : decode prog_10_method_42_code 18 = .ok (.iload_n 1, 1) := by decide +kernel
theorem jd_129_19 : decode prog_10_method_42_code 19 = .ok (.ifCond .ne 7, 3) := by decide +kernel
theorem jd_129_22 : decode prog_10_method_42_code 22 = .ok (.aload_n 0, 1) := by decide +kernel
theorem jd_129_23 : decode prog_10_method_42_code 23 = .ok (.invokevirtual 268, 3) := by decide +kernel
theorem jd_129_26 : decode prog_10_method_42_code 26 = .ok (.iload_n 1, 1) := by decide +kernel
theorem jd_129_27 : decode prog_10_method_42_code 27 = .ok (.iconst 1, 1) := by decide +kernel
theorem jd_129_28 : decode prog_10_method_42_code 28 = .ok (.if_icmp .ne 46, 3) := by decide +kernel
theorem jd_129_31 : decode prog_10_method_42_code 31 = .ok (.aload_n 0, 1) := by decide +kernel
theorem jd_129_32 : decode prog_10_method_42_code 32 = .ok (.getfield 65, 3) := by decide +kernel
theorem jd_129_35 : decode prog_10_method_42_code 35 = .ok (.aload_n 0, 1) := by decide +kernel
theorem jd_129_36 : decode prog_10_method_42_code 36 = .ok (.getfield 95, 3) := by decide +kernel
theorem jd_129_39 : decode prog_10_method_42_code 39 = .ok (.aload_n 0, 1) := by decide +kernel
theorem jd_129_40 : decode prog_10_method_42_code 40 = .ok (.getfield 239, 3) := by decide +kernel
theorem jd_129_43 : decode prog_10_method_42_code 43 = .ok (.iastore, 1) := by decide +kernel
theorem jd_129_44 : decode prog_10_method_42_code 44 = .ok (.aload_n 0, 1) := by decide +kernel
theorem jd_129_45 : decode prog_10_method_42_code 45 = .ok (.getfield 68, 3) := by decide +kernel
theorem jd_129_48 : decode prog_10_method_42_code 48 = .ok (.aload_n 0, 1) := by decide +kernel
theorem jd_129_49 : decode prog_10_method_42_code 49 = .ok (.getfield 239, 3) := by decide +kernel
theorem jd_129_52 : decode prog_10_method_42_code 52 = .ok (.aload_n 0, 1) := by decide +kernel
theorem jd_129_53 : decode prog_10_method_42_code 53 = .ok (.getfield 68, 3) := by decide +kernel
theorem jd_129_56 : decode prog_10_method_42_code 56 = .ok (.aload_n 0, 1) := by decide +kernel
theorem jd_129_57 : decode prog_10_method_42_code 57 = .ok (.getfield 239, 3) := by decide +kernel
theorem jd_129_60 : decode prog_10_method_42_code 60 = .ok (.iaload, 1) := by decide +kernel
theorem jd_129_61 : decode prog_10_method_42_code 61 = .ok (.aload_n 0, 1) := by decide +kernel
theorem jd_129_62 : decode prog_10_method_42_code 62 = .ok (.getfield 53, 3) := by decide +kernel
theorem jd_129_65 : decode prog_10_method_42_code 65 = .ok (.iconst 3, 1) := by decide +kernel
theorem jd_129_66 : decode prog_10_method_42_code 66 = .ok (.aload_n 0, 1) := by decide +kernel
theorem jd_129_67 : decode prog_10_method_42_code 67 = .ok (.getfield 95, 3) := by decide +kernel
theorem jd_129_70 : decode prog_10_method_42_code 70 = .ok (.imul, 1) := by decide +kernel
theorem jd_129_71 : decode prog_10_method_42_code 71 = .ok (.iaload, 1) := by decide +kernel
theorem jd_129_72 : decode prog_10_method_42_code 72 = .ok (.iadd, 1) := by decide +kernel
theorem jd_129_73 : decode prog_10_method_42_code 73 = .ok (.iastore, 1) := by decide +kernel
theorem jd_129_74 : decode prog_10_method_42_code 74 = .ok (.aload_n 0, 1) := by decide +kernel
theorem jd_129_75 : decode prog_10_method_42_code 75 = .ok (.invokevirtual 271, 3) := by decide +kernel
theorem jd_129_78 : decode prog_10_method_42_code 78 = .ok (.iload_n 1, 1) := by decide +kernel
theorem jd_129_79 : decode prog_10_method_42_code 79 = .ok (.ireturn, 1) := by decide +kernel
def jt_129 (pc : Nat) : jx_Sp := bif Nat.ble pc 40 then (bif Nat.ble pc 19 then (bif Nat.ble pc 9 then (bif Nat.ble pc 4 then (bif Nat.ble pc 1 then (bif Nat.ble pc 0 then (bif Nat.beq pc 0 then js_al 0 1 else js_none) else (bif Nat.beq pc 1 then js_v0 8 124 else js_none)) else (bif Nat.beq pc 4 then js_is 1 1 else js_none)) else (bif Nat.ble pc 6 then (bif Nat.ble pc 5 then (bif Nat.beq pc 5 then js_il 1 1 else js_none) else (bif Nat.beq pc 6 then js_ifne 18 else js_none)) else (bif Nat.beq pc 9 then js_al 0 1 else js_none))) else (bif Nat.ble pc 16 then (bif Nat.ble pc 13 then (bif Nat.ble pc 10 then (bif Nat.beq pc 10 then js_v0 8 127 else js_none) else (bif Nat.beq pc 13 then js_ifne 18 else js_none)) else (bif Nat.beq pc 16 then js_c 1 1 else js_none)) else (bif Nat.ble pc 18 then (bif Nat.ble pc 17 then (bif Nat.beq pc 17 then js_is 1 1 else js_none) else (bif Nat.beq pc 18 then js_il 1 1 else js_none)) else (bif Nat.beq pc 19 then js_ifne 26 else js_none)))) else (bif Nat.ble pc 31 then (bif Nat.ble pc 26 then (bif Nat.ble pc 23 then (bif Nat.ble pc 22 then (bif Nat.beq pc 22 then js_al 0 1 else js_none) else (bif Nat.beq pc 23 then js_v0 8 128 else js_none)) else (bif Nat.beq pc 26 then js_il 1 1 else js_none)) else (bif Nat.ble pc 28 then (bif Nat.ble pc 27 then (bif Nat.beq pc 27 then js_c 1 1 else js_none) else (bif Nat.beq pc 28 then js_cne 74 else js_none)) else (bif Nat.beq pc 31 then js_al 0 1 else js_none))) else (bif Nat.ble pc 36 then (bif Nat.ble pc 35 then (bif Nat.ble pc 32 then (bif Nat.beq pc 32 then js_getf 8 30 else js_none) else (bif Nat.beq pc 35 then js_al 0 1 else js_none)) else (bif Nat.beq pc 36 then js_getf 8 47 else js_none)) else (bif Nat.ble pc 39 then (bif Nat.beq pc 39 then js_al 0 1 else js_none) else (bif Nat.beq pc 40 then js_getf 8 31 else js_none))))) else (bif Nat.ble pc 62 then (bif Nat.ble pc 52 then (bif Nat.ble pc 45 then (bif Nat.ble pc 44 then (bif Nat.ble pc 43 then (bif Nat.beq pc 43 then js_ast else js_none) else (bif Nat.beq pc 44 then js_al 0 1 else js_none)) else (bif Nat.beq pc 45 then js_getf 8 32 else js_none)) else (bif Nat.ble pc 49 then (bif Nat.ble pc 48 then (bif Nat.beq pc 48 then js_al 0 1 else js_none) else (bif Nat.beq pc 49 then js_getf 8 31 else js_none)) else (bif Nat.beq pc 52 then js_al 0 1 else js_none))) else (bif Nat.ble pc 57 then (bif Nat.ble pc 56 then (bif Nat.ble pc 53 then (bif Nat.beq pc 53 then js_getf 8 32 else js_none) else (bif Nat.beq pc 56 then js_al 0 1 else js_none)) else (bif Nat.beq pc 57 then js_getf 8 31 else js_none)) else (bif Nat.ble pc 61 then (bif Nat.ble pc 60 then (bif Nat.beq pc 60 then js_ald else js_none) else (bif Nat.beq pc 61 then js_al 0 1 else js_none)) else (bif Nat.beq pc 62 then js_getf 8 26 else js_none)))) else (bif Nat.ble pc 72 then (bif Nat.ble pc 67 then (bif Nat.ble pc 66 then (bif Nat.ble pc 65 then (bif Nat.beq pc 65 then js_c 3 1 else js_none) else (bif Nat.beq pc 66 then js_al 0 1 else js_none)) else (bif Nat.beq pc 67 then js_getf 8 47 else js_none)) else (bif Nat.ble pc 71 then (bif Nat.ble pc 70 then (bif Nat.beq pc 70 then js_imul else js_none) else (bif Nat.beq pc 71 then js_ald else js_none)) else (bif Nat.beq pc 72 then js_iadd else js_none))) else (bif Nat.ble pc 75 then (bif Nat.ble pc 74 then (bif Nat.ble pc 73 then (bif Nat.beq pc 73 then js_ast else js_none) else (bif Nat.beq pc 74 then js_al 0 1 else js_none)) else (bif Nat.beq pc 75 then js_v0 8 110 else js_none)) else (bif Nat.ble pc 78 then (bif Nat.beq pc 78 then js_il 1 1 else js_none) else (bif Nat.beq pc 79 then js_ir else js_none)))))
theorem jk_129_0 : jx_Snd 129 0 (js_al 0 1) := jo_aload_n (i := 0) (w := 0) rfl jd_129_0
theorem jk_129_1 : jx_Snd 129 1 (js_v0 8 124) := jo_v0 rfl jok_124 (Or.inl jw_618) jw_619 jw_730 rfl jd_129_1
theorem jk_129_4 : jx_Snd 129 4 (js_is 1 1) := jo_istore_n (i := 1) (w := 1) rfl (Nat.le_of_ble_eq_true rfl) jd_129_4
theorem jk_129_5 : jx_Snd 129 5 (js_il 1 1) := jo_iload_n (i := 1) (w := 1) rfl jd_129_5
theorem jk_129_6 : jx_Snd 129 6 (js_ifne 18) := jo_ifne (o := 12) rfl jd_129_6
theorem jk_129_9 : jx_Snd 129 9 (js_al 0 1) := jo_aload_n (i := 0) (w := 0) rfl jd_129_9
theorem jk_129_10 : jx_Snd 129 10 (js_v0 8 127) := jo_v0 rfl jok_127 (Or.inl jw_643) jw_644 jw_738 rfl jd_129_10
theorem jk_129_13 : jx_Snd 129 13 (js_ifne 18) := jo_ifne (o := 5) rfl jd_129_13
theorem jk_129_16 : jx_Snd 129 16 (js_c 1 1) := jo_iconst (z := 1) jd_129_16 rfl
theorem jk_129_17 : jx_Snd 129 17 (js_is 1 1) := jo_istore_n (i := 1) (w := 1) rfl (Nat.le_of_ble_eq_true rfl) jd_129_17
theorem jk_129_18 : jx_Snd 129 18 (js_il 1 1) := jo_iload_n (i := 1) (w := 1) rfl jd_129_18
theorem jk_129_19 : jx_Snd 129 19 (js_ifne 26) := jo_ifne (o := 7) rfl jd_129_19
theorem jk_129_22 : jx_Snd 129 22 (js_al 0 1) := jo_aload_n (i := 0) (w := 0) rfl jd_129_22
theorem jk_129_23 : jx_Snd 129 23 (js_v0 8 128) := jo_v0 rfl jok_128 (Or.inl jw_652) jw_653 jw_741 rfl jd_129_23
theorem jk_129_26 : jx_Snd 129 26 (js_il 1 1) := jo_iload_n (i := 1) (w := 1) rfl jd_129_26
theorem jk_129_27 : jx_Snd 129 27 (js_c 1 1) := jo_iconst (z := 1) jd_129_27 rfl
theorem jk_129_28 : jx_Snd 129 28 (js_cne 74) := jo_cne (o := 46) rfl jd_129_28
theorem jk_129_31 : jx_Snd 129 31 (js_al 0 1) := jo_aload_n (i := 0) (w := 0) rfl jd_129_31
theorem jk_129_32 : jx_Snd 129 32 (js_getf 8 30) := jo_getf rfl jf_8_65 jd_129_32
theorem jk_129_35 : jx_Snd 129 35 (js_al 0 1) := jo_aload_n (i := 0) (w := 0) rfl jd_129_35
theorem jk_129_36 : jx_Snd 129 36 (js_getf 8 47) := jo_getf rfl jf_8_95 jd_129_36
theorem jk_129_39 : jx_Snd 129 39 (js_al 0 1) := jo_aload_n (i := 0) (w := 0) rfl jd_129_39
theorem jk_129_40 : jx_Snd 129 40 (js_getf 8 31) := jo_getf rfl jf_8_239 jd_129_40
theorem jk_129_43 : jx_Snd 129 43 (js_ast) := jo_ast jd_129_43
theorem jk_129_44 : jx_Snd 129 44 (js_al 0 1) := jo_aload_n (i := 0) (w := 0) rfl jd_129_44
theorem jk_129_45 : jx_Snd 129 45 (js_getf 8 32) := jo_getf rfl jf_8_68 jd_129_45
theorem jk_129_48 : jx_Snd 129 48 (js_al 0 1) := jo_aload_n (i := 0) (w := 0) rfl jd_129_48
theorem jk_129_49 : jx_Snd 129 49 (js_getf 8 31) := jo_getf rfl jf_8_239 jd_129_49
theorem jk_129_52 : jx_Snd 129 52 (js_al 0 1) := jo_aload_n (i := 0) (w := 0) rfl jd_129_52
theorem jk_129_53 : jx_Snd 129 53 (js_getf 8 32) := jo_getf rfl jf_8_68 jd_129_53
theorem jk_129_56 : jx_Snd 129 56 (js_al 0 1) := jo_aload_n (i := 0) (w := 0) rfl jd_129_56
theorem jk_129_57 : jx_Snd 129 57 (js_getf 8 31) := jo_getf rfl jf_8_239 jd_129_57
theorem jk_129_60 : jx_Snd 129 60 (js_ald) := jo_ald jd_129_60
theorem jk_129_61 : jx_Snd 129 61 (js_al 0 1) := jo_aload_n (i := 0) (w := 0) rfl jd_129_61
theorem jk_129_62 : jx_Snd 129 62 (js_getf 8 26) := jo_getf rfl jf_8_53 jd_129_62
theorem jk_129_65 : jx_Snd 129 65 (js_c 3 1) := jo_iconst (z := 3) jd_129_65 rfl
theorem jk_129_66 : jx_Snd 129 66 (js_al 0 1) := jo_aload_n (i := 0) (w := 0) rfl jd_129_66
theorem jk_129_67 : jx_Snd 129 67 (js_getf 8 47) := jo_getf rfl jf_8_95 jd_129_67
theorem jk_129_70 : jx_Snd 129 70 (js_imul) := jo_imul jd_129_70
theorem jk_129_71 : jx_Snd 129 71 (js_ald) := jo_ald jd_129_71
theorem jk_129_72 : jx_Snd 129 72 (js_iadd) := jo_iadd jd_129_72
theorem jk_129_73 : jx_Snd 129 73 (js_ast) := jo_ast jd_129_73
theorem jk_129_74 : jx_Snd 129 74 (js_al 0 1) := jo_aload_n (i := 0) (w := 0) rfl jd_129_74
theorem jk_129_75 : jx_Snd 129 75 (js_v0 8 110) := jo_v0 rfl jok_110 (Or.inl jw_655) jw_585 jw_586 rfl jd_129_75
theorem jk_129_78 : jx_Snd 129 78 (js_il 1 1) := jo_iload_n (i := 1) (w := 1) rfl jd_129_78
theorem jk_129_79 : jx_Snd 129 79 (js_ir) := jo_ir rfl jd_129_79
theorem jk_129 : jx_So 129 jt_129 := fun pc => jo_le (jo_le (jo_le (jo_le (jo_le (jo_le (jo_at (jk_129_0)) (jo_at (jk_129_1))) (jo_at (jk_129_4))) (jo_le (jo_le (jo_at (jk_129_5)) (jo_at (jk_129_6))) (jo_at (jk_129_9)))) (jo_le (jo_le (jo_le (jo_at (jk_129_10)) (jo_at (jk_129_13))) (jo_at (jk_129_16))) (jo_le (jo_le (jo_at (jk_129_17)) (jo_at (jk_129_18))) (jo_at (jk_129_19))))) (jo_le (jo_le (jo_le (jo_le (jo_at (jk_129_22)) (jo_at (jk_129_23))) (jo_at (jk_129_26))) (jo_le (jo_le (jo_at (jk_129_27)) (jo_at (jk_129_28))) (jo_at (jk_129_31)))) (jo_le (jo_le (jo_le (jo_at (jk_129_32)) (jo_at (jk_129_35))) (jo_at (jk_129_36))) (jo_le (jo_at (jk_129_39)) (jo_at (jk_129_40)))))) (jo_le (jo_le (jo_le (jo_le (jo_le (jo_at (jk_129_43)) (jo_at (jk_129_44))) (jo_at (jk_129_45))) (jo_le (jo_le (jo_at (jk_129_48)) (jo_at (jk_129_49))) (jo_at (jk_129_52)))) (jo_le (jo_le (jo_le (jo_at (jk_129_53)) (jo_at (jk_129_56))) (jo_at (jk_129_57))) (jo_le (jo_le (jo_at (jk_129_60)) (jo_at (jk_129_61))) (jo_at (jk_129_62))))) (jo_le (jo_le (jo_le (jo_le (jo_at (jk_129_65)) (jo_at (jk_129_66))) (jo_at (jk_129_67))) (jo_le (jo_le (jo_at (jk_129_70)) (jo_at (jk_129_71))) (jo_at (jk_129_72)))) (jo_le (jo_le (jo_le (jo_at (jk_129_73)) (jo_at (jk_129_74))) (jo_at (jk_129_75))) (jo_le (jo_at (jk_129_78)) (jo_at (jk_129_79))))))
theorem ji_129 {l : Launch} {D : va_G} {cA : ClassId} {ρ : Nat → Nat} {Λ : List jx_Lc} {d : Nat} {Q : Option Value → jx_St → Prop} {σ : jx_St} {z0 : Nat} (h : jt_129 0 Λ jx_tb0 (jx_rn Λ jx_tb0 jt_129 (fun k' as σ K => jx_C l D cA ρ Λ d k' as σ K) Q (jx_J l D cA ρ Λ (jx_A ρ Λ) jx_tb0 (d + 1) 129 Q) [] 400) (fun k' as σ K => jx_C l D cA ρ Λ d k' as σ K) Q 0 [(0, .ref z0)] [] σ) : jx_C l D cA ρ Λ (d + 1) 129 [.ref z0] σ Q := jx_in jk_129 400 [] rfl (Nat.le_of_ble_eq_true rfl) h
/-! ScriptLedgerModel.block()I -/
theorem jd_130_0 : decode prog_10_method_43_code 0 = .ok (.aload_n 0, 1) := by decide +kernel
theorem jd_130_1 : decode prog_10_method_43_code 1 = .ok (.getfield 239, 3) := by decide +kernel
theorem jd_130_4 : decode prog_10_method_43_code 4 = .ok (.bipush 40, 2) := by decide +kernel
theorem jd_130_6 : decode prog_10_method_43_code 6 = .ok (.if_icmp .ne 5, 3) := by decide +kernel
theorem jd_130_9 : decode prog_10_method_43_code 9 = .ok (.iconst (-1), 1) := by decide +kernel
theorem jd_130_10 : decode prog_10_method_43_code 10 = .ok (.ireturn, 1) := by decide +kernel
theorem jd_130_11 : decode prog_10_method_43_code 11 = .ok (.aload_n 0, 1) := by decide +kernel
theorem jd_130_12 : decode prog_10_method_43_code 12 = .ok (.dup, 1) := by decide +kernel
theorem jd_130_13 : decode prog_10_method_43_code 13 = .ok (.getfield 239, 3) := by decide +kernel
theorem jd_130_16 : decode prog_10_method_43_code 16 = .ok (.iconst 1, 1) := by decide +kernel
theorem jd_130_17 : decode prog_10_method_43_code 17 = .ok (.iadd, 1) := by decide +kernel
theorem jd_130_18 : decode prog_10_method_43_code 18 = .ok (.putfield 239, 3) := by decide +kernel
theorem jd_130_21 : decode prog_10_method_43_code 21 = .ok (.aload_n 0, 1) := by decide +kernel
theorem jd_130_22 : decode prog_10_method_43_code 22 = .ok (.getfield 239, 3) := by decide +kernel
theorem jd_130_25 : decode prog_10_method_43_code 25 = .ok (.ireturn, 1) := by decide +kernel
def jt_130 (pc : Nat) : jx_Sp := bif Nat.ble pc 12 then (bif Nat.ble pc 6 then (bif Nat.ble pc 1 then (bif Nat.ble pc 0 then (bif Nat.beq pc 0 then js_al 0 1 else js_none) else (bif Nat.beq pc 1 then js_getf 8 31 else js_none)) else (bif Nat.ble pc 4 then (bif Nat.beq pc 4 then js_c 40 2 else js_none) else (bif Nat.beq pc 6 then js_cne 11 else js_none))) else (bif Nat.ble pc 10 then (bif Nat.ble pc 9 then (bif Nat.beq pc 9 then js_c (-1) 1 else js_none) else (bif Nat.beq pc 10 then js_ir else js_none)) else (bif Nat.ble pc 11 then (bif Nat.beq pc 11 then js_al 0 1 else js_none) else (bif Nat.beq pc 12 then js_dup else js_none)))) else (bif Nat.ble pc 18 then (bif Nat.ble pc 16 then (bif Nat.ble pc 13 then (bif Nat.beq pc 13 then js_getf 8 31 else js_none) else (bif Nat.beq pc 16 then js_c 1 1 else js_none)) else (bif Nat.ble pc 17 then (bif Nat.beq pc 17 then js_iadd else js_none) else (bif Nat.beq pc 18 then js_putf 8 31 false else js_none))) else (bif Nat.ble pc 22 then (bif Nat.ble pc 21 then (bif Nat.beq pc 21 then js_al 0 1 else js_none) else (bif Nat.beq pc 22 then js_getf 8 31 else js_none)) else (bif Nat.beq pc 25 then js_ir else js_none)))
theorem jk_130_0 : jx_Snd 130 0 (js_al 0 1) := jo_aload_n (i := 0) (w := 0) rfl jd_130_0
theorem jk_130_1 : jx_Snd 130 1 (js_getf 8 31) := jo_getf rfl jf_8_239 jd_130_1
theorem jk_130_4 : jx_Snd 130 4 (js_c 40 2) := jo_bipush (z := 40) jd_130_4 (by decide +kernel)
theorem jk_130_6 : jx_Snd 130 6 (js_cne 11) := jo_cne (o := 5) rfl jd_130_6
theorem jk_130_9 : jx_Snd 130 9 (js_c (-1) 1) := jo_iconst (z := (-1)) jd_130_9 rfl
theorem jk_130_10 : jx_Snd 130 10 (js_ir) := jo_ir rfl jd_130_10
theorem jk_130_11 : jx_Snd 130 11 (js_al 0 1) := jo_aload_n (i := 0) (w := 0) rfl jd_130_11
theorem jk_130_12 : jx_Snd 130 12 (js_dup) := jo_dup jd_130_12
theorem jk_130_13 : jx_Snd 130 13 (js_getf 8 31) := jo_getf rfl jf_8_239 jd_130_13
theorem jk_130_16 : jx_Snd 130 16 (js_c 1 1) := jo_iconst (z := 1) jd_130_16 rfl
theorem jk_130_17 : jx_Snd 130 17 (js_iadd) := jo_iadd jd_130_17
theorem jk_130_18 : jx_Snd 130 18 (js_putf 8 31 false) := jo_putf (z := false) rfl jf_8_239 (fun C T N h => by cases h; rfl) jd_130_18
theorem jk_130_21 : jx_Snd 130 21 (js_al 0 1) := jo_aload_n (i := 0) (w := 0) rfl jd_130_21
theorem jk_130_22 : jx_Snd 130 22 (js_getf 8 31) := jo_getf rfl jf_8_239 jd_130_22
theorem jk_130_25 : jx_Snd 130 25 (js_ir) := jo_ir rfl jd_130_25
theorem jk_130 : jx_So 130 jt_130 := fun pc => jo_le (jo_le (jo_le (jo_le (jo_at (jk_130_0)) (jo_at (jk_130_1))) (jo_le (jo_at (jk_130_4)) (jo_at (jk_130_6)))) (jo_le (jo_le (jo_at (jk_130_9)) (jo_at (jk_130_10))) (jo_le (jo_at (jk_130_11)) (jo_at (jk_130_12))))) (jo_le (jo_le (jo_le (jo_at (jk_130_13)) (jo_at (jk_130_16))) (jo_le (jo_at (jk_130_17)) (jo_at (jk_130_18)))) (jo_le (jo_le (jo_at (jk_130_21)) (jo_at (jk_130_22))) (jo_at (jk_130_25))))
theorem ji_130 {l : Launch} {D : va_G} {cA : ClassId} {ρ : Nat → Nat} {Λ : List jx_Lc} {d : Nat} {Q : Option Value → jx_St → Prop} {σ : jx_St} {z0 : Nat} (h : jt_130 0 Λ jx_tb0 (jx_rn Λ jx_tb0 jt_130 (fun k' as σ K => jx_C l D cA ρ Λ d k' as σ K) Q (jx_J l D cA ρ Λ (jx_A ρ Λ) jx_tb0 (d + 1) 130 Q) [] 400) (fun k' as σ K => jx_C l D cA ρ Λ d k' as σ K) Q 0 [(0, .ref z0)] [] σ) : jx_C l D cA ρ Λ (d + 1) 130 [.ref z0] σ Q := jx_in jk_130 400 [] rfl (Nat.le_of_ble_eq_true rfl) h

/-! ScriptLedgerModel.rollback(I)I -/
theorem jd_131_0 : decode prog_10_method_44_code 0 = .ok (.iload_n 1, 1) := by decide +kernel
theorem jd_131_1 : decode prog_10_method_44_code 1 = .ok (.iconst 5, 1) := by decide +kernel
theorem jd_131_2 : decode prog_10_method_44_code 2 = .ok (.invokestatic 197, 3) := by decide +kernel
theorem jd_131_5 : decode prog_10_method_44_code 5 = .ok (.ifCond .ne 11, 3) := by decide +kernel
theorem jd_131_8 : decode prog_10_method_44_code 8 = .ok (.iload_n 1, 1) := by decide +kernel
theorem jd_131_9 : decode prog_10_method_44_code 9 = .ok (.aload_n 0, 1) := by decide +kernel
theorem jd_131_10 : decode prog_10_method_44_code 10 = .ok (.getfield 239, 3) := by decide +kernel
theorem jd_131_13 : decode prog_10_method_44_code 13 = .ok (.if_icmp .le 5, 3) := by decide +kernel
theorem jd_131_16 : decode prog_10_method_44_code 16 = .ok (.iconst (-1), 1) := by decide +kernel
theorem jd_131_17 : decode prog_10_method_44_code 17 = .ok (.ireturn, 1) := by decide +kernel
theorem jd_131_18 : decode prog_10_method_44_code 18 = .ok (.aload_n 0, 1) := by decide +kernel
theorem jd_131_19 : decode prog_10_method_44_code 19 = .ok (.aload_n 0, 1) := by decide +kernel
theorem jd_131_20 : decode prog_10_method_44_code 20 = .ok (.getfield 239, 3) := by decide +kernel
theorem jd_131_23 : decode prog_10_method_44_code 23 = .ok (.iload_n 1, 1) := by decide +kernel
theorem jd_131_24 : decode prog_10_method_44_code 24 = .ok (.isub, 1) := by decide +kernel
theorem jd_131_25 : decode prog_10_method_44_code 25 = .ok (.putfield 239, 3) := by decide +kernel
theorem jd_131_28 : decode prog_10_method_44_code 28 = .ok (.aload_n 0, 1) := by decide +kernel
theorem jd_131_29 : decode prog_10_method_44_code 29 = .ok (.getfield 239, 3) := by decide +kernel
theorem jd_131_32 : decode prog_10_method_44_code 32 = .ok (.istore_n 2, 1) := by decide +kernel
theorem jd_131_33 : decode prog_10_method_44_code 33 = .ok (.iload_n 2, 1) := by decide +kernel
theorem jd_131_34 : decode prog_10_method_44_code 34 = .ok (.bipush 40, 2) := by decide +kernel
theorem jd_131_36 : decode prog_10_method_44_code 36 = .ok (.if_icmp .gt 16, 3) := by decide +kernel
theorem jd_131_39 : decode prog_10_method_44_code 39 = .ok (.aload_n 0, 1) := by decide +kernel
theorem jd_131_40 : decode prog_10_method_44_code 40 = .ok (.getfield 68, 3) := by decide +kernel
theorem jd_131_43 : decode prog_10_method_44_code 43 = .ok (.iload_n 2, 1) := by decide +kernel
theorem jd_131_44 : decode prog_10_method_44_code 44 = .ok (.iconst 0, 1) := by decide +kernel
theorem jd_131_45 : decode prog_10_method_44_code 45 = .ok (.iastore, 1) := by decide +kernel
theorem jd_131_46 : decode prog_10_method_44_code 46 = .ok (.iinc 2 1, 3) := by decide +kernel
theorem jd_131_49 : decode prog_10_method_44_code 49 = .ok (.goto (-16), 3) := by decide +kernel
theorem jd_131_52 : decode prog_10_method_44_code 52 = .ok (.aload_n 0, 1) := by decide +kernel
theorem jd_131_53 : decode prog_10_method_44_code 53 = .ok (.getfield 62, 3) := by decide +kernel
theorem jd_131_56 : decode prog_10_method_44_code 56 = .ok (.aload_n 0, 1) := by decide +kernel
theorem jd_131_57 : decode prog_10_method_44_code 57 = .ok (.getfield 104, 3) := by decide +kernel
theorem jd_131_60 : decode prog_10_method_44_code 60 = .ok (.iconst 1, 1) := by decide +kernel
theorem jd_131_61 : decode prog_10_method_44_code 61 = .ok (.isub, 1) := by decide +kernel
theorem jd_131_62 : decode prog_10_method_44_code 62 = .ok (.iaload, 1) := by decide +kernel
theorem jd_131_63 : decode prog_10_method_44_code 63 = .ok (.aload_n 0, 1) := by decide +kernel
theorem jd_131_64 : decode prog_10_method_44_code 64 = .ok (.getfield 239, 3) := by decide +kernel
theorem jd_131_67 : decode prog_10_method_44_code 67 = .ok (.if_icmp .lt 16, 3) := by decide +kernel
theorem jd_131_70 : decode prog_10_method_44_code 70 = .ok (.aload_n 0, 1) := by decide +kernel
theorem jd_131_71 : decode prog_10_method_44_code 71 = .ok (.dup, 1) := by decide +kernel
theorem jd_131_72 : decode prog_10_method_44_code 72 = .ok (.getfield 104, 3) := by decide +kernel
theorem jd_131_75 : decode prog_10_method_44_code 75 = .ok (.iconst 1, 1) := by decide +kernel
theorem jd_131_76 : decode prog_10_method_44_code 76 = .ok (.isub, 1) := by decide +kernel
theorem jd_131_77 : decode prog_10_method_44_code 77 = .ok (.putfield 104, 3) := by decide +kernel
theorem jd_131_80 : decode prog_10_method_44_code 80 = .ok (.goto (-28), 3) := by decide +kernel
theorem jd_131_83 : decode prog_10_method_44_code 83 = .ok (.iconst 0, 1) := by decide +kernel
theorem jd_131_84 : decode prog_10_method_44_code 84 = .ok (.istore_n 2, 1) := by decide +kernel
theorem jd_131_85 : decode prog_10_method_44_code 85 = .ok (.iload_n 2, 1) := by decide +kernel
theorem jd_131_86 : decode prog_10_method_44_code 86 = .ok (.aload_n 0, 1) := by decide +kernel
theorem jd_131_87 : decode prog_10_method_44_code 87 = .ok (.getfield 104, 3) := by decide +kernel
theorem jd_131_90 : decode prog_10_method_44_code 90 = .ok (.if_icmp .ge 38, 3) := by decide +kernel
theorem jd_131_93 : decode prog_10_method_44_code 93 = .ok (.aload_n 0, 1) := by decide +kernel
theorem jd_131_94 : decode prog_10_method_44_code 94 = .ok (.getfield 65, 3) := by decide +kernel
theorem jd_131_97 : decode prog_10_method_44_code 97 = .ok (.iload_n 2, 1) := by decide +kernel
theorem jd_131_98 : decode prog_10_method_44_code 98 = .ok (.aload_n 0, 1) := by decide +kernel
theorem jd_131_99 : decode prog_10_method_44_code 99 = .ok (.getfield 65, 3) := by decide +kernel
theorem jd_131_102 : decode prog_10_method_44_code 102 = .ok (.iload_n 2, 1) := by decide +kernel
theorem jd_131_103 : decode prog_10_method_44_code 103 = .ok (.iaload, 1) := by decide +kernel
theorem jd_131_104 : decode prog_10_method_44_code 104 = .ok (.aload_n 0, 1) := by decide +kernel
theorem jd_131_105 : decode prog_10_method_44_code 105 = .ok (.getfield 239, 3) := by decide +kernel
theorem jd_131_108 : decode prog_10_method_44_code 108 = .ok (.if_icmp .lt 7, 3) := by decide +kernel
theorem jd_131_111 : decode prog_10_method_44_code 111 = .ok (.iconst (-1), 1) := by decide +kernel
theorem jd_131_112 : decode prog_10_method_44_code 112 = .ok (.goto 9, 3) := by decide +kernel
theorem jd_131_115 : decode prog_10_method_44_code 115 = .ok (.aload_n 0, 1) := by decide +kernel
theorem jd_131_116 : decode prog_10_method_44_code 116 = .ok (.getfield 65, 3) := by decide +kernel
theorem jd_131_119 : decode prog_10_method_44_code 119 = .ok (.iload_n 2, 1) := by decide +kernel
theorem jd_131_120 : decode prog_10_method_44_code 120 = .ok (.iaload, 1) := by decide +kernel
theorem jd_131_121 : decode prog_10_method_44_code 121 = .ok (.iastore, 1) := by decide +kernel
theorem jd_131_122 : decode prog_10_method_44_code 122 = .ok (.iinc 2 1, 3) := by decide +kernel
theorem jd_131_125 : decode prog_10_method_44_code 125 = .ok (.goto (-40), 3) := by decide +kernel
theorem jd_131_128 : decode prog_10_method_44_code 128 = .ok (.aload_n 0, 1) := by decide +kernel
theorem jd_131_129 : decode prog_10_method_44_code 129 = .ok (.getfield 104, 3) := by decide +kernel
theorem jd_131_132 : decode prog_10_method_44_code 132 = .ok (.ireturn, 1) := by decide +kernel
def jt_131 (pc : Nat) : jx_Sp := bif Nat.ble pc 63 then (bif Nat.ble pc 32 then (bif Nat.ble pc 17 then (bif Nat.ble pc 8 then (bif Nat.ble pc 2 then (bif Nat.ble pc 1 then (bif Nat.ble pc 0 then (bif Nat.beq pc 0 then js_il 1 1 else js_none) else (bif Nat.beq pc 1 then js_c 5 1 else js_none)) else (bif Nat.beq pc 2 then js_s2 89 else js_none)) else (bif Nat.ble pc 5 then (bif Nat.beq pc 5 then js_ifne 16 else js_none) else (bif Nat.beq pc 8 then js_il 1 1 else js_none))) else (bif Nat.ble pc 13 then (bif Nat.ble pc 10 then (bif Nat.ble pc 9 then (bif Nat.beq pc 9 then js_al 0 1 else js_none) else (bif Nat.beq pc 10 then js_getf 8 31 else js_none)) else (bif Nat.beq pc 13 then js_cle 18 else js_none)) else (bif Nat.ble pc 16 then (bif Nat.beq pc 16 then js_c (-1) 1 else js_none) else (bif Nat.beq pc 17 then js_ir else js_none)))) else (bif Nat.ble pc 24 then (bif Nat.ble pc 20 then (bif Nat.ble pc 19 then (bif Nat.ble pc 18 then (bif Nat.beq pc 18 then js_al 0 1 else js_none) else (bif Nat.beq pc 19 then js_al 0 1 else js_none)) else (bif Nat.beq pc 20 then js_getf 8 31 else js_none)) else (bif Nat.ble pc 23 then (bif Nat.beq pc 23 then js_il 1 1 else js_none) else (bif Nat.beq pc 24 then js_isub else js_none))) else (bif Nat.ble pc 28 then (bif Nat.ble pc 25 then (bif Nat.beq pc 25 then js_putf 8 31 false else js_none) else (bif Nat.beq pc 28 then js_al 0 1 else js_none)) else (bif Nat.ble pc 29 then (bif Nat.beq pc 29 then js_getf 8 31 else js_none) else (bif Nat.beq pc 32 then js_is 2 1 else js_none))))) else (bif Nat.ble pc 46 then (bif Nat.ble pc 40 then (bif Nat.ble pc 36 then (bif Nat.ble pc 34 then (bif Nat.ble pc 33 then (bif Nat.beq pc 33 then js_il 2 1 else js_none) else (bif Nat.beq pc 34 then js_c 40 2 else js_none)) else (bif Nat.beq pc 36 then js_cgt 52 else js_none)) else (bif Nat.ble pc 39 then (bif Nat.beq pc 39 then js_al 0 1 else js_none) else (bif Nat.beq pc 40 then js_getf 8 32 else js_none))) else (bif Nat.ble pc 44 then (bif Nat.ble pc 43 then (bif Nat.beq pc 43 then js_il 2 1 else js_none) else (bif Nat.beq pc 44 then js_c 0 1 else js_none)) else (bif Nat.ble pc 45 then (bif Nat.beq pc 45 then js_ast else js_none) else (bif Nat.beq pc 46 then js_inc 2 1 else js_none)))) else (bif Nat.ble pc 57 then (bif Nat.ble pc 53 then (bif Nat.ble pc 52 then (bif Nat.ble pc 49 then (bif Nat.beq pc 49 then js_go 33 else js_none) else (bif Nat.beq pc 52 then js_al 0 1 else js_none)) else (bif Nat.beq pc 53 then js_getf 8 29 else js_none)) else (bif Nat.ble pc 56 then (bif Nat.beq pc 56 then js_al 0 1 else js_none) else (bif Nat.beq pc 57 then js_getf 8 25 else js_none))) else (bif Nat.ble pc 61 then (bif Nat.ble pc 60 then (bif Nat.beq pc 60 then js_c 1 1 else js_none) else (bif Nat.beq pc 61 then js_isub else js_none)) else (bif Nat.ble pc 62 then (bif Nat.beq pc 62 then js_ald else js_none) else (bif Nat.beq pc 63 then js_al 0 1 else js_none)))))) else (bif Nat.ble pc 98 then (bif Nat.ble pc 83 then (bif Nat.ble pc 72 then (bif Nat.ble pc 70 then (bif Nat.ble pc 67 then (bif Nat.ble pc 64 then (bif Nat.beq pc 64 then js_getf 8 31 else js_none) else (bif Nat.beq pc 67 then js_clt 83 else js_none)) else (bif Nat.beq pc 70 then js_al 0 1 else js_none)) else (bif Nat.ble pc 71 then (bif Nat.beq pc 71 then js_dup else js_none) else (bif Nat.beq pc 72 then js_getf 8 25 else js_none))) else (bif Nat.ble pc 77 then (bif Nat.ble pc 76 then (bif Nat.ble pc 75 then (bif Nat.beq pc 75 then js_c 1 1 else js_none) else (bif Nat.beq pc 76 then js_isub else js_none)) else (bif Nat.beq pc 77 then js_putf 8 25 false else js_none)) else (bif Nat.ble pc 80 then (bif Nat.beq pc 80 then js_go 52 else js_none) else (bif Nat.beq pc 83 then js_c 0 1 else js_none)))) else (bif Nat.ble pc 90 then (bif Nat.ble pc 86 then (bif Nat.ble pc 85 then (bif Nat.ble pc 84 then (bif Nat.beq pc 84 then js_is 2 1 else js_none) else (bif Nat.beq pc 85 then js_il 2 1 else js_none)) else (bif Nat.beq pc 86 then js_al 0 1 else js_none)) else (bif Nat.ble pc 87 then (bif Nat.beq pc 87 then js_getf 8 25 else js_none) else (bif Nat.beq pc 90 then js_cge 128 else js_none))) else (bif Nat.ble pc 94 then (bif Nat.ble pc 93 then (bif Nat.beq pc 93 then js_al 0 1 else js_none) else (bif Nat.beq pc 94 then js_getf 8 30 else js_none)) else (bif Nat.ble pc 97 then (bif Nat.beq pc 97 then js_il 2 1 else js_none) else (bif Nat.beq pc 98 then js_al 0 1 else js_none))))) else (bif Nat.ble pc 115 then (bif Nat.ble pc 105 then (bif Nat.ble pc 103 then (bif Nat.ble pc 102 then (bif Nat.ble pc 99 then (bif Nat.beq pc 99 then js_getf 8 30 else js_none) else (bif Nat.beq pc 102 then js_il 2 1 else js_none)) else (bif Nat.beq pc 103 then js_ald else js_none)) else (bif Nat.ble pc 104 then (bif Nat.beq pc 104 then js_al 0 1 else js_none) else (bif Nat.beq pc 105 then js_getf 8 31 else js_none))) else (bif Nat.ble pc 111 then (bif Nat.ble pc 108 then (bif Nat.beq pc 108 then js_clt 115 else js_none) else (bif Nat.beq pc 111 then js_c (-1) 1 else js_none)) else (bif Nat.ble pc 112 then (bif Nat.beq pc 112 then js_go 121 else js_none) else (bif Nat.beq pc 115 then js_al 0 1 else js_none)))) else (bif Nat.ble pc 122 then (bif Nat.ble pc 120 then (bif Nat.ble pc 119 then (bif Nat.ble pc 116 then (bif Nat.beq pc 116 then js_getf 8 30 else js_none) else (bif Nat.beq pc 119 then js_il 2 1 else js_none)) else (bif Nat.beq pc 120 then js_ald else js_none)) else (bif Nat.ble pc 121 then (bif Nat.beq pc 121 then js_ast else js_none) else (bif Nat.beq pc 122 then js_inc 2 1 else js_none))) else (bif Nat.ble pc 128 then (bif Nat.ble pc 125 then (bif Nat.beq pc 125 then js_go 85 else js_none) else (bif Nat.beq pc 128 then js_al 0 1 else js_none)) else (bif Nat.ble pc 129 then (bif Nat.beq pc 129 then js_getf 8 25 else js_none) else (bif Nat.beq pc 132 then js_ir else js_none))))))
theorem jk_131_0 : jx_Snd 131 0 (js_il 1 1) := jo_iload_n (i := 1) (w := 1) rfl jd_131_0
theorem jk_131_1 : jx_Snd 131 1 (js_c 5 1) := jo_iconst (z := 5) jd_131_1 rfl
theorem jk_131_2 : jx_Snd 131 2 (js_s2 89) := jo_s2 rfl jok_89 (Or.inl jw_532) jw_533 jd_131_2
theorem jk_131_5 : jx_Snd 131 5 (js_ifne 16) := jo_ifne (o := 11) rfl jd_131_5
theorem jk_131_8 : jx_Snd 131 8 (js_il 1 1) := jo_iload_n (i := 1) (w := 1) rfl jd_131_8
theorem jk_131_9 : jx_Snd 131 9 (js_al 0 1) := jo_aload_n (i := 0) (w := 0) rfl jd_131_9
theorem jk_131_10 : jx_Snd 131 10 (js_getf 8 31) := jo_getf rfl jf_8_239 jd_131_10
theorem jk_131_13 : jx_Snd 131 13 (js_cle 18) := jo_cle (o := 5) rfl jd_131_13
theorem jk_131_16 : jx_Snd 131 16 (js_c (-1) 1) := jo_iconst (z := (-1)) jd_131_16 rfl
theorem jk_131_17 : jx_Snd 131 17 (js_ir) := jo_ir rfl jd_131_17
theorem jk_131_18 : jx_Snd 131 18 (js_al 0 1) := jo_aload_n (i := 0) (w := 0) rfl jd_131_18
theorem jk_131_19 : jx_Snd 131 19 (js_al 0 1) := jo_aload_n (i := 0) (w := 0) rfl jd_131_19
theorem jk_131_20 : jx_Snd 131 20 (js_getf 8 31) := jo_getf rfl jf_8_239 jd_131_20
theorem jk_131_23 : jx_Snd 131 23 (js_il 1 1) := jo_iload_n (i := 1) (w := 1) rfl jd_131_23
theorem jk_131_24 : jx_Snd 131 24 (js_isub) := jo_isub jd_131_24
theorem jk_131_25 : jx_Snd 131 25 (js_putf 8 31 false) := jo_putf (z := false) rfl jf_8_239 (fun C T N h => by cases h; rfl) jd_131_25
theorem jk_131_28 : jx_Snd 131 28 (js_al 0 1) := jo_aload_n (i := 0) (w := 0) rfl jd_131_28
theorem jk_131_29 : jx_Snd 131 29 (js_getf 8 31) := jo_getf rfl jf_8_239 jd_131_29
theorem jk_131_32 : jx_Snd 131 32 (js_is 2 1) := jo_istore_n (i := 2) (w := 2) rfl (Nat.le_of_ble_eq_true rfl) jd_131_32
theorem jk_131_33 : jx_Snd 131 33 (js_il 2 1) := jo_iload_n (i := 2) (w := 2) rfl jd_131_33
theorem jk_131_34 : jx_Snd 131 34 (js_c 40 2) := jo_bipush (z := 40) jd_131_34 (by decide +kernel)
theorem jk_131_36 : jx_Snd 131 36 (js_cgt 52) := jo_cgt (o := 16) rfl jd_131_36
theorem jk_131_39 : jx_Snd 131 39 (js_al 0 1) := jo_aload_n (i := 0) (w := 0) rfl jd_131_39
theorem jk_131_40 : jx_Snd 131 40 (js_getf 8 32) := jo_getf rfl jf_8_68 jd_131_40
theorem jk_131_43 : jx_Snd 131 43 (js_il 2 1) := jo_iload_n (i := 2) (w := 2) rfl jd_131_43
theorem jk_131_44 : jx_Snd 131 44 (js_c 0 1) := jo_iconst (z := 0) jd_131_44 rfl
theorem jk_131_45 : jx_Snd 131 45 (js_ast) := jo_ast jd_131_45
theorem jk_131_46 : jx_Snd 131 46 (js_inc 2 1) := jo_iinc (w := 1) rfl (Nat.le_of_ble_eq_true rfl) jd_131_46
theorem jk_131_49 : jx_Snd 131 49 (js_go 33) := jo_goto (o := (-16)) rfl jd_131_49
theorem jk_131_52 : jx_Snd 131 52 (js_al 0 1) := jo_aload_n (i := 0) (w := 0) rfl jd_131_52
theorem jk_131_53 : jx_Snd 131 53 (js_getf 8 29) := jo_getf rfl jf_8_62 jd_131_53
theorem jk_131_56 : jx_Snd 131 56 (js_al 0 1) := jo_aload_n (i := 0) (w := 0) rfl jd_131_56
theorem jk_131_57 : jx_Snd 131 57 (js_getf 8 25) := jo_getf rfl jf_8_104 jd_131_57
theorem jk_131_60 : jx_Snd 131 60 (js_c 1 1) := jo_iconst (z := 1) jd_131_60 rfl
theorem jk_131_61 : jx_Snd 131 61 (js_isub) := jo_isub jd_131_61
theorem jk_131_62 : jx_Snd 131 62 (js_ald) := jo_ald jd_131_62
theorem jk_131_63 : jx_Snd 131 63 (js_al 0 1) := jo_aload_n (i := 0) (w := 0) rfl jd_131_63
theorem jk_131_64 : jx_Snd 131 64 (js_getf 8 31) := jo_getf rfl jf_8_239 jd_131_64
theorem jk_131_67 : jx_Snd 131 67 (js_clt 83) := jo_clt (o := 16) rfl jd_131_67
theorem jk_131_70 : jx_Snd 131 70 (js_al 0 1) := jo_aload_n (i := 0) (w := 0) rfl jd_131_70
theorem jk_131_71 : jx_Snd 131 71 (js_dup) := jo_dup jd_131_71
theorem jk_131_72 : jx_Snd 131 72 (js_getf 8 25) := jo_getf rfl jf_8_104 jd_131_72
theorem jk_131_75 : jx_Snd 131 75 (js_c 1 1) := jo_iconst (z := 1) jd_131_75 rfl
theorem jk_131_76 : jx_Snd 131 76 (js_isub) := jo_isub jd_131_76
theorem jk_131_77 : jx_Snd 131 77 (js_putf 8 25 false) := jo_putf (z := false) rfl jf_8_104 (fun C T N h => by cases h; rfl) jd_131_77
theorem jk_131_80 : jx_Snd 131 80 (js_go 52) := jo_goto (o := (-28)) rfl jd_131_80
theorem jk_131_83 : jx_Snd 131 83 (js_c 0 1) := jo_iconst (z := 0) jd_131_83 rfl
theorem jk_131_84 : jx_Snd 131 84 (js_is 2 1) := jo_istore_n (i := 2) (w := 2) rfl (Nat.le_of_ble_eq_true rfl) jd_131_84
theorem jk_131_85 : jx_Snd 131 85 (js_il 2 1) := jo_iload_n (i := 2) (w := 2) rfl jd_131_85
theorem jk_131_86 : jx_Snd 131 86 (js_al 0 1) := jo_aload_n (i := 0) (w := 0) rfl jd_131_86
theorem jk_131_87 : jx_Snd 131 87 (js_getf 8 25) := jo_getf rfl jf_8_104 jd_131_87
theorem jk_131_90 : jx_Snd 131 90 (js_cge 128) := jo_cge (o := 38) rfl jd_131_90
theorem jk_131_93 : jx_Snd 131 93 (js_al 0 1) := jo_aload_n (i := 0) (w := 0) rfl jd_131_93
theorem jk_131_94 : jx_Snd 131 94 (js_getf 8 30) := jo_getf rfl jf_8_65 jd_131_94
theorem jk_131_97 : jx_Snd 131 97 (js_il 2 1) := jo_iload_n (i := 2) (w := 2) rfl jd_131_97
theorem jk_131_98 : jx_Snd 131 98 (js_al 0 1) := jo_aload_n (i := 0) (w := 0) rfl jd_131_98
theorem jk_131_99 : jx_Snd 131 99 (js_getf 8 30) := jo_getf rfl jf_8_65 jd_131_99
theorem jk_131_102 : jx_Snd 131 102 (js_il 2 1) := jo_iload_n (i := 2) (w := 2) rfl jd_131_102
theorem jk_131_103 : jx_Snd 131 103 (js_ald) := jo_ald jd_131_103
theorem jk_131_104 : jx_Snd 131 104 (js_al 0 1) := jo_aload_n (i := 0) (w := 0) rfl jd_131_104
theorem jk_131_105 : jx_Snd 131 105 (js_getf 8 31) := jo_getf rfl jf_8_239 jd_131_105
theorem jk_131_108 : jx_Snd 131 108 (js_clt 115) := jo_clt (o := 7) rfl jd_131_108
theorem jk_131_111 : jx_Snd 131 111 (js_c (-1) 1) := jo_iconst (z := (-1)) jd_131_111 rfl
theorem jk_131_112 : jx_Snd 131 112 (js_go 121) := jo_goto (o := 9) rfl jd_131_112
theorem jk_131_115 : jx_Snd 131 115 (js_al 0 1) := jo_aload_n (i := 0) (w := 0) rfl jd_131_115
theorem jk_131_116 : jx_Snd 131 116 (js_getf 8 30) := jo_getf rfl jf_8_65 jd_131_116
theorem jk_131_119 : jx_Snd 131 119 (js_il 2 1) := jo_iload_n (i := 2) (w := 2) rfl jd_131_119
theorem jk_131_120 : jx_Snd 131 120 (js_ald) := jo_ald jd_131_120
theorem jk_131_121 : jx_Snd 131 121 (js_ast) := jo_ast jd_131_121
theorem jk_131_122 : jx_Snd 131 122 (js_inc 2 1) := jo_iinc (w := 1) rfl (Nat.le_of_ble_eq_true rfl) jd_131_122
theorem jk_131_125 : jx_Snd 131 125 (js_go 85) := jo_goto (o := (-40)) rfl jd_131_125
theorem jk_131_128 : jx_Snd 131 128 (js_al 0 1) := jo_aload_n (i := 0) (w := 0) rfl jd_131_128
theorem jk_131_129 : jx_Snd 131 129 (js_getf 8 25) := jo_getf rfl jf_8_104 jd_131_129
theorem jk_131_132 : jx_Snd 131 132 (js_ir) := jo_ir rfl jd_131_132
theorem jk_131 : jx_So 131 jt_131 := fun pc => jo_le (jo_le (jo_le (jo_le (jo_le (jo_le (jo_le (jo_at (jk_131_0)) (jo_at (jk_131_1))) (jo_at (jk_131_2))) (jo_le (jo_at (jk_131_5)) (jo_at (jk_131_8)))) (jo_le (jo_le (jo_le (jo_at (jk_131_9)) (jo_at (jk_131_10))) (jo_at (jk_131_13))) (jo_le (jo_at (jk_131_16)) (jo_at (jk_131_17))))) (jo_le (jo_le (jo_le (jo_le (jo_at (jk_131_18)) (jo_at (jk_131_19))) (jo_at (jk_131_20))) (jo_le (jo_at (jk_131_23)) (jo_at (jk_131_24)))) (jo_le (jo_le (jo_at (jk_131_25)) (jo_at (jk_131_28))) (jo_le (jo_at (jk_131_29)) (jo_at (jk_131_32)))))) (jo_le (jo_le (jo_le (jo_le (jo_le (jo_at (jk_131_33)) (jo_at (jk_131_34))) (jo_at (jk_131_36))) (jo_le (jo_at (jk_131_39)) (jo_at (jk_131_40)))) (jo_le (jo_le (jo_at (jk_131_43)) (jo_at (jk_131_44))) (jo_le (jo_at (jk_131_45)) (jo_at (jk_131_46))))) (jo_le (jo_le (jo_le (jo_le (jo_at (jk_131_49)) (jo_at (jk_131_52))) (jo_at (jk_131_53))) (jo_le (jo_at (jk_131_56)) (jo_at (jk_131_57)))) (jo_le (jo_le (jo_at (jk_131_60)) (jo_at (jk_131_61))) (jo_le (jo_at (jk_131_62)) (jo_at (jk_131_63))))))) (jo_le (jo_le (jo_le (jo_le (jo_le (jo_le (jo_at (jk_131_64)) (jo_at (jk_131_67))) (jo_at (jk_131_70))) (jo_le (jo_at (jk_131_71)) (jo_at (jk_131_72)))) (jo_le (jo_le (jo_le (jo_at (jk_131_75)) (jo_at (jk_131_76))) (jo_at (jk_131_77))) (jo_le (jo_at (jk_131_80)) (jo_at (jk_131_83))))) (jo_le (jo_le (jo_le (jo_le (jo_at (jk_131_84)) (jo_at (jk_131_85))) (jo_at (jk_131_86))) (jo_le (jo_at (jk_131_87)) (jo_at (jk_131_90)))) (jo_le (jo_le (jo_at (jk_131_93)) (jo_at (jk_131_94))) (jo_le (jo_at (jk_131_97)) (jo_at (jk_131_98)))))) (jo_le (jo_le (jo_le (jo_le (jo_le (jo_at (jk_131_99)) (jo_at (jk_131_102))) (jo_at (jk_131_103))) (jo_le (jo_at (jk_131_104)) (jo_at (jk_131_105)))) (jo_le (jo_le (jo_at (jk_131_108)) (jo_at (jk_131_111))) (jo_le (jo_at (jk_131_112)) (jo_at (jk_131_115))))) (jo_le (jo_le (jo_le (jo_le (jo_at (jk_131_116)) (jo_at (jk_131_119))) (jo_at (jk_131_120))) (jo_le (jo_at (jk_131_121)) (jo_at (jk_131_122)))) (jo_le (jo_le (jo_at (jk_131_125)) (jo_at (jk_131_128))) (jo_le (jo_at (jk_131_129)) (jo_at (jk_131_132)))))))
theorem ji_131 {l : Launch} {D : va_G} {cA : ClassId} {ρ : Nat → Nat} {Λ : List jx_Lc} {d : Nat} {Q : Option Value → jx_St → Prop} {σ : jx_St} {z0 : Nat} {a1 : Int32} (h : jt_131 0 Λ jx_tb0 (jx_rn Λ jx_tb0 jt_131 (fun k' as σ K => jx_C l D cA ρ Λ d k' as σ K) Q (jx_J l D cA ρ Λ (jx_A ρ Λ) jx_tb0 (d + 1) 131 Q) [] 400) (fun k' as σ K => jx_C l D cA ρ Λ d k' as σ K) Q 0 [(0, .ref z0), (1, .int a1)] [] σ) : jx_C l D cA ρ Λ (d + 1) 131 [.ref z0, .int a1] σ Q := jx_in jk_131 400 [] rfl (Nat.le_of_ble_eq_true rfl) h
/-! ScriptLedgerModel.outputs()I -/
theorem jd_132_0 : decode prog_10_method_45_code 0 = .ok (.aload_n 0, 1) := by decide +kernel
theorem jd_132_1 : decode prog_10_method_45_code 1 = .ok (.getfield 104, 3) := by decide +kernel
theorem jd_132_4 : decode prog_10_method_45_code 4 = .ok (.ireturn, 1) := by decide +kernel
def jt_132 (pc : Nat) : jx_Sp := bif Nat.ble pc 1 then (bif Nat.ble pc 0 then (bif Nat.beq pc 0 then js_al 0 1 else js_none) else (bif Nat.beq pc 1 then js_getf 8 25 else js_none)) else (bif Nat.beq pc 4 then js_ir else js_none)
theorem jk_132_0 : jx_Snd 132 0 (js_al 0 1) := jo_aload_n (i := 0) (w := 0) rfl jd_132_0
theorem jk_132_1 : jx_Snd 132 1 (js_getf 8 25) := jo_getf rfl jf_8_104 jd_132_1
theorem jk_132_4 : jx_Snd 132 4 (js_ir) := jo_ir rfl jd_132_4
theorem jk_132 : jx_So 132 jt_132 := fun pc => jo_le (jo_le (jo_at (jk_132_0)) (jo_at (jk_132_1))) (jo_at (jk_132_4))
theorem ji_132 {l : Launch} {D : va_G} {cA : ClassId} {ρ : Nat → Nat} {Λ : List jx_Lc} {d : Nat} {Q : Option Value → jx_St → Prop} {σ : jx_St} {z0 : Nat} (h : jt_132 0 Λ jx_tb0 (jx_rn Λ jx_tb0 jt_132 (fun k' as σ K => jx_C l D cA ρ Λ d k' as σ K) Q (jx_J l D cA ρ Λ (jx_A ρ Λ) jx_tb0 (d + 1) 132 Q) [] 400) (fun k' as σ K => jx_C l D cA ρ Λ d k' as σ K) Q 0 [(0, .ref z0)] [] σ) : jx_C l D cA ρ Λ (d + 1) 132 [.ref z0] σ Q := jx_in jk_132 400 [] rfl (Nat.le_of_ble_eq_true rfl) h
/-! ScriptLedgerModel.about(II)I -/
theorem jd_133_0 : decode prog_10_method_46_code 0 = .ok (.iload_n 1, 1) := by decide +kernel
theorem jd_133_1 : decode prog_10_method_46_code 1 = .ok (.aload_n 0, 1) := by decide +kernel
theorem jd_133_2 : decode prog_10_method_46_code 2 = .ok (.getfield 104, 3) := by decide +kernel
theorem jd_133_5 : decode prog_10_method_46_code 5 = .ok (.invokestatic 197, 3) := by decide +kernel
theorem jd_133_8 : decode prog_10_method_46_code 8 = .ok (.ifCond .ne 12, 3) := by decide +kernel
theorem jd_133_11 : decode prog_10_method_46_code 11 = .ok (.iload_n 2, 1) := by decide +kernel
theorem jd_133_12 : decode prog_10_method_46_code 12 = .ok (.bipush 6, 2) := by decide +kernel
theorem jd_133_14 : decode prog_10_method_46_code 14 = .ok (.invokestatic 197, 3) := by decide +kernel
theorem jd_133_17 : decode prog_10_method_46_code 17 = .ok (.ifCond .eq 5, 3) := by decide +kernel
theorem jd_133_20 : decode prog_10_method_46_code 20 = .ok (.iconst (-1), 1) := by decide +kernel
theorem jd_133_21 : decode prog_10_method_46_code 21 = .ok (.ireturn, 1) := by decide +kernel
theorem jd_133_22 : decode prog_10_method_46_code 22 = .ok (.iload_n 2, 1) := by decide +kernel
theorem jd_133_23 : decode prog_10_method_46_code 23 = .ok (.iconst 3, 1) := by decide +kernel
theorem jd_133_24 : decode prog_10_method_46_code 24 = .ok (.if_icmp .ge 14, 3) := by decide +kernel
theorem jd_133_27 : decode prog_10_method_46_code 27 = .ok (.aload_n 0, 1) := by decide +kernel
theorem jd_133_28 : decode prog_10_method_46_code 28 = .ok (.getfield 53, 3) := by decide +kernel
theorem jd_133_31 : decode prog_10_method_46_code 31 = .ok (.iconst 3, 1) := by decide +kernel
theorem jd_133_32 : decode prog_10_method_46_code 32 = .ok (.iload_n 1, 1) := by decide +kernel
theorem jd_133_33 : decode prog_10_method_46_code 33 = .ok (.imul, 1) := by decide +kernel
theorem jd_133_34 : decode prog_10_method_46_code 34 = .ok (.iload_n 2, 1) := by decide +kernel
theorem jd_133_35 : decode prog_10_method_46_code 35 = .ok (.iadd, 1) := by decide +kernel
theorem jd_133_36 : decode prog_10_method_46_code 36 = .ok (.iaload, 1) := by decide +kernel
theorem jd_133_37 : decode prog_10_method_46_code 37 = .ok (.ireturn, 1) := by decide +kernel
theorem jd_133_38 : decode prog_10_method_46_code 38 = .ok (.iload_n 2, 1) := by decide +kernel
theorem jd_133_39 : decode prog_10_method_46_code 39 = .ok (.iconst 3, 1) := by decide +kernel
theorem jd_133_40 : decode prog_10_method_46_code 40 = .ok (.if_icmp .ne 12, 3) := by decide +kernel
theorem jd_133_43 : decode prog_10_method_46_code 43 = .ok (.aload_n 0, 1) := by decide +kernel
theorem jd_133_44 : decode prog_10_method_46_code 44 = .ok (.getfield 56, 3) := by decide +kernel
theorem jd_133_47 : decode prog_10_method_46_code 47 = .ok (.iload_n 1, 1) := by decide +kernel
theorem jd_133_48 : decode prog_10_method_46_code 48 = .ok (.iaload, 1) := by decide +kernel
theorem jd_133_49 : decode prog_10_method_46_code 49 = .ok (.goto 31, 3) := by decide +kernel
theorem jd_133_52 : decode prog_10_method_46_code 52 = .ok (.iload_n 2, 1) := by decide +kernel
theorem jd_133_53 : decode prog_10_method_46_code 53 = .ok (.iconst 4, 1) := by decide +kernel
theorem jd_133_54 : decode prog_10_method_46_code 54 = .ok (.if_icmp .ne 12, 3) := by decide +kernel
theorem jd_133_57 : decode prog_10_method_46_code 57 = .ok (.aload_n 0, 1) := by decide +kernel
theorem jd_133_58 : decode prog_10_method_46_code 58 = .ok (.getfield 59, 3) := by decide +kernel
theorem jd_133_61 : decode prog_10_method_46_code 61 = .ok (.iload_n 1, 1) := by decide +kernel
theorem jd_133_62 : decode prog_10_method_46_code 62 = .ok (.iaload, 1) := by decide +kernel
theorem jd_133_63 : decode prog_10_method_46_code 63 = .ok (.goto 17, 3) := by decide +kernel
theorem jd_133_66 : decode prog_10_method_46_code 66 = .ok (.aload_n 0, 1) := by decide +kernel
theorem jd_133_67 : decode prog_10_method_46_code 67 = .ok (.getfield 65, 3) := by decide +kernel
theorem jd_133_70 : decode prog_10_method_46_code 70 = .ok (.iload_n 1, 1) := by decide +kernel
theorem jd_133_71 : decode prog_10_method_46_code 71 = .ok (.iaload, 1) := by decide +kernel
theorem jd_133_72 : decode prog_10_method_46_code 72 = .ok (.ifCond .lt 7, 3) := by decide +kernel
theorem jd_133_75 : decode prog_10_method_46_code 75 = .ok (.iconst 1, 1) := by decide +kernel
theorem jd_133_76 : decode prog_10_method_46_code 76 = .ok (.goto 4, 3) := by decide +kernel
theorem jd_133_79 : decode prog_10_method_46_code 79 = .ok (.iconst 0, 1) := by decide +kernel
theorem jd_133_80 : decode prog_10_method_46_code 80 = .ok (.ireturn, 1) := by decide +kernel
def jt_133 (pc : Nat) : jx_Sp := bif Nat.ble pc 38 then (bif Nat.ble pc 22 then (bif Nat.ble pc 11 then (bif Nat.ble pc 2 then (bif Nat.ble pc 1 then (bif Nat.ble pc 0 then (bif Nat.beq pc 0 then js_il 1 1 else js_none) else (bif Nat.beq pc 1 then js_al 0 1 else js_none)) else (bif Nat.beq pc 2 then js_getf 8 25 else js_none)) else (bif Nat.ble pc 8 then (bif Nat.ble pc 5 then (bif Nat.beq pc 5 then js_s2 89 else js_none) else (bif Nat.beq pc 8 then js_ifne 20 else js_none)) else (bif Nat.beq pc 11 then js_il 2 1 else js_none))) else (bif Nat.ble pc 17 then (bif Nat.ble pc 14 then (bif Nat.ble pc 12 then (bif Nat.beq pc 12 then js_c 6 2 else js_none) else (bif Nat.beq pc 14 then js_s2 89 else js_none)) else (bif Nat.beq pc 17 then js_ifeq 22 else js_none)) else (bif Nat.ble pc 21 then (bif Nat.ble pc 20 then (bif Nat.beq pc 20 then js_c (-1) 1 else js_none) else (bif Nat.beq pc 21 then js_ir else js_none)) else (bif Nat.beq pc 22 then js_il 2 1 else js_none)))) else (bif Nat.ble pc 32 then (bif Nat.ble pc 27 then (bif Nat.ble pc 24 then (bif Nat.ble pc 23 then (bif Nat.beq pc 23 then js_c 3 1 else js_none) else (bif Nat.beq pc 24 then js_cge 38 else js_none)) else (bif Nat.beq pc 27 then js_al 0 1 else js_none)) else (bif Nat.ble pc 31 then (bif Nat.ble pc 28 then (bif Nat.beq pc 28 then js_getf 8 26 else js_none) else (bif Nat.beq pc 31 then js_c 3 1 else js_none)) else (bif Nat.beq pc 32 then js_il 1 1 else js_none))) else (bif Nat.ble pc 35 then (bif Nat.ble pc 34 then (bif Nat.ble pc 33 then (bif Nat.beq pc 33 then js_imul else js_none) else (bif Nat.beq pc 34 then js_il 2 1 else js_none)) else (bif Nat.beq pc 35 then js_iadd else js_none)) else (bif Nat.ble pc 37 then (bif Nat.ble pc 36 then (bif Nat.beq pc 36 then js_ald else js_none) else (bif Nat.beq pc 37 then js_ir else js_none)) else (bif Nat.beq pc 38 then js_il 2 1 else js_none))))) else (bif Nat.ble pc 58 then (bif Nat.ble pc 48 then (bif Nat.ble pc 43 then (bif Nat.ble pc 40 then (bif Nat.ble pc 39 then (bif Nat.beq pc 39 then js_c 3 1 else js_none) else (bif Nat.beq pc 40 then js_cne 52 else js_none)) else (bif Nat.beq pc 43 then js_al 0 1 else js_none)) else (bif Nat.ble pc 47 then (bif Nat.ble pc 44 then (bif Nat.beq pc 44 then js_getf 8 27 else js_none) else (bif Nat.beq pc 47 then js_il 1 1 else js_none)) else (bif Nat.beq pc 48 then js_ald else js_none))) else (bif Nat.ble pc 53 then (bif Nat.ble pc 52 then (bif Nat.ble pc 49 then (bif Nat.beq pc 49 then js_go 80 else js_none) else (bif Nat.beq pc 52 then js_il 2 1 else js_none)) else (bif Nat.beq pc 53 then js_c 4 1 else js_none)) else (bif Nat.ble pc 57 then (bif Nat.ble pc 54 then (bif Nat.beq pc 54 then js_cne 66 else js_none) else (bif Nat.beq pc 57 then js_al 0 1 else js_none)) else (bif Nat.beq pc 58 then js_getf 8 28 else js_none)))) else (bif Nat.ble pc 70 then (bif Nat.ble pc 63 then (bif Nat.ble pc 62 then (bif Nat.ble pc 61 then (bif Nat.beq pc 61 then js_il 1 1 else js_none) else (bif Nat.beq pc 62 then js_ald else js_none)) else (bif Nat.beq pc 63 then js_go 80 else js_none)) else (bif Nat.ble pc 67 then (bif Nat.ble pc 66 then (bif Nat.beq pc 66 then js_al 0 1 else js_none) else (bif Nat.beq pc 67 then js_getf 8 30 else js_none)) else (bif Nat.beq pc 70 then js_il 1 1 else js_none))) else (bif Nat.ble pc 75 then (bif Nat.ble pc 72 then (bif Nat.ble pc 71 then (bif Nat.beq pc 71 then js_ald else js_none) else (bif Nat.beq pc 72 then js_iflt 79 else js_none)) else (bif Nat.beq pc 75 then js_c 1 1 else js_none)) else (bif Nat.ble pc 79 then (bif Nat.ble pc 76 then (bif Nat.beq pc 76 then js_go 80 else js_none) else (bif Nat.beq pc 79 then js_c 0 1 else js_none)) else (bif Nat.beq pc 80 then js_ir else js_none)))))
theorem jk_133_0 : jx_Snd 133 0 (js_il 1 1) := jo_iload_n (i := 1) (w := 1) rfl jd_133_0
theorem jk_133_1 : jx_Snd 133 1 (js_al 0 1) := jo_aload_n (i := 0) (w := 0) rfl jd_133_1
theorem jk_133_2 : jx_Snd 133 2 (js_getf 8 25) := jo_getf rfl jf_8_104 jd_133_2
theorem jk_133_5 : jx_Snd 133 5 (js_s2 89) := jo_s2 rfl jok_89 (Or.inl jw_532) jw_533 jd_133_5
theorem jk_133_8 : jx_Snd 133 8 (js_ifne 20) := jo_ifne (o := 12) rfl jd_133_8
theorem jk_133_11 : jx_Snd 133 11 (js_il 2 1) := jo_iload_n (i := 2) (w := 2) rfl jd_133_11
theorem jk_133_12 : jx_Snd 133 12 (js_c 6 2) := jo_bipush (z := 6) jd_133_12 (by decide +kernel)
theorem jk_133_14 : jx_Snd 133 14 (js_s2 89) := jo_s2 rfl jok_89 (Or.inl jw_532) jw_533 jd_133_14
theorem jk_133_17 : jx_Snd 133 17 (js_ifeq 22) := jo_ifeq (o := 5) rfl jd_133_17
theorem jk_133_20 : jx_Snd 133 20 (js_c (-1) 1) := jo_iconst (z := (-1)) jd_133_20 rfl
theorem jk_133_21 : jx_Snd 133 21 (js_ir) := jo_ir rfl jd_133_21
theorem jk_133_22 : jx_Snd 133 22 (js_il 2 1) := jo_iload_n (i := 2) (w := 2) rfl jd_133_22
theorem jk_133_23 : jx_Snd 133 23 (js_c 3 1) := jo_iconst (z := 3) jd_133_23 rfl
theorem jk_133_24 : jx_Snd 133 24 (js_cge 38) := jo_cge (o := 14) rfl jd_133_24
theorem jk_133_27 : jx_Snd 133 27 (js_al 0 1) := jo_aload_n (i := 0) (w := 0) rfl jd_133_27
theorem jk_133_28 : jx_Snd 133 28 (js_getf 8 26) := jo_getf rfl jf_8_53 jd_133_28
theorem jk_133_31 : jx_Snd 133 31 (js_c 3 1) := jo_iconst (z := 3) jd_133_31 rfl
theorem jk_133_32 : jx_Snd 133 32 (js_il 1 1) := jo_iload_n (i := 1) (w := 1) rfl jd_133_32
theorem jk_133_33 : jx_Snd 133 33 (js_imul) := jo_imul jd_133_33
theorem jk_133_34 : jx_Snd 133 34 (js_il 2 1) := jo_iload_n (i := 2) (w := 2) rfl jd_133_34
theorem jk_133_35 : jx_Snd 133 35 (js_iadd) := jo_iadd jd_133_35
theorem jk_133_36 : jx_Snd 133 36 (js_ald) := jo_ald jd_133_36
theorem jk_133_37 : jx_Snd 133 37 (js_ir) := jo_ir rfl jd_133_37
theorem jk_133_38 : jx_Snd 133 38 (js_il 2 1) := jo_iload_n (i := 2) (w := 2) rfl jd_133_38
theorem jk_133_39 : jx_Snd 133 39 (js_c 3 1) := jo_iconst (z := 3) jd_133_39 rfl
theorem jk_133_40 : jx_Snd 133 40 (js_cne 52) := jo_cne (o := 12) rfl jd_133_40
theorem jk_133_43 : jx_Snd 133 43 (js_al 0 1) := jo_aload_n (i := 0) (w := 0) rfl jd_133_43
theorem jk_133_44 : jx_Snd 133 44 (js_getf 8 27) := jo_getf rfl jf_8_56 jd_133_44
theorem jk_133_47 : jx_Snd 133 47 (js_il 1 1) := jo_iload_n (i := 1) (w := 1) rfl jd_133_47
theorem jk_133_48 : jx_Snd 133 48 (js_ald) := jo_ald jd_133_48
theorem jk_133_49 : jx_Snd 133 49 (js_go 80) := jo_goto (o := 31) rfl jd_133_49
theorem jk_133_52 : jx_Snd 133 52 (js_il 2 1) := jo_iload_n (i := 2) (w := 2) rfl jd_133_52
theorem jk_133_53 : jx_Snd 133 53 (js_c 4 1) := jo_iconst (z := 4) jd_133_53 rfl
theorem jk_133_54 : jx_Snd 133 54 (js_cne 66) := jo_cne (o := 12) rfl jd_133_54
theorem jk_133_57 : jx_Snd 133 57 (js_al 0 1) := jo_aload_n (i := 0) (w := 0) rfl jd_133_57
theorem jk_133_58 : jx_Snd 133 58 (js_getf 8 28) := jo_getf rfl jf_8_59 jd_133_58
theorem jk_133_61 : jx_Snd 133 61 (js_il 1 1) := jo_iload_n (i := 1) (w := 1) rfl jd_133_61
theorem jk_133_62 : jx_Snd 133 62 (js_ald) := jo_ald jd_133_62
theorem jk_133_63 : jx_Snd 133 63 (js_go 80) := jo_goto (o := 17) rfl jd_133_63
theorem jk_133_66 : jx_Snd 133 66 (js_al 0 1) := jo_aload_n (i := 0) (w := 0) rfl jd_133_66
theorem jk_133_67 : jx_Snd 133 67 (js_getf 8 30) := jo_getf rfl jf_8_65 jd_133_67
theorem jk_133_70 : jx_Snd 133 70 (js_il 1 1) := jo_iload_n (i := 1) (w := 1) rfl jd_133_70
theorem jk_133_71 : jx_Snd 133 71 (js_ald) := jo_ald jd_133_71
theorem jk_133_72 : jx_Snd 133 72 (js_iflt 79) := jo_iflt (o := 7) rfl jd_133_72
theorem jk_133_75 : jx_Snd 133 75 (js_c 1 1) := jo_iconst (z := 1) jd_133_75 rfl
theorem jk_133_76 : jx_Snd 133 76 (js_go 80) := jo_goto (o := 4) rfl jd_133_76
theorem jk_133_79 : jx_Snd 133 79 (js_c 0 1) := jo_iconst (z := 0) jd_133_79 rfl
theorem jk_133_80 : jx_Snd 133 80 (js_ir) := jo_ir rfl jd_133_80
theorem jk_133 : jx_So 133 jt_133 := fun pc => jo_le (jo_le (jo_le (jo_le (jo_le (jo_le (jo_at (jk_133_0)) (jo_at (jk_133_1))) (jo_at (jk_133_2))) (jo_le (jo_le (jo_at (jk_133_5)) (jo_at (jk_133_8))) (jo_at (jk_133_11)))) (jo_le (jo_le (jo_le (jo_at (jk_133_12)) (jo_at (jk_133_14))) (jo_at (jk_133_17))) (jo_le (jo_le (jo_at (jk_133_20)) (jo_at (jk_133_21))) (jo_at (jk_133_22))))) (jo_le (jo_le (jo_le (jo_le (jo_at (jk_133_23)) (jo_at (jk_133_24))) (jo_at (jk_133_27))) (jo_le (jo_le (jo_at (jk_133_28)) (jo_at (jk_133_31))) (jo_at (jk_133_32)))) (jo_le (jo_le (jo_le (jo_at (jk_133_33)) (jo_at (jk_133_34))) (jo_at (jk_133_35))) (jo_le (jo_le (jo_at (jk_133_36)) (jo_at (jk_133_37))) (jo_at (jk_133_38)))))) (jo_le (jo_le (jo_le (jo_le (jo_le (jo_at (jk_133_39)) (jo_at (jk_133_40))) (jo_at (jk_133_43))) (jo_le (jo_le (jo_at (jk_133_44)) (jo_at (jk_133_47))) (jo_at (jk_133_48)))) (jo_le (jo_le (jo_le (jo_at (jk_133_49)) (jo_at (jk_133_52))) (jo_at (jk_133_53))) (jo_le (jo_le (jo_at (jk_133_54)) (jo_at (jk_133_57))) (jo_at (jk_133_58))))) (jo_le (jo_le (jo_le (jo_le (jo_at (jk_133_61)) (jo_at (jk_133_62))) (jo_at (jk_133_63))) (jo_le (jo_le (jo_at (jk_133_66)) (jo_at (jk_133_67))) (jo_at (jk_133_70)))) (jo_le (jo_le (jo_le (jo_at (jk_133_71)) (jo_at (jk_133_72))) (jo_at (jk_133_75))) (jo_le (jo_le (jo_at (jk_133_76)) (jo_at (jk_133_79))) (jo_at (jk_133_80))))))
theorem ji_133 {l : Launch} {D : va_G} {cA : ClassId} {ρ : Nat → Nat} {Λ : List jx_Lc} {d : Nat} {Q : Option Value → jx_St → Prop} {σ : jx_St} {z0 : Nat} {a1 : Int32} {a2 : Int32} (h : jt_133 0 Λ jx_tb0 (jx_rn Λ jx_tb0 jt_133 (fun k' as σ K => jx_C l D cA ρ Λ d k' as σ K) Q (jx_J l D cA ρ Λ (jx_A ρ Λ) jx_tb0 (d + 1) 133 Q) [] 400) (fun k' as σ K => jx_C l D cA ρ Λ d k' as σ K) Q 0 [(0, .ref z0), (1, .int a1), (2, .int a2)] [] σ) : jx_C l D cA ρ Λ (d + 1) 133 [.ref z0, .int a1, .int a2] σ Q := jx_in jk_133 400 [] rfl (Nat.le_of_ble_eq_true rfl) h
/-! ScriptLedgerModel.total(I)I -/
theorem jd_134_0 : decode prog_10_method_47_code 0 = .ok (.iload_n 1, 1) := by decide +kernel
theorem jd_134_1 : decode prog_10_method_47_code 1 = .ok (.iconst 3, 1) := by decide +kernel
theorem jd_134_2 : decode prog_10_method_47_code 2 = .ok (.invokestatic 197, 3) := by decide +kernel
theorem jd_134_5 : decode prog_10_method_47_code 5 = .ok (.ifCond .eq 5, 3) := by decide +kernel
theorem jd_134_8 : decode prog_10_method_47_code 8 = .ok (.iconst (-1), 1) := by decide +kernel
theorem jd_134_9 : decode prog_10_method_47_code 9 = .ok (.ireturn, 1) := by decide +kernel
theorem jd_134_10 : decode prog_10_method_47_code 10 = .ok (.iconst 0, 1) := by decide +kernel
theorem jd_134_11 : decode prog_10_method_47_code 11 = .ok (.istore_n 2, 1) := by decide +kernel
theorem jd_134_12 : decode prog_10_method_47_code 12 = .ok (.iconst 0, 1) := by decide +kernel
theorem jd_134_13 : decode prog_10_method_47_code 13 = .ok (.istore_n 3, 1) := by decide +kernel
theorem jd_134_14 : decode prog_10_method_47_code 14 = .ok (.iload_n 3, 1) := by decide +kernel
theorem jd_134_15 : decode prog_10_method_47_code 15 = .ok (.aload_n 0, 1) := by decide +kernel
theorem jd_134_16 : decode prog_10_method_47_code 16 = .ok (.getfield 104, 3) := by decide +kernel
theorem jd_134_19 : decode prog_10_method_47_code 19 = .ok (.if_icmp .ge 35, 3) := by decide +kernel
theorem jd_134_22 : decode prog_10_method_47_code 22 = .ok (.aload_n 0, 1) := by decide +kernel
theorem jd_134_23 : decode prog_10_method_47_code 23 = .ok (.getfield 65, 3) := by decide +kernel
theorem jd_134_26 : decode prog_10_method_47_code 26 = .ok (.iload_n 3, 1) := by decide +kernel
theorem jd_134_27 : decode prog_10_method_47_code 27 = .ok (.iaload, 1) := by decide +kernel
theorem jd_134_28 : decode prog_10_method_47_code 28 = .ok (.ifCond .ge 18, 3) := by decide +kernel
theorem jd_134_31 : decode prog_10_method_47_code 31 = .ok (.iload_n 2, 1) := by decide +kernel
theorem jd_134_32 : decode prog_10_method_47_code 32 = .ok (.aload_n 0, 1) := by decide +kernel
theorem jd_134_33 : decode prog_10_method_47_code 33 = .ok (.getfield 53, 3) := by decide +kernel
theorem jd_134_36 : decode prog_10_method_47_code 36 = .ok (.iconst 3, 1) := by decide +kernel
theorem jd_134_37 : decode prog_10_method_47_code 37 = .ok (.iload_n 3, 1) := by decide +kernel
theorem jd_134_38 : decode prog_10_method_47_code 38 = .ok (.imul, 1) := by decide +kernel
theorem jd_134_39 : decode prog_10_method_47_code 39 = .ok (.iload_n 1, 1) := by decide +kernel
theorem jd_134_40 : decode prog_10_method_47_code 40 = .ok (.iadd, 1) := by decide +kernel
theorem jd_134_41 : decode prog_10_method_47_code 41 = .ok (.iaload, 1) := by decide +kernel
theorem jd_134_42 : decode prog_10_method_47_code 42 = .ok (.iadd, 1) := by decide +kernel
theorem jd_134_43 : decode prog_10_method_47_code 43 = .ok (.goto 4, 3) := by decide +kernel
theorem jd_134_46 : decode prog_10_method_47_code 46 = .ok (.iload_n 2, 1) := by decide +kernel
theorem jd_134_47 : decode prog_10_method_47_code 47 = .ok (.istore_n 2, 1) := by decide +kernel
theorem jd_134_48 : decode prog_10_method_47_code 48 = .ok (.iinc 3 1, 3) := by decide +kernel
theorem jd_134_51 : decode prog_10_method_47_code 51 = .ok (.goto (-37), 3) := by decide +kernel
theorem jd_134_54 : decode prog_10_method_47_code 54 = .ok (.iload_n 2, 1) := by decide +kernel
theorem jd_134_55 : decode prog_10_method_47_code 55 = .ok (.ireturn, 1) := by decide +kernel
def jt_134 (pc : Nat) : jx_Sp := bif Nat.ble pc 27 then (bif Nat.ble pc 12 then (bif Nat.ble pc 8 then (bif Nat.ble pc 2 then (bif Nat.ble pc 1 then (bif Nat.ble pc 0 then (bif Nat.beq pc 0 then js_il 1 1 else js_none) else (bif Nat.beq pc 1 then js_c 3 1 else js_none)) else (bif Nat.beq pc 2 then js_s2 89 else js_none)) else (bif Nat.ble pc 5 then (bif Nat.beq pc 5 then js_ifeq 10 else js_none) else (bif Nat.beq pc 8 then js_c (-1) 1 else js_none))) else (bif Nat.ble pc 10 then (bif Nat.ble pc 9 then (bif Nat.beq pc 9 then js_ir else js_none) else (bif Nat.beq pc 10 then js_c 0 1 else js_none)) else (bif Nat.ble pc 11 then (bif Nat.beq pc 11 then js_is 2 1 else js_none) else (bif Nat.beq pc 12 then js_c 0 1 else js_none)))) else (bif Nat.ble pc 19 then (bif Nat.ble pc 15 then (bif Nat.ble pc 14 then (bif Nat.ble pc 13 then (bif Nat.beq pc 13 then js_is 3 1 else js_none) else (bif Nat.beq pc 14 then js_il 3 1 else js_none)) else (bif Nat.beq pc 15 then js_al 0 1 else js_none)) else (bif Nat.ble pc 16 then (bif Nat.beq pc 16 then js_getf 8 25 else js_none) else (bif Nat.beq pc 19 then js_cge 54 else js_none))) else (bif Nat.ble pc 23 then (bif Nat.ble pc 22 then (bif Nat.beq pc 22 then js_al 0 1 else js_none) else (bif Nat.beq pc 23 then js_getf 8 30 else js_none)) else (bif Nat.ble pc 26 then (bif Nat.beq pc 26 then js_il 3 1 else js_none) else (bif Nat.beq pc 27 then js_ald else js_none))))) else (bif Nat.ble pc 40 then (bif Nat.ble pc 36 then (bif Nat.ble pc 32 then (bif Nat.ble pc 31 then (bif Nat.ble pc 28 then (bif Nat.beq pc 28 then js_ifge 46 else js_none) else (bif Nat.beq pc 31 then js_il 2 1 else js_none)) else (bif Nat.beq pc 32 then js_al 0 1 else js_none)) else (bif Nat.ble pc 33 then (bif Nat.beq pc 33 then js_getf 8 26 else js_none) else (bif Nat.beq pc 36 then js_c 3 1 else js_none))) else (bif Nat.ble pc 38 then (bif Nat.ble pc 37 then (bif Nat.beq pc 37 then js_il 3 1 else js_none) else (bif Nat.beq pc 38 then js_imul else js_none)) else (bif Nat.ble pc 39 then (bif Nat.beq pc 39 then js_il 1 1 else js_none) else (bif Nat.beq pc 40 then js_iadd else js_none)))) else (bif Nat.ble pc 47 then (bif Nat.ble pc 43 then (bif Nat.ble pc 42 then (bif Nat.ble pc 41 then (bif Nat.beq pc 41 then js_ald else js_none) else (bif Nat.beq pc 42 then js_iadd else js_none)) else (bif Nat.beq pc 43 then js_go 47 else js_none)) else (bif Nat.ble pc 46 then (bif Nat.beq pc 46 then js_il 2 1 else js_none) else (bif Nat.beq pc 47 then js_is 2 1 else js_none))) else (bif Nat.ble pc 51 then (bif Nat.ble pc 48 then (bif Nat.beq pc 48 then js_inc 3 1 else js_none) else (bif Nat.beq pc 51 then js_go 14 else js_none)) else (bif Nat.ble pc 54 then (bif Nat.beq pc 54 then js_il 2 1 else js_none) else (bif Nat.beq pc 55 then js_ir else js_none)))))
theorem jk_134_0 : jx_Snd 134 0 (js_il 1 1) := jo_iload_n (i := 1) (w := 1) rfl jd_134_0
theorem jk_134_1 : jx_Snd 134 1 (js_c 3 1) := jo_iconst (z := 3) jd_134_1 rfl
theorem jk_134_2 : jx_Snd 134 2 (js_s2 89) := jo_s2 rfl jok_89 (Or.inl jw_532) jw_533 jd_134_2
theorem jk_134_5 : jx_Snd 134 5 (js_ifeq 10) := jo_ifeq (o := 5) rfl jd_134_5
theorem jk_134_8 : jx_Snd 134 8 (js_c (-1) 1) := jo_iconst (z := (-1)) jd_134_8 rfl
theorem jk_134_9 : jx_Snd 134 9 (js_ir) := jo_ir rfl jd_134_9
theorem jk_134_10 : jx_Snd 134 10 (js_c 0 1) := jo_iconst (z := 0) jd_134_10 rfl
theorem jk_134_11 : jx_Snd 134 11 (js_is 2 1) := jo_istore_n (i := 2) (w := 2) rfl (Nat.le_of_ble_eq_true rfl) jd_134_11
theorem jk_134_12 : jx_Snd 134 12 (js_c 0 1) := jo_iconst (z := 0) jd_134_12 rfl
theorem jk_134_13 : jx_Snd 134 13 (js_is 3 1) := jo_istore_n (i := 3) (w := 3) rfl (Nat.le_of_ble_eq_true rfl) jd_134_13
theorem jk_134_14 : jx_Snd 134 14 (js_il 3 1) := jo_iload_n (i := 3) (w := 3) rfl jd_134_14
theorem jk_134_15 : jx_Snd 134 15 (js_al 0 1) := jo_aload_n (i := 0) (w := 0) rfl jd_134_15
theorem jk_134_16 : jx_Snd 134 16 (js_getf 8 25) := jo_getf rfl jf_8_104 jd_134_16
theorem jk_134_19 : jx_Snd 134 19 (js_cge 54) := jo_cge (o := 35) rfl jd_134_19
theorem jk_134_22 : jx_Snd 134 22 (js_al 0 1) := jo_aload_n (i := 0) (w := 0) rfl jd_134_22
theorem jk_134_23 : jx_Snd 134 23 (js_getf 8 30) := jo_getf rfl jf_8_65 jd_134_23
theorem jk_134_26 : jx_Snd 134 26 (js_il 3 1) := jo_iload_n (i := 3) (w := 3) rfl jd_134_26
theorem jk_134_27 : jx_Snd 134 27 (js_ald) := jo_ald jd_134_27
theorem jk_134_28 : jx_Snd 134 28 (js_ifge 46) := jo_ifge (o := 18) rfl jd_134_28
theorem jk_134_31 : jx_Snd 134 31 (js_il 2 1) := jo_iload_n (i := 2) (w := 2) rfl jd_134_31
theorem jk_134_32 : jx_Snd 134 32 (js_al 0 1) := jo_aload_n (i := 0) (w := 0) rfl jd_134_32
theorem jk_134_33 : jx_Snd 134 33 (js_getf 8 26) := jo_getf rfl jf_8_53 jd_134_33
theorem jk_134_36 : jx_Snd 134 36 (js_c 3 1) := jo_iconst (z := 3) jd_134_36 rfl
theorem jk_134_37 : jx_Snd 134 37 (js_il 3 1) := jo_iload_n (i := 3) (w := 3) rfl jd_134_37
theorem jk_134_38 : jx_Snd 134 38 (js_imul) := jo_imul jd_134_38
theorem jk_134_39 : jx_Snd 134 39 (js_il 1 1) := jo_iload_n (i := 1) (w := 1) rfl jd_134_39
theorem jk_134_40 : jx_Snd 134 40 (js_iadd) := jo_iadd jd_134_40
theorem jk_134_41 : jx_Snd 134 41 (js_ald) := jo_ald jd_134_41
theorem jk_134_42 : jx_Snd 134 42 (js_iadd) := jo_iadd jd_134_42
theorem jk_134_43 : jx_Snd 134 43 (js_go 47) := jo_goto (o := 4) rfl jd_134_43
theorem jk_134_46 : jx_Snd 134 46 (js_il 2 1) := jo_iload_n (i := 2) (w := 2) rfl jd_134_46
theorem jk_134_47 : jx_Snd 134 47 (js_is 2 1) := jo_istore_n (i := 2) (w := 2) rfl (Nat.le_of_ble_eq_true rfl) jd_134_47
theorem jk_134_48 : jx_Snd 134 48 (js_inc 3 1) := jo_iinc (w := 1) rfl (Nat.le_of_ble_eq_true rfl) jd_134_48
theorem jk_134_51 : jx_Snd 134 51 (js_go 14) := jo_goto (o := (-37)) rfl jd_134_51
theorem jk_134_54 : jx_Snd 134 54 (js_il 2 1) := jo_iload_n (i := 2) (w := 2) rfl jd_134_54
theorem jk_134_55 : jx_Snd 134 55 (js_ir) := jo_ir rfl jd_134_55
theorem jk_134 : jx_So 134 jt_134 := fun pc => jo_le (jo_le (jo_le (jo_le (jo_le (jo_le (jo_at (jk_134_0)) (jo_at (jk_134_1))) (jo_at (jk_134_2))) (jo_le (jo_at (jk_134_5)) (jo_at (jk_134_8)))) (jo_le (jo_le (jo_at (jk_134_9)) (jo_at (jk_134_10))) (jo_le (jo_at (jk_134_11)) (jo_at (jk_134_12))))) (jo_le (jo_le (jo_le (jo_le (jo_at (jk_134_13)) (jo_at (jk_134_14))) (jo_at (jk_134_15))) (jo_le (jo_at (jk_134_16)) (jo_at (jk_134_19)))) (jo_le (jo_le (jo_at (jk_134_22)) (jo_at (jk_134_23))) (jo_le (jo_at (jk_134_26)) (jo_at (jk_134_27)))))) (jo_le (jo_le (jo_le (jo_le (jo_le (jo_at (jk_134_28)) (jo_at (jk_134_31))) (jo_at (jk_134_32))) (jo_le (jo_at (jk_134_33)) (jo_at (jk_134_36)))) (jo_le (jo_le (jo_at (jk_134_37)) (jo_at (jk_134_38))) (jo_le (jo_at (jk_134_39)) (jo_at (jk_134_40))))) (jo_le (jo_le (jo_le (jo_le (jo_at (jk_134_41)) (jo_at (jk_134_42))) (jo_at (jk_134_43))) (jo_le (jo_at (jk_134_46)) (jo_at (jk_134_47)))) (jo_le (jo_le (jo_at (jk_134_48)) (jo_at (jk_134_51))) (jo_le (jo_at (jk_134_54)) (jo_at (jk_134_55))))))
theorem ji_134 {l : Launch} {D : va_G} {cA : ClassId} {ρ : Nat → Nat} {Λ : List jx_Lc} {d : Nat} {Q : Option Value → jx_St → Prop} {σ : jx_St} {z0 : Nat} {a1 : Int32} (h : jt_134 0 Λ jx_tb0 (jx_rn Λ jx_tb0 jt_134 (fun k' as σ K => jx_C l D cA ρ Λ d k' as σ K) Q (jx_J l D cA ρ Λ (jx_A ρ Λ) jx_tb0 (d + 1) 134 Q) [] 400) (fun k' as σ K => jx_C l D cA ρ Λ d k' as σ K) Q 0 [(0, .ref z0), (1, .int a1)] [] σ) : jx_C l D cA ρ Λ (d + 1) 134 [.ref z0, .int a1] σ Q := jx_in jk_134 400 [] rfl (Nat.le_of_ble_eq_true rfl) h
/-! ScriptLedgerModel.pot()I -/
theorem jd_135_0 : decode prog_10_method_48_code 0 = .ok (.iconst 0, 1) := by decide +kernel
theorem jd_135_1 : decode prog_10_method_48_code 1 = .ok (.istore_n 1, 1) := by decide +kernel
theorem jd_135_2 : decode prog_10_method_48_code 2 = .ok (.iconst 0, 1) := by decide +kernel
theorem jd_135_3 : decode prog_10_method_48_code 3 = .ok (.istore_n 2, 1) := by decide +kernel
theorem jd_135_4 : decode prog_10_method_48_code 4 = .ok (.iload_n 2, 1) := by decide +kernel
theorem jd_135_5 : decode prog_10_method_48_code 5 = .ok (.aload_n 0, 1) := by decide +kernel
theorem jd_135_6 : decode prog_10_method_48_code 6 = .ok (.getfield 239, 3) := by decide +kernel
theorem jd_135_9 : decode prog_10_method_48_code 9 = .ok (.if_icmp .gt 18, 3) := by decide +kernel
theorem jd_135_12 : decode prog_10_method_48_code 12 = .ok (.iload_n 1, 1) := by decide +kernel
theorem jd_135_13 : decode prog_10_method_48_code 13 = .ok (.aload_n 0, 1) := by decide +kernel
theorem jd_135_14 : decode prog_10_method_48_code 14 = .ok (.getfield 68, 3) := by decide +kernel
theorem jd_135_17 : decode prog_10_method_48_code 17 = .ok (.iload_n 2, 1) := by decide +kernel
theorem jd_135_18 : decode prog_10_method_48_code 18 = .ok (.iaload, 1) := by decide +kernel
theorem jd_135_19 : decode prog_10_method_48_code 19 = .ok (.iadd, 1) := by decide +kernel
theorem jd_135_20 : decode prog_10_method_48_code 20 = .ok (.istore_n 1, 1) := by decide +kernel
theorem jd_135_21 : decode prog_10_method_48_code 21 = .ok (.iinc 2 1, 3) := by decide +kernel
theorem jd_135_24 : decode prog_10_method_48_code 24 = .ok (.goto (-20), 3) := by decide +kernel
theorem jd_135_27 : decode prog_10_method_48_code 27 = .ok (.iload_n 1, 1) := by decide +kernel
theorem jd_135_28 : decode prog_10_method_48_code 28 = .ok (.ireturn, 1) := by decide +kernel
def jt_135 (pc : Nat) : jx_Sp := bif Nat.ble pc 13 then (bif Nat.ble pc 4 then (bif Nat.ble pc 2 then (bif Nat.ble pc 1 then (bif Nat.ble pc 0 then (bif Nat.beq pc 0 then js_c 0 1 else js_none) else (bif Nat.beq pc 1 then js_is 1 1 else js_none)) else (bif Nat.beq pc 2 then js_c 0 1 else js_none)) else (bif Nat.ble pc 3 then (bif Nat.beq pc 3 then js_is 2 1 else js_none) else (bif Nat.beq pc 4 then js_il 2 1 else js_none))) else (bif Nat.ble pc 9 then (bif Nat.ble pc 6 then (bif Nat.ble pc 5 then (bif Nat.beq pc 5 then js_al 0 1 else js_none) else (bif Nat.beq pc 6 then js_getf 8 31 else js_none)) else (bif Nat.beq pc 9 then js_cgt 27 else js_none)) else (bif Nat.ble pc 12 then (bif Nat.beq pc 12 then js_il 1 1 else js_none) else (bif Nat.beq pc 13 then js_al 0 1 else js_none)))) else (bif Nat.ble pc 20 then (bif Nat.ble pc 18 then (bif Nat.ble pc 17 then (bif Nat.ble pc 14 then (bif Nat.beq pc 14 then js_getf 8 32 else js_none) else (bif Nat.beq pc 17 then js_il 2 1 else js_none)) else (bif Nat.beq pc 18 then js_ald else js_none)) else (bif Nat.ble pc 19 then (bif Nat.beq pc 19 then js_iadd else js_none) else (bif Nat.beq pc 20 then js_is 1 1 else js_none))) else (bif Nat.ble pc 24 then (bif Nat.ble pc 21 then (bif Nat.beq pc 21 then js_inc 2 1 else js_none) else (bif Nat.beq pc 24 then js_go 4 else js_none)) else (bif Nat.ble pc 27 then (bif Nat.beq pc 27 then js_il 1 1 else js_none) else (bif Nat.beq pc 28 then js_ir else js_none))))
theorem jk_135_0 : jx_Snd 135 0 (js_c 0 1) := jo_iconst (z := 0) jd_135_0 rfl
theorem jk_135_1 : jx_Snd 135 1 (js_is 1 1) := jo_istore_n (i := 1) (w := 1) rfl (Nat.le_of_ble_eq_true rfl) jd_135_1
theorem jk_135_2 : jx_Snd 135 2 (js_c 0 1) := jo_iconst (z := 0) jd_135_2 rfl
theorem jk_135_3 : jx_Snd 135 3 (js_is 2 1) := jo_istore_n (i := 2) (w := 2) rfl (Nat.le_of_ble_eq_true rfl) jd_135_3
theorem jk_135_4 : jx_Snd 135 4 (js_il 2 1) := jo_iload_n (i := 2) (w := 2) rfl jd_135_4
theorem jk_135_5 : jx_Snd 135 5 (js_al 0 1) := jo_aload_n (i := 0) (w := 0) rfl jd_135_5
theorem jk_135_6 : jx_Snd 135 6 (js_getf 8 31) := jo_getf rfl jf_8_239 jd_135_6
theorem jk_135_9 : jx_Snd 135 9 (js_cgt 27) := jo_cgt (o := 18) rfl jd_135_9
theorem jk_135_12 : jx_Snd 135 12 (js_il 1 1) := jo_iload_n (i := 1) (w := 1) rfl jd_135_12
theorem jk_135_13 : jx_Snd 135 13 (js_al 0 1) := jo_aload_n (i := 0) (w := 0) rfl jd_135_13
theorem jk_135_14 : jx_Snd 135 14 (js_getf 8 32) := jo_getf rfl jf_8_68 jd_135_14
theorem jk_135_17 : jx_Snd 135 17 (js_il 2 1) := jo_iload_n (i := 2) (w := 2) rfl jd_135_17
theorem jk_135_18 : jx_Snd 135 18 (js_ald) := jo_ald jd_135_18
theorem jk_135_19 : jx_Snd 135 19 (js_iadd) := jo_iadd jd_135_19
theorem jk_135_20 : jx_Snd 135 20 (js_is 1 1) := jo_istore_n (i := 1) (w := 1) rfl (Nat.le_of_ble_eq_true rfl) jd_135_20
theorem jk_135_21 : jx_Snd 135 21 (js_inc 2 1) := jo_iinc (w := 1) rfl (Nat.le_of_ble_eq_true rfl) jd_135_21
theorem jk_135_24 : jx_Snd 135 24 (js_go 4) := jo_goto (o := (-20)) rfl jd_135_24
theorem jk_135_27 : jx_Snd 135 27 (js_il 1 1) := jo_iload_n (i := 1) (w := 1) rfl jd_135_27
theorem jk_135_28 : jx_Snd 135 28 (js_ir) := jo_ir rfl jd_135_28
theorem jk_135 : jx_So 135 jt_135 := fun pc => jo_le (jo_le (jo_le (jo_le (jo_le (jo_at (jk_135_0)) (jo_at (jk_135_1))) (jo_at (jk_135_2))) (jo_le (jo_at (jk_135_3)) (jo_at (jk_135_4)))) (jo_le (jo_le (jo_le (jo_at (jk_135_5)) (jo_at (jk_135_6))) (jo_at (jk_135_9))) (jo_le (jo_at (jk_135_12)) (jo_at (jk_135_13))))) (jo_le (jo_le (jo_le (jo_le (jo_at (jk_135_14)) (jo_at (jk_135_17))) (jo_at (jk_135_18))) (jo_le (jo_at (jk_135_19)) (jo_at (jk_135_20)))) (jo_le (jo_le (jo_at (jk_135_21)) (jo_at (jk_135_24))) (jo_le (jo_at (jk_135_27)) (jo_at (jk_135_28)))))
theorem ji_135 {l : Launch} {D : va_G} {cA : ClassId} {ρ : Nat → Nat} {Λ : List jx_Lc} {d : Nat} {Q : Option Value → jx_St → Prop} {σ : jx_St} {z0 : Nat} (h : jt_135 0 Λ jx_tb0 (jx_rn Λ jx_tb0 jt_135 (fun k' as σ K => jx_C l D cA ρ Λ d k' as σ K) Q (jx_J l D cA ρ Λ (jx_A ρ Λ) jx_tb0 (d + 1) 135 Q) [] 400) (fun k' as σ K => jx_C l D cA ρ Λ d k' as σ K) Q 0 [(0, .ref z0)] [] σ) : jx_C l D cA ρ Λ (d + 1) 135 [.ref z0] σ Q := jx_in jk_135 400 [] rfl (Nat.le_of_ble_eq_true rfl) h
/-! ScriptLedgerModel.height()I -/
theorem jd_136_0 : decode prog_10_method_49_code 0 = .ok (.aload_n 0, 1) := by decide +kernel
theorem jd_136_1 : decode prog_10_method_49_code 1 = .ok (.getfield 239, 3) := by decide +kernel
theorem jd_136_4 : decode prog_10_method_49_code 4 = .ok (.ireturn, 1) := by decide +kernel
def jt_136 (pc : Nat) : jx_Sp := bif Nat.ble pc 1 then (bif Nat.ble pc 0 then (bif Nat.beq pc 0 then js_al 0 1 else js_none) else (bif Nat.beq pc 1 then js_getf 8 31 else js_none)) else (bif Nat.beq pc 4 then js_ir else js_none)
theorem jk_136_0 : jx_Snd 136 0 (js_al 0 1) := jo_aload_n (i := 0) (w := 0) rfl jd_136_0
theorem jk_136_1 : jx_Snd 136 1 (js_getf 8 31) := jo_getf rfl jf_8_239 jd_136_1
theorem jk_136_4 : jx_Snd 136 4 (js_ir) := jo_ir rfl jd_136_4
theorem jk_136 : jx_So 136 jt_136 := fun pc => jo_le (jo_le (jo_at (jk_136_0)) (jo_at (jk_136_1))) (jo_at (jk_136_4))
theorem ji_136 {l : Launch} {D : va_G} {cA : ClassId} {ρ : Nat → Nat} {Λ : List jx_Lc} {d : Nat} {Q : Option Value → jx_St → Prop} {σ : jx_St} {z0 : Nat} (h : jt_136 0 Λ jx_tb0 (jx_rn Λ jx_tb0 jt_136 (fun k' as σ K => jx_C l D cA ρ Λ d k' as σ K) Q (jx_J l D cA ρ Λ (jx_A ρ Λ) jx_tb0 (d + 1) 136 Q) [] 400) (fun k' as σ K => jx_C l D cA ρ Λ d k' as σ K) Q 0 [(0, .ref z0)] [] σ) : jx_C l D cA ρ Λ (d + 1) 136 [.ref z0] σ Q := jx_in jk_136 400 [] rfl (Nat.le_of_ble_eq_true rfl) h
/-! ScriptLedgerLaw.cell([II)I -/
theorem jd_137_0 : decode method_2_code 0 = .ok (.iload_n 1, 1) := by decide +kernel
theorem jd_137_1 : decode method_2_code 1 = .ok (.aload_n 0, 1) := by decide +kernel
theorem jd_137_2 : decode method_2_code 2 = .ok (.arraylength, 1) := by decide +kernel
theorem jd_137_3 : decode method_2_code 3 = .ok (.if_icmp .ge 9, 3) := by decide +kernel
theorem jd_137_6 : decode method_2_code 6 = .ok (.aload_n 0, 1) := by decide +kernel
theorem jd_137_7 : decode method_2_code 7 = .ok (.iload_n 1, 1) := by decide +kernel
theorem jd_137_8 : decode method_2_code 8 = .ok (.iaload, 1) := by decide +kernel
theorem jd_137_9 : decode method_2_code 9 = .ok (.goto 4, 3) := by decide +kernel
theorem jd_137_12 : decode method_2_code 12 = .ok (.iconst 0, 1) := by decide +kernel
theorem jd_137_13 : decode method_2_code 13 = .ok (.ireturn, 1) := by decide +kernel
def jt_137 (pc : Nat) : jx_Sp := bif Nat.ble pc 6 then (bif Nat.ble pc 2 then (bif Nat.ble pc 1 then (bif Nat.ble pc 0 then (bif Nat.beq pc 0 then js_il 1 1 else js_none) else (bif Nat.beq pc 1 then js_al 0 1 else js_none)) else (bif Nat.beq pc 2 then js_len else js_none)) else (bif Nat.ble pc 3 then (bif Nat.beq pc 3 then js_cge 12 else js_none) else (bif Nat.beq pc 6 then js_al 0 1 else js_none))) else (bif Nat.ble pc 9 then (bif Nat.ble pc 8 then (bif Nat.ble pc 7 then (bif Nat.beq pc 7 then js_il 1 1 else js_none) else (bif Nat.beq pc 8 then js_ald else js_none)) else (bif Nat.beq pc 9 then js_go 13 else js_none)) else (bif Nat.ble pc 12 then (bif Nat.beq pc 12 then js_c 0 1 else js_none) else (bif Nat.beq pc 13 then js_ir else js_none)))
theorem jk_137_0 : jx_Snd 137 0 (js_il 1 1) := jo_iload_n (i := 1) (w := 1) rfl jd_137_0
theorem jk_137_1 : jx_Snd 137 1 (js_al 0 1) := jo_aload_n (i := 0) (w := 0) rfl jd_137_1
theorem jk_137_2 : jx_Snd 137 2 (js_len) := jo_len jd_137_2
theorem jk_137_3 : jx_Snd 137 3 (js_cge 12) := jo_cge (o := 9) rfl jd_137_3
theorem jk_137_6 : jx_Snd 137 6 (js_al 0 1) := jo_aload_n (i := 0) (w := 0) rfl jd_137_6
theorem jk_137_7 : jx_Snd 137 7 (js_il 1 1) := jo_iload_n (i := 1) (w := 1) rfl jd_137_7
theorem jk_137_8 : jx_Snd 137 8 (js_ald) := jo_ald jd_137_8
theorem jk_137_9 : jx_Snd 137 9 (js_go 13) := jo_goto (o := 4) rfl jd_137_9
theorem jk_137_12 : jx_Snd 137 12 (js_c 0 1) := jo_iconst (z := 0) jd_137_12 rfl
theorem jk_137_13 : jx_Snd 137 13 (js_ir) := jo_ir rfl jd_137_13
theorem jk_137 : jx_So 137 jt_137 := fun pc => jo_le (jo_le (jo_le (jo_le (jo_at (jk_137_0)) (jo_at (jk_137_1))) (jo_at (jk_137_2))) (jo_le (jo_at (jk_137_3)) (jo_at (jk_137_6)))) (jo_le (jo_le (jo_le (jo_at (jk_137_7)) (jo_at (jk_137_8))) (jo_at (jk_137_9))) (jo_le (jo_at (jk_137_12)) (jo_at (jk_137_13))))
theorem ji_137 {l : Launch} {D : va_G} {cA : ClassId} {ρ : Nat → Nat} {Λ : List jx_Lc} {d : Nat} {Q : Option Value → jx_St → Prop} {σ : jx_St} {a1 : Nat} {a2 : Int32} (h : jt_137 0 Λ jx_tb0 (jx_rn Λ jx_tb0 jt_137 (fun k' as σ K => jx_C l D cA ρ Λ d k' as σ K) Q (jx_J l D cA ρ Λ (jx_A ρ Λ) jx_tb0 (d + 1) 137 Q) [] 400) (fun k' as σ K => jx_C l D cA ρ Λ d k' as σ K) Q 0 [(0, .ref a1), (1, .int a2)] [] σ) : jx_C l D cA ρ Λ (d + 1) 137 [.ref a1, .int a2] σ Q := jx_in jk_137 400 [] rfl (Nat.le_of_ble_eq_true rfl) h

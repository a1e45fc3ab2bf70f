/-! ScriptLedger$Scripts.read([II)I -/
theorem jd_58_0 : decode prog_6_method_4_code 0 = .ok (.aload_n 0, 1) := by decide +kernel
theorem jd_58_1 : decode prog_6_method_4_code 1 = .ok (.getfield 18, 3) := by decide +kernel
theorem jd_58_4 : decode prog_6_method_4_code 4 = .ok (.bipush 6, 2) := by decide +kernel
theorem jd_58_6 : decode prog_6_method_4_code 6 = .ok (.if_icmp .lt 5, 3) := by decide +kernel
theorem jd_58_9 : decode prog_6_method_4_code 9 = .ok (.iconst (-1), 1) := by decide +kernel
theorem jd_58_10 : decode prog_6_method_4_code 10 = .ok (.ireturn, 1) := by decide +kernel
theorem jd_58_11 : decode prog_6_method_4_code 11 = .ok (.aload_n 0, 1) := by decide +kernel
theorem jd_58_12 : decode prog_6_method_4_code 12 = .ok (.aload_n 0, 1) := by decide +kernel
theorem jd_58_13 : decode prog_6_method_4_code 13 = .ok (.getfield 18, 3) := by decide +kernel
theorem jd_58_16 : decode prog_6_method_4_code 16 = .ok (.invokevirtual 22, 3) := by decide +kernel
theorem jd_58_19 : decode prog_6_method_4_code 19 = .ok (.istore_n 3, 1) := by decide +kernel
theorem jd_58_20 : decode prog_6_method_4_code 20 = .ok (.iload_n 3, 1) := by decide +kernel
theorem jd_58_21 : decode prog_6_method_4_code 21 = .ok (.iload_n 2, 1) := by decide +kernel
theorem jd_58_22 : decode prog_6_method_4_code 22 = .ok (.iadd, 1) := by decide +kernel
theorem jd_58_23 : decode prog_6_method_4_code 23 = .ok (.istore 4, 2) := by decide +kernel
theorem jd_58_25 : decode prog_6_method_4_code 25 = .ok (.iconst 0, 1) := by decide +kernel
theorem jd_58_26 : decode prog_6_method_4_code 26 = .ok (.istore 5, 2) := by decide +kernel
theorem jd_58_28 : decode prog_6_method_4_code 28 = .ok (.iload 5, 2) := by decide +kernel
theorem jd_58_30 : decode prog_6_method_4_code 30 = .ok (.iload_n 2, 1) := by decide +kernel
theorem jd_58_31 : decode prog_6_method_4_code 31 = .ok (.if_icmp .ge 22, 3) := by decide +kernel
theorem jd_58_34 : decode prog_6_method_4_code 34 = .ok (.aload_n 0, 1) := by decide +kernel
theorem jd_58_35 : decode prog_6_method_4_code 35 = .ok (.getfield 9, 3) := by decide +kernel
theorem jd_58_38 : decode prog_6_method_4_code 38 = .ok (.iload_n 3, 1) := by decide +kernel
theorem jd_58_39 : decode prog_6_method_4_code 39 = .ok (.iload 5, 2) := by decide +kernel
theorem jd_58_41 : decode prog_6_method_4_code 41 = .ok (.iadd, 1) := by decide +kernel
theorem jd_58_42 : decode prog_6_method_4_code 42 = .ok (.aload_n 1, 1) := by decide +kernel
theorem jd_58_43 : decode prog_6_method_4_code 43 = .ok (.iload 5, 2) := by decide +kernel
theorem jd_58_45 : decode prog_6_method_4_code 45 = .ok (.iaload, 1) := by decide +kernel
theorem jd_58_46 : decode prog_6_method_4_code 46 = .ok (.iastore, 1) := by decide +kernel
theorem jd_58_47 : decode prog_6_method_4_code 47 = .ok (.iinc 5 1, 3) := by decide +kernel
theorem jd_58_50 : decode prog_6_method_4_code 50 = .ok (.goto (-22), 3) := by decide +kernel
theorem jd_58_53 : decode prog_6_method_4_code 53 = .ok (.aload_n 0, 1) := by decide +kernel
theorem jd_58_54 : decode prog_6_method_4_code 54 = .ok (.getfield 9, 3) := by decide +kernel
theorem jd_58_57 : decode prog_6_method_4_code 57 = .ok (.aload_n 0, 1) := by decide +kernel
theorem jd_58_58 : decode prog_6_method_4_code 58 = .ok (.getfield 15, 3) := by decide +kernel
theorem jd_58_61 : decode prog_6_method_4_code 61 = .ok (.iload_n 3, 1) := by decide +kernel
theorem jd_58_62 : decode prog_6_method_4_code 62 = .ok (.iload 4, 2) := by decide +kernel
theorem jd_58_64 : decode prog_6_method_4_code 64 = .ok (.iconst 0, 1) := by decide +kernel
theorem jd_58_65 : decode prog_6_method_4_code 65 = .ok (.iconst 0, 1) := by decide +kernel
theorem jd_58_66 : decode prog_6_method_4_code 66 = .ok (.invokestatic 26, 3) := by decide +kernel
theorem jd_58_69 : decode prog_6_method_4_code 69 = .ok (.iload 4, 2) := by decide +kernel
theorem jd_58_71 : decode prog_6_method_4_code 71 = .ok (.if_icmp .eq 6, 3) := by decide +kernel
theorem jd_58_74 : decode prog_6_method_4_code 74 = .ok (.bipush (-2), 2) := by decide +kernel
theorem jd_58_76 : decode prog_6_method_4_code 76 = .ok (.ireturn, 1) := by decide +kernel
theorem jd_58_77 : decode prog_6_method_4_code 77 = .ok (.aload_n 0, 1) := by decide +kernel
theorem jd_58_78 : decode prog_6_method_4_code 78 = .ok (.dup, 1) := by decide +kernel
theorem jd_58_79 : decode prog_6_method_4_code 79 = .ok (.getfield 18, 3) := by decide +kernel
theorem jd_58_82 : decode prog_6_method_4_code 82 = .ok (.iconst 1, 1) := by decide +kernel
theorem jd_58_83 : decode prog_6_method_4_code 83 = .ok (.iadd, 1) := by decide +kernel
theorem jd_58_84 : decode prog_6_method_4_code 84 = .ok (.putfield 18, 3) := by decide +kernel
theorem jd_58_87 : decode prog_6_method_4_code 87 = .ok (.aload_n 0, 1) := by decide +kernel
theorem jd_58_88 : decode prog_6_method_4_code 88 = .ok (.getfield 18, 3) := by decide +kernel
theorem jd_58_91 : decode prog_6_method_4_code 91 = .ok (.iconst 1, 1) := by decide +kernel
theorem jd_58_92 : decode prog_6_method_4_code 92 = .ok (.isub, 1) := by decide +kernel
theorem jd_58_93 : decode prog_6_method_4_code 93 = .ok (.ireturn, 1) := by decide +kernel
def jt_58 (pc : Nat) : jx_Sp := bif Nat.ble pc 45 then (bif Nat.ble pc 22 then (bif Nat.ble pc 11 then (bif Nat.ble pc 6 then (bif Nat.ble pc 1 then (bif Nat.ble pc 0 then (bif Nat.beq pc 0 then js_al 0 1 else js_none) else (bif Nat.beq pc 1 then js_getf 3 2 else js_none)) else (bif Nat.ble pc 4 then (bif Nat.beq pc 4 then js_c 6 2 else js_none) else (bif Nat.beq pc 6 then js_clt 11 else js_none))) else (bif Nat.ble pc 10 then (bif Nat.ble pc 9 then (bif Nat.beq pc 9 then js_c (-1) 1 else js_none) else (bif Nat.beq pc 10 then js_ir else js_none)) else (bif Nat.beq pc 11 then js_al 0 1 else js_none))) else (bif Nat.ble pc 19 then (bif Nat.ble pc 13 then (bif Nat.ble pc 12 then (bif Nat.beq pc 12 then js_al 0 1 else js_none) else (bif Nat.beq pc 13 then js_getf 3 2 else js_none)) else (bif Nat.ble pc 16 then (bif Nat.beq pc 16 then js_v1 3 57 else js_none) else (bif Nat.beq pc 19 then js_is 3 1 else js_none))) else (bif Nat.ble pc 21 then (bif Nat.ble pc 20 then (bif Nat.beq pc 20 then js_il 3 1 else js_none) else (bif Nat.beq pc 21 then js_il 2 1 else js_none)) else (bif Nat.beq pc 22 then js_iadd else js_none)))) else (bif Nat.ble pc 34 then (bif Nat.ble pc 28 then (bif Nat.ble pc 25 then (bif Nat.ble pc 23 then (bif Nat.beq pc 23 then js_is 4 2 else js_none) else (bif Nat.beq pc 25 then js_c 0 1 else js_none)) else (bif Nat.ble pc 26 then (bif Nat.beq pc 26 then js_is 5 2 else js_none) else (bif Nat.beq pc 28 then js_il 5 2 else js_none))) else (bif Nat.ble pc 31 then (bif Nat.ble pc 30 then (bif Nat.beq pc 30 then js_il 2 1 else js_none) else (bif Nat.beq pc 31 then js_cge 53 else js_none)) else (bif Nat.beq pc 34 then js_al 0 1 else js_none))) else (bif Nat.ble pc 41 then (bif Nat.ble pc 38 then (bif Nat.ble pc 35 then (bif Nat.beq pc 35 then js_getf 3 0 else js_none) else (bif Nat.beq pc 38 then js_il 3 1 else js_none)) else (bif Nat.ble pc 39 then (bif Nat.beq pc 39 then js_il 5 2 else js_none) else (bif Nat.beq pc 41 then js_iadd else js_none))) else (bif Nat.ble pc 43 then (bif Nat.ble pc 42 then (bif Nat.beq pc 42 then js_al 1 1 else js_none) else (bif Nat.beq pc 43 then js_il 5 2 else js_none)) else (bif Nat.beq pc 45 then js_ald else js_none))))) else (bif Nat.ble pc 71 then (bif Nat.ble pc 58 then (bif Nat.ble pc 53 then (bif Nat.ble pc 47 then (bif Nat.ble pc 46 then (bif Nat.beq pc 46 then js_ast else js_none) else (bif Nat.beq pc 47 then js_inc 5 1 else js_none)) else (bif Nat.ble pc 50 then (bif Nat.beq pc 50 then js_go 28 else js_none) else (bif Nat.beq pc 53 then js_al 0 1 else js_none))) else (bif Nat.ble pc 57 then (bif Nat.ble pc 54 then (bif Nat.beq pc 54 then js_getf 3 0 else js_none) else (bif Nat.beq pc 57 then js_al 0 1 else js_none)) else (bif Nat.beq pc 58 then js_getf 3 1 else js_none))) else (bif Nat.ble pc 65 then (bif Nat.ble pc 62 then (bif Nat.ble pc 61 then (bif Nat.beq pc 61 then js_il 3 1 else js_none) else (bif Nat.beq pc 62 then js_il 4 2 else js_none)) else (bif Nat.ble pc 64 then (bif Nat.beq pc 64 then js_c 0 1 else js_none) else (bif Nat.beq pc 65 then js_c 0 1 else js_none))) else (bif Nat.ble pc 69 then (bif Nat.ble pc 66 then (bif Nat.beq pc 66 then js_s6 59 else js_none) else (bif Nat.beq pc 69 then js_il 4 2 else js_none)) else (bif Nat.beq pc 71 then js_ceq 77 else js_none)))) else (bif Nat.ble pc 83 then (bif Nat.ble pc 78 then (bif Nat.ble pc 76 then (bif Nat.ble pc 74 then (bif Nat.beq pc 74 then js_c (-2) 2 else js_none) else (bif Nat.beq pc 76 then js_ir else js_none)) else (bif Nat.ble pc 77 then (bif Nat.beq pc 77 then js_al 0 1 else js_none) else (bif Nat.beq pc 78 then js_dup else js_none))) else (bif Nat.ble pc 82 then (bif Nat.ble pc 79 then (bif Nat.beq pc 79 then js_getf 3 2 else js_none) else (bif Nat.beq pc 82 then js_c 1 1 else js_none)) else (bif Nat.beq pc 83 then js_iadd else js_none))) else (bif Nat.ble pc 88 then (bif Nat.ble pc 87 then (bif Nat.ble pc 84 then (bif Nat.beq pc 84 then js_putf 3 2 false else js_none) else (bif Nat.beq pc 87 then js_al 0 1 else js_none)) else (bif Nat.beq pc 88 then js_getf 3 2 else js_none)) else (bif Nat.ble pc 92 then (bif Nat.ble pc 91 then (bif Nat.beq pc 91 then js_c 1 1 else js_none) else (bif Nat.beq pc 92 then js_isub else js_none)) else (bif Nat.beq pc 93 then js_ir else js_none)))))
theorem jk_58_0 : jx_Snd 58 0 (js_al 0 1) := jo_aload_n (i := 0) (w := 0) rfl jd_58_0
theorem jk_58_1 : jx_Snd 58 1 (js_getf 3 2) := jo_getf rfl jf_3_18 jd_58_1
theorem jk_58_4 : jx_Snd 58 4 (js_c 6 2) := jo_bipush (z := 6) jd_58_4 (by decide +kernel)
theorem jk_58_6 : jx_Snd 58 6 (js_clt 11) := jo_clt (o := 5) rfl jd_58_6
theorem jk_58_9 : jx_Snd 58 9 (js_c (-1) 1) := jo_iconst (z := (-1)) jd_58_9 rfl
theorem jk_58_10 : jx_Snd 58 10 (js_ir) := jo_ir rfl jd_58_10
theorem jk_58_11 : jx_Snd 58 11 (js_al 0 1) := jo_aload_n (i := 0) (w := 0) rfl jd_58_11
theorem jk_58_12 : jx_Snd 58 12 (js_al 0 1) := jo_aload_n (i := 0) (w := 0) rfl jd_58_12
theorem jk_58_13 : jx_Snd 58 13 (js_getf 3 2) := jo_getf rfl jf_3_18 jd_58_13
theorem jk_58_16 : jx_Snd 58 16 (js_v1 3 57) := jo_v1 rfl jok_57 (Or.inl jw_184) jw_185 jw_186 rfl jd_58_16
theorem jk_58_19 : jx_Snd 58 19 (js_is 3 1) := jo_istore_n (i := 3) (w := 3) rfl (Nat.le_of_ble_eq_true rfl) jd_58_19
theorem jk_58_20 : jx_Snd 58 20 (js_il 3 1) := jo_iload_n (i := 3) (w := 3) rfl jd_58_20
theorem jk_58_21 : jx_Snd 58 21 (js_il 2 1) := jo_iload_n (i := 2) (w := 2) rfl jd_58_21
theorem jk_58_22 : jx_Snd 58 22 (js_iadd) := jo_iadd jd_58_22
theorem jk_58_23 : jx_Snd 58 23 (js_is 4 2) := jo_istore (i := 4) (Nat.le_of_ble_eq_true rfl) jd_58_23
theorem jk_58_25 : jx_Snd 58 25 (js_c 0 1) := jo_iconst (z := 0) jd_58_25 rfl
theorem jk_58_26 : jx_Snd 58 26 (js_is 5 2) := jo_istore (i := 5) (Nat.le_of_ble_eq_true rfl) jd_58_26
theorem jk_58_28 : jx_Snd 58 28 (js_il 5 2) := jo_iload (i := 5) jd_58_28
theorem jk_58_30 : jx_Snd 58 30 (js_il 2 1) := jo_iload_n (i := 2) (w := 2) rfl jd_58_30
theorem jk_58_31 : jx_Snd 58 31 (js_cge 53) := jo_cge (o := 22) rfl jd_58_31
theorem jk_58_34 : jx_Snd 58 34 (js_al 0 1) := jo_aload_n (i := 0) (w := 0) rfl jd_58_34
theorem jk_58_35 : jx_Snd 58 35 (js_getf 3 0) := jo_getf rfl jf_3_9 jd_58_35
theorem jk_58_38 : jx_Snd 58 38 (js_il 3 1) := jo_iload_n (i := 3) (w := 3) rfl jd_58_38
theorem jk_58_39 : jx_Snd 58 39 (js_il 5 2) := jo_iload (i := 5) jd_58_39
theorem jk_58_41 : jx_Snd 58 41 (js_iadd) := jo_iadd jd_58_41
theorem jk_58_42 : jx_Snd 58 42 (js_al 1 1) := jo_aload_n (i := 1) (w := 1) rfl jd_58_42
theorem jk_58_43 : jx_Snd 58 43 (js_il 5 2) := jo_iload (i := 5) jd_58_43
theorem jk_58_45 : jx_Snd 58 45 (js_ald) := jo_ald jd_58_45
theorem jk_58_46 : jx_Snd 58 46 (js_ast) := jo_ast jd_58_46
theorem jk_58_47 : jx_Snd 58 47 (js_inc 5 1) := jo_iinc (w := 1) rfl (Nat.le_of_ble_eq_true rfl) jd_58_47
theorem jk_58_50 : jx_Snd 58 50 (js_go 28) := jo_goto (o := (-22)) rfl jd_58_50
theorem jk_58_53 : jx_Snd 58 53 (js_al 0 1) := jo_aload_n (i := 0) (w := 0) rfl jd_58_53
theorem jk_58_54 : jx_Snd 58 54 (js_getf 3 0) := jo_getf rfl jf_3_9 jd_58_54
theorem jk_58_57 : jx_Snd 58 57 (js_al 0 1) := jo_aload_n (i := 0) (w := 0) rfl jd_58_57
theorem jk_58_58 : jx_Snd 58 58 (js_getf 3 1) := jo_getf rfl jf_3_15 jd_58_58
theorem jk_58_61 : jx_Snd 58 61 (js_il 3 1) := jo_iload_n (i := 3) (w := 3) rfl jd_58_61
theorem jk_58_62 : jx_Snd 58 62 (js_il 4 2) := jo_iload (i := 4) jd_58_62
theorem jk_58_64 : jx_Snd 58 64 (js_c 0 1) := jo_iconst (z := 0) jd_58_64 rfl
theorem jk_58_65 : jx_Snd 58 65 (js_c 0 1) := jo_iconst (z := 0) jd_58_65 rfl
theorem jk_58_66 : jx_Snd 58 66 (js_s6 59) := jo_s6 rfl jok_59 (Or.inl jw_188) jw_189 jd_58_66
theorem jk_58_69 : jx_Snd 58 69 (js_il 4 2) := jo_iload (i := 4) jd_58_69
theorem jk_58_71 : jx_Snd 58 71 (js_ceq 77) := jo_ceq (o := 6) rfl jd_58_71
theorem jk_58_74 : jx_Snd 58 74 (js_c (-2) 2) := jo_bipush (z := (-2)) jd_58_74 (by decide +kernel)
theorem jk_58_76 : jx_Snd 58 76 (js_ir) := jo_ir rfl jd_58_76
theorem jk_58_77 : jx_Snd 58 77 (js_al 0 1) := jo_aload_n (i := 0) (w := 0) rfl jd_58_77
theorem jk_58_78 : jx_Snd 58 78 (js_dup) := jo_dup jd_58_78
theorem jk_58_79 : jx_Snd 58 79 (js_getf 3 2) := jo_getf rfl jf_3_18 jd_58_79
theorem jk_58_82 : jx_Snd 58 82 (js_c 1 1) := jo_iconst (z := 1) jd_58_82 rfl
theorem jk_58_83 : jx_Snd 58 83 (js_iadd) := jo_iadd jd_58_83
theorem jk_58_84 : jx_Snd 58 84 (js_putf 3 2 false) := jo_putf (z := false) rfl jf_3_18 (fun C T N h => by cases h; rfl) jd_58_84
theorem jk_58_87 : jx_Snd 58 87 (js_al 0 1) := jo_aload_n (i := 0) (w := 0) rfl jd_58_87
theorem jk_58_88 : jx_Snd 58 88 (js_getf 3 2) := jo_getf rfl jf_3_18 jd_58_88
theorem jk_58_91 : jx_Snd 58 91 (js_c 1 1) := jo_iconst (z := 1) jd_58_91 rfl
theorem jk_58_92 : jx_Snd 58 92 (js_isub) := jo_isub jd_58_92
theorem jk_58_93 : jx_Snd 58 93 (js_ir) := jo_ir rfl jd_58_93
theorem jk_58 : jx_So 58 jt_58 := fun pc => jo_le (jo_le (jo_le (jo_le (jo_le (jo_le (jo_at (jk_58_0)) (jo_at (jk_58_1))) (jo_le (jo_at (jk_58_4)) (jo_at (jk_58_6)))) (jo_le (jo_le (jo_at (jk_58_9)) (jo_at (jk_58_10))) (jo_at (jk_58_11)))) (jo_le (jo_le (jo_le (jo_at (jk_58_12)) (jo_at (jk_58_13))) (jo_le (jo_at (jk_58_16)) (jo_at (jk_58_19)))) (jo_le (jo_le (jo_at (jk_58_20)) (jo_at (jk_58_21))) (jo_at (jk_58_22))))) (jo_le (jo_le (jo_le (jo_le (jo_at (jk_58_23)) (jo_at (jk_58_25))) (jo_le (jo_at (jk_58_26)) (jo_at (jk_58_28)))) (jo_le (jo_le (jo_at (jk_58_30)) (jo_at (jk_58_31))) (jo_at (jk_58_34)))) (jo_le (jo_le (jo_le (jo_at (jk_58_35)) (jo_at (jk_58_38))) (jo_le (jo_at (jk_58_39)) (jo_at (jk_58_41)))) (jo_le (jo_le (jo_at (jk_58_42)) (jo_at (jk_58_43))) (jo_at (jk_58_45)))))) (jo_le (jo_le (jo_le (jo_le (jo_le (jo_at (jk_58_46)) (jo_at (jk_58_47))) (jo_le (jo_at (jk_58_50)) (jo_at (jk_58_53)))) (jo_le (jo_le (jo_at (jk_58_54)) (jo_at (jk_58_57))) (jo_at (jk_58_58)))) (jo_le (jo_le (jo_le (jo_at (jk_58_61)) (jo_at (jk_58_62))) (jo_le (jo_at (jk_58_64)) (jo_at (jk_58_65)))) (jo_le (jo_le (jo_at (jk_58_66)) (jo_at (jk_58_69))) (jo_at (jk_58_71))))) (jo_le (jo_le (jo_le (jo_le (jo_at (jk_58_74)) (jo_at (jk_58_76))) (jo_le (jo_at (jk_58_77)) (jo_at (jk_58_78)))) (jo_le (jo_le (jo_at (jk_58_79)) (jo_at (jk_58_82))) (jo_at (jk_58_83)))) (jo_le (jo_le (jo_le (jo_at (jk_58_84)) (jo_at (jk_58_87))) (jo_at (jk_58_88))) (jo_le (jo_le (jo_at (jk_58_91)) (jo_at (jk_58_92))) (jo_at (jk_58_93))))))
theorem ji_58 {l : Launch} {D : va_G} {cA : ClassId} {ρ : Nat → Nat} {Λ : List jx_Lc} {d : Nat} {Q : Option Value → jx_St → Prop} {σ : jx_St} {z0 : Nat} {a1 : Nat} {a2 : Int32} (h : jt_58 0 Λ jx_tb0 (jx_rn Λ jx_tb0 jt_58 (fun k' as σ K => jx_C l D cA ρ Λ d k' as σ K) Q (jx_J l D cA ρ Λ (jx_A ρ Λ) jx_tb0 (d + 1) 58 Q) [] 400) (fun k' as σ K => jx_C l D cA ρ Λ d k' as σ K) Q 0 [(0, .ref z0), (1, .ref a1), (2, .int a2)] [] σ) : jx_C l D cA ρ Λ (d + 1) 58 [.ref z0, .ref a1, .int a2] σ Q := jx_in jk_58 400 [] rfl (Nat.le_of_ble_eq_true rfl) h
/-! ScriptLedger$Scripts.behindTerm([I[IIIII)I -/
theorem jd_59_0 : decode prog_6_method_5_code 0 = .ok (.iload_n 2, 1) := by decide +kernel
theorem jd_59_1 : decode prog_6_method_5_code 1 = .ok (.ifCond .lt 15, 3) := by decide +kernel
theorem jd_59_4 : decode prog_6_method_5_code 4 = .ok (.iload_n 2, 1) := by decide +kernel
theorem jd_59_5 : decode prog_6_method_5_code 5 = .ok (.iload_n 3, 1) := by decide +kernel
theorem jd_59_6 : decode prog_6_method_5_code 6 = .ok (.if_icmp .ge 10, 3) := by decide +kernel
theorem jd_59_9 : decode prog_6_method_5_code 9 = .ok (.iload 5, 2) := by decide +kernel
theorem jd_59_11 : decode prog_6_method_5_code 11 = .ok (.bipush 20, 2) := by decide +kernel
theorem jd_59_13 : decode prog_6_method_5_code 13 = .ok (.if_icmp .le 6, 3) := by decide +kernel
theorem jd_59_16 : decode prog_6_method_5_code 16 = .ok (.bipush (-2), 2) := by decide +kernel
theorem jd_59_18 : decode prog_6_method_5_code 18 = .ok (.ireturn, 1) := by decide +kernel
theorem jd_59_19 : decode prog_6_method_5_code 19 = .ok (.aload_n 0, 1) := by decide +kernel
theorem jd_59_20 : decode prog_6_method_5_code 20 = .ok (.iload_n 2, 1) := by decide +kernel
theorem jd_59_21 : decode prog_6_method_5_code 21 = .ok (.iaload, 1) := by decide +kernel
theorem jd_59_22 : decode prog_6_method_5_code 22 = .ok (.tableswitch 158 0 8 #[50, 86, 120, 63, 75, 104, 104, 154, 154], 50) := by decide +kernel
theorem jd_59_72 : decode prog_6_method_5_code 72 = .ok (.aload_n 0, 1) := by decide +kernel
theorem jd_59_73 : decode prog_6_method_5_code 73 = .ok (.iload_n 2, 1) := by decide +kernel
theorem jd_59_74 : decode prog_6_method_5_code 74 = .ok (.iconst 1, 1) := by decide +kernel
theorem jd_59_75 : decode prog_6_method_5_code 75 = .ok (.iadd, 1) := by decide +kernel
theorem jd_59_76 : decode prog_6_method_5_code 76 = .ok (.iload_n 3, 1) := by decide +kernel
theorem jd_59_77 : decode prog_6_method_5_code 77 = .ok (.iload 4, 2) := by decide +kernel
theorem jd_59_79 : decode prog_6_method_5_code 79 = .ok (.iconst 1, 1) := by decide +kernel
theorem jd_59_80 : decode prog_6_method_5_code 80 = .ok (.isub, 1) := by decide +kernel
theorem jd_59_81 : decode prog_6_method_5_code 81 = .ok (.invokestatic 30, 3) := by decide +kernel
theorem jd_59_84 : decode prog_6_method_5_code 84 = .ok (.ireturn, 1) := by decide +kernel
theorem jd_59_85 : decode prog_6_method_5_code 85 = .ok (.aload_n 0, 1) := by decide +kernel
theorem jd_59_86 : decode prog_6_method_5_code 86 = .ok (.iload_n 2, 1) := by decide +kernel
theorem jd_59_87 : decode prog_6_method_5_code 87 = .ok (.iconst 1, 1) := by decide +kernel
theorem jd_59_88 : decode prog_6_method_5_code 88 = .ok (.iadd, 1) := by decide +kernel
theorem jd_59_89 : decode prog_6_method_5_code 89 = .ok (.iload_n 3, 1) := by decide +kernel
theorem jd_59_90 : decode prog_6_method_5_code 90 = .ok (.sipush 255, 3) := by decide +kernel
theorem jd_59_93 : decode prog_6_method_5_code 93 = .ok (.invokestatic 30, 3) := by decide +kernel
theorem jd_59_96 : decode prog_6_method_5_code 96 = .ok (.ireturn, 1) := by decide +kernel
theorem jd_59_97 : decode prog_6_method_5_code 97 = .ok (.aload_n 0, 1) := by decide +kernel
theorem jd_59_98 : decode prog_6_method_5_code 98 = .ok (.iload_n 2, 1) := by decide +kernel
theorem jd_59_99 : decode prog_6_method_5_code 99 = .ok (.iconst 1, 1) := by decide +kernel
theorem jd_59_100 : decode prog_6_method_5_code 100 = .ok (.iadd, 1) := by decide +kernel
theorem jd_59_101 : decode prog_6_method_5_code 101 = .ok (.iload_n 3, 1) := by decide +kernel
theorem jd_59_102 : decode prog_6_method_5_code 102 = .ok (.bipush 10, 2) := by decide +kernel
theorem jd_59_104 : decode prog_6_method_5_code 104 = .ok (.invokestatic 30, 3) := by decide +kernel
theorem jd_59_107 : decode prog_6_method_5_code 107 = .ok (.ireturn, 1) := by decide +kernel
theorem jd_59_108 : decode prog_6_method_5_code 108 = .ok (.aload_n 0, 1) := by decide +kernel
theorem jd_59_109 : decode prog_6_method_5_code 109 = .ok (.aload_n 1, 1) := by decide +kernel
theorem jd_59_110 : decode prog_6_method_5_code 110 = .ok (.iload_n 2, 1) := by decide +kernel
theorem jd_59_111 : decode prog_6_method_5_code 111 = .ok (.iconst 1, 1) := by decide +kernel
theorem jd_59_112 : decode prog_6_method_5_code 112 = .ok (.iadd, 1) := by decide +kernel
theorem jd_59_113 : decode prog_6_method_5_code 113 = .ok (.iload_n 3, 1) := by decide +kernel
theorem jd_59_114 : decode prog_6_method_5_code 114 = .ok (.iload 4, 2) := by decide +kernel
theorem jd_59_116 : decode prog_6_method_5_code 116 = .ok (.iconst 1, 1) := by decide +kernel
theorem jd_59_117 : decode prog_6_method_5_code 117 = .ok (.iadd, 1) := by decide +kernel
theorem jd_59_118 : decode prog_6_method_5_code 118 = .ok (.iload 5, 2) := by decide +kernel
theorem jd_59_120 : decode prog_6_method_5_code 120 = .ok (.iconst 1, 1) := by decide +kernel
theorem jd_59_121 : decode prog_6_method_5_code 121 = .ok (.iadd, 1) := by decide +kernel
theorem jd_59_122 : decode prog_6_method_5_code 122 = .ok (.invokestatic 26, 3) := by decide +kernel
theorem jd_59_125 : decode prog_6_method_5_code 125 = .ok (.ireturn, 1) := by decide +kernel
theorem jd_59_126 : decode prog_6_method_5_code 126 = .ok (.aload_n 0, 1) := by decide +kernel
theorem jd_59_127 : decode prog_6_method_5_code 127 = .ok (.aload_n 1, 1) := by decide +kernel
theorem jd_59_128 : decode prog_6_method_5_code 128 = .ok (.iload_n 2, 1) := by decide +kernel
theorem jd_59_129 : decode prog_6_method_5_code 129 = .ok (.iconst 1, 1) := by decide +kernel
theorem jd_59_130 : decode prog_6_method_5_code 130 = .ok (.iadd, 1) := by decide +kernel
theorem jd_59_131 : decode prog_6_method_5_code 131 = .ok (.iload_n 3, 1) := by decide +kernel
theorem jd_59_132 : decode prog_6_method_5_code 132 = .ok (.iload 4, 2) := by decide +kernel
theorem jd_59_134 : decode prog_6_method_5_code 134 = .ok (.iload 5, 2) := by decide +kernel
theorem jd_59_136 : decode prog_6_method_5_code 136 = .ok (.iconst 1, 1) := by decide +kernel
theorem jd_59_137 : decode prog_6_method_5_code 137 = .ok (.iadd, 1) := by decide +kernel
theorem jd_59_138 : decode prog_6_method_5_code 138 = .ok (.invokestatic 26, 3) := by decide +kernel
theorem jd_59_141 : decode prog_6_method_5_code 141 = .ok (.ireturn, 1) := by decide +kernel
theorem jd_59_142 : decode prog_6_method_5_code 142 = .ok (.aload_n 1, 1) := by decide +kernel
theorem jd_59_143 : decode prog_6_method_5_code 143 = .ok (.iload_n 2, 1) := by decide +kernel
theorem jd_59_144 : decode prog_6_method_5_code 144 = .ok (.aload_n 0, 1) := by decide +kernel
theorem jd_59_145 : decode prog_6_method_5_code 145 = .ok (.aload_n 1, 1) := by decide +kernel
theorem jd_59_146 : decode prog_6_method_5_code 146 = .ok (.iload_n 2, 1) := by decide +kernel
theorem jd_59_147 : decode prog_6_method_5_code 147 = .ok (.iconst 1, 1) := by decide +kernel
theorem jd_59_148 : decode prog_6_method_5_code 148 = .ok (.iadd, 1) := by decide +kernel
theorem jd_59_149 : decode prog_6_method_5_code 149 = .ok (.iload_n 3, 1) := by decide +kernel
theorem jd_59_150 : decode prog_6_method_5_code 150 = .ok (.iload 4, 2) := by decide +kernel
theorem jd_59_152 : decode prog_6_method_5_code 152 = .ok (.iload 5, 2) := by decide +kernel
theorem jd_59_154 : decode prog_6_method_5_code 154 = .ok (.iconst 1, 1) := by decide +kernel
theorem jd_59_155 : decode prog_6_method_5_code 155 = .ok (.iadd, 1) := by decide +kernel
theorem jd_59_156 : decode prog_6_method_5_code 156 = .ok (.invokestatic 26, 3) := by decide +kernel
theorem jd_59_159 : decode prog_6_method_5_code 159 = .ok (.iastore, 1) := by decide +kernel
theorem jd_59_160 : decode prog_6_method_5_code 160 = .ok (.aload_n 0, 1) := by decide +kernel
theorem jd_59_161 : decode prog_6_method_5_code 161 = .ok (.aload_n 1, 1) := by decide +kernel
theorem jd_59_162 : decode prog_6_method_5_code 162 = .ok (.aload_n 1, 1) := by decide +kernel
theorem jd_59_163 : decode prog_6_method_5_code 163 = .ok (.iload_n 2, 1) := by decide +kernel
theorem jd_59_164 : decode prog_6_method_5_code 164 = .ok (.iaload, 1) := by decide +kernel
theorem jd_59_165 : decode prog_6_method_5_code 165 = .ok (.iload_n 3, 1) := by decide +kernel
theorem jd_59_166 : decode prog_6_method_5_code 166 = .ok (.iload 4, 2) := by decide +kernel
theorem jd_59_168 : decode prog_6_method_5_code 168 = .ok (.iload 5, 2) := by decide +kernel
theorem jd_59_170 : decode prog_6_method_5_code 170 = .ok (.iconst 1, 1) := by decide +kernel
theorem jd_59_171 : decode prog_6_method_5_code 171 = .ok (.iadd, 1) := by decide +kernel
theorem jd_59_172 : decode prog_6_method_5_code 172 = .ok (.invokestatic 26, 3) := by decide +kernel
theorem jd_59_175 : decode prog_6_method_5_code 175 = .ok (.ireturn, 1) := by decide +kernel
theorem jd_59_176 : decode prog_6_method_5_code 176 = .ok (.iload_n 2, 1) := by decide +kernel
theorem jd_59_177 : decode prog_6_method_5_code 177 = .ok (.iconst 1, 1) := by decide +kernel
theorem jd_59_178 : decode prog_6_method_5_code 178 = .ok (.iadd, 1) := by decide +kernel
theorem jd_59_179 : decode prog_6_method_5_code 179 = .ok (.ireturn, 1) := by decide +kernel
theorem jd_59_180 : decode prog_6_method_5_code 180 = .ok (.bipush (-2), 2) := by decide +kernel
theorem jd_59_182 : decode prog_6_method_5_code 182 = .ok (.ireturn, 1) := by decide +kernel
def jt_59 (pc : Nat) : jx_Sp := bif Nat.ble pc 117 then (bif Nat.ble pc 85 then (bif Nat.ble pc 21 then (bif Nat.ble pc 11 then (bif Nat.ble pc 5 then (bif Nat.ble pc 1 then (bif Nat.ble pc 0 then (bif Nat.beq pc 0 then js_il 2 1 else js_none) else (bif Nat.beq pc 1 then js_iflt 16 else js_none)) else (bif Nat.ble pc 4 then (bif Nat.beq pc 4 then js_il 2 1 else js_none) else (bif Nat.beq pc 5 then js_il 3 1 else js_none))) else (bif Nat.ble pc 9 then (bif Nat.ble pc 6 then (bif Nat.beq pc 6 then js_cge 16 else js_none) else (bif Nat.beq pc 9 then js_il 5 2 else js_none)) else (bif Nat.beq pc 11 then js_c 20 2 else js_none))) else (bif Nat.ble pc 18 then (bif Nat.ble pc 16 then (bif Nat.ble pc 13 then (bif Nat.beq pc 13 then js_cle 19 else js_none) else (bif Nat.beq pc 16 then js_c (-2) 2 else js_none)) else (bif Nat.beq pc 18 then js_ir else js_none)) else (bif Nat.ble pc 20 then (bif Nat.ble pc 19 then (bif Nat.beq pc 19 then js_al 0 1 else js_none) else (bif Nat.beq pc 20 then js_il 2 1 else js_none)) else (bif Nat.beq pc 21 then js_ald else js_none)))) else (bif Nat.ble pc 76 then (bif Nat.ble pc 73 then (bif Nat.ble pc 72 then (bif Nat.ble pc 22 then (bif Nat.beq pc 22 then js_sw [(0, 72), (1, 108), (2, 142), (3, 85), (4, 97), (5, 126), (6, 126), (7, 176), (8, 176)] 180 else js_none) else (bif Nat.beq pc 72 then js_al 0 1 else js_none)) else (bif Nat.beq pc 73 then js_il 2 1 else js_none)) else (bif Nat.ble pc 75 then (bif Nat.ble pc 74 then (bif Nat.beq pc 74 then js_c 1 1 else js_none) else (bif Nat.beq pc 75 then js_iadd else js_none)) else (bif Nat.beq pc 76 then js_il 3 1 else js_none))) else (bif Nat.ble pc 80 then (bif Nat.ble pc 79 then (bif Nat.ble pc 77 then (bif Nat.beq pc 77 then js_il 4 2 else js_none) else (bif Nat.beq pc 79 then js_c 1 1 else js_none)) else (bif Nat.beq pc 80 then js_isub else js_none)) else (bif Nat.ble pc 84 then (bif Nat.ble pc 81 then (bif Nat.beq pc 81 then js_s4 60 else js_none) else (bif Nat.beq pc 84 then js_ir else js_none)) else (bif Nat.beq pc 85 then js_al 0 1 else js_none))))) else (bif Nat.ble pc 101 then (bif Nat.ble pc 93 then (bif Nat.ble pc 88 then (bif Nat.ble pc 87 then (bif Nat.ble pc 86 then (bif Nat.beq pc 86 then js_il 2 1 else js_none) else (bif Nat.beq pc 87 then js_c 1 1 else js_none)) else (bif Nat.beq pc 88 then js_iadd else js_none)) else (bif Nat.ble pc 90 then (bif Nat.ble pc 89 then (bif Nat.beq pc 89 then js_il 3 1 else js_none) else (bif Nat.beq pc 90 then js_c 255 3 else js_none)) else (bif Nat.beq pc 93 then js_s4 60 else js_none))) else (bif Nat.ble pc 98 then (bif Nat.ble pc 97 then (bif Nat.ble pc 96 then (bif Nat.beq pc 96 then js_ir else js_none) else (bif Nat.beq pc 97 then js_al 0 1 else js_none)) else (bif Nat.beq pc 98 then js_il 2 1 else js_none)) else (bif Nat.ble pc 100 then (bif Nat.ble pc 99 then (bif Nat.beq pc 99 then js_c 1 1 else js_none) else (bif Nat.beq pc 100 then js_iadd else js_none)) else (bif Nat.beq pc 101 then js_il 3 1 else js_none)))) else (bif Nat.ble pc 110 then (bif Nat.ble pc 107 then (bif Nat.ble pc 104 then (bif Nat.ble pc 102 then (bif Nat.beq pc 102 then js_c 10 2 else js_none) else (bif Nat.beq pc 104 then js_s4 60 else js_none)) else (bif Nat.beq pc 107 then js_ir else js_none)) else (bif Nat.ble pc 109 then (bif Nat.ble pc 108 then (bif Nat.beq pc 108 then js_al 0 1 else js_none) else (bif Nat.beq pc 109 then js_al 1 1 else js_none)) else (bif Nat.beq pc 110 then js_il 2 1 else js_none))) else (bif Nat.ble pc 113 then (bif Nat.ble pc 112 then (bif Nat.ble pc 111 then (bif Nat.beq pc 111 then js_c 1 1 else js_none) else (bif Nat.beq pc 112 then js_iadd else js_none)) else (bif Nat.beq pc 113 then js_il 3 1 else js_none)) else (bif Nat.ble pc 116 then (bif Nat.ble pc 114 then (bif Nat.beq pc 114 then js_il 4 2 else js_none) else (bif Nat.beq pc 116 then js_c 1 1 else js_none)) else (bif Nat.beq pc 117 then js_iadd else js_none)))))) else (bif Nat.ble pc 149 then (bif Nat.ble pc 134 then (bif Nat.ble pc 127 then (bif Nat.ble pc 122 then (bif Nat.ble pc 120 then (bif Nat.ble pc 118 then (bif Nat.beq pc 118 then js_il 5 2 else js_none) else (bif Nat.beq pc 120 then js_c 1 1 else js_none)) else (bif Nat.ble pc 121 then (bif Nat.beq pc 121 then js_iadd else js_none) else (bif Nat.beq pc 122 then js_s6 59 else js_none))) else (bif Nat.ble pc 126 then (bif Nat.ble pc 125 then (bif Nat.beq pc 125 then js_ir else js_none) else (bif Nat.beq pc 126 then js_al 0 1 else js_none)) else (bif Nat.beq pc 127 then js_al 1 1 else js_none))) else (bif Nat.ble pc 130 then (bif Nat.ble pc 129 then (bif Nat.ble pc 128 then (bif Nat.beq pc 128 then js_il 2 1 else js_none) else (bif Nat.beq pc 129 then js_c 1 1 else js_none)) else (bif Nat.beq pc 130 then js_iadd else js_none)) else (bif Nat.ble pc 132 then (bif Nat.ble pc 131 then (bif Nat.beq pc 131 then js_il 3 1 else js_none) else (bif Nat.beq pc 132 then js_il 4 2 else js_none)) else (bif Nat.beq pc 134 then js_il 5 2 else js_none)))) else (bif Nat.ble pc 143 then (bif Nat.ble pc 138 then (bif Nat.ble pc 137 then (bif Nat.ble pc 136 then (bif Nat.beq pc 136 then js_c 1 1 else js_none) else (bif Nat.beq pc 137 then js_iadd else js_none)) else (bif Nat.beq pc 138 then js_s6 59 else js_none)) else (bif Nat.ble pc 142 then (bif Nat.ble pc 141 then (bif Nat.beq pc 141 then js_ir else js_none) else (bif Nat.beq pc 142 then js_al 1 1 else js_none)) else (bif Nat.beq pc 143 then js_il 2 1 else js_none))) else (bif Nat.ble pc 146 then (bif Nat.ble pc 145 then (bif Nat.ble pc 144 then (bif Nat.beq pc 144 then js_al 0 1 else js_none) else (bif Nat.beq pc 145 then js_al 1 1 else js_none)) else (bif Nat.beq pc 146 then js_il 2 1 else js_none)) else (bif Nat.ble pc 148 then (bif Nat.ble pc 147 then (bif Nat.beq pc 147 then js_c 1 1 else js_none) else (bif Nat.beq pc 148 then js_iadd else js_none)) else (bif Nat.beq pc 149 then js_il 3 1 else js_none))))) else (bif Nat.ble pc 165 then (bif Nat.ble pc 159 then (bif Nat.ble pc 154 then (bif Nat.ble pc 152 then (bif Nat.ble pc 150 then (bif Nat.beq pc 150 then js_il 4 2 else js_none) else (bif Nat.beq pc 152 then js_il 5 2 else js_none)) else (bif Nat.beq pc 154 then js_c 1 1 else js_none)) else (bif Nat.ble pc 156 then (bif Nat.ble pc 155 then (bif Nat.beq pc 155 then js_iadd else js_none) else (bif Nat.beq pc 156 then js_s6 59 else js_none)) else (bif Nat.beq pc 159 then js_ast else js_none))) else (bif Nat.ble pc 162 then (bif Nat.ble pc 161 then (bif Nat.ble pc 160 then (bif Nat.beq pc 160 then js_al 0 1 else js_none) else (bif Nat.beq pc 161 then js_al 1 1 else js_none)) else (bif Nat.beq pc 162 then js_al 1 1 else js_none)) else (bif Nat.ble pc 164 then (bif Nat.ble pc 163 then (bif Nat.beq pc 163 then js_il 2 1 else js_none) else (bif Nat.beq pc 164 then js_ald else js_none)) else (bif Nat.beq pc 165 then js_il 3 1 else js_none)))) else (bif Nat.ble pc 175 then (bif Nat.ble pc 170 then (bif Nat.ble pc 168 then (bif Nat.ble pc 166 then (bif Nat.beq pc 166 then js_il 4 2 else js_none) else (bif Nat.beq pc 168 then js_il 5 2 else js_none)) else (bif Nat.beq pc 170 then js_c 1 1 else js_none)) else (bif Nat.ble pc 172 then (bif Nat.ble pc 171 then (bif Nat.beq pc 171 then js_iadd else js_none) else (bif Nat.beq pc 172 then js_s6 59 else js_none)) else (bif Nat.beq pc 175 then js_ir else js_none))) else (bif Nat.ble pc 178 then (bif Nat.ble pc 177 then (bif Nat.ble pc 176 then (bif Nat.beq pc 176 then js_il 2 1 else js_none) else (bif Nat.beq pc 177 then js_c 1 1 else js_none)) else (bif Nat.beq pc 178 then js_iadd else js_none)) else (bif Nat.ble pc 180 then (bif Nat.ble pc 179 then (bif Nat.beq pc 179 then js_ir else js_none) else (bif Nat.beq pc 180 then js_c (-2) 2 else js_none)) else (bif Nat.beq pc 182 then js_ir else js_none))))))
theorem jk_59_0 : jx_Snd 59 0 (js_il 2 1) := jo_iload_n (i := 2) (w := 2) rfl jd_59_0
theorem jk_59_1 : jx_Snd 59 1 (js_iflt 16) := jo_iflt (o := 15) rfl jd_59_1
theorem jk_59_4 : jx_Snd 59 4 (js_il 2 1) := jo_iload_n (i := 2) (w := 2) rfl jd_59_4
theorem jk_59_5 : jx_Snd 59 5 (js_il 3 1) := jo_iload_n (i := 3) (w := 3) rfl jd_59_5
theorem jk_59_6 : jx_Snd 59 6 (js_cge 16) := jo_cge (o := 10) rfl jd_59_6
theorem jk_59_9 : jx_Snd 59 9 (js_il 5 2) := jo_iload (i := 5) jd_59_9
theorem jk_59_11 : jx_Snd 59 11 (js_c 20 2) := jo_bipush (z := 20) jd_59_11 (by decide +kernel)
theorem jk_59_13 : jx_Snd 59 13 (js_cle 19) := jo_cle (o := 6) rfl jd_59_13
theorem jk_59_16 : jx_Snd 59 16 (js_c (-2) 2) := jo_bipush (z := (-2)) jd_59_16 (by decide +kernel)
theorem jk_59_18 : jx_Snd 59 18 (js_ir) := jo_ir rfl jd_59_18
theorem jk_59_19 : jx_Snd 59 19 (js_al 0 1) := jo_aload_n (i := 0) (w := 0) rfl jd_59_19
theorem jk_59_20 : jx_Snd 59 20 (js_il 2 1) := jo_iload_n (i := 2) (w := 2) rfl jd_59_20
theorem jk_59_21 : jx_Snd 59 21 (js_ald) := jo_ald jd_59_21
theorem jk_59_22 : jx_Snd 59 22 (js_sw [(0, 72), (1, 108), (2, 142), (3, 85), (4, 97), (5, 126), (6, 126), (7, 176), (8, 176)] 180) := jo_tableD (dflt := 158) (lo := 0) (hi := 8) (offs := #[50, 86, 120, 63, 75, 104, 104, 154, 154]) rfl rfl (by decide +kernel) jd_59_22
theorem jk_59_72 : jx_Snd 59 72 (js_al 0 1) := jo_aload_n (i := 0) (w := 0) rfl jd_59_72
theorem jk_59_73 : jx_Snd 59 73 (js_il 2 1) := jo_iload_n (i := 2) (w := 2) rfl jd_59_73
theorem jk_59_74 : jx_Snd 59 74 (js_c 1 1) := jo_iconst (z := 1) jd_59_74 rfl
theorem jk_59_75 : jx_Snd 59 75 (js_iadd) := jo_iadd jd_59_75
theorem jk_59_76 : jx_Snd 59 76 (js_il 3 1) := jo_iload_n (i := 3) (w := 3) rfl jd_59_76
theorem jk_59_77 : jx_Snd 59 77 (js_il 4 2) := jo_iload (i := 4) jd_59_77
theorem jk_59_79 : jx_Snd 59 79 (js_c 1 1) := jo_iconst (z := 1) jd_59_79 rfl
theorem jk_59_80 : jx_Snd 59 80 (js_isub) := jo_isub jd_59_80
theorem jk_59_81 : jx_Snd 59 81 (js_s4 60) := jo_s4 rfl jok_60 (Or.inl jw_191) jw_192 jd_59_81
theorem jk_59_84 : jx_Snd 59 84 (js_ir) := jo_ir rfl jd_59_84
theorem jk_59_85 : jx_Snd 59 85 (js_al 0 1) := jo_aload_n (i := 0) (w := 0) rfl jd_59_85
theorem jk_59_86 : jx_Snd 59 86 (js_il 2 1) := jo_iload_n (i := 2) (w := 2) rfl jd_59_86
theorem jk_59_87 : jx_Snd 59 87 (js_c 1 1) := jo_iconst (z := 1) jd_59_87 rfl
theorem jk_59_88 : jx_Snd 59 88 (js_iadd) := jo_iadd jd_59_88
theorem jk_59_89 : jx_Snd 59 89 (js_il 3 1) := jo_iload_n (i := 3) (w := 3) rfl jd_59_89
theorem jk_59_90 : jx_Snd 59 90 (js_c 255 3) := jo_sipush (z := 255) jd_59_90 (by decide +kernel)
theorem jk_59_93 : jx_Snd 59 93 (js_s4 60) := jo_s4 rfl jok_60 (Or.inl jw_191) jw_192 jd_59_93
theorem jk_59_96 : jx_Snd 59 96 (js_ir) := jo_ir rfl jd_59_96
theorem jk_59_97 : jx_Snd 59 97 (js_al 0 1) := jo_aload_n (i := 0) (w := 0) rfl jd_59_97
theorem jk_59_98 : jx_Snd 59 98 (js_il 2 1) := jo_iload_n (i := 2) (w := 2) rfl jd_59_98
theorem jk_59_99 : jx_Snd 59 99 (js_c 1 1) := jo_iconst (z := 1) jd_59_99 rfl
theorem jk_59_100 : jx_Snd 59 100 (js_iadd) := jo_iadd jd_59_100
theorem jk_59_101 : jx_Snd 59 101 (js_il 3 1) := jo_iload_n (i := 3) (w := 3) rfl jd_59_101
theorem jk_59_102 : jx_Snd 59 102 (js_c 10 2) := jo_bipush (z := 10) jd_59_102 (by decide +kernel)
theorem jk_59_104 : jx_Snd 59 104 (js_s4 60) := jo_s4 rfl jok_60 (Or.inl jw_191) jw_192 jd_59_104
theorem jk_59_107 : jx_Snd 59 107 (js_ir) := jo_ir rfl jd_59_107
theorem jk_59_108 : jx_Snd 59 108 (js_al 0 1) := jo_aload_n (i := 0) (w := 0) rfl jd_59_108
theorem jk_59_109 : jx_Snd 59 109 (js_al 1 1) := jo_aload_n (i := 1) (w := 1) rfl jd_59_109
theorem jk_59_110 : jx_Snd 59 110 (js_il 2 1) := jo_iload_n (i := 2) (w := 2) rfl jd_59_110
theorem jk_59_111 : jx_Snd 59 111 (js_c 1 1) := jo_iconst (z := 1) jd_59_111 rfl
theorem jk_59_112 : jx_Snd 59 112 (js_iadd) := jo_iadd jd_59_112
theorem jk_59_113 : jx_Snd 59 113 (js_il 3 1) := jo_iload_n (i := 3) (w := 3) rfl jd_59_113
theorem jk_59_114 : jx_Snd 59 114 (js_il 4 2) := jo_iload (i := 4) jd_59_114
theorem jk_59_116 : jx_Snd 59 116 (js_c 1 1) := jo_iconst (z := 1) jd_59_116 rfl
theorem jk_59_117 : jx_Snd 59 117 (js_iadd) := jo_iadd jd_59_117
theorem jk_59_118 : jx_Snd 59 118 (js_il 5 2) := jo_iload (i := 5) jd_59_118
theorem jk_59_120 : jx_Snd 59 120 (js_c 1 1) := jo_iconst (z := 1) jd_59_120 rfl
theorem jk_59_121 : jx_Snd 59 121 (js_iadd) := jo_iadd jd_59_121
theorem jk_59_122 : jx_Snd 59 122 (js_s6 59) := jo_s6 rfl jok_59 (Or.inl jw_188) jw_189 jd_59_122
theorem jk_59_125 : jx_Snd 59 125 (js_ir) := jo_ir rfl jd_59_125
theorem jk_59_126 : jx_Snd 59 126 (js_al 0 1) := jo_aload_n (i := 0) (w := 0) rfl jd_59_126
theorem jk_59_127 : jx_Snd 59 127 (js_al 1 1) := jo_aload_n (i := 1) (w := 1) rfl jd_59_127
theorem jk_59_128 : jx_Snd 59 128 (js_il 2 1) := jo_iload_n (i := 2) (w := 2) rfl jd_59_128
theorem jk_59_129 : jx_Snd 59 129 (js_c 1 1) := jo_iconst (z := 1) jd_59_129 rfl
theorem jk_59_130 : jx_Snd 59 130 (js_iadd) := jo_iadd jd_59_130
theorem jk_59_131 : jx_Snd 59 131 (js_il 3 1) := jo_iload_n (i := 3) (w := 3) rfl jd_59_131
theorem jk_59_132 : jx_Snd 59 132 (js_il 4 2) := jo_iload (i := 4) jd_59_132
theorem jk_59_134 : jx_Snd 59 134 (js_il 5 2) := jo_iload (i := 5) jd_59_134
theorem jk_59_136 : jx_Snd 59 136 (js_c 1 1) := jo_iconst (z := 1) jd_59_136 rfl
theorem jk_59_137 : jx_Snd 59 137 (js_iadd) := jo_iadd jd_59_137
theorem jk_59_138 : jx_Snd 59 138 (js_s6 59) := jo_s6 rfl jok_59 (Or.inl jw_188) jw_189 jd_59_138
theorem jk_59_141 : jx_Snd 59 141 (js_ir) := jo_ir rfl jd_59_141
theorem jk_59_142 : jx_Snd 59 142 (js_al 1 1) := jo_aload_n (i := 1) (w := 1) rfl jd_59_142
theorem jk_59_143 : jx_Snd 59 143 (js_il 2 1) := jo_iload_n (i := 2) (w := 2) rfl jd_59_143
theorem jk_59_144 : jx_Snd 59 144 (js_al 0 1) := jo_aload_n (i := 0) (w := 0) rfl jd_59_144
theorem jk_59_145 : jx_Snd 59 145 (js_al 1 1) := jo_aload_n (i := 1) (w := 1) rfl jd_59_145
theorem jk_59_146 : jx_Snd 59 146 (js_il 2 1) := jo_iload_n (i := 2) (w := 2) rfl jd_59_146
theorem jk_59_147 : jx_Snd 59 147 (js_c 1 1) := jo_iconst (z := 1) jd_59_147 rfl
theorem jk_59_148 : jx_Snd 59 148 (js_iadd) := jo_iadd jd_59_148
theorem jk_59_149 : jx_Snd 59 149 (js_il 3 1) := jo_iload_n (i := 3) (w := 3) rfl jd_59_149
theorem jk_59_150 : jx_Snd 59 150 (js_il 4 2) := jo_iload (i := 4) jd_59_150
theorem jk_59_152 : jx_Snd 59 152 (js_il 5 2) := jo_iload (i := 5) jd_59_152
theorem jk_59_154 : jx_Snd 59 154 (js_c 1 1) := jo_iconst (z := 1) jd_59_154 rfl
theorem jk_59_155 : jx_Snd 59 155 (js_iadd) := jo_iadd jd_59_155
theorem jk_59_156 : jx_Snd 59 156 (js_s6 59) := jo_s6 rfl jok_59 (Or.inl jw_188) jw_189 jd_59_156
theorem jk_59_159 : jx_Snd 59 159 (js_ast) := jo_ast jd_59_159
theorem jk_59_160 : jx_Snd 59 160 (js_al 0 1) := jo_aload_n (i := 0) (w := 0) rfl jd_59_160
theorem jk_59_161 : jx_Snd 59 161 (js_al 1 1) := jo_aload_n (i := 1) (w := 1) rfl jd_59_161
theorem jk_59_162 : jx_Snd 59 162 (js_al 1 1) := jo_aload_n (i := 1) (w := 1) rfl jd_59_162
theorem jk_59_163 : jx_Snd 59 163 (js_il 2 1) := jo_iload_n (i := 2) (w := 2) rfl jd_59_163
theorem jk_59_164 : jx_Snd 59 164 (js_ald) := jo_ald jd_59_164
theorem jk_59_165 : jx_Snd 59 165 (js_il 3 1) := jo_iload_n (i := 3) (w := 3) rfl jd_59_165
theorem jk_59_166 : jx_Snd 59 166 (js_il 4 2) := jo_iload (i := 4) jd_59_166
theorem jk_59_168 : jx_Snd 59 168 (js_il 5 2) := jo_iload (i := 5) jd_59_168
theorem jk_59_170 : jx_Snd 59 170 (js_c 1 1) := jo_iconst (z := 1) jd_59_170 rfl
theorem jk_59_171 : jx_Snd 59 171 (js_iadd) := jo_iadd jd_59_171
theorem jk_59_172 : jx_Snd 59 172 (js_s6 59) := jo_s6 rfl jok_59 (Or.inl jw_188) jw_189 jd_59_172
theorem jk_59_175 : jx_Snd 59 175 (js_ir) := jo_ir rfl jd_59_175
theorem jk_59_176 : jx_Snd 59 176 (js_il 2 1) := jo_iload_n (i := 2) (w := 2) rfl jd_59_176
theorem jk_59_177 : jx_Snd 59 177 (js_c 1 1) := jo_iconst (z := 1) jd_59_177 rfl
theorem jk_59_178 : jx_Snd 59 178 (js_iadd) := jo_iadd jd_59_178
theorem jk_59_179 : jx_Snd 59 179 (js_ir) := jo_ir rfl jd_59_179
theorem jk_59_180 : jx_Snd 59 180 (js_c (-2) 2) := jo_bipush (z := (-2)) jd_59_180 (by decide +kernel)
theorem jk_59_182 : jx_Snd 59 182 (js_ir) := jo_ir rfl jd_59_182
theorem jk_59 : jx_So 59 jt_59 := fun pc => jo_le (jo_le (jo_le (jo_le (jo_le (jo_le (jo_le (jo_at (jk_59_0)) (jo_at (jk_59_1))) (jo_le (jo_at (jk_59_4)) (jo_at (jk_59_5)))) (jo_le (jo_le (jo_at (jk_59_6)) (jo_at (jk_59_9))) (jo_at (jk_59_11)))) (jo_le (jo_le (jo_le (jo_at (jk_59_13)) (jo_at (jk_59_16))) (jo_at (jk_59_18))) (jo_le (jo_le (jo_at (jk_59_19)) (jo_at (jk_59_20))) (jo_at (jk_59_21))))) (jo_le (jo_le (jo_le (jo_le (jo_at (jk_59_22)) (jo_at (jk_59_72))) (jo_at (jk_59_73))) (jo_le (jo_le (jo_at (jk_59_74)) (jo_at (jk_59_75))) (jo_at (jk_59_76)))) (jo_le (jo_le (jo_le (jo_at (jk_59_77)) (jo_at (jk_59_79))) (jo_at (jk_59_80))) (jo_le (jo_le (jo_at (jk_59_81)) (jo_at (jk_59_84))) (jo_at (jk_59_85)))))) (jo_le (jo_le (jo_le (jo_le (jo_le (jo_at (jk_59_86)) (jo_at (jk_59_87))) (jo_at (jk_59_88))) (jo_le (jo_le (jo_at (jk_59_89)) (jo_at (jk_59_90))) (jo_at (jk_59_93)))) (jo_le (jo_le (jo_le (jo_at (jk_59_96)) (jo_at (jk_59_97))) (jo_at (jk_59_98))) (jo_le (jo_le (jo_at (jk_59_99)) (jo_at (jk_59_100))) (jo_at (jk_59_101))))) (jo_le (jo_le (jo_le (jo_le (jo_at (jk_59_102)) (jo_at (jk_59_104))) (jo_at (jk_59_107))) (jo_le (jo_le (jo_at (jk_59_108)) (jo_at (jk_59_109))) (jo_at (jk_59_110)))) (jo_le (jo_le (jo_le (jo_at (jk_59_111)) (jo_at (jk_59_112))) (jo_at (jk_59_113))) (jo_le (jo_le (jo_at (jk_59_114)) (jo_at (jk_59_116))) (jo_at (jk_59_117))))))) (jo_le (jo_le (jo_le (jo_le (jo_le (jo_le (jo_at (jk_59_118)) (jo_at (jk_59_120))) (jo_le (jo_at (jk_59_121)) (jo_at (jk_59_122)))) (jo_le (jo_le (jo_at (jk_59_125)) (jo_at (jk_59_126))) (jo_at (jk_59_127)))) (jo_le (jo_le (jo_le (jo_at (jk_59_128)) (jo_at (jk_59_129))) (jo_at (jk_59_130))) (jo_le (jo_le (jo_at (jk_59_131)) (jo_at (jk_59_132))) (jo_at (jk_59_134))))) (jo_le (jo_le (jo_le (jo_le (jo_at (jk_59_136)) (jo_at (jk_59_137))) (jo_at (jk_59_138))) (jo_le (jo_le (jo_at (jk_59_141)) (jo_at (jk_59_142))) (jo_at (jk_59_143)))) (jo_le (jo_le (jo_le (jo_at (jk_59_144)) (jo_at (jk_59_145))) (jo_at (jk_59_146))) (jo_le (jo_le (jo_at (jk_59_147)) (jo_at (jk_59_148))) (jo_at (jk_59_149)))))) (jo_le (jo_le (jo_le (jo_le (jo_le (jo_at (jk_59_150)) (jo_at (jk_59_152))) (jo_at (jk_59_154))) (jo_le (jo_le (jo_at (jk_59_155)) (jo_at (jk_59_156))) (jo_at (jk_59_159)))) (jo_le (jo_le (jo_le (jo_at (jk_59_160)) (jo_at (jk_59_161))) (jo_at (jk_59_162))) (jo_le (jo_le (jo_at (jk_59_163)) (jo_at (jk_59_164))) (jo_at (jk_59_165))))) (jo_le (jo_le (jo_le (jo_le (jo_at (jk_59_166)) (jo_at (jk_59_168))) (jo_at (jk_59_170))) (jo_le (jo_le (jo_at (jk_59_171)) (jo_at (jk_59_172))) (jo_at (jk_59_175)))) (jo_le (jo_le (jo_le (jo_at (jk_59_176)) (jo_at (jk_59_177))) (jo_at (jk_59_178))) (jo_le (jo_le (jo_at (jk_59_179)) (jo_at (jk_59_180))) (jo_at (jk_59_182)))))))
theorem ji_59 {l : Launch} {D : va_G} {cA : ClassId} {ρ : Nat → Nat} {Λ : List jx_Lc} {d : Nat} {Q : Option Value → jx_St → Prop} {σ : jx_St} {a1 : Nat} {a2 : Nat} {a3 : Int32} {a4 : Int32} {a5 : Int32} {a6 : Int32} (h : jt_59 0 Λ jx_tb0 (jx_rn Λ jx_tb0 jt_59 (fun k' as σ K => jx_C l D cA ρ Λ d k' as σ K) Q (jx_J l D cA ρ Λ (jx_A ρ Λ) jx_tb0 (d + 1) 59 Q) [] 400) (fun k' as σ K => jx_C l D cA ρ Λ d k' as σ K) Q 0 [(0, .ref a1), (1, .ref a2), (2, .int a3), (3, .int a4), (4, .int a5), (5, .int a6)] [] σ) : jx_C l D cA ρ Λ (d + 1) 59 [.ref a1, .ref a2, .int a3, .int a4, .int a5, .int a6] σ Q := jx_in jk_59 400 [] rfl (Nat.le_of_ble_eq_true rfl) h
/-! ScriptLedger$Scripts.behindByte([IIII)I -/
theorem jd_60_0 : decode prog_6_method_6_code 0 = .ok (.iload_n 1, 1) := by decide +kernel
theorem jd_60_1 : decode prog_6_method_6_code 1 = .ok (.iload_n 2, 1) := by decide +kernel
theorem jd_60_2 : decode prog_6_method_6_code 2 = .ok (.if_icmp .ge 16, 3) := by decide +kernel
theorem jd_60_5 : decode prog_6_method_6_code 5 = .ok (.aload_n 0, 1) := by decide +kernel
theorem jd_60_6 : decode prog_6_method_6_code 6 = .ok (.iload_n 1, 1) := by decide +kernel
theorem jd_60_7 : decode prog_6_method_6_code 7 = .ok (.iaload, 1) := by decide +kernel
theorem jd_60_8 : decode prog_6_method_6_code 8 = .ok (.iload_n 3, 1) := by decide +kernel
theorem jd_60_9 : decode prog_6_method_6_code 9 = .ok (.if_icmp .gt 9, 3) := by decide +kernel
theorem jd_60_12 : decode prog_6_method_6_code 12 = .ok (.iload_n 1, 1) := by decide +kernel
theorem jd_60_13 : decode prog_6_method_6_code 13 = .ok (.iconst 1, 1) := by decide +kernel
theorem jd_60_14 : decode prog_6_method_6_code 14 = .ok (.iadd, 1) := by decide +kernel
theorem jd_60_15 : decode prog_6_method_6_code 15 = .ok (.goto 5, 3) := by decide +kernel
theorem jd_60_18 : decode prog_6_method_6_code 18 = .ok (.bipush (-2), 2) := by decide +kernel
theorem jd_60_20 : decode prog_6_method_6_code 20 = .ok (.ireturn, 1) := by decide +kernel
def jt_60 (pc : Nat) : jx_Sp := bif Nat.ble pc 8 then (bif Nat.ble pc 5 then (bif Nat.ble pc 1 then (bif Nat.ble pc 0 then (bif Nat.beq pc 0 then js_il 1 1 else js_none) else (bif Nat.beq pc 1 then js_il 2 1 else js_none)) else (bif Nat.ble pc 2 then (bif Nat.beq pc 2 then js_cge 18 else js_none) else (bif Nat.beq pc 5 then js_al 0 1 else js_none))) else (bif Nat.ble pc 7 then (bif Nat.ble pc 6 then (bif Nat.beq pc 6 then js_il 1 1 else js_none) else (bif Nat.beq pc 7 then js_ald else js_none)) else (bif Nat.beq pc 8 then js_il 3 1 else js_none))) else (bif Nat.ble pc 14 then (bif Nat.ble pc 12 then (bif Nat.ble pc 9 then (bif Nat.beq pc 9 then js_cgt 18 else js_none) else (bif Nat.beq pc 12 then js_il 1 1 else js_none)) else (bif Nat.ble pc 13 then (bif Nat.beq pc 13 then js_c 1 1 else js_none) else (bif Nat.beq pc 14 then js_iadd else js_none))) else (bif Nat.ble pc 18 then (bif Nat.ble pc 15 then (bif Nat.beq pc 15 then js_go 20 else js_none) else (bif Nat.beq pc 18 then js_c (-2) 2 else js_none)) else (bif Nat.beq pc 20 then js_ir else js_none)))
theorem jk_60_0 : jx_Snd 60 0 (js_il 1 1) := jo_iload_n (i := 1) (w := 1) rfl jd_60_0
theorem jk_60_1 : jx_Snd 60 1 (js_il 2 1) := jo_iload_n (i := 2) (w := 2) rfl jd_60_1
theorem jk_60_2 : jx_Snd 60 2 (js_cge 18) := jo_cge (o := 16) rfl jd_60_2
theorem jk_60_5 : jx_Snd 60 5 (js_al 0 1) := jo_aload_n (i := 0) (w := 0) rfl jd_60_5
theorem jk_60_6 : jx_Snd 60 6 (js_il 1 1) := jo_iload_n (i := 1) (w := 1) rfl jd_60_6
theorem jk_60_7 : jx_Snd 60 7 (js_ald) := jo_ald jd_60_7
theorem jk_60_8 : jx_Snd 60 8 (js_il 3 1) := jo_iload_n (i := 3) (w := 3) rfl jd_60_8
theorem jk_60_9 : jx_Snd 60 9 (js_cgt 18) := jo_cgt (o := 9) rfl jd_60_9
theorem jk_60_12 : jx_Snd 60 12 (js_il 1 1) := jo_iload_n (i := 1) (w := 1) rfl jd_60_12
theorem jk_60_13 : jx_Snd 60 13 (js_c 1 1) := jo_iconst (z := 1) jd_60_13 rfl
theorem jk_60_14 : jx_Snd 60 14 (js_iadd) := jo_iadd jd_60_14
theorem jk_60_15 : jx_Snd 60 15 (js_go 20) := jo_goto (o := 5) rfl jd_60_15
theorem jk_60_18 : jx_Snd 60 18 (js_c (-2) 2) := jo_bipush (z := (-2)) jd_60_18 (by decide +kernel)
theorem jk_60_20 : jx_Snd 60 20 (js_ir) := jo_ir rfl jd_60_20
theorem jk_60 : jx_So 60 jt_60 := fun pc => jo_le (jo_le (jo_le (jo_le (jo_at (jk_60_0)) (jo_at (jk_60_1))) (jo_le (jo_at (jk_60_2)) (jo_at (jk_60_5)))) (jo_le (jo_le (jo_at (jk_60_6)) (jo_at (jk_60_7))) (jo_at (jk_60_8)))) (jo_le (jo_le (jo_le (jo_at (jk_60_9)) (jo_at (jk_60_12))) (jo_le (jo_at (jk_60_13)) (jo_at (jk_60_14)))) (jo_le (jo_le (jo_at (jk_60_15)) (jo_at (jk_60_18))) (jo_at (jk_60_20))))
theorem ji_60 {l : Launch} {D : va_G} {cA : ClassId} {ρ : Nat → Nat} {Λ : List jx_Lc} {d : Nat} {Q : Option Value → jx_St → Prop} {σ : jx_St} {a1 : Nat} {a2 : Int32} {a3 : Int32} {a4 : Int32} (h : jt_60 0 Λ jx_tb0 (jx_rn Λ jx_tb0 jt_60 (fun k' as σ K => jx_C l D cA ρ Λ d k' as σ K) Q (jx_J l D cA ρ Λ (jx_A ρ Λ) jx_tb0 (d + 1) 60 Q) [] 400) (fun k' as σ K => jx_C l D cA ρ Λ d k' as σ K) Q 0 [(0, .ref a1), (1, .int a2), (2, .int a3), (3, .int a4)] [] σ) : jx_C l D cA ρ Λ (d + 1) 60 [.ref a1, .int a2, .int a3, .int a4] σ Q := jx_in jk_60 400 [] rfl (Nat.le_of_ble_eq_true rfl) h
/-! ScriptLedger$Values.<init>()V -/
theorem jd_61_0 : decode prog_8_method_1_code 0 = .ok (.aload_n 0, 1) := by decide +kernel
theorem jd_61_1 : decode prog_8_method_1_code 1 = .ok (.invokespecial 1, 3) := by decide +kernel
theorem jd_61_4 : decode prog_8_method_1_code 4 = .ok (.aload_n 0, 1) := by decide +kernel
theorem jd_61_5 : decode prog_8_method_1_code 5 = .ok (.sipush 512, 3) := by decide +kernel
theorem jd_61_8 : decode prog_8_method_1_code 8 = .ok (.newarray .int, 2) := by decide +kernel
theorem jd_61_10 : decode prog_8_method_1_code 10 = .ok (.putfield 9, 3) := by decide +kernel
theorem jd_61_13 : decode prog_8_method_1_code 13 = .ok (.aload_n 0, 1) := by decide +kernel
theorem jd_61_14 : decode prog_8_method_1_code 14 = .ok (.sipush 512, 3) := by decide +kernel
theorem jd_61_17 : decode prog_8_method_1_code 17 = .ok (.newarray .int, 2) := by decide +kernel
theorem jd_61_19 : decode prog_8_method_1_code 19 = .ok (.putfield 13, 3) := by decide +kernel
theorem jd_61_22 : decode prog_8_method_1_code 22 = .ok (.aload_n 0, 1) := by decide +kernel
theorem jd_61_23 : decode prog_8_method_1_code 23 = .ok (.sipush 512, 3) := by decide +kernel
theorem jd_61_26 : decode prog_8_method_1_code 26 = .ok (.newarray .int, 2) := by decide +kernel
theorem jd_61_28 : decode prog_8_method_1_code 28 = .ok (.putfield 16, 3) := by decide +kernel
theorem jd_61_31 : decode prog_8_method_1_code 31 = .ok (.aload_n 0, 1) := by decide +kernel
theorem jd_61_32 : decode prog_8_method_1_code 32 = .ok (.sipush 512, 3) := by decide +kernel
theorem jd_61_35 : decode prog_8_method_1_code 35 = .ok (.newarray .int, 2) := by decide +kernel
theorem jd_61_37 : decode prog_8_method_1_code 37 = .ok (.putfield 19, 3) := by decide +kernel
theorem jd_61_40 : decode prog_8_method_1_code 40 = .ok (.return_, 1) := by decide +kernel
def jnt_61 (pc : Nat) : jn_Sp := bif Nat.ble pc 19 then (bif Nat.ble pc 8 then (bif Nat.ble pc 4 then (bif Nat.ble pc 1 then (bif Nat.ble pc 0 then (bif Nat.beq pc 0 then jn_of (js_al 0 1) else jn_none) else (bif Nat.beq pc 1 then jn_obj else jn_none)) else (bif Nat.beq pc 4 then jn_of (js_al 0 1) else jn_none)) else (bif Nat.ble pc 5 then (bif Nat.beq pc 5 then jn_of (js_c 512 3) else jn_none) else (bif Nat.beq pc 8 then jn_newa else jn_none))) else (bif Nat.ble pc 14 then (bif Nat.ble pc 13 then (bif Nat.ble pc 10 then (bif Nat.beq pc 10 then jn_putr 4 0 else jn_none) else (bif Nat.beq pc 13 then jn_of (js_al 0 1) else jn_none)) else (bif Nat.beq pc 14 then jn_of (js_c 512 3) else jn_none)) else (bif Nat.ble pc 17 then (bif Nat.beq pc 17 then jn_newa else jn_none) else (bif Nat.beq pc 19 then jn_putr 4 1 else jn_none)))) else (bif Nat.ble pc 31 then (bif Nat.ble pc 26 then (bif Nat.ble pc 23 then (bif Nat.ble pc 22 then (bif Nat.beq pc 22 then jn_of (js_al 0 1) else jn_none) else (bif Nat.beq pc 23 then jn_of (js_c 512 3) else jn_none)) else (bif Nat.beq pc 26 then jn_newa else jn_none)) else (bif Nat.ble pc 28 then (bif Nat.beq pc 28 then jn_putr 4 2 else jn_none) else (bif Nat.beq pc 31 then jn_of (js_al 0 1) else jn_none))) else (bif Nat.ble pc 35 then (bif Nat.ble pc 32 then (bif Nat.beq pc 32 then jn_of (js_c 512 3) else jn_none) else (bif Nat.beq pc 35 then jn_newa else jn_none)) else (bif Nat.ble pc 37 then (bif Nat.beq pc 37 then jn_putr 4 3 else jn_none) else (bif Nat.beq pc 40 then jn_vr else jn_none))))
theorem jnk_61_0 : jn_Snd 61 0 (jn_of (js_al 0 1)) := jn_lift (jo_aload_n (i := 0) (w := 0) rfl jd_61_0)
theorem jnk_61_1 : jn_Snd 61 1 (jn_obj) := jno_obj rfl jw_48 jw_17 jw_18 jd_61_1
theorem jnk_61_4 : jn_Snd 61 4 (jn_of (js_al 0 1)) := jn_lift (jo_aload_n (i := 0) (w := 0) rfl jd_61_4)
theorem jnk_61_5 : jn_Snd 61 5 (jn_of (js_c 512 3)) := jn_lift (jo_sipush (z := 512) jd_61_5 (by decide +kernel))
theorem jnk_61_8 : jn_Snd 61 8 (jn_newa) := jno_newa (at_ := .int) rfl jw_28 jd_61_8
theorem jnk_61_10 : jn_Snd 61 10 (jn_putr 4 0) := jno_putr rfl rfl jf_4_9 (fun C T N h => by cases h; exact ⟨rfl, rfl⟩) ⟨_, _, _, rfl, jw_49⟩ (fun a => ⟨rfl, rfl⟩) jd_61_10
theorem jnk_61_13 : jn_Snd 61 13 (jn_of (js_al 0 1)) := jn_lift (jo_aload_n (i := 0) (w := 0) rfl jd_61_13)
theorem jnk_61_14 : jn_Snd 61 14 (jn_of (js_c 512 3)) := jn_lift (jo_sipush (z := 512) jd_61_14 (by decide +kernel))
theorem jnk_61_17 : jn_Snd 61 17 (jn_newa) := jno_newa (at_ := .int) rfl jw_28 jd_61_17
theorem jnk_61_19 : jn_Snd 61 19 (jn_putr 4 1) := jno_putr rfl rfl jf_4_13 (fun C T N h => by cases h; exact ⟨rfl, rfl⟩) ⟨_, _, _, rfl, jw_51⟩ (fun a => ⟨rfl, rfl⟩) jd_61_19
theorem jnk_61_22 : jn_Snd 61 22 (jn_of (js_al 0 1)) := jn_lift (jo_aload_n (i := 0) (w := 0) rfl jd_61_22)
theorem jnk_61_23 : jn_Snd 61 23 (jn_of (js_c 512 3)) := jn_lift (jo_sipush (z := 512) jd_61_23 (by decide +kernel))
theorem jnk_61_26 : jn_Snd 61 26 (jn_newa) := jno_newa (at_ := .int) rfl jw_28 jd_61_26
theorem jnk_61_28 : jn_Snd 61 28 (jn_putr 4 2) := jno_putr rfl rfl jf_4_16 (fun C T N h => by cases h; exact ⟨rfl, rfl⟩) ⟨_, _, _, rfl, jw_53⟩ (fun a => ⟨rfl, rfl⟩) jd_61_28
theorem jnk_61_31 : jn_Snd 61 31 (jn_of (js_al 0 1)) := jn_lift (jo_aload_n (i := 0) (w := 0) rfl jd_61_31)
theorem jnk_61_32 : jn_Snd 61 32 (jn_of (js_c 512 3)) := jn_lift (jo_sipush (z := 512) jd_61_32 (by decide +kernel))
theorem jnk_61_35 : jn_Snd 61 35 (jn_newa) := jno_newa (at_ := .int) rfl jw_28 jd_61_35
theorem jnk_61_37 : jn_Snd 61 37 (jn_putr 4 3) := jno_putr rfl rfl jf_4_19 (fun C T N h => by cases h; exact ⟨rfl, rfl⟩) ⟨_, _, _, rfl, jw_55⟩ (fun a => ⟨rfl, rfl⟩) jd_61_37
theorem jnk_61_40 : jn_Snd 61 40 (jn_vr) := jno_vr jd_61_40
theorem jnk_61 : jn_So 61 jnt_61 := fun pc => jno_le (jno_le (jno_le (jno_le (jno_le (jno_at (jnk_61_0)) (jno_at (jnk_61_1))) (jno_at (jnk_61_4))) (jno_le (jno_at (jnk_61_5)) (jno_at (jnk_61_8)))) (jno_le (jno_le (jno_le (jno_at (jnk_61_10)) (jno_at (jnk_61_13))) (jno_at (jnk_61_14))) (jno_le (jno_at (jnk_61_17)) (jno_at (jnk_61_19))))) (jno_le (jno_le (jno_le (jno_le (jno_at (jnk_61_22)) (jno_at (jnk_61_23))) (jno_at (jnk_61_26))) (jno_le (jno_at (jnk_61_28)) (jno_at (jnk_61_31)))) (jno_le (jno_le (jno_at (jnk_61_32)) (jno_at (jnk_61_35))) (jno_le (jno_at (jnk_61_37)) (jno_at (jnk_61_40)))))
/-! ScriptLedger$Values.clear()V -/
theorem jd_62_0 : decode prog_8_method_2_code 0 = .ok (.aload_n 0, 1) := by decide +kernel
theorem jd_62_1 : decode prog_8_method_2_code 1 = .ok (.iconst 0, 1) := by decide +kernel
theorem jd_62_2 : decode prog_8_method_2_code 2 = .ok (.putfield 22, 3) := by decide +kernel
theorem jd_62_5 : decode prog_8_method_2_code 5 = .ok (.aload_n 0, 1) := by decide +kernel
theorem jd_62_6 : decode prog_8_method_2_code 6 = .ok (.iconst 2, 1) := by decide +kernel
theorem jd_62_7 : decode prog_8_method_2_code 7 = .ok (.iconst 0, 1) := by decide +kernel
theorem jd_62_8 : decode prog_8_method_2_code 8 = .ok (.iconst 0, 1) := by decide +kernel
theorem jd_62_9 : decode prog_8_method_2_code 9 = .ok (.iconst 0, 1) := by decide +kernel
theorem jd_62_10 : decode prog_8_method_2_code 10 = .ok (.invokevirtual 26, 3) := by decide +kernel
theorem jd_62_13 : decode prog_8_method_2_code 13 = .ok (.pop, 1) := by decide +kernel
theorem jd_62_14 : decode prog_8_method_2_code 14 = .ok (.return_, 1) := by decide +kernel
def jt_62 (pc : Nat) : jx_Sp := bif Nat.ble pc 7 then (bif Nat.ble pc 2 then (bif Nat.ble pc 1 then (bif Nat.ble pc 0 then (bif Nat.beq pc 0 then js_al 0 1 else js_none) else (bif Nat.beq pc 1 then js_c 0 1 else js_none)) else (bif Nat.beq pc 2 then js_putf 4 4 false else js_none)) else (bif Nat.ble pc 6 then (bif Nat.ble pc 5 then (bif Nat.beq pc 5 then js_al 0 1 else js_none) else (bif Nat.beq pc 6 then js_c 2 1 else js_none)) else (bif Nat.beq pc 7 then js_c 0 1 else js_none))) else (bif Nat.ble pc 10 then (bif Nat.ble pc 9 then (bif Nat.ble pc 8 then (bif Nat.beq pc 8 then js_c 0 1 else js_none) else (bif Nat.beq pc 9 then js_c 0 1 else js_none)) else (bif Nat.beq pc 10 then js_v4 4 63 else js_none)) else (bif Nat.ble pc 13 then (bif Nat.beq pc 13 then js_pop else js_none) else (bif Nat.beq pc 14 then js_vr else js_none)))
theorem jk_62_0 : jx_Snd 62 0 (js_al 0 1) := jo_aload_n (i := 0) (w := 0) rfl jd_62_0
theorem jk_62_1 : jx_Snd 62 1 (js_c 0 1) := jo_iconst (z := 0) jd_62_1 rfl
theorem jk_62_2 : jx_Snd 62 2 (js_putf 4 4 false) := jo_putf (z := false) rfl jf_4_22 (fun C T N h => by cases h; rfl) jd_62_2
theorem jk_62_5 : jx_Snd 62 5 (js_al 0 1) := jo_aload_n (i := 0) (w := 0) rfl jd_62_5
theorem jk_62_6 : jx_Snd 62 6 (js_c 2 1) := jo_iconst (z := 2) jd_62_6 rfl
theorem jk_62_7 : jx_Snd 62 7 (js_c 0 1) := jo_iconst (z := 0) jd_62_7 rfl
theorem jk_62_8 : jx_Snd 62 8 (js_c 0 1) := jo_iconst (z := 0) jd_62_8 rfl
theorem jk_62_9 : jx_Snd 62 9 (js_c 0 1) := jo_iconst (z := 0) jd_62_9 rfl
theorem jk_62_10 : jx_Snd 62 10 (js_v4 4 63) := jo_v4 rfl jok_63 (Or.inl jw_214) jw_215 jw_216 rfl jd_62_10
theorem jk_62_13 : jx_Snd 62 13 (js_pop) := jo_pop jd_62_13
theorem jk_62_14 : jx_Snd 62 14 (js_vr) := jo_vr rfl jd_62_14
theorem jk_62 : jx_So 62 jt_62 := fun pc => jo_le (jo_le (jo_le (jo_le (jo_at (jk_62_0)) (jo_at (jk_62_1))) (jo_at (jk_62_2))) (jo_le (jo_le (jo_at (jk_62_5)) (jo_at (jk_62_6))) (jo_at (jk_62_7)))) (jo_le (jo_le (jo_le (jo_at (jk_62_8)) (jo_at (jk_62_9))) (jo_at (jk_62_10))) (jo_le (jo_at (jk_62_13)) (jo_at (jk_62_14))))
theorem ji_62 {l : Launch} {D : va_G} {cA : ClassId} {ρ : Nat → Nat} {Λ : List jx_Lc} {d : Nat} {Q : Option Value → jx_St → Prop} {σ : jx_St} {z0 : Nat} (h : jt_62 0 Λ jx_tb0 (jx_rn Λ jx_tb0 jt_62 (fun k' as σ K => jx_C l D cA ρ Λ d k' as σ K) Q (jx_J l D cA ρ Λ (jx_A ρ Λ) jx_tb0 (d + 1) 62 Q) [] 400) (fun k' as σ K => jx_C l D cA ρ Λ d k' as σ K) Q 0 [(0, .ref z0)] [] σ) : jx_C l D cA ρ Λ (d + 1) 62 [.ref z0] σ Q := jx_in jk_62 400 [] rfl (Nat.le_of_ble_eq_true rfl) h
/-! ScriptLedger$Values.make(IIII)I -/
theorem jd_63_0 : decode prog_8_method_3_code 0 = .ok (.aload_n 0, 1) := by decide +kernel
theorem jd_63_1 : decode prog_8_method_3_code 1 = .ok (.getfield 22, 3) := by decide +kernel
theorem jd_63_4 : decode prog_8_method_3_code 4 = .ok (.sipush 512, 3) := by decide +kernel
theorem jd_63_7 : decode prog_8_method_3_code 7 = .ok (.if_icmp .lt 5, 3) := by decide +kernel
theorem jd_63_10 : decode prog_8_method_3_code 10 = .ok (.iconst 0, 1) := by decide +kernel
theorem jd_63_11 : decode prog_8_method_3_code 11 = .ok (.ireturn, 1) := by decide +kernel
theorem jd_63_12 : decode prog_8_method_3_code 12 = .ok (.aload_n 0, 1) := by decide +kernel
theorem jd_63_13 : decode prog_8_method_3_code 13 = .ok (.getfield 9, 3) := by decide +kernel
theorem jd_63_16 : decode prog_8_method_3_code 16 = .ok (.aload_n 0, 1) := by decide +kernel
theorem jd_63_17 : decode prog_8_method_3_code 17 = .ok (.getfield 22, 3) := by decide +kernel
theorem jd_63_20 : decode prog_8_method_3_code 20 = .ok (.iload_n 1, 1) := by decide +kernel
theorem jd_63_21 : decode prog_8_method_3_code 21 = .ok (.iastore, 1) := by decide +kernel
theorem jd_63_22 : decode prog_8_method_3_code 22 = .ok (.aload_n 0, 1) := by decide +kernel
theorem jd_63_23 : decode prog_8_method_3_code 23 = .ok (.getfield 13, 3) := by decide +kernel
theorem jd_63_26 : decode prog_8_method_3_code 26 = .ok (.aload_n 0, 1) := by decide +kernel
theorem jd_63_27 : decode prog_8_method_3_code 27 = .ok (.getfield 22, 3) := by decide +kernel
theorem jd_63_30 : decode prog_8_method_3_code 30 = .ok (.iload_n 2, 1) := by decide +kernel
theorem jd_63_31 : decode prog_8_method_3_code 31 = .ok (.iastore, 1) := by decide +kernel
theorem jd_63_32 : decode prog_8_method_3_code 32 = .ok (.aload_n 0, 1) := by decide +kernel
theorem jd_63_33 : decode prog_8_method_3_code 33 = .ok (.getfield 16, 3) := by decide +kernel
theorem jd_63_36 : decode prog_8_method_3_code 36 = .ok (.aload_n 0, 1) := by decide +kernel
theorem jd_63_37 : decode prog_8_method_3_code 37 = .ok (.getfield 22, 3) := by decide +kernel
theorem jd_63_40 : decode prog_8_method_3_code 40 = .ok (.iload_n 3, 1) := by decide +kernel
theorem jd_63_41 : decode prog_8_method_3_code 41 = .ok (.iastore, 1) := by decide +kernel
theorem jd_63_42 : decode prog_8_method_3_code 42 = .ok (.aload_n 0, 1) := by decide +kernel
theorem jd_63_43 : decode prog_8_method_3_code 43 = .ok (.getfield 19, 3) := by decide +kernel
theorem jd_63_46 : decode prog_8_method_3_code 46 = .ok (.aload_n 0, 1) := by decide +kernel
theorem jd_63_47 : decode prog_8_method_3_code 47 = .ok (.getfield 22, 3) := by decide +kernel
theorem jd_63_50 : decode prog_8_method_3_code 50 = .ok (.iload 4, 2) := by decide +kernel
theorem jd_63_52 : decode prog_8_method_3_code 52 = .ok (.iastore, 1) := by decide +kernel
theorem jd_63_53 : decode prog_8_method_3_code 53 = .ok (.aload_n 0, 1) := by decide +kernel
theorem jd_63_54 : decode prog_8_method_3_code 54 = .ok (.dup, 1) := by decide +kernel
theorem jd_63_55 : decode prog_8_method_3_code 55 = .ok (.getfield 22, 3) := by decide +kernel
theorem jd_63_58 : decode prog_8_method_3_code 58 = .ok (.iconst 1, 1) := by decide +kernel
theorem jd_63_59 : decode prog_8_method_3_code 59 = .ok (.iadd, 1) := by decide +kernel
theorem jd_63_60 : decode prog_8_method_3_code 60 = .ok (.putfield 22, 3) := by decide +kernel
theorem jd_63_63 : decode prog_8_method_3_code 63 = .ok (.aload_n 0, 1) := by decide +kernel
theorem jd_63_64 : decode prog_8_method_3_code 64 = .ok (.getfield 22, 3) := by decide +kernel
theorem jd_63_67 : decode prog_8_method_3_code 67 = .ok (.iconst 1, 1) := by decide +kernel
theorem jd_63_68 : decode prog_8_method_3_code 68 = .ok (.isub, 1) := by decide +kernel
theorem jd_63_69 : decode prog_8_method_3_code 69 = .ok (.ireturn, 1) := by decide +kernel
def jt_63 (pc : Nat) : jx_Sp := bif Nat.ble pc 36 then (bif Nat.ble pc 20 then (bif Nat.ble pc 11 then (bif Nat.ble pc 4 then (bif Nat.ble pc 1 then (bif Nat.ble pc 0 then (bif Nat.beq pc 0 then js_al 0 1 else js_none) else (bif Nat.beq pc 1 then js_getf 4 4 else js_none)) else (bif Nat.beq pc 4 then js_c 512 3 else js_none)) else (bif Nat.ble pc 10 then (bif Nat.ble pc 7 then (bif Nat.beq pc 7 then js_clt 12 else js_none) else (bif Nat.beq pc 10 then js_c 0 1 else js_none)) else (bif Nat.beq pc 11 then js_ir else js_none))) else (bif Nat.ble pc 16 then (bif Nat.ble pc 13 then (bif Nat.ble pc 12 then (bif Nat.beq pc 12 then js_al 0 1 else js_none) else (bif Nat.beq pc 13 then js_getf 4 0 else js_none)) else (bif Nat.beq pc 16 then js_al 0 1 else js_none)) else (bif Nat.ble pc 17 then (bif Nat.beq pc 17 then js_getf 4 4 else js_none) else (bif Nat.beq pc 20 then js_il 1 1 else js_none)))) else (bif Nat.ble pc 27 then (bif Nat.ble pc 23 then (bif Nat.ble pc 22 then (bif Nat.ble pc 21 then (bif Nat.beq pc 21 then js_ast else js_none) else (bif Nat.beq pc 22 then js_al 0 1 else js_none)) else (bif Nat.beq pc 23 then js_getf 4 1 else js_none)) else (bif Nat.ble pc 26 then (bif Nat.beq pc 26 then js_al 0 1 else js_none) else (bif Nat.beq pc 27 then js_getf 4 4 else js_none))) else (bif Nat.ble pc 32 then (bif Nat.ble pc 31 then (bif Nat.ble pc 30 then (bif Nat.beq pc 30 then js_il 2 1 else js_none) else (bif Nat.beq pc 31 then js_ast else js_none)) else (bif Nat.beq pc 32 then js_al 0 1 else js_none)) else (bif Nat.ble pc 33 then (bif Nat.beq pc 33 then js_getf 4 2 else js_none) else (bif Nat.beq pc 36 then js_al 0 1 else js_none))))) else (bif Nat.ble pc 53 then (bif Nat.ble pc 43 then (bif Nat.ble pc 41 then (bif Nat.ble pc 40 then (bif Nat.ble pc 37 then (bif Nat.beq pc 37 then js_getf 4 4 else js_none) else (bif Nat.beq pc 40 then js_il 3 1 else js_none)) else (bif Nat.beq pc 41 then js_ast else js_none)) else (bif Nat.ble pc 42 then (bif Nat.beq pc 42 then js_al 0 1 else js_none) else (bif Nat.beq pc 43 then js_getf 4 3 else js_none))) else (bif Nat.ble pc 50 then (bif Nat.ble pc 47 then (bif Nat.ble pc 46 then (bif Nat.beq pc 46 then js_al 0 1 else js_none) else (bif Nat.beq pc 47 then js_getf 4 4 else js_none)) else (bif Nat.beq pc 50 then js_il 4 2 else js_none)) else (bif Nat.ble pc 52 then (bif Nat.beq pc 52 then js_ast else js_none) else (bif Nat.beq pc 53 then js_al 0 1 else js_none)))) else (bif Nat.ble pc 60 then (bif Nat.ble pc 58 then (bif Nat.ble pc 55 then (bif Nat.ble pc 54 then (bif Nat.beq pc 54 then js_dup else js_none) else (bif Nat.beq pc 55 then js_getf 4 4 else js_none)) else (bif Nat.beq pc 58 then js_c 1 1 else js_none)) else (bif Nat.ble pc 59 then (bif Nat.beq pc 59 then js_iadd else js_none) else (bif Nat.beq pc 60 then js_putf 4 4 false else js_none))) else (bif Nat.ble pc 67 then (bif Nat.ble pc 64 then (bif Nat.ble pc 63 then (bif Nat.beq pc 63 then js_al 0 1 else js_none) else (bif Nat.beq pc 64 then js_getf 4 4 else js_none)) else (bif Nat.beq pc 67 then js_c 1 1 else js_none)) else (bif Nat.ble pc 68 then (bif Nat.beq pc 68 then js_isub else js_none) else (bif Nat.beq pc 69 then js_ir else js_none)))))
theorem jk_63_0 : jx_Snd 63 0 (js_al 0 1) := jo_aload_n (i := 0) (w := 0) rfl jd_63_0
theorem jk_63_1 : jx_Snd 63 1 (js_getf 4 4) := jo_getf rfl jf_4_22 jd_63_1
theorem jk_63_4 : jx_Snd 63 4 (js_c 512 3) := jo_sipush (z := 512) jd_63_4 (by decide +kernel)
theorem jk_63_7 : jx_Snd 63 7 (js_clt 12) := jo_clt (o := 5) rfl jd_63_7
theorem jk_63_10 : jx_Snd 63 10 (js_c 0 1) := jo_iconst (z := 0) jd_63_10 rfl
theorem jk_63_11 : jx_Snd 63 11 (js_ir) := jo_ir rfl jd_63_11
theorem jk_63_12 : jx_Snd 63 12 (js_al 0 1) := jo_aload_n (i := 0) (w := 0) rfl jd_63_12
theorem jk_63_13 : jx_Snd 63 13 (js_getf 4 0) := jo_getf rfl jf_4_9 jd_63_13
theorem jk_63_16 : jx_Snd 63 16 (js_al 0 1) := jo_aload_n (i := 0) (w := 0) rfl jd_63_16
theorem jk_63_17 : jx_Snd 63 17 (js_getf 4 4) := jo_getf rfl jf_4_22 jd_63_17
theorem jk_63_20 : jx_Snd 63 20 (js_il 1 1) := jo_iload_n (i := 1) (w := 1) rfl jd_63_20
theorem jk_63_21 : jx_Snd 63 21 (js_ast) := jo_ast jd_63_21
theorem jk_63_22 : jx_Snd 63 22 (js_al 0 1) := jo_aload_n (i := 0) (w := 0) rfl jd_63_22
theorem jk_63_23 : jx_Snd 63 23 (js_getf 4 1) := jo_getf rfl jf_4_13 jd_63_23
theorem jk_63_26 : jx_Snd 63 26 (js_al 0 1) := jo_aload_n (i := 0) (w := 0) rfl jd_63_26
theorem jk_63_27 : jx_Snd 63 27 (js_getf 4 4) := jo_getf rfl jf_4_22 jd_63_27
theorem jk_63_30 : jx_Snd 63 30 (js_il 2 1) := jo_iload_n (i := 2) (w := 2) rfl jd_63_30
theorem jk_63_31 : jx_Snd 63 31 (js_ast) := jo_ast jd_63_31
theorem jk_63_32 : jx_Snd 63 32 (js_al 0 1) := jo_aload_n (i := 0) (w := 0) rfl jd_63_32
theorem jk_63_33 : jx_Snd 63 33 (js_getf 4 2) := jo_getf rfl jf_4_16 jd_63_33
theorem jk_63_36 : jx_Snd 63 36 (js_al 0 1) := jo_aload_n (i := 0) (w := 0) rfl jd_63_36
theorem jk_63_37 : jx_Snd 63 37 (js_getf 4 4) := jo_getf rfl jf_4_22 jd_63_37
theorem jk_63_40 : jx_Snd 63 40 (js_il 3 1) := jo_iload_n (i := 3) (w := 3) rfl jd_63_40
theorem jk_63_41 : jx_Snd 63 41 (js_ast) := jo_ast jd_63_41
theorem jk_63_42 : jx_Snd 63 42 (js_al 0 1) := jo_aload_n (i := 0) (w := 0) rfl jd_63_42
theorem jk_63_43 : jx_Snd 63 43 (js_getf 4 3) := jo_getf rfl jf_4_19 jd_63_43
theorem jk_63_46 : jx_Snd 63 46 (js_al 0 1) := jo_aload_n (i := 0) (w := 0) rfl jd_63_46
theorem jk_63_47 : jx_Snd 63 47 (js_getf 4 4) := jo_getf rfl jf_4_22 jd_63_47
theorem jk_63_50 : jx_Snd 63 50 (js_il 4 2) := jo_iload (i := 4) jd_63_50
theorem jk_63_52 : jx_Snd 63 52 (js_ast) := jo_ast jd_63_52
theorem jk_63_53 : jx_Snd 63 53 (js_al 0 1) := jo_aload_n (i := 0) (w := 0) rfl jd_63_53
theorem jk_63_54 : jx_Snd 63 54 (js_dup) := jo_dup jd_63_54
theorem jk_63_55 : jx_Snd 63 55 (js_getf 4 4) := jo_getf rfl jf_4_22 jd_63_55
theorem jk_63_58 : jx_Snd 63 58 (js_c 1 1) := jo_iconst (z := 1) jd_63_58 rfl
theorem jk_63_59 : jx_Snd 63 59 (js_iadd) := jo_iadd jd_63_59
theorem jk_63_60 : jx_Snd 63 60 (js_putf 4 4 false) := jo_putf (z := false) rfl jf_4_22 (fun C T N h => by cases h; rfl) jd_63_60
theorem jk_63_63 : jx_Snd 63 63 (js_al 0 1) := jo_aload_n (i := 0) (w := 0) rfl jd_63_63
theorem jk_63_64 : jx_Snd 63 64 (js_getf 4 4) := jo_getf rfl jf_4_22 jd_63_64
theorem jk_63_67 : jx_Snd 63 67 (js_c 1 1) := jo_iconst (z := 1) jd_63_67 rfl
theorem jk_63_68 : jx_Snd 63 68 (js_isub) := jo_isub jd_63_68
theorem jk_63_69 : jx_Snd 63 69 (js_ir) := jo_ir rfl jd_63_69
theorem jk_63 : jx_So 63 jt_63 := fun pc => jo_le (jo_le (jo_le (jo_le (jo_le (jo_le (jo_at (jk_63_0)) (jo_at (jk_63_1))) (jo_at (jk_63_4))) (jo_le (jo_le (jo_at (jk_63_7)) (jo_at (jk_63_10))) (jo_at (jk_63_11)))) (jo_le (jo_le (jo_le (jo_at (jk_63_12)) (jo_at (jk_63_13))) (jo_at (jk_63_16))) (jo_le (jo_at (jk_63_17)) (jo_at (jk_63_20))))) (jo_le (jo_le (jo_le (jo_le (jo_at (jk_63_21)) (jo_at (jk_63_22))) (jo_at (jk_63_23))) (jo_le (jo_at (jk_63_26)) (jo_at (jk_63_27)))) (jo_le (jo_le (jo_le (jo_at (jk_63_30)) (jo_at (jk_63_31))) (jo_at (jk_63_32))) (jo_le (jo_at (jk_63_33)) (jo_at (jk_63_36)))))) (jo_le (jo_le (jo_le (jo_le (jo_le (jo_at (jk_63_37)) (jo_at (jk_63_40))) (jo_at (jk_63_41))) (jo_le (jo_at (jk_63_42)) (jo_at (jk_63_43)))) (jo_le (jo_le (jo_le (jo_at (jk_63_46)) (jo_at (jk_63_47))) (jo_at (jk_63_50))) (jo_le (jo_at (jk_63_52)) (jo_at (jk_63_53))))) (jo_le (jo_le (jo_le (jo_le (jo_at (jk_63_54)) (jo_at (jk_63_55))) (jo_at (jk_63_58))) (jo_le (jo_at (jk_63_59)) (jo_at (jk_63_60)))) (jo_le (jo_le (jo_le (jo_at (jk_63_63)) (jo_at (jk_63_64))) (jo_at (jk_63_67))) (jo_le (jo_at (jk_63_68)) (jo_at (jk_63_69))))))
theorem ji_63 {l : Launch} {D : va_G} {cA : ClassId} {ρ : Nat → Nat} {Λ : List jx_Lc} {d : Nat} {Q : Option Value → jx_St → Prop} {σ : jx_St} {z0 : Nat} {a1 : Int32} {a2 : Int32} {a3 : Int32} {a4 : Int32} (h : jt_63 0 Λ jx_tb0 (jx_rn Λ jx_tb0 jt_63 (fun k' as σ K => jx_C l D cA ρ Λ d k' as σ K) Q (jx_J l D cA ρ Λ (jx_A ρ Λ) jx_tb0 (d + 1) 63 Q) [] 400) (fun k' as σ K => jx_C l D cA ρ Λ d k' as σ K) Q 0 [(0, .ref z0), (1, .int a1), (2, .int a2), (3, .int a3), (4, .int a4)] [] σ) : jx_C l D cA ρ Λ (d + 1) 63 [.ref z0, .int a1, .int a2, .int a3, .int a4] σ Q := jx_in jk_63 400 [] rfl (Nat.le_of_ble_eq_true rfl) h
/-! ScriptLedger$Values.makePlain(II)I -/
theorem jd_64_0 : decode prog_8_method_4_code 0 = .ok (.aload_n 0, 1) := by decide +kernel
theorem jd_64_1 : decode prog_8_method_4_code 1 = .ok (.iload_n 1, 1) := by decide +kernel
theorem jd_64_2 : decode prog_8_method_4_code 2 = .ok (.iload_n 2, 1) := by decide +kernel
theorem jd_64_3 : decode prog_8_method_4_code 3 = .ok (.iconst 0, 1) := by decide +kernel
theorem jd_64_4 : decode prog_8_method_4_code 4 = .ok (.iconst 0, 1) := by decide +kernel
theorem jd_64_5 : decode prog_8_method_4_code 5 = .ok (.invokevirtual 26, 3) := by decide +kernel
theorem jd_64_8 : decode prog_8_method_4_code 8 = .ok (.ireturn, 1) := by decide +kernel
def jt_64 (pc : Nat) : jx_Sp := bif Nat.ble pc 3 then (bif Nat.ble pc 1 then (bif Nat.ble pc 0 then (bif Nat.beq pc 0 then js_al 0 1 else js_none) else (bif Nat.beq pc 1 then js_il 1 1 else js_none)) else (bif Nat.ble pc 2 then (bif Nat.beq pc 2 then js_il 2 1 else js_none) else (bif Nat.beq pc 3 then js_c 0 1 else js_none))) else (bif Nat.ble pc 5 then (bif Nat.ble pc 4 then (bif Nat.beq pc 4 then js_c 0 1 else js_none) else (bif Nat.beq pc 5 then js_v4 4 63 else js_none)) else (bif Nat.beq pc 8 then js_ir else js_none))
theorem jk_64_0 : jx_Snd 64 0 (js_al 0 1) := jo_aload_n (i := 0) (w := 0) rfl jd_64_0
theorem jk_64_1 : jx_Snd 64 1 (js_il 1 1) := jo_iload_n (i := 1) (w := 1) rfl jd_64_1
theorem jk_64_2 : jx_Snd 64 2 (js_il 2 1) := jo_iload_n (i := 2) (w := 2) rfl jd_64_2
theorem jk_64_3 : jx_Snd 64 3 (js_c 0 1) := jo_iconst (z := 0) jd_64_3 rfl
theorem jk_64_4 : jx_Snd 64 4 (js_c 0 1) := jo_iconst (z := 0) jd_64_4 rfl
theorem jk_64_5 : jx_Snd 64 5 (js_v4 4 63) := jo_v4 rfl jok_63 (Or.inl jw_214) jw_215 jw_216 rfl jd_64_5
theorem jk_64_8 : jx_Snd 64 8 (js_ir) := jo_ir rfl jd_64_8
theorem jk_64 : jx_So 64 jt_64 := fun pc => jo_le (jo_le (jo_le (jo_at (jk_64_0)) (jo_at (jk_64_1))) (jo_le (jo_at (jk_64_2)) (jo_at (jk_64_3)))) (jo_le (jo_le (jo_at (jk_64_4)) (jo_at (jk_64_5))) (jo_at (jk_64_8)))
theorem ji_64 {l : Launch} {D : va_G} {cA : ClassId} {ρ : Nat → Nat} {Λ : List jx_Lc} {d : Nat} {Q : Option Value → jx_St → Prop} {σ : jx_St} {z0 : Nat} {a1 : Int32} {a2 : Int32} (h : jt_64 0 Λ jx_tb0 (jx_rn Λ jx_tb0 jt_64 (fun k' as σ K => jx_C l D cA ρ Λ d k' as σ K) Q (jx_J l D cA ρ Λ (jx_A ρ Λ) jx_tb0 (d + 1) 64 Q) [] 400) (fun k' as σ K => jx_C l D cA ρ Λ d k' as σ K) Q 0 [(0, .ref z0), (1, .int a1), (2, .int a2)] [] σ) : jx_C l D cA ρ Λ (d + 1) 64 [.ref z0, .int a1, .int a2] σ Q := jx_in jk_64 400 [] rfl (Nat.le_of_ble_eq_true rfl) h
/-! ScriptLedger$Values.makeList(II)I -/
theorem jd_65_0 : decode prog_8_method_5_code 0 = .ok (.aload_n 0, 1) := by decide +kernel
theorem jd_65_1 : decode prog_8_method_5_code 1 = .ok (.iconst 2, 1) := by decide +kernel
theorem jd_65_2 : decode prog_8_method_5_code 2 = .ok (.iload_n 1, 1) := by decide +kernel
theorem jd_65_3 : decode prog_8_method_5_code 3 = .ok (.iload_n 2, 1) := by decide +kernel
theorem jd_65_4 : decode prog_8_method_5_code 4 = .ok (.aload_n 0, 1) := by decide +kernel
theorem jd_65_5 : decode prog_8_method_5_code 5 = .ok (.getfield 19, 3) := by decide +kernel
theorem jd_65_8 : decode prog_8_method_5_code 8 = .ok (.iload_n 2, 1) := by decide +kernel
theorem jd_65_9 : decode prog_8_method_5_code 9 = .ok (.iaload, 1) := by decide +kernel
theorem jd_65_10 : decode prog_8_method_5_code 10 = .ok (.iconst 1, 1) := by decide +kernel
theorem jd_65_11 : decode prog_8_method_5_code 11 = .ok (.iadd, 1) := by decide +kernel
theorem jd_65_12 : decode prog_8_method_5_code 12 = .ok (.invokevirtual 26, 3) := by decide +kernel
theorem jd_65_15 : decode prog_8_method_5_code 15 = .ok (.ireturn, 1) := by decide +kernel
def jt_65 (pc : Nat) : jx_Sp := bif Nat.ble pc 5 then (bif Nat.ble pc 2 then (bif Nat.ble pc 1 then (bif Nat.ble pc 0 then (bif Nat.beq pc 0 then js_al 0 1 else js_none) else (bif Nat.beq pc 1 then js_c 2 1 else js_none)) else (bif Nat.beq pc 2 then js_il 1 1 else js_none)) else (bif Nat.ble pc 4 then (bif Nat.ble pc 3 then (bif Nat.beq pc 3 then js_il 2 1 else js_none) else (bif Nat.beq pc 4 then js_al 0 1 else js_none)) else (bif Nat.beq pc 5 then js_getf 4 3 else js_none))) else (bif Nat.ble pc 10 then (bif Nat.ble pc 9 then (bif Nat.ble pc 8 then (bif Nat.beq pc 8 then js_il 2 1 else js_none) else (bif Nat.beq pc 9 then js_ald else js_none)) else (bif Nat.beq pc 10 then js_c 1 1 else js_none)) else (bif Nat.ble pc 12 then (bif Nat.ble pc 11 then (bif Nat.beq pc 11 then js_iadd else js_none) else (bif Nat.beq pc 12 then js_v4 4 63 else js_none)) else (bif Nat.beq pc 15 then js_ir else js_none)))
theorem jk_65_0 : jx_Snd 65 0 (js_al 0 1) := jo_aload_n (i := 0) (w := 0) rfl jd_65_0
theorem jk_65_1 : jx_Snd 65 1 (js_c 2 1) := jo_iconst (z := 2) jd_65_1 rfl
theorem jk_65_2 : jx_Snd 65 2 (js_il 1 1) := jo_iload_n (i := 1) (w := 1) rfl jd_65_2
theorem jk_65_3 : jx_Snd 65 3 (js_il 2 1) := jo_iload_n (i := 2) (w := 2) rfl jd_65_3
theorem jk_65_4 : jx_Snd 65 4 (js_al 0 1) := jo_aload_n (i := 0) (w := 0) rfl jd_65_4
theorem jk_65_5 : jx_Snd 65 5 (js_getf 4 3) := jo_getf rfl jf_4_19 jd_65_5
theorem jk_65_8 : jx_Snd 65 8 (js_il 2 1) := jo_iload_n (i := 2) (w := 2) rfl jd_65_8
theorem jk_65_9 : jx_Snd 65 9 (js_ald) := jo_ald jd_65_9
theorem jk_65_10 : jx_Snd 65 10 (js_c 1 1) := jo_iconst (z := 1) jd_65_10 rfl
theorem jk_65_11 : jx_Snd 65 11 (js_iadd) := jo_iadd jd_65_11
theorem jk_65_12 : jx_Snd 65 12 (js_v4 4 63) := jo_v4 rfl jok_63 (Or.inl jw_214) jw_215 jw_216 rfl jd_65_12
theorem jk_65_15 : jx_Snd 65 15 (js_ir) := jo_ir rfl jd_65_15
theorem jk_65 : jx_So 65 jt_65 := fun pc => jo_le (jo_le (jo_le (jo_le (jo_at (jk_65_0)) (jo_at (jk_65_1))) (jo_at (jk_65_2))) (jo_le (jo_le (jo_at (jk_65_3)) (jo_at (jk_65_4))) (jo_at (jk_65_5)))) (jo_le (jo_le (jo_le (jo_at (jk_65_8)) (jo_at (jk_65_9))) (jo_at (jk_65_10))) (jo_le (jo_le (jo_at (jk_65_11)) (jo_at (jk_65_12))) (jo_at (jk_65_15))))
theorem ji_65 {l : Launch} {D : va_G} {cA : ClassId} {ρ : Nat → Nat} {Λ : List jx_Lc} {d : Nat} {Q : Option Value → jx_St → Prop} {σ : jx_St} {z0 : Nat} {a1 : Int32} {a2 : Int32} (h : jt_65 0 Λ jx_tb0 (jx_rn Λ jx_tb0 jt_65 (fun k' as σ K => jx_C l D cA ρ Λ d k' as σ K) Q (jx_J l D cA ρ Λ (jx_A ρ Λ) jx_tb0 (d + 1) 65 Q) [] 400) (fun k' as σ K => jx_C l D cA ρ Λ d k' as σ K) Q 0 [(0, .ref z0), (1, .int a1), (2, .int a2)] [] σ) : jx_C l D cA ρ Λ (d + 1) 65 [.ref z0, .int a1, .int a2] σ Q := jx_in jk_65 400 [] rfl (Nat.le_of_ble_eq_true rfl) h
/-! ScriptLedger$Values.inChain(II)I -/
theorem jd_66_0 : decode prog_8_method_6_code 0 = .ok (.iload_n 1, 1) := by decide +kernel
theorem jd_66_1 : decode prog_8_method_6_code 1 = .ok (.istore_n 3, 1) := by decide +kernel
theorem jd_66_2 : decode prog_8_method_6_code 2 = .ok (.iconst 0, 1) := by decide +kernel
theorem jd_66_3 : decode prog_8_method_6_code 3 = .ok (.istore 4, 2) := by decide +kernel
theorem jd_66_5 : decode prog_8_method_6_code 5 = .ok (.iload 4, 2) := by decide +kernel
theorem jd_66_7 : decode prog_8_method_6_code 7 = .ok (.iload_n 2, 1) := by decide +kernel
theorem jd_66_8 : decode prog_8_method_6_code 8 = .ok (.if_icmp .ge 16, 3) := by decide +kernel
theorem jd_66_11 : decode prog_8_method_6_code 11 = .ok (.aload_n 0, 1) := by decide +kernel
theorem jd_66_12 : decode prog_8_method_6_code 12 = .ok (.getfield 16, 3) := by decide +kernel
theorem jd_66_15 : decode prog_8_method_6_code 15 = .ok (.iload_n 3, 1) := by decide +kernel
theorem jd_66_16 : decode prog_8_method_6_code 16 = .ok (.iaload, 1) := by decide +kernel
theorem jd_66_17 : decode prog_8_method_6_code 17 = .ok (.istore_n 3, 1) := by decide +kernel
theorem jd_66_18 : decode prog_8_method_6_code 18 = .ok (.iinc 4 1, 3) := by decide +kernel
theorem jd_66_21 : decode prog_8_method_6_code 21 = .ok (.goto (-16), 3) := by decide +kernel
theorem jd_66_24 : decode prog_8_method_6_code 24 = .ok (.aload_n 0, 1) := by decide +kernel
theorem jd_66_25 : decode prog_8_method_6_code 25 = .ok (.getfield 13, 3) := by decide +kernel
theorem jd_66_28 : decode prog_8_method_6_code 28 = .ok (.iload_n 3, 1) := by decide +kernel
theorem jd_66_29 : decode prog_8_method_6_code 29 = .ok (.iaload, 1) := by decide +kernel
theorem jd_66_30 : decode prog_8_method_6_code 30 = .ok (.ireturn, 1) := by decide +kernel
def jt_66 (pc : Nat) : jx_Sp := bif Nat.ble pc 15 then (bif Nat.ble pc 5 then (bif Nat.ble pc 2 then (bif Nat.ble pc 1 then (bif Nat.ble pc 0 then (bif Nat.beq pc 0 then js_il 1 1 else js_none) else (bif Nat.beq pc 1 then js_is 3 1 else js_none)) else (bif Nat.beq pc 2 then js_c 0 1 else js_none)) else (bif Nat.ble pc 3 then (bif Nat.beq pc 3 then js_is 4 2 else js_none) else (bif Nat.beq pc 5 then js_il 4 2 else js_none))) else (bif Nat.ble pc 11 then (bif Nat.ble pc 8 then (bif Nat.ble pc 7 then (bif Nat.beq pc 7 then js_il 2 1 else js_none) else (bif Nat.beq pc 8 then js_cge 24 else js_none)) else (bif Nat.beq pc 11 then js_al 0 1 else js_none)) else (bif Nat.ble pc 12 then (bif Nat.beq pc 12 then js_getf 4 2 else js_none) else (bif Nat.beq pc 15 then js_il 3 1 else js_none)))) else (bif Nat.ble pc 24 then (bif Nat.ble pc 18 then (bif Nat.ble pc 17 then (bif Nat.ble pc 16 then (bif Nat.beq pc 16 then js_ald else js_none) else (bif Nat.beq pc 17 then js_is 3 1 else js_none)) else (bif Nat.beq pc 18 then js_inc 4 1 else js_none)) else (bif Nat.ble pc 21 then (bif Nat.beq pc 21 then js_go 5 else js_none) else (bif Nat.beq pc 24 then js_al 0 1 else js_none))) else (bif Nat.ble pc 28 then (bif Nat.ble pc 25 then (bif Nat.beq pc 25 then js_getf 4 1 else js_none) else (bif Nat.beq pc 28 then js_il 3 1 else js_none)) else (bif Nat.ble pc 29 then (bif Nat.beq pc 29 then js_ald else js_none) else (bif Nat.beq pc 30 then js_ir else js_none))))
theorem jk_66_0 : jx_Snd 66 0 (js_il 1 1) := jo_iload_n (i := 1) (w := 1) rfl jd_66_0
theorem jk_66_1 : jx_Snd 66 1 (js_is 3 1) := jo_istore_n (i := 3) (w := 3) rfl (Nat.le_of_ble_eq_true rfl) jd_66_1
theorem jk_66_2 : jx_Snd 66 2 (js_c 0 1) := jo_iconst (z := 0) jd_66_2 rfl
theorem jk_66_3 : jx_Snd 66 3 (js_is 4 2) := jo_istore (i := 4) (Nat.le_of_ble_eq_true rfl) jd_66_3
theorem jk_66_5 : jx_Snd 66 5 (js_il 4 2) := jo_iload (i := 4) jd_66_5
theorem jk_66_7 : jx_Snd 66 7 (js_il 2 1) := jo_iload_n (i := 2) (w := 2) rfl jd_66_7
theorem jk_66_8 : jx_Snd 66 8 (js_cge 24) := jo_cge (o := 16) rfl jd_66_8
theorem jk_66_11 : jx_Snd 66 11 (js_al 0 1) := jo_aload_n (i := 0) (w := 0) rfl jd_66_11
theorem jk_66_12 : jx_Snd 66 12 (js_getf 4 2) := jo_getf rfl jf_4_16 jd_66_12
theorem jk_66_15 : jx_Snd 66 15 (js_il 3 1) := jo_iload_n (i := 3) (w := 3) rfl jd_66_15
theorem jk_66_16 : jx_Snd 66 16 (js_ald) := jo_ald jd_66_16
theorem jk_66_17 : jx_Snd 66 17 (js_is 3 1) := jo_istore_n (i := 3) (w := 3) rfl (Nat.le_of_ble_eq_true rfl) jd_66_17
theorem jk_66_18 : jx_Snd 66 18 (js_inc 4 1) := jo_iinc (w := 1) rfl (Nat.le_of_ble_eq_true rfl) jd_66_18
theorem jk_66_21 : jx_Snd 66 21 (js_go 5) := jo_goto (o := (-16)) rfl jd_66_21
theorem jk_66_24 : jx_Snd 66 24 (js_al 0 1) := jo_aload_n (i := 0) (w := 0) rfl jd_66_24
theorem jk_66_25 : jx_Snd 66 25 (js_getf 4 1) := jo_getf rfl jf_4_13 jd_66_25
theorem jk_66_28 : jx_Snd 66 28 (js_il 3 1) := jo_iload_n (i := 3) (w := 3) rfl jd_66_28
theorem jk_66_29 : jx_Snd 66 29 (js_ald) := jo_ald jd_66_29
theorem jk_66_30 : jx_Snd 66 30 (js_ir) := jo_ir rfl jd_66_30
theorem jk_66 : jx_So 66 jt_66 := fun pc => jo_le (jo_le (jo_le (jo_le (jo_le (jo_at (jk_66_0)) (jo_at (jk_66_1))) (jo_at (jk_66_2))) (jo_le (jo_at (jk_66_3)) (jo_at (jk_66_5)))) (jo_le (jo_le (jo_le (jo_at (jk_66_7)) (jo_at (jk_66_8))) (jo_at (jk_66_11))) (jo_le (jo_at (jk_66_12)) (jo_at (jk_66_15))))) (jo_le (jo_le (jo_le (jo_le (jo_at (jk_66_16)) (jo_at (jk_66_17))) (jo_at (jk_66_18))) (jo_le (jo_at (jk_66_21)) (jo_at (jk_66_24)))) (jo_le (jo_le (jo_at (jk_66_25)) (jo_at (jk_66_28))) (jo_le (jo_at (jk_66_29)) (jo_at (jk_66_30)))))
theorem ji_66 {l : Launch} {D : va_G} {cA : ClassId} {ρ : Nat → Nat} {Λ : List jx_Lc} {d : Nat} {Q : Option Value → jx_St → Prop} {σ : jx_St} {z0 : Nat} {a1 : Int32} {a2 : Int32} (h : jt_66 0 Λ jx_tb0 (jx_rn Λ jx_tb0 jt_66 (fun k' as σ K => jx_C l D cA ρ Λ d k' as σ K) Q (jx_J l D cA ρ Λ (jx_A ρ Λ) jx_tb0 (d + 1) 66 Q) [] 400) (fun k' as σ K => jx_C l D cA ρ Λ d k' as σ K) Q 0 [(0, .ref z0), (1, .int a1), (2, .int a2)] [] σ) : jx_C l D cA ρ Λ (d + 1) 66 [.ref z0, .int a1, .int a2] σ Q := jx_in jk_66 400 [] rfl (Nat.le_of_ble_eq_true rfl) h
/-! ScriptLedger$Ledger.<init>(I)V -/
theorem jd_67_0 : decode prog_3_method_1_code 0 = .ok (.aload_n 0, 1) := by decide +kernel
theorem jd_67_1 : decode prog_3_method_1_code 1 = .ok (.invokespecial 3, 3) := by decide +kernel
theorem jd_67_4 : decode prog_3_method_1_code 4 = .ok (.aload_n 0, 1) := by decide +kernel
theorem jd_67_5 : decode prog_3_method_1_code 5 = .ok (.new 9, 3) := by decide +kernel
theorem jd_67_8 : decode prog_3_method_1_code 8 = .ok (.dup, 1) := by decide +kernel
theorem jd_67_9 : decode prog_3_method_1_code 9 = .ok (.bipush 48, 2) := by decide +kernel
theorem jd_67_11 : decode prog_3_method_1_code 11 = .ok (.invokespecial 11, 3) := by decide +kernel
theorem jd_67_14 : decode prog_3_method_1_code 14 = .ok (.putfield 14, 3) := by decide +kernel
theorem jd_67_17 : decode prog_3_method_1_code 17 = .ok (.aload_n 0, 1) := by decide +kernel
theorem jd_67_18 : decode prog_3_method_1_code 18 = .ok (.bipush 48, 2) := by decide +kernel
theorem jd_67_20 : decode prog_3_method_1_code 20 = .ok (.newarray .int, 2) := by decide +kernel
theorem jd_67_22 : decode prog_3_method_1_code 22 = .ok (.putfield 20, 3) := by decide +kernel
theorem jd_67_25 : decode prog_3_method_1_code 25 = .ok (.aload_n 0, 1) := by decide +kernel
theorem jd_67_26 : decode prog_3_method_1_code 26 = .ok (.bipush 41, 2) := by decide +kernel
theorem jd_67_28 : decode prog_3_method_1_code 28 = .ok (.newarray .int, 2) := by decide +kernel
theorem jd_67_30 : decode prog_3_method_1_code 30 = .ok (.putfield 24, 3) := by decide +kernel
theorem jd_67_33 : decode prog_3_method_1_code 33 = .ok (.aload_n 0, 1) := by decide +kernel
theorem jd_67_34 : decode prog_3_method_1_code 34 = .ok (.bipush 41, 2) := by decide +kernel
theorem jd_67_36 : decode prog_3_method_1_code 36 = .ok (.newarray .int, 2) := by decide +kernel
theorem jd_67_38 : decode prog_3_method_1_code 38 = .ok (.putfield 27, 3) := by decide +kernel
theorem jd_67_41 : decode prog_3_method_1_code 41 = .ok (.sipush 500, 3) := by decide +kernel
theorem jd_67_44 : decode prog_3_method_1_code 44 = .ok (.iload_n 1, 1) := by decide +kernel
theorem jd_67_45 : decode prog_3_method_1_code 45 = .ok (.sipush 1000, 3) := by decide +kernel
theorem jd_67_48 : decode prog_3_method_1_code 48 = .ok (.irem, 1) := by decide +kernel
theorem jd_67_49 : decode prog_3_method_1_code 49 = .ok (.iconst 0, 1) := by decide +kernel
theorem jd_67_50 : decode prog_3_method_1_code 50 = .ok (.invokestatic 30, 3) := by decide +kernel
theorem jd_67_53 : decode prog_3_method_1_code 53 = .ok (.iadd, 1) := by decide +kernel
theorem jd_67_54 : decode prog_3_method_1_code 54 = .ok (.istore_n 2, 1) := by decide +kernel
theorem jd_67_55 : decode prog_3_method_1_code 55 = .ok (.iconst 0, 1) := by decide +kernel
theorem jd_67_56 : decode prog_3_method_1_code 56 = .ok (.istore_n 3, 1) := by decide +kernel
theorem jd_67_57 : decode prog_3_method_1_code 57 = .ok (.iload_n 3, 1) := by decide +kernel
theorem jd_67_58 : decode prog_3_method_1_code 58 = .ok (.iconst 2, 1) := by decide +kernel
theorem jd_67_59 : decode prog_3_method_1_code 59 = .ok (.if_icmp .ge 28, 3) := by decide +kernel
theorem jd_67_62 : decode prog_3_method_1_code 62 = .ok (.aload_n 0, 1) := by decide +kernel
theorem jd_67_63 : decode prog_3_method_1_code 63 = .ok (.getfield 14, 3) := by decide +kernel
theorem jd_67_66 : decode prog_3_method_1_code 66 = .ok (.iload_n 3, 1) := by decide +kernel
theorem jd_67_67 : decode prog_3_method_1_code 67 = .ok (.iconst 0, 1) := by decide +kernel
theorem jd_67_68 : decode prog_3_method_1_code 68 = .ok (.iload_n 2, 1) := by decide +kernel
theorem jd_67_69 : decode prog_3_method_1_code 69 = .ok (.iconst 0, 1) := by decide +kernel
theorem jd_67_70 : decode prog_3_method_1_code 70 = .ok (.iconst 0, 1) := by decide +kernel
theorem jd_67_71 : decode prog_3_method_1_code 71 = .ok (.invokevirtual 36, 3) := by decide +kernel
theorem jd_67_74 : decode prog_3_method_1_code 74 = .ok (.aload_n 0, 1) := by decide +kernel
theorem jd_67_75 : decode prog_3_method_1_code 75 = .ok (.getfield 20, 3) := by decide +kernel
theorem jd_67_78 : decode prog_3_method_1_code 78 = .ok (.iload_n 3, 1) := by decide +kernel
theorem jd_67_79 : decode prog_3_method_1_code 79 = .ok (.iconst (-1), 1) := by decide +kernel
theorem jd_67_80 : decode prog_3_method_1_code 80 = .ok (.iastore, 1) := by decide +kernel
theorem jd_67_81 : decode prog_3_method_1_code 81 = .ok (.iinc 3 1, 3) := by decide +kernel
theorem jd_67_84 : decode prog_3_method_1_code 84 = .ok (.goto (-27), 3) := by decide +kernel
theorem jd_67_87 : decode prog_3_method_1_code 87 = .ok (.aload_n 0, 1) := by decide +kernel
theorem jd_67_88 : decode prog_3_method_1_code 88 = .ok (.getfield 24, 3) := by decide +kernel
theorem jd_67_91 : decode prog_3_method_1_code 91 = .ok (.iconst 0, 1) := by decide +kernel
theorem jd_67_92 : decode prog_3_method_1_code 92 = .ok (.aload_n 0, 1) := by decide +kernel
theorem jd_67_93 : decode prog_3_method_1_code 93 = .ok (.getfield 14, 3) := by decide +kernel
theorem jd_67_96 : decode prog_3_method_1_code 96 = .ok (.getfield 40, 3) := by decide +kernel
theorem jd_67_99 : decode prog_3_method_1_code 99 = .ok (.iastore, 1) := by decide +kernel
theorem jd_67_100 : decode prog_3_method_1_code 100 = .ok (.return_, 1) := by decide +kernel
def jnt_67 (pc : Nat) : jn_Sp := bif Nat.ble pc 54 then (bif Nat.ble pc 26 then (bif Nat.ble pc 11 then (bif Nat.ble pc 5 then (bif Nat.ble pc 1 then (bif Nat.ble pc 0 then (bif Nat.beq pc 0 then jn_of (js_al 0 1) else jn_none) else (bif Nat.beq pc 1 then jn_obj else jn_none)) else (bif Nat.ble pc 4 then (bif Nat.beq pc 4 then jn_of (js_al 0 1) else jn_none) else (bif Nat.beq pc 5 then jn_new 6 4 [some none, some none, some none, none] else jn_none))) else (bif Nat.ble pc 9 then (bif Nat.ble pc 8 then (bif Nat.beq pc 8 then jn_of (js_dup) else jn_none) else (bif Nat.beq pc 9 then jn_of (js_c 48 2) else jn_none)) else (bif Nat.beq pc 11 then jn_i1 76 3 240 else jn_none))) else (bif Nat.ble pc 20 then (bif Nat.ble pc 17 then (bif Nat.ble pc 14 then (bif Nat.beq pc 14 then jn_putr 5 0 else jn_none) else (bif Nat.beq pc 17 then jn_of (js_al 0 1) else jn_none)) else (bif Nat.ble pc 18 then (bif Nat.beq pc 18 then jn_of (js_c 48 2) else jn_none) else (bif Nat.beq pc 20 then jn_newa else jn_none))) else (bif Nat.ble pc 25 then (bif Nat.ble pc 22 then (bif Nat.beq pc 22 then jn_putr 5 1 else jn_none) else (bif Nat.beq pc 25 then jn_of (js_al 0 1) else jn_none)) else (bif Nat.beq pc 26 then jn_of (js_c 41 2) else jn_none)))) else (bif Nat.ble pc 41 then (bif Nat.ble pc 34 then (bif Nat.ble pc 30 then (bif Nat.ble pc 28 then (bif Nat.beq pc 28 then jn_newa else jn_none) else (bif Nat.beq pc 30 then jn_putr 5 2 else jn_none)) else (bif Nat.ble pc 33 then (bif Nat.beq pc 33 then jn_of (js_al 0 1) else jn_none) else (bif Nat.beq pc 34 then jn_of (js_c 41 2) else jn_none))) else (bif Nat.ble pc 38 then (bif Nat.ble pc 36 then (bif Nat.beq pc 36 then jn_newa else jn_none) else (bif Nat.beq pc 38 then jn_putr 5 3 else jn_none)) else (bif Nat.beq pc 41 then jn_of (js_c 500 3) else jn_none))) else (bif Nat.ble pc 49 then (bif Nat.ble pc 45 then (bif Nat.ble pc 44 then (bif Nat.beq pc 44 then jn_of (js_il 1 1) else jn_none) else (bif Nat.beq pc 45 then jn_of (js_c 1000 3) else jn_none)) else (bif Nat.ble pc 48 then (bif Nat.beq pc 48 then jn_of (js_irem) else jn_none) else (bif Nat.beq pc 49 then jn_of (js_c 0 1) else jn_none))) else (bif Nat.ble pc 53 then (bif Nat.ble pc 50 then (bif Nat.beq pc 50 then jn_of (js_max) else jn_none) else (bif Nat.beq pc 53 then jn_of (js_iadd) else jn_none)) else (bif Nat.beq pc 54 then jn_of (js_is 2 1) else jn_none))))) else (bif Nat.ble pc 74 then (bif Nat.ble pc 63 then (bif Nat.ble pc 58 then (bif Nat.ble pc 56 then (bif Nat.ble pc 55 then (bif Nat.beq pc 55 then jn_of (js_c 0 1) else jn_none) else (bif Nat.beq pc 56 then jn_of (js_is 3 1) else jn_none)) else (bif Nat.ble pc 57 then (bif Nat.beq pc 57 then jn_of (js_il 3 1) else jn_none) else (bif Nat.beq pc 58 then jn_of (js_c 2 1) else jn_none))) else (bif Nat.ble pc 62 then (bif Nat.ble pc 59 then (bif Nat.beq pc 59 then jn_of (js_cge 87) else jn_none) else (bif Nat.beq pc 62 then jn_of (js_al 0 1) else jn_none)) else (bif Nat.beq pc 63 then jn_of (js_getf 5 0) else jn_none))) else (bif Nat.ble pc 69 then (bif Nat.ble pc 67 then (bif Nat.ble pc 66 then (bif Nat.beq pc 66 then jn_of (js_il 3 1) else jn_none) else (bif Nat.beq pc 67 then jn_of (js_c 0 1) else jn_none)) else (bif Nat.ble pc 68 then (bif Nat.beq pc 68 then jn_of (js_il 2 1) else jn_none) else (bif Nat.beq pc 69 then jn_of (js_c 0 1) else jn_none))) else (bif Nat.ble pc 71 then (bif Nat.ble pc 70 then (bif Nat.beq pc 70 then jn_of (js_c 0 1) else jn_none) else (bif Nat.beq pc 71 then jn_of (js_v5 6 78) else jn_none)) else (bif Nat.beq pc 74 then jn_of (js_al 0 1) else jn_none)))) else (bif Nat.ble pc 87 then (bif Nat.ble pc 80 then (bif Nat.ble pc 78 then (bif Nat.ble pc 75 then (bif Nat.beq pc 75 then jn_of (js_getf 5 1) else jn_none) else (bif Nat.beq pc 78 then jn_of (js_il 3 1) else jn_none)) else (bif Nat.ble pc 79 then (bif Nat.beq pc 79 then jn_of (js_c (-1) 1) else jn_none) else (bif Nat.beq pc 80 then jn_of (js_ast) else jn_none))) else (bif Nat.ble pc 84 then (bif Nat.ble pc 81 then (bif Nat.beq pc 81 then jn_of (js_inc 3 1) else jn_none) else (bif Nat.beq pc 84 then jn_of (js_go 57) else jn_none)) else (bif Nat.beq pc 87 then jn_of (js_al 0 1) else jn_none))) else (bif Nat.ble pc 93 then (bif Nat.ble pc 91 then (bif Nat.ble pc 88 then (bif Nat.beq pc 88 then jn_of (js_getf 5 2) else jn_none) else (bif Nat.beq pc 91 then jn_of (js_c 0 1) else jn_none)) else (bif Nat.ble pc 92 then (bif Nat.beq pc 92 then jn_of (js_al 0 1) else jn_none) else (bif Nat.beq pc 93 then jn_of (js_getf 5 0) else jn_none))) else (bif Nat.ble pc 99 then (bif Nat.ble pc 96 then (bif Nat.beq pc 96 then jn_of (js_getf 6 3) else jn_none) else (bif Nat.beq pc 99 then jn_of (js_ast) else jn_none)) else (bif Nat.beq pc 100 then jn_vr else jn_none)))))
theorem jnk_67_0 : jn_Snd 67 0 (jn_of (js_al 0 1)) := jn_lift (jo_aload_n (i := 0) (w := 0) rfl jd_67_0)
theorem jnk_67_1 : jn_Snd 67 1 (jn_obj) := jno_obj rfl jw_84 jw_17 jw_18 jd_67_1
theorem jnk_67_4 : jn_Snd 67 4 (jn_of (js_al 0 1)) := jn_lift (jo_aload_n (i := 0) (w := 0) rfl jd_67_4)
theorem jnk_67_5 : jn_Snd 67 5 (jn_new 6 4 [some none, some none, some none, none]) := jno_new (tt := ju_6) rfl rfl jhl_6 jty_6 jw_85 jw_86 jw_7 rfl (by decide +kernel) jd_67_5
theorem jnk_67_8 : jn_Snd 67 8 (jn_of (js_dup)) := jn_lift (jo_dup jd_67_8)
theorem jnk_67_9 : jn_Snd 67 9 (jn_of (js_c 48 2)) := jn_lift (jo_bipush (z := 48) jd_67_9 (by decide +kernel))
theorem jnk_67_11 : jn_Snd 67 11 (jn_i1 76 3 240) := jno_i1 rfl jok_76 (Or.inl jw_87) jw_88 rfl rfl jd_67_11
theorem jnk_67_14 : jn_Snd 67 14 (jn_putr 5 0) := jno_putr rfl rfl jf_5_14 (fun C T N h => by cases h; exact ⟨rfl, rfl⟩) ⟨_, _, _, rfl, jw_113⟩ (fun a => ⟨rfl, rfl⟩) jd_67_14
theorem jnk_67_17 : jn_Snd 67 17 (jn_of (js_al 0 1)) := jn_lift (jo_aload_n (i := 0) (w := 0) rfl jd_67_17)
theorem jnk_67_18 : jn_Snd 67 18 (jn_of (js_c 48 2)) := jn_lift (jo_bipush (z := 48) jd_67_18 (by decide +kernel))
theorem jnk_67_20 : jn_Snd 67 20 (jn_newa) := jno_newa (at_ := .int) rfl jw_28 jd_67_20
theorem jnk_67_22 : jn_Snd 67 22 (jn_putr 5 1) := jno_putr rfl rfl jf_5_20 (fun C T N h => by cases h; exact ⟨rfl, rfl⟩) ⟨_, _, _, rfl, jw_115⟩ (fun a => ⟨rfl, rfl⟩) jd_67_22
theorem jnk_67_25 : jn_Snd 67 25 (jn_of (js_al 0 1)) := jn_lift (jo_aload_n (i := 0) (w := 0) rfl jd_67_25)
theorem jnk_67_26 : jn_Snd 67 26 (jn_of (js_c 41 2)) := jn_lift (jo_bipush (z := 41) jd_67_26 (by decide +kernel))
theorem jnk_67_28 : jn_Snd 67 28 (jn_newa) := jno_newa (at_ := .int) rfl jw_28 jd_67_28
theorem jnk_67_30 : jn_Snd 67 30 (jn_putr 5 2) := jno_putr rfl rfl jf_5_24 (fun C T N h => by cases h; exact ⟨rfl, rfl⟩) ⟨_, _, _, rfl, jw_116⟩ (fun a => ⟨rfl, rfl⟩) jd_67_30
theorem jnk_67_33 : jn_Snd 67 33 (jn_of (js_al 0 1)) := jn_lift (jo_aload_n (i := 0) (w := 0) rfl jd_67_33)
theorem jnk_67_34 : jn_Snd 67 34 (jn_of (js_c 41 2)) := jn_lift (jo_bipush (z := 41) jd_67_34 (by decide +kernel))
theorem jnk_67_36 : jn_Snd 67 36 (jn_newa) := jno_newa (at_ := .int) rfl jw_28 jd_67_36
theorem jnk_67_38 : jn_Snd 67 38 (jn_putr 5 3) := jno_putr rfl rfl jf_5_27 (fun C T N h => by cases h; exact ⟨rfl, rfl⟩) ⟨_, _, _, rfl, jw_117⟩ (fun a => ⟨rfl, rfl⟩) jd_67_38
theorem jnk_67_41 : jn_Snd 67 41 (jn_of (js_c 500 3)) := jn_lift (jo_sipush (z := 500) jd_67_41 (by decide +kernel))
theorem jnk_67_44 : jn_Snd 67 44 (jn_of (js_il 1 1)) := jn_lift (jo_iload_n (i := 1) (w := 1) rfl jd_67_44)
theorem jnk_67_45 : jn_Snd 67 45 (jn_of (js_c 1000 3)) := jn_lift (jo_sipush (z := 1000) jd_67_45 (by decide +kernel))
theorem jnk_67_48 : jn_Snd 67 48 (jn_of (js_irem)) := jn_lift (jo_irem jd_67_48)
theorem jnk_67_49 : jn_Snd 67 49 (jn_of (js_c 0 1)) := jn_lift (jo_iconst (z := 0) jd_67_49 rfl)
theorem jnk_67_50 : jn_Snd 67 50 (jn_of (js_max)) := jn_lift (jo_max rfl jw_102 jw_103 jw_8 jw_104 jd_67_50)
theorem jnk_67_53 : jn_Snd 67 53 (jn_of (js_iadd)) := jn_lift (jo_iadd jd_67_53)
theorem jnk_67_54 : jn_Snd 67 54 (jn_of (js_is 2 1)) := jn_lift (jo_istore_n (i := 2) (w := 2) rfl (Nat.le_of_ble_eq_true rfl) jd_67_54)
theorem jnk_67_55 : jn_Snd 67 55 (jn_of (js_c 0 1)) := jn_lift (jo_iconst (z := 0) jd_67_55 rfl)
theorem jnk_67_56 : jn_Snd 67 56 (jn_of (js_is 3 1)) := jn_lift (jo_istore_n (i := 3) (w := 3) rfl (Nat.le_of_ble_eq_true rfl) jd_67_56)
theorem jnk_67_57 : jn_Snd 67 57 (jn_of (js_il 3 1)) := jn_lift (jo_iload_n (i := 3) (w := 3) rfl jd_67_57)
theorem jnk_67_58 : jn_Snd 67 58 (jn_of (js_c 2 1)) := jn_lift (jo_iconst (z := 2) jd_67_58 rfl)
theorem jnk_67_59 : jn_Snd 67 59 (jn_of (js_cge 87)) := jn_lift (jo_cge (o := 28) rfl jd_67_59)
theorem jnk_67_62 : jn_Snd 67 62 (jn_of (js_al 0 1)) := jn_lift (jo_aload_n (i := 0) (w := 0) rfl jd_67_62)
theorem jnk_67_63 : jn_Snd 67 63 (jn_of (js_getf 5 0)) := jn_lift (jo_getf rfl jf_5_14 jd_67_63)
theorem jnk_67_66 : jn_Snd 67 66 (jn_of (js_il 3 1)) := jn_lift (jo_iload_n (i := 3) (w := 3) rfl jd_67_66)
theorem jnk_67_67 : jn_Snd 67 67 (jn_of (js_c 0 1)) := jn_lift (jo_iconst (z := 0) jd_67_67 rfl)
theorem jnk_67_68 : jn_Snd 67 68 (jn_of (js_il 2 1)) := jn_lift (jo_iload_n (i := 2) (w := 2) rfl jd_67_68)
theorem jnk_67_69 : jn_Snd 67 69 (jn_of (js_c 0 1)) := jn_lift (jo_iconst (z := 0) jd_67_69 rfl)
theorem jnk_67_70 : jn_Snd 67 70 (jn_of (js_c 0 1)) := jn_lift (jo_iconst (z := 0) jd_67_70 rfl)
theorem jnk_67_71 : jn_Snd 67 71 (jn_of (js_v5 6 78)) := jn_lift (jo_v5 rfl jok_78 (Or.inl jw_105) jw_106 jw_107 rfl jd_67_71)
theorem jnk_67_74 : jn_Snd 67 74 (jn_of (js_al 0 1)) := jn_lift (jo_aload_n (i := 0) (w := 0) rfl jd_67_74)
theorem jnk_67_75 : jn_Snd 67 75 (jn_of (js_getf 5 1)) := jn_lift (jo_getf rfl jf_5_20 jd_67_75)
theorem jnk_67_78 : jn_Snd 67 78 (jn_of (js_il 3 1)) := jn_lift (jo_iload_n (i := 3) (w := 3) rfl jd_67_78)
theorem jnk_67_79 : jn_Snd 67 79 (jn_of (js_c (-1) 1)) := jn_lift (jo_iconst (z := (-1)) jd_67_79 rfl)
theorem jnk_67_80 : jn_Snd 67 80 (jn_of (js_ast)) := jn_lift (jo_ast jd_67_80)
theorem jnk_67_81 : jn_Snd 67 81 (jn_of (js_inc 3 1)) := jn_lift (jo_iinc (w := 1) rfl (Nat.le_of_ble_eq_true rfl) jd_67_81)
theorem jnk_67_84 : jn_Snd 67 84 (jn_of (js_go 57)) := jn_lift (jo_goto (o := (-27)) rfl jd_67_84)
theorem jnk_67_87 : jn_Snd 67 87 (jn_of (js_al 0 1)) := jn_lift (jo_aload_n (i := 0) (w := 0) rfl jd_67_87)
theorem jnk_67_88 : jn_Snd 67 88 (jn_of (js_getf 5 2)) := jn_lift (jo_getf rfl jf_5_24 jd_67_88)
theorem jnk_67_91 : jn_Snd 67 91 (jn_of (js_c 0 1)) := jn_lift (jo_iconst (z := 0) jd_67_91 rfl)
theorem jnk_67_92 : jn_Snd 67 92 (jn_of (js_al 0 1)) := jn_lift (jo_aload_n (i := 0) (w := 0) rfl jd_67_92)
theorem jnk_67_93 : jn_Snd 67 93 (jn_of (js_getf 5 0)) := jn_lift (jo_getf rfl jf_5_14 jd_67_93)
theorem jnk_67_96 : jn_Snd 67 96 (jn_of (js_getf 6 3)) := jn_lift (jo_getf rfl jf_5_40 jd_67_96)
theorem jnk_67_99 : jn_Snd 67 99 (jn_of (js_ast)) := jn_lift (jo_ast jd_67_99)
theorem jnk_67_100 : jn_Snd 67 100 (jn_vr) := jno_vr jd_67_100
theorem jnk_67 : jn_So 67 jnt_67 := fun pc => jno_le (jno_le (jno_le (jno_le (jno_le (jno_le (jno_at (jnk_67_0)) (jno_at (jnk_67_1))) (jno_le (jno_at (jnk_67_4)) (jno_at (jnk_67_5)))) (jno_le (jno_le (jno_at (jnk_67_8)) (jno_at (jnk_67_9))) (jno_at (jnk_67_11)))) (jno_le (jno_le (jno_le (jno_at (jnk_67_14)) (jno_at (jnk_67_17))) (jno_le (jno_at (jnk_67_18)) (jno_at (jnk_67_20)))) (jno_le (jno_le (jno_at (jnk_67_22)) (jno_at (jnk_67_25))) (jno_at (jnk_67_26))))) (jno_le (jno_le (jno_le (jno_le (jno_at (jnk_67_28)) (jno_at (jnk_67_30))) (jno_le (jno_at (jnk_67_33)) (jno_at (jnk_67_34)))) (jno_le (jno_le (jno_at (jnk_67_36)) (jno_at (jnk_67_38))) (jno_at (jnk_67_41)))) (jno_le (jno_le (jno_le (jno_at (jnk_67_44)) (jno_at (jnk_67_45))) (jno_le (jno_at (jnk_67_48)) (jno_at (jnk_67_49)))) (jno_le (jno_le (jno_at (jnk_67_50)) (jno_at (jnk_67_53))) (jno_at (jnk_67_54)))))) (jno_le (jno_le (jno_le (jno_le (jno_le (jno_at (jnk_67_55)) (jno_at (jnk_67_56))) (jno_le (jno_at (jnk_67_57)) (jno_at (jnk_67_58)))) (jno_le (jno_le (jno_at (jnk_67_59)) (jno_at (jnk_67_62))) (jno_at (jnk_67_63)))) (jno_le (jno_le (jno_le (jno_at (jnk_67_66)) (jno_at (jnk_67_67))) (jno_le (jno_at (jnk_67_68)) (jno_at (jnk_67_69)))) (jno_le (jno_le (jno_at (jnk_67_70)) (jno_at (jnk_67_71))) (jno_at (jnk_67_74))))) (jno_le (jno_le (jno_le (jno_le (jno_at (jnk_67_75)) (jno_at (jnk_67_78))) (jno_le (jno_at (jnk_67_79)) (jno_at (jnk_67_80)))) (jno_le (jno_le (jno_at (jnk_67_81)) (jno_at (jnk_67_84))) (jno_at (jnk_67_87)))) (jno_le (jno_le (jno_le (jno_at (jnk_67_88)) (jno_at (jnk_67_91))) (jno_le (jno_at (jnk_67_92)) (jno_at (jnk_67_93)))) (jno_le (jno_le (jno_at (jnk_67_96)) (jno_at (jnk_67_99))) (jno_at (jnk_67_100))))))
/-! ScriptLedger$Ledger.has(I)Z -/
theorem jd_68_0 : decode prog_3_method_2_code 0 = .ok (.iload_n 1, 1) := by decide +kernel
theorem jd_68_1 : decode prog_3_method_2_code 1 = .ok (.ifCond .lt 18, 3) := by decide +kernel
theorem jd_68_4 : decode prog_3_method_2_code 4 = .ok (.iload_n 1, 1) := by decide +kernel
theorem jd_68_5 : decode prog_3_method_2_code 5 = .ok (.aload_n 0, 1) := by decide +kernel
theorem jd_68_6 : decode prog_3_method_2_code 6 = .ok (.getfield 14, 3) := by decide +kernel
theorem jd_68_9 : decode prog_3_method_2_code 9 = .ok (.getfield 40, 3) := by decide +kernel
theorem jd_68_12 : decode prog_3_method_2_code 12 = .ok (.if_icmp .ge 7, 3) := by decide +kernel
theorem jd_68_15 : decode prog_3_method_2_code 15 = .ok (.iconst 1, 1) := by decide +kernel
theorem jd_68_16 : decode prog_3_method_2_code 16 = .ok (.goto 4, 3) := by decide +kernel
theorem jd_68_19 : decode prog_3_method_2_code 19 = .ok (.iconst 0, 1) := by decide +kernel
theorem jd_68_20 : decode prog_3_method_2_code 20 = .ok (.ireturn, 1) := by decide +kernel
def jt_68 (pc : Nat) : jx_Sp := bif Nat.ble pc 9 then (bif Nat.ble pc 4 then (bif Nat.ble pc 1 then (bif Nat.ble pc 0 then (bif Nat.beq pc 0 then js_il 1 1 else js_none) else (bif Nat.beq pc 1 then js_iflt 19 else js_none)) else (bif Nat.beq pc 4 then js_il 1 1 else js_none)) else (bif Nat.ble pc 6 then (bif Nat.ble pc 5 then (bif Nat.beq pc 5 then js_al 0 1 else js_none) else (bif Nat.beq pc 6 then js_getf 5 0 else js_none)) else (bif Nat.beq pc 9 then js_getf 6 3 else js_none))) else (bif Nat.ble pc 16 then (bif Nat.ble pc 15 then (bif Nat.ble pc 12 then (bif Nat.beq pc 12 then js_cge 19 else js_none) else (bif Nat.beq pc 15 then js_c 1 1 else js_none)) else (bif Nat.beq pc 16 then js_go 20 else js_none)) else (bif Nat.ble pc 19 then (bif Nat.beq pc 19 then js_c 0 1 else js_none) else (bif Nat.beq pc 20 then js_zr else js_none)))
theorem jk_68_0 : jx_Snd 68 0 (js_il 1 1) := jo_iload_n (i := 1) (w := 1) rfl jd_68_0
theorem jk_68_1 : jx_Snd 68 1 (js_iflt 19) := jo_iflt (o := 18) rfl jd_68_1
theorem jk_68_4 : jx_Snd 68 4 (js_il 1 1) := jo_iload_n (i := 1) (w := 1) rfl jd_68_4
theorem jk_68_5 : jx_Snd 68 5 (js_al 0 1) := jo_aload_n (i := 0) (w := 0) rfl jd_68_5
theorem jk_68_6 : jx_Snd 68 6 (js_getf 5 0) := jo_getf rfl jf_5_14 jd_68_6
theorem jk_68_9 : jx_Snd 68 9 (js_getf 6 3) := jo_getf rfl jf_5_40 jd_68_9
theorem jk_68_12 : jx_Snd 68 12 (js_cge 19) := jo_cge (o := 7) rfl jd_68_12
theorem jk_68_15 : jx_Snd 68 15 (js_c 1 1) := jo_iconst (z := 1) jd_68_15 rfl
theorem jk_68_16 : jx_Snd 68 16 (js_go 20) := jo_goto (o := 4) rfl jd_68_16
theorem jk_68_19 : jx_Snd 68 19 (js_c 0 1) := jo_iconst (z := 0) jd_68_19 rfl
theorem jk_68_20 : jx_Snd 68 20 (js_zr) := jo_zr rfl jd_68_20
theorem jk_68 : jx_So 68 jt_68 := fun pc => jo_le (jo_le (jo_le (jo_le (jo_at (jk_68_0)) (jo_at (jk_68_1))) (jo_at (jk_68_4))) (jo_le (jo_le (jo_at (jk_68_5)) (jo_at (jk_68_6))) (jo_at (jk_68_9)))) (jo_le (jo_le (jo_le (jo_at (jk_68_12)) (jo_at (jk_68_15))) (jo_at (jk_68_16))) (jo_le (jo_at (jk_68_19)) (jo_at (jk_68_20))))
theorem ji_68 {l : Launch} {D : va_G} {cA : ClassId} {ρ : Nat → Nat} {Λ : List jx_Lc} {d : Nat} {Q : Option Value → jx_St → Prop} {σ : jx_St} {z0 : Nat} {a1 : Int32} (h : jt_68 0 Λ jx_tb0 (jx_rn Λ jx_tb0 jt_68 (fun k' as σ K => jx_C l D cA ρ Λ d k' as σ K) Q (jx_J l D cA ρ Λ (jx_A ρ Λ) jx_tb0 (d + 1) 68 Q) [] 400) (fun k' as σ K => jx_C l D cA ρ Λ d k' as σ K) Q 0 [(0, .ref z0), (1, .int a1)] [] σ) : jx_C l D cA ρ Λ (d + 1) 68 [.ref z0, .int a1] σ Q := jx_in jk_68 400 [] rfl (Nat.le_of_ble_eq_true rfl) h
/-! ScriptLedger$Ledger.isUnspent(I)Z -/
theorem jd_69_0 : decode prog_3_method_3_code 0 = .ok (.aload_n 0, 1) := by decide +kernel
theorem jd_69_1 : decode prog_3_method_3_code 1 = .ok (.iload_n 1, 1) := by decide +kernel
theorem jd_69_2 : decode prog_3_method_3_code 2 = .ok (.invokevirtual 44, 3) := by decide +kernel
theorem jd_69_5 : decode prog_3_method_3_code 5 = .ok (.ifCond .eq 17, 3) := by decide +kernel
theorem jd_69_8 : decode prog_3_method_3_code 8 = .ok (.aload_n 0, 1) := by decide +kernel
theorem jd_69_9 : decode prog_3_method_3_code 9 = .ok (.getfield 20, 3) := by decide +kernel
theorem jd_69_12 : decode prog_3_method_3_code 12 = .ok (.iload_n 1, 1) := by decide +kernel
theorem jd_69_13 : decode prog_3_method_3_code 13 = .ok (.iaload, 1) := by decide +kernel
theorem jd_69_14 : decode prog_3_method_3_code 14 = .ok (.iconst (-1), 1) := by decide +kernel
theorem jd_69_15 : decode prog_3_method_3_code 15 = .ok (.if_icmp .ne 7, 3) := by decide +kernel
theorem jd_69_18 : decode prog_3_method_3_code 18 = .ok (.iconst 1, 1) := by decide +kernel
theorem jd_69_19 : decode prog_3_method_3_code 19 = .ok (.goto 4, 3) := by decide +kernel
theorem jd_69_22 : decode prog_3_method_3_code 22 = .ok (.iconst 0, 1) := by decide +kernel
theorem jd_69_23 : decode prog_3_method_3_code 23 = .ok (.ireturn, 1) := by decide +kernel
def jt_69 (pc : Nat) : jx_Sp := bif Nat.ble pc 12 then (bif Nat.ble pc 5 then (bif Nat.ble pc 1 then (bif Nat.ble pc 0 then (bif Nat.beq pc 0 then js_al 0 1 else js_none) else (bif Nat.beq pc 1 then js_il 1 1 else js_none)) else (bif Nat.ble pc 2 then (bif Nat.beq pc 2 then js_v1 5 68 else js_none) else (bif Nat.beq pc 5 then js_ifeq 22 else js_none))) else (bif Nat.ble pc 9 then (bif Nat.ble pc 8 then (bif Nat.beq pc 8 then js_al 0 1 else js_none) else (bif Nat.beq pc 9 then js_getf 5 1 else js_none)) else (bif Nat.beq pc 12 then js_il 1 1 else js_none))) else (bif Nat.ble pc 18 then (bif Nat.ble pc 14 then (bif Nat.ble pc 13 then (bif Nat.beq pc 13 then js_ald else js_none) else (bif Nat.beq pc 14 then js_c (-1) 1 else js_none)) else (bif Nat.ble pc 15 then (bif Nat.beq pc 15 then js_cne 22 else js_none) else (bif Nat.beq pc 18 then js_c 1 1 else js_none))) else (bif Nat.ble pc 22 then (bif Nat.ble pc 19 then (bif Nat.beq pc 19 then js_go 23 else js_none) else (bif Nat.beq pc 22 then js_c 0 1 else js_none)) else (bif Nat.beq pc 23 then js_zr else js_none)))
theorem jk_69_0 : jx_Snd 69 0 (js_al 0 1) := jo_aload_n (i := 0) (w := 0) rfl jd_69_0
theorem jk_69_1 : jx_Snd 69 1 (js_il 1 1) := jo_iload_n (i := 1) (w := 1) rfl jd_69_1
theorem jk_69_2 : jx_Snd 69 2 (js_v1 5 68) := jo_v1 rfl jok_68 (Or.inl jw_349) jw_350 jw_351 rfl jd_69_2
theorem jk_69_5 : jx_Snd 69 5 (js_ifeq 22) := jo_ifeq (o := 17) rfl jd_69_5
theorem jk_69_8 : jx_Snd 69 8 (js_al 0 1) := jo_aload_n (i := 0) (w := 0) rfl jd_69_8
theorem jk_69_9 : jx_Snd 69 9 (js_getf 5 1) := jo_getf rfl jf_5_20 jd_69_9
theorem jk_69_12 : jx_Snd 69 12 (js_il 1 1) := jo_iload_n (i := 1) (w := 1) rfl jd_69_12
theorem jk_69_13 : jx_Snd 69 13 (js_ald) := jo_ald jd_69_13
theorem jk_69_14 : jx_Snd 69 14 (js_c (-1) 1) := jo_iconst (z := (-1)) jd_69_14 rfl
theorem jk_69_15 : jx_Snd 69 15 (js_cne 22) := jo_cne (o := 7) rfl jd_69_15
theorem jk_69_18 : jx_Snd 69 18 (js_c 1 1) := jo_iconst (z := 1) jd_69_18 rfl
theorem jk_69_19 : jx_Snd 69 19 (js_go 23) := jo_goto (o := 4) rfl jd_69_19
theorem jk_69_22 : jx_Snd 69 22 (js_c 0 1) := jo_iconst (z := 0) jd_69_22 rfl
theorem jk_69_23 : jx_Snd 69 23 (js_zr) := jo_zr rfl jd_69_23
theorem jk_69 : jx_So 69 jt_69 := fun pc => jo_le (jo_le (jo_le (jo_le (jo_at (jk_69_0)) (jo_at (jk_69_1))) (jo_le (jo_at (jk_69_2)) (jo_at (jk_69_5)))) (jo_le (jo_le (jo_at (jk_69_8)) (jo_at (jk_69_9))) (jo_at (jk_69_12)))) (jo_le (jo_le (jo_le (jo_at (jk_69_13)) (jo_at (jk_69_14))) (jo_le (jo_at (jk_69_15)) (jo_at (jk_69_18)))) (jo_le (jo_le (jo_at (jk_69_19)) (jo_at (jk_69_22))) (jo_at (jk_69_23))))
theorem ji_69 {l : Launch} {D : va_G} {cA : ClassId} {ρ : Nat → Nat} {Λ : List jx_Lc} {d : Nat} {Q : Option Value → jx_St → Prop} {σ : jx_St} {z0 : Nat} {a1 : Int32} (h : jt_69 0 Λ jx_tb0 (jx_rn Λ jx_tb0 jt_69 (fun k' as σ K => jx_C l D cA ρ Λ d k' as σ K) Q (jx_J l D cA ρ Λ (jx_A ρ Λ) jx_tb0 (d + 1) 69 Q) [] 400) (fun k' as σ K => jx_C l D cA ρ Λ d k' as σ K) Q 0 [(0, .ref z0), (1, .int a1)] [] σ) : jx_C l D cA ρ Λ (d + 1) 69 [.ref z0, .int a1] σ Q := jx_in jk_69 400 [] rfl (Nat.le_of_ble_eq_true rfl) h
/-! ScriptLedger$Ledger.markSpent(I)V -/
theorem jd_70_0 : decode prog_3_method_4_code 0 = .ok (.aload_n 0, 1) := by decide +kernel
theorem jd_70_1 : decode prog_3_method_4_code 1 = .ok (.iload_n 1, 1) := by decide +kernel
theorem jd_70_2 : decode prog_3_method_4_code 2 = .ok (.invokevirtual 44, 3) := by decide +kernel
theorem jd_70_5 : decode prog_3_method_4_code 5 = .ok (.ifCond .eq 13, 3) := by decide +kernel
theorem jd_70_8 : decode prog_3_method_4_code 8 = .ok (.aload_n 0, 1) := by decide +kernel
theorem jd_70_9 : decode prog_3_method_4_code 9 = .ok (.getfield 20, 3) := by decide +kernel
theorem jd_70_12 : decode prog_3_method_4_code 12 = .ok (.iload_n 1, 1) := by decide +kernel
theorem jd_70_13 : decode prog_3_method_4_code 13 = .ok (.aload_n 0, 1) := by decide +kernel
theorem jd_70_14 : decode prog_3_method_4_code 14 = .ok (.getfield 48, 3) := by decide +kernel
theorem jd_70_17 : decode prog_3_method_4_code 17 = .ok (.iastore, 1) := by decide +kernel
theorem jd_70_18 : decode prog_3_method_4_code 18 = .ok (.return_, 1) := by decide +kernel
def jt_70 (pc : Nat) : jx_Sp := bif Nat.ble pc 9 then (bif Nat.ble pc 2 then (bif Nat.ble pc 1 then (bif Nat.ble pc 0 then (bif Nat.beq pc 0 then js_al 0 1 else js_none) else (bif Nat.beq pc 1 then js_il 1 1 else js_none)) else (bif Nat.beq pc 2 then js_v1 5 68 else js_none)) else (bif Nat.ble pc 8 then (bif Nat.ble pc 5 then (bif Nat.beq pc 5 then js_ifeq 18 else js_none) else (bif Nat.beq pc 8 then js_al 0 1 else js_none)) else (bif Nat.beq pc 9 then js_getf 5 1 else js_none))) else (bif Nat.ble pc 14 then (bif Nat.ble pc 13 then (bif Nat.ble pc 12 then (bif Nat.beq pc 12 then js_il 1 1 else js_none) else (bif Nat.beq pc 13 then js_al 0 1 else js_none)) else (bif Nat.beq pc 14 then js_getf 5 5 else js_none)) else (bif Nat.ble pc 17 then (bif Nat.beq pc 17 then js_ast else js_none) else (bif Nat.beq pc 18 then js_vr else js_none)))
theorem jk_70_0 : jx_Snd 70 0 (js_al 0 1) := jo_aload_n (i := 0) (w := 0) rfl jd_70_0
theorem jk_70_1 : jx_Snd 70 1 (js_il 1 1) := jo_iload_n (i := 1) (w := 1) rfl jd_70_1
theorem jk_70_2 : jx_Snd 70 2 (js_v1 5 68) := jo_v1 rfl jok_68 (Or.inl jw_349) jw_350 jw_351 rfl jd_70_2
theorem jk_70_5 : jx_Snd 70 5 (js_ifeq 18) := jo_ifeq (o := 13) rfl jd_70_5
theorem jk_70_8 : jx_Snd 70 8 (js_al 0 1) := jo_aload_n (i := 0) (w := 0) rfl jd_70_8
theorem jk_70_9 : jx_Snd 70 9 (js_getf 5 1) := jo_getf rfl jf_5_20 jd_70_9
theorem jk_70_12 : jx_Snd 70 12 (js_il 1 1) := jo_iload_n (i := 1) (w := 1) rfl jd_70_12
theorem jk_70_13 : jx_Snd 70 13 (js_al 0 1) := jo_aload_n (i := 0) (w := 0) rfl jd_70_13
theorem jk_70_14 : jx_Snd 70 14 (js_getf 5 5) := jo_getf rfl jf_5_48 jd_70_14
theorem jk_70_17 : jx_Snd 70 17 (js_ast) := jo_ast jd_70_17
theorem jk_70_18 : jx_Snd 70 18 (js_vr) := jo_vr rfl jd_70_18
theorem jk_70 : jx_So 70 jt_70 := fun pc => jo_le (jo_le (jo_le (jo_le (jo_at (jk_70_0)) (jo_at (jk_70_1))) (jo_at (jk_70_2))) (jo_le (jo_le (jo_at (jk_70_5)) (jo_at (jk_70_8))) (jo_at (jk_70_9)))) (jo_le (jo_le (jo_le (jo_at (jk_70_12)) (jo_at (jk_70_13))) (jo_at (jk_70_14))) (jo_le (jo_at (jk_70_17)) (jo_at (jk_70_18))))
theorem ji_70 {l : Launch} {D : va_G} {cA : ClassId} {ρ : Nat → Nat} {Λ : List jx_Lc} {d : Nat} {Q : Option Value → jx_St → Prop} {σ : jx_St} {z0 : Nat} {a1 : Int32} (h : jt_70 0 Λ jx_tb0 (jx_rn Λ jx_tb0 jt_70 (fun k' as σ K => jx_C l D cA ρ Λ d k' as σ K) Q (jx_J l D cA ρ Λ (jx_A ρ Λ) jx_tb0 (d + 1) 70 Q) [] 400) (fun k' as σ K => jx_C l D cA ρ Λ d k' as σ K) Q 0 [(0, .ref z0), (1, .int a1)] [] σ) : jx_C l D cA ρ Λ (d + 1) 70 [.ref z0, .int a1] σ Q := jx_in jk_70 400 [] rfl (Nat.le_of_ble_eq_true rfl) h
/-! ScriptLedger$Ledger.addFrom(LScriptLedger$OutputRow;I)V -/
theorem jd_71_0 : decode prog_3_method_5_code 0 = .ok (.aload_n 0, 1) := by decide +kernel
theorem jd_71_1 : decode prog_3_method_5_code 1 = .ok (.getfield 14, 3) := by decide +kernel
theorem jd_71_4 : decode prog_3_method_5_code 4 = .ok (.iconst 1, 1) := by decide +kernel
theorem jd_71_5 : decode prog_3_method_5_code 5 = .ok (.invokevirtual 51, 3) := by decide +kernel
theorem jd_71_8 : decode prog_3_method_5_code 8 = .ok (.ifCond .ne 4, 3) := by decide +kernel
theorem jd_71_11 : decode prog_3_method_5_code 11 = .ok (.return_, 1) := by decide +kernel
theorem jd_71_12 : decode prog_3_method_5_code 12 = .ok (.aload_n 0, 1) := by decide +kernel
theorem jd_71_13 : decode prog_3_method_5_code 13 = .ok (.getfield 20, 3) := by decide +kernel
theorem jd_71_16 : decode prog_3_method_5_code 16 = .ok (.aload_n 0, 1) := by decide +kernel
theorem jd_71_17 : decode prog_3_method_5_code 17 = .ok (.getfield 14, 3) := by decide +kernel
theorem jd_71_20 : decode prog_3_method_5_code 20 = .ok (.getfield 40, 3) := by decide +kernel
theorem jd_71_23 : decode prog_3_method_5_code 23 = .ok (.iconst (-1), 1) := by decide +kernel
theorem jd_71_24 : decode prog_3_method_5_code 24 = .ok (.iastore, 1) := by decide +kernel
theorem jd_71_25 : decode prog_3_method_5_code 25 = .ok (.aload_n 0, 1) := by decide +kernel
theorem jd_71_26 : decode prog_3_method_5_code 26 = .ok (.getfield 14, 3) := by decide +kernel
theorem jd_71_29 : decode prog_3_method_5_code 29 = .ok (.aload_n 1, 1) := by decide +kernel
theorem jd_71_30 : decode prog_3_method_5_code 30 = .ok (.getfield 54, 3) := by decide +kernel
theorem jd_71_33 : decode prog_3_method_5_code 33 = .ok (.iload_n 2, 1) := by decide +kernel
theorem jd_71_34 : decode prog_3_method_5_code 34 = .ok (.iaload, 1) := by decide +kernel
theorem jd_71_35 : decode prog_3_method_5_code 35 = .ok (.aload_n 1, 1) := by decide +kernel
theorem jd_71_36 : decode prog_3_method_5_code 36 = .ok (.getfield 57, 3) := by decide +kernel
theorem jd_71_39 : decode prog_3_method_5_code 39 = .ok (.iload_n 2, 1) := by decide +kernel
theorem jd_71_40 : decode prog_3_method_5_code 40 = .ok (.iaload, 1) := by decide +kernel
theorem jd_71_41 : decode prog_3_method_5_code 41 = .ok (.aload_n 1, 1) := by decide +kernel
theorem jd_71_42 : decode prog_3_method_5_code 42 = .ok (.iload_n 2, 1) := by decide +kernel
theorem jd_71_43 : decode prog_3_method_5_code 43 = .ok (.iconst 0, 1) := by decide +kernel
theorem jd_71_44 : decode prog_3_method_5_code 44 = .ok (.invokevirtual 60, 3) := by decide +kernel
theorem jd_71_47 : decode prog_3_method_5_code 47 = .ok (.aload_n 1, 1) := by decide +kernel
theorem jd_71_48 : decode prog_3_method_5_code 48 = .ok (.iload_n 2, 1) := by decide +kernel
theorem jd_71_49 : decode prog_3_method_5_code 49 = .ok (.iconst 1, 1) := by decide +kernel
theorem jd_71_50 : decode prog_3_method_5_code 50 = .ok (.invokevirtual 60, 3) := by decide +kernel
theorem jd_71_53 : decode prog_3_method_5_code 53 = .ok (.aload_n 1, 1) := by decide +kernel
theorem jd_71_54 : decode prog_3_method_5_code 54 = .ok (.iload_n 2, 1) := by decide +kernel
theorem jd_71_55 : decode prog_3_method_5_code 55 = .ok (.iconst 2, 1) := by decide +kernel
theorem jd_71_56 : decode prog_3_method_5_code 56 = .ok (.invokevirtual 60, 3) := by decide +kernel
theorem jd_71_59 : decode prog_3_method_5_code 59 = .ok (.invokevirtual 36, 3) := by decide +kernel
theorem jd_71_62 : decode prog_3_method_5_code 62 = .ok (.return_, 1) := by decide +kernel
def jt_71 (pc : Nat) : jx_Sp := bif Nat.ble pc 34 then (bif Nat.ble pc 17 then (bif Nat.ble pc 8 then (bif Nat.ble pc 4 then (bif Nat.ble pc 1 then (bif Nat.ble pc 0 then (bif Nat.beq pc 0 then js_al 0 1 else js_none) else (bif Nat.beq pc 1 then js_getf 5 0 else js_none)) else (bif Nat.beq pc 4 then js_c 1 1 else js_none)) else (bif Nat.ble pc 5 then (bif Nat.beq pc 5 then js_v1 6 77 else js_none) else (bif Nat.beq pc 8 then js_ifne 12 else js_none))) else (bif Nat.ble pc 13 then (bif Nat.ble pc 12 then (bif Nat.ble pc 11 then (bif Nat.beq pc 11 then js_vr else js_none) else (bif Nat.beq pc 12 then js_al 0 1 else js_none)) else (bif Nat.beq pc 13 then js_getf 5 1 else js_none)) else (bif Nat.ble pc 16 then (bif Nat.beq pc 16 then js_al 0 1 else js_none) else (bif Nat.beq pc 17 then js_getf 5 0 else js_none)))) else (bif Nat.ble pc 26 then (bif Nat.ble pc 24 then (bif Nat.ble pc 23 then (bif Nat.ble pc 20 then (bif Nat.beq pc 20 then js_getf 6 3 else js_none) else (bif Nat.beq pc 23 then js_c (-1) 1 else js_none)) else (bif Nat.beq pc 24 then js_ast else js_none)) else (bif Nat.ble pc 25 then (bif Nat.beq pc 25 then js_al 0 1 else js_none) else (bif Nat.beq pc 26 then js_getf 5 0 else js_none))) else (bif Nat.ble pc 30 then (bif Nat.ble pc 29 then (bif Nat.beq pc 29 then js_al 1 1 else js_none) else (bif Nat.beq pc 30 then js_getf 6 0 else js_none)) else (bif Nat.ble pc 33 then (bif Nat.beq pc 33 then js_il 2 1 else js_none) else (bif Nat.beq pc 34 then js_ald else js_none))))) else (bif Nat.ble pc 47 then (bif Nat.ble pc 41 then (bif Nat.ble pc 39 then (bif Nat.ble pc 36 then (bif Nat.ble pc 35 then (bif Nat.beq pc 35 then js_al 1 1 else js_none) else (bif Nat.beq pc 36 then js_getf 6 1 else js_none)) else (bif Nat.beq pc 39 then js_il 2 1 else js_none)) else (bif Nat.ble pc 40 then (bif Nat.beq pc 40 then js_ald else js_none) else (bif Nat.beq pc 41 then js_al 1 1 else js_none))) else (bif Nat.ble pc 43 then (bif Nat.ble pc 42 then (bif Nat.beq pc 42 then js_il 2 1 else js_none) else (bif Nat.beq pc 43 then js_c 0 1 else js_none)) else (bif Nat.ble pc 44 then (bif Nat.beq pc 44 then js_v2 6 79 else js_none) else (bif Nat.beq pc 47 then js_al 1 1 else js_none)))) else (bif Nat.ble pc 54 then (bif Nat.ble pc 50 then (bif Nat.ble pc 49 then (bif Nat.ble pc 48 then (bif Nat.beq pc 48 then js_il 2 1 else js_none) else (bif Nat.beq pc 49 then js_c 1 1 else js_none)) else (bif Nat.beq pc 50 then js_v2 6 79 else js_none)) else (bif Nat.ble pc 53 then (bif Nat.beq pc 53 then js_al 1 1 else js_none) else (bif Nat.beq pc 54 then js_il 2 1 else js_none))) else (bif Nat.ble pc 56 then (bif Nat.ble pc 55 then (bif Nat.beq pc 55 then js_c 2 1 else js_none) else (bif Nat.beq pc 56 then js_v2 6 79 else js_none)) else (bif Nat.ble pc 59 then (bif Nat.beq pc 59 then js_v5 6 78 else js_none) else (bif Nat.beq pc 62 then js_vr else js_none)))))
theorem jk_71_0 : jx_Snd 71 0 (js_al 0 1) := jo_aload_n (i := 0) (w := 0) rfl jd_71_0
theorem jk_71_1 : jx_Snd 71 1 (js_getf 5 0) := jo_getf rfl jf_5_14 jd_71_1
theorem jk_71_4 : jx_Snd 71 4 (js_c 1 1) := jo_iconst (z := 1) jd_71_4 rfl
theorem jk_71_5 : jx_Snd 71 5 (js_v1 6 77) := jo_v1 rfl jok_77 (Or.inl jw_408) jw_110 jw_111 rfl jd_71_5
theorem jk_71_8 : jx_Snd 71 8 (js_ifne 12) := jo_ifne (o := 4) rfl jd_71_8
theorem jk_71_11 : jx_Snd 71 11 (js_vr) := jo_vr rfl jd_71_11
theorem jk_71_12 : jx_Snd 71 12 (js_al 0 1) := jo_aload_n (i := 0) (w := 0) rfl jd_71_12
theorem jk_71_13 : jx_Snd 71 13 (js_getf 5 1) := jo_getf rfl jf_5_20 jd_71_13
theorem jk_71_16 : jx_Snd 71 16 (js_al 0 1) := jo_aload_n (i := 0) (w := 0) rfl jd_71_16
theorem jk_71_17 : jx_Snd 71 17 (js_getf 5 0) := jo_getf rfl jf_5_14 jd_71_17
theorem jk_71_20 : jx_Snd 71 20 (js_getf 6 3) := jo_getf rfl jf_5_40 jd_71_20
theorem jk_71_23 : jx_Snd 71 23 (js_c (-1) 1) := jo_iconst (z := (-1)) jd_71_23 rfl
theorem jk_71_24 : jx_Snd 71 24 (js_ast) := jo_ast jd_71_24
theorem jk_71_25 : jx_Snd 71 25 (js_al 0 1) := jo_aload_n (i := 0) (w := 0) rfl jd_71_25
theorem jk_71_26 : jx_Snd 71 26 (js_getf 5 0) := jo_getf rfl jf_5_14 jd_71_26
theorem jk_71_29 : jx_Snd 71 29 (js_al 1 1) := jo_aload_n (i := 1) (w := 1) rfl jd_71_29
theorem jk_71_30 : jx_Snd 71 30 (js_getf 6 0) := jo_getf rfl jf_5_54 jd_71_30
theorem jk_71_33 : jx_Snd 71 33 (js_il 2 1) := jo_iload_n (i := 2) (w := 2) rfl jd_71_33
theorem jk_71_34 : jx_Snd 71 34 (js_ald) := jo_ald jd_71_34
theorem jk_71_35 : jx_Snd 71 35 (js_al 1 1) := jo_aload_n (i := 1) (w := 1) rfl jd_71_35
theorem jk_71_36 : jx_Snd 71 36 (js_getf 6 1) := jo_getf rfl jf_5_57 jd_71_36
theorem jk_71_39 : jx_Snd 71 39 (js_il 2 1) := jo_iload_n (i := 2) (w := 2) rfl jd_71_39
theorem jk_71_40 : jx_Snd 71 40 (js_ald) := jo_ald jd_71_40
theorem jk_71_41 : jx_Snd 71 41 (js_al 1 1) := jo_aload_n (i := 1) (w := 1) rfl jd_71_41
theorem jk_71_42 : jx_Snd 71 42 (js_il 2 1) := jo_iload_n (i := 2) (w := 2) rfl jd_71_42
theorem jk_71_43 : jx_Snd 71 43 (js_c 0 1) := jo_iconst (z := 0) jd_71_43 rfl
theorem jk_71_44 : jx_Snd 71 44 (js_v2 6 79) := jo_v2 rfl jok_79 (Or.inl jw_409) jw_364 jw_365 rfl jd_71_44
theorem jk_71_47 : jx_Snd 71 47 (js_al 1 1) := jo_aload_n (i := 1) (w := 1) rfl jd_71_47
theorem jk_71_48 : jx_Snd 71 48 (js_il 2 1) := jo_iload_n (i := 2) (w := 2) rfl jd_71_48
theorem jk_71_49 : jx_Snd 71 49 (js_c 1 1) := jo_iconst (z := 1) jd_71_49 rfl
theorem jk_71_50 : jx_Snd 71 50 (js_v2 6 79) := jo_v2 rfl jok_79 (Or.inl jw_409) jw_364 jw_365 rfl jd_71_50
theorem jk_71_53 : jx_Snd 71 53 (js_al 1 1) := jo_aload_n (i := 1) (w := 1) rfl jd_71_53
theorem jk_71_54 : jx_Snd 71 54 (js_il 2 1) := jo_iload_n (i := 2) (w := 2) rfl jd_71_54
theorem jk_71_55 : jx_Snd 71 55 (js_c 2 1) := jo_iconst (z := 2) jd_71_55 rfl
theorem jk_71_56 : jx_Snd 71 56 (js_v2 6 79) := jo_v2 rfl jok_79 (Or.inl jw_409) jw_364 jw_365 rfl jd_71_56
theorem jk_71_59 : jx_Snd 71 59 (js_v5 6 78) := jo_v5 rfl jok_78 (Or.inl jw_105) jw_106 jw_107 rfl jd_71_59
theorem jk_71_62 : jx_Snd 71 62 (js_vr) := jo_vr rfl jd_71_62
theorem jk_71 : jx_So 71 jt_71 := fun pc => jo_le (jo_le (jo_le (jo_le (jo_le (jo_le (jo_at (jk_71_0)) (jo_at (jk_71_1))) (jo_at (jk_71_4))) (jo_le (jo_at (jk_71_5)) (jo_at (jk_71_8)))) (jo_le (jo_le (jo_le (jo_at (jk_71_11)) (jo_at (jk_71_12))) (jo_at (jk_71_13))) (jo_le (jo_at (jk_71_16)) (jo_at (jk_71_17))))) (jo_le (jo_le (jo_le (jo_le (jo_at (jk_71_20)) (jo_at (jk_71_23))) (jo_at (jk_71_24))) (jo_le (jo_at (jk_71_25)) (jo_at (jk_71_26)))) (jo_le (jo_le (jo_at (jk_71_29)) (jo_at (jk_71_30))) (jo_le (jo_at (jk_71_33)) (jo_at (jk_71_34)))))) (jo_le (jo_le (jo_le (jo_le (jo_le (jo_at (jk_71_35)) (jo_at (jk_71_36))) (jo_at (jk_71_39))) (jo_le (jo_at (jk_71_40)) (jo_at (jk_71_41)))) (jo_le (jo_le (jo_at (jk_71_42)) (jo_at (jk_71_43))) (jo_le (jo_at (jk_71_44)) (jo_at (jk_71_47))))) (jo_le (jo_le (jo_le (jo_le (jo_at (jk_71_48)) (jo_at (jk_71_49))) (jo_at (jk_71_50))) (jo_le (jo_at (jk_71_53)) (jo_at (jk_71_54)))) (jo_le (jo_le (jo_at (jk_71_55)) (jo_at (jk_71_56))) (jo_le (jo_at (jk_71_59)) (jo_at (jk_71_62))))))
theorem ji_71 {l : Launch} {D : va_G} {cA : ClassId} {ρ : Nat → Nat} {Λ : List jx_Lc} {d : Nat} {Q : Option Value → jx_St → Prop} {σ : jx_St} {z0 : Nat} {a1 : Nat} {a2 : Int32} (h : jt_71 0 Λ jx_tb0 (jx_rn Λ jx_tb0 jt_71 (fun k' as σ K => jx_C l D cA ρ Λ d k' as σ K) Q (jx_J l D cA ρ Λ (jx_A ρ Λ) jx_tb0 (d + 1) 71 Q) [] 400) (fun k' as σ K => jx_C l D cA ρ Λ d k' as σ K) Q 0 [(0, .ref z0), (1, .ref a1), (2, .int a2)] [] σ) : jx_C l D cA ρ Λ (d + 1) 71 [.ref z0, .ref a1, .int a2] σ Q := jx_in jk_71 400 [] rfl (Nat.le_of_ble_eq_true rfl) h
/-! ScriptLedger$Ledger.seize(I)V -/
theorem jd_72_0 : decode prog_3_method_6_code 0 = .ok (.aload_n 0, 1) := by decide +kernel
theorem jd_72_1 : decode prog_3_method_6_code 1 = .ok (.iload_n 1, 1) := by decide +kernel
theorem jd_72_2 : decode prog_3_method_6_code 2 = .ok (.invokevirtual 44, 3) := by decide +kernel
theorem jd_72_5 : decode prog_3_method_6_code 5 = .ok (.ifCond .eq 26, 3) := by decide +kernel
theorem jd_72_8 : decode prog_3_method_6_code 8 = .ok (.aload_n 0, 1) := by decide +kernel
theorem jd_72_9 : decode prog_3_method_6_code 9 = .ok (.iload_n 1, 1) := by decide +kernel
theorem jd_72_10 : decode prog_3_method_6_code 10 = .ok (.invokevirtual 63, 3) := by decide +kernel
theorem jd_72_13 : decode prog_3_method_6_code 13 = .ok (.aload_n 0, 1) := by decide +kernel
theorem jd_72_14 : decode prog_3_method_6_code 14 = .ok (.dup, 1) := by decide +kernel
theorem jd_72_15 : decode prog_3_method_6_code 15 = .ok (.getfield 66, 3) := by decide +kernel
theorem jd_72_18 : decode prog_3_method_6_code 18 = .ok (.aload_n 0, 1) := by decide +kernel
theorem jd_72_19 : decode prog_3_method_6_code 19 = .ok (.getfield 14, 3) := by decide +kernel
theorem jd_72_22 : decode prog_3_method_6_code 22 = .ok (.iload_n 1, 1) := by decide +kernel
theorem jd_72_23 : decode prog_3_method_6_code 23 = .ok (.iconst 0, 1) := by decide +kernel
theorem jd_72_24 : decode prog_3_method_6_code 24 = .ok (.invokevirtual 60, 3) := by decide +kernel
theorem jd_72_27 : decode prog_3_method_6_code 27 = .ok (.iadd, 1) := by decide +kernel
theorem jd_72_28 : decode prog_3_method_6_code 28 = .ok (.putfield 66, 3) := by decide +kernel
theorem jd_72_31 : decode prog_3_method_6_code 31 = .ok (.return_, 1) := by decide +kernel
def jt_72 (pc : Nat) : jx_Sp := bif Nat.ble pc 14 then (bif Nat.ble pc 8 then (bif Nat.ble pc 2 then (bif Nat.ble pc 1 then (bif Nat.ble pc 0 then (bif Nat.beq pc 0 then js_al 0 1 else js_none) else (bif Nat.beq pc 1 then js_il 1 1 else js_none)) else (bif Nat.beq pc 2 then js_v1 5 68 else js_none)) else (bif Nat.ble pc 5 then (bif Nat.beq pc 5 then js_ifeq 31 else js_none) else (bif Nat.beq pc 8 then js_al 0 1 else js_none))) else (bif Nat.ble pc 10 then (bif Nat.ble pc 9 then (bif Nat.beq pc 9 then js_il 1 1 else js_none) else (bif Nat.beq pc 10 then js_v1 5 70 else js_none)) else (bif Nat.ble pc 13 then (bif Nat.beq pc 13 then js_al 0 1 else js_none) else (bif Nat.beq pc 14 then js_dup else js_none)))) else (bif Nat.ble pc 23 then (bif Nat.ble pc 19 then (bif Nat.ble pc 18 then (bif Nat.ble pc 15 then (bif Nat.beq pc 15 then js_getf 5 4 else js_none) else (bif Nat.beq pc 18 then js_al 0 1 else js_none)) else (bif Nat.beq pc 19 then js_getf 5 0 else js_none)) else (bif Nat.ble pc 22 then (bif Nat.beq pc 22 then js_il 1 1 else js_none) else (bif Nat.beq pc 23 then js_c 0 1 else js_none))) else (bif Nat.ble pc 27 then (bif Nat.ble pc 24 then (bif Nat.beq pc 24 then js_v2 6 79 else js_none) else (bif Nat.beq pc 27 then js_iadd else js_none)) else (bif Nat.ble pc 28 then (bif Nat.beq pc 28 then js_putf 5 4 false else js_none) else (bif Nat.beq pc 31 then js_vr else js_none))))
theorem jk_72_0 : jx_Snd 72 0 (js_al 0 1) := jo_aload_n (i := 0) (w := 0) rfl jd_72_0
theorem jk_72_1 : jx_Snd 72 1 (js_il 1 1) := jo_iload_n (i := 1) (w := 1) rfl jd_72_1
theorem jk_72_2 : jx_Snd 72 2 (js_v1 5 68) := jo_v1 rfl jok_68 (Or.inl jw_349) jw_350 jw_351 rfl jd_72_2
theorem jk_72_5 : jx_Snd 72 5 (js_ifeq 31) := jo_ifeq (o := 26) rfl jd_72_5
theorem jk_72_8 : jx_Snd 72 8 (js_al 0 1) := jo_aload_n (i := 0) (w := 0) rfl jd_72_8
theorem jk_72_9 : jx_Snd 72 9 (js_il 1 1) := jo_iload_n (i := 1) (w := 1) rfl jd_72_9
theorem jk_72_10 : jx_Snd 72 10 (js_v1 5 70) := jo_v1 rfl jok_70 (Or.inl jw_414) jw_401 jw_402 rfl jd_72_10
theorem jk_72_13 : jx_Snd 72 13 (js_al 0 1) := jo_aload_n (i := 0) (w := 0) rfl jd_72_13
theorem jk_72_14 : jx_Snd 72 14 (js_dup) := jo_dup jd_72_14
theorem jk_72_15 : jx_Snd 72 15 (js_getf 5 4) := jo_getf rfl jf_5_66 jd_72_15
theorem jk_72_18 : jx_Snd 72 18 (js_al 0 1) := jo_aload_n (i := 0) (w := 0) rfl jd_72_18
theorem jk_72_19 : jx_Snd 72 19 (js_getf 5 0) := jo_getf rfl jf_5_14 jd_72_19
theorem jk_72_22 : jx_Snd 72 22 (js_il 1 1) := jo_iload_n (i := 1) (w := 1) rfl jd_72_22
theorem jk_72_23 : jx_Snd 72 23 (js_c 0 1) := jo_iconst (z := 0) jd_72_23 rfl
theorem jk_72_24 : jx_Snd 72 24 (js_v2 6 79) := jo_v2 rfl jok_79 (Or.inl jw_409) jw_364 jw_365 rfl jd_72_24
theorem jk_72_27 : jx_Snd 72 27 (js_iadd) := jo_iadd jd_72_27
theorem jk_72_28 : jx_Snd 72 28 (js_putf 5 4 false) := jo_putf (z := false) rfl jf_5_66 (fun C T N h => by cases h; rfl) jd_72_28
theorem jk_72_31 : jx_Snd 72 31 (js_vr) := jo_vr rfl jd_72_31
theorem jk_72 : jx_So 72 jt_72 := fun pc => jo_le (jo_le (jo_le (jo_le (jo_le (jo_at (jk_72_0)) (jo_at (jk_72_1))) (jo_at (jk_72_2))) (jo_le (jo_at (jk_72_5)) (jo_at (jk_72_8)))) (jo_le (jo_le (jo_at (jk_72_9)) (jo_at (jk_72_10))) (jo_le (jo_at (jk_72_13)) (jo_at (jk_72_14))))) (jo_le (jo_le (jo_le (jo_le (jo_at (jk_72_15)) (jo_at (jk_72_18))) (jo_at (jk_72_19))) (jo_le (jo_at (jk_72_22)) (jo_at (jk_72_23)))) (jo_le (jo_le (jo_at (jk_72_24)) (jo_at (jk_72_27))) (jo_le (jo_at (jk_72_28)) (jo_at (jk_72_31)))))
theorem ji_72 {l : Launch} {D : va_G} {cA : ClassId} {ρ : Nat → Nat} {Λ : List jx_Lc} {d : Nat} {Q : Option Value → jx_St → Prop} {σ : jx_St} {z0 : Nat} {a1 : Int32} (h : jt_72 0 Λ jx_tb0 (jx_rn Λ jx_tb0 jt_72 (fun k' as σ K => jx_C l D cA ρ Λ d k' as σ K) Q (jx_J l D cA ρ Λ (jx_A ρ Λ) jx_tb0 (d + 1) 72 Q) [] 400) (fun k' as σ K => jx_C l D cA ρ Λ d k' as σ K) Q 0 [(0, .ref z0), (1, .int a1)] [] σ) : jx_C l D cA ρ Λ (d + 1) 72 [.ref z0, .int a1] σ Q := jx_in jk_72 400 [] rfl (Nat.le_of_ble_eq_true rfl) h
/-! ScriptLedger$Ledger.sumUnspent(I)I -/
theorem jd_73_0 : decode prog_3_method_7_code 0 = .ok (.iconst 0, 1) := by decide +kernel
theorem jd_73_1 : decode prog_3_method_7_code 1 = .ok (.istore_n 2, 1) := by decide +kernel
theorem jd_73_2 : decode prog_3_method_7_code 2 = .ok (.iconst 0, 1) := by decide +kernel
theorem jd_73_3 : decode prog_3_method_7_code 3 = .ok (.istore_n 3, 1) := by decide +kernel
theorem jd_73_4 : decode prog_3_method_7_code 4 = .ok (.iload_n 3, 1) := by decide +kernel
theorem jd_73_5 : decode prog_3_method_7_code 5 = .ok (.aload_n 0, 1) := by decide +kernel
theorem jd_73_6 : decode prog_3_method_7_code 6 = .ok (.getfield 14, 3) := by decide +kernel
theorem jd_73_9 : decode prog_3_method_7_code 9 = .ok (.getfield 40, 3) := by decide +kernel
theorem jd_73_12 : decode prog_3_method_7_code 12 = .ok (.if_icmp .ge 29, 3) := by decide +kernel
theorem jd_73_15 : decode prog_3_method_7_code 15 = .ok (.aload_n 0, 1) := by decide +kernel
theorem jd_73_16 : decode prog_3_method_7_code 16 = .ok (.iload_n 3, 1) := by decide +kernel
theorem jd_73_17 : decode prog_3_method_7_code 17 = .ok (.invokevirtual 69, 3) := by decide +kernel
theorem jd_73_20 : decode prog_3_method_7_code 20 = .ok (.ifCond .eq 15, 3) := by decide +kernel
theorem jd_73_23 : decode prog_3_method_7_code 23 = .ok (.iload_n 2, 1) := by decide +kernel
theorem jd_73_24 : decode prog_3_method_7_code 24 = .ok (.aload_n 0, 1) := by decide +kernel
theorem jd_73_25 : decode prog_3_method_7_code 25 = .ok (.getfield 14, 3) := by decide +kernel
theorem jd_73_28 : decode prog_3_method_7_code 28 = .ok (.iload_n 3, 1) := by decide +kernel
theorem jd_73_29 : decode prog_3_method_7_code 29 = .ok (.iload_n 1, 1) := by decide +kernel
theorem jd_73_30 : decode prog_3_method_7_code 30 = .ok (.invokevirtual 60, 3) := by decide +kernel
theorem jd_73_33 : decode prog_3_method_7_code 33 = .ok (.iadd, 1) := by decide +kernel
theorem jd_73_34 : decode prog_3_method_7_code 34 = .ok (.istore_n 2, 1) := by decide +kernel
theorem jd_73_35 : decode prog_3_method_7_code 35 = .ok (.iinc 3 1, 3) := by decide +kernel
theorem jd_73_38 : decode prog_3_method_7_code 38 = .ok (.goto (-34), 3) := by decide +kernel
theorem jd_73_41 : decode prog_3_method_7_code 41 = .ok (.iload_n 2, 1) := by decide +kernel
theorem jd_73_42 : decode prog_3_method_7_code 42 = .ok (.ireturn, 1) := by decide +kernel
def jt_73 (pc : Nat) : jx_Sp := bif Nat.ble pc 20 then (bif Nat.ble pc 6 then (bif Nat.ble pc 3 then (bif Nat.ble pc 1 then (bif Nat.ble pc 0 then (bif Nat.beq pc 0 then js_c 0 1 else js_none) else (bif Nat.beq pc 1 then js_is 2 1 else js_none)) else (bif Nat.ble pc 2 then (bif Nat.beq pc 2 then js_c 0 1 else js_none) else (bif Nat.beq pc 3 then js_is 3 1 else js_none))) else (bif Nat.ble pc 5 then (bif Nat.ble pc 4 then (bif Nat.beq pc 4 then js_il 3 1 else js_none) else (bif Nat.beq pc 5 then js_al 0 1 else js_none)) else (bif Nat.beq pc 6 then js_getf 5 0 else js_none))) else (bif Nat.ble pc 15 then (bif Nat.ble pc 12 then (bif Nat.ble pc 9 then (bif Nat.beq pc 9 then js_getf 6 3 else js_none) else (bif Nat.beq pc 12 then js_cge 41 else js_none)) else (bif Nat.beq pc 15 then js_al 0 1 else js_none)) else (bif Nat.ble pc 17 then (bif Nat.ble pc 16 then (bif Nat.beq pc 16 then js_il 3 1 else js_none) else (bif Nat.beq pc 17 then js_v1 5 69 else js_none)) else (bif Nat.beq pc 20 then js_ifeq 35 else js_none)))) else (bif Nat.ble pc 30 then (bif Nat.ble pc 25 then (bif Nat.ble pc 24 then (bif Nat.ble pc 23 then (bif Nat.beq pc 23 then js_il 2 1 else js_none) else (bif Nat.beq pc 24 then js_al 0 1 else js_none)) else (bif Nat.beq pc 25 then js_getf 5 0 else js_none)) else (bif Nat.ble pc 29 then (bif Nat.ble pc 28 then (bif Nat.beq pc 28 then js_il 3 1 else js_none) else (bif Nat.beq pc 29 then js_il 1 1 else js_none)) else (bif Nat.beq pc 30 then js_v2 6 79 else js_none))) else (bif Nat.ble pc 35 then (bif Nat.ble pc 34 then (bif Nat.ble pc 33 then (bif Nat.beq pc 33 then js_iadd else js_none) else (bif Nat.beq pc 34 then js_is 2 1 else js_none)) else (bif Nat.beq pc 35 then js_inc 3 1 else js_none)) else (bif Nat.ble pc 41 then (bif Nat.ble pc 38 then (bif Nat.beq pc 38 then js_go 4 else js_none) else (bif Nat.beq pc 41 then js_il 2 1 else js_none)) else (bif Nat.beq pc 42 then js_ir else js_none))))
theorem jk_73_0 : jx_Snd 73 0 (js_c 0 1) := jo_iconst (z := 0) jd_73_0 rfl
theorem jk_73_1 : jx_Snd 73 1 (js_is 2 1) := jo_istore_n (i := 2) (w := 2) rfl (Nat.le_of_ble_eq_true rfl) jd_73_1
theorem jk_73_2 : jx_Snd 73 2 (js_c 0 1) := jo_iconst (z := 0) jd_73_2 rfl
theorem jk_73_3 : jx_Snd 73 3 (js_is 3 1) := jo_istore_n (i := 3) (w := 3) rfl (Nat.le_of_ble_eq_true rfl) jd_73_3
theorem jk_73_4 : jx_Snd 73 4 (js_il 3 1) := jo_iload_n (i := 3) (w := 3) rfl jd_73_4
theorem jk_73_5 : jx_Snd 73 5 (js_al 0 1) := jo_aload_n (i := 0) (w := 0) rfl jd_73_5
theorem jk_73_6 : jx_Snd 73 6 (js_getf 5 0) := jo_getf rfl jf_5_14 jd_73_6
theorem jk_73_9 : jx_Snd 73 9 (js_getf 6 3) := jo_getf rfl jf_5_40 jd_73_9
theorem jk_73_12 : jx_Snd 73 12 (js_cge 41) := jo_cge (o := 29) rfl jd_73_12
theorem jk_73_15 : jx_Snd 73 15 (js_al 0 1) := jo_aload_n (i := 0) (w := 0) rfl jd_73_15
theorem jk_73_16 : jx_Snd 73 16 (js_il 3 1) := jo_iload_n (i := 3) (w := 3) rfl jd_73_16
theorem jk_73_17 : jx_Snd 73 17 (js_v1 5 69) := jo_v1 rfl jok_69 (Or.inl jw_448) jw_346 jw_347 rfl jd_73_17
theorem jk_73_20 : jx_Snd 73 20 (js_ifeq 35) := jo_ifeq (o := 15) rfl jd_73_20
theorem jk_73_23 : jx_Snd 73 23 (js_il 2 1) := jo_iload_n (i := 2) (w := 2) rfl jd_73_23
theorem jk_73_24 : jx_Snd 73 24 (js_al 0 1) := jo_aload_n (i := 0) (w := 0) rfl jd_73_24
theorem jk_73_25 : jx_Snd 73 25 (js_getf 5 0) := jo_getf rfl jf_5_14 jd_73_25
theorem jk_73_28 : jx_Snd 73 28 (js_il 3 1) := jo_iload_n (i := 3) (w := 3) rfl jd_73_28
theorem jk_73_29 : jx_Snd 73 29 (js_il 1 1) := jo_iload_n (i := 1) (w := 1) rfl jd_73_29
theorem jk_73_30 : jx_Snd 73 30 (js_v2 6 79) := jo_v2 rfl jok_79 (Or.inl jw_409) jw_364 jw_365 rfl jd_73_30
theorem jk_73_33 : jx_Snd 73 33 (js_iadd) := jo_iadd jd_73_33
theorem jk_73_34 : jx_Snd 73 34 (js_is 2 1) := jo_istore_n (i := 2) (w := 2) rfl (Nat.le_of_ble_eq_true rfl) jd_73_34
theorem jk_73_35 : jx_Snd 73 35 (js_inc 3 1) := jo_iinc (w := 1) rfl (Nat.le_of_ble_eq_true rfl) jd_73_35
theorem jk_73_38 : jx_Snd 73 38 (js_go 4) := jo_goto (o := (-34)) rfl jd_73_38
theorem jk_73_41 : jx_Snd 73 41 (js_il 2 1) := jo_iload_n (i := 2) (w := 2) rfl jd_73_41
theorem jk_73_42 : jx_Snd 73 42 (js_ir) := jo_ir rfl jd_73_42
theorem jk_73 : jx_So 73 jt_73 := fun pc => jo_le (jo_le (jo_le (jo_le (jo_le (jo_at (jk_73_0)) (jo_at (jk_73_1))) (jo_le (jo_at (jk_73_2)) (jo_at (jk_73_3)))) (jo_le (jo_le (jo_at (jk_73_4)) (jo_at (jk_73_5))) (jo_at (jk_73_6)))) (jo_le (jo_le (jo_le (jo_at (jk_73_9)) (jo_at (jk_73_12))) (jo_at (jk_73_15))) (jo_le (jo_le (jo_at (jk_73_16)) (jo_at (jk_73_17))) (jo_at (jk_73_20))))) (jo_le (jo_le (jo_le (jo_le (jo_at (jk_73_23)) (jo_at (jk_73_24))) (jo_at (jk_73_25))) (jo_le (jo_le (jo_at (jk_73_28)) (jo_at (jk_73_29))) (jo_at (jk_73_30)))) (jo_le (jo_le (jo_le (jo_at (jk_73_33)) (jo_at (jk_73_34))) (jo_at (jk_73_35))) (jo_le (jo_le (jo_at (jk_73_38)) (jo_at (jk_73_41))) (jo_at (jk_73_42)))))
theorem ji_73 {l : Launch} {D : va_G} {cA : ClassId} {ρ : Nat → Nat} {Λ : List jx_Lc} {d : Nat} {Q : Option Value → jx_St → Prop} {σ : jx_St} {z0 : Nat} {a1 : Int32} (h : jt_73 0 Λ jx_tb0 (jx_rn Λ jx_tb0 jt_73 (fun k' as σ K => jx_C l D cA ρ Λ d k' as σ K) Q (jx_J l D cA ρ Λ (jx_A ρ Λ) jx_tb0 (d + 1) 73 Q) [] 400) (fun k' as σ K => jx_C l D cA ρ Λ d k' as σ K) Q 0 [(0, .ref z0), (1, .int a1)] [] σ) : jx_C l D cA ρ Λ (d + 1) 73 [.ref z0, .int a1] σ Q := jx_in jk_73 400 [] rfl (Nat.le_of_ble_eq_true rfl) h
/-! ScriptLedger$Ledger.grow()V -/
theorem jd_74_0 : decode prog_3_method_8_code 0 = .ok (.aload_n 0, 1) := by decide +kernel
theorem jd_74_1 : decode prog_3_method_8_code 1 = .ok (.getfield 48, 3) := by decide +kernel
theorem jd_74_4 : decode prog_3_method_8_code 4 = .ok (.bipush 40, 2) := by decide +kernel
theorem jd_74_6 : decode prog_3_method_8_code 6 = .ok (.if_icmp .lt 4, 3) := by decide +kernel
theorem jd_74_9 : decode prog_3_method_8_code 9 = .ok (.return_, 1) := by decide +kernel
theorem jd_74_10 : decode prog_3_method_8_code 10 = .ok (.aload_n 0, 1) := by decide +kernel
theorem jd_74_11 : decode prog_3_method_8_code 11 = .ok (.dup, 1) := by decide +kernel
theorem jd_74_12 : decode prog_3_method_8_code 12 = .ok (.getfield 48, 3) := by decide +kernel
theorem jd_74_15 : decode prog_3_method_8_code 15 = .ok (.iconst 1, 1) := by decide +kernel
theorem jd_74_16 : decode prog_3_method_8_code 16 = .ok (.iadd, 1) := by decide +kernel
theorem jd_74_17 : decode prog_3_method_8_code 17 = .ok (.putfield 48, 3) := by decide +kernel
theorem jd_74_20 : decode prog_3_method_8_code 20 = .ok (.aload_n 0, 1) := by decide +kernel
theorem jd_74_21 : decode prog_3_method_8_code 21 = .ok (.getfield 24, 3) := by decide +kernel
theorem jd_74_24 : decode prog_3_method_8_code 24 = .ok (.aload_n 0, 1) := by decide +kernel
theorem jd_74_25 : decode prog_3_method_8_code 25 = .ok (.getfield 48, 3) := by decide +kernel
theorem jd_74_28 : decode prog_3_method_8_code 28 = .ok (.aload_n 0, 1) := by decide +kernel
theorem jd_74_29 : decode prog_3_method_8_code 29 = .ok (.getfield 14, 3) := by decide +kernel
theorem jd_74_32 : decode prog_3_method_8_code 32 = .ok (.getfield 40, 3) := by decide +kernel
theorem jd_74_35 : decode prog_3_method_8_code 35 = .ok (.iastore, 1) := by decide +kernel
theorem jd_74_36 : decode prog_3_method_8_code 36 = .ok (.aload_n 0, 1) := by decide +kernel
theorem jd_74_37 : decode prog_3_method_8_code 37 = .ok (.getfield 27, 3) := by decide +kernel
theorem jd_74_40 : decode prog_3_method_8_code 40 = .ok (.aload_n 0, 1) := by decide +kernel
theorem jd_74_41 : decode prog_3_method_8_code 41 = .ok (.getfield 48, 3) := by decide +kernel
theorem jd_74_44 : decode prog_3_method_8_code 44 = .ok (.aload_n 0, 1) := by decide +kernel
theorem jd_74_45 : decode prog_3_method_8_code 45 = .ok (.getfield 66, 3) := by decide +kernel
theorem jd_74_48 : decode prog_3_method_8_code 48 = .ok (.iastore, 1) := by decide +kernel
theorem jd_74_49 : decode prog_3_method_8_code 49 = .ok (.return_, 1) := by decide +kernel
def jt_74 (pc : Nat) : jx_Sp := bif Nat.ble pc 24 then (bif Nat.ble pc 11 then (bif Nat.ble pc 6 then (bif Nat.ble pc 1 then (bif Nat.ble pc 0 then (bif Nat.beq pc 0 then js_al 0 1 else js_none) else (bif Nat.beq pc 1 then js_getf 5 5 else js_none)) else (bif Nat.ble pc 4 then (bif Nat.beq pc 4 then js_c 40 2 else js_none) else (bif Nat.beq pc 6 then js_clt 10 else js_none))) else (bif Nat.ble pc 10 then (bif Nat.ble pc 9 then (bif Nat.beq pc 9 then js_vr else js_none) else (bif Nat.beq pc 10 then js_al 0 1 else js_none)) else (bif Nat.beq pc 11 then js_dup else js_none))) else (bif Nat.ble pc 17 then (bif Nat.ble pc 15 then (bif Nat.ble pc 12 then (bif Nat.beq pc 12 then js_getf 5 5 else js_none) else (bif Nat.beq pc 15 then js_c 1 1 else js_none)) else (bif Nat.ble pc 16 then (bif Nat.beq pc 16 then js_iadd else js_none) else (bif Nat.beq pc 17 then js_putf 5 5 false else js_none))) else (bif Nat.ble pc 21 then (bif Nat.ble pc 20 then (bif Nat.beq pc 20 then js_al 0 1 else js_none) else (bif Nat.beq pc 21 then js_getf 5 2 else js_none)) else (bif Nat.beq pc 24 then js_al 0 1 else js_none)))) else (bif Nat.ble pc 37 then (bif Nat.ble pc 32 then (bif Nat.ble pc 28 then (bif Nat.ble pc 25 then (bif Nat.beq pc 25 then js_getf 5 5 else js_none) else (bif Nat.beq pc 28 then js_al 0 1 else js_none)) else (bif Nat.ble pc 29 then (bif Nat.beq pc 29 then js_getf 5 0 else js_none) else (bif Nat.beq pc 32 then js_getf 6 3 else js_none))) else (bif Nat.ble pc 36 then (bif Nat.ble pc 35 then (bif Nat.beq pc 35 then js_ast else js_none) else (bif Nat.beq pc 36 then js_al 0 1 else js_none)) else (bif Nat.beq pc 37 then js_getf 5 3 else js_none))) else (bif Nat.ble pc 44 then (bif Nat.ble pc 41 then (bif Nat.ble pc 40 then (bif Nat.beq pc 40 then js_al 0 1 else js_none) else (bif Nat.beq pc 41 then js_getf 5 5 else js_none)) else (bif Nat.beq pc 44 then js_al 0 1 else js_none)) else (bif Nat.ble pc 48 then (bif Nat.ble pc 45 then (bif Nat.beq pc 45 then js_getf 5 4 else js_none) else (bif Nat.beq pc 48 then js_ast else js_none)) else (bif Nat.beq pc 49 then js_vr else js_none))))
theorem jk_74_0 : jx_Snd 74 0 (js_al 0 1) := jo_aload_n (i := 0) (w := 0) rfl jd_74_0
theorem jk_74_1 : jx_Snd 74 1 (js_getf 5 5) := jo_getf rfl jf_5_48 jd_74_1
theorem jk_74_4 : jx_Snd 74 4 (js_c 40 2) := jo_bipush (z := 40) jd_74_4 (by decide +kernel)
theorem jk_74_6 : jx_Snd 74 6 (js_clt 10) := jo_clt (o := 4) rfl jd_74_6
theorem jk_74_9 : jx_Snd 74 9 (js_vr) := jo_vr rfl jd_74_9
theorem jk_74_10 : jx_Snd 74 10 (js_al 0 1) := jo_aload_n (i := 0) (w := 0) rfl jd_74_10
theorem jk_74_11 : jx_Snd 74 11 (js_dup) := jo_dup jd_74_11
theorem jk_74_12 : jx_Snd 74 12 (js_getf 5 5) := jo_getf rfl jf_5_48 jd_74_12
theorem jk_74_15 : jx_Snd 74 15 (js_c 1 1) := jo_iconst (z := 1) jd_74_15 rfl
theorem jk_74_16 : jx_Snd 74 16 (js_iadd) := jo_iadd jd_74_16
theorem jk_74_17 : jx_Snd 74 17 (js_putf 5 5 false) := jo_putf (z := false) rfl jf_5_48 (fun C T N h => by cases h; rfl) jd_74_17
theorem jk_74_20 : jx_Snd 74 20 (js_al 0 1) := jo_aload_n (i := 0) (w := 0) rfl jd_74_20
theorem jk_74_21 : jx_Snd 74 21 (js_getf 5 2) := jo_getf rfl jf_5_24 jd_74_21
theorem jk_74_24 : jx_Snd 74 24 (js_al 0 1) := jo_aload_n (i := 0) (w := 0) rfl jd_74_24
theorem jk_74_25 : jx_Snd 74 25 (js_getf 5 5) := jo_getf rfl jf_5_48 jd_74_25
theorem jk_74_28 : jx_Snd 74 28 (js_al 0 1) := jo_aload_n (i := 0) (w := 0) rfl jd_74_28
theorem jk_74_29 : jx_Snd 74 29 (js_getf 5 0) := jo_getf rfl jf_5_14 jd_74_29
theorem jk_74_32 : jx_Snd 74 32 (js_getf 6 3) := jo_getf rfl jf_5_40 jd_74_32
theorem jk_74_35 : jx_Snd 74 35 (js_ast) := jo_ast jd_74_35
theorem jk_74_36 : jx_Snd 74 36 (js_al 0 1) := jo_aload_n (i := 0) (w := 0) rfl jd_74_36
theorem jk_74_37 : jx_Snd 74 37 (js_getf 5 3) := jo_getf rfl jf_5_27 jd_74_37
theorem jk_74_40 : jx_Snd 74 40 (js_al 0 1) := jo_aload_n (i := 0) (w := 0) rfl jd_74_40
theorem jk_74_41 : jx_Snd 74 41 (js_getf 5 5) := jo_getf rfl jf_5_48 jd_74_41
theorem jk_74_44 : jx_Snd 74 44 (js_al 0 1) := jo_aload_n (i := 0) (w := 0) rfl jd_74_44
theorem jk_74_45 : jx_Snd 74 45 (js_getf 5 4) := jo_getf rfl jf_5_66 jd_74_45
theorem jk_74_48 : jx_Snd 74 48 (js_ast) := jo_ast jd_74_48
theorem jk_74_49 : jx_Snd 74 49 (js_vr) := jo_vr rfl jd_74_49
theorem jk_74 : jx_So 74 jt_74 := fun pc => jo_le (jo_le (jo_le (jo_le (jo_le (jo_at (jk_74_0)) (jo_at (jk_74_1))) (jo_le (jo_at (jk_74_4)) (jo_at (jk_74_6)))) (jo_le (jo_le (jo_at (jk_74_9)) (jo_at (jk_74_10))) (jo_at (jk_74_11)))) (jo_le (jo_le (jo_le (jo_at (jk_74_12)) (jo_at (jk_74_15))) (jo_le (jo_at (jk_74_16)) (jo_at (jk_74_17)))) (jo_le (jo_le (jo_at (jk_74_20)) (jo_at (jk_74_21))) (jo_at (jk_74_24))))) (jo_le (jo_le (jo_le (jo_le (jo_at (jk_74_25)) (jo_at (jk_74_28))) (jo_le (jo_at (jk_74_29)) (jo_at (jk_74_32)))) (jo_le (jo_le (jo_at (jk_74_35)) (jo_at (jk_74_36))) (jo_at (jk_74_37)))) (jo_le (jo_le (jo_le (jo_at (jk_74_40)) (jo_at (jk_74_41))) (jo_at (jk_74_44))) (jo_le (jo_le (jo_at (jk_74_45)) (jo_at (jk_74_48))) (jo_at (jk_74_49)))))
theorem ji_74 {l : Launch} {D : va_G} {cA : ClassId} {ρ : Nat → Nat} {Λ : List jx_Lc} {d : Nat} {Q : Option Value → jx_St → Prop} {σ : jx_St} {z0 : Nat} (h : jt_74 0 Λ jx_tb0 (jx_rn Λ jx_tb0 jt_74 (fun k' as σ K => jx_C l D cA ρ Λ d k' as σ K) Q (jx_J l D cA ρ Λ (jx_A ρ Λ) jx_tb0 (d + 1) 74 Q) [] 400) (fun k' as σ K => jx_C l D cA ρ Λ d k' as σ K) Q 0 [(0, .ref z0)] [] σ) : jx_C l D cA ρ Λ (d + 1) 74 [.ref z0] σ Q := jx_in jk_74 400 [] rfl (Nat.le_of_ble_eq_true rfl) h

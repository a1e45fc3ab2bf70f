/-! ScriptLedgerModel.spend(II)Z -/
theorem jd_112_0 : decode prog_10_method_25_code 0 = .ok (.aload_n 0, 1) := by decide +kernel
theorem jd_112_1 : decode prog_10_method_25_code 1 = .ok (.getfield 204, 3) := by decide +kernel
theorem jd_112_4 : decode prog_10_method_25_code 4 = .ok (.iconst 3, 1) := by decide +kernel
theorem jd_112_5 : decode prog_10_method_25_code 5 = .ok (.if_icmp .eq 15, 3) := by decide +kernel
theorem jd_112_8 : decode prog_10_method_25_code 8 = .ok (.iload_n 1, 1) := by decide +kernel
theorem jd_112_9 : decode prog_10_method_25_code 9 = .ok (.ifCond .lt 11, 3) := by decide +kernel
theorem jd_112_12 : decode prog_10_method_25_code 12 = .ok (.aload_n 0, 1) := by decide +kernel
theorem jd_112_13 : decode prog_10_method_25_code 13 = .ok (.iload_n 1, 1) := by decide +kernel
theorem jd_112_14 : decode prog_10_method_25_code 14 = .ok (.invokevirtual 222, 3) := by decide +kernel
theorem jd_112_17 : decode prog_10_method_25_code 17 = .ok (.ifCond .eq 5, 3) := by decide +kernel
theorem jd_112_20 : decode prog_10_method_25_code 20 = .ok (.iconst 0, 1) := by decide +kernel
theorem jd_112_21 : decode prog_10_method_25_code 21 = .ok (.ireturn, 1) := by decide +kernel
theorem jd_112_22 : decode prog_10_method_25_code 22 = .ok (.aload_n 0, 1) := by decide +kernel
theorem jd_112_23 : decode prog_10_method_25_code 23 = .ok (.getfield 71, 3) := by decide +kernel
theorem jd_112_26 : decode prog_10_method_25_code 26 = .ok (.aload_n 0, 1) := by decide +kernel
theorem jd_112_27 : decode prog_10_method_25_code 27 = .ok (.getfield 204, 3) := by decide +kernel
theorem jd_112_30 : decode prog_10_method_25_code 30 = .ok (.iload_n 1, 1) := by decide +kernel
theorem jd_112_31 : decode prog_10_method_25_code 31 = .ok (.iastore, 1) := by decide +kernel
theorem jd_112_32 : decode prog_10_method_25_code 32 = .ok (.aload_n 0, 1) := by decide +kernel
theorem jd_112_33 : decode prog_10_method_25_code 33 = .ok (.getfield 74, 3) := by decide +kernel
theorem jd_112_36 : decode prog_10_method_25_code 36 = .ok (.aload_n 0, 1) := by decide +kernel
theorem jd_112_37 : decode prog_10_method_25_code 37 = .ok (.getfield 204, 3) := by decide +kernel
theorem jd_112_40 : decode prog_10_method_25_code 40 = .ok (.iload_n 2, 1) := by decide +kernel
theorem jd_112_41 : decode prog_10_method_25_code 41 = .ok (.iastore, 1) := by decide +kernel
theorem jd_112_42 : decode prog_10_method_25_code 42 = .ok (.aload_n 0, 1) := by decide +kernel
theorem jd_112_43 : decode prog_10_method_25_code 43 = .ok (.dup, 1) := by decide +kernel
theorem jd_112_44 : decode prog_10_method_25_code 44 = .ok (.getfield 204, 3) := by decide +kernel
theorem jd_112_47 : decode prog_10_method_25_code 47 = .ok (.iconst 1, 1) := by decide +kernel
theorem jd_112_48 : decode prog_10_method_25_code 48 = .ok (.iadd, 1) := by decide +kernel
theorem jd_112_49 : decode prog_10_method_25_code 49 = .ok (.putfield 204, 3) := by decide +kernel
theorem jd_112_52 : decode prog_10_method_25_code 52 = .ok (.iconst 1, 1) := by decide +kernel
theorem jd_112_53 : decode prog_10_method_25_code 53 = .ok (.ireturn, 1) := by decide +kernel
def jt_112 (pc : Nat) : jx_Sp := bif Nat.ble pc 27 then (bif Nat.ble pc 13 then (bif Nat.ble pc 5 then (bif Nat.ble pc 1 then (bif Nat.ble pc 0 then (bif Nat.beq pc 0 then js_al 0 1 else js_none) else (bif Nat.beq pc 1 then js_getf 8 33 else js_none)) else (bif Nat.ble pc 4 then (bif Nat.beq pc 4 then js_c 3 1 else js_none) else (bif Nat.beq pc 5 then js_ceq 20 else js_none))) else (bif Nat.ble pc 9 then (bif Nat.ble pc 8 then (bif Nat.beq pc 8 then js_il 1 1 else js_none) else (bif Nat.beq pc 9 then js_iflt 20 else js_none)) else (bif Nat.ble pc 12 then (bif Nat.beq pc 12 then js_al 0 1 else js_none) else (bif Nat.beq pc 13 then js_il 1 1 else js_none)))) else (bif Nat.ble pc 21 then (bif Nat.ble pc 17 then (bif Nat.ble pc 14 then (bif Nat.beq pc 14 then js_v1 8 111 else js_none) else (bif Nat.beq pc 17 then js_ifeq 22 else js_none)) else (bif Nat.ble pc 20 then (bif Nat.beq pc 20 then js_c 0 1 else js_none) else (bif Nat.beq pc 21 then js_zr else js_none))) else (bif Nat.ble pc 23 then (bif Nat.ble pc 22 then (bif Nat.beq pc 22 then js_al 0 1 else js_none) else (bif Nat.beq pc 23 then js_getf 8 34 else js_none)) else (bif Nat.ble pc 26 then (bif Nat.beq pc 26 then js_al 0 1 else js_none) else (bif Nat.beq pc 27 then js_getf 8 33 else js_none))))) else (bif Nat.ble pc 41 then (bif Nat.ble pc 33 then (bif Nat.ble pc 31 then (bif Nat.ble pc 30 then (bif Nat.beq pc 30 then js_il 1 1 else js_none) else (bif Nat.beq pc 31 then js_ast else js_none)) else (bif Nat.ble pc 32 then (bif Nat.beq pc 32 then js_al 0 1 else js_none) else (bif Nat.beq pc 33 then js_getf 8 35 else js_none))) else (bif Nat.ble pc 37 then (bif Nat.ble pc 36 then (bif Nat.beq pc 36 then js_al 0 1 else js_none) else (bif Nat.beq pc 37 then js_getf 8 33 else js_none)) else (bif Nat.ble pc 40 then (bif Nat.beq pc 40 then js_il 2 1 else js_none) else (bif Nat.beq pc 41 then js_ast else js_none)))) else (bif Nat.ble pc 47 then (bif Nat.ble pc 43 then (bif Nat.ble pc 42 then (bif Nat.beq pc 42 then js_al 0 1 else js_none) else (bif Nat.beq pc 43 then js_dup else js_none)) else (bif Nat.ble pc 44 then (bif Nat.beq pc 44 then js_getf 8 33 else js_none) else (bif Nat.beq pc 47 then js_c 1 1 else js_none))) else (bif Nat.ble pc 49 then (bif Nat.ble pc 48 then (bif Nat.beq pc 48 then js_iadd else js_none) else (bif Nat.beq pc 49 then js_putf 8 33 false else js_none)) else (bif Nat.ble pc 52 then (bif Nat.beq pc 52 then js_c 1 1 else js_none) else (bif Nat.beq pc 53 then js_zr else js_none)))))
theorem jk_112_0 : jx_Snd 112 0 (js_al 0 1) := jo_aload_n (i := 0) (w := 0) rfl jd_112_0
theorem jk_112_1 : jx_Snd 112 1 (js_getf 8 33) := jo_getf rfl jf_8_204 jd_112_1
theorem jk_112_4 : jx_Snd 112 4 (js_c 3 1) := jo_iconst (z := 3) jd_112_4 rfl
theorem jk_112_5 : jx_Snd 112 5 (js_ceq 20) := jo_ceq (o := 15) rfl jd_112_5
theorem jk_112_8 : jx_Snd 112 8 (js_il 1 1) := jo_iload_n (i := 1) (w := 1) rfl jd_112_8
theorem jk_112_9 : jx_Snd 112 9 (js_iflt 20) := jo_iflt (o := 11) rfl jd_112_9
theorem jk_112_12 : jx_Snd 112 12 (js_al 0 1) := jo_aload_n (i := 0) (w := 0) rfl jd_112_12
theorem jk_112_13 : jx_Snd 112 13 (js_il 1 1) := jo_iload_n (i := 1) (w := 1) rfl jd_112_13
theorem jk_112_14 : jx_Snd 112 14 (js_v1 8 111) := jo_v1 rfl jok_111 (Or.inl jw_592) jw_593 jw_729 rfl jd_112_14
theorem jk_112_17 : jx_Snd 112 17 (js_ifeq 22) := jo_ifeq (o := 5) rfl jd_112_17
theorem jk_112_20 : jx_Snd 112 20 (js_c 0 1) := jo_iconst (z := 0) jd_112_20 rfl
theorem jk_112_21 : jx_Snd 112 21 (js_zr) := jo_zr rfl jd_112_21
theorem jk_112_22 : jx_Snd 112 22 (js_al 0 1) := jo_aload_n (i := 0) (w := 0) rfl jd_112_22
theorem jk_112_23 : jx_Snd 112 23 (js_getf 8 34) := jo_getf rfl jf_8_71 jd_112_23
theorem jk_112_26 : jx_Snd 112 26 (js_al 0 1) := jo_aload_n (i := 0) (w := 0) rfl jd_112_26
theorem jk_112_27 : jx_Snd 112 27 (js_getf 8 33) := jo_getf rfl jf_8_204 jd_112_27
theorem jk_112_30 : jx_Snd 112 30 (js_il 1 1) := jo_iload_n (i := 1) (w := 1) rfl jd_112_30
theorem jk_112_31 : jx_Snd 112 31 (js_ast) := jo_ast jd_112_31
theorem jk_112_32 : jx_Snd 112 32 (js_al 0 1) := jo_aload_n (i := 0) (w := 0) rfl jd_112_32
theorem jk_112_33 : jx_Snd 112 33 (js_getf 8 35) := jo_getf rfl jf_8_74 jd_112_33
theorem jk_112_36 : jx_Snd 112 36 (js_al 0 1) := jo_aload_n (i := 0) (w := 0) rfl jd_112_36
theorem jk_112_37 : jx_Snd 112 37 (js_getf 8 33) := jo_getf rfl jf_8_204 jd_112_37
theorem jk_112_40 : jx_Snd 112 40 (js_il 2 1) := jo_iload_n (i := 2) (w := 2) rfl jd_112_40
theorem jk_112_41 : jx_Snd 112 41 (js_ast) := jo_ast jd_112_41
theorem jk_112_42 : jx_Snd 112 42 (js_al 0 1) := jo_aload_n (i := 0) (w := 0) rfl jd_112_42
theorem jk_112_43 : jx_Snd 112 43 (js_dup) := jo_dup jd_112_43
theorem jk_112_44 : jx_Snd 112 44 (js_getf 8 33) := jo_getf rfl jf_8_204 jd_112_44
theorem jk_112_47 : jx_Snd 112 47 (js_c 1 1) := jo_iconst (z := 1) jd_112_47 rfl
theorem jk_112_48 : jx_Snd 112 48 (js_iadd) := jo_iadd jd_112_48
theorem jk_112_49 : jx_Snd 112 49 (js_putf 8 33 false) := jo_putf (z := false) rfl jf_8_204 (fun C T N h => by cases h; rfl) jd_112_49
theorem jk_112_52 : jx_Snd 112 52 (js_c 1 1) := jo_iconst (z := 1) jd_112_52 rfl
theorem jk_112_53 : jx_Snd 112 53 (js_zr) := jo_zr rfl jd_112_53
theorem jk_112 : jx_So 112 jt_112 := fun pc => jo_le (jo_le (jo_le (jo_le (jo_le (jo_at (jk_112_0)) (jo_at (jk_112_1))) (jo_le (jo_at (jk_112_4)) (jo_at (jk_112_5)))) (jo_le (jo_le (jo_at (jk_112_8)) (jo_at (jk_112_9))) (jo_le (jo_at (jk_112_12)) (jo_at (jk_112_13))))) (jo_le (jo_le (jo_le (jo_at (jk_112_14)) (jo_at (jk_112_17))) (jo_le (jo_at (jk_112_20)) (jo_at (jk_112_21)))) (jo_le (jo_le (jo_at (jk_112_22)) (jo_at (jk_112_23))) (jo_le (jo_at (jk_112_26)) (jo_at (jk_112_27)))))) (jo_le (jo_le (jo_le (jo_le (jo_at (jk_112_30)) (jo_at (jk_112_31))) (jo_le (jo_at (jk_112_32)) (jo_at (jk_112_33)))) (jo_le (jo_le (jo_at (jk_112_36)) (jo_at (jk_112_37))) (jo_le (jo_at (jk_112_40)) (jo_at (jk_112_41))))) (jo_le (jo_le (jo_le (jo_at (jk_112_42)) (jo_at (jk_112_43))) (jo_le (jo_at (jk_112_44)) (jo_at (jk_112_47)))) (jo_le (jo_le (jo_at (jk_112_48)) (jo_at (jk_112_49))) (jo_le (jo_at (jk_112_52)) (jo_at (jk_112_53))))))
theorem ji_112 {l : Launch} {D : va_G} {cA : ClassId} {ρ : Nat → Nat} {Λ : List jx_Lc} {d : Nat} {Q : Option Value → jx_St → Prop} {σ : jx_St} {z0 : Nat} {a1 : Int32} {a2 : Int32} (h : jt_112 0 Λ jx_tb0 (jx_rn Λ jx_tb0 jt_112 (fun k' as σ K => jx_C l D cA ρ Λ d k' as σ K) Q (jx_J l D cA ρ Λ (jx_A ρ Λ) jx_tb0 (d + 1) 112 Q) [] 400) (fun k' as σ K => jx_C l D cA ρ Λ d k' as σ K) Q 0 [(0, .ref z0), (1, .int a1), (2, .int a2)] [] σ) : jx_C l D cA ρ Λ (d + 1) 112 [.ref z0, .int a1, .int a2] σ Q := jx_in jk_112 400 [] rfl (Nat.le_of_ble_eq_true rfl) h
/-! ScriptLedgerModel.give(IIIII)Z -/
theorem jd_113_0 : decode prog_10_method_26_code 0 = .ok (.aload_n 0, 1) := by decide +kernel
theorem jd_113_1 : decode prog_10_method_26_code 1 = .ok (.getfield 207, 3) := by decide +kernel
theorem jd_113_4 : decode prog_10_method_26_code 4 = .ok (.iconst 3, 1) := by decide +kernel
theorem jd_113_5 : decode prog_10_method_26_code 5 = .ok (.if_icmp .eq 41, 3) := by decide +kernel
theorem jd_113_8 : decode prog_10_method_26_code 8 = .ok (.iload_n 1, 1) := by decide +kernel
theorem jd_113_9 : decode prog_10_method_26_code 9 = .ok (.bipush 10, 2) := by decide +kernel
theorem jd_113_11 : decode prog_10_method_26_code 11 = .ok (.invokestatic 197, 3) := by decide +kernel
theorem jd_113_14 : decode prog_10_method_26_code 14 = .ok (.ifCond .ne 32, 3) := by decide +kernel
theorem jd_113_17 : decode prog_10_method_26_code 17 = .ok (.iload_n 3, 1) := by decide +kernel
theorem jd_113_18 : decode prog_10_method_26_code 18 = .ok (.ldc 225, 2) := by decide +kernel
theorem jd_113_20 : decode prog_10_method_26_code 20 = .ok (.invokestatic 197, 3) := by decide +kernel
theorem jd_113_23 : decode prog_10_method_26_code 23 = .ok (.ifCond .ne 23, 3) := by decide +kernel
theorem jd_113_26 : decode prog_10_method_26_code 26 = .ok (.iload 4, 2) := by decide +kernel
theorem jd_113_28 : decode prog_10_method_26_code 28 = .ok (.ldc 225, 2) := by decide +kernel
theorem jd_113_30 : decode prog_10_method_26_code 30 = .ok (.invokestatic 197, 3) := by decide +kernel
theorem jd_113_33 : decode prog_10_method_26_code 33 = .ok (.ifCond .ne 13, 3) := by decide +kernel
theorem jd_113_36 : decode prog_10_method_26_code 36 = .ok (.iload 5, 2) := by decide +kernel
theorem jd_113_38 : decode prog_10_method_26_code 38 = .ok (.ldc 225, 2) := by decide +kernel
theorem jd_113_40 : decode prog_10_method_26_code 40 = .ok (.invokestatic 197, 3) := by decide +kernel
theorem jd_113_43 : decode prog_10_method_26_code 43 = .ok (.ifCond .eq 5, 3) := by decide +kernel
theorem jd_113_46 : decode prog_10_method_26_code 46 = .ok (.iconst 0, 1) := by decide +kernel
theorem jd_113_47 : decode prog_10_method_26_code 47 = .ok (.ireturn, 1) := by decide +kernel
theorem jd_113_48 : decode prog_10_method_26_code 48 = .ok (.aload_n 0, 1) := by decide +kernel
theorem jd_113_49 : decode prog_10_method_26_code 49 = .ok (.getfield 77, 3) := by decide +kernel
theorem jd_113_52 : decode prog_10_method_26_code 52 = .ok (.aload_n 0, 1) := by decide +kernel
theorem jd_113_53 : decode prog_10_method_26_code 53 = .ok (.getfield 207, 3) := by decide +kernel
theorem jd_113_56 : decode prog_10_method_26_code 56 = .ok (.iload_n 1, 1) := by decide +kernel
theorem jd_113_57 : decode prog_10_method_26_code 57 = .ok (.iastore, 1) := by decide +kernel
theorem jd_113_58 : decode prog_10_method_26_code 58 = .ok (.aload_n 0, 1) := by decide +kernel
theorem jd_113_59 : decode prog_10_method_26_code 59 = .ok (.getfield 80, 3) := by decide +kernel
theorem jd_113_62 : decode prog_10_method_26_code 62 = .ok (.aload_n 0, 1) := by decide +kernel
theorem jd_113_63 : decode prog_10_method_26_code 63 = .ok (.getfield 207, 3) := by decide +kernel
theorem jd_113_66 : decode prog_10_method_26_code 66 = .ok (.iload_n 2, 1) := by decide +kernel
theorem jd_113_67 : decode prog_10_method_26_code 67 = .ok (.iastore, 1) := by decide +kernel
theorem jd_113_68 : decode prog_10_method_26_code 68 = .ok (.aload_n 0, 1) := by decide +kernel
theorem jd_113_69 : decode prog_10_method_26_code 69 = .ok (.getfield 83, 3) := by decide +kernel
theorem jd_113_72 : decode prog_10_method_26_code 72 = .ok (.iconst 3, 1) := by decide +kernel
theorem jd_113_73 : decode prog_10_method_26_code 73 = .ok (.aload_n 0, 1) := by decide +kernel
theorem jd_113_74 : decode prog_10_method_26_code 74 = .ok (.getfield 207, 3) := by decide +kernel
theorem jd_113_77 : decode prog_10_method_26_code 77 = .ok (.imul, 1) := by decide +kernel
theorem jd_113_78 : decode prog_10_method_26_code 78 = .ok (.iload_n 3, 1) := by decide +kernel
theorem jd_113_79 : decode prog_10_method_26_code 79 = .ok (.iastore, 1) := by decide +kernel
theorem jd_113_80 : decode prog_10_method_26_code 80 = .ok (.aload_n 0, 1) := by decide +kernel
theorem jd_113_81 : decode prog_10_method_26_code 81 = .ok (.getfield 83, 3) := by decide +kernel
theorem jd_113_84 : decode prog_10_method_26_code 84 = .ok (.iconst 3, 1) := by decide +kernel
theorem jd_113_85 : decode prog_10_method_26_code 85 = .ok (.aload_n 0, 1) := by decide +kernel
theorem jd_113_86 : decode prog_10_method_26_code 86 = .ok (.getfield 207, 3) := by decide +kernel
theorem jd_113_89 : decode prog_10_method_26_code 89 = .ok (.imul, 1) := by decide +kernel
theorem jd_113_90 : decode prog_10_method_26_code 90 = .ok (.iconst 1, 1) := by decide +kernel
theorem jd_113_91 : decode prog_10_method_26_code 91 = .ok (.iadd, 1) := by decide +kernel
theorem jd_113_92 : decode prog_10_method_26_code 92 = .ok (.iload 4, 2) := by decide +kernel
theorem jd_113_94 : decode prog_10_method_26_code 94 = .ok (.iastore, 1) := by decide +kernel
theorem jd_113_95 : decode prog_10_method_26_code 95 = .ok (.aload_n 0, 1) := by decide +kernel
theorem jd_113_96 : decode prog_10_method_26_code 96 = .ok (.getfield 83, 3) := by decide +kernel
theorem jd_113_99 : decode prog_10_method_26_code 99 = .ok (.iconst 3, 1) := by decide +kernel
theorem jd_113_100 : decode prog_10_method_26_code 100 = .ok (.aload_n 0, 1) := by decide +kernel
theorem jd_113_101 : decode prog_10_method_26_code 101 = .ok (.getfield 207, 3) := by decide +kernel
theorem jd_113_104 : decode prog_10_method_26_code 104 = .ok (.imul, 1) := by decide +kernel
theorem jd_113_105 : decode prog_10_method_26_code 105 = .ok (.iconst 2, 1) := by decide +kernel
theorem jd_113_106 : decode prog_10_method_26_code 106 = .ok (.iadd, 1) := by decide +kernel
theorem jd_113_107 : decode prog_10_method_26_code 107 = .ok (.iload 5, 2) := by decide +kernel
theorem jd_113_109 : decode prog_10_method_26_code 109 = .ok (.iastore, 1) := by decide +kernel
theorem jd_113_110 : decode prog_10_method_26_code 110 = .ok (.aload_n 0, 1) := by decide +kernel
theorem jd_113_111 : decode prog_10_method_26_code 111 = .ok (.dup, 1) := by decide +kernel
theorem jd_113_112 : decode prog_10_method_26_code 112 = .ok (.getfield 207, 3) := by decide +kernel
theorem jd_113_115 : decode prog_10_method_26_code 115 = .ok (.iconst 1, 1) := by decide +kernel
theorem jd_113_116 : decode prog_10_method_26_code 116 = .ok (.iadd, 1) := by decide +kernel
theorem jd_113_117 : decode prog_10_method_26_code 117 = .ok (.putfield 207, 3) := by decide +kernel
theorem jd_113_120 : decode prog_10_method_26_code 120 = .ok (.iconst 1, 1) := by decide +kernel
theorem jd_113_121 : decode prog_10_method_26_code 121 = .ok (.ireturn, 1) := by decide +kernel
def jt_113 (pc : Nat) : jx_Sp := bif Nat.ble pc 68 then (bif Nat.ble pc 38 then (bif Nat.ble pc 17 then (bif Nat.ble pc 8 then (bif Nat.ble pc 4 then (bif Nat.ble pc 1 then (bif Nat.ble pc 0 then (bif Nat.beq pc 0 then js_al 0 1 else js_none) else (bif Nat.beq pc 1 then js_getf 8 36 else js_none)) else (bif Nat.beq pc 4 then js_c 3 1 else js_none)) else (bif Nat.ble pc 5 then (bif Nat.beq pc 5 then js_ceq 46 else js_none) else (bif Nat.beq pc 8 then js_il 1 1 else js_none))) else (bif Nat.ble pc 11 then (bif Nat.ble pc 9 then (bif Nat.beq pc 9 then js_c 10 2 else js_none) else (bif Nat.beq pc 11 then js_s2 89 else js_none)) else (bif Nat.ble pc 14 then (bif Nat.beq pc 14 then js_ifne 46 else js_none) else (bif Nat.beq pc 17 then js_il 3 1 else js_none)))) else (bif Nat.ble pc 28 then (bif Nat.ble pc 23 then (bif Nat.ble pc 20 then (bif Nat.ble pc 18 then (bif Nat.beq pc 18 then js_c 1000001 2 else js_none) else (bif Nat.beq pc 20 then js_s2 89 else js_none)) else (bif Nat.beq pc 23 then js_ifne 46 else js_none)) else (bif Nat.ble pc 26 then (bif Nat.beq pc 26 then js_il 4 2 else js_none) else (bif Nat.beq pc 28 then js_c 1000001 2 else js_none))) else (bif Nat.ble pc 33 then (bif Nat.ble pc 30 then (bif Nat.beq pc 30 then js_s2 89 else js_none) else (bif Nat.beq pc 33 then js_ifne 46 else js_none)) else (bif Nat.ble pc 36 then (bif Nat.beq pc 36 then js_il 5 2 else js_none) else (bif Nat.beq pc 38 then js_c 1000001 2 else js_none))))) else (bif Nat.ble pc 56 then (bif Nat.ble pc 48 then (bif Nat.ble pc 46 then (bif Nat.ble pc 43 then (bif Nat.ble pc 40 then (bif Nat.beq pc 40 then js_s2 89 else js_none) else (bif Nat.beq pc 43 then js_ifeq 48 else js_none)) else (bif Nat.beq pc 46 then js_c 0 1 else js_none)) else (bif Nat.ble pc 47 then (bif Nat.beq pc 47 then js_zr else js_none) else (bif Nat.beq pc 48 then js_al 0 1 else js_none))) else (bif Nat.ble pc 52 then (bif Nat.ble pc 49 then (bif Nat.beq pc 49 then js_getf 8 37 else js_none) else (bif Nat.beq pc 52 then js_al 0 1 else js_none)) else (bif Nat.ble pc 53 then (bif Nat.beq pc 53 then js_getf 8 36 else js_none) else (bif Nat.beq pc 56 then js_il 1 1 else js_none)))) else (bif Nat.ble pc 62 then (bif Nat.ble pc 58 then (bif Nat.ble pc 57 then (bif Nat.beq pc 57 then js_ast else js_none) else (bif Nat.beq pc 58 then js_al 0 1 else js_none)) else (bif Nat.ble pc 59 then (bif Nat.beq pc 59 then js_getf 8 38 else js_none) else (bif Nat.beq pc 62 then js_al 0 1 else js_none))) else (bif Nat.ble pc 66 then (bif Nat.ble pc 63 then (bif Nat.beq pc 63 then js_getf 8 36 else js_none) else (bif Nat.beq pc 66 then js_il 2 1 else js_none)) else (bif Nat.ble pc 67 then (bif Nat.beq pc 67 then js_ast else js_none) else (bif Nat.beq pc 68 then js_al 0 1 else js_none)))))) else (bif Nat.ble pc 95 then (bif Nat.ble pc 81 then (bif Nat.ble pc 77 then (bif Nat.ble pc 73 then (bif Nat.ble pc 72 then (bif Nat.ble pc 69 then (bif Nat.beq pc 69 then js_getf 8 39 else js_none) else (bif Nat.beq pc 72 then js_c 3 1 else js_none)) else (bif Nat.beq pc 73 then js_al 0 1 else js_none)) else (bif Nat.ble pc 74 then (bif Nat.beq pc 74 then js_getf 8 36 else js_none) else (bif Nat.beq pc 77 then js_imul else js_none))) else (bif Nat.ble pc 79 then (bif Nat.ble pc 78 then (bif Nat.beq pc 78 then js_il 3 1 else js_none) else (bif Nat.beq pc 79 then js_ast else js_none)) else (bif Nat.ble pc 80 then (bif Nat.beq pc 80 then js_al 0 1 else js_none) else (bif Nat.beq pc 81 then js_getf 8 39 else js_none)))) else (bif Nat.ble pc 90 then (bif Nat.ble pc 86 then (bif Nat.ble pc 85 then (bif Nat.ble pc 84 then (bif Nat.beq pc 84 then js_c 3 1 else js_none) else (bif Nat.beq pc 85 then js_al 0 1 else js_none)) else (bif Nat.beq pc 86 then js_getf 8 36 else js_none)) else (bif Nat.ble pc 89 then (bif Nat.beq pc 89 then js_imul else js_none) else (bif Nat.beq pc 90 then js_c 1 1 else js_none))) else (bif Nat.ble pc 92 then (bif Nat.ble pc 91 then (bif Nat.beq pc 91 then js_iadd else js_none) else (bif Nat.beq pc 92 then js_il 4 2 else js_none)) else (bif Nat.ble pc 94 then (bif Nat.beq pc 94 then js_ast else js_none) else (bif Nat.beq pc 95 then js_al 0 1 else js_none))))) else (bif Nat.ble pc 109 then (bif Nat.ble pc 104 then (bif Nat.ble pc 100 then (bif Nat.ble pc 99 then (bif Nat.ble pc 96 then (bif Nat.beq pc 96 then js_getf 8 39 else js_none) else (bif Nat.beq pc 99 then js_c 3 1 else js_none)) else (bif Nat.beq pc 100 then js_al 0 1 else js_none)) else (bif Nat.ble pc 101 then (bif Nat.beq pc 101 then js_getf 8 36 else js_none) else (bif Nat.beq pc 104 then js_imul else js_none))) else (bif Nat.ble pc 106 then (bif Nat.ble pc 105 then (bif Nat.beq pc 105 then js_c 2 1 else js_none) else (bif Nat.beq pc 106 then js_iadd else js_none)) else (bif Nat.ble pc 107 then (bif Nat.beq pc 107 then js_il 5 2 else js_none) else (bif Nat.beq pc 109 then js_ast else js_none)))) else (bif Nat.ble pc 115 then (bif Nat.ble pc 111 then (bif Nat.ble pc 110 then (bif Nat.beq pc 110 then js_al 0 1 else js_none) else (bif Nat.beq pc 111 then js_dup else js_none)) else (bif Nat.ble pc 112 then (bif Nat.beq pc 112 then js_getf 8 36 else js_none) else (bif Nat.beq pc 115 then js_c 1 1 else js_none))) else (bif Nat.ble pc 117 then (bif Nat.ble pc 116 then (bif Nat.beq pc 116 then js_iadd else js_none) else (bif Nat.beq pc 117 then js_putf 8 36 false else js_none)) else (bif Nat.ble pc 120 then (bif Nat.beq pc 120 then js_c 1 1 else js_none) else (bif Nat.beq pc 121 then js_zr else js_none))))))
theorem jk_113_0 : jx_Snd 113 0 (js_al 0 1) := jo_aload_n (i := 0) (w := 0) rfl jd_113_0
theorem jk_113_1 : jx_Snd 113 1 (js_getf 8 36) := jo_getf rfl jf_8_207 jd_113_1
theorem jk_113_4 : jx_Snd 113 4 (js_c 3 1) := jo_iconst (z := 3) jd_113_4 rfl
theorem jk_113_5 : jx_Snd 113 5 (js_ceq 46) := jo_ceq (o := 41) rfl jd_113_5
theorem jk_113_8 : jx_Snd 113 8 (js_il 1 1) := jo_iload_n (i := 1) (w := 1) rfl jd_113_8
theorem jk_113_9 : jx_Snd 113 9 (js_c 10 2) := jo_bipush (z := 10) jd_113_9 (by decide +kernel)
theorem jk_113_11 : jx_Snd 113 11 (js_s2 89) := jo_s2 rfl jok_89 (Or.inl jw_532) jw_533 jd_113_11
theorem jk_113_14 : jx_Snd 113 14 (js_ifne 46) := jo_ifne (o := 32) rfl jd_113_14
theorem jk_113_17 : jx_Snd 113 17 (js_il 3 1) := jo_iload_n (i := 3) (w := 3) rfl jd_113_17
theorem jk_113_18 : jx_Snd 113 18 (js_c 1000001 2) := jo_ldc (ix := 225) rfl jw_599 jd_113_18
theorem jk_113_20 : jx_Snd 113 20 (js_s2 89) := jo_s2 rfl jok_89 (Or.inl jw_532) jw_533 jd_113_20
theorem jk_113_23 : jx_Snd 113 23 (js_ifne 46) := jo_ifne (o := 23) rfl jd_113_23
theorem jk_113_26 : jx_Snd 113 26 (js_il 4 2) := jo_iload (i := 4) jd_113_26
theorem jk_113_28 : jx_Snd 113 28 (js_c 1000001 2) := jo_ldc (ix := 225) rfl jw_599 jd_113_28
theorem jk_113_30 : jx_Snd 113 30 (js_s2 89) := jo_s2 rfl jok_89 (Or.inl jw_532) jw_533 jd_113_30
theorem jk_113_33 : jx_Snd 113 33 (js_ifne 46) := jo_ifne (o := 13) rfl jd_113_33
theorem jk_113_36 : jx_Snd 113 36 (js_il 5 2) := jo_iload (i := 5) jd_113_36
theorem jk_113_38 : jx_Snd 113 38 (js_c 1000001 2) := jo_ldc (ix := 225) rfl jw_599 jd_113_38
theorem jk_113_40 : jx_Snd 113 40 (js_s2 89) := jo_s2 rfl jok_89 (Or.inl jw_532) jw_533 jd_113_40
theorem jk_113_43 : jx_Snd 113 43 (js_ifeq 48) := jo_ifeq (o := 5) rfl jd_113_43
theorem jk_113_46 : jx_Snd 113 46 (js_c 0 1) := jo_iconst (z := 0) jd_113_46 rfl
theorem jk_113_47 : jx_Snd 113 47 (js_zr) := jo_zr rfl jd_113_47
theorem jk_113_48 : jx_Snd 113 48 (js_al 0 1) := jo_aload_n (i := 0) (w := 0) rfl jd_113_48
theorem jk_113_49 : jx_Snd 113 49 (js_getf 8 37) := jo_getf rfl jf_8_77 jd_113_49
theorem jk_113_52 : jx_Snd 113 52 (js_al 0 1) := jo_aload_n (i := 0) (w := 0) rfl jd_113_52
theorem jk_113_53 : jx_Snd 113 53 (js_getf 8 36) := jo_getf rfl jf_8_207 jd_113_53
theorem jk_113_56 : jx_Snd 113 56 (js_il 1 1) := jo_iload_n (i := 1) (w := 1) rfl jd_113_56
theorem jk_113_57 : jx_Snd 113 57 (js_ast) := jo_ast jd_113_57
theorem jk_113_58 : jx_Snd 113 58 (js_al 0 1) := jo_aload_n (i := 0) (w := 0) rfl jd_113_58
theorem jk_113_59 : jx_Snd 113 59 (js_getf 8 38) := jo_getf rfl jf_8_80 jd_113_59
theorem jk_113_62 : jx_Snd 113 62 (js_al 0 1) := jo_aload_n (i := 0) (w := 0) rfl jd_113_62
theorem jk_113_63 : jx_Snd 113 63 (js_getf 8 36) := jo_getf rfl jf_8_207 jd_113_63
theorem jk_113_66 : jx_Snd 113 66 (js_il 2 1) := jo_iload_n (i := 2) (w := 2) rfl jd_113_66
theorem jk_113_67 : jx_Snd 113 67 (js_ast) := jo_ast jd_113_67
theorem jk_113_68 : jx_Snd 113 68 (js_al 0 1) := jo_aload_n (i := 0) (w := 0) rfl jd_113_68
theorem jk_113_69 : jx_Snd 113 69 (js_getf 8 39) := jo_getf rfl jf_8_83 jd_113_69
theorem jk_113_72 : jx_Snd 113 72 (js_c 3 1) := jo_iconst (z := 3) jd_113_72 rfl
theorem jk_113_73 : jx_Snd 113 73 (js_al 0 1) := jo_aload_n (i := 0) (w := 0) rfl jd_113_73
theorem jk_113_74 : jx_Snd 113 74 (js_getf 8 36) := jo_getf rfl jf_8_207 jd_113_74
theorem jk_113_77 : jx_Snd 113 77 (js_imul) := jo_imul jd_113_77
theorem jk_113_78 : jx_Snd 113 78 (js_il 3 1) := jo_iload_n (i := 3) (w := 3) rfl jd_113_78
theorem jk_113_79 : jx_Snd 113 79 (js_ast) := jo_ast jd_113_79
theorem jk_113_80 : jx_Snd 113 80 (js_al 0 1) := jo_aload_n (i := 0) (w := 0) rfl jd_113_80
theorem jk_113_81 : jx_Snd 113 81 (js_getf 8 39) := jo_getf rfl jf_8_83 jd_113_81
theorem jk_113_84 : jx_Snd 113 84 (js_c 3 1) := jo_iconst (z := 3) jd_113_84 rfl
theorem jk_113_85 : jx_Snd 113 85 (js_al 0 1) := jo_aload_n (i := 0) (w := 0) rfl jd_113_85
theorem jk_113_86 : jx_Snd 113 86 (js_getf 8 36) := jo_getf rfl jf_8_207 jd_113_86
theorem jk_113_89 : jx_Snd 113 89 (js_imul) := jo_imul jd_113_89
theorem jk_113_90 : jx_Snd 113 90 (js_c 1 1) := jo_iconst (z := 1) jd_113_90 rfl
theorem jk_113_91 : jx_Snd 113 91 (js_iadd) := jo_iadd jd_113_91
theorem jk_113_92 : jx_Snd 113 92 (js_il 4 2) := jo_iload (i := 4) jd_113_92
theorem jk_113_94 : jx_Snd 113 94 (js_ast) := jo_ast jd_113_94
theorem jk_113_95 : jx_Snd 113 95 (js_al 0 1) := jo_aload_n (i := 0) (w := 0) rfl jd_113_95
theorem jk_113_96 : jx_Snd 113 96 (js_getf 8 39) := jo_getf rfl jf_8_83 jd_113_96
theorem jk_113_99 : jx_Snd 113 99 (js_c 3 1) := jo_iconst (z := 3) jd_113_99 rfl
theorem jk_113_100 : jx_Snd 113 100 (js_al 0 1) := jo_aload_n (i := 0) (w := 0) rfl jd_113_100
theorem jk_113_101 : jx_Snd 113 101 (js_getf 8 36) := jo_getf rfl jf_8_207 jd_113_101
theorem jk_113_104 : jx_Snd 113 104 (js_imul) := jo_imul jd_113_104
theorem jk_113_105 : jx_Snd 113 105 (js_c 2 1) := jo_iconst (z := 2) jd_113_105 rfl
theorem jk_113_106 : jx_Snd 113 106 (js_iadd) := jo_iadd jd_113_106
theorem jk_113_107 : jx_Snd 113 107 (js_il 5 2) := jo_iload (i := 5) jd_113_107
theorem jk_113_109 : jx_Snd 113 109 (js_ast) := jo_ast jd_113_109
theorem jk_113_110 : jx_Snd 113 110 (js_al 0 1) := jo_aload_n (i := 0) (w := 0) rfl jd_113_110
theorem jk_113_111 : jx_Snd 113 111 (js_dup) := jo_dup jd_113_111
theorem jk_113_112 : jx_Snd 113 112 (js_getf 8 36) := jo_getf rfl jf_8_207 jd_113_112
theorem jk_113_115 : jx_Snd 113 115 (js_c 1 1) := jo_iconst (z := 1) jd_113_115 rfl
theorem jk_113_116 : jx_Snd 113 116 (js_iadd) := jo_iadd jd_113_116
theorem jk_113_117 : jx_Snd 113 117 (js_putf 8 36 false) := jo_putf (z := false) rfl jf_8_207 (fun C T N h => by cases h; rfl) jd_113_117
theorem jk_113_120 : jx_Snd 113 120 (js_c 1 1) := jo_iconst (z := 1) jd_113_120 rfl
theorem jk_113_121 : jx_Snd 113 121 (js_zr) := jo_zr rfl jd_113_121
theorem jk_113 : jx_So 113 jt_113 := fun pc => jo_le (jo_le (jo_le (jo_le (jo_le (jo_le (jo_le (jo_at (jk_113_0)) (jo_at (jk_113_1))) (jo_at (jk_113_4))) (jo_le (jo_at (jk_113_5)) (jo_at (jk_113_8)))) (jo_le (jo_le (jo_at (jk_113_9)) (jo_at (jk_113_11))) (jo_le (jo_at (jk_113_14)) (jo_at (jk_113_17))))) (jo_le (jo_le (jo_le (jo_le (jo_at (jk_113_18)) (jo_at (jk_113_20))) (jo_at (jk_113_23))) (jo_le (jo_at (jk_113_26)) (jo_at (jk_113_28)))) (jo_le (jo_le (jo_at (jk_113_30)) (jo_at (jk_113_33))) (jo_le (jo_at (jk_113_36)) (jo_at (jk_113_38)))))) (jo_le (jo_le (jo_le (jo_le (jo_le (jo_at (jk_113_40)) (jo_at (jk_113_43))) (jo_at (jk_113_46))) (jo_le (jo_at (jk_113_47)) (jo_at (jk_113_48)))) (jo_le (jo_le (jo_at (jk_113_49)) (jo_at (jk_113_52))) (jo_le (jo_at (jk_113_53)) (jo_at (jk_113_56))))) (jo_le (jo_le (jo_le (jo_at (jk_113_57)) (jo_at (jk_113_58))) (jo_le (jo_at (jk_113_59)) (jo_at (jk_113_62)))) (jo_le (jo_le (jo_at (jk_113_63)) (jo_at (jk_113_66))) (jo_le (jo_at (jk_113_67)) (jo_at (jk_113_68))))))) (jo_le (jo_le (jo_le (jo_le (jo_le (jo_le (jo_at (jk_113_69)) (jo_at (jk_113_72))) (jo_at (jk_113_73))) (jo_le (jo_at (jk_113_74)) (jo_at (jk_113_77)))) (jo_le (jo_le (jo_at (jk_113_78)) (jo_at (jk_113_79))) (jo_le (jo_at (jk_113_80)) (jo_at (jk_113_81))))) (jo_le (jo_le (jo_le (jo_le (jo_at (jk_113_84)) (jo_at (jk_113_85))) (jo_at (jk_113_86))) (jo_le (jo_at (jk_113_89)) (jo_at (jk_113_90)))) (jo_le (jo_le (jo_at (jk_113_91)) (jo_at (jk_113_92))) (jo_le (jo_at (jk_113_94)) (jo_at (jk_113_95)))))) (jo_le (jo_le (jo_le (jo_le (jo_le (jo_at (jk_113_96)) (jo_at (jk_113_99))) (jo_at (jk_113_100))) (jo_le (jo_at (jk_113_101)) (jo_at (jk_113_104)))) (jo_le (jo_le (jo_at (jk_113_105)) (jo_at (jk_113_106))) (jo_le (jo_at (jk_113_107)) (jo_at (jk_113_109))))) (jo_le (jo_le (jo_le (jo_at (jk_113_110)) (jo_at (jk_113_111))) (jo_le (jo_at (jk_113_112)) (jo_at (jk_113_115)))) (jo_le (jo_le (jo_at (jk_113_116)) (jo_at (jk_113_117))) (jo_le (jo_at (jk_113_120)) (jo_at (jk_113_121)))))))
theorem ji_113 {l : Launch} {D : va_G} {cA : ClassId} {ρ : Nat → Nat} {Λ : List jx_Lc} {d : Nat} {Q : Option Value → jx_St → Prop} {σ : jx_St} {z0 : Nat} {a1 : Int32} {a2 : Int32} {a3 : Int32} {a4 : Int32} {a5 : Int32} (h : jt_113 0 Λ jx_tb0 (jx_rn Λ jx_tb0 jt_113 (fun k' as σ K => jx_C l D cA ρ Λ d k' as σ K) Q (jx_J l D cA ρ Λ (jx_A ρ Λ) jx_tb0 (d + 1) 113 Q) [] 400) (fun k' as σ K => jx_C l D cA ρ Λ d k' as σ K) Q 0 [(0, .ref z0), (1, .int a1), (2, .int a2), (3, .int a3), (4, .int a4), (5, .int a5)] [] σ) : jx_C l D cA ρ Λ (d + 1) 113 [.ref z0, .int a1, .int a2, .int a3, .int a4, .int a5] σ Q := jx_in jk_113 400 [] rfl (Nat.le_of_ble_eq_true rfl) h
/-! ScriptLedgerModel.mint(III)Z -/
theorem jd_114_0 : decode prog_10_method_27_code 0 = .ok (.iload_n 1, 1) := by decide +kernel
theorem jd_114_1 : decode prog_10_method_27_code 1 = .ok (.iconst 1, 1) := by decide +kernel
theorem jd_114_2 : decode prog_10_method_27_code 2 = .ok (.if_icmp .lt 20, 3) := by decide +kernel
theorem jd_114_5 : decode prog_10_method_27_code 5 = .ok (.iload_n 1, 1) := by decide +kernel
theorem jd_114_6 : decode prog_10_method_27_code 6 = .ok (.iconst 2, 1) := by decide +kernel
theorem jd_114_7 : decode prog_10_method_27_code 7 = .ok (.if_icmp .gt 15, 3) := by decide +kernel
theorem jd_114_10 : decode prog_10_method_27_code 10 = .ok (.iload_n 2, 1) := by decide +kernel
theorem jd_114_11 : decode prog_10_method_27_code 11 = .ok (.ldc 226, 2) := by decide +kernel
theorem jd_114_13 : decode prog_10_method_27_code 13 = .ok (.if_icmp .lt 9, 3) := by decide +kernel
theorem jd_114_16 : decode prog_10_method_27_code 16 = .ok (.iload_n 2, 1) := by decide +kernel
theorem jd_114_17 : decode prog_10_method_27_code 17 = .ok (.ldc 227, 2) := by decide +kernel
theorem jd_114_19 : decode prog_10_method_27_code 19 = .ok (.if_icmp .le 5, 3) := by decide +kernel
theorem jd_114_22 : decode prog_10_method_27_code 22 = .ok (.iconst 0, 1) := by decide +kernel
theorem jd_114_23 : decode prog_10_method_27_code 23 = .ok (.ireturn, 1) := by decide +kernel
theorem jd_114_24 : decode prog_10_method_27_code 24 = .ok (.aload_n 0, 1) := by decide +kernel
theorem jd_114_25 : decode prog_10_method_27_code 25 = .ok (.getfield 86, 3) := by decide +kernel
theorem jd_114_28 : decode prog_10_method_27_code 28 = .ok (.iload_n 1, 1) := by decide +kernel
theorem jd_114_29 : decode prog_10_method_27_code 29 = .ok (.iload_n 2, 1) := by decide +kernel
theorem jd_114_30 : decode prog_10_method_27_code 30 = .ok (.iastore, 1) := by decide +kernel
theorem jd_114_31 : decode prog_10_method_27_code 31 = .ok (.aload_n 0, 1) := by decide +kernel
theorem jd_114_32 : decode prog_10_method_27_code 32 = .ok (.getfield 89, 3) := by decide +kernel
theorem jd_114_35 : decode prog_10_method_27_code 35 = .ok (.iload_n 1, 1) := by decide +kernel
theorem jd_114_36 : decode prog_10_method_27_code 36 = .ok (.iload_n 3, 1) := by decide +kernel
theorem jd_114_37 : decode prog_10_method_27_code 37 = .ok (.iastore, 1) := by decide +kernel
theorem jd_114_38 : decode prog_10_method_27_code 38 = .ok (.iconst 1, 1) := by decide +kernel
theorem jd_114_39 : decode prog_10_method_27_code 39 = .ok (.ireturn, 1) := by decide +kernel
def jt_114 (pc : Nat) : jx_Sp := bif Nat.ble pc 22 then (bif Nat.ble pc 10 then (bif Nat.ble pc 5 then (bif Nat.ble pc 1 then (bif Nat.ble pc 0 then (bif Nat.beq pc 0 then js_il 1 1 else js_none) else (bif Nat.beq pc 1 then js_c 1 1 else js_none)) else (bif Nat.ble pc 2 then (bif Nat.beq pc 2 then js_clt 22 else js_none) else (bif Nat.beq pc 5 then js_il 1 1 else js_none))) else (bif Nat.ble pc 7 then (bif Nat.ble pc 6 then (bif Nat.beq pc 6 then js_c 2 1 else js_none) else (bif Nat.beq pc 7 then js_cgt 22 else js_none)) else (bif Nat.beq pc 10 then js_il 2 1 else js_none))) else (bif Nat.ble pc 16 then (bif Nat.ble pc 13 then (bif Nat.ble pc 11 then (bif Nat.beq pc 11 then js_c (-1000000) 2 else js_none) else (bif Nat.beq pc 13 then js_clt 22 else js_none)) else (bif Nat.beq pc 16 then js_il 2 1 else js_none)) else (bif Nat.ble pc 19 then (bif Nat.ble pc 17 then (bif Nat.beq pc 17 then js_c 1000000 2 else js_none) else (bif Nat.beq pc 19 then js_cle 24 else js_none)) else (bif Nat.beq pc 22 then js_c 0 1 else js_none)))) else (bif Nat.ble pc 31 then (bif Nat.ble pc 28 then (bif Nat.ble pc 24 then (bif Nat.ble pc 23 then (bif Nat.beq pc 23 then js_zr else js_none) else (bif Nat.beq pc 24 then js_al 0 1 else js_none)) else (bif Nat.ble pc 25 then (bif Nat.beq pc 25 then js_getf 8 40 else js_none) else (bif Nat.beq pc 28 then js_il 1 1 else js_none))) else (bif Nat.ble pc 30 then (bif Nat.ble pc 29 then (bif Nat.beq pc 29 then js_il 2 1 else js_none) else (bif Nat.beq pc 30 then js_ast else js_none)) else (bif Nat.beq pc 31 then js_al 0 1 else js_none))) else (bif Nat.ble pc 36 then (bif Nat.ble pc 35 then (bif Nat.ble pc 32 then (bif Nat.beq pc 32 then js_getf 8 41 else js_none) else (bif Nat.beq pc 35 then js_il 1 1 else js_none)) else (bif Nat.beq pc 36 then js_il 3 1 else js_none)) else (bif Nat.ble pc 38 then (bif Nat.ble pc 37 then (bif Nat.beq pc 37 then js_ast else js_none) else (bif Nat.beq pc 38 then js_c 1 1 else js_none)) else (bif Nat.beq pc 39 then js_zr else js_none))))
theorem jk_114_0 : jx_Snd 114 0 (js_il 1 1) := jo_iload_n (i := 1) (w := 1) rfl jd_114_0
theorem jk_114_1 : jx_Snd 114 1 (js_c 1 1) := jo_iconst (z := 1) jd_114_1 rfl
theorem jk_114_2 : jx_Snd 114 2 (js_clt 22) := jo_clt (o := 20) rfl jd_114_2
theorem jk_114_5 : jx_Snd 114 5 (js_il 1 1) := jo_iload_n (i := 1) (w := 1) rfl jd_114_5
theorem jk_114_6 : jx_Snd 114 6 (js_c 2 1) := jo_iconst (z := 2) jd_114_6 rfl
theorem jk_114_7 : jx_Snd 114 7 (js_cgt 22) := jo_cgt (o := 15) rfl jd_114_7
theorem jk_114_10 : jx_Snd 114 10 (js_il 2 1) := jo_iload_n (i := 2) (w := 2) rfl jd_114_10
theorem jk_114_11 : jx_Snd 114 11 (js_c (-1000000) 2) := jo_ldc (ix := 226) rfl jw_604 jd_114_11
theorem jk_114_13 : jx_Snd 114 13 (js_clt 22) := jo_clt (o := 9) rfl jd_114_13
theorem jk_114_16 : jx_Snd 114 16 (js_il 2 1) := jo_iload_n (i := 2) (w := 2) rfl jd_114_16
theorem jk_114_17 : jx_Snd 114 17 (js_c 1000000 2) := jo_ldc (ix := 227) rfl jw_605 jd_114_17
theorem jk_114_19 : jx_Snd 114 19 (js_cle 24) := jo_cle (o := 5) rfl jd_114_19
theorem jk_114_22 : jx_Snd 114 22 (js_c 0 1) := jo_iconst (z := 0) jd_114_22 rfl
theorem jk_114_23 : jx_Snd 114 23 (js_zr) := jo_zr rfl jd_114_23
theorem jk_114_24 : jx_Snd 114 24 (js_al 0 1) := jo_aload_n (i := 0) (w := 0) rfl jd_114_24
theorem jk_114_25 : jx_Snd 114 25 (js_getf 8 40) := jo_getf rfl jf_8_86 jd_114_25
theorem jk_114_28 : jx_Snd 114 28 (js_il 1 1) := jo_iload_n (i := 1) (w := 1) rfl jd_114_28
theorem jk_114_29 : jx_Snd 114 29 (js_il 2 1) := jo_iload_n (i := 2) (w := 2) rfl jd_114_29
theorem jk_114_30 : jx_Snd 114 30 (js_ast) := jo_ast jd_114_30
theorem jk_114_31 : jx_Snd 114 31 (js_al 0 1) := jo_aload_n (i := 0) (w := 0) rfl jd_114_31
theorem jk_114_32 : jx_Snd 114 32 (js_getf 8 41) := jo_getf rfl jf_8_89 jd_114_32
theorem jk_114_35 : jx_Snd 114 35 (js_il 1 1) := jo_iload_n (i := 1) (w := 1) rfl jd_114_35
theorem jk_114_36 : jx_Snd 114 36 (js_il 3 1) := jo_iload_n (i := 3) (w := 3) rfl jd_114_36
theorem jk_114_37 : jx_Snd 114 37 (js_ast) := jo_ast jd_114_37
theorem jk_114_38 : jx_Snd 114 38 (js_c 1 1) := jo_iconst (z := 1) jd_114_38 rfl
theorem jk_114_39 : jx_Snd 114 39 (js_zr) := jo_zr rfl jd_114_39
theorem jk_114 : jx_So 114 jt_114 := fun pc => jo_le (jo_le (jo_le (jo_le (jo_le (jo_at (jk_114_0)) (jo_at (jk_114_1))) (jo_le (jo_at (jk_114_2)) (jo_at (jk_114_5)))) (jo_le (jo_le (jo_at (jk_114_6)) (jo_at (jk_114_7))) (jo_at (jk_114_10)))) (jo_le (jo_le (jo_le (jo_at (jk_114_11)) (jo_at (jk_114_13))) (jo_at (jk_114_16))) (jo_le (jo_le (jo_at (jk_114_17)) (jo_at (jk_114_19))) (jo_at (jk_114_22))))) (jo_le (jo_le (jo_le (jo_le (jo_at (jk_114_23)) (jo_at (jk_114_24))) (jo_le (jo_at (jk_114_25)) (jo_at (jk_114_28)))) (jo_le (jo_le (jo_at (jk_114_29)) (jo_at (jk_114_30))) (jo_at (jk_114_31)))) (jo_le (jo_le (jo_le (jo_at (jk_114_32)) (jo_at (jk_114_35))) (jo_at (jk_114_36))) (jo_le (jo_le (jo_at (jk_114_37)) (jo_at (jk_114_38))) (jo_at (jk_114_39)))))
theorem ji_114 {l : Launch} {D : va_G} {cA : ClassId} {ρ : Nat → Nat} {Λ : List jx_Lc} {d : Nat} {Q : Option Value → jx_St → Prop} {σ : jx_St} {z0 : Nat} {a1 : Int32} {a2 : Int32} {a3 : Int32} (h : jt_114 0 Λ jx_tb0 (jx_rn Λ jx_tb0 jt_114 (fun k' as σ K => jx_C l D cA ρ Λ d k' as σ K) Q (jx_J l D cA ρ Λ (jx_A ρ Λ) jx_tb0 (d + 1) 114 Q) [] 400) (fun k' as σ K => jx_C l D cA ρ Λ d k' as σ K) Q 0 [(0, .ref z0), (1, .int a1), (2, .int a2), (3, .int a3)] [] σ) : jx_C l D cA ρ Λ (d + 1) 114 [.ref z0, .int a1, .int a2, .int a3] σ Q := jx_in jk_114 400 [] rfl (Nat.le_of_ble_eq_true rfl) h
/-! ScriptLedgerModel.terms(IIIII)Z -/
theorem jd_115_0 : decode prog_10_method_28_code 0 = .ok (.iload_n 1, 1) := by decide +kernel
theorem jd_115_1 : decode prog_10_method_28_code 1 = .ok (.ldc 225, 2) := by decide +kernel
theorem jd_115_3 : decode prog_10_method_28_code 3 = .ok (.invokestatic 197, 3) := by decide +kernel
theorem jd_115_6 : decode prog_10_method_28_code 6 = .ok (.ifCond .ne 23, 3) := by decide +kernel
theorem jd_115_9 : decode prog_10_method_28_code 9 = .ok (.iload 4, 2) := by decide +kernel
theorem jd_115_11 : decode prog_10_method_28_code 11 = .ok (.bipush 16, 2) := by decide +kernel
theorem jd_115_13 : decode prog_10_method_28_code 13 = .ok (.invokestatic 197, 3) := by decide +kernel
theorem jd_115_16 : decode prog_10_method_28_code 16 = .ok (.ifCond .ne 13, 3) := by decide +kernel
theorem jd_115_19 : decode prog_10_method_28_code 19 = .ok (.iload 5, 2) := by decide +kernel
theorem jd_115_21 : decode prog_10_method_28_code 21 = .ok (.bipush 100, 2) := by decide +kernel
theorem jd_115_23 : decode prog_10_method_28_code 23 = .ok (.invokestatic 197, 3) := by decide +kernel
theorem jd_115_26 : decode prog_10_method_28_code 26 = .ok (.ifCond .eq 5, 3) := by decide +kernel
theorem jd_115_29 : decode prog_10_method_28_code 29 = .ok (.iconst 0, 1) := by decide +kernel
theorem jd_115_30 : decode prog_10_method_28_code 30 = .ok (.ireturn, 1) := by decide +kernel
theorem jd_115_31 : decode prog_10_method_28_code 31 = .ok (.aload_n 0, 1) := by decide +kernel
theorem jd_115_32 : decode prog_10_method_28_code 32 = .ok (.iload_n 1, 1) := by decide +kernel
theorem jd_115_33 : decode prog_10_method_28_code 33 = .ok (.putfield 210, 3) := by decide +kernel
theorem jd_115_36 : decode prog_10_method_28_code 36 = .ok (.aload_n 0, 1) := by decide +kernel
theorem jd_115_37 : decode prog_10_method_28_code 37 = .ok (.iload_n 2, 1) := by decide +kernel
theorem jd_115_38 : decode prog_10_method_28_code 38 = .ok (.putfield 213, 3) := by decide +kernel
theorem jd_115_41 : decode prog_10_method_28_code 41 = .ok (.aload_n 0, 1) := by decide +kernel
theorem jd_115_42 : decode prog_10_method_28_code 42 = .ok (.iload_n 3, 1) := by decide +kernel
theorem jd_115_43 : decode prog_10_method_28_code 43 = .ok (.putfield 92, 3) := by decide +kernel
theorem jd_115_46 : decode prog_10_method_28_code 46 = .ok (.aload_n 0, 1) := by decide +kernel
theorem jd_115_47 : decode prog_10_method_28_code 47 = .ok (.iload 4, 2) := by decide +kernel
theorem jd_115_49 : decode prog_10_method_28_code 49 = .ok (.putfield 216, 3) := by decide +kernel
theorem jd_115_52 : decode prog_10_method_28_code 52 = .ok (.aload_n 0, 1) := by decide +kernel
theorem jd_115_53 : decode prog_10_method_28_code 53 = .ok (.iload 5, 2) := by decide +kernel
theorem jd_115_55 : decode prog_10_method_28_code 55 = .ok (.putfield 219, 3) := by decide +kernel
theorem jd_115_58 : decode prog_10_method_28_code 58 = .ok (.iconst 1, 1) := by decide +kernel
theorem jd_115_59 : decode prog_10_method_28_code 59 = .ok (.ireturn, 1) := by decide +kernel
def jt_115 (pc : Nat) : jx_Sp := bif Nat.ble pc 32 then (bif Nat.ble pc 16 then (bif Nat.ble pc 6 then (bif Nat.ble pc 1 then (bif Nat.ble pc 0 then (bif Nat.beq pc 0 then js_il 1 1 else js_none) else (bif Nat.beq pc 1 then js_c 1000001 2 else js_none)) else (bif Nat.ble pc 3 then (bif Nat.beq pc 3 then js_s2 89 else js_none) else (bif Nat.beq pc 6 then js_ifne 29 else js_none))) else (bif Nat.ble pc 11 then (bif Nat.ble pc 9 then (bif Nat.beq pc 9 then js_il 4 2 else js_none) else (bif Nat.beq pc 11 then js_c 16 2 else js_none)) else (bif Nat.ble pc 13 then (bif Nat.beq pc 13 then js_s2 89 else js_none) else (bif Nat.beq pc 16 then js_ifne 29 else js_none)))) else (bif Nat.ble pc 26 then (bif Nat.ble pc 21 then (bif Nat.ble pc 19 then (bif Nat.beq pc 19 then js_il 5 2 else js_none) else (bif Nat.beq pc 21 then js_c 100 2 else js_none)) else (bif Nat.ble pc 23 then (bif Nat.beq pc 23 then js_s2 89 else js_none) else (bif Nat.beq pc 26 then js_ifeq 31 else js_none))) else (bif Nat.ble pc 30 then (bif Nat.ble pc 29 then (bif Nat.beq pc 29 then js_c 0 1 else js_none) else (bif Nat.beq pc 30 then js_zr else js_none)) else (bif Nat.ble pc 31 then (bif Nat.beq pc 31 then js_al 0 1 else js_none) else (bif Nat.beq pc 32 then js_il 1 1 else js_none))))) else (bif Nat.ble pc 46 then (bif Nat.ble pc 38 then (bif Nat.ble pc 36 then (bif Nat.ble pc 33 then (bif Nat.beq pc 33 then js_putf 8 42 false else js_none) else (bif Nat.beq pc 36 then js_al 0 1 else js_none)) else (bif Nat.ble pc 37 then (bif Nat.beq pc 37 then js_il 2 1 else js_none) else (bif Nat.beq pc 38 then js_putf 8 43 false else js_none))) else (bif Nat.ble pc 42 then (bif Nat.ble pc 41 then (bif Nat.beq pc 41 then js_al 0 1 else js_none) else (bif Nat.beq pc 42 then js_il 3 1 else js_none)) else (bif Nat.ble pc 43 then (bif Nat.beq pc 43 then js_putf 8 44 false else js_none) else (bif Nat.beq pc 46 then js_al 0 1 else js_none)))) else (bif Nat.ble pc 53 then (bif Nat.ble pc 49 then (bif Nat.ble pc 47 then (bif Nat.beq pc 47 then js_il 4 2 else js_none) else (bif Nat.beq pc 49 then js_putf 8 45 false else js_none)) else (bif Nat.ble pc 52 then (bif Nat.beq pc 52 then js_al 0 1 else js_none) else (bif Nat.beq pc 53 then js_il 5 2 else js_none))) else (bif Nat.ble pc 58 then (bif Nat.ble pc 55 then (bif Nat.beq pc 55 then js_putf 8 46 false else js_none) else (bif Nat.beq pc 58 then js_c 1 1 else js_none)) else (bif Nat.beq pc 59 then js_zr else js_none))))
theorem jk_115_0 : jx_Snd 115 0 (js_il 1 1) := jo_iload_n (i := 1) (w := 1) rfl jd_115_0
theorem jk_115_1 : jx_Snd 115 1 (js_c 1000001 2) := jo_ldc (ix := 225) rfl jw_599 jd_115_1
theorem jk_115_3 : jx_Snd 115 3 (js_s2 89) := jo_s2 rfl jok_89 (Or.inl jw_532) jw_533 jd_115_3
theorem jk_115_6 : jx_Snd 115 6 (js_ifne 29) := jo_ifne (o := 23) rfl jd_115_6
theorem jk_115_9 : jx_Snd 115 9 (js_il 4 2) := jo_iload (i := 4) jd_115_9
theorem jk_115_11 : jx_Snd 115 11 (js_c 16 2) := jo_bipush (z := 16) jd_115_11 (by decide +kernel)
theorem jk_115_13 : jx_Snd 115 13 (js_s2 89) := jo_s2 rfl jok_89 (Or.inl jw_532) jw_533 jd_115_13
theorem jk_115_16 : jx_Snd 115 16 (js_ifne 29) := jo_ifne (o := 13) rfl jd_115_16
theorem jk_115_19 : jx_Snd 115 19 (js_il 5 2) := jo_iload (i := 5) jd_115_19
theorem jk_115_21 : jx_Snd 115 21 (js_c 100 2) := jo_bipush (z := 100) jd_115_21 (by decide +kernel)
theorem jk_115_23 : jx_Snd 115 23 (js_s2 89) := jo_s2 rfl jok_89 (Or.inl jw_532) jw_533 jd_115_23
theorem jk_115_26 : jx_Snd 115 26 (js_ifeq 31) := jo_ifeq (o := 5) rfl jd_115_26
theorem jk_115_29 : jx_Snd 115 29 (js_c 0 1) := jo_iconst (z := 0) jd_115_29 rfl
theorem jk_115_30 : jx_Snd 115 30 (js_zr) := jo_zr rfl jd_115_30
theorem jk_115_31 : jx_Snd 115 31 (js_al 0 1) := jo_aload_n (i := 0) (w := 0) rfl jd_115_31
theorem jk_115_32 : jx_Snd 115 32 (js_il 1 1) := jo_iload_n (i := 1) (w := 1) rfl jd_115_32
theorem jk_115_33 : jx_Snd 115 33 (js_putf 8 42 false) := jo_putf (z := false) rfl jf_8_210 (fun C T N h => by cases h; rfl) jd_115_33
theorem jk_115_36 : jx_Snd 115 36 (js_al 0 1) := jo_aload_n (i := 0) (w := 0) rfl jd_115_36
theorem jk_115_37 : jx_Snd 115 37 (js_il 2 1) := jo_iload_n (i := 2) (w := 2) rfl jd_115_37
theorem jk_115_38 : jx_Snd 115 38 (js_putf 8 43 false) := jo_putf (z := false) rfl jf_8_213 (fun C T N h => by cases h; rfl) jd_115_38
theorem jk_115_41 : jx_Snd 115 41 (js_al 0 1) := jo_aload_n (i := 0) (w := 0) rfl jd_115_41
theorem jk_115_42 : jx_Snd 115 42 (js_il 3 1) := jo_iload_n (i := 3) (w := 3) rfl jd_115_42
theorem jk_115_43 : jx_Snd 115 43 (js_putf 8 44 false) := jo_putf (z := false) rfl jf_8_92 (fun C T N h => by cases h; rfl) jd_115_43
theorem jk_115_46 : jx_Snd 115 46 (js_al 0 1) := jo_aload_n (i := 0) (w := 0) rfl jd_115_46
theorem jk_115_47 : jx_Snd 115 47 (js_il 4 2) := jo_iload (i := 4) jd_115_47
theorem jk_115_49 : jx_Snd 115 49 (js_putf 8 45 false) := jo_putf (z := false) rfl jf_8_216 (fun C T N h => by cases h; rfl) jd_115_49
theorem jk_115_52 : jx_Snd 115 52 (js_al 0 1) := jo_aload_n (i := 0) (w := 0) rfl jd_115_52
theorem jk_115_53 : jx_Snd 115 53 (js_il 5 2) := jo_iload (i := 5) jd_115_53
theorem jk_115_55 : jx_Snd 115 55 (js_putf 8 46 false) := jo_putf (z := false) rfl jf_8_219 (fun C T N h => by cases h; rfl) jd_115_55
theorem jk_115_58 : jx_Snd 115 58 (js_c 1 1) := jo_iconst (z := 1) jd_115_58 rfl
theorem jk_115_59 : jx_Snd 115 59 (js_zr) := jo_zr rfl jd_115_59
theorem jk_115 : jx_So 115 jt_115 := fun pc => jo_le (jo_le (jo_le (jo_le (jo_le (jo_at (jk_115_0)) (jo_at (jk_115_1))) (jo_le (jo_at (jk_115_3)) (jo_at (jk_115_6)))) (jo_le (jo_le (jo_at (jk_115_9)) (jo_at (jk_115_11))) (jo_le (jo_at (jk_115_13)) (jo_at (jk_115_16))))) (jo_le (jo_le (jo_le (jo_at (jk_115_19)) (jo_at (jk_115_21))) (jo_le (jo_at (jk_115_23)) (jo_at (jk_115_26)))) (jo_le (jo_le (jo_at (jk_115_29)) (jo_at (jk_115_30))) (jo_le (jo_at (jk_115_31)) (jo_at (jk_115_32)))))) (jo_le (jo_le (jo_le (jo_le (jo_at (jk_115_33)) (jo_at (jk_115_36))) (jo_le (jo_at (jk_115_37)) (jo_at (jk_115_38)))) (jo_le (jo_le (jo_at (jk_115_41)) (jo_at (jk_115_42))) (jo_le (jo_at (jk_115_43)) (jo_at (jk_115_46))))) (jo_le (jo_le (jo_le (jo_at (jk_115_47)) (jo_at (jk_115_49))) (jo_le (jo_at (jk_115_52)) (jo_at (jk_115_53)))) (jo_le (jo_le (jo_at (jk_115_55)) (jo_at (jk_115_58))) (jo_at (jk_115_59)))))
theorem ji_115 {l : Launch} {D : va_G} {cA : ClassId} {ρ : Nat → Nat} {Λ : List jx_Lc} {d : Nat} {Q : Option Value → jx_St → Prop} {σ : jx_St} {z0 : Nat} {a1 : Int32} {a2 : Int32} {a3 : Int32} {a4 : Int32} {a5 : Int32} (h : jt_115 0 Λ jx_tb0 (jx_rn Λ jx_tb0 jt_115 (fun k' as σ K => jx_C l D cA ρ Λ d k' as σ K) Q (jx_J l D cA ρ Λ (jx_A ρ Λ) jx_tb0 (d + 1) 115 Q) [] 400) (fun k' as σ K => jx_C l D cA ρ Λ d k' as σ K) Q 0 [(0, .ref z0), (1, .int a1), (2, .int a2), (3, .int a3), (4, .int a4), (5, .int a5)] [] σ) : jx_C l D cA ρ Λ (d + 1) 115 [.ref z0, .int a1, .int a2, .int a3, .int a4, .int a5] σ Q := jx_in jk_115 400 [] rfl (Nat.le_of_ble_eq_true rfl) h
/-! ScriptLedgerModel.guarantee(I)Z -/
theorem jd_116_0 : decode prog_10_method_29_code 0 = .ok (.iload_n 1, 1) := by decide +kernel
theorem jd_116_1 : decode prog_10_method_29_code 1 = .ok (.ifCond .ge 5, 3) := by decide +kernel
theorem jd_116_4 : decode prog_10_method_29_code 4 = .ok (.iconst 0, 1) := by decide +kernel
theorem jd_116_5 : decode prog_10_method_29_code 5 = .ok (.ireturn, 1) := by decide +kernel
theorem jd_116_6 : decode prog_10_method_29_code 6 = .ok (.aload_n 0, 1) := by decide +kernel
theorem jd_116_7 : decode prog_10_method_29_code 7 = .ok (.iload_n 1, 1) := by decide +kernel
theorem jd_116_8 : decode prog_10_method_29_code 8 = .ok (.putfield 95, 3) := by decide +kernel
theorem jd_116_11 : decode prog_10_method_29_code 11 = .ok (.iconst 1, 1) := by decide +kernel
theorem jd_116_12 : decode prog_10_method_29_code 12 = .ok (.ireturn, 1) := by decide +kernel
def jt_116 (pc : Nat) : jx_Sp := bif Nat.ble pc 6 then (bif Nat.ble pc 4 then (bif Nat.ble pc 1 then (bif Nat.ble pc 0 then (bif Nat.beq pc 0 then js_il 1 1 else js_none) else (bif Nat.beq pc 1 then js_ifge 6 else js_none)) else (bif Nat.beq pc 4 then js_c 0 1 else js_none)) else (bif Nat.ble pc 5 then (bif Nat.beq pc 5 then js_zr else js_none) else (bif Nat.beq pc 6 then js_al 0 1 else js_none))) else (bif Nat.ble pc 8 then (bif Nat.ble pc 7 then (bif Nat.beq pc 7 then js_il 1 1 else js_none) else (bif Nat.beq pc 8 then js_putf 8 47 false else js_none)) else (bif Nat.ble pc 11 then (bif Nat.beq pc 11 then js_c 1 1 else js_none) else (bif Nat.beq pc 12 then js_zr else js_none)))
theorem jk_116_0 : jx_Snd 116 0 (js_il 1 1) := jo_iload_n (i := 1) (w := 1) rfl jd_116_0
theorem jk_116_1 : jx_Snd 116 1 (js_ifge 6) := jo_ifge (o := 5) rfl jd_116_1
theorem jk_116_4 : jx_Snd 116 4 (js_c 0 1) := jo_iconst (z := 0) jd_116_4 rfl
theorem jk_116_5 : jx_Snd 116 5 (js_zr) := jo_zr rfl jd_116_5
theorem jk_116_6 : jx_Snd 116 6 (js_al 0 1) := jo_aload_n (i := 0) (w := 0) rfl jd_116_6
theorem jk_116_7 : jx_Snd 116 7 (js_il 1 1) := jo_iload_n (i := 1) (w := 1) rfl jd_116_7
theorem jk_116_8 : jx_Snd 116 8 (js_putf 8 47 false) := jo_putf (z := false) rfl jf_8_95 (fun C T N h => by cases h; rfl) jd_116_8
theorem jk_116_11 : jx_Snd 116 11 (js_c 1 1) := jo_iconst (z := 1) jd_116_11 rfl
theorem jk_116_12 : jx_Snd 116 12 (js_zr) := jo_zr rfl jd_116_12
theorem jk_116 : jx_So 116 jt_116 := fun pc => jo_le (jo_le (jo_le (jo_le (jo_at (jk_116_0)) (jo_at (jk_116_1))) (jo_at (jk_116_4))) (jo_le (jo_at (jk_116_5)) (jo_at (jk_116_6)))) (jo_le (jo_le (jo_at (jk_116_7)) (jo_at (jk_116_8))) (jo_le (jo_at (jk_116_11)) (jo_at (jk_116_12))))
theorem ji_116 {l : Launch} {D : va_G} {cA : ClassId} {ρ : Nat → Nat} {Λ : List jx_Lc} {d : Nat} {Q : Option Value → jx_St → Prop} {σ : jx_St} {z0 : Nat} {a1 : Int32} (h : jt_116 0 Λ jx_tb0 (jx_rn Λ jx_tb0 jt_116 (fun k' as σ K => jx_C l D cA ρ Λ d k' as σ K) Q (jx_J l D cA ρ Λ (jx_A ρ Λ) jx_tb0 (d + 1) 116 Q) [] 400) (fun k' as σ K => jx_C l D cA ρ Λ d k' as σ K) Q 0 [(0, .ref z0), (1, .int a1)] [] σ) : jx_C l D cA ρ Λ (d + 1) 116 [.ref z0, .int a1] σ Q := jx_in jk_116 400 [] rfl (Nat.le_of_ble_eq_true rfl) h
/-! ScriptLedgerModel.there(I)Z -/
theorem jd_117_0 : decode prog_10_method_30_code 0 = .ok (.iload_n 1, 1) := by decide +kernel
theorem jd_117_1 : decode prog_10_method_30_code 1 = .ok (.aload_n 0, 1) := by decide +kernel
theorem jd_117_2 : decode prog_10_method_30_code 2 = .ok (.getfield 104, 3) := by decide +kernel
theorem jd_117_5 : decode prog_10_method_30_code 5 = .ok (.invokestatic 197, 3) := by decide +kernel
theorem jd_117_8 : decode prog_10_method_30_code 8 = .ok (.ifCond .ne 16, 3) := by decide +kernel
theorem jd_117_11 : decode prog_10_method_30_code 11 = .ok (.aload_n 0, 1) := by decide +kernel
theorem jd_117_12 : decode prog_10_method_30_code 12 = .ok (.getfield 65, 3) := by decide +kernel
theorem jd_117_15 : decode prog_10_method_30_code 15 = .ok (.iload_n 1, 1) := by decide +kernel
theorem jd_117_16 : decode prog_10_method_30_code 16 = .ok (.iaload, 1) := by decide +kernel
theorem jd_117_17 : decode prog_10_method_30_code 17 = .ok (.ifCond .ge 7, 3) := by decide +kernel
theorem jd_117_20 : decode prog_10_method_30_code 20 = .ok (.iconst 1, 1) := by decide +kernel
theorem jd_117_21 : decode prog_10_method_30_code 21 = .ok (.goto 4, 3) := by decide +kernel
theorem jd_117_24 : decode prog_10_method_30_code 24 = .ok (.iconst 0, 1) := by decide +kernel
theorem jd_117_25 : decode prog_10_method_30_code 25 = .ok (.ireturn, 1) := by decide +kernel
def jt_117 (pc : Nat) : jx_Sp := bif Nat.ble pc 12 then (bif Nat.ble pc 5 then (bif Nat.ble pc 1 then (bif Nat.ble pc 0 then (bif Nat.beq pc 0 then js_il 1 1 else js_none) else (bif Nat.beq pc 1 then js_al 0 1 else js_none)) else (bif Nat.ble pc 2 then (bif Nat.beq pc 2 then js_getf 8 25 else js_none) else (bif Nat.beq pc 5 then js_s2 89 else js_none))) else (bif Nat.ble pc 11 then (bif Nat.ble pc 8 then (bif Nat.beq pc 8 then js_ifne 24 else js_none) else (bif Nat.beq pc 11 then js_al 0 1 else js_none)) else (bif Nat.beq pc 12 then js_getf 8 30 else js_none))) else (bif Nat.ble pc 20 then (bif Nat.ble pc 16 then (bif Nat.ble pc 15 then (bif Nat.beq pc 15 then js_il 1 1 else js_none) else (bif Nat.beq pc 16 then js_ald else js_none)) else (bif Nat.ble pc 17 then (bif Nat.beq pc 17 then js_ifge 24 else js_none) else (bif Nat.beq pc 20 then js_c 1 1 else js_none))) else (bif Nat.ble pc 24 then (bif Nat.ble pc 21 then (bif Nat.beq pc 21 then js_go 25 else js_none) else (bif Nat.beq pc 24 then js_c 0 1 else js_none)) else (bif Nat.beq pc 25 then js_zr else js_none)))
theorem jk_117_0 : jx_Snd 117 0 (js_il 1 1) := jo_iload_n (i := 1) (w := 1) rfl jd_117_0
theorem jk_117_1 : jx_Snd 117 1 (js_al 0 1) := jo_aload_n (i := 0) (w := 0) rfl jd_117_1
theorem jk_117_2 : jx_Snd 117 2 (js_getf 8 25) := jo_getf rfl jf_8_104 jd_117_2
theorem jk_117_5 : jx_Snd 117 5 (js_s2 89) := jo_s2 rfl jok_89 (Or.inl jw_532) jw_533 jd_117_5
theorem jk_117_8 : jx_Snd 117 8 (js_ifne 24) := jo_ifne (o := 16) rfl jd_117_8
theorem jk_117_11 : jx_Snd 117 11 (js_al 0 1) := jo_aload_n (i := 0) (w := 0) rfl jd_117_11
theorem jk_117_12 : jx_Snd 117 12 (js_getf 8 30) := jo_getf rfl jf_8_65 jd_117_12
theorem jk_117_15 : jx_Snd 117 15 (js_il 1 1) := jo_iload_n (i := 1) (w := 1) rfl jd_117_15
theorem jk_117_16 : jx_Snd 117 16 (js_ald) := jo_ald jd_117_16
theorem jk_117_17 : jx_Snd 117 17 (js_ifge 24) := jo_ifge (o := 7) rfl jd_117_17
theorem jk_117_20 : jx_Snd 117 20 (js_c 1 1) := jo_iconst (z := 1) jd_117_20 rfl
theorem jk_117_21 : jx_Snd 117 21 (js_go 25) := jo_goto (o := 4) rfl jd_117_21
theorem jk_117_24 : jx_Snd 117 24 (js_c 0 1) := jo_iconst (z := 0) jd_117_24 rfl
theorem jk_117_25 : jx_Snd 117 25 (js_zr) := jo_zr rfl jd_117_25
theorem jk_117 : jx_So 117 jt_117 := fun pc => jo_le (jo_le (jo_le (jo_le (jo_at (jk_117_0)) (jo_at (jk_117_1))) (jo_le (jo_at (jk_117_2)) (jo_at (jk_117_5)))) (jo_le (jo_le (jo_at (jk_117_8)) (jo_at (jk_117_11))) (jo_at (jk_117_12)))) (jo_le (jo_le (jo_le (jo_at (jk_117_15)) (jo_at (jk_117_16))) (jo_le (jo_at (jk_117_17)) (jo_at (jk_117_20)))) (jo_le (jo_le (jo_at (jk_117_21)) (jo_at (jk_117_24))) (jo_at (jk_117_25))))
theorem ji_117 {l : Launch} {D : va_G} {cA : ClassId} {ρ : Nat → Nat} {Λ : List jx_Lc} {d : Nat} {Q : Option Value → jx_St → Prop} {σ : jx_St} {z0 : Nat} {a1 : Int32} (h : jt_117 0 Λ jx_tb0 (jx_rn Λ jx_tb0 jt_117 (fun k' as σ K => jx_C l D cA ρ Λ d k' as σ K) Q (jx_J l D cA ρ Λ (jx_A ρ Λ) jx_tb0 (d + 1) 117 Q) [] 400) (fun k' as σ K => jx_C l D cA ρ Λ d k' as σ K) Q 0 [(0, .ref z0), (1, .int a1)] [] σ) : jx_C l D cA ρ Λ (d + 1) 117 [.ref z0, .int a1] σ Q := jx_in jk_117 400 [] rfl (Nat.le_of_ble_eq_true rfl) h
/-! ScriptLedgerModel.inputsThere()Z -/
theorem jd_118_0 : decode prog_10_method_31_code 0 = .ok (.iconst 1, 1) := by decide +kernel
theorem jd_118_1 : decode prog_10_method_31_code 1 = .ok (.istore_n 1, 1) := by decide +kernel
theorem jd_118_2 : decode prog_10_method_31_code 2 = .ok (.iconst 0, 1) := by decide +kernel
theorem jd_118_3 : decode prog_10_method_31_code 3 = .ok (.istore_n 2, 1) := by decide +kernel
theorem jd_118_4 : decode prog_10_method_31_code 4 = .ok (.iload_n 2, 1) := by decide +kernel
theorem jd_118_5 : decode prog_10_method_31_code 5 = .ok (.aload_n 0, 1) := by decide +kernel
theorem jd_118_6 : decode prog_10_method_31_code 6 = .ok (.getfield 204, 3) := by decide +kernel
theorem jd_118_9 : decode prog_10_method_31_code 9 = .ok (.if_icmp .ge 32, 3) := by decide +kernel
theorem jd_118_12 : decode prog_10_method_31_code 12 = .ok (.iload_n 1, 1) := by decide +kernel
theorem jd_118_13 : decode prog_10_method_31_code 13 = .ok (.ifCond .eq 20, 3) := by decide +kernel
theorem jd_118_16 : decode prog_10_method_31_code 16 = .ok (.aload_n 0, 1) := by decide +kernel
theorem jd_118_17 : decode prog_10_method_31_code 17 = .ok (.aload_n 0, 1) := by decide +kernel
theorem jd_118_18 : decode prog_10_method_31_code 18 = .ok (.getfield 71, 3) := by decide +kernel
theorem jd_118_21 : decode prog_10_method_31_code 21 = .ok (.iload_n 2, 1) := by decide +kernel
theorem jd_118_22 : decode prog_10_method_31_code 22 = .ok (.iaload, 1) := by decide +kernel
theorem jd_118_23 : decode prog_10_method_31_code 23 = .ok (.invokevirtual 228, 3) := by decide +kernel
theorem jd_118_26 : decode prog_10_method_31_code 26 = .ok (.ifCond .eq 7, 3) := by decide +kernel
theorem jd_118_29 : decode prog_10_method_31_code 29 = .ok (.iconst 1, 1) := by decide +kernel
theorem jd_118_30 : decode prog_10_method_31_code 30 = .ok (.goto 4, 3) := by decide +kernel
theorem jd_118_33 : decode prog_10_method_31_code 33 = .ok (.iconst 0, 1) := by decide +kernel
theorem jd_118_34 : decode prog_10_method_31_code 34 = .ok (.istore_n 1, 1) := by decide +kernel
theorem jd_118_35 : decode prog_10_method_31_code 35 = .ok (.iinc 2 1, 3) := by decide +kernel
theorem jd_118_38 : decode prog_10_method_31_code 38 = .ok (.goto (-34), 3) := by decide +kernel
theorem jd_118_41 : decode prog_10_method_31_code 41 = .ok (.iload_n 1, 1) := by decide +kernel
theorem jd_118_42 : decode prog_10_method_31_code 42 = .ok (.ireturn, 1) := by decide +kernel
def jt_118 (pc : Nat) : jx_Sp := bif Nat.ble pc 18 then (bif Nat.ble pc 6 then (bif Nat.ble pc 3 then (bif Nat.ble pc 1 then (bif Nat.ble pc 0 then (bif Nat.beq pc 0 then js_c 1 1 else js_none) else (bif Nat.beq pc 1 then js_is 1 1 else js_none)) else (bif Nat.ble pc 2 then (bif Nat.beq pc 2 then js_c 0 1 else js_none) else (bif Nat.beq pc 3 then js_is 2 1 else js_none))) else (bif Nat.ble pc 5 then (bif Nat.ble pc 4 then (bif Nat.beq pc 4 then js_il 2 1 else js_none) else (bif Nat.beq pc 5 then js_al 0 1 else js_none)) else (bif Nat.beq pc 6 then js_getf 8 33 else js_none))) else (bif Nat.ble pc 13 then (bif Nat.ble pc 12 then (bif Nat.ble pc 9 then (bif Nat.beq pc 9 then js_cge 41 else js_none) else (bif Nat.beq pc 12 then js_il 1 1 else js_none)) else (bif Nat.beq pc 13 then js_ifeq 33 else js_none)) else (bif Nat.ble pc 17 then (bif Nat.ble pc 16 then (bif Nat.beq pc 16 then js_al 0 1 else js_none) else (bif Nat.beq pc 17 then js_al 0 1 else js_none)) else (bif Nat.beq pc 18 then js_getf 8 34 else js_none)))) else (bif Nat.ble pc 30 then (bif Nat.ble pc 23 then (bif Nat.ble pc 22 then (bif Nat.ble pc 21 then (bif Nat.beq pc 21 then js_il 2 1 else js_none) else (bif Nat.beq pc 22 then js_ald else js_none)) else (bif Nat.beq pc 23 then js_v1 8 117 else js_none)) else (bif Nat.ble pc 29 then (bif Nat.ble pc 26 then (bif Nat.beq pc 26 then js_ifeq 33 else js_none) else (bif Nat.beq pc 29 then js_c 1 1 else js_none)) else (bif Nat.beq pc 30 then js_go 34 else js_none))) else (bif Nat.ble pc 35 then (bif Nat.ble pc 34 then (bif Nat.ble pc 33 then (bif Nat.beq pc 33 then js_c 0 1 else js_none) else (bif Nat.beq pc 34 then js_is 1 1 else js_none)) else (bif Nat.beq pc 35 then js_inc 2 1 else js_none)) else (bif Nat.ble pc 41 then (bif Nat.ble pc 38 then (bif Nat.beq pc 38 then js_go 4 else js_none) else (bif Nat.beq pc 41 then js_il 1 1 else js_none)) else (bif Nat.beq pc 42 then js_zr else js_none))))
theorem jk_118_0 : jx_Snd 118 0 (js_c 1 1) := jo_iconst (z := 1) jd_118_0 rfl
theorem jk_118_1 : jx_Snd 118 1 (js_is 1 1) := jo_istore_n (i := 1) (w := 1) rfl (Nat.le_of_ble_eq_true rfl) jd_118_1
theorem jk_118_2 : jx_Snd 118 2 (js_c 0 1) := jo_iconst (z := 0) jd_118_2 rfl
theorem jk_118_3 : jx_Snd 118 3 (js_is 2 1) := jo_istore_n (i := 2) (w := 2) rfl (Nat.le_of_ble_eq_true rfl) jd_118_3
theorem jk_118_4 : jx_Snd 118 4 (js_il 2 1) := jo_iload_n (i := 2) (w := 2) rfl jd_118_4
theorem jk_118_5 : jx_Snd 118 5 (js_al 0 1) := jo_aload_n (i := 0) (w := 0) rfl jd_118_5
theorem jk_118_6 : jx_Snd 118 6 (js_getf 8 33) := jo_getf rfl jf_8_204 jd_118_6
theorem jk_118_9 : jx_Snd 118 9 (js_cge 41) := jo_cge (o := 32) rfl jd_118_9
theorem jk_118_12 : jx_Snd 118 12 (js_il 1 1) := jo_iload_n (i := 1) (w := 1) rfl jd_118_12
theorem jk_118_13 : jx_Snd 118 13 (js_ifeq 33) := jo_ifeq (o := 20) rfl jd_118_13
theorem jk_118_16 : jx_Snd 118 16 (js_al 0 1) := jo_aload_n (i := 0) (w := 0) rfl jd_118_16
theorem jk_118_17 : jx_Snd 118 17 (js_al 0 1) := jo_aload_n (i := 0) (w := 0) rfl jd_118_17
theorem jk_118_18 : jx_Snd 118 18 (js_getf 8 34) := jo_getf rfl jf_8_71 jd_118_18
theorem jk_118_21 : jx_Snd 118 21 (js_il 2 1) := jo_iload_n (i := 2) (w := 2) rfl jd_118_21
theorem jk_118_22 : jx_Snd 118 22 (js_ald) := jo_ald jd_118_22
theorem jk_118_23 : jx_Snd 118 23 (js_v1 8 117) := jo_v1 rfl jok_117 (Or.inl jw_624) jw_625 jw_732 rfl jd_118_23
theorem jk_118_26 : jx_Snd 118 26 (js_ifeq 33) := jo_ifeq (o := 7) rfl jd_118_26
theorem jk_118_29 : jx_Snd 118 29 (js_c 1 1) := jo_iconst (z := 1) jd_118_29 rfl
theorem jk_118_30 : jx_Snd 118 30 (js_go 34) := jo_goto (o := 4) rfl jd_118_30
theorem jk_118_33 : jx_Snd 118 33 (js_c 0 1) := jo_iconst (z := 0) jd_118_33 rfl
theorem jk_118_34 : jx_Snd 118 34 (js_is 1 1) := jo_istore_n (i := 1) (w := 1) rfl (Nat.le_of_ble_eq_true rfl) jd_118_34
theorem jk_118_35 : jx_Snd 118 35 (js_inc 2 1) := jo_iinc (w := 1) rfl (Nat.le_of_ble_eq_true rfl) jd_118_35
theorem jk_118_38 : jx_Snd 118 38 (js_go 4) := jo_goto (o := (-34)) rfl jd_118_38
theorem jk_118_41 : jx_Snd 118 41 (js_il 1 1) := jo_iload_n (i := 1) (w := 1) rfl jd_118_41
theorem jk_118_42 : jx_Snd 118 42 (js_zr) := jo_zr rfl jd_118_42
theorem jk_118 : jx_So 118 jt_118 := fun pc => jo_le (jo_le (jo_le (jo_le (jo_le (jo_at (jk_118_0)) (jo_at (jk_118_1))) (jo_le (jo_at (jk_118_2)) (jo_at (jk_118_3)))) (jo_le (jo_le (jo_at (jk_118_4)) (jo_at (jk_118_5))) (jo_at (jk_118_6)))) (jo_le (jo_le (jo_le (jo_at (jk_118_9)) (jo_at (jk_118_12))) (jo_at (jk_118_13))) (jo_le (jo_le (jo_at (jk_118_16)) (jo_at (jk_118_17))) (jo_at (jk_118_18))))) (jo_le (jo_le (jo_le (jo_le (jo_at (jk_118_21)) (jo_at (jk_118_22))) (jo_at (jk_118_23))) (jo_le (jo_le (jo_at (jk_118_26)) (jo_at (jk_118_29))) (jo_at (jk_118_30)))) (jo_le (jo_le (jo_le (jo_at (jk_118_33)) (jo_at (jk_118_34))) (jo_at (jk_118_35))) (jo_le (jo_le (jo_at (jk_118_38)) (jo_at (jk_118_41))) (jo_at (jk_118_42)))))
theorem ji_118 {l : Launch} {D : va_G} {cA : ClassId} {ρ : Nat → Nat} {Λ : List jx_Lc} {d : Nat} {Q : Option Value → jx_St → Prop} {σ : jx_St} {z0 : Nat} (h : jt_118 0 Λ jx_tb0 (jx_rn Λ jx_tb0 jt_118 (fun k' as σ K => jx_C l D cA ρ Λ d k' as σ K) Q (jx_J l D cA ρ Λ (jx_A ρ Λ) jx_tb0 (d + 1) 118 Q) [] 400) (fun k' as σ K => jx_C l D cA ρ Λ d k' as σ K) Q 0 [(0, .ref z0)] [] σ) : jx_C l D cA ρ Λ (d + 1) 118 [.ref z0] σ Q := jx_in jk_118 400 [] rfl (Nat.le_of_ble_eq_true rfl) h
/-! ScriptLedgerModel.balanced()Z -/
theorem jd_119_0 : decode prog_10_method_32_code 0 = .ok (.iconst 1, 1) := by decide +kernel
theorem jd_119_1 : decode prog_10_method_32_code 1 = .ok (.istore_n 1, 1) := by decide +kernel
theorem jd_119_2 : decode prog_10_method_32_code 2 = .ok (.iconst 0, 1) := by decide +kernel
theorem jd_119_3 : decode prog_10_method_32_code 3 = .ok (.istore_n 2, 1) := by decide +kernel
theorem jd_119_4 : decode prog_10_method_32_code 4 = .ok (.iload_n 2, 1) := by decide +kernel
theorem jd_119_5 : decode prog_10_method_32_code 5 = .ok (.iconst 3, 1) := by decide +kernel
theorem jd_119_6 : decode prog_10_method_32_code 6 = .ok (.if_icmp .ge 122, 3) := by decide +kernel
theorem jd_119_9 : decode prog_10_method_32_code 9 = .ok (.aload_n 0, 1) := by decide +kernel
theorem jd_119_10 : decode prog_10_method_32_code 10 = .ok (.getfield 86, 3) := by decide +kernel
theorem jd_119_13 : decode prog_10_method_32_code 13 = .ok (.iload_n 2, 1) := by decide +kernel
theorem jd_119_14 : decode prog_10_method_32_code 14 = .ok (.iaload, 1) := by decide +kernel
theorem jd_119_15 : decode prog_10_method_32_code 15 = .ok (.i2l, 1) := by decide +kernel
theorem jd_119_16 : decode prog_10_method_32_code 16 = .ok (.lstore_n 3, 1) := by decide +kernel
theorem jd_119_17 : decode prog_10_method_32_code 17 = .ok (.iload_n 2, 1) := by decide +kernel
theorem jd_119_18 : decode prog_10_method_32_code 18 = .ok (.ifCond .ne 11, 3) := by decide +kernel
theorem jd_119_21 : decode prog_10_method_32_code 21 = .ok (.aload_n 0, 1) := by decide +kernel
theorem jd_119_22 : decode prog_10_method_32_code 22 = .ok (.getfield 210, 3) := by decide +kernel
theorem jd_119_25 : decode prog_10_method_32_code 25 = .ok (.i2l, 1) := by decide +kernel
theorem jd_119_26 : decode prog_10_method_32_code 26 = .ok (.goto 4, 3) := by decide +kernel
theorem jd_119_29 : decode prog_10_method_32_code 29 = .ok (.lconst 0, 1) := by decide +kernel
theorem jd_119_30 : decode prog_10_method_32_code 30 = .ok (.lstore 5, 2) := by decide +kernel
theorem jd_119_32 : decode prog_10_method_32_code 32 = .ok (.iconst 0, 1) := by decide +kernel
theorem jd_119_33 : decode prog_10_method_32_code 33 = .ok (.istore 7, 2) := by decide +kernel
theorem jd_119_35 : decode prog_10_method_32_code 35 = .ok (.iload 7, 2) := by decide +kernel
theorem jd_119_37 : decode prog_10_method_32_code 37 = .ok (.aload_n 0, 1) := by decide +kernel
theorem jd_119_38 : decode prog_10_method_32_code 38 = .ok (.getfield 204, 3) := by decide +kernel
theorem jd_119_41 : decode prog_10_method_32_code 41 = .ok (.if_icmp .ge 29, 3) := by decide +kernel
theorem jd_119_44 : decode prog_10_method_32_code 44 = .ok (.lload_n 3, 1) := by decide +kernel
theorem jd_119_45 : decode prog_10_method_32_code 45 = .ok (.aload_n 0, 1) := by decide +kernel
theorem jd_119_46 : decode prog_10_method_32_code 46 = .ok (.getfield 53, 3) := by decide +kernel
theorem jd_119_49 : decode prog_10_method_32_code 49 = .ok (.iconst 3, 1) := by decide +kernel
theorem jd_119_50 : decode prog_10_method_32_code 50 = .ok (.aload_n 0, 1) := by decide +kernel
theorem jd_119_51 : decode prog_10_method_32_code 51 = .ok (.getfield 71, 3) := by decide +kernel
theorem jd_119_54 : decode prog_10_method_32_code 54 = .ok (.iload 7, 2) := by decide +kernel
theorem jd_119_56 : decode prog_10_method_32_code 56 = .ok (.iaload, 1) := by decide +kernel
theorem jd_119_57 : decode prog_10_method_32_code 57 = .ok (.imul, 1) := by decide +kernel
theorem jd_119_58 : decode prog_10_method_32_code 58 = .ok (.iload_n 2, 1) := by decide +kernel
theorem jd_119_59 : decode prog_10_method_32_code 59 = .ok (.iadd, 1) := by decide +kernel
theorem jd_119_60 : decode prog_10_method_32_code 60 = .ok (.iaload, 1) := by decide +kernel
theorem jd_119_61 : decode prog_10_method_32_code 61 = .ok (.i2l, 1) := by decide +kernel
theorem jd_119_62 : decode prog_10_method_32_code 62 = .ok (.ladd, 1) := by decide +kernel
theorem jd_119_63 : decode prog_10_method_32_code 63 = .ok (.lstore_n 3, 1) := by decide +kernel
theorem jd_119_64 : decode prog_10_method_32_code 64 = .ok (.iinc 7 1, 3) := by decide +kernel
theorem jd_119_67 : decode prog_10_method_32_code 67 = .ok (.goto (-32), 3) := by decide +kernel
theorem jd_119_70 : decode prog_10_method_32_code 70 = .ok (.iconst 0, 1) := by decide +kernel
theorem jd_119_71 : decode prog_10_method_32_code 71 = .ok (.istore 7, 2) := by decide +kernel
theorem jd_119_73 : decode prog_10_method_32_code 73 = .ok (.iload 7, 2) := by decide +kernel
theorem jd_119_75 : decode prog_10_method_32_code 75 = .ok (.aload_n 0, 1) := by decide +kernel
theorem jd_119_76 : decode prog_10_method_32_code 76 = .ok (.getfield 207, 3) := by decide +kernel
theorem jd_119_79 : decode prog_10_method_32_code 79 = .ok (.if_icmp .ge 26, 3) := by decide +kernel
theorem jd_119_82 : decode prog_10_method_32_code 82 = .ok (.lload 5, 2) := by decide +kernel
theorem jd_119_84 : decode prog_10_method_32_code 84 = .ok (.aload_n 0, 1) := by decide +kernel
theorem jd_119_85 : decode prog_10_method_32_code 85 = .ok (.getfield 83, 3) := by decide +kernel
theorem jd_119_88 : decode prog_10_method_32_code 88 = .ok (.iconst 3, 1) := by decide +kernel
theorem jd_119_89 : decode prog_10_method_32_code 89 = .ok (.iload 7, 2) := by decide +kernel
theorem jd_119_91 : decode prog_10_method_32_code 91 = .ok (.imul, 1) := by decide +kernel
theorem jd_119_92 : decode prog_10_method_32_code 92 = .ok (.iload_n 2, 1) := by decide +kernel
theorem jd_119_93 : decode prog_10_method_32_code 93 = .ok (.iadd, 1) := by decide +kernel
theorem jd_119_94 : decode prog_10_method_32_code 94 = .ok (.iaload, 1) := by decide +kernel
theorem jd_119_95 : decode prog_10_method_32_code 95 = .ok (.i2l, 1) := by decide +kernel
theorem jd_119_96 : decode prog_10_method_32_code 96 = .ok (.ladd, 1) := by decide +kernel
theorem jd_119_97 : decode prog_10_method_32_code 97 = .ok (.lstore 5, 2) := by decide +kernel
theorem jd_119_99 : decode prog_10_method_32_code 99 = .ok (.iinc 7 1, 3) := by decide +kernel
theorem jd_119_102 : decode prog_10_method_32_code 102 = .ok (.goto (-29), 3) := by decide +kernel
theorem jd_119_105 : decode prog_10_method_32_code 105 = .ok (.iload_n 1, 1) := by decide +kernel
theorem jd_119_106 : decode prog_10_method_32_code 106 = .ok (.ifCond .eq 14, 3) := by decide +kernel
theorem jd_119_109 : decode prog_10_method_32_code 109 = .ok (.lload_n 3, 1) := by decide +kernel
theorem jd_119_110 : decode prog_10_method_32_code 110 = .ok (.lload 5, 2) := by decide +kernel
theorem jd_119_112 : decode prog_10_method_32_code 112 = .ok (.lcmp, 1) := by decide +kernel
theorem jd_119_113 : decode prog_10_method_32_code 113 = .ok (.ifCond .ne 7, 3) := by decide +kernel
theorem jd_119_116 : decode prog_10_method_32_code 116 = .ok (.iconst 1, 1) := by decide +kernel
theorem jd_119_117 : decode prog_10_method_32_code 117 = .ok (.goto 4, 3) := by decide +kernel
theorem jd_119_120 : decode prog_10_method_32_code 120 = .ok (.iconst 0, 1) := by decide +kernel
theorem jd_119_121 : decode prog_10_method_32_code 121 = .ok (.istore_n 1, 1) := by decide +kernel
theorem jd_119_122 : decode prog_10_method_32_code 122 = .ok (.iinc 2 1, 3) := by decide +kernel
theorem jd_119_125 : decode prog_10_method_32_code 125 = .ok (.goto (-121), 3) := by decide +kernel
theorem jd_119_128 : decode prog_10_method_32_code 128 = .ok (.iload_n 1, 1) := by decide +kernel
theorem jd_119_129 : decode prog_10_method_32_code 129 = .ok (.ireturn, 1) := by decide +kernel
def jt_119 (pc : Nat) : jx_Sp := bif Nat.ble pc 60 then (bif Nat.ble pc 29 then (bif Nat.ble pc 13 then (bif Nat.ble pc 4 then (bif Nat.ble pc 2 then (bif Nat.ble pc 1 then (bif Nat.ble pc 0 then (bif Nat.beq pc 0 then js_c 1 1 else js_none) else (bif Nat.beq pc 1 then js_is 1 1 else js_none)) else (bif Nat.beq pc 2 then js_c 0 1 else js_none)) else (bif Nat.ble pc 3 then (bif Nat.beq pc 3 then js_is 2 1 else js_none) else (bif Nat.beq pc 4 then js_il 2 1 else js_none))) else (bif Nat.ble pc 9 then (bif Nat.ble pc 6 then (bif Nat.ble pc 5 then (bif Nat.beq pc 5 then js_c 3 1 else js_none) else (bif Nat.beq pc 6 then js_cge 128 else js_none)) else (bif Nat.beq pc 9 then js_al 0 1 else js_none)) else (bif Nat.ble pc 10 then (bif Nat.beq pc 10 then js_getf 8 40 else js_none) else (bif Nat.beq pc 13 then js_il 2 1 else js_none)))) else (bif Nat.ble pc 18 then (bif Nat.ble pc 16 then (bif Nat.ble pc 15 then (bif Nat.ble pc 14 then (bif Nat.beq pc 14 then js_ald else js_none) else (bif Nat.beq pc 15 then js_i2l else js_none)) else (bif Nat.beq pc 16 then js_ls 3 1 else js_none)) else (bif Nat.ble pc 17 then (bif Nat.beq pc 17 then js_il 2 1 else js_none) else (bif Nat.beq pc 18 then js_ifne 29 else js_none))) else (bif Nat.ble pc 25 then (bif Nat.ble pc 22 then (bif Nat.ble pc 21 then (bif Nat.beq pc 21 then js_al 0 1 else js_none) else (bif Nat.beq pc 22 then js_getf 8 42 else js_none)) else (bif Nat.beq pc 25 then js_i2l else js_none)) else (bif Nat.ble pc 26 then (bif Nat.beq pc 26 then js_go 30 else js_none) else (bif Nat.beq pc 29 then js_cl 0 1 else js_none))))) else (bif Nat.ble pc 46 then (bif Nat.ble pc 37 then (bif Nat.ble pc 33 then (bif Nat.ble pc 32 then (bif Nat.ble pc 30 then (bif Nat.beq pc 30 then js_ls 5 2 else js_none) else (bif Nat.beq pc 32 then js_c 0 1 else js_none)) else (bif Nat.beq pc 33 then js_is 7 2 else js_none)) else (bif Nat.ble pc 35 then (bif Nat.beq pc 35 then js_il 7 2 else js_none) else (bif Nat.beq pc 37 then js_al 0 1 else js_none))) else (bif Nat.ble pc 44 then (bif Nat.ble pc 41 then (bif Nat.ble pc 38 then (bif Nat.beq pc 38 then js_getf 8 33 else js_none) else (bif Nat.beq pc 41 then js_cge 70 else js_none)) else (bif Nat.beq pc 44 then js_ll 3 1 else js_none)) else (bif Nat.ble pc 45 then (bif Nat.beq pc 45 then js_al 0 1 else js_none) else (bif Nat.beq pc 46 then js_getf 8 26 else js_none)))) else (bif Nat.ble pc 56 then (bif Nat.ble pc 51 then (bif Nat.ble pc 50 then (bif Nat.ble pc 49 then (bif Nat.beq pc 49 then js_c 3 1 else js_none) else (bif Nat.beq pc 50 then js_al 0 1 else js_none)) else (bif Nat.beq pc 51 then js_getf 8 34 else js_none)) else (bif Nat.ble pc 54 then (bif Nat.beq pc 54 then js_il 7 2 else js_none) else (bif Nat.beq pc 56 then js_ald else js_none))) else (bif Nat.ble pc 58 then (bif Nat.ble pc 57 then (bif Nat.beq pc 57 then js_imul else js_none) else (bif Nat.beq pc 58 then js_il 2 1 else js_none)) else (bif Nat.ble pc 59 then (bif Nat.beq pc 59 then js_iadd else js_none) else (bif Nat.beq pc 60 then js_ald else js_none)))))) else (bif Nat.ble pc 94 then (bif Nat.ble pc 76 then (bif Nat.ble pc 67 then (bif Nat.ble pc 63 then (bif Nat.ble pc 62 then (bif Nat.ble pc 61 then (bif Nat.beq pc 61 then js_i2l else js_none) else (bif Nat.beq pc 62 then js_ladd else js_none)) else (bif Nat.beq pc 63 then js_ls 3 1 else js_none)) else (bif Nat.ble pc 64 then (bif Nat.beq pc 64 then js_inc 7 1 else js_none) else (bif Nat.beq pc 67 then js_go 35 else js_none))) else (bif Nat.ble pc 73 then (bif Nat.ble pc 71 then (bif Nat.ble pc 70 then (bif Nat.beq pc 70 then js_c 0 1 else js_none) else (bif Nat.beq pc 71 then js_is 7 2 else js_none)) else (bif Nat.beq pc 73 then js_il 7 2 else js_none)) else (bif Nat.ble pc 75 then (bif Nat.beq pc 75 then js_al 0 1 else js_none) else (bif Nat.beq pc 76 then js_getf 8 36 else js_none)))) else (bif Nat.ble pc 88 then (bif Nat.ble pc 84 then (bif Nat.ble pc 82 then (bif Nat.ble pc 79 then (bif Nat.beq pc 79 then js_cge 105 else js_none) else (bif Nat.beq pc 82 then js_ll 5 2 else js_none)) else (bif Nat.beq pc 84 then js_al 0 1 else js_none)) else (bif Nat.ble pc 85 then (bif Nat.beq pc 85 then js_getf 8 39 else js_none) else (bif Nat.beq pc 88 then js_c 3 1 else js_none))) else (bif Nat.ble pc 92 then (bif Nat.ble pc 91 then (bif Nat.ble pc 89 then (bif Nat.beq pc 89 then js_il 7 2 else js_none) else (bif Nat.beq pc 91 then js_imul else js_none)) else (bif Nat.beq pc 92 then js_il 2 1 else js_none)) else (bif Nat.ble pc 93 then (bif Nat.beq pc 93 then js_iadd else js_none) else (bif Nat.beq pc 94 then js_ald else js_none))))) else (bif Nat.ble pc 112 then (bif Nat.ble pc 102 then (bif Nat.ble pc 97 then (bif Nat.ble pc 96 then (bif Nat.ble pc 95 then (bif Nat.beq pc 95 then js_i2l else js_none) else (bif Nat.beq pc 96 then js_ladd else js_none)) else (bif Nat.beq pc 97 then js_ls 5 2 else js_none)) else (bif Nat.ble pc 99 then (bif Nat.beq pc 99 then js_inc 7 1 else js_none) else (bif Nat.beq pc 102 then js_go 73 else js_none))) else (bif Nat.ble pc 109 then (bif Nat.ble pc 106 then (bif Nat.ble pc 105 then (bif Nat.beq pc 105 then js_il 1 1 else js_none) else (bif Nat.beq pc 106 then js_ifeq 120 else js_none)) else (bif Nat.beq pc 109 then js_ll 3 1 else js_none)) else (bif Nat.ble pc 110 then (bif Nat.beq pc 110 then js_ll 5 2 else js_none) else (bif Nat.beq pc 112 then js_lcmp else js_none)))) else (bif Nat.ble pc 121 then (bif Nat.ble pc 117 then (bif Nat.ble pc 116 then (bif Nat.ble pc 113 then (bif Nat.beq pc 113 then js_ifne 120 else js_none) else (bif Nat.beq pc 116 then js_c 1 1 else js_none)) else (bif Nat.beq pc 117 then js_go 121 else js_none)) else (bif Nat.ble pc 120 then (bif Nat.beq pc 120 then js_c 0 1 else js_none) else (bif Nat.beq pc 121 then js_is 1 1 else js_none))) else (bif Nat.ble pc 125 then (bif Nat.ble pc 122 then (bif Nat.beq pc 122 then js_inc 2 1 else js_none) else (bif Nat.beq pc 125 then js_go 4 else js_none)) else (bif Nat.ble pc 128 then (bif Nat.beq pc 128 then js_il 1 1 else js_none) else (bif Nat.beq pc 129 then js_zr else js_none))))))
theorem jk_119_0 : jx_Snd 119 0 (js_c 1 1) := jo_iconst (z := 1) jd_119_0 rfl
theorem jk_119_1 : jx_Snd 119 1 (js_is 1 1) := jo_istore_n (i := 1) (w := 1) rfl (Nat.le_of_ble_eq_true rfl) jd_119_1
theorem jk_119_2 : jx_Snd 119 2 (js_c 0 1) := jo_iconst (z := 0) jd_119_2 rfl
theorem jk_119_3 : jx_Snd 119 3 (js_is 2 1) := jo_istore_n (i := 2) (w := 2) rfl (Nat.le_of_ble_eq_true rfl) jd_119_3
theorem jk_119_4 : jx_Snd 119 4 (js_il 2 1) := jo_iload_n (i := 2) (w := 2) rfl jd_119_4
theorem jk_119_5 : jx_Snd 119 5 (js_c 3 1) := jo_iconst (z := 3) jd_119_5 rfl
theorem jk_119_6 : jx_Snd 119 6 (js_cge 128) := jo_cge (o := 122) rfl jd_119_6
theorem jk_119_9 : jx_Snd 119 9 (js_al 0 1) := jo_aload_n (i := 0) (w := 0) rfl jd_119_9
theorem jk_119_10 : jx_Snd 119 10 (js_getf 8 40) := jo_getf rfl jf_8_86 jd_119_10
theorem jk_119_13 : jx_Snd 119 13 (js_il 2 1) := jo_iload_n (i := 2) (w := 2) rfl jd_119_13
theorem jk_119_14 : jx_Snd 119 14 (js_ald) := jo_ald jd_119_14
theorem jk_119_15 : jx_Snd 119 15 (js_i2l) := jo_i2l jd_119_15
theorem jk_119_16 : jx_Snd 119 16 (js_ls 3 1) := jo_lstore_n (i := 3) (w := 3) rfl (Nat.le_of_ble_eq_true rfl) jd_119_16
theorem jk_119_17 : jx_Snd 119 17 (js_il 2 1) := jo_iload_n (i := 2) (w := 2) rfl jd_119_17
theorem jk_119_18 : jx_Snd 119 18 (js_ifne 29) := jo_ifne (o := 11) rfl jd_119_18
theorem jk_119_21 : jx_Snd 119 21 (js_al 0 1) := jo_aload_n (i := 0) (w := 0) rfl jd_119_21
theorem jk_119_22 : jx_Snd 119 22 (js_getf 8 42) := jo_getf rfl jf_8_210 jd_119_22
theorem jk_119_25 : jx_Snd 119 25 (js_i2l) := jo_i2l jd_119_25
theorem jk_119_26 : jx_Snd 119 26 (js_go 30) := jo_goto (o := 4) rfl jd_119_26
theorem jk_119_29 : jx_Snd 119 29 (js_cl 0 1) := jo_lconst (z := 0) jd_119_29 rfl
theorem jk_119_30 : jx_Snd 119 30 (js_ls 5 2) := jo_lstore (i := 5) (Nat.le_of_ble_eq_true rfl) jd_119_30
theorem jk_119_32 : jx_Snd 119 32 (js_c 0 1) := jo_iconst (z := 0) jd_119_32 rfl
theorem jk_119_33 : jx_Snd 119 33 (js_is 7 2) := jo_istore (i := 7) (Nat.le_of_ble_eq_true rfl) jd_119_33
theorem jk_119_35 : jx_Snd 119 35 (js_il 7 2) := jo_iload (i := 7) jd_119_35
theorem jk_119_37 : jx_Snd 119 37 (js_al 0 1) := jo_aload_n (i := 0) (w := 0) rfl jd_119_37
theorem jk_119_38 : jx_Snd 119 38 (js_getf 8 33) := jo_getf rfl jf_8_204 jd_119_38
theorem jk_119_41 : jx_Snd 119 41 (js_cge 70) := jo_cge (o := 29) rfl jd_119_41
theorem jk_119_44 : jx_Snd 119 44 (js_ll 3 1) := jo_lload_n (i := 3) (w := 3) rfl jd_119_44
theorem jk_119_45 : jx_Snd 119 45 (js_al 0 1) := jo_aload_n (i := 0) (w := 0) rfl jd_119_45
theorem jk_119_46 : jx_Snd 119 46 (js_getf 8 26) := jo_getf rfl jf_8_53 jd_119_46
theorem jk_119_49 : jx_Snd 119 49 (js_c 3 1) := jo_iconst (z := 3) jd_119_49 rfl
theorem jk_119_50 : jx_Snd 119 50 (js_al 0 1) := jo_aload_n (i := 0) (w := 0) rfl jd_119_50
theorem jk_119_51 : jx_Snd 119 51 (js_getf 8 34) := jo_getf rfl jf_8_71 jd_119_51
theorem jk_119_54 : jx_Snd 119 54 (js_il 7 2) := jo_iload (i := 7) jd_119_54
theorem jk_119_56 : jx_Snd 119 56 (js_ald) := jo_ald jd_119_56
theorem jk_119_57 : jx_Snd 119 57 (js_imul) := jo_imul jd_119_57
theorem jk_119_58 : jx_Snd 119 58 (js_il 2 1) := jo_iload_n (i := 2) (w := 2) rfl jd_119_58
theorem jk_119_59 : jx_Snd 119 59 (js_iadd) := jo_iadd jd_119_59
theorem jk_119_60 : jx_Snd 119 60 (js_ald) := jo_ald jd_119_60
theorem jk_119_61 : jx_Snd 119 61 (js_i2l) := jo_i2l jd_119_61
theorem jk_119_62 : jx_Snd 119 62 (js_ladd) := jo_ladd jd_119_62
theorem jk_119_63 : jx_Snd 119 63 (js_ls 3 1) := jo_lstore_n (i := 3) (w := 3) rfl (Nat.le_of_ble_eq_true rfl) jd_119_63
theorem jk_119_64 : jx_Snd 119 64 (js_inc 7 1) := jo_iinc (w := 1) rfl (Nat.le_of_ble_eq_true rfl) jd_119_64
theorem jk_119_67 : jx_Snd 119 67 (js_go 35) := jo_goto (o := (-32)) rfl jd_119_67
theorem jk_119_70 : jx_Snd 119 70 (js_c 0 1) := jo_iconst (z := 0) jd_119_70 rfl
theorem jk_119_71 : jx_Snd 119 71 (js_is 7 2) := jo_istore (i := 7) (Nat.le_of_ble_eq_true rfl) jd_119_71
theorem jk_119_73 : jx_Snd 119 73 (js_il 7 2) := jo_iload (i := 7) jd_119_73
theorem jk_119_75 : jx_Snd 119 75 (js_al 0 1) := jo_aload_n (i := 0) (w := 0) rfl jd_119_75
theorem jk_119_76 : jx_Snd 119 76 (js_getf 8 36) := jo_getf rfl jf_8_207 jd_119_76
theorem jk_119_79 : jx_Snd 119 79 (js_cge 105) := jo_cge (o := 26) rfl jd_119_79
theorem jk_119_82 : jx_Snd 119 82 (js_ll 5 2) := jo_lload (i := 5) jd_119_82
theorem jk_119_84 : jx_Snd 119 84 (js_al 0 1) := jo_aload_n (i := 0) (w := 0) rfl jd_119_84
theorem jk_119_85 : jx_Snd 119 85 (js_getf 8 39) := jo_getf rfl jf_8_83 jd_119_85
theorem jk_119_88 : jx_Snd 119 88 (js_c 3 1) := jo_iconst (z := 3) jd_119_88 rfl
theorem jk_119_89 : jx_Snd 119 89 (js_il 7 2) := jo_iload (i := 7) jd_119_89
theorem jk_119_91 : jx_Snd 119 91 (js_imul) := jo_imul jd_119_91
theorem jk_119_92 : jx_Snd 119 92 (js_il 2 1) := jo_iload_n (i := 2) (w := 2) rfl jd_119_92
theorem jk_119_93 : jx_Snd 119 93 (js_iadd) := jo_iadd jd_119_93
theorem jk_119_94 : jx_Snd 119 94 (js_ald) := jo_ald jd_119_94
theorem jk_119_95 : jx_Snd 119 95 (js_i2l) := jo_i2l jd_119_95
theorem jk_119_96 : jx_Snd 119 96 (js_ladd) := jo_ladd jd_119_96
theorem jk_119_97 : jx_Snd 119 97 (js_ls 5 2) := jo_lstore (i := 5) (Nat.le_of_ble_eq_true rfl) jd_119_97
theorem jk_119_99 : jx_Snd 119 99 (js_inc 7 1) := jo_iinc (w := 1) rfl (Nat.le_of_ble_eq_true rfl) jd_119_99
theorem jk_119_102 : jx_Snd 119 102 (js_go 73) := jo_goto (o := (-29)) rfl jd_119_102
theorem jk_119_105 : jx_Snd 119 105 (js_il 1 1) := jo_iload_n (i := 1) (w := 1) rfl jd_119_105
theorem jk_119_106 : jx_Snd 119 106 (js_ifeq 120) := jo_ifeq (o := 14) rfl jd_119_106
theorem jk_119_109 : jx_Snd 119 109 (js_ll 3 1) := jo_lload_n (i := 3) (w := 3) rfl jd_119_109
theorem jk_119_110 : jx_Snd 119 110 (js_ll 5 2) := jo_lload (i := 5) jd_119_110
theorem jk_119_112 : jx_Snd 119 112 (js_lcmp) := jo_lcmp jd_119_112
theorem jk_119_113 : jx_Snd 119 113 (js_ifne 120) := jo_ifne (o := 7) rfl jd_119_113
theorem jk_119_116 : jx_Snd 119 116 (js_c 1 1) := jo_iconst (z := 1) jd_119_116 rfl
theorem jk_119_117 : jx_Snd 119 117 (js_go 121) := jo_goto (o := 4) rfl jd_119_117
theorem jk_119_120 : jx_Snd 119 120 (js_c 0 1) := jo_iconst (z := 0) jd_119_120 rfl
theorem jk_119_121 : jx_Snd 119 121 (js_is 1 1) := jo_istore_n (i := 1) (w := 1) rfl (Nat.le_of_ble_eq_true rfl) jd_119_121
theorem jk_119_122 : jx_Snd 119 122 (js_inc 2 1) := jo_iinc (w := 1) rfl (Nat.le_of_ble_eq_true rfl) jd_119_122
theorem jk_119_125 : jx_Snd 119 125 (js_go 4) := jo_goto (o := (-121)) rfl jd_119_125
theorem jk_119_128 : jx_Snd 119 128 (js_il 1 1) := jo_iload_n (i := 1) (w := 1) rfl jd_119_128
theorem jk_119_129 : jx_Snd 119 129 (js_zr) := jo_zr rfl jd_119_129
theorem jk_119 : jx_So 119 jt_119 := fun pc => jo_le (jo_le (jo_le (jo_le (jo_le (jo_le (jo_le (jo_at (jk_119_0)) (jo_at (jk_119_1))) (jo_at (jk_119_2))) (jo_le (jo_at (jk_119_3)) (jo_at (jk_119_4)))) (jo_le (jo_le (jo_le (jo_at (jk_119_5)) (jo_at (jk_119_6))) (jo_at (jk_119_9))) (jo_le (jo_at (jk_119_10)) (jo_at (jk_119_13))))) (jo_le (jo_le (jo_le (jo_le (jo_at (jk_119_14)) (jo_at (jk_119_15))) (jo_at (jk_119_16))) (jo_le (jo_at (jk_119_17)) (jo_at (jk_119_18)))) (jo_le (jo_le (jo_le (jo_at (jk_119_21)) (jo_at (jk_119_22))) (jo_at (jk_119_25))) (jo_le (jo_at (jk_119_26)) (jo_at (jk_119_29)))))) (jo_le (jo_le (jo_le (jo_le (jo_le (jo_at (jk_119_30)) (jo_at (jk_119_32))) (jo_at (jk_119_33))) (jo_le (jo_at (jk_119_35)) (jo_at (jk_119_37)))) (jo_le (jo_le (jo_le (jo_at (jk_119_38)) (jo_at (jk_119_41))) (jo_at (jk_119_44))) (jo_le (jo_at (jk_119_45)) (jo_at (jk_119_46))))) (jo_le (jo_le (jo_le (jo_le (jo_at (jk_119_49)) (jo_at (jk_119_50))) (jo_at (jk_119_51))) (jo_le (jo_at (jk_119_54)) (jo_at (jk_119_56)))) (jo_le (jo_le (jo_at (jk_119_57)) (jo_at (jk_119_58))) (jo_le (jo_at (jk_119_59)) (jo_at (jk_119_60))))))) (jo_le (jo_le (jo_le (jo_le (jo_le (jo_le (jo_at (jk_119_61)) (jo_at (jk_119_62))) (jo_at (jk_119_63))) (jo_le (jo_at (jk_119_64)) (jo_at (jk_119_67)))) (jo_le (jo_le (jo_le (jo_at (jk_119_70)) (jo_at (jk_119_71))) (jo_at (jk_119_73))) (jo_le (jo_at (jk_119_75)) (jo_at (jk_119_76))))) (jo_le (jo_le (jo_le (jo_le (jo_at (jk_119_79)) (jo_at (jk_119_82))) (jo_at (jk_119_84))) (jo_le (jo_at (jk_119_85)) (jo_at (jk_119_88)))) (jo_le (jo_le (jo_le (jo_at (jk_119_89)) (jo_at (jk_119_91))) (jo_at (jk_119_92))) (jo_le (jo_at (jk_119_93)) (jo_at (jk_119_94)))))) (jo_le (jo_le (jo_le (jo_le (jo_le (jo_at (jk_119_95)) (jo_at (jk_119_96))) (jo_at (jk_119_97))) (jo_le (jo_at (jk_119_99)) (jo_at (jk_119_102)))) (jo_le (jo_le (jo_le (jo_at (jk_119_105)) (jo_at (jk_119_106))) (jo_at (jk_119_109))) (jo_le (jo_at (jk_119_110)) (jo_at (jk_119_112))))) (jo_le (jo_le (jo_le (jo_le (jo_at (jk_119_113)) (jo_at (jk_119_116))) (jo_at (jk_119_117))) (jo_le (jo_at (jk_119_120)) (jo_at (jk_119_121)))) (jo_le (jo_le (jo_at (jk_119_122)) (jo_at (jk_119_125))) (jo_le (jo_at (jk_119_128)) (jo_at (jk_119_129)))))))
theorem ji_119 {l : Launch} {D : va_G} {cA : ClassId} {ρ : Nat → Nat} {Λ : List jx_Lc} {d : Nat} {Q : Option Value → jx_St → Prop} {σ : jx_St} {z0 : Nat} (h : jt_119 0 Λ jx_tb0 (jx_rn Λ jx_tb0 jt_119 (fun k' as σ K => jx_C l D cA ρ Λ d k' as σ K) Q (jx_J l D cA ρ Λ (jx_A ρ Λ) jx_tb0 (d + 1) 119 Q) [] 400) (fun k' as σ K => jx_C l D cA ρ Λ d k' as σ K) Q 0 [(0, .ref z0)] [] σ) : jx_C l D cA ρ Λ (d + 1) 119 [.ref z0] σ Q := jx_in jk_119 400 [] rfl (Nat.le_of_ble_eq_true rfl) h
/-! ScriptLedgerModel.signed(I)Z -/
theorem jd_120_0 : decode prog_10_method_33_code 0 = .ok (.iload_n 1, 1) := by decide +kernel
theorem jd_120_1 : decode prog_10_method_33_code 1 = .ok (.iconst 4, 1) := by decide +kernel
theorem jd_120_2 : decode prog_10_method_33_code 2 = .ok (.if_icmp .ge 19, 3) := by decide +kernel
theorem jd_120_5 : decode prog_10_method_33_code 5 = .ok (.aload_n 0, 1) := by decide +kernel
theorem jd_120_6 : decode prog_10_method_33_code 6 = .ok (.getfield 216, 3) := by decide +kernel
theorem jd_120_9 : decode prog_10_method_33_code 9 = .ok (.iload_n 1, 1) := by decide +kernel
theorem jd_120_10 : decode prog_10_method_33_code 10 = .ok (.ishr, 1) := by decide +kernel
theorem jd_120_11 : decode prog_10_method_33_code 11 = .ok (.iconst 1, 1) := by decide +kernel
theorem jd_120_12 : decode prog_10_method_33_code 12 = .ok (.iand, 1) := by decide +kernel
theorem jd_120_13 : decode prog_10_method_33_code 13 = .ok (.iconst 1, 1) := by decide +kernel
theorem jd_120_14 : decode prog_10_method_33_code 14 = .ok (.if_icmp .ne 7, 3) := by decide +kernel
theorem jd_120_17 : decode prog_10_method_33_code 17 = .ok (.iconst 1, 1) := by decide +kernel
theorem jd_120_18 : decode prog_10_method_33_code 18 = .ok (.goto 4, 3) := by decide +kernel
theorem jd_120_21 : decode prog_10_method_33_code 21 = .ok (.iconst 0, 1) := by decide +kernel
theorem jd_120_22 : decode prog_10_method_33_code 22 = .ok (.ireturn, 1) := by decide +kernel
def jt_120 (pc : Nat) : jx_Sp := bif Nat.ble pc 11 then (bif Nat.ble pc 5 then (bif Nat.ble pc 1 then (bif Nat.ble pc 0 then (bif Nat.beq pc 0 then js_il 1 1 else js_none) else (bif Nat.beq pc 1 then js_c 4 1 else js_none)) else (bif Nat.ble pc 2 then (bif Nat.beq pc 2 then js_cge 21 else js_none) else (bif Nat.beq pc 5 then js_al 0 1 else js_none))) else (bif Nat.ble pc 9 then (bif Nat.ble pc 6 then (bif Nat.beq pc 6 then js_getf 8 45 else js_none) else (bif Nat.beq pc 9 then js_il 1 1 else js_none)) else (bif Nat.ble pc 10 then (bif Nat.beq pc 10 then js_ishr else js_none) else (bif Nat.beq pc 11 then js_c 1 1 else js_none)))) else (bif Nat.ble pc 17 then (bif Nat.ble pc 13 then (bif Nat.ble pc 12 then (bif Nat.beq pc 12 then js_iand else js_none) else (bif Nat.beq pc 13 then js_c 1 1 else js_none)) else (bif Nat.ble pc 14 then (bif Nat.beq pc 14 then js_cne 21 else js_none) else (bif Nat.beq pc 17 then js_c 1 1 else js_none))) else (bif Nat.ble pc 21 then (bif Nat.ble pc 18 then (bif Nat.beq pc 18 then js_go 22 else js_none) else (bif Nat.beq pc 21 then js_c 0 1 else js_none)) else (bif Nat.beq pc 22 then js_zr else js_none)))
theorem jk_120_0 : jx_Snd 120 0 (js_il 1 1) := jo_iload_n (i := 1) (w := 1) rfl jd_120_0
theorem jk_120_1 : jx_Snd 120 1 (js_c 4 1) := jo_iconst (z := 4) jd_120_1 rfl
theorem jk_120_2 : jx_Snd 120 2 (js_cge 21) := jo_cge (o := 19) rfl jd_120_2
theorem jk_120_5 : jx_Snd 120 5 (js_al 0 1) := jo_aload_n (i := 0) (w := 0) rfl jd_120_5
theorem jk_120_6 : jx_Snd 120 6 (js_getf 8 45) := jo_getf rfl jf_8_216 jd_120_6
theorem jk_120_9 : jx_Snd 120 9 (js_il 1 1) := jo_iload_n (i := 1) (w := 1) rfl jd_120_9
theorem jk_120_10 : jx_Snd 120 10 (js_ishr) := jo_ishr jd_120_10
theorem jk_120_11 : jx_Snd 120 11 (js_c 1 1) := jo_iconst (z := 1) jd_120_11 rfl
theorem jk_120_12 : jx_Snd 120 12 (js_iand) := jo_iand jd_120_12
theorem jk_120_13 : jx_Snd 120 13 (js_c 1 1) := jo_iconst (z := 1) jd_120_13 rfl
theorem jk_120_14 : jx_Snd 120 14 (js_cne 21) := jo_cne (o := 7) rfl jd_120_14
theorem jk_120_17 : jx_Snd 120 17 (js_c 1 1) := jo_iconst (z := 1) jd_120_17 rfl
theorem jk_120_18 : jx_Snd 120 18 (js_go 22) := jo_goto (o := 4) rfl jd_120_18
theorem jk_120_21 : jx_Snd 120 21 (js_c 0 1) := jo_iconst (z := 0) jd_120_21 rfl
theorem jk_120_22 : jx_Snd 120 22 (js_zr) := jo_zr rfl jd_120_22
theorem jk_120 : jx_So 120 jt_120 := fun pc => jo_le (jo_le (jo_le (jo_le (jo_at (jk_120_0)) (jo_at (jk_120_1))) (jo_le (jo_at (jk_120_2)) (jo_at (jk_120_5)))) (jo_le (jo_le (jo_at (jk_120_6)) (jo_at (jk_120_9))) (jo_le (jo_at (jk_120_10)) (jo_at (jk_120_11))))) (jo_le (jo_le (jo_le (jo_at (jk_120_12)) (jo_at (jk_120_13))) (jo_le (jo_at (jk_120_14)) (jo_at (jk_120_17)))) (jo_le (jo_le (jo_at (jk_120_18)) (jo_at (jk_120_21))) (jo_at (jk_120_22))))
theorem ji_120 {l : Launch} {D : va_G} {cA : ClassId} {ρ : Nat → Nat} {Λ : List jx_Lc} {d : Nat} {Q : Option Value → jx_St → Prop} {σ : jx_St} {z0 : Nat} {a1 : Int32} (h : jt_120 0 Λ jx_tb0 (jx_rn Λ jx_tb0 jt_120 (fun k' as σ K => jx_C l D cA ρ Λ d k' as σ K) Q (jx_J l D cA ρ Λ (jx_A ρ Λ) jx_tb0 (d + 1) 120 Q) [] 400) (fun k' as σ K => jx_C l D cA ρ Λ d k' as σ K) Q 0 [(0, .ref z0), (1, .int a1)] [] σ) : jx_C l D cA ρ Λ (d + 1) 120 [.ref z0, .int a1] σ Q := jx_in jk_120 400 [] rfl (Nat.le_of_ble_eq_true rfl) h
/-! ScriptLedgerModel.allSigned()Z -/
theorem jd_121_0 : decode prog_10_method_34_code 0 = .ok (.iconst 1, 1) := by decide +kernel
theorem jd_121_1 : decode prog_10_method_34_code 1 = .ok (.istore_n 1, 1) := by decide +kernel
theorem jd_121_2 : decode prog_10_method_34_code 2 = .ok (.iconst 0, 1) := by decide +kernel
theorem jd_121_3 : decode prog_10_method_34_code 3 = .ok (.istore_n 2, 1) := by decide +kernel
theorem jd_121_4 : decode prog_10_method_34_code 4 = .ok (.iload_n 2, 1) := by decide +kernel
theorem jd_121_5 : decode prog_10_method_34_code 5 = .ok (.aload_n 0, 1) := by decide +kernel
theorem jd_121_6 : decode prog_10_method_34_code 6 = .ok (.getfield 204, 3) := by decide +kernel
theorem jd_121_9 : decode prog_10_method_34_code 9 = .ok (.if_icmp .ge 52, 3) := by decide +kernel
theorem jd_121_12 : decode prog_10_method_34_code 12 = .ok (.iload_n 1, 1) := by decide +kernel
theorem jd_121_13 : decode prog_10_method_34_code 13 = .ok (.ifCond .eq 40, 3) := by decide +kernel
theorem jd_121_16 : decode prog_10_method_34_code 16 = .ok (.aload_n 0, 1) := by decide +kernel
theorem jd_121_17 : decode prog_10_method_34_code 17 = .ok (.getfield 56, 3) := by decide +kernel
theorem jd_121_20 : decode prog_10_method_34_code 20 = .ok (.aload_n 0, 1) := by decide +kernel
theorem jd_121_21 : decode prog_10_method_34_code 21 = .ok (.getfield 71, 3) := by decide +kernel
theorem jd_121_24 : decode prog_10_method_34_code 24 = .ok (.iload_n 2, 1) := by decide +kernel
theorem jd_121_25 : decode prog_10_method_34_code 25 = .ok (.iaload, 1) := by decide +kernel
theorem jd_121_26 : decode prog_10_method_34_code 26 = .ok (.iaload, 1) := by decide +kernel
theorem jd_121_27 : decode prog_10_method_34_code 27 = .ok (.iconst 3, 1) := by decide +kernel
theorem jd_121_28 : decode prog_10_method_34_code 28 = .ok (.if_icmp .gt 21, 3) := by decide +kernel
theorem jd_121_31 : decode prog_10_method_34_code 31 = .ok (.aload_n 0, 1) := by decide +kernel
theorem jd_121_32 : decode prog_10_method_34_code 32 = .ok (.aload_n 0, 1) := by decide +kernel
theorem jd_121_33 : decode prog_10_method_34_code 33 = .ok (.getfield 56, 3) := by decide +kernel
theorem jd_121_36 : decode prog_10_method_34_code 36 = .ok (.aload_n 0, 1) := by decide +kernel
theorem jd_121_37 : decode prog_10_method_34_code 37 = .ok (.getfield 71, 3) := by decide +kernel
theorem jd_121_40 : decode prog_10_method_34_code 40 = .ok (.iload_n 2, 1) := by decide +kernel
theorem jd_121_41 : decode prog_10_method_34_code 41 = .ok (.iaload, 1) := by decide +kernel
theorem jd_121_42 : decode prog_10_method_34_code 42 = .ok (.iaload, 1) := by decide +kernel
theorem jd_121_43 : decode prog_10_method_34_code 43 = .ok (.invokevirtual 231, 3) := by decide +kernel
theorem jd_121_46 : decode prog_10_method_34_code 46 = .ok (.ifCond .eq 7, 3) := by decide +kernel
theorem jd_121_49 : decode prog_10_method_34_code 49 = .ok (.iconst 1, 1) := by decide +kernel
theorem jd_121_50 : decode prog_10_method_34_code 50 = .ok (.goto 4, 3) := by decide +kernel
theorem jd_121_53 : decode prog_10_method_34_code 53 = .ok (.iconst 0, 1) := by decide +kernel
theorem jd_121_54 : decode prog_10_method_34_code 54 = .ok (.istore_n 1, 1) := by decide +kernel
theorem jd_121_55 : decode prog_10_method_34_code 55 = .ok (.iinc 2 1, 3) := by decide +kernel
theorem jd_121_58 : decode prog_10_method_34_code 58 = .ok (.goto (-54), 3) := by decide +kernel
theorem jd_121_61 : decode prog_10_method_34_code 61 = .ok (.iload_n 1, 1) := by decide +kernel
theorem jd_121_62 : decode prog_10_method_34_code 62 = .ok (.ireturn, 1) := by decide +kernel
def jt_121 (pc : Nat) : jx_Sp := bif Nat.ble pc 28 then (bif Nat.ble pc 13 then (bif Nat.ble pc 4 then (bif Nat.ble pc 2 then (bif Nat.ble pc 1 then (bif Nat.ble pc 0 then (bif Nat.beq pc 0 then js_c 1 1 else js_none) else (bif Nat.beq pc 1 then js_is 1 1 else js_none)) else (bif Nat.beq pc 2 then js_c 0 1 else js_none)) else (bif Nat.ble pc 3 then (bif Nat.beq pc 3 then js_is 2 1 else js_none) else (bif Nat.beq pc 4 then js_il 2 1 else js_none))) else (bif Nat.ble pc 9 then (bif Nat.ble pc 6 then (bif Nat.ble pc 5 then (bif Nat.beq pc 5 then js_al 0 1 else js_none) else (bif Nat.beq pc 6 then js_getf 8 33 else js_none)) else (bif Nat.beq pc 9 then js_cge 61 else js_none)) else (bif Nat.ble pc 12 then (bif Nat.beq pc 12 then js_il 1 1 else js_none) else (bif Nat.beq pc 13 then js_ifeq 53 else js_none)))) else (bif Nat.ble pc 24 then (bif Nat.ble pc 20 then (bif Nat.ble pc 17 then (bif Nat.ble pc 16 then (bif Nat.beq pc 16 then js_al 0 1 else js_none) else (bif Nat.beq pc 17 then js_getf 8 27 else js_none)) else (bif Nat.beq pc 20 then js_al 0 1 else js_none)) else (bif Nat.ble pc 21 then (bif Nat.beq pc 21 then js_getf 8 34 else js_none) else (bif Nat.beq pc 24 then js_il 2 1 else js_none))) else (bif Nat.ble pc 26 then (bif Nat.ble pc 25 then (bif Nat.beq pc 25 then js_ald else js_none) else (bif Nat.beq pc 26 then js_ald else js_none)) else (bif Nat.ble pc 27 then (bif Nat.beq pc 27 then js_c 3 1 else js_none) else (bif Nat.beq pc 28 then js_cgt 49 else js_none))))) else (bif Nat.ble pc 43 then (bif Nat.ble pc 37 then (bif Nat.ble pc 33 then (bif Nat.ble pc 32 then (bif Nat.ble pc 31 then (bif Nat.beq pc 31 then js_al 0 1 else js_none) else (bif Nat.beq pc 32 then js_al 0 1 else js_none)) else (bif Nat.beq pc 33 then js_getf 8 27 else js_none)) else (bif Nat.ble pc 36 then (bif Nat.beq pc 36 then js_al 0 1 else js_none) else (bif Nat.beq pc 37 then js_getf 8 34 else js_none))) else (bif Nat.ble pc 41 then (bif Nat.ble pc 40 then (bif Nat.beq pc 40 then js_il 2 1 else js_none) else (bif Nat.beq pc 41 then js_ald else js_none)) else (bif Nat.ble pc 42 then (bif Nat.beq pc 42 then js_ald else js_none) else (bif Nat.beq pc 43 then js_v1 8 120 else js_none)))) else (bif Nat.ble pc 54 then (bif Nat.ble pc 50 then (bif Nat.ble pc 49 then (bif Nat.ble pc 46 then (bif Nat.beq pc 46 then js_ifeq 53 else js_none) else (bif Nat.beq pc 49 then js_c 1 1 else js_none)) else (bif Nat.beq pc 50 then js_go 54 else js_none)) else (bif Nat.ble pc 53 then (bif Nat.beq pc 53 then js_c 0 1 else js_none) else (bif Nat.beq pc 54 then js_is 1 1 else js_none))) else (bif Nat.ble pc 58 then (bif Nat.ble pc 55 then (bif Nat.beq pc 55 then js_inc 2 1 else js_none) else (bif Nat.beq pc 58 then js_go 4 else js_none)) else (bif Nat.ble pc 61 then (bif Nat.beq pc 61 then js_il 1 1 else js_none) else (bif Nat.beq pc 62 then js_zr else js_none)))))
theorem jk_121_0 : jx_Snd 121 0 (js_c 1 1) := jo_iconst (z := 1) jd_121_0 rfl
theorem jk_121_1 : jx_Snd 121 1 (js_is 1 1) := jo_istore_n (i := 1) (w := 1) rfl (Nat.le_of_ble_eq_true rfl) jd_121_1
theorem jk_121_2 : jx_Snd 121 2 (js_c 0 1) := jo_iconst (z := 0) jd_121_2 rfl
theorem jk_121_3 : jx_Snd 121 3 (js_is 2 1) := jo_istore_n (i := 2) (w := 2) rfl (Nat.le_of_ble_eq_true rfl) jd_121_3
theorem jk_121_4 : jx_Snd 121 4 (js_il 2 1) := jo_iload_n (i := 2) (w := 2) rfl jd_121_4
theorem jk_121_5 : jx_Snd 121 5 (js_al 0 1) := jo_aload_n (i := 0) (w := 0) rfl jd_121_5
theorem jk_121_6 : jx_Snd 121 6 (js_getf 8 33) := jo_getf rfl jf_8_204 jd_121_6
theorem jk_121_9 : jx_Snd 121 9 (js_cge 61) := jo_cge (o := 52) rfl jd_121_9
theorem jk_121_12 : jx_Snd 121 12 (js_il 1 1) := jo_iload_n (i := 1) (w := 1) rfl jd_121_12
theorem jk_121_13 : jx_Snd 121 13 (js_ifeq 53) := jo_ifeq (o := 40) rfl jd_121_13
theorem jk_121_16 : jx_Snd 121 16 (js_al 0 1) := jo_aload_n (i := 0) (w := 0) rfl jd_121_16
theorem jk_121_17 : jx_Snd 121 17 (js_getf 8 27) := jo_getf rfl jf_8_56 jd_121_17
theorem jk_121_20 : jx_Snd 121 20 (js_al 0 1) := jo_aload_n (i := 0) (w := 0) rfl jd_121_20
theorem jk_121_21 : jx_Snd 121 21 (js_getf 8 34) := jo_getf rfl jf_8_71 jd_121_21
theorem jk_121_24 : jx_Snd 121 24 (js_il 2 1) := jo_iload_n (i := 2) (w := 2) rfl jd_121_24
theorem jk_121_25 : jx_Snd 121 25 (js_ald) := jo_ald jd_121_25
theorem jk_121_26 : jx_Snd 121 26 (js_ald) := jo_ald jd_121_26
theorem jk_121_27 : jx_Snd 121 27 (js_c 3 1) := jo_iconst (z := 3) jd_121_27 rfl
theorem jk_121_28 : jx_Snd 121 28 (js_cgt 49) := jo_cgt (o := 21) rfl jd_121_28
theorem jk_121_31 : jx_Snd 121 31 (js_al 0 1) := jo_aload_n (i := 0) (w := 0) rfl jd_121_31
theorem jk_121_32 : jx_Snd 121 32 (js_al 0 1) := jo_aload_n (i := 0) (w := 0) rfl jd_121_32
theorem jk_121_33 : jx_Snd 121 33 (js_getf 8 27) := jo_getf rfl jf_8_56 jd_121_33
theorem jk_121_36 : jx_Snd 121 36 (js_al 0 1) := jo_aload_n (i := 0) (w := 0) rfl jd_121_36
theorem jk_121_37 : jx_Snd 121 37 (js_getf 8 34) := jo_getf rfl jf_8_71 jd_121_37
theorem jk_121_40 : jx_Snd 121 40 (js_il 2 1) := jo_iload_n (i := 2) (w := 2) rfl jd_121_40
theorem jk_121_41 : jx_Snd 121 41 (js_ald) := jo_ald jd_121_41
theorem jk_121_42 : jx_Snd 121 42 (js_ald) := jo_ald jd_121_42
theorem jk_121_43 : jx_Snd 121 43 (js_v1 8 120) := jo_v1 rfl jok_120 (Or.inl jw_633) jw_634 jw_735 rfl jd_121_43
theorem jk_121_46 : jx_Snd 121 46 (js_ifeq 53) := jo_ifeq (o := 7) rfl jd_121_46
theorem jk_121_49 : jx_Snd 121 49 (js_c 1 1) := jo_iconst (z := 1) jd_121_49 rfl
theorem jk_121_50 : jx_Snd 121 50 (js_go 54) := jo_goto (o := 4) rfl jd_121_50
theorem jk_121_53 : jx_Snd 121 53 (js_c 0 1) := jo_iconst (z := 0) jd_121_53 rfl
theorem jk_121_54 : jx_Snd 121 54 (js_is 1 1) := jo_istore_n (i := 1) (w := 1) rfl (Nat.le_of_ble_eq_true rfl) jd_121_54
theorem jk_121_55 : jx_Snd 121 55 (js_inc 2 1) := jo_iinc (w := 1) rfl (Nat.le_of_ble_eq_true rfl) jd_121_55
theorem jk_121_58 : jx_Snd 121 58 (js_go 4) := jo_goto (o := (-54)) rfl jd_121_58
theorem jk_121_61 : jx_Snd 121 61 (js_il 1 1) := jo_iload_n (i := 1) (w := 1) rfl jd_121_61
theorem jk_121_62 : jx_Snd 121 62 (js_zr) := jo_zr rfl jd_121_62
theorem jk_121 : jx_So 121 jt_121 := fun pc => jo_le (jo_le (jo_le (jo_le (jo_le (jo_le (jo_at (jk_121_0)) (jo_at (jk_121_1))) (jo_at (jk_121_2))) (jo_le (jo_at (jk_121_3)) (jo_at (jk_121_4)))) (jo_le (jo_le (jo_le (jo_at (jk_121_5)) (jo_at (jk_121_6))) (jo_at (jk_121_9))) (jo_le (jo_at (jk_121_12)) (jo_at (jk_121_13))))) (jo_le (jo_le (jo_le (jo_le (jo_at (jk_121_16)) (jo_at (jk_121_17))) (jo_at (jk_121_20))) (jo_le (jo_at (jk_121_21)) (jo_at (jk_121_24)))) (jo_le (jo_le (jo_at (jk_121_25)) (jo_at (jk_121_26))) (jo_le (jo_at (jk_121_27)) (jo_at (jk_121_28)))))) (jo_le (jo_le (jo_le (jo_le (jo_le (jo_at (jk_121_31)) (jo_at (jk_121_32))) (jo_at (jk_121_33))) (jo_le (jo_at (jk_121_36)) (jo_at (jk_121_37)))) (jo_le (jo_le (jo_at (jk_121_40)) (jo_at (jk_121_41))) (jo_le (jo_at (jk_121_42)) (jo_at (jk_121_43))))) (jo_le (jo_le (jo_le (jo_le (jo_at (jk_121_46)) (jo_at (jk_121_49))) (jo_at (jk_121_50))) (jo_le (jo_at (jk_121_53)) (jo_at (jk_121_54)))) (jo_le (jo_le (jo_at (jk_121_55)) (jo_at (jk_121_58))) (jo_le (jo_at (jk_121_61)) (jo_at (jk_121_62))))))
theorem ji_121 {l : Launch} {D : va_G} {cA : ClassId} {ρ : Nat → Nat} {Λ : List jx_Lc} {d : Nat} {Q : Option Value → jx_St → Prop} {σ : jx_St} {z0 : Nat} (h : jt_121 0 Λ jx_tb0 (jx_rn Λ jx_tb0 jt_121 (fun k' as σ K => jx_C l D cA ρ Λ d k' as σ K) Q (jx_J l D cA ρ Λ (jx_A ρ Λ) jx_tb0 (d + 1) 121 Q) [] 400) (fun k' as σ K => jx_C l D cA ρ Λ d k' as σ K) Q 0 [(0, .ref z0)] [] σ) : jx_C l D cA ρ Λ (d + 1) 121 [.ref z0] σ Q := jx_in jk_121 400 [] rfl (Nat.le_of_ble_eq_true rfl) h
/-! ScriptLedgerModel.needed()I -/
theorem jd_122_0 : decode prog_10_method_35_code 0 = .ok (.iconst (-1), 1) := by decide +kernel
theorem jd_122_1 : decode prog_10_method_35_code 1 = .ok (.istore_n 1, 1) := by decide +kernel
theorem jd_122_2 : decode prog_10_method_35_code 2 = .ok (.iconst 0, 1) := by decide +kernel
theorem jd_122_3 : decode prog_10_method_35_code 3 = .ok (.istore_n 2, 1) := by decide +kernel
theorem jd_122_4 : decode prog_10_method_35_code 4 = .ok (.iload_n 2, 1) := by decide +kernel
theorem jd_122_5 : decode prog_10_method_35_code 5 = .ok (.aload_n 0, 1) := by decide +kernel
theorem jd_122_6 : decode prog_10_method_35_code 6 = .ok (.getfield 204, 3) := by decide +kernel
theorem jd_122_9 : decode prog_10_method_35_code 9 = .ok (.if_icmp .ge 44, 3) := by decide +kernel
theorem jd_122_12 : decode prog_10_method_35_code 12 = .ok (.aload_n 0, 1) := by decide +kernel
theorem jd_122_13 : decode prog_10_method_35_code 13 = .ok (.getfield 56, 3) := by decide +kernel
theorem jd_122_16 : decode prog_10_method_35_code 16 = .ok (.aload_n 0, 1) := by decide +kernel
theorem jd_122_17 : decode prog_10_method_35_code 17 = .ok (.getfield 71, 3) := by decide +kernel
theorem jd_122_20 : decode prog_10_method_35_code 20 = .ok (.iload_n 2, 1) := by decide +kernel
theorem jd_122_21 : decode prog_10_method_35_code 21 = .ok (.iaload, 1) := by decide +kernel
theorem jd_122_22 : decode prog_10_method_35_code 22 = .ok (.iaload, 1) := by decide +kernel
theorem jd_122_23 : decode prog_10_method_35_code 23 = .ok (.iconst 4, 1) := by decide +kernel
theorem jd_122_24 : decode prog_10_method_35_code 24 = .ok (.isub, 1) := by decide +kernel
theorem jd_122_25 : decode prog_10_method_35_code 25 = .ok (.iload_n 1, 1) := by decide +kernel
theorem jd_122_26 : decode prog_10_method_35_code 26 = .ok (.if_icmp .le 19, 3) := by decide +kernel
theorem jd_122_29 : decode prog_10_method_35_code 29 = .ok (.aload_n 0, 1) := by decide +kernel
theorem jd_122_30 : decode prog_10_method_35_code 30 = .ok (.getfield 56, 3) := by decide +kernel
theorem jd_122_33 : decode prog_10_method_35_code 33 = .ok (.aload_n 0, 1) := by decide +kernel
theorem jd_122_34 : decode prog_10_method_35_code 34 = .ok (.getfield 71, 3) := by decide +kernel
theorem jd_122_37 : decode prog_10_method_35_code 37 = .ok (.iload_n 2, 1) := by decide +kernel
theorem jd_122_38 : decode prog_10_method_35_code 38 = .ok (.iaload, 1) := by decide +kernel
theorem jd_122_39 : decode prog_10_method_35_code 39 = .ok (.iaload, 1) := by decide +kernel
theorem jd_122_40 : decode prog_10_method_35_code 40 = .ok (.iconst 4, 1) := by decide +kernel
theorem jd_122_41 : decode prog_10_method_35_code 41 = .ok (.isub, 1) := by decide +kernel
theorem jd_122_42 : decode prog_10_method_35_code 42 = .ok (.goto 4, 3) := by decide +kernel
theorem jd_122_45 : decode prog_10_method_35_code 45 = .ok (.iload_n 1, 1) := by decide +kernel
theorem jd_122_46 : decode prog_10_method_35_code 46 = .ok (.istore_n 1, 1) := by decide +kernel
theorem jd_122_47 : decode prog_10_method_35_code 47 = .ok (.iinc 2 1, 3) := by decide +kernel
theorem jd_122_50 : decode prog_10_method_35_code 50 = .ok (.goto (-46), 3) := by decide +kernel
theorem jd_122_53 : decode prog_10_method_35_code 53 = .ok (.iconst 1, 1) := by decide +kernel
theorem jd_122_54 : decode prog_10_method_35_code 54 = .ok (.istore_n 2, 1) := by decide +kernel
theorem jd_122_55 : decode prog_10_method_35_code 55 = .ok (.iload_n 2, 1) := by decide +kernel
theorem jd_122_56 : decode prog_10_method_35_code 56 = .ok (.iconst 3, 1) := by decide +kernel
theorem jd_122_57 : decode prog_10_method_35_code 57 = .ok (.if_icmp .ge 33, 3) := by decide +kernel
theorem jd_122_60 : decode prog_10_method_35_code 60 = .ok (.aload_n 0, 1) := by decide +kernel
theorem jd_122_61 : decode prog_10_method_35_code 61 = .ok (.getfield 86, 3) := by decide +kernel
theorem jd_122_64 : decode prog_10_method_35_code 64 = .ok (.iload_n 2, 1) := by decide +kernel
theorem jd_122_65 : decode prog_10_method_35_code 65 = .ok (.iaload, 1) := by decide +kernel
theorem jd_122_66 : decode prog_10_method_35_code 66 = .ok (.ifCond .eq 16, 3) := by decide +kernel
theorem jd_122_69 : decode prog_10_method_35_code 69 = .ok (.iload_n 2, 1) := by decide +kernel
theorem jd_122_70 : decode prog_10_method_35_code 70 = .ok (.iconst 1, 1) := by decide +kernel
theorem jd_122_71 : decode prog_10_method_35_code 71 = .ok (.isub, 1) := by decide +kernel
theorem jd_122_72 : decode prog_10_method_35_code 72 = .ok (.iload_n 1, 1) := by decide +kernel
theorem jd_122_73 : decode prog_10_method_35_code 73 = .ok (.if_icmp .le 9, 3) := by decide +kernel
theorem jd_122_76 : decode prog_10_method_35_code 76 = .ok (.iload_n 2, 1) := by decide +kernel
theorem jd_122_77 : decode prog_10_method_35_code 77 = .ok (.iconst 1, 1) := by decide +kernel
theorem jd_122_78 : decode prog_10_method_35_code 78 = .ok (.isub, 1) := by decide +kernel
theorem jd_122_79 : decode prog_10_method_35_code 79 = .ok (.goto 4, 3) := by decide +kernel
theorem jd_122_82 : decode prog_10_method_35_code 82 = .ok (.iload_n 1, 1) := by decide +kernel
theorem jd_122_83 : decode prog_10_method_35_code 83 = .ok (.istore_n 1, 1) := by decide +kernel
theorem jd_122_84 : decode prog_10_method_35_code 84 = .ok (.iinc 2 1, 3) := by decide +kernel
theorem jd_122_87 : decode prog_10_method_35_code 87 = .ok (.goto (-32), 3) := by decide +kernel
theorem jd_122_90 : decode prog_10_method_35_code 90 = .ok (.iload_n 1, 1) := by decide +kernel
theorem jd_122_91 : decode prog_10_method_35_code 91 = .ok (.ireturn, 1) := by decide +kernel
def jt_122 (pc : Nat) : jx_Sp := bif Nat.ble pc 42 then (bif Nat.ble pc 22 then (bif Nat.ble pc 9 then (bif Nat.ble pc 3 then (bif Nat.ble pc 1 then (bif Nat.ble pc 0 then (bif Nat.beq pc 0 then js_c (-1) 1 else js_none) else (bif Nat.beq pc 1 then js_is 1 1 else js_none)) else (bif Nat.ble pc 2 then (bif Nat.beq pc 2 then js_c 0 1 else js_none) else (bif Nat.beq pc 3 then js_is 2 1 else js_none))) else (bif Nat.ble pc 5 then (bif Nat.ble pc 4 then (bif Nat.beq pc 4 then js_il 2 1 else js_none) else (bif Nat.beq pc 5 then js_al 0 1 else js_none)) else (bif Nat.ble pc 6 then (bif Nat.beq pc 6 then js_getf 8 33 else js_none) else (bif Nat.beq pc 9 then js_cge 53 else js_none)))) else (bif Nat.ble pc 17 then (bif Nat.ble pc 13 then (bif Nat.ble pc 12 then (bif Nat.beq pc 12 then js_al 0 1 else js_none) else (bif Nat.beq pc 13 then js_getf 8 27 else js_none)) else (bif Nat.ble pc 16 then (bif Nat.beq pc 16 then js_al 0 1 else js_none) else (bif Nat.beq pc 17 then js_getf 8 34 else js_none))) else (bif Nat.ble pc 21 then (bif Nat.ble pc 20 then (bif Nat.beq pc 20 then js_il 2 1 else js_none) else (bif Nat.beq pc 21 then js_ald else js_none)) else (bif Nat.beq pc 22 then js_ald else js_none)))) else (bif Nat.ble pc 33 then (bif Nat.ble pc 26 then (bif Nat.ble pc 24 then (bif Nat.ble pc 23 then (bif Nat.beq pc 23 then js_c 4 1 else js_none) else (bif Nat.beq pc 24 then js_isub else js_none)) else (bif Nat.ble pc 25 then (bif Nat.beq pc 25 then js_il 1 1 else js_none) else (bif Nat.beq pc 26 then js_cle 45 else js_none))) else (bif Nat.ble pc 30 then (bif Nat.ble pc 29 then (bif Nat.beq pc 29 then js_al 0 1 else js_none) else (bif Nat.beq pc 30 then js_getf 8 27 else js_none)) else (bif Nat.beq pc 33 then js_al 0 1 else js_none))) else (bif Nat.ble pc 39 then (bif Nat.ble pc 37 then (bif Nat.ble pc 34 then (bif Nat.beq pc 34 then js_getf 8 34 else js_none) else (bif Nat.beq pc 37 then js_il 2 1 else js_none)) else (bif Nat.ble pc 38 then (bif Nat.beq pc 38 then js_ald else js_none) else (bif Nat.beq pc 39 then js_ald else js_none))) else (bif Nat.ble pc 41 then (bif Nat.ble pc 40 then (bif Nat.beq pc 40 then js_c 4 1 else js_none) else (bif Nat.beq pc 41 then js_isub else js_none)) else (bif Nat.beq pc 42 then js_go 46 else js_none))))) else (bif Nat.ble pc 69 then (bif Nat.ble pc 56 then (bif Nat.ble pc 50 then (bif Nat.ble pc 46 then (bif Nat.ble pc 45 then (bif Nat.beq pc 45 then js_il 1 1 else js_none) else (bif Nat.beq pc 46 then js_is 1 1 else js_none)) else (bif Nat.ble pc 47 then (bif Nat.beq pc 47 then js_inc 2 1 else js_none) else (bif Nat.beq pc 50 then js_go 4 else js_none))) else (bif Nat.ble pc 54 then (bif Nat.ble pc 53 then (bif Nat.beq pc 53 then js_c 1 1 else js_none) else (bif Nat.beq pc 54 then js_is 2 1 else js_none)) else (bif Nat.ble pc 55 then (bif Nat.beq pc 55 then js_il 2 1 else js_none) else (bif Nat.beq pc 56 then js_c 3 1 else js_none)))) else (bif Nat.ble pc 64 then (bif Nat.ble pc 60 then (bif Nat.ble pc 57 then (bif Nat.beq pc 57 then js_cge 90 else js_none) else (bif Nat.beq pc 60 then js_al 0 1 else js_none)) else (bif Nat.ble pc 61 then (bif Nat.beq pc 61 then js_getf 8 40 else js_none) else (bif Nat.beq pc 64 then js_il 2 1 else js_none))) else (bif Nat.ble pc 66 then (bif Nat.ble pc 65 then (bif Nat.beq pc 65 then js_ald else js_none) else (bif Nat.beq pc 66 then js_ifeq 82 else js_none)) else (bif Nat.beq pc 69 then js_il 2 1 else js_none)))) else (bif Nat.ble pc 78 then (bif Nat.ble pc 73 then (bif Nat.ble pc 71 then (bif Nat.ble pc 70 then (bif Nat.beq pc 70 then js_c 1 1 else js_none) else (bif Nat.beq pc 71 then js_isub else js_none)) else (bif Nat.ble pc 72 then (bif Nat.beq pc 72 then js_il 1 1 else js_none) else (bif Nat.beq pc 73 then js_cle 82 else js_none))) else (bif Nat.ble pc 77 then (bif Nat.ble pc 76 then (bif Nat.beq pc 76 then js_il 2 1 else js_none) else (bif Nat.beq pc 77 then js_c 1 1 else js_none)) else (bif Nat.beq pc 78 then js_isub else js_none))) else (bif Nat.ble pc 84 then (bif Nat.ble pc 82 then (bif Nat.ble pc 79 then (bif Nat.beq pc 79 then js_go 83 else js_none) else (bif Nat.beq pc 82 then js_il 1 1 else js_none)) else (bif Nat.ble pc 83 then (bif Nat.beq pc 83 then js_is 1 1 else js_none) else (bif Nat.beq pc 84 then js_inc 2 1 else js_none))) else (bif Nat.ble pc 90 then (bif Nat.ble pc 87 then (bif Nat.beq pc 87 then js_go 55 else js_none) else (bif Nat.beq pc 90 then js_il 1 1 else js_none)) else (bif Nat.beq pc 91 then js_ir else js_none)))))
theorem jk_122_0 : jx_Snd 122 0 (js_c (-1) 1) := jo_iconst (z := (-1)) jd_122_0 rfl
theorem jk_122_1 : jx_Snd 122 1 (js_is 1 1) := jo_istore_n (i := 1) (w := 1) rfl (Nat.le_of_ble_eq_true rfl) jd_122_1
theorem jk_122_2 : jx_Snd 122 2 (js_c 0 1) := jo_iconst (z := 0) jd_122_2 rfl
theorem jk_122_3 : jx_Snd 122 3 (js_is 2 1) := jo_istore_n (i := 2) (w := 2) rfl (Nat.le_of_ble_eq_true rfl) jd_122_3
theorem jk_122_4 : jx_Snd 122 4 (js_il 2 1) := jo_iload_n (i := 2) (w := 2) rfl jd_122_4
theorem jk_122_5 : jx_Snd 122 5 (js_al 0 1) := jo_aload_n (i := 0) (w := 0) rfl jd_122_5
theorem jk_122_6 : jx_Snd 122 6 (js_getf 8 33) := jo_getf rfl jf_8_204 jd_122_6
theorem jk_122_9 : jx_Snd 122 9 (js_cge 53) := jo_cge (o := 44) rfl jd_122_9
theorem jk_122_12 : jx_Snd 122 12 (js_al 0 1) := jo_aload_n (i := 0) (w := 0) rfl jd_122_12
theorem jk_122_13 : jx_Snd 122 13 (js_getf 8 27) := jo_getf rfl jf_8_56 jd_122_13
theorem jk_122_16 : jx_Snd 122 16 (js_al 0 1) := jo_aload_n (i := 0) (w := 0) rfl jd_122_16
theorem jk_122_17 : jx_Snd 122 17 (js_getf 8 34) := jo_getf rfl jf_8_71 jd_122_17
theorem jk_122_20 : jx_Snd 122 20 (js_il 2 1) := jo_iload_n (i := 2) (w := 2) rfl jd_122_20
theorem jk_122_21 : jx_Snd 122 21 (js_ald) := jo_ald jd_122_21
theorem jk_122_22 : jx_Snd 122 22 (js_ald) := jo_ald jd_122_22
theorem jk_122_23 : jx_Snd 122 23 (js_c 4 1) := jo_iconst (z := 4) jd_122_23 rfl
theorem jk_122_24 : jx_Snd 122 24 (js_isub) := jo_isub jd_122_24
theorem jk_122_25 : jx_Snd 122 25 (js_il 1 1) := jo_iload_n (i := 1) (w := 1) rfl jd_122_25
theorem jk_122_26 : jx_Snd 122 26 (js_cle 45) := jo_cle (o := 19) rfl jd_122_26
theorem jk_122_29 : jx_Snd 122 29 (js_al 0 1) := jo_aload_n (i := 0) (w := 0) rfl jd_122_29
theorem jk_122_30 : jx_Snd 122 30 (js_getf 8 27) := jo_getf rfl jf_8_56 jd_122_30
theorem jk_122_33 : jx_Snd 122 33 (js_al 0 1) := jo_aload_n (i := 0) (w := 0) rfl jd_122_33
theorem jk_122_34 : jx_Snd 122 34 (js_getf 8 34) := jo_getf rfl jf_8_71 jd_122_34
theorem jk_122_37 : jx_Snd 122 37 (js_il 2 1) := jo_iload_n (i := 2) (w := 2) rfl jd_122_37
theorem jk_122_38 : jx_Snd 122 38 (js_ald) := jo_ald jd_122_38
theorem jk_122_39 : jx_Snd 122 39 (js_ald) := jo_ald jd_122_39
theorem jk_122_40 : jx_Snd 122 40 (js_c 4 1) := jo_iconst (z := 4) jd_122_40 rfl
theorem jk_122_41 : jx_Snd 122 41 (js_isub) := jo_isub jd_122_41
theorem jk_122_42 : jx_Snd 122 42 (js_go 46) := jo_goto (o := 4) rfl jd_122_42
theorem jk_122_45 : jx_Snd 122 45 (js_il 1 1) := jo_iload_n (i := 1) (w := 1) rfl jd_122_45
theorem jk_122_46 : jx_Snd 122 46 (js_is 1 1) := jo_istore_n (i := 1) (w := 1) rfl (Nat.le_of_ble_eq_true rfl) jd_122_46
theorem jk_122_47 : jx_Snd 122 47 (js_inc 2 1) := jo_iinc (w := 1) rfl (Nat.le_of_ble_eq_true rfl) jd_122_47
theorem jk_122_50 : jx_Snd 122 50 (js_go 4) := jo_goto (o := (-46)) rfl jd_122_50
theorem jk_122_53 : jx_Snd 122 53 (js_c 1 1) := jo_iconst (z := 1) jd_122_53 rfl
theorem jk_122_54 : jx_Snd 122 54 (js_is 2 1) := jo_istore_n (i := 2) (w := 2) rfl (Nat.le_of_ble_eq_true rfl) jd_122_54
theorem jk_122_55 : jx_Snd 122 55 (js_il 2 1) := jo_iload_n (i := 2) (w := 2) rfl jd_122_55
theorem jk_122_56 : jx_Snd 122 56 (js_c 3 1) := jo_iconst (z := 3) jd_122_56 rfl
theorem jk_122_57 : jx_Snd 122 57 (js_cge 90) := jo_cge (o := 33) rfl jd_122_57
theorem jk_122_60 : jx_Snd 122 60 (js_al 0 1) := jo_aload_n (i := 0) (w := 0) rfl jd_122_60
theorem jk_122_61 : jx_Snd 122 61 (js_getf 8 40) := jo_getf rfl jf_8_86 jd_122_61
theorem jk_122_64 : jx_Snd 122 64 (js_il 2 1) := jo_iload_n (i := 2) (w := 2) rfl jd_122_64
theorem jk_122_65 : jx_Snd 122 65 (js_ald) := jo_ald jd_122_65
theorem jk_122_66 : jx_Snd 122 66 (js_ifeq 82) := jo_ifeq (o := 16) rfl jd_122_66
theorem jk_122_69 : jx_Snd 122 69 (js_il 2 1) := jo_iload_n (i := 2) (w := 2) rfl jd_122_69
theorem jk_122_70 : jx_Snd 122 70 (js_c 1 1) := jo_iconst (z := 1) jd_122_70 rfl
theorem jk_122_71 : jx_Snd 122 71 (js_isub) := jo_isub jd_122_71
theorem jk_122_72 : jx_Snd 122 72 (js_il 1 1) := jo_iload_n (i := 1) (w := 1) rfl jd_122_72
theorem jk_122_73 : jx_Snd 122 73 (js_cle 82) := jo_cle (o := 9) rfl jd_122_73
theorem jk_122_76 : jx_Snd 122 76 (js_il 2 1) := jo_iload_n (i := 2) (w := 2) rfl jd_122_76
theorem jk_122_77 : jx_Snd 122 77 (js_c 1 1) := jo_iconst (z := 1) jd_122_77 rfl
theorem jk_122_78 : jx_Snd 122 78 (js_isub) := jo_isub jd_122_78
theorem jk_122_79 : jx_Snd 122 79 (js_go 83) := jo_goto (o := 4) rfl jd_122_79
theorem jk_122_82 : jx_Snd 122 82 (js_il 1 1) := jo_iload_n (i := 1) (w := 1) rfl jd_122_82
theorem jk_122_83 : jx_Snd 122 83 (js_is 1 1) := jo_istore_n (i := 1) (w := 1) rfl (Nat.le_of_ble_eq_true rfl) jd_122_83
theorem jk_122_84 : jx_Snd 122 84 (js_inc 2 1) := jo_iinc (w := 1) rfl (Nat.le_of_ble_eq_true rfl) jd_122_84
theorem jk_122_87 : jx_Snd 122 87 (js_go 55) := jo_goto (o := (-32)) rfl jd_122_87
theorem jk_122_90 : jx_Snd 122 90 (js_il 1 1) := jo_iload_n (i := 1) (w := 1) rfl jd_122_90
theorem jk_122_91 : jx_Snd 122 91 (js_ir) := jo_ir rfl jd_122_91
theorem jk_122 : jx_So 122 jt_122 := fun pc => jo_le (jo_le (jo_le (jo_le (jo_le (jo_le (jo_at (jk_122_0)) (jo_at (jk_122_1))) (jo_le (jo_at (jk_122_2)) (jo_at (jk_122_3)))) (jo_le (jo_le (jo_at (jk_122_4)) (jo_at (jk_122_5))) (jo_le (jo_at (jk_122_6)) (jo_at (jk_122_9))))) (jo_le (jo_le (jo_le (jo_at (jk_122_12)) (jo_at (jk_122_13))) (jo_le (jo_at (jk_122_16)) (jo_at (jk_122_17)))) (jo_le (jo_le (jo_at (jk_122_20)) (jo_at (jk_122_21))) (jo_at (jk_122_22))))) (jo_le (jo_le (jo_le (jo_le (jo_at (jk_122_23)) (jo_at (jk_122_24))) (jo_le (jo_at (jk_122_25)) (jo_at (jk_122_26)))) (jo_le (jo_le (jo_at (jk_122_29)) (jo_at (jk_122_30))) (jo_at (jk_122_33)))) (jo_le (jo_le (jo_le (jo_at (jk_122_34)) (jo_at (jk_122_37))) (jo_le (jo_at (jk_122_38)) (jo_at (jk_122_39)))) (jo_le (jo_le (jo_at (jk_122_40)) (jo_at (jk_122_41))) (jo_at (jk_122_42)))))) (jo_le (jo_le (jo_le (jo_le (jo_le (jo_at (jk_122_45)) (jo_at (jk_122_46))) (jo_le (jo_at (jk_122_47)) (jo_at (jk_122_50)))) (jo_le (jo_le (jo_at (jk_122_53)) (jo_at (jk_122_54))) (jo_le (jo_at (jk_122_55)) (jo_at (jk_122_56))))) (jo_le (jo_le (jo_le (jo_at (jk_122_57)) (jo_at (jk_122_60))) (jo_le (jo_at (jk_122_61)) (jo_at (jk_122_64)))) (jo_le (jo_le (jo_at (jk_122_65)) (jo_at (jk_122_66))) (jo_at (jk_122_69))))) (jo_le (jo_le (jo_le (jo_le (jo_at (jk_122_70)) (jo_at (jk_122_71))) (jo_le (jo_at (jk_122_72)) (jo_at (jk_122_73)))) (jo_le (jo_le (jo_at (jk_122_76)) (jo_at (jk_122_77))) (jo_at (jk_122_78)))) (jo_le (jo_le (jo_le (jo_at (jk_122_79)) (jo_at (jk_122_82))) (jo_le (jo_at (jk_122_83)) (jo_at (jk_122_84)))) (jo_le (jo_le (jo_at (jk_122_87)) (jo_at (jk_122_90))) (jo_at (jk_122_91))))))
theorem ji_122 {l : Launch} {D : va_G} {cA : ClassId} {ρ : Nat → Nat} {Λ : List jx_Lc} {d : Nat} {Q : Option Value → jx_St → Prop} {σ : jx_St} {z0 : Nat} (h : jt_122 0 Λ jx_tb0 (jx_rn Λ jx_tb0 jt_122 (fun k' as σ K => jx_C l D cA ρ Λ d k' as σ K) Q (jx_J l D cA ρ Λ (jx_A ρ Λ) jx_tb0 (d + 1) 122 Q) [] 400) (fun k' as σ K => jx_C l D cA ρ Λ d k' as σ K) Q 0 [(0, .ref z0)] [] σ) : jx_C l D cA ρ Λ (d + 1) 122 [.ref z0] σ Q := jx_in jk_122 400 [] rfl (Nat.le_of_ble_eq_true rfl) h
/-! ScriptLedgerModel.pledged()Z -/
theorem jd_123_0 : decode prog_10_method_36_code 0 = .ok (.aload_n 0, 1) := by decide +kernel
theorem jd_123_1 : decode prog_10_method_36_code 1 = .ok (.getfield 95, 3) := by decide +kernel
theorem jd_123_4 : decode prog_10_method_36_code 4 = .ok (.ifCond .lt 25, 3) := by decide +kernel
theorem jd_123_7 : decode prog_10_method_36_code 7 = .ok (.aload_n 0, 1) := by decide +kernel
theorem jd_123_8 : decode prog_10_method_36_code 8 = .ok (.aload_n 0, 1) := by decide +kernel
theorem jd_123_9 : decode prog_10_method_36_code 9 = .ok (.getfield 95, 3) := by decide +kernel
theorem jd_123_12 : decode prog_10_method_36_code 12 = .ok (.invokevirtual 228, 3) := by decide +kernel
theorem jd_123_15 : decode prog_10_method_36_code 15 = .ok (.ifCond .eq 14, 3) := by decide +kernel
theorem jd_123_18 : decode prog_10_method_36_code 18 = .ok (.aload_n 0, 1) := by decide +kernel
theorem jd_123_19 : decode prog_10_method_36_code 19 = .ok (.aload_n 0, 1) := by decide +kernel
theorem jd_123_20 : decode prog_10_method_36_code 20 = .ok (.getfield 95, 3) := by decide +kernel
theorem jd_123_23 : decode prog_10_method_36_code 23 = .ok (.invokevirtual 222, 3) := by decide +kernel
theorem jd_123_26 : decode prog_10_method_36_code 26 = .ok (.ifCond .eq 5, 3) := by decide +kernel
theorem jd_123_29 : decode prog_10_method_36_code 29 = .ok (.iconst 0, 1) := by decide +kernel
theorem jd_123_30 : decode prog_10_method_36_code 30 = .ok (.ireturn, 1) := by decide +kernel
theorem jd_123_31 : decode prog_10_method_36_code 31 = .ok (.aload_n 0, 1) := by decide +kernel
theorem jd_123_32 : decode prog_10_method_36_code 32 = .ok (.aload_n 0, 1) := by decide +kernel
theorem jd_123_33 : decode prog_10_method_36_code 33 = .ok (.getfield 56, 3) := by decide +kernel
theorem jd_123_36 : decode prog_10_method_36_code 36 = .ok (.aload_n 0, 1) := by decide +kernel
theorem jd_123_37 : decode prog_10_method_36_code 37 = .ok (.getfield 95, 3) := by decide +kernel
theorem jd_123_40 : decode prog_10_method_36_code 40 = .ok (.iaload, 1) := by decide +kernel
theorem jd_123_41 : decode prog_10_method_36_code 41 = .ok (.invokevirtual 231, 3) := by decide +kernel
theorem jd_123_44 : decode prog_10_method_36_code 44 = .ok (.ifCond .eq 64, 3) := by decide +kernel
theorem jd_123_47 : decode prog_10_method_36_code 47 = .ok (.aload_n 0, 1) := by decide +kernel
theorem jd_123_48 : decode prog_10_method_36_code 48 = .ok (.getfield 53, 3) := by decide +kernel
theorem jd_123_51 : decode prog_10_method_36_code 51 = .ok (.iconst 3, 1) := by decide +kernel
theorem jd_123_52 : decode prog_10_method_36_code 52 = .ok (.aload_n 0, 1) := by decide +kernel
theorem jd_123_53 : decode prog_10_method_36_code 53 = .ok (.getfield 95, 3) := by decide +kernel
theorem jd_123_56 : decode prog_10_method_36_code 56 = .ok (.imul, 1) := by decide +kernel
theorem jd_123_57 : decode prog_10_method_36_code 57 = .ok (.iconst 1, 1) := by decide +kernel
theorem jd_123_58 : decode prog_10_method_36_code 58 = .ok (.iadd, 1) := by decide +kernel
theorem jd_123_59 : decode prog_10_method_36_code 59 = .ok (.iaload, 1) := by decide +kernel
theorem jd_123_60 : decode prog_10_method_36_code 60 = .ok (.ifCond .ne 48, 3) := by decide +kernel
theorem jd_123_63 : decode prog_10_method_36_code 63 = .ok (.aload_n 0, 1) := by decide +kernel
theorem jd_123_64 : decode prog_10_method_36_code 64 = .ok (.getfield 53, 3) := by decide +kernel
theorem jd_123_67 : decode prog_10_method_36_code 67 = .ok (.iconst 3, 1) := by decide +kernel
theorem jd_123_68 : decode prog_10_method_36_code 68 = .ok (.aload_n 0, 1) := by decide +kernel
theorem jd_123_69 : decode prog_10_method_36_code 69 = .ok (.getfield 95, 3) := by decide +kernel
theorem jd_123_72 : decode prog_10_method_36_code 72 = .ok (.imul, 1) := by decide +kernel
theorem jd_123_73 : decode prog_10_method_36_code 73 = .ok (.iconst 2, 1) := by decide +kernel
theorem jd_123_74 : decode prog_10_method_36_code 74 = .ok (.iadd, 1) := by decide +kernel
theorem jd_123_75 : decode prog_10_method_36_code 75 = .ok (.iaload, 1) := by decide +kernel
theorem jd_123_76 : decode prog_10_method_36_code 76 = .ok (.ifCond .ne 32, 3) := by decide +kernel
theorem jd_123_79 : decode prog_10_method_36_code 79 = .ok (.aload_n 0, 1) := by decide +kernel
theorem jd_123_80 : decode prog_10_method_36_code 80 = .ok (.getfield 53, 3) := by decide +kernel
theorem jd_123_83 : decode prog_10_method_36_code 83 = .ok (.iconst 3, 1) := by decide +kernel
theorem jd_123_84 : decode prog_10_method_36_code 84 = .ok (.aload_n 0, 1) := by decide +kernel
theorem jd_123_85 : decode prog_10_method_36_code 85 = .ok (.getfield 95, 3) := by decide +kernel
theorem jd_123_88 : decode prog_10_method_36_code 88 = .ok (.imul, 1) := by decide +kernel
theorem jd_123_89 : decode prog_10_method_36_code 89 = .ok (.iaload, 1) := by decide +kernel
theorem jd_123_90 : decode prog_10_method_36_code 90 = .ok (.i2l, 1) := by decide +kernel
theorem jd_123_91 : decode prog_10_method_36_code 91 = .ok (.ldc2_w 234, 3) := by decide +kernel
theorem jd_123_94 : decode prog_10_method_36_code 94 = .ok (.aload_n 0, 1) := by decide +kernel
theorem jd_123_95 : decode prog_10_method_36_code 95 = .ok (.getfield 210, 3) := by decide +kernel
theorem jd_123_98 : decode prog_10_method_36_code 98 = .ok (.i2l, 1) := by decide +kernel
theorem jd_123_99 : decode prog_10_method_36_code 99 = .ok (.lmul, 1) := by decide +kernel
theorem jd_123_100 : decode prog_10_method_36_code 100 = .ok (.lcmp, 1) := by decide +kernel
theorem jd_123_101 : decode prog_10_method_36_code 101 = .ok (.ifCond .lt 7, 3) := by decide +kernel
theorem jd_123_104 : decode prog_10_method_36_code 104 = .ok (.iconst 1, 1) := by decide +kernel
theorem jd_123_105 : decode prog_10_method_36_code 105 = .ok (.goto 4, 3) := by decide +kernel
theorem jd_123_108 : decode prog_10_method_36_code 108 = .ok (.iconst 0, 1) := by decide +kernel
theorem jd_123_109 : decode prog_10_method_36_code 109 = .ok (.ireturn, 1) := by decide +kernel
def jt_123 (pc : Nat) : jx_Sp := bif Nat.ble pc 58 then (bif Nat.ble pc 31 then (bif Nat.ble pc 15 then (bif Nat.ble pc 7 then (bif Nat.ble pc 1 then (bif Nat.ble pc 0 then (bif Nat.beq pc 0 then js_al 0 1 else js_none) else (bif Nat.beq pc 1 then js_getf 8 47 else js_none)) else (bif Nat.ble pc 4 then (bif Nat.beq pc 4 then js_iflt 29 else js_none) else (bif Nat.beq pc 7 then js_al 0 1 else js_none))) else (bif Nat.ble pc 9 then (bif Nat.ble pc 8 then (bif Nat.beq pc 8 then js_al 0 1 else js_none) else (bif Nat.beq pc 9 then js_getf 8 47 else js_none)) else (bif Nat.ble pc 12 then (bif Nat.beq pc 12 then js_v1 8 117 else js_none) else (bif Nat.beq pc 15 then js_ifeq 29 else js_none)))) else (bif Nat.ble pc 23 then (bif Nat.ble pc 19 then (bif Nat.ble pc 18 then (bif Nat.beq pc 18 then js_al 0 1 else js_none) else (bif Nat.beq pc 19 then js_al 0 1 else js_none)) else (bif Nat.ble pc 20 then (bif Nat.beq pc 20 then js_getf 8 47 else js_none) else (bif Nat.beq pc 23 then js_v1 8 111 else js_none))) else (bif Nat.ble pc 29 then (bif Nat.ble pc 26 then (bif Nat.beq pc 26 then js_ifeq 31 else js_none) else (bif Nat.beq pc 29 then js_c 0 1 else js_none)) else (bif Nat.ble pc 30 then (bif Nat.beq pc 30 then js_zr else js_none) else (bif Nat.beq pc 31 then js_al 0 1 else js_none))))) else (bif Nat.ble pc 47 then (bif Nat.ble pc 37 then (bif Nat.ble pc 33 then (bif Nat.ble pc 32 then (bif Nat.beq pc 32 then js_al 0 1 else js_none) else (bif Nat.beq pc 33 then js_getf 8 27 else js_none)) else (bif Nat.ble pc 36 then (bif Nat.beq pc 36 then js_al 0 1 else js_none) else (bif Nat.beq pc 37 then js_getf 8 47 else js_none))) else (bif Nat.ble pc 41 then (bif Nat.ble pc 40 then (bif Nat.beq pc 40 then js_ald else js_none) else (bif Nat.beq pc 41 then js_v1 8 120 else js_none)) else (bif Nat.ble pc 44 then (bif Nat.beq pc 44 then js_ifeq 108 else js_none) else (bif Nat.beq pc 47 then js_al 0 1 else js_none)))) else (bif Nat.ble pc 53 then (bif Nat.ble pc 51 then (bif Nat.ble pc 48 then (bif Nat.beq pc 48 then js_getf 8 26 else js_none) else (bif Nat.beq pc 51 then js_c 3 1 else js_none)) else (bif Nat.ble pc 52 then (bif Nat.beq pc 52 then js_al 0 1 else js_none) else (bif Nat.beq pc 53 then js_getf 8 47 else js_none))) else (bif Nat.ble pc 57 then (bif Nat.ble pc 56 then (bif Nat.beq pc 56 then js_imul else js_none) else (bif Nat.beq pc 57 then js_c 1 1 else js_none)) else (bif Nat.beq pc 58 then js_iadd else js_none))))) else (bif Nat.ble pc 84 then (bif Nat.ble pc 72 then (bif Nat.ble pc 64 then (bif Nat.ble pc 60 then (bif Nat.ble pc 59 then (bif Nat.beq pc 59 then js_ald else js_none) else (bif Nat.beq pc 60 then js_ifne 108 else js_none)) else (bif Nat.ble pc 63 then (bif Nat.beq pc 63 then js_al 0 1 else js_none) else (bif Nat.beq pc 64 then js_getf 8 26 else js_none))) else (bif Nat.ble pc 68 then (bif Nat.ble pc 67 then (bif Nat.beq pc 67 then js_c 3 1 else js_none) else (bif Nat.beq pc 68 then js_al 0 1 else js_none)) else (bif Nat.ble pc 69 then (bif Nat.beq pc 69 then js_getf 8 47 else js_none) else (bif Nat.beq pc 72 then js_imul else js_none)))) else (bif Nat.ble pc 76 then (bif Nat.ble pc 74 then (bif Nat.ble pc 73 then (bif Nat.beq pc 73 then js_c 2 1 else js_none) else (bif Nat.beq pc 74 then js_iadd else js_none)) else (bif Nat.ble pc 75 then (bif Nat.beq pc 75 then js_ald else js_none) else (bif Nat.beq pc 76 then js_ifne 108 else js_none))) else (bif Nat.ble pc 80 then (bif Nat.ble pc 79 then (bif Nat.beq pc 79 then js_al 0 1 else js_none) else (bif Nat.beq pc 80 then js_getf 8 26 else js_none)) else (bif Nat.ble pc 83 then (bif Nat.beq pc 83 then js_c 3 1 else js_none) else (bif Nat.beq pc 84 then js_al 0 1 else js_none))))) else (bif Nat.ble pc 98 then (bif Nat.ble pc 90 then (bif Nat.ble pc 88 then (bif Nat.ble pc 85 then (bif Nat.beq pc 85 then js_getf 8 47 else js_none) else (bif Nat.beq pc 88 then js_imul else js_none)) else (bif Nat.ble pc 89 then (bif Nat.beq pc 89 then js_ald else js_none) else (bif Nat.beq pc 90 then js_i2l else js_none))) else (bif Nat.ble pc 94 then (bif Nat.ble pc 91 then (bif Nat.beq pc 91 then js_cl 2 3 else js_none) else (bif Nat.beq pc 94 then js_al 0 1 else js_none)) else (bif Nat.ble pc 95 then (bif Nat.beq pc 95 then js_getf 8 42 else js_none) else (bif Nat.beq pc 98 then js_i2l else js_none)))) else (bif Nat.ble pc 104 then (bif Nat.ble pc 100 then (bif Nat.ble pc 99 then (bif Nat.beq pc 99 then js_lmul else js_none) else (bif Nat.beq pc 100 then js_lcmp else js_none)) else (bif Nat.ble pc 101 then (bif Nat.beq pc 101 then js_iflt 108 else js_none) else (bif Nat.beq pc 104 then js_c 1 1 else js_none))) else (bif Nat.ble pc 108 then (bif Nat.ble pc 105 then (bif Nat.beq pc 105 then js_go 109 else js_none) else (bif Nat.beq pc 108 then js_c 0 1 else js_none)) else (bif Nat.beq pc 109 then js_zr else js_none)))))
theorem jk_123_0 : jx_Snd 123 0 (js_al 0 1) := jo_aload_n (i := 0) (w := 0) rfl jd_123_0
theorem jk_123_1 : jx_Snd 123 1 (js_getf 8 47) := jo_getf rfl jf_8_95 jd_123_1
theorem jk_123_4 : jx_Snd 123 4 (js_iflt 29) := jo_iflt (o := 25) rfl jd_123_4
theorem jk_123_7 : jx_Snd 123 7 (js_al 0 1) := jo_aload_n (i := 0) (w := 0) rfl jd_123_7
theorem jk_123_8 : jx_Snd 123 8 (js_al 0 1) := jo_aload_n (i := 0) (w := 0) rfl jd_123_8
theorem jk_123_9 : jx_Snd 123 9 (js_getf 8 47) := jo_getf rfl jf_8_95 jd_123_9
theorem jk_123_12 : jx_Snd 123 12 (js_v1 8 117) := jo_v1 rfl jok_117 (Or.inl jw_624) jw_625 jw_732 rfl jd_123_12
theorem jk_123_15 : jx_Snd 123 15 (js_ifeq 29) := jo_ifeq (o := 14) rfl jd_123_15
theorem jk_123_18 : jx_Snd 123 18 (js_al 0 1) := jo_aload_n (i := 0) (w := 0) rfl jd_123_18
theorem jk_123_19 : jx_Snd 123 19 (js_al 0 1) := jo_aload_n (i := 0) (w := 0) rfl jd_123_19
theorem jk_123_20 : jx_Snd 123 20 (js_getf 8 47) := jo_getf rfl jf_8_95 jd_123_20
theorem jk_123_23 : jx_Snd 123 23 (js_v1 8 111) := jo_v1 rfl jok_111 (Or.inl jw_592) jw_593 jw_729 rfl jd_123_23
theorem jk_123_26 : jx_Snd 123 26 (js_ifeq 31) := jo_ifeq (o := 5) rfl jd_123_26
theorem jk_123_29 : jx_Snd 123 29 (js_c 0 1) := jo_iconst (z := 0) jd_123_29 rfl
theorem jk_123_30 : jx_Snd 123 30 (js_zr) := jo_zr rfl jd_123_30
theorem jk_123_31 : jx_Snd 123 31 (js_al 0 1) := jo_aload_n (i := 0) (w := 0) rfl jd_123_31
theorem jk_123_32 : jx_Snd 123 32 (js_al 0 1) := jo_aload_n (i := 0) (w := 0) rfl jd_123_32
theorem jk_123_33 : jx_Snd 123 33 (js_getf 8 27) := jo_getf rfl jf_8_56 jd_123_33
theorem jk_123_36 : jx_Snd 123 36 (js_al 0 1) := jo_aload_n (i := 0) (w := 0) rfl jd_123_36
theorem jk_123_37 : jx_Snd 123 37 (js_getf 8 47) := jo_getf rfl jf_8_95 jd_123_37
theorem jk_123_40 : jx_Snd 123 40 (js_ald) := jo_ald jd_123_40
theorem jk_123_41 : jx_Snd 123 41 (js_v1 8 120) := jo_v1 rfl jok_120 (Or.inl jw_633) jw_634 jw_735 rfl jd_123_41
theorem jk_123_44 : jx_Snd 123 44 (js_ifeq 108) := jo_ifeq (o := 64) rfl jd_123_44
theorem jk_123_47 : jx_Snd 123 47 (js_al 0 1) := jo_aload_n (i := 0) (w := 0) rfl jd_123_47
theorem jk_123_48 : jx_Snd 123 48 (js_getf 8 26) := jo_getf rfl jf_8_53 jd_123_48
theorem jk_123_51 : jx_Snd 123 51 (js_c 3 1) := jo_iconst (z := 3) jd_123_51 rfl
theorem jk_123_52 : jx_Snd 123 52 (js_al 0 1) := jo_aload_n (i := 0) (w := 0) rfl jd_123_52
theorem jk_123_53 : jx_Snd 123 53 (js_getf 8 47) := jo_getf rfl jf_8_95 jd_123_53
theorem jk_123_56 : jx_Snd 123 56 (js_imul) := jo_imul jd_123_56
theorem jk_123_57 : jx_Snd 123 57 (js_c 1 1) := jo_iconst (z := 1) jd_123_57 rfl
theorem jk_123_58 : jx_Snd 123 58 (js_iadd) := jo_iadd jd_123_58
theorem jk_123_59 : jx_Snd 123 59 (js_ald) := jo_ald jd_123_59
theorem jk_123_60 : jx_Snd 123 60 (js_ifne 108) := jo_ifne (o := 48) rfl jd_123_60
theorem jk_123_63 : jx_Snd 123 63 (js_al 0 1) := jo_aload_n (i := 0) (w := 0) rfl jd_123_63
theorem jk_123_64 : jx_Snd 123 64 (js_getf 8 26) := jo_getf rfl jf_8_53 jd_123_64
theorem jk_123_67 : jx_Snd 123 67 (js_c 3 1) := jo_iconst (z := 3) jd_123_67 rfl
theorem jk_123_68 : jx_Snd 123 68 (js_al 0 1) := jo_aload_n (i := 0) (w := 0) rfl jd_123_68
theorem jk_123_69 : jx_Snd 123 69 (js_getf 8 47) := jo_getf rfl jf_8_95 jd_123_69
theorem jk_123_72 : jx_Snd 123 72 (js_imul) := jo_imul jd_123_72
theorem jk_123_73 : jx_Snd 123 73 (js_c 2 1) := jo_iconst (z := 2) jd_123_73 rfl
theorem jk_123_74 : jx_Snd 123 74 (js_iadd) := jo_iadd jd_123_74
theorem jk_123_75 : jx_Snd 123 75 (js_ald) := jo_ald jd_123_75
theorem jk_123_76 : jx_Snd 123 76 (js_ifne 108) := jo_ifne (o := 32) rfl jd_123_76
theorem jk_123_79 : jx_Snd 123 79 (js_al 0 1) := jo_aload_n (i := 0) (w := 0) rfl jd_123_79
theorem jk_123_80 : jx_Snd 123 80 (js_getf 8 26) := jo_getf rfl jf_8_53 jd_123_80
theorem jk_123_83 : jx_Snd 123 83 (js_c 3 1) := jo_iconst (z := 3) jd_123_83 rfl
theorem jk_123_84 : jx_Snd 123 84 (js_al 0 1) := jo_aload_n (i := 0) (w := 0) rfl jd_123_84
theorem jk_123_85 : jx_Snd 123 85 (js_getf 8 47) := jo_getf rfl jf_8_95 jd_123_85
theorem jk_123_88 : jx_Snd 123 88 (js_imul) := jo_imul jd_123_88
theorem jk_123_89 : jx_Snd 123 89 (js_ald) := jo_ald jd_123_89
theorem jk_123_90 : jx_Snd 123 90 (js_i2l) := jo_i2l jd_123_90
theorem jk_123_91 : jx_Snd 123 91 (js_cl 2 3) := jo_ldc2 (ix := 234) rfl jw_642 jd_123_91
theorem jk_123_94 : jx_Snd 123 94 (js_al 0 1) := jo_aload_n (i := 0) (w := 0) rfl jd_123_94
theorem jk_123_95 : jx_Snd 123 95 (js_getf 8 42) := jo_getf rfl jf_8_210 jd_123_95
theorem jk_123_98 : jx_Snd 123 98 (js_i2l) := jo_i2l jd_123_98
theorem jk_123_99 : jx_Snd 123 99 (js_lmul) := jo_lmul jd_123_99
theorem jk_123_100 : jx_Snd 123 100 (js_lcmp) := jo_lcmp jd_123_100
theorem jk_123_101 : jx_Snd 123 101 (js_iflt 108) := jo_iflt (o := 7) rfl jd_123_101
theorem jk_123_104 : jx_Snd 123 104 (js_c 1 1) := jo_iconst (z := 1) jd_123_104 rfl
theorem jk_123_105 : jx_Snd 123 105 (js_go 109) := jo_goto (o := 4) rfl jd_123_105
theorem jk_123_108 : jx_Snd 123 108 (js_c 0 1) := jo_iconst (z := 0) jd_123_108 rfl
theorem jk_123_109 : jx_Snd 123 109 (js_zr) := jo_zr rfl jd_123_109
theorem jk_123 : jx_So 123 jt_123 := fun pc => jo_le (jo_le (jo_le (jo_le (jo_le (jo_le (jo_at (jk_123_0)) (jo_at (jk_123_1))) (jo_le (jo_at (jk_123_4)) (jo_at (jk_123_7)))) (jo_le (jo_le (jo_at (jk_123_8)) (jo_at (jk_123_9))) (jo_le (jo_at (jk_123_12)) (jo_at (jk_123_15))))) (jo_le (jo_le (jo_le (jo_at (jk_123_18)) (jo_at (jk_123_19))) (jo_le (jo_at (jk_123_20)) (jo_at (jk_123_23)))) (jo_le (jo_le (jo_at (jk_123_26)) (jo_at (jk_123_29))) (jo_le (jo_at (jk_123_30)) (jo_at (jk_123_31)))))) (jo_le (jo_le (jo_le (jo_le (jo_at (jk_123_32)) (jo_at (jk_123_33))) (jo_le (jo_at (jk_123_36)) (jo_at (jk_123_37)))) (jo_le (jo_le (jo_at (jk_123_40)) (jo_at (jk_123_41))) (jo_le (jo_at (jk_123_44)) (jo_at (jk_123_47))))) (jo_le (jo_le (jo_le (jo_at (jk_123_48)) (jo_at (jk_123_51))) (jo_le (jo_at (jk_123_52)) (jo_at (jk_123_53)))) (jo_le (jo_le (jo_at (jk_123_56)) (jo_at (jk_123_57))) (jo_at (jk_123_58)))))) (jo_le (jo_le (jo_le (jo_le (jo_le (jo_at (jk_123_59)) (jo_at (jk_123_60))) (jo_le (jo_at (jk_123_63)) (jo_at (jk_123_64)))) (jo_le (jo_le (jo_at (jk_123_67)) (jo_at (jk_123_68))) (jo_le (jo_at (jk_123_69)) (jo_at (jk_123_72))))) (jo_le (jo_le (jo_le (jo_at (jk_123_73)) (jo_at (jk_123_74))) (jo_le (jo_at (jk_123_75)) (jo_at (jk_123_76)))) (jo_le (jo_le (jo_at (jk_123_79)) (jo_at (jk_123_80))) (jo_le (jo_at (jk_123_83)) (jo_at (jk_123_84)))))) (jo_le (jo_le (jo_le (jo_le (jo_at (jk_123_85)) (jo_at (jk_123_88))) (jo_le (jo_at (jk_123_89)) (jo_at (jk_123_90)))) (jo_le (jo_le (jo_at (jk_123_91)) (jo_at (jk_123_94))) (jo_le (jo_at (jk_123_95)) (jo_at (jk_123_98))))) (jo_le (jo_le (jo_le (jo_at (jk_123_99)) (jo_at (jk_123_100))) (jo_le (jo_at (jk_123_101)) (jo_at (jk_123_104)))) (jo_le (jo_le (jo_at (jk_123_105)) (jo_at (jk_123_108))) (jo_at (jk_123_109))))))
theorem ji_123 {l : Launch} {D : va_G} {cA : ClassId} {ρ : Nat → Nat} {Λ : List jx_Lc} {d : Nat} {Q : Option Value → jx_St → Prop} {σ : jx_St} {z0 : Nat} (h : jt_123 0 Λ jx_tb0 (jx_rn Λ jx_tb0 jt_123 (fun k' as σ K => jx_C l D cA ρ Λ d k' as σ K) Q (jx_J l D cA ρ Λ (jx_A ρ Λ) jx_tb0 (d + 1) 123 Q) [] 400) (fun k' as σ K => jx_C l D cA ρ Λ d k' as σ K) Q 0 [(0, .ref z0)] [] σ) : jx_C l D cA ρ Λ (d + 1) 123 [.ref z0] σ Q := jx_in jk_123 400 [] rfl (Nat.le_of_ble_eq_true rfl) h

/-! ScriptLedger.isBalanced()Z -/
theorem jd_22_0 : decode prog_1_method_23_code 0 = .ok (.iconst 0, 1) := by decide +kernel
theorem jd_22_1 : decode prog_1_method_23_code 1 = .ok (.istore_n 1, 1) := by decide +kernel
theorem jd_22_2 : decode prog_1_method_23_code 2 = .ok (.iload_n 1, 1) := by decide +kernel
theorem jd_22_3 : decode prog_1_method_23_code 3 = .ok (.iconst 3, 1) := by decide +kernel
theorem jd_22_4 : decode prog_1_method_23_code 4 = .ok (.if_icmp .ge 60, 3) := by decide +kernel
theorem jd_22_7 : decode prog_1_method_23_code 7 = .ok (.aload_n 0, 1) := by decide +kernel
theorem jd_22_8 : decode prog_1_method_23_code 8 = .ok (.iload_n 1, 1) := by decide +kernel
theorem jd_22_9 : decode prog_1_method_23_code 9 = .ok (.invokevirtual 211, 3) := by decide +kernel
theorem jd_22_12 : decode prog_1_method_23_code 12 = .ok (.aload_n 0, 1) := by decide +kernel
theorem jd_22_13 : decode prog_1_method_23_code 13 = .ok (.getfield 35, 3) := by decide +kernel
theorem jd_22_16 : decode prog_1_method_23_code 16 = .ok (.getfield 118, 3) := by decide +kernel
theorem jd_22_19 : decode prog_1_method_23_code 19 = .ok (.iload_n 1, 1) := by decide +kernel
theorem jd_22_20 : decode prog_1_method_23_code 20 = .ok (.iaload, 1) := by decide +kernel
theorem jd_22_21 : decode prog_1_method_23_code 21 = .ok (.iadd, 1) := by decide +kernel
theorem jd_22_22 : decode prog_1_method_23_code 22 = .ok (.istore_n 2, 1) := by decide +kernel
theorem jd_22_23 : decode prog_1_method_23_code 23 = .ok (.aload_n 0, 1) := by decide +kernel
theorem jd_22_24 : decode prog_1_method_23_code 24 = .ok (.getfield 35, 3) := by decide +kernel
theorem jd_22_27 : decode prog_1_method_23_code 27 = .ok (.getfield 100, 3) := by decide +kernel
theorem jd_22_30 : decode prog_1_method_23_code 30 = .ok (.iload_n 1, 1) := by decide +kernel
theorem jd_22_31 : decode prog_1_method_23_code 31 = .ok (.invokevirtual 214, 3) := by decide +kernel
theorem jd_22_34 : decode prog_1_method_23_code 34 = .ok (.iload_n 1, 1) := by decide +kernel
theorem jd_22_35 : decode prog_1_method_23_code 35 = .ok (.ifCond .ne 13, 3) := by decide +kernel
theorem jd_22_38 : decode prog_1_method_23_code 38 = .ok (.aload_n 0, 1) := by decide +kernel
theorem jd_22_39 : decode prog_1_method_23_code 39 = .ok (.getfield 35, 3) := by decide +kernel
theorem jd_22_42 : decode prog_1_method_23_code 42 = .ok (.getfield 187, 3) := by decide +kernel
theorem jd_22_45 : decode prog_1_method_23_code 45 = .ok (.goto 4, 3) := by decide +kernel
theorem jd_22_48 : decode prog_1_method_23_code 48 = .ok (.iconst 0, 1) := by decide +kernel
theorem jd_22_49 : decode prog_1_method_23_code 49 = .ok (.iadd, 1) := by decide +kernel
theorem jd_22_50 : decode prog_1_method_23_code 50 = .ok (.istore_n 3, 1) := by decide +kernel
theorem jd_22_51 : decode prog_1_method_23_code 51 = .ok (.iload_n 2, 1) := by decide +kernel
theorem jd_22_52 : decode prog_1_method_23_code 52 = .ok (.iload_n 3, 1) := by decide +kernel
theorem jd_22_53 : decode prog_1_method_23_code 53 = .ok (.if_icmp .eq 5, 3) := by decide +kernel
theorem jd_22_56 : decode prog_1_method_23_code 56 = .ok (.iconst 0, 1) := by decide +kernel
theorem jd_22_57 : decode prog_1_method_23_code 57 = .ok (.ireturn, 1) := by decide +kernel
theorem jd_22_58 : decode prog_1_method_23_code 58 = .ok (.iinc 1 1, 3) := by decide +kernel
theorem jd_22_61 : decode prog_1_method_23_code 61 = .ok (.goto (-59), 3) := by decide +kernel
theorem jd_22_64 : decode prog_1_method_23_code 64 = .ok (.iconst 1, 1) := by decide +kernel
theorem jd_22_65 : decode prog_1_method_23_code 65 = .ok (.ireturn, 1) := by decide +kernel
def jt_22 (pc : Nat) : jx_Sp := bif Nat.ble pc 30 then (bif Nat.ble pc 13 then (bif Nat.ble pc 4 then (bif Nat.ble pc 2 then (bif Nat.ble pc 1 then (bif Nat.ble pc 0 then (bif Nat.beq pc 0 then js_c 0 1 else js_none) else (bif Nat.beq pc 1 then js_is 1 1 else js_none)) else (bif Nat.beq pc 2 then js_il 1 1 else js_none)) else (bif Nat.ble pc 3 then (bif Nat.beq pc 3 then js_c 3 1 else js_none) else (bif Nat.beq pc 4 then js_cge 64 else js_none))) else (bif Nat.ble pc 9 then (bif Nat.ble pc 8 then (bif Nat.ble pc 7 then (bif Nat.beq pc 7 then js_al 0 1 else js_none) else (bif Nat.beq pc 8 then js_il 1 1 else js_none)) else (bif Nat.beq pc 9 then js_v1 0 23 else js_none)) else (bif Nat.ble pc 12 then (bif Nat.beq pc 12 then js_al 0 1 else js_none) else (bif Nat.beq pc 13 then js_getf 0 3 else js_none)))) else (bif Nat.ble pc 22 then (bif Nat.ble pc 20 then (bif Nat.ble pc 19 then (bif Nat.ble pc 16 then (bif Nat.beq pc 16 then js_getf 7 4 else js_none) else (bif Nat.beq pc 19 then js_il 1 1 else js_none)) else (bif Nat.beq pc 20 then js_ald else js_none)) else (bif Nat.ble pc 21 then (bif Nat.beq pc 21 then js_iadd else js_none) else (bif Nat.beq pc 22 then js_is 2 1 else js_none))) else (bif Nat.ble pc 24 then (bif Nat.ble pc 23 then (bif Nat.beq pc 23 then js_al 0 1 else js_none) else (bif Nat.beq pc 24 then js_getf 0 3 else js_none)) else (bif Nat.ble pc 27 then (bif Nat.beq pc 27 then js_getf 7 3 else js_none) else (bif Nat.beq pc 30 then js_il 1 1 else js_none))))) else (bif Nat.ble pc 50 then (bif Nat.ble pc 39 then (bif Nat.ble pc 35 then (bif Nat.ble pc 34 then (bif Nat.ble pc 31 then (bif Nat.beq pc 31 then js_v1 6 80 else js_none) else (bif Nat.beq pc 34 then js_il 1 1 else js_none)) else (bif Nat.beq pc 35 then js_ifne 48 else js_none)) else (bif Nat.ble pc 38 then (bif Nat.beq pc 38 then js_al 0 1 else js_none) else (bif Nat.beq pc 39 then js_getf 0 3 else js_none))) else (bif Nat.ble pc 48 then (bif Nat.ble pc 45 then (bif Nat.ble pc 42 then (bif Nat.beq pc 42 then js_getf 7 6 else js_none) else (bif Nat.beq pc 45 then js_go 49 else js_none)) else (bif Nat.beq pc 48 then js_c 0 1 else js_none)) else (bif Nat.ble pc 49 then (bif Nat.beq pc 49 then js_iadd else js_none) else (bif Nat.beq pc 50 then js_is 3 1 else js_none)))) else (bif Nat.ble pc 57 then (bif Nat.ble pc 53 then (bif Nat.ble pc 52 then (bif Nat.ble pc 51 then (bif Nat.beq pc 51 then js_il 2 1 else js_none) else (bif Nat.beq pc 52 then js_il 3 1 else js_none)) else (bif Nat.beq pc 53 then js_ceq 58 else js_none)) else (bif Nat.ble pc 56 then (bif Nat.beq pc 56 then js_c 0 1 else js_none) else (bif Nat.beq pc 57 then js_zr else js_none))) else (bif Nat.ble pc 61 then (bif Nat.ble pc 58 then (bif Nat.beq pc 58 then js_inc 1 1 else js_none) else (bif Nat.beq pc 61 then js_go 2 else js_none)) else (bif Nat.ble pc 64 then (bif Nat.beq pc 64 then js_c 1 1 else js_none) else (bif Nat.beq pc 65 then js_zr else js_none)))))
theorem jk_22_0 : jx_Snd 22 0 (js_c 0 1) := jo_iconst (z := 0) jd_22_0 rfl
theorem jk_22_1 : jx_Snd 22 1 (js_is 1 1) := jo_istore_n (i := 1) (w := 1) rfl (Nat.le_of_ble_eq_true rfl) jd_22_1
theorem jk_22_2 : jx_Snd 22 2 (js_il 1 1) := jo_iload_n (i := 1) (w := 1) rfl jd_22_2
theorem jk_22_3 : jx_Snd 22 3 (js_c 3 1) := jo_iconst (z := 3) jd_22_3 rfl
theorem jk_22_4 : jx_Snd 22 4 (js_cge 64) := jo_cge (o := 60) rfl jd_22_4
theorem jk_22_7 : jx_Snd 22 7 (js_al 0 1) := jo_aload_n (i := 0) (w := 0) rfl jd_22_7
theorem jk_22_8 : jx_Snd 22 8 (js_il 1 1) := jo_iload_n (i := 1) (w := 1) rfl jd_22_8
theorem jk_22_9 : jx_Snd 22 9 (js_v1 0 23) := jo_v1 rfl jok_23 (Or.inl jw_360) jw_361 jw_706 rfl jd_22_9
theorem jk_22_12 : jx_Snd 22 12 (js_al 0 1) := jo_aload_n (i := 0) (w := 0) rfl jd_22_12
theorem jk_22_13 : jx_Snd 22 13 (js_getf 0 3) := jo_getf rfl jf_0_35 jd_22_13
theorem jk_22_16 : jx_Snd 22 16 (js_getf 7 4) := jo_getf rfl jf_0_118 jd_22_16
theorem jk_22_19 : jx_Snd 22 19 (js_il 1 1) := jo_iload_n (i := 1) (w := 1) rfl jd_22_19
theorem jk_22_20 : jx_Snd 22 20 (js_ald) := jo_ald jd_22_20
theorem jk_22_21 : jx_Snd 22 21 (js_iadd) := jo_iadd jd_22_21
theorem jk_22_22 : jx_Snd 22 22 (js_is 2 1) := jo_istore_n (i := 2) (w := 2) rfl (Nat.le_of_ble_eq_true rfl) jd_22_22
theorem jk_22_23 : jx_Snd 22 23 (js_al 0 1) := jo_aload_n (i := 0) (w := 0) rfl jd_22_23
theorem jk_22_24 : jx_Snd 22 24 (js_getf 0 3) := jo_getf rfl jf_0_35 jd_22_24
theorem jk_22_27 : jx_Snd 22 27 (js_getf 7 3) := jo_getf rfl jf_0_100 jd_22_27
theorem jk_22_30 : jx_Snd 22 30 (js_il 1 1) := jo_iload_n (i := 1) (w := 1) rfl jd_22_30
theorem jk_22_31 : jx_Snd 22 31 (js_v1 6 80) := jo_v1 rfl jok_80 (Or.inl jw_367) jw_368 jw_369 rfl jd_22_31
theorem jk_22_34 : jx_Snd 22 34 (js_il 1 1) := jo_iload_n (i := 1) (w := 1) rfl jd_22_34
theorem jk_22_35 : jx_Snd 22 35 (js_ifne 48) := jo_ifne (o := 13) rfl jd_22_35
theorem jk_22_38 : jx_Snd 22 38 (js_al 0 1) := jo_aload_n (i := 0) (w := 0) rfl jd_22_38
theorem jk_22_39 : jx_Snd 22 39 (js_getf 0 3) := jo_getf rfl jf_0_35 jd_22_39
theorem jk_22_42 : jx_Snd 22 42 (js_getf 7 6) := jo_getf rfl jf_0_187 jd_22_42
theorem jk_22_45 : jx_Snd 22 45 (js_go 49) := jo_goto (o := 4) rfl jd_22_45
theorem jk_22_48 : jx_Snd 22 48 (js_c 0 1) := jo_iconst (z := 0) jd_22_48 rfl
theorem jk_22_49 : jx_Snd 22 49 (js_iadd) := jo_iadd jd_22_49
theorem jk_22_50 : jx_Snd 22 50 (js_is 3 1) := jo_istore_n (i := 3) (w := 3) rfl (Nat.le_of_ble_eq_true rfl) jd_22_50
theorem jk_22_51 : jx_Snd 22 51 (js_il 2 1) := jo_iload_n (i := 2) (w := 2) rfl jd_22_51
theorem jk_22_52 : jx_Snd 22 52 (js_il 3 1) := jo_iload_n (i := 3) (w := 3) rfl jd_22_52
theorem jk_22_53 : jx_Snd 22 53 (js_ceq 58) := jo_ceq (o := 5) rfl jd_22_53
theorem jk_22_56 : jx_Snd 22 56 (js_c 0 1) := jo_iconst (z := 0) jd_22_56 rfl
theorem jk_22_57 : jx_Snd 22 57 (js_zr) := jo_zr rfl jd_22_57
theorem jk_22_58 : jx_Snd 22 58 (js_inc 1 1) := jo_iinc (w := 1) rfl (Nat.le_of_ble_eq_true rfl) jd_22_58
theorem jk_22_61 : jx_Snd 22 61 (js_go 2) := jo_goto (o := (-59)) rfl jd_22_61
theorem jk_22_64 : jx_Snd 22 64 (js_c 1 1) := jo_iconst (z := 1) jd_22_64 rfl
theorem jk_22_65 : jx_Snd 22 65 (js_zr) := jo_zr rfl jd_22_65
theorem jk_22 : jx_So 22 jt_22 := fun pc => jo_le (jo_le (jo_le (jo_le (jo_le (jo_le (jo_at (jk_22_0)) (jo_at (jk_22_1))) (jo_at (jk_22_2))) (jo_le (jo_at (jk_22_3)) (jo_at (jk_22_4)))) (jo_le (jo_le (jo_le (jo_at (jk_22_7)) (jo_at (jk_22_8))) (jo_at (jk_22_9))) (jo_le (jo_at (jk_22_12)) (jo_at (jk_22_13))))) (jo_le (jo_le (jo_le (jo_le (jo_at (jk_22_16)) (jo_at (jk_22_19))) (jo_at (jk_22_20))) (jo_le (jo_at (jk_22_21)) (jo_at (jk_22_22)))) (jo_le (jo_le (jo_at (jk_22_23)) (jo_at (jk_22_24))) (jo_le (jo_at (jk_22_27)) (jo_at (jk_22_30)))))) (jo_le (jo_le (jo_le (jo_le (jo_le (jo_at (jk_22_31)) (jo_at (jk_22_34))) (jo_at (jk_22_35))) (jo_le (jo_at (jk_22_38)) (jo_at (jk_22_39)))) (jo_le (jo_le (jo_le (jo_at (jk_22_42)) (jo_at (jk_22_45))) (jo_at (jk_22_48))) (jo_le (jo_at (jk_22_49)) (jo_at (jk_22_50))))) (jo_le (jo_le (jo_le (jo_le (jo_at (jk_22_51)) (jo_at (jk_22_52))) (jo_at (jk_22_53))) (jo_le (jo_at (jk_22_56)) (jo_at (jk_22_57)))) (jo_le (jo_le (jo_at (jk_22_58)) (jo_at (jk_22_61))) (jo_le (jo_at (jk_22_64)) (jo_at (jk_22_65))))))
theorem ji_22 {l : Launch} {D : va_G} {cA : ClassId} {ρ : Nat → Nat} {Λ : List jx_Lc} {d : Nat} {Q : Option Value → jx_St → Prop} {σ : jx_St} {z0 : Nat} (h : jt_22 0 Λ jx_tb0 (jx_rn Λ jx_tb0 jt_22 (fun k' as σ K => jx_C l D cA ρ Λ d k' as σ K) Q (jx_J l D cA ρ Λ (jx_A ρ Λ) jx_tb0 (d + 1) 22 Q) [] 400) (fun k' as σ K => jx_C l D cA ρ Λ d k' as σ K) Q 0 [(0, .ref z0)] [] σ) : jx_C l D cA ρ Λ (d + 1) 22 [.ref z0] σ Q := jx_in jk_22 400 [] rfl (Nat.le_of_ble_eq_true rfl) h
/-! ScriptLedger.sumOfInputs(I)I -/
theorem jd_23_0 : decode prog_1_method_24_code 0 = .ok (.iconst 0, 1) := by decide +kernel
theorem jd_23_1 : decode prog_1_method_24_code 1 = .ok (.istore_n 2, 1) := by decide +kernel
theorem jd_23_2 : decode prog_1_method_24_code 2 = .ok (.iconst 0, 1) := by decide +kernel
theorem jd_23_3 : decode prog_1_method_24_code 3 = .ok (.istore_n 3, 1) := by decide +kernel
theorem jd_23_4 : decode prog_1_method_24_code 4 = .ok (.iload_n 3, 1) := by decide +kernel
theorem jd_23_5 : decode prog_1_method_24_code 5 = .ok (.aload_n 0, 1) := by decide +kernel
theorem jd_23_6 : decode prog_1_method_24_code 6 = .ok (.getfield 35, 3) := by decide +kernel
theorem jd_23_9 : decode prog_1_method_24_code 9 = .ok (.getfield 90, 3) := by decide +kernel
theorem jd_23_12 : decode prog_1_method_24_code 12 = .ok (.if_icmp .ge 32, 3) := by decide +kernel
theorem jd_23_15 : decode prog_1_method_24_code 15 = .ok (.iload_n 2, 1) := by decide +kernel
theorem jd_23_16 : decode prog_1_method_24_code 16 = .ok (.aload_n 0, 1) := by decide +kernel
theorem jd_23_17 : decode prog_1_method_24_code 17 = .ok (.getfield 28, 3) := by decide +kernel
theorem jd_23_20 : decode prog_1_method_24_code 20 = .ok (.getfield 153, 3) := by decide +kernel
theorem jd_23_23 : decode prog_1_method_24_code 23 = .ok (.aload_n 0, 1) := by decide +kernel
theorem jd_23_24 : decode prog_1_method_24_code 24 = .ok (.getfield 35, 3) := by decide +kernel
theorem jd_23_27 : decode prog_1_method_24_code 27 = .ok (.getfield 208, 3) := by decide +kernel
theorem jd_23_30 : decode prog_1_method_24_code 30 = .ok (.iload_n 3, 1) := by decide +kernel
theorem jd_23_31 : decode prog_1_method_24_code 31 = .ok (.iaload, 1) := by decide +kernel
theorem jd_23_32 : decode prog_1_method_24_code 32 = .ok (.iload_n 1, 1) := by decide +kernel
theorem jd_23_33 : decode prog_1_method_24_code 33 = .ok (.invokevirtual 158, 3) := by decide +kernel
theorem jd_23_36 : decode prog_1_method_24_code 36 = .ok (.iadd, 1) := by decide +kernel
theorem jd_23_37 : decode prog_1_method_24_code 37 = .ok (.istore_n 2, 1) := by decide +kernel
theorem jd_23_38 : decode prog_1_method_24_code 38 = .ok (.iinc 3 1, 3) := by decide +kernel
theorem jd_23_41 : decode prog_1_method_24_code 41 = .ok (.goto (-37), 3) := by decide +kernel
theorem jd_23_44 : decode prog_1_method_24_code 44 = .ok (.iload_n 2, 1) := by decide +kernel
theorem jd_23_45 : decode prog_1_method_24_code 45 = .ok (.ireturn, 1) := by decide +kernel
def jt_23 (pc : Nat) : jx_Sp := bif Nat.ble pc 20 then (bif Nat.ble pc 6 then (bif Nat.ble pc 3 then (bif Nat.ble pc 1 then (bif Nat.ble pc 0 then (bif Nat.beq pc 0 then js_c 0 1 else js_none) else (bif Nat.beq pc 1 then js_is 2 1 else js_none)) else (bif Nat.ble pc 2 then (bif Nat.beq pc 2 then js_c 0 1 else js_none) else (bif Nat.beq pc 3 then js_is 3 1 else js_none))) else (bif Nat.ble pc 5 then (bif Nat.ble pc 4 then (bif Nat.beq pc 4 then js_il 3 1 else js_none) else (bif Nat.beq pc 5 then js_al 0 1 else js_none)) else (bif Nat.beq pc 6 then js_getf 0 3 else js_none))) else (bif Nat.ble pc 15 then (bif Nat.ble pc 12 then (bif Nat.ble pc 9 then (bif Nat.beq pc 9 then js_getf 7 2 else js_none) else (bif Nat.beq pc 12 then js_cge 44 else js_none)) else (bif Nat.beq pc 15 then js_il 2 1 else js_none)) else (bif Nat.ble pc 17 then (bif Nat.ble pc 16 then (bif Nat.beq pc 16 then js_al 0 1 else js_none) else (bif Nat.beq pc 17 then js_getf 0 2 else js_none)) else (bif Nat.beq pc 20 then js_getf 5 0 else js_none)))) else (bif Nat.ble pc 33 then (bif Nat.ble pc 30 then (bif Nat.ble pc 24 then (bif Nat.ble pc 23 then (bif Nat.beq pc 23 then js_al 0 1 else js_none) else (bif Nat.beq pc 24 then js_getf 0 3 else js_none)) else (bif Nat.ble pc 27 then (bif Nat.beq pc 27 then js_getf 7 0 else js_none) else (bif Nat.beq pc 30 then js_il 3 1 else js_none))) else (bif Nat.ble pc 32 then (bif Nat.ble pc 31 then (bif Nat.beq pc 31 then js_ald else js_none) else (bif Nat.beq pc 32 then js_il 1 1 else js_none)) else (bif Nat.beq pc 33 then js_v2 6 79 else js_none))) else (bif Nat.ble pc 38 then (bif Nat.ble pc 37 then (bif Nat.ble pc 36 then (bif Nat.beq pc 36 then js_iadd else js_none) else (bif Nat.beq pc 37 then js_is 2 1 else js_none)) else (bif Nat.beq pc 38 then js_inc 3 1 else js_none)) else (bif Nat.ble pc 44 then (bif Nat.ble pc 41 then (bif Nat.beq pc 41 then js_go 4 else js_none) else (bif Nat.beq pc 44 then js_il 2 1 else js_none)) else (bif Nat.beq pc 45 then js_ir else js_none))))
theorem jk_23_0 : jx_Snd 23 0 (js_c 0 1) := jo_iconst (z := 0) jd_23_0 rfl
theorem jk_23_1 : jx_Snd 23 1 (js_is 2 1) := jo_istore_n (i := 2) (w := 2) rfl (Nat.le_of_ble_eq_true rfl) jd_23_1
theorem jk_23_2 : jx_Snd 23 2 (js_c 0 1) := jo_iconst (z := 0) jd_23_2 rfl
theorem jk_23_3 : jx_Snd 23 3 (js_is 3 1) := jo_istore_n (i := 3) (w := 3) rfl (Nat.le_of_ble_eq_true rfl) jd_23_3
theorem jk_23_4 : jx_Snd 23 4 (js_il 3 1) := jo_iload_n (i := 3) (w := 3) rfl jd_23_4
theorem jk_23_5 : jx_Snd 23 5 (js_al 0 1) := jo_aload_n (i := 0) (w := 0) rfl jd_23_5
theorem jk_23_6 : jx_Snd 23 6 (js_getf 0 3) := jo_getf rfl jf_0_35 jd_23_6
theorem jk_23_9 : jx_Snd 23 9 (js_getf 7 2) := jo_getf rfl jf_0_90 jd_23_9
theorem jk_23_12 : jx_Snd 23 12 (js_cge 44) := jo_cge (o := 32) rfl jd_23_12
theorem jk_23_15 : jx_Snd 23 15 (js_il 2 1) := jo_iload_n (i := 2) (w := 2) rfl jd_23_15
theorem jk_23_16 : jx_Snd 23 16 (js_al 0 1) := jo_aload_n (i := 0) (w := 0) rfl jd_23_16
theorem jk_23_17 : jx_Snd 23 17 (js_getf 0 2) := jo_getf rfl jf_0_28 jd_23_17
theorem jk_23_20 : jx_Snd 23 20 (js_getf 5 0) := jo_getf rfl jf_0_153 jd_23_20
theorem jk_23_23 : jx_Snd 23 23 (js_al 0 1) := jo_aload_n (i := 0) (w := 0) rfl jd_23_23
theorem jk_23_24 : jx_Snd 23 24 (js_getf 0 3) := jo_getf rfl jf_0_35 jd_23_24
theorem jk_23_27 : jx_Snd 23 27 (js_getf 7 0) := jo_getf rfl jf_0_208 jd_23_27
theorem jk_23_30 : jx_Snd 23 30 (js_il 3 1) := jo_iload_n (i := 3) (w := 3) rfl jd_23_30
theorem jk_23_31 : jx_Snd 23 31 (js_ald) := jo_ald jd_23_31
theorem jk_23_32 : jx_Snd 23 32 (js_il 1 1) := jo_iload_n (i := 1) (w := 1) rfl jd_23_32
theorem jk_23_33 : jx_Snd 23 33 (js_v2 6 79) := jo_v2 rfl jok_79 (Or.inl jw_363) jw_364 jw_365 rfl jd_23_33
theorem jk_23_36 : jx_Snd 23 36 (js_iadd) := jo_iadd jd_23_36
theorem jk_23_37 : jx_Snd 23 37 (js_is 2 1) := jo_istore_n (i := 2) (w := 2) rfl (Nat.le_of_ble_eq_true rfl) jd_23_37
theorem jk_23_38 : jx_Snd 23 38 (js_inc 3 1) := jo_iinc (w := 1) rfl (Nat.le_of_ble_eq_true rfl) jd_23_38
theorem jk_23_41 : jx_Snd 23 41 (js_go 4) := jo_goto (o := (-37)) rfl jd_23_41
theorem jk_23_44 : jx_Snd 23 44 (js_il 2 1) := jo_iload_n (i := 2) (w := 2) rfl jd_23_44
theorem jk_23_45 : jx_Snd 23 45 (js_ir) := jo_ir rfl jd_23_45
theorem jk_23 : jx_So 23 jt_23 := fun pc => jo_le (jo_le (jo_le (jo_le (jo_le (jo_at (jk_23_0)) (jo_at (jk_23_1))) (jo_le (jo_at (jk_23_2)) (jo_at (jk_23_3)))) (jo_le (jo_le (jo_at (jk_23_4)) (jo_at (jk_23_5))) (jo_at (jk_23_6)))) (jo_le (jo_le (jo_le (jo_at (jk_23_9)) (jo_at (jk_23_12))) (jo_at (jk_23_15))) (jo_le (jo_le (jo_at (jk_23_16)) (jo_at (jk_23_17))) (jo_at (jk_23_20))))) (jo_le (jo_le (jo_le (jo_le (jo_at (jk_23_23)) (jo_at (jk_23_24))) (jo_le (jo_at (jk_23_27)) (jo_at (jk_23_30)))) (jo_le (jo_le (jo_at (jk_23_31)) (jo_at (jk_23_32))) (jo_at (jk_23_33)))) (jo_le (jo_le (jo_le (jo_at (jk_23_36)) (jo_at (jk_23_37))) (jo_at (jk_23_38))) (jo_le (jo_le (jo_at (jk_23_41)) (jo_at (jk_23_44))) (jo_at (jk_23_45)))))
theorem ji_23 {l : Launch} {D : va_G} {cA : ClassId} {ρ : Nat → Nat} {Λ : List jx_Lc} {d : Nat} {Q : Option Value → jx_St → Prop} {σ : jx_St} {z0 : Nat} {a1 : Int32} (h : jt_23 0 Λ jx_tb0 (jx_rn Λ jx_tb0 jt_23 (fun k' as σ K => jx_C l D cA ρ Λ d k' as σ K) Q (jx_J l D cA ρ Λ (jx_A ρ Λ) jx_tb0 (d + 1) 23 Q) [] 400) (fun k' as σ K => jx_C l D cA ρ Λ d k' as σ K) Q 0 [(0, .ref z0), (1, .int a1)] [] σ) : jx_C l D cA ρ Λ (d + 1) 23 [.ref z0, .int a1] σ Q := jx_in jk_23 400 [] rfl (Nat.le_of_ble_eq_true rfl) h
/-! ScriptLedger.keysHaveSigned()Z -/
theorem jd_24_0 : decode prog_1_method_25_code 0 = .ok (.iconst 0, 1) := by decide +kernel
theorem jd_24_1 : decode prog_1_method_25_code 1 = .ok (.istore_n 1, 1) := by decide +kernel
theorem jd_24_2 : decode prog_1_method_25_code 2 = .ok (.iload_n 1, 1) := by decide +kernel
theorem jd_24_3 : decode prog_1_method_25_code 3 = .ok (.aload_n 0, 1) := by decide +kernel
theorem jd_24_4 : decode prog_1_method_25_code 4 = .ok (.getfield 35, 3) := by decide +kernel
theorem jd_24_7 : decode prog_1_method_25_code 7 = .ok (.getfield 90, 3) := by decide +kernel
theorem jd_24_10 : decode prog_1_method_25_code 10 = .ok (.if_icmp .ge 48, 3) := by decide +kernel
theorem jd_24_13 : decode prog_1_method_25_code 13 = .ok (.aload_n 0, 1) := by decide +kernel
theorem jd_24_14 : decode prog_1_method_25_code 14 = .ok (.getfield 28, 3) := by decide +kernel
theorem jd_24_17 : decode prog_1_method_25_code 17 = .ok (.getfield 153, 3) := by decide +kernel
theorem jd_24_20 : decode prog_1_method_25_code 20 = .ok (.getfield 162, 3) := by decide +kernel
theorem jd_24_23 : decode prog_1_method_25_code 23 = .ok (.aload_n 0, 1) := by decide +kernel
theorem jd_24_24 : decode prog_1_method_25_code 24 = .ok (.getfield 35, 3) := by decide +kernel
theorem jd_24_27 : decode prog_1_method_25_code 27 = .ok (.getfield 208, 3) := by decide +kernel
theorem jd_24_30 : decode prog_1_method_25_code 30 = .ok (.iload_n 1, 1) := by decide +kernel
theorem jd_24_31 : decode prog_1_method_25_code 31 = .ok (.iaload, 1) := by decide +kernel
theorem jd_24_32 : decode prog_1_method_25_code 32 = .ok (.iaload, 1) := by decide +kernel
theorem jd_24_33 : decode prog_1_method_25_code 33 = .ok (.istore_n 2, 1) := by decide +kernel
theorem jd_24_34 : decode prog_1_method_25_code 34 = .ok (.iload_n 2, 1) := by decide +kernel
theorem jd_24_35 : decode prog_1_method_25_code 35 = .ok (.iconst 4, 1) := by decide +kernel
theorem jd_24_36 : decode prog_1_method_25_code 36 = .ok (.if_icmp .ge 16, 3) := by decide +kernel
theorem jd_24_39 : decode prog_1_method_25_code 39 = .ok (.aload_n 0, 1) := by decide +kernel
theorem jd_24_40 : decode prog_1_method_25_code 40 = .ok (.getfield 35, 3) := by decide +kernel
theorem jd_24_43 : decode prog_1_method_25_code 43 = .ok (.iload_n 2, 1) := by decide +kernel
theorem jd_24_44 : decode prog_1_method_25_code 44 = .ok (.invokevirtual 217, 3) := by decide +kernel
theorem jd_24_47 : decode prog_1_method_25_code 47 = .ok (.ifCond .ne 5, 3) := by decide +kernel
theorem jd_24_50 : decode prog_1_method_25_code 50 = .ok (.iconst 0, 1) := by decide +kernel
theorem jd_24_51 : decode prog_1_method_25_code 51 = .ok (.ireturn, 1) := by decide +kernel
theorem jd_24_52 : decode prog_1_method_25_code 52 = .ok (.iinc 1 1, 3) := by decide +kernel
theorem jd_24_55 : decode prog_1_method_25_code 55 = .ok (.goto (-53), 3) := by decide +kernel
theorem jd_24_58 : decode prog_1_method_25_code 58 = .ok (.iconst 1, 1) := by decide +kernel
theorem jd_24_59 : decode prog_1_method_25_code 59 = .ok (.ireturn, 1) := by decide +kernel
def jt_24 (pc : Nat) : jx_Sp := bif Nat.ble pc 31 then (bif Nat.ble pc 13 then (bif Nat.ble pc 3 then (bif Nat.ble pc 1 then (bif Nat.ble pc 0 then (bif Nat.beq pc 0 then js_c 0 1 else js_none) else (bif Nat.beq pc 1 then js_is 1 1 else js_none)) else (bif Nat.ble pc 2 then (bif Nat.beq pc 2 then js_il 1 1 else js_none) else (bif Nat.beq pc 3 then js_al 0 1 else js_none))) else (bif Nat.ble pc 7 then (bif Nat.ble pc 4 then (bif Nat.beq pc 4 then js_getf 0 3 else js_none) else (bif Nat.beq pc 7 then js_getf 7 2 else js_none)) else (bif Nat.ble pc 10 then (bif Nat.beq pc 10 then js_cge 58 else js_none) else (bif Nat.beq pc 13 then js_al 0 1 else js_none)))) else (bif Nat.ble pc 23 then (bif Nat.ble pc 17 then (bif Nat.ble pc 14 then (bif Nat.beq pc 14 then js_getf 0 2 else js_none) else (bif Nat.beq pc 17 then js_getf 5 0 else js_none)) else (bif Nat.ble pc 20 then (bif Nat.beq pc 20 then js_getf 6 0 else js_none) else (bif Nat.beq pc 23 then js_al 0 1 else js_none))) else (bif Nat.ble pc 27 then (bif Nat.ble pc 24 then (bif Nat.beq pc 24 then js_getf 0 3 else js_none) else (bif Nat.beq pc 27 then js_getf 7 0 else js_none)) else (bif Nat.ble pc 30 then (bif Nat.beq pc 30 then js_il 1 1 else js_none) else (bif Nat.beq pc 31 then js_ald else js_none))))) else (bif Nat.ble pc 43 then (bif Nat.ble pc 35 then (bif Nat.ble pc 33 then (bif Nat.ble pc 32 then (bif Nat.beq pc 32 then js_ald else js_none) else (bif Nat.beq pc 33 then js_is 2 1 else js_none)) else (bif Nat.ble pc 34 then (bif Nat.beq pc 34 then js_il 2 1 else js_none) else (bif Nat.beq pc 35 then js_c 4 1 else js_none))) else (bif Nat.ble pc 39 then (bif Nat.ble pc 36 then (bif Nat.beq pc 36 then js_cge 52 else js_none) else (bif Nat.beq pc 39 then js_al 0 1 else js_none)) else (bif Nat.ble pc 40 then (bif Nat.beq pc 40 then js_getf 0 3 else js_none) else (bif Nat.beq pc 43 then js_il 2 1 else js_none)))) else (bif Nat.ble pc 51 then (bif Nat.ble pc 47 then (bif Nat.ble pc 44 then (bif Nat.beq pc 44 then js_v1 7 87 else js_none) else (bif Nat.beq pc 47 then js_ifne 52 else js_none)) else (bif Nat.ble pc 50 then (bif Nat.beq pc 50 then js_c 0 1 else js_none) else (bif Nat.beq pc 51 then js_zr else js_none))) else (bif Nat.ble pc 55 then (bif Nat.ble pc 52 then (bif Nat.beq pc 52 then js_inc 1 1 else js_none) else (bif Nat.beq pc 55 then js_go 2 else js_none)) else (bif Nat.ble pc 58 then (bif Nat.beq pc 58 then js_c 1 1 else js_none) else (bif Nat.beq pc 59 then js_zr else js_none)))))
theorem jk_24_0 : jx_Snd 24 0 (js_c 0 1) := jo_iconst (z := 0) jd_24_0 rfl
theorem jk_24_1 : jx_Snd 24 1 (js_is 1 1) := jo_istore_n (i := 1) (w := 1) rfl (Nat.le_of_ble_eq_true rfl) jd_24_1
theorem jk_24_2 : jx_Snd 24 2 (js_il 1 1) := jo_iload_n (i := 1) (w := 1) rfl jd_24_2
theorem jk_24_3 : jx_Snd 24 3 (js_al 0 1) := jo_aload_n (i := 0) (w := 0) rfl jd_24_3
theorem jk_24_4 : jx_Snd 24 4 (js_getf 0 3) := jo_getf rfl jf_0_35 jd_24_4
theorem jk_24_7 : jx_Snd 24 7 (js_getf 7 2) := jo_getf rfl jf_0_90 jd_24_7
theorem jk_24_10 : jx_Snd 24 10 (js_cge 58) := jo_cge (o := 48) rfl jd_24_10
theorem jk_24_13 : jx_Snd 24 13 (js_al 0 1) := jo_aload_n (i := 0) (w := 0) rfl jd_24_13
theorem jk_24_14 : jx_Snd 24 14 (js_getf 0 2) := jo_getf rfl jf_0_28 jd_24_14
theorem jk_24_17 : jx_Snd 24 17 (js_getf 5 0) := jo_getf rfl jf_0_153 jd_24_17
theorem jk_24_20 : jx_Snd 24 20 (js_getf 6 0) := jo_getf rfl jf_0_162 jd_24_20
theorem jk_24_23 : jx_Snd 24 23 (js_al 0 1) := jo_aload_n (i := 0) (w := 0) rfl jd_24_23
theorem jk_24_24 : jx_Snd 24 24 (js_getf 0 3) := jo_getf rfl jf_0_35 jd_24_24
theorem jk_24_27 : jx_Snd 24 27 (js_getf 7 0) := jo_getf rfl jf_0_208 jd_24_27
theorem jk_24_30 : jx_Snd 24 30 (js_il 1 1) := jo_iload_n (i := 1) (w := 1) rfl jd_24_30
theorem jk_24_31 : jx_Snd 24 31 (js_ald) := jo_ald jd_24_31
theorem jk_24_32 : jx_Snd 24 32 (js_ald) := jo_ald jd_24_32
theorem jk_24_33 : jx_Snd 24 33 (js_is 2 1) := jo_istore_n (i := 2) (w := 2) rfl (Nat.le_of_ble_eq_true rfl) jd_24_33
theorem jk_24_34 : jx_Snd 24 34 (js_il 2 1) := jo_iload_n (i := 2) (w := 2) rfl jd_24_34
theorem jk_24_35 : jx_Snd 24 35 (js_c 4 1) := jo_iconst (z := 4) jd_24_35 rfl
theorem jk_24_36 : jx_Snd 24 36 (js_cge 52) := jo_cge (o := 16) rfl jd_24_36
theorem jk_24_39 : jx_Snd 24 39 (js_al 0 1) := jo_aload_n (i := 0) (w := 0) rfl jd_24_39
theorem jk_24_40 : jx_Snd 24 40 (js_getf 0 3) := jo_getf rfl jf_0_35 jd_24_40
theorem jk_24_43 : jx_Snd 24 43 (js_il 2 1) := jo_iload_n (i := 2) (w := 2) rfl jd_24_43
theorem jk_24_44 : jx_Snd 24 44 (js_v1 7 87) := jo_v1 rfl jok_87 (Or.inl jw_375) jw_376 jw_377 rfl jd_24_44
theorem jk_24_47 : jx_Snd 24 47 (js_ifne 52) := jo_ifne (o := 5) rfl jd_24_47
theorem jk_24_50 : jx_Snd 24 50 (js_c 0 1) := jo_iconst (z := 0) jd_24_50 rfl
theorem jk_24_51 : jx_Snd 24 51 (js_zr) := jo_zr rfl jd_24_51
theorem jk_24_52 : jx_Snd 24 52 (js_inc 1 1) := jo_iinc (w := 1) rfl (Nat.le_of_ble_eq_true rfl) jd_24_52
theorem jk_24_55 : jx_Snd 24 55 (js_go 2) := jo_goto (o := (-53)) rfl jd_24_55
theorem jk_24_58 : jx_Snd 24 58 (js_c 1 1) := jo_iconst (z := 1) jd_24_58 rfl
theorem jk_24_59 : jx_Snd 24 59 (js_zr) := jo_zr rfl jd_24_59
theorem jk_24 : jx_So 24 jt_24 := fun pc => jo_le (jo_le (jo_le (jo_le (jo_le (jo_at (jk_24_0)) (jo_at (jk_24_1))) (jo_le (jo_at (jk_24_2)) (jo_at (jk_24_3)))) (jo_le (jo_le (jo_at (jk_24_4)) (jo_at (jk_24_7))) (jo_le (jo_at (jk_24_10)) (jo_at (jk_24_13))))) (jo_le (jo_le (jo_le (jo_at (jk_24_14)) (jo_at (jk_24_17))) (jo_le (jo_at (jk_24_20)) (jo_at (jk_24_23)))) (jo_le (jo_le (jo_at (jk_24_24)) (jo_at (jk_24_27))) (jo_le (jo_at (jk_24_30)) (jo_at (jk_24_31)))))) (jo_le (jo_le (jo_le (jo_le (jo_at (jk_24_32)) (jo_at (jk_24_33))) (jo_le (jo_at (jk_24_34)) (jo_at (jk_24_35)))) (jo_le (jo_le (jo_at (jk_24_36)) (jo_at (jk_24_39))) (jo_le (jo_at (jk_24_40)) (jo_at (jk_24_43))))) (jo_le (jo_le (jo_le (jo_at (jk_24_44)) (jo_at (jk_24_47))) (jo_le (jo_at (jk_24_50)) (jo_at (jk_24_51)))) (jo_le (jo_le (jo_at (jk_24_52)) (jo_at (jk_24_55))) (jo_le (jo_at (jk_24_58)) (jo_at (jk_24_59))))))
theorem ji_24 {l : Launch} {D : va_G} {cA : ClassId} {ρ : Nat → Nat} {Λ : List jx_Lc} {d : Nat} {Q : Option Value → jx_St → Prop} {σ : jx_St} {z0 : Nat} (h : jt_24 0 Λ jx_tb0 (jx_rn Λ jx_tb0 jt_24 (fun k' as σ K => jx_C l D cA ρ Λ d k' as σ K) Q (jx_J l D cA ρ Λ (jx_A ρ Λ) jx_tb0 (d + 1) 24 Q) [] 400) (fun k' as σ K => jx_C l D cA ρ Λ d k' as σ K) Q 0 [(0, .ref z0)] [] σ) : jx_C l D cA ρ Λ (d + 1) 24 [.ref z0] σ Q := jx_in jk_24 400 [] rfl (Nat.le_of_ble_eq_true rfl) h
/-! ScriptLedger.scriptsAreDefined()Z -/
theorem jd_25_0 : decode prog_1_method_26_code 0 = .ok (.iconst 0, 1) := by decide +kernel
theorem jd_25_1 : decode prog_1_method_26_code 1 = .ok (.istore_n 1, 1) := by decide +kernel
theorem jd_25_2 : decode prog_1_method_26_code 2 = .ok (.iload_n 1, 1) := by decide +kernel
theorem jd_25_3 : decode prog_1_method_26_code 3 = .ok (.aload_n 0, 1) := by decide +kernel
theorem jd_25_4 : decode prog_1_method_26_code 4 = .ok (.getfield 35, 3) := by decide +kernel
theorem jd_25_7 : decode prog_1_method_26_code 7 = .ok (.getfield 90, 3) := by decide +kernel
theorem jd_25_10 : decode prog_1_method_26_code 10 = .ok (.if_icmp .ge 53, 3) := by decide +kernel
theorem jd_25_13 : decode prog_1_method_26_code 13 = .ok (.aload_n 0, 1) := by decide +kernel
theorem jd_25_14 : decode prog_1_method_26_code 14 = .ok (.getfield 28, 3) := by decide +kernel
theorem jd_25_17 : decode prog_1_method_26_code 17 = .ok (.getfield 153, 3) := by decide +kernel
theorem jd_25_20 : decode prog_1_method_26_code 20 = .ok (.getfield 162, 3) := by decide +kernel
theorem jd_25_23 : decode prog_1_method_26_code 23 = .ok (.aload_n 0, 1) := by decide +kernel
theorem jd_25_24 : decode prog_1_method_26_code 24 = .ok (.getfield 35, 3) := by decide +kernel
theorem jd_25_27 : decode prog_1_method_26_code 27 = .ok (.getfield 208, 3) := by decide +kernel
theorem jd_25_30 : decode prog_1_method_26_code 30 = .ok (.iload_n 1, 1) := by decide +kernel
theorem jd_25_31 : decode prog_1_method_26_code 31 = .ok (.iaload, 1) := by decide +kernel
theorem jd_25_32 : decode prog_1_method_26_code 32 = .ok (.iaload, 1) := by decide +kernel
theorem jd_25_33 : decode prog_1_method_26_code 33 = .ok (.istore_n 2, 1) := by decide +kernel
theorem jd_25_34 : decode prog_1_method_26_code 34 = .ok (.iload_n 2, 1) := by decide +kernel
theorem jd_25_35 : decode prog_1_method_26_code 35 = .ok (.iconst 4, 1) := by decide +kernel
theorem jd_25_36 : decode prog_1_method_26_code 36 = .ok (.if_icmp .lt 21, 3) := by decide +kernel
theorem jd_25_39 : decode prog_1_method_26_code 39 = .ok (.aload_n 0, 1) := by decide +kernel
theorem jd_25_40 : decode prog_1_method_26_code 40 = .ok (.getfield 19, 3) := by decide +kernel
theorem jd_25_43 : decode prog_1_method_26_code 43 = .ok (.getfield 54, 3) := by decide +kernel
theorem jd_25_46 : decode prog_1_method_26_code 46 = .ok (.iload_n 2, 1) := by decide +kernel
theorem jd_25_47 : decode prog_1_method_26_code 47 = .ok (.iconst 4, 1) := by decide +kernel
theorem jd_25_48 : decode prog_1_method_26_code 48 = .ok (.isub, 1) := by decide +kernel
theorem jd_25_49 : decode prog_1_method_26_code 49 = .ok (.invokevirtual 67, 3) := by decide +kernel
theorem jd_25_52 : decode prog_1_method_26_code 52 = .ok (.ifCond .ne 5, 3) := by decide +kernel
theorem jd_25_55 : decode prog_1_method_26_code 55 = .ok (.iconst 0, 1) := by decide +kernel
theorem jd_25_56 : decode prog_1_method_26_code 56 = .ok (.ireturn, 1) := by decide +kernel
theorem jd_25_57 : decode prog_1_method_26_code 57 = .ok (.iinc 1 1, 3) := by decide +kernel
theorem jd_25_60 : decode prog_1_method_26_code 60 = .ok (.goto (-58), 3) := by decide +kernel
theorem jd_25_63 : decode prog_1_method_26_code 63 = .ok (.iconst 1, 1) := by decide +kernel
theorem jd_25_64 : decode prog_1_method_26_code 64 = .ok (.istore_n 1, 1) := by decide +kernel
theorem jd_25_65 : decode prog_1_method_26_code 65 = .ok (.iload_n 1, 1) := by decide +kernel
theorem jd_25_66 : decode prog_1_method_26_code 66 = .ok (.iconst 3, 1) := by decide +kernel
theorem jd_25_67 : decode prog_1_method_26_code 67 = .ok (.if_icmp .ge 40, 3) := by decide +kernel
theorem jd_25_70 : decode prog_1_method_26_code 70 = .ok (.aload_n 0, 1) := by decide +kernel
theorem jd_25_71 : decode prog_1_method_26_code 71 = .ok (.getfield 35, 3) := by decide +kernel
theorem jd_25_74 : decode prog_1_method_26_code 74 = .ok (.getfield 118, 3) := by decide +kernel
theorem jd_25_77 : decode prog_1_method_26_code 77 = .ok (.iload_n 1, 1) := by decide +kernel
theorem jd_25_78 : decode prog_1_method_26_code 78 = .ok (.iaload, 1) := by decide +kernel
theorem jd_25_79 : decode prog_1_method_26_code 79 = .ok (.ifCond .eq 22, 3) := by decide +kernel
theorem jd_25_82 : decode prog_1_method_26_code 82 = .ok (.aload_n 0, 1) := by decide +kernel
theorem jd_25_83 : decode prog_1_method_26_code 83 = .ok (.getfield 19, 3) := by decide +kernel
theorem jd_25_86 : decode prog_1_method_26_code 86 = .ok (.getfield 54, 3) := by decide +kernel
theorem jd_25_89 : decode prog_1_method_26_code 89 = .ok (.iload_n 1, 1) := by decide +kernel
theorem jd_25_90 : decode prog_1_method_26_code 90 = .ok (.invokestatic 220, 3) := by decide +kernel
theorem jd_25_93 : decode prog_1_method_26_code 93 = .ok (.invokevirtual 67, 3) := by decide +kernel
theorem jd_25_96 : decode prog_1_method_26_code 96 = .ok (.ifCond .ne 5, 3) := by decide +kernel
theorem jd_25_99 : decode prog_1_method_26_code 99 = .ok (.iconst 0, 1) := by decide +kernel
theorem jd_25_100 : decode prog_1_method_26_code 100 = .ok (.ireturn, 1) := by decide +kernel
theorem jd_25_101 : decode prog_1_method_26_code 101 = .ok (.iinc 1 1, 3) := by decide +kernel
theorem jd_25_104 : decode prog_1_method_26_code 104 = .ok (.goto (-39), 3) := by decide +kernel
theorem jd_25_107 : decode prog_1_method_26_code 107 = .ok (.iconst 1, 1) := by decide +kernel
theorem jd_25_108 : decode prog_1_method_26_code 108 = .ok (.ireturn, 1) := by decide +kernel
def jt_25 (pc : Nat) : jx_Sp := bif Nat.ble pc 52 then (bif Nat.ble pc 30 then (bif Nat.ble pc 13 then (bif Nat.ble pc 3 then (bif Nat.ble pc 1 then (bif Nat.ble pc 0 then (bif Nat.beq pc 0 then js_c 0 1 else js_none) else (bif Nat.beq pc 1 then js_is 1 1 else js_none)) else (bif Nat.ble pc 2 then (bif Nat.beq pc 2 then js_il 1 1 else js_none) else (bif Nat.beq pc 3 then js_al 0 1 else js_none))) else (bif Nat.ble pc 7 then (bif Nat.ble pc 4 then (bif Nat.beq pc 4 then js_getf 0 3 else js_none) else (bif Nat.beq pc 7 then js_getf 7 2 else js_none)) else (bif Nat.ble pc 10 then (bif Nat.beq pc 10 then js_cge 63 else js_none) else (bif Nat.beq pc 13 then js_al 0 1 else js_none)))) else (bif Nat.ble pc 23 then (bif Nat.ble pc 17 then (bif Nat.ble pc 14 then (bif Nat.beq pc 14 then js_getf 0 2 else js_none) else (bif Nat.beq pc 17 then js_getf 5 0 else js_none)) else (bif Nat.ble pc 20 then (bif Nat.beq pc 20 then js_getf 6 0 else js_none) else (bif Nat.beq pc 23 then js_al 0 1 else js_none))) else (bif Nat.ble pc 27 then (bif Nat.ble pc 24 then (bif Nat.beq pc 24 then js_getf 0 3 else js_none) else (bif Nat.beq pc 27 then js_getf 7 0 else js_none)) else (bif Nat.beq pc 30 then js_il 1 1 else js_none)))) else (bif Nat.ble pc 39 then (bif Nat.ble pc 34 then (bif Nat.ble pc 32 then (bif Nat.ble pc 31 then (bif Nat.beq pc 31 then js_ald else js_none) else (bif Nat.beq pc 32 then js_ald else js_none)) else (bif Nat.ble pc 33 then (bif Nat.beq pc 33 then js_is 2 1 else js_none) else (bif Nat.beq pc 34 then js_il 2 1 else js_none))) else (bif Nat.ble pc 36 then (bif Nat.ble pc 35 then (bif Nat.beq pc 35 then js_c 4 1 else js_none) else (bif Nat.beq pc 36 then js_clt 57 else js_none)) else (bif Nat.beq pc 39 then js_al 0 1 else js_none))) else (bif Nat.ble pc 47 then (bif Nat.ble pc 43 then (bif Nat.ble pc 40 then (bif Nat.beq pc 40 then js_getf 0 1 else js_none) else (bif Nat.beq pc 43 then js_getf 2 0 else js_none)) else (bif Nat.ble pc 46 then (bif Nat.beq pc 46 then js_il 2 1 else js_none) else (bif Nat.beq pc 47 then js_c 4 1 else js_none))) else (bif Nat.ble pc 49 then (bif Nat.ble pc 48 then (bif Nat.beq pc 48 then js_isub else js_none) else (bif Nat.beq pc 49 then js_v1 3 56 else js_none)) else (bif Nat.beq pc 52 then js_ifne 57 else js_none))))) else (bif Nat.ble pc 78 then (bif Nat.ble pc 65 then (bif Nat.ble pc 60 then (bif Nat.ble pc 56 then (bif Nat.ble pc 55 then (bif Nat.beq pc 55 then js_c 0 1 else js_none) else (bif Nat.beq pc 56 then js_zr else js_none)) else (bif Nat.ble pc 57 then (bif Nat.beq pc 57 then js_inc 1 1 else js_none) else (bif Nat.beq pc 60 then js_go 2 else js_none))) else (bif Nat.ble pc 64 then (bif Nat.ble pc 63 then (bif Nat.beq pc 63 then js_c 1 1 else js_none) else (bif Nat.beq pc 64 then js_is 1 1 else js_none)) else (bif Nat.beq pc 65 then js_il 1 1 else js_none))) else (bif Nat.ble pc 71 then (bif Nat.ble pc 67 then (bif Nat.ble pc 66 then (bif Nat.beq pc 66 then js_c 3 1 else js_none) else (bif Nat.beq pc 67 then js_cge 107 else js_none)) else (bif Nat.ble pc 70 then (bif Nat.beq pc 70 then js_al 0 1 else js_none) else (bif Nat.beq pc 71 then js_getf 0 3 else js_none))) else (bif Nat.ble pc 77 then (bif Nat.ble pc 74 then (bif Nat.beq pc 74 then js_getf 7 4 else js_none) else (bif Nat.beq pc 77 then js_il 1 1 else js_none)) else (bif Nat.beq pc 78 then js_ald else js_none)))) else (bif Nat.ble pc 93 then (bif Nat.ble pc 86 then (bif Nat.ble pc 82 then (bif Nat.ble pc 79 then (bif Nat.beq pc 79 then js_ifeq 101 else js_none) else (bif Nat.beq pc 82 then js_al 0 1 else js_none)) else (bif Nat.ble pc 83 then (bif Nat.beq pc 83 then js_getf 0 1 else js_none) else (bif Nat.beq pc 86 then js_getf 2 0 else js_none))) else (bif Nat.ble pc 90 then (bif Nat.ble pc 89 then (bif Nat.beq pc 89 then js_il 1 1 else js_none) else (bif Nat.beq pc 90 then js_s1 27 else js_none)) else (bif Nat.beq pc 93 then js_v1 3 56 else js_none))) else (bif Nat.ble pc 101 then (bif Nat.ble pc 99 then (bif Nat.ble pc 96 then (bif Nat.beq pc 96 then js_ifne 101 else js_none) else (bif Nat.beq pc 99 then js_c 0 1 else js_none)) else (bif Nat.ble pc 100 then (bif Nat.beq pc 100 then js_zr else js_none) else (bif Nat.beq pc 101 then js_inc 1 1 else js_none))) else (bif Nat.ble pc 107 then (bif Nat.ble pc 104 then (bif Nat.beq pc 104 then js_go 65 else js_none) else (bif Nat.beq pc 107 then js_c 1 1 else js_none)) else (bif Nat.beq pc 108 then js_zr else js_none)))))
theorem jk_25_0 : jx_Snd 25 0 (js_c 0 1) := jo_iconst (z := 0) jd_25_0 rfl
theorem jk_25_1 : jx_Snd 25 1 (js_is 1 1) := jo_istore_n (i := 1) (w := 1) rfl (Nat.le_of_ble_eq_true rfl) jd_25_1
theorem jk_25_2 : jx_Snd 25 2 (js_il 1 1) := jo_iload_n (i := 1) (w := 1) rfl jd_25_2
theorem jk_25_3 : jx_Snd 25 3 (js_al 0 1) := jo_aload_n (i := 0) (w := 0) rfl jd_25_3
theorem jk_25_4 : jx_Snd 25 4 (js_getf 0 3) := jo_getf rfl jf_0_35 jd_25_4
theorem jk_25_7 : jx_Snd 25 7 (js_getf 7 2) := jo_getf rfl jf_0_90 jd_25_7
theorem jk_25_10 : jx_Snd 25 10 (js_cge 63) := jo_cge (o := 53) rfl jd_25_10
theorem jk_25_13 : jx_Snd 25 13 (js_al 0 1) := jo_aload_n (i := 0) (w := 0) rfl jd_25_13
theorem jk_25_14 : jx_Snd 25 14 (js_getf 0 2) := jo_getf rfl jf_0_28 jd_25_14
theorem jk_25_17 : jx_Snd 25 17 (js_getf 5 0) := jo_getf rfl jf_0_153 jd_25_17
theorem jk_25_20 : jx_Snd 25 20 (js_getf 6 0) := jo_getf rfl jf_0_162 jd_25_20
theorem jk_25_23 : jx_Snd 25 23 (js_al 0 1) := jo_aload_n (i := 0) (w := 0) rfl jd_25_23
theorem jk_25_24 : jx_Snd 25 24 (js_getf 0 3) := jo_getf rfl jf_0_35 jd_25_24
theorem jk_25_27 : jx_Snd 25 27 (js_getf 7 0) := jo_getf rfl jf_0_208 jd_25_27
theorem jk_25_30 : jx_Snd 25 30 (js_il 1 1) := jo_iload_n (i := 1) (w := 1) rfl jd_25_30
theorem jk_25_31 : jx_Snd 25 31 (js_ald) := jo_ald jd_25_31
theorem jk_25_32 : jx_Snd 25 32 (js_ald) := jo_ald jd_25_32
theorem jk_25_33 : jx_Snd 25 33 (js_is 2 1) := jo_istore_n (i := 2) (w := 2) rfl (Nat.le_of_ble_eq_true rfl) jd_25_33
theorem jk_25_34 : jx_Snd 25 34 (js_il 2 1) := jo_iload_n (i := 2) (w := 2) rfl jd_25_34
theorem jk_25_35 : jx_Snd 25 35 (js_c 4 1) := jo_iconst (z := 4) jd_25_35 rfl
theorem jk_25_36 : jx_Snd 25 36 (js_clt 57) := jo_clt (o := 21) rfl jd_25_36
theorem jk_25_39 : jx_Snd 25 39 (js_al 0 1) := jo_aload_n (i := 0) (w := 0) rfl jd_25_39
theorem jk_25_40 : jx_Snd 25 40 (js_getf 0 1) := jo_getf rfl jf_0_19 jd_25_40
theorem jk_25_43 : jx_Snd 25 43 (js_getf 2 0) := jo_getf rfl jf_0_54 jd_25_43
theorem jk_25_46 : jx_Snd 25 46 (js_il 2 1) := jo_iload_n (i := 2) (w := 2) rfl jd_25_46
theorem jk_25_47 : jx_Snd 25 47 (js_c 4 1) := jo_iconst (z := 4) jd_25_47 rfl
theorem jk_25_48 : jx_Snd 25 48 (js_isub) := jo_isub jd_25_48
theorem jk_25_49 : jx_Snd 25 49 (js_v1 3 56) := jo_v1 rfl jok_56 (Or.inl jw_198) jw_199 jw_200 rfl jd_25_49
theorem jk_25_52 : jx_Snd 25 52 (js_ifne 57) := jo_ifne (o := 5) rfl jd_25_52
theorem jk_25_55 : jx_Snd 25 55 (js_c 0 1) := jo_iconst (z := 0) jd_25_55 rfl
theorem jk_25_56 : jx_Snd 25 56 (js_zr) := jo_zr rfl jd_25_56
theorem jk_25_57 : jx_Snd 25 57 (js_inc 1 1) := jo_iinc (w := 1) rfl (Nat.le_of_ble_eq_true rfl) jd_25_57
theorem jk_25_60 : jx_Snd 25 60 (js_go 2) := jo_goto (o := (-58)) rfl jd_25_60
theorem jk_25_63 : jx_Snd 25 63 (js_c 1 1) := jo_iconst (z := 1) jd_25_63 rfl
theorem jk_25_64 : jx_Snd 25 64 (js_is 1 1) := jo_istore_n (i := 1) (w := 1) rfl (Nat.le_of_ble_eq_true rfl) jd_25_64
theorem jk_25_65 : jx_Snd 25 65 (js_il 1 1) := jo_iload_n (i := 1) (w := 1) rfl jd_25_65
theorem jk_25_66 : jx_Snd 25 66 (js_c 3 1) := jo_iconst (z := 3) jd_25_66 rfl
theorem jk_25_67 : jx_Snd 25 67 (js_cge 107) := jo_cge (o := 40) rfl jd_25_67
theorem jk_25_70 : jx_Snd 25 70 (js_al 0 1) := jo_aload_n (i := 0) (w := 0) rfl jd_25_70
theorem jk_25_71 : jx_Snd 25 71 (js_getf 0 3) := jo_getf rfl jf_0_35 jd_25_71
theorem jk_25_74 : jx_Snd 25 74 (js_getf 7 4) := jo_getf rfl jf_0_118 jd_25_74
theorem jk_25_77 : jx_Snd 25 77 (js_il 1 1) := jo_iload_n (i := 1) (w := 1) rfl jd_25_77
theorem jk_25_78 : jx_Snd 25 78 (js_ald) := jo_ald jd_25_78
theorem jk_25_79 : jx_Snd 25 79 (js_ifeq 101) := jo_ifeq (o := 22) rfl jd_25_79
theorem jk_25_82 : jx_Snd 25 82 (js_al 0 1) := jo_aload_n (i := 0) (w := 0) rfl jd_25_82
theorem jk_25_83 : jx_Snd 25 83 (js_getf 0 1) := jo_getf rfl jf_0_19 jd_25_83
theorem jk_25_86 : jx_Snd 25 86 (js_getf 2 0) := jo_getf rfl jf_0_54 jd_25_86
theorem jk_25_89 : jx_Snd 25 89 (js_il 1 1) := jo_iload_n (i := 1) (w := 1) rfl jd_25_89
theorem jk_25_90 : jx_Snd 25 90 (js_s1 27) := jo_s1 rfl jok_27 (Or.inl jw_382) jw_383 jd_25_90
theorem jk_25_93 : jx_Snd 25 93 (js_v1 3 56) := jo_v1 rfl jok_56 (Or.inl jw_198) jw_199 jw_200 rfl jd_25_93
theorem jk_25_96 : jx_Snd 25 96 (js_ifne 101) := jo_ifne (o := 5) rfl jd_25_96
theorem jk_25_99 : jx_Snd 25 99 (js_c 0 1) := jo_iconst (z := 0) jd_25_99 rfl
theorem jk_25_100 : jx_Snd 25 100 (js_zr) := jo_zr rfl jd_25_100
theorem jk_25_101 : jx_Snd 25 101 (js_inc 1 1) := jo_iinc (w := 1) rfl (Nat.le_of_ble_eq_true rfl) jd_25_101
theorem jk_25_104 : jx_Snd 25 104 (js_go 65) := jo_goto (o := (-39)) rfl jd_25_104
theorem jk_25_107 : jx_Snd 25 107 (js_c 1 1) := jo_iconst (z := 1) jd_25_107 rfl
theorem jk_25_108 : jx_Snd 25 108 (js_zr) := jo_zr rfl jd_25_108
theorem jk_25 : jx_So 25 jt_25 := fun pc => jo_le (jo_le (jo_le (jo_le (jo_le (jo_le (jo_at (jk_25_0)) (jo_at (jk_25_1))) (jo_le (jo_at (jk_25_2)) (jo_at (jk_25_3)))) (jo_le (jo_le (jo_at (jk_25_4)) (jo_at (jk_25_7))) (jo_le (jo_at (jk_25_10)) (jo_at (jk_25_13))))) (jo_le (jo_le (jo_le (jo_at (jk_25_14)) (jo_at (jk_25_17))) (jo_le (jo_at (jk_25_20)) (jo_at (jk_25_23)))) (jo_le (jo_le (jo_at (jk_25_24)) (jo_at (jk_25_27))) (jo_at (jk_25_30))))) (jo_le (jo_le (jo_le (jo_le (jo_at (jk_25_31)) (jo_at (jk_25_32))) (jo_le (jo_at (jk_25_33)) (jo_at (jk_25_34)))) (jo_le (jo_le (jo_at (jk_25_35)) (jo_at (jk_25_36))) (jo_at (jk_25_39)))) (jo_le (jo_le (jo_le (jo_at (jk_25_40)) (jo_at (jk_25_43))) (jo_le (jo_at (jk_25_46)) (jo_at (jk_25_47)))) (jo_le (jo_le (jo_at (jk_25_48)) (jo_at (jk_25_49))) (jo_at (jk_25_52)))))) (jo_le (jo_le (jo_le (jo_le (jo_le (jo_at (jk_25_55)) (jo_at (jk_25_56))) (jo_le (jo_at (jk_25_57)) (jo_at (jk_25_60)))) (jo_le (jo_le (jo_at (jk_25_63)) (jo_at (jk_25_64))) (jo_at (jk_25_65)))) (jo_le (jo_le (jo_le (jo_at (jk_25_66)) (jo_at (jk_25_67))) (jo_le (jo_at (jk_25_70)) (jo_at (jk_25_71)))) (jo_le (jo_le (jo_at (jk_25_74)) (jo_at (jk_25_77))) (jo_at (jk_25_78))))) (jo_le (jo_le (jo_le (jo_le (jo_at (jk_25_79)) (jo_at (jk_25_82))) (jo_le (jo_at (jk_25_83)) (jo_at (jk_25_86)))) (jo_le (jo_le (jo_at (jk_25_89)) (jo_at (jk_25_90))) (jo_at (jk_25_93)))) (jo_le (jo_le (jo_le (jo_at (jk_25_96)) (jo_at (jk_25_99))) (jo_le (jo_at (jk_25_100)) (jo_at (jk_25_101)))) (jo_le (jo_le (jo_at (jk_25_104)) (jo_at (jk_25_107))) (jo_at (jk_25_108))))))
theorem ji_25 {l : Launch} {D : va_G} {cA : ClassId} {ρ : Nat → Nat} {Λ : List jx_Lc} {d : Nat} {Q : Option Value → jx_St → Prop} {σ : jx_St} {z0 : Nat} (h : jt_25 0 Λ jx_tb0 (jx_rn Λ jx_tb0 jt_25 (fun k' as σ K => jx_C l D cA ρ Λ d k' as σ K) Q (jx_J l D cA ρ Λ (jx_A ρ Λ) jx_tb0 (d + 1) 25 Q) [] 400) (fun k' as σ K => jx_C l D cA ρ Λ d k' as σ K) Q 0 [(0, .ref z0)] [] σ) : jx_C l D cA ρ Λ (d + 1) 25 [.ref z0] σ Q := jx_in jk_25 400 [] rfl (Nat.le_of_ble_eq_true rfl) h
/-! ScriptLedger.needsScript()Z -/
theorem jd_26_0 : decode prog_1_method_27_code 0 = .ok (.iconst 0, 1) := by decide +kernel
theorem jd_26_1 : decode prog_1_method_27_code 1 = .ok (.istore_n 1, 1) := by decide +kernel
theorem jd_26_2 : decode prog_1_method_27_code 2 = .ok (.iload_n 1, 1) := by decide +kernel
theorem jd_26_3 : decode prog_1_method_27_code 3 = .ok (.aload_n 0, 1) := by decide +kernel
theorem jd_26_4 : decode prog_1_method_27_code 4 = .ok (.getfield 35, 3) := by decide +kernel
theorem jd_26_7 : decode prog_1_method_27_code 7 = .ok (.getfield 90, 3) := by decide +kernel
theorem jd_26_10 : decode prog_1_method_27_code 10 = .ok (.if_icmp .ge 35, 3) := by decide +kernel
theorem jd_26_13 : decode prog_1_method_27_code 13 = .ok (.aload_n 0, 1) := by decide +kernel
theorem jd_26_14 : decode prog_1_method_27_code 14 = .ok (.getfield 28, 3) := by decide +kernel
theorem jd_26_17 : decode prog_1_method_27_code 17 = .ok (.getfield 153, 3) := by decide +kernel
theorem jd_26_20 : decode prog_1_method_27_code 20 = .ok (.getfield 162, 3) := by decide +kernel
theorem jd_26_23 : decode prog_1_method_27_code 23 = .ok (.aload_n 0, 1) := by decide +kernel
theorem jd_26_24 : decode prog_1_method_27_code 24 = .ok (.getfield 35, 3) := by decide +kernel
theorem jd_26_27 : decode prog_1_method_27_code 27 = .ok (.getfield 208, 3) := by decide +kernel
theorem jd_26_30 : decode prog_1_method_27_code 30 = .ok (.iload_n 1, 1) := by decide +kernel
theorem jd_26_31 : decode prog_1_method_27_code 31 = .ok (.iaload, 1) := by decide +kernel
theorem jd_26_32 : decode prog_1_method_27_code 32 = .ok (.iaload, 1) := by decide +kernel
theorem jd_26_33 : decode prog_1_method_27_code 33 = .ok (.iconst 4, 1) := by decide +kernel
theorem jd_26_34 : decode prog_1_method_27_code 34 = .ok (.if_icmp .lt 5, 3) := by decide +kernel
theorem jd_26_37 : decode prog_1_method_27_code 37 = .ok (.iconst 1, 1) := by decide +kernel
theorem jd_26_38 : decode prog_1_method_27_code 38 = .ok (.ireturn, 1) := by decide +kernel
theorem jd_26_39 : decode prog_1_method_27_code 39 = .ok (.iinc 1 1, 3) := by decide +kernel
theorem jd_26_42 : decode prog_1_method_27_code 42 = .ok (.goto (-40), 3) := by decide +kernel
theorem jd_26_45 : decode prog_1_method_27_code 45 = .ok (.iconst 1, 1) := by decide +kernel
theorem jd_26_46 : decode prog_1_method_27_code 46 = .ok (.istore_n 1, 1) := by decide +kernel
theorem jd_26_47 : decode prog_1_method_27_code 47 = .ok (.iload_n 1, 1) := by decide +kernel
theorem jd_26_48 : decode prog_1_method_27_code 48 = .ok (.iconst 3, 1) := by decide +kernel
theorem jd_26_49 : decode prog_1_method_27_code 49 = .ok (.if_icmp .ge 23, 3) := by decide +kernel
theorem jd_26_52 : decode prog_1_method_27_code 52 = .ok (.aload_n 0, 1) := by decide +kernel
theorem jd_26_53 : decode prog_1_method_27_code 53 = .ok (.getfield 35, 3) := by decide +kernel
theorem jd_26_56 : decode prog_1_method_27_code 56 = .ok (.getfield 118, 3) := by decide +kernel
theorem jd_26_59 : decode prog_1_method_27_code 59 = .ok (.iload_n 1, 1) := by decide +kernel
theorem jd_26_60 : decode prog_1_method_27_code 60 = .ok (.iaload, 1) := by decide +kernel
theorem jd_26_61 : decode prog_1_method_27_code 61 = .ok (.ifCond .eq 5, 3) := by decide +kernel
theorem jd_26_64 : decode prog_1_method_27_code 64 = .ok (.iconst 1, 1) := by decide +kernel
theorem jd_26_65 : decode prog_1_method_27_code 65 = .ok (.ireturn, 1) := by decide +kernel
theorem jd_26_66 : decode prog_1_method_27_code 66 = .ok (.iinc 1 1, 3) := by decide +kernel
theorem jd_26_69 : decode prog_1_method_27_code 69 = .ok (.goto (-22), 3) := by decide +kernel
theorem jd_26_72 : decode prog_1_method_27_code 72 = .ok (.iconst 0, 1) := by decide +kernel
theorem jd_26_73 : decode prog_1_method_27_code 73 = .ok (.ireturn, 1) := by decide +kernel
def jt_26 (pc : Nat) : jx_Sp := bif Nat.ble pc 37 then (bif Nat.ble pc 17 then (bif Nat.ble pc 4 then (bif Nat.ble pc 2 then (bif Nat.ble pc 1 then (bif Nat.ble pc 0 then (bif Nat.beq pc 0 then js_c 0 1 else js_none) else (bif Nat.beq pc 1 then js_is 1 1 else js_none)) else (bif Nat.beq pc 2 then js_il 1 1 else js_none)) else (bif Nat.ble pc 3 then (bif Nat.beq pc 3 then js_al 0 1 else js_none) else (bif Nat.beq pc 4 then js_getf 0 3 else js_none))) else (bif Nat.ble pc 13 then (bif Nat.ble pc 10 then (bif Nat.ble pc 7 then (bif Nat.beq pc 7 then js_getf 7 2 else js_none) else (bif Nat.beq pc 10 then js_cge 45 else js_none)) else (bif Nat.beq pc 13 then js_al 0 1 else js_none)) else (bif Nat.ble pc 14 then (bif Nat.beq pc 14 then js_getf 0 2 else js_none) else (bif Nat.beq pc 17 then js_getf 5 0 else js_none)))) else (bif Nat.ble pc 30 then (bif Nat.ble pc 24 then (bif Nat.ble pc 23 then (bif Nat.ble pc 20 then (bif Nat.beq pc 20 then js_getf 6 0 else js_none) else (bif Nat.beq pc 23 then js_al 0 1 else js_none)) else (bif Nat.beq pc 24 then js_getf 0 3 else js_none)) else (bif Nat.ble pc 27 then (bif Nat.beq pc 27 then js_getf 7 0 else js_none) else (bif Nat.beq pc 30 then js_il 1 1 else js_none))) else (bif Nat.ble pc 33 then (bif Nat.ble pc 32 then (bif Nat.ble pc 31 then (bif Nat.beq pc 31 then js_ald else js_none) else (bif Nat.beq pc 32 then js_ald else js_none)) else (bif Nat.beq pc 33 then js_c 4 1 else js_none)) else (bif Nat.ble pc 34 then (bif Nat.beq pc 34 then js_clt 39 else js_none) else (bif Nat.beq pc 37 then js_c 1 1 else js_none))))) else (bif Nat.ble pc 53 then (bif Nat.ble pc 46 then (bif Nat.ble pc 42 then (bif Nat.ble pc 39 then (bif Nat.ble pc 38 then (bif Nat.beq pc 38 then js_zr else js_none) else (bif Nat.beq pc 39 then js_inc 1 1 else js_none)) else (bif Nat.beq pc 42 then js_go 2 else js_none)) else (bif Nat.ble pc 45 then (bif Nat.beq pc 45 then js_c 1 1 else js_none) else (bif Nat.beq pc 46 then js_is 1 1 else js_none))) else (bif Nat.ble pc 49 then (bif Nat.ble pc 48 then (bif Nat.ble pc 47 then (bif Nat.beq pc 47 then js_il 1 1 else js_none) else (bif Nat.beq pc 48 then js_c 3 1 else js_none)) else (bif Nat.beq pc 49 then js_cge 72 else js_none)) else (bif Nat.ble pc 52 then (bif Nat.beq pc 52 then js_al 0 1 else js_none) else (bif Nat.beq pc 53 then js_getf 0 3 else js_none)))) else (bif Nat.ble pc 64 then (bif Nat.ble pc 60 then (bif Nat.ble pc 59 then (bif Nat.ble pc 56 then (bif Nat.beq pc 56 then js_getf 7 4 else js_none) else (bif Nat.beq pc 59 then js_il 1 1 else js_none)) else (bif Nat.beq pc 60 then js_ald else js_none)) else (bif Nat.ble pc 61 then (bif Nat.beq pc 61 then js_ifeq 66 else js_none) else (bif Nat.beq pc 64 then js_c 1 1 else js_none))) else (bif Nat.ble pc 69 then (bif Nat.ble pc 66 then (bif Nat.ble pc 65 then (bif Nat.beq pc 65 then js_zr else js_none) else (bif Nat.beq pc 66 then js_inc 1 1 else js_none)) else (bif Nat.beq pc 69 then js_go 47 else js_none)) else (bif Nat.ble pc 72 then (bif Nat.beq pc 72 then js_c 0 1 else js_none) else (bif Nat.beq pc 73 then js_zr else js_none)))))
theorem jk_26_0 : jx_Snd 26 0 (js_c 0 1) := jo_iconst (z := 0) jd_26_0 rfl
theorem jk_26_1 : jx_Snd 26 1 (js_is 1 1) := jo_istore_n (i := 1) (w := 1) rfl (Nat.le_of_ble_eq_true rfl) jd_26_1
theorem jk_26_2 : jx_Snd 26 2 (js_il 1 1) := jo_iload_n (i := 1) (w := 1) rfl jd_26_2
theorem jk_26_3 : jx_Snd 26 3 (js_al 0 1) := jo_aload_n (i := 0) (w := 0) rfl jd_26_3
theorem jk_26_4 : jx_Snd 26 4 (js_getf 0 3) := jo_getf rfl jf_0_35 jd_26_4
theorem jk_26_7 : jx_Snd 26 7 (js_getf 7 2) := jo_getf rfl jf_0_90 jd_26_7
theorem jk_26_10 : jx_Snd 26 10 (js_cge 45) := jo_cge (o := 35) rfl jd_26_10
theorem jk_26_13 : jx_Snd 26 13 (js_al 0 1) := jo_aload_n (i := 0) (w := 0) rfl jd_26_13
theorem jk_26_14 : jx_Snd 26 14 (js_getf 0 2) := jo_getf rfl jf_0_28 jd_26_14
theorem jk_26_17 : jx_Snd 26 17 (js_getf 5 0) := jo_getf rfl jf_0_153 jd_26_17
theorem jk_26_20 : jx_Snd 26 20 (js_getf 6 0) := jo_getf rfl jf_0_162 jd_26_20
theorem jk_26_23 : jx_Snd 26 23 (js_al 0 1) := jo_aload_n (i := 0) (w := 0) rfl jd_26_23
theorem jk_26_24 : jx_Snd 26 24 (js_getf 0 3) := jo_getf rfl jf_0_35 jd_26_24
theorem jk_26_27 : jx_Snd 26 27 (js_getf 7 0) := jo_getf rfl jf_0_208 jd_26_27
theorem jk_26_30 : jx_Snd 26 30 (js_il 1 1) := jo_iload_n (i := 1) (w := 1) rfl jd_26_30
theorem jk_26_31 : jx_Snd 26 31 (js_ald) := jo_ald jd_26_31
theorem jk_26_32 : jx_Snd 26 32 (js_ald) := jo_ald jd_26_32
theorem jk_26_33 : jx_Snd 26 33 (js_c 4 1) := jo_iconst (z := 4) jd_26_33 rfl
theorem jk_26_34 : jx_Snd 26 34 (js_clt 39) := jo_clt (o := 5) rfl jd_26_34
theorem jk_26_37 : jx_Snd 26 37 (js_c 1 1) := jo_iconst (z := 1) jd_26_37 rfl
theorem jk_26_38 : jx_Snd 26 38 (js_zr) := jo_zr rfl jd_26_38
theorem jk_26_39 : jx_Snd 26 39 (js_inc 1 1) := jo_iinc (w := 1) rfl (Nat.le_of_ble_eq_true rfl) jd_26_39
theorem jk_26_42 : jx_Snd 26 42 (js_go 2) := jo_goto (o := (-40)) rfl jd_26_42
theorem jk_26_45 : jx_Snd 26 45 (js_c 1 1) := jo_iconst (z := 1) jd_26_45 rfl
theorem jk_26_46 : jx_Snd 26 46 (js_is 1 1) := jo_istore_n (i := 1) (w := 1) rfl (Nat.le_of_ble_eq_true rfl) jd_26_46
theorem jk_26_47 : jx_Snd 26 47 (js_il 1 1) := jo_iload_n (i := 1) (w := 1) rfl jd_26_47
theorem jk_26_48 : jx_Snd 26 48 (js_c 3 1) := jo_iconst (z := 3) jd_26_48 rfl
theorem jk_26_49 : jx_Snd 26 49 (js_cge 72) := jo_cge (o := 23) rfl jd_26_49
theorem jk_26_52 : jx_Snd 26 52 (js_al 0 1) := jo_aload_n (i := 0) (w := 0) rfl jd_26_52
theorem jk_26_53 : jx_Snd 26 53 (js_getf 0 3) := jo_getf rfl jf_0_35 jd_26_53
theorem jk_26_56 : jx_Snd 26 56 (js_getf 7 4) := jo_getf rfl jf_0_118 jd_26_56
theorem jk_26_59 : jx_Snd 26 59 (js_il 1 1) := jo_iload_n (i := 1) (w := 1) rfl jd_26_59
theorem jk_26_60 : jx_Snd 26 60 (js_ald) := jo_ald jd_26_60
theorem jk_26_61 : jx_Snd 26 61 (js_ifeq 66) := jo_ifeq (o := 5) rfl jd_26_61
theorem jk_26_64 : jx_Snd 26 64 (js_c 1 1) := jo_iconst (z := 1) jd_26_64 rfl
theorem jk_26_65 : jx_Snd 26 65 (js_zr) := jo_zr rfl jd_26_65
theorem jk_26_66 : jx_Snd 26 66 (js_inc 1 1) := jo_iinc (w := 1) rfl (Nat.le_of_ble_eq_true rfl) jd_26_66
theorem jk_26_69 : jx_Snd 26 69 (js_go 47) := jo_goto (o := (-22)) rfl jd_26_69
theorem jk_26_72 : jx_Snd 26 72 (js_c 0 1) := jo_iconst (z := 0) jd_26_72 rfl
theorem jk_26_73 : jx_Snd 26 73 (js_zr) := jo_zr rfl jd_26_73
theorem jk_26 : jx_So 26 jt_26 := fun pc => jo_le (jo_le (jo_le (jo_le (jo_le (jo_le (jo_at (jk_26_0)) (jo_at (jk_26_1))) (jo_at (jk_26_2))) (jo_le (jo_at (jk_26_3)) (jo_at (jk_26_4)))) (jo_le (jo_le (jo_le (jo_at (jk_26_7)) (jo_at (jk_26_10))) (jo_at (jk_26_13))) (jo_le (jo_at (jk_26_14)) (jo_at (jk_26_17))))) (jo_le (jo_le (jo_le (jo_le (jo_at (jk_26_20)) (jo_at (jk_26_23))) (jo_at (jk_26_24))) (jo_le (jo_at (jk_26_27)) (jo_at (jk_26_30)))) (jo_le (jo_le (jo_le (jo_at (jk_26_31)) (jo_at (jk_26_32))) (jo_at (jk_26_33))) (jo_le (jo_at (jk_26_34)) (jo_at (jk_26_37)))))) (jo_le (jo_le (jo_le (jo_le (jo_le (jo_at (jk_26_38)) (jo_at (jk_26_39))) (jo_at (jk_26_42))) (jo_le (jo_at (jk_26_45)) (jo_at (jk_26_46)))) (jo_le (jo_le (jo_le (jo_at (jk_26_47)) (jo_at (jk_26_48))) (jo_at (jk_26_49))) (jo_le (jo_at (jk_26_52)) (jo_at (jk_26_53))))) (jo_le (jo_le (jo_le (jo_le (jo_at (jk_26_56)) (jo_at (jk_26_59))) (jo_at (jk_26_60))) (jo_le (jo_at (jk_26_61)) (jo_at (jk_26_64)))) (jo_le (jo_le (jo_le (jo_at (jk_26_65)) (jo_at (jk_26_66))) (jo_at (jk_26_69))) (jo_le (jo_at (jk_26_72)) (jo_at (jk_26_73))))))
theorem ji_26 {l : Launch} {D : va_G} {cA : ClassId} {ρ : Nat → Nat} {Λ : List jx_Lc} {d : Nat} {Q : Option Value → jx_St → Prop} {σ : jx_St} {z0 : Nat} (h : jt_26 0 Λ jx_tb0 (jx_rn Λ jx_tb0 jt_26 (fun k' as σ K => jx_C l D cA ρ Λ d k' as σ K) Q (jx_J l D cA ρ Λ (jx_A ρ Λ) jx_tb0 (d + 1) 26 Q) [] 400) (fun k' as σ K => jx_C l D cA ρ Λ d k' as σ K) Q 0 [(0, .ref z0)] [] σ) : jx_C l D cA ρ Λ (d + 1) 26 [.ref z0] σ Q := jx_in jk_26 400 [] rfl (Nat.le_of_ble_eq_true rfl) h
/-! ScriptLedger.policyOf(I)I -/
theorem jd_27_0 : decode prog_1_method_28_code 0 = .ok (.iload_n 0, 1) := by decide +kernel
theorem jd_27_1 : decode prog_1_method_28_code 1 = .ok (.iconst 1, 1) := by decide +kernel
theorem jd_27_2 : decode prog_1_method_28_code 2 = .ok (.isub, 1) := by decide +kernel
theorem jd_27_3 : decode prog_1_method_28_code 3 = .ok (.ireturn, 1) := by decide +kernel
def jt_27 (pc : Nat) : jx_Sp := bif Nat.ble pc 1 then (bif Nat.ble pc 0 then (bif Nat.beq pc 0 then js_il 0 1 else js_none) else (bif Nat.beq pc 1 then js_c 1 1 else js_none)) else (bif Nat.ble pc 2 then (bif Nat.beq pc 2 then js_isub else js_none) else (bif Nat.beq pc 3 then js_ir else js_none))
theorem jk_27_0 : jx_Snd 27 0 (js_il 0 1) := jo_iload_n (i := 0) (w := 0) rfl jd_27_0
theorem jk_27_1 : jx_Snd 27 1 (js_c 1 1) := jo_iconst (z := 1) jd_27_1 rfl
theorem jk_27_2 : jx_Snd 27 2 (js_isub) := jo_isub jd_27_2
theorem jk_27_3 : jx_Snd 27 3 (js_ir) := jo_ir rfl jd_27_3
theorem jk_27 : jx_So 27 jt_27 := fun pc => jo_le (jo_le (jo_at (jk_27_0)) (jo_at (jk_27_1))) (jo_le (jo_at (jk_27_2)) (jo_at (jk_27_3)))
theorem ji_27 {l : Launch} {D : va_G} {cA : ClassId} {ρ : Nat → Nat} {Λ : List jx_Lc} {d : Nat} {Q : Option Value → jx_St → Prop} {σ : jx_St} {a1 : Int32} (h : jt_27 0 Λ jx_tb0 (jx_rn Λ jx_tb0 jt_27 (fun k' as σ K => jx_C l D cA ρ Λ d k' as σ K) Q (jx_J l D cA ρ Λ (jx_A ρ Λ) jx_tb0 (d + 1) 27 Q) [] 400) (fun k' as σ K => jx_C l D cA ρ Λ d k' as σ K) Q 0 [(0, .int a1)] [] σ) : jx_C l D cA ρ Λ (d + 1) 27 [.int a1] σ Q := jx_in jk_27 400 [] rfl (Nat.le_of_ble_eq_true rfl) h
/-! ScriptLedger.isGuaranteed()Z -/
theorem jd_28_0 : decode prog_1_method_29_code 0 = .ok (.aload_n 0, 1) := by decide +kernel
theorem jd_28_1 : decode prog_1_method_29_code 1 = .ok (.getfield 35, 3) := by decide +kernel
theorem jd_28_4 : decode prog_1_method_29_code 4 = .ok (.getfield 127, 3) := by decide +kernel
theorem jd_28_7 : decode prog_1_method_29_code 7 = .ok (.istore_n 1, 1) := by decide +kernel
theorem jd_28_8 : decode prog_1_method_29_code 8 = .ok (.aload_n 0, 1) := by decide +kernel
theorem jd_28_9 : decode prog_1_method_29_code 9 = .ok (.getfield 28, 3) := by decide +kernel
theorem jd_28_12 : decode prog_1_method_29_code 12 = .ok (.iload_n 1, 1) := by decide +kernel
theorem jd_28_13 : decode prog_1_method_29_code 13 = .ok (.invokevirtual 168, 3) := by decide +kernel
theorem jd_28_16 : decode prog_1_method_29_code 16 = .ok (.ifCond .eq 14, 3) := by decide +kernel
theorem jd_28_19 : decode prog_1_method_29_code 19 = .ok (.aload_n 0, 1) := by decide +kernel
theorem jd_28_20 : decode prog_1_method_29_code 20 = .ok (.getfield 35, 3) := by decide +kernel
theorem jd_28_23 : decode prog_1_method_29_code 23 = .ok (.iload_n 1, 1) := by decide +kernel
theorem jd_28_24 : decode prog_1_method_29_code 24 = .ok (.invokevirtual 93, 3) := by decide +kernel
theorem jd_28_27 : decode prog_1_method_29_code 27 = .ok (.ifCond .eq 5, 3) := by decide +kernel
theorem jd_28_30 : decode prog_1_method_29_code 30 = .ok (.iconst 0, 1) := by decide +kernel
theorem jd_28_31 : decode prog_1_method_29_code 31 = .ok (.ireturn, 1) := by decide +kernel
theorem jd_28_32 : decode prog_1_method_29_code 32 = .ok (.aload_n 0, 1) := by decide +kernel
theorem jd_28_33 : decode prog_1_method_29_code 33 = .ok (.getfield 35, 3) := by decide +kernel
theorem jd_28_36 : decode prog_1_method_29_code 36 = .ok (.aload_n 0, 1) := by decide +kernel
theorem jd_28_37 : decode prog_1_method_29_code 37 = .ok (.getfield 28, 3) := by decide +kernel
theorem jd_28_40 : decode prog_1_method_29_code 40 = .ok (.getfield 153, 3) := by decide +kernel
theorem jd_28_43 : decode prog_1_method_29_code 43 = .ok (.getfield 162, 3) := by decide +kernel
theorem jd_28_46 : decode prog_1_method_29_code 46 = .ok (.iload_n 1, 1) := by decide +kernel
theorem jd_28_47 : decode prog_1_method_29_code 47 = .ok (.iaload, 1) := by decide +kernel
theorem jd_28_48 : decode prog_1_method_29_code 48 = .ok (.invokevirtual 217, 3) := by decide +kernel
theorem jd_28_51 : decode prog_1_method_29_code 51 = .ok (.ifCond .ne 5, 3) := by decide +kernel
theorem jd_28_54 : decode prog_1_method_29_code 54 = .ok (.iconst 0, 1) := by decide +kernel
theorem jd_28_55 : decode prog_1_method_29_code 55 = .ok (.ireturn, 1) := by decide +kernel
theorem jd_28_56 : decode prog_1_method_29_code 56 = .ok (.iconst 1, 1) := by decide +kernel
theorem jd_28_57 : decode prog_1_method_29_code 57 = .ok (.istore_n 2, 1) := by decide +kernel
theorem jd_28_58 : decode prog_1_method_29_code 58 = .ok (.iload_n 2, 1) := by decide +kernel
theorem jd_28_59 : decode prog_1_method_29_code 59 = .ok (.iconst 3, 1) := by decide +kernel
theorem jd_28_60 : decode prog_1_method_29_code 60 = .ok (.if_icmp .ge 26, 3) := by decide +kernel
theorem jd_28_63 : decode prog_1_method_29_code 63 = .ok (.aload_n 0, 1) := by decide +kernel
theorem jd_28_64 : decode prog_1_method_29_code 64 = .ok (.getfield 28, 3) := by decide +kernel
theorem jd_28_67 : decode prog_1_method_29_code 67 = .ok (.getfield 153, 3) := by decide +kernel
theorem jd_28_70 : decode prog_1_method_29_code 70 = .ok (.iload_n 1, 1) := by decide +kernel
theorem jd_28_71 : decode prog_1_method_29_code 71 = .ok (.iload_n 2, 1) := by decide +kernel
theorem jd_28_72 : decode prog_1_method_29_code 72 = .ok (.invokevirtual 158, 3) := by decide +kernel
theorem jd_28_75 : decode prog_1_method_29_code 75 = .ok (.ifCond .eq 5, 3) := by decide +kernel
theorem jd_28_78 : decode prog_1_method_29_code 78 = .ok (.iconst 0, 1) := by decide +kernel
theorem jd_28_79 : decode prog_1_method_29_code 79 = .ok (.ireturn, 1) := by decide +kernel
theorem jd_28_80 : decode prog_1_method_29_code 80 = .ok (.iinc 2 1, 3) := by decide +kernel
theorem jd_28_83 : decode prog_1_method_29_code 83 = .ok (.goto (-25), 3) := by decide +kernel
theorem jd_28_86 : decode prog_1_method_29_code 86 = .ok (.aload_n 0, 1) := by decide +kernel
theorem jd_28_87 : decode prog_1_method_29_code 87 = .ok (.getfield 28, 3) := by decide +kernel
theorem jd_28_90 : decode prog_1_method_29_code 90 = .ok (.getfield 153, 3) := by decide +kernel
theorem jd_28_93 : decode prog_1_method_29_code 93 = .ok (.iload_n 1, 1) := by decide +kernel
theorem jd_28_94 : decode prog_1_method_29_code 94 = .ok (.iconst 0, 1) := by decide +kernel
theorem jd_28_95 : decode prog_1_method_29_code 95 = .ok (.invokevirtual 158, 3) := by decide +kernel
theorem jd_28_98 : decode prog_1_method_29_code 98 = .ok (.iconst 2, 1) := by decide +kernel
theorem jd_28_99 : decode prog_1_method_29_code 99 = .ok (.aload_n 0, 1) := by decide +kernel
theorem jd_28_100 : decode prog_1_method_29_code 100 = .ok (.getfield 35, 3) := by decide +kernel
theorem jd_28_103 : decode prog_1_method_29_code 103 = .ok (.getfield 187, 3) := by decide +kernel
theorem jd_28_106 : decode prog_1_method_29_code 106 = .ok (.imul, 1) := by decide +kernel
theorem jd_28_107 : decode prog_1_method_29_code 107 = .ok (.if_icmp .lt 7, 3) := by decide +kernel
theorem jd_28_110 : decode prog_1_method_29_code 110 = .ok (.iconst 1, 1) := by decide +kernel
theorem jd_28_111 : decode prog_1_method_29_code 111 = .ok (.goto 4, 3) := by decide +kernel
theorem jd_28_114 : decode prog_1_method_29_code 114 = .ok (.iconst 0, 1) := by decide +kernel
theorem jd_28_115 : decode prog_1_method_29_code 115 = .ok (.ireturn, 1) := by decide +kernel
def jt_28 (pc : Nat) : jx_Sp := bif Nat.ble pc 57 then (bif Nat.ble pc 30 then (bif Nat.ble pc 13 then (bif Nat.ble pc 7 then (bif Nat.ble pc 1 then (bif Nat.ble pc 0 then (bif Nat.beq pc 0 then js_al 0 1 else js_none) else (bif Nat.beq pc 1 then js_getf 0 3 else js_none)) else (bif Nat.ble pc 4 then (bif Nat.beq pc 4 then js_getf 7 11 else js_none) else (bif Nat.beq pc 7 then js_is 1 1 else js_none))) else (bif Nat.ble pc 9 then (bif Nat.ble pc 8 then (bif Nat.beq pc 8 then js_al 0 1 else js_none) else (bif Nat.beq pc 9 then js_getf 0 2 else js_none)) else (bif Nat.ble pc 12 then (bif Nat.beq pc 12 then js_il 1 1 else js_none) else (bif Nat.beq pc 13 then js_v1 5 69 else js_none)))) else (bif Nat.ble pc 23 then (bif Nat.ble pc 19 then (bif Nat.ble pc 16 then (bif Nat.beq pc 16 then js_ifeq 30 else js_none) else (bif Nat.beq pc 19 then js_al 0 1 else js_none)) else (bif Nat.ble pc 20 then (bif Nat.beq pc 20 then js_getf 0 3 else js_none) else (bif Nat.beq pc 23 then js_il 1 1 else js_none))) else (bif Nat.ble pc 27 then (bif Nat.ble pc 24 then (bif Nat.beq pc 24 then js_v1 7 84 else js_none) else (bif Nat.beq pc 27 then js_ifeq 32 else js_none)) else (bif Nat.beq pc 30 then js_c 0 1 else js_none)))) else (bif Nat.ble pc 46 then (bif Nat.ble pc 36 then (bif Nat.ble pc 32 then (bif Nat.ble pc 31 then (bif Nat.beq pc 31 then js_zr else js_none) else (bif Nat.beq pc 32 then js_al 0 1 else js_none)) else (bif Nat.ble pc 33 then (bif Nat.beq pc 33 then js_getf 0 3 else js_none) else (bif Nat.beq pc 36 then js_al 0 1 else js_none))) else (bif Nat.ble pc 40 then (bif Nat.ble pc 37 then (bif Nat.beq pc 37 then js_getf 0 2 else js_none) else (bif Nat.beq pc 40 then js_getf 5 0 else js_none)) else (bif Nat.ble pc 43 then (bif Nat.beq pc 43 then js_getf 6 0 else js_none) else (bif Nat.beq pc 46 then js_il 1 1 else js_none)))) else (bif Nat.ble pc 54 then (bif Nat.ble pc 48 then (bif Nat.ble pc 47 then (bif Nat.beq pc 47 then js_ald else js_none) else (bif Nat.beq pc 48 then js_v1 7 87 else js_none)) else (bif Nat.ble pc 51 then (bif Nat.beq pc 51 then js_ifne 56 else js_none) else (bif Nat.beq pc 54 then js_c 0 1 else js_none))) else (bif Nat.ble pc 56 then (bif Nat.ble pc 55 then (bif Nat.beq pc 55 then js_zr else js_none) else (bif Nat.beq pc 56 then js_c 1 1 else js_none)) else (bif Nat.beq pc 57 then js_is 2 1 else js_none))))) else (bif Nat.ble pc 86 then (bif Nat.ble pc 71 then (bif Nat.ble pc 63 then (bif Nat.ble pc 59 then (bif Nat.ble pc 58 then (bif Nat.beq pc 58 then js_il 2 1 else js_none) else (bif Nat.beq pc 59 then js_c 3 1 else js_none)) else (bif Nat.ble pc 60 then (bif Nat.beq pc 60 then js_cge 86 else js_none) else (bif Nat.beq pc 63 then js_al 0 1 else js_none))) else (bif Nat.ble pc 67 then (bif Nat.ble pc 64 then (bif Nat.beq pc 64 then js_getf 0 2 else js_none) else (bif Nat.beq pc 67 then js_getf 5 0 else js_none)) else (bif Nat.ble pc 70 then (bif Nat.beq pc 70 then js_il 1 1 else js_none) else (bif Nat.beq pc 71 then js_il 2 1 else js_none)))) else (bif Nat.ble pc 79 then (bif Nat.ble pc 75 then (bif Nat.ble pc 72 then (bif Nat.beq pc 72 then js_v2 6 79 else js_none) else (bif Nat.beq pc 75 then js_ifeq 80 else js_none)) else (bif Nat.ble pc 78 then (bif Nat.beq pc 78 then js_c 0 1 else js_none) else (bif Nat.beq pc 79 then js_zr else js_none))) else (bif Nat.ble pc 83 then (bif Nat.ble pc 80 then (bif Nat.beq pc 80 then js_inc 2 1 else js_none) else (bif Nat.beq pc 83 then js_go 58 else js_none)) else (bif Nat.beq pc 86 then js_al 0 1 else js_none)))) else (bif Nat.ble pc 100 then (bif Nat.ble pc 94 then (bif Nat.ble pc 90 then (bif Nat.ble pc 87 then (bif Nat.beq pc 87 then js_getf 0 2 else js_none) else (bif Nat.beq pc 90 then js_getf 5 0 else js_none)) else (bif Nat.ble pc 93 then (bif Nat.beq pc 93 then js_il 1 1 else js_none) else (bif Nat.beq pc 94 then js_c 0 1 else js_none))) else (bif Nat.ble pc 98 then (bif Nat.ble pc 95 then (bif Nat.beq pc 95 then js_v2 6 79 else js_none) else (bif Nat.beq pc 98 then js_c 2 1 else js_none)) else (bif Nat.ble pc 99 then (bif Nat.beq pc 99 then js_al 0 1 else js_none) else (bif Nat.beq pc 100 then js_getf 0 3 else js_none)))) else (bif Nat.ble pc 110 then (bif Nat.ble pc 106 then (bif Nat.ble pc 103 then (bif Nat.beq pc 103 then js_getf 7 6 else js_none) else (bif Nat.beq pc 106 then js_imul else js_none)) else (bif Nat.ble pc 107 then (bif Nat.beq pc 107 then js_clt 114 else js_none) else (bif Nat.beq pc 110 then js_c 1 1 else js_none))) else (bif Nat.ble pc 114 then (bif Nat.ble pc 111 then (bif Nat.beq pc 111 then js_go 115 else js_none) else (bif Nat.beq pc 114 then js_c 0 1 else js_none)) else (bif Nat.beq pc 115 then js_zr else js_none)))))
theorem jk_28_0 : jx_Snd 28 0 (js_al 0 1) := jo_aload_n (i := 0) (w := 0) rfl jd_28_0
theorem jk_28_1 : jx_Snd 28 1 (js_getf 0 3) := jo_getf rfl jf_0_35 jd_28_1
theorem jk_28_4 : jx_Snd 28 4 (js_getf 7 11) := jo_getf rfl jf_0_127 jd_28_4
theorem jk_28_7 : jx_Snd 28 7 (js_is 1 1) := jo_istore_n (i := 1) (w := 1) rfl (Nat.le_of_ble_eq_true rfl) jd_28_7
theorem jk_28_8 : jx_Snd 28 8 (js_al 0 1) := jo_aload_n (i := 0) (w := 0) rfl jd_28_8
theorem jk_28_9 : jx_Snd 28 9 (js_getf 0 2) := jo_getf rfl jf_0_28 jd_28_9
theorem jk_28_12 : jx_Snd 28 12 (js_il 1 1) := jo_iload_n (i := 1) (w := 1) rfl jd_28_12
theorem jk_28_13 : jx_Snd 28 13 (js_v1 5 69) := jo_v1 rfl jok_69 (Or.inl jw_345) jw_346 jw_347 rfl jd_28_13
theorem jk_28_16 : jx_Snd 28 16 (js_ifeq 30) := jo_ifeq (o := 14) rfl jd_28_16
theorem jk_28_19 : jx_Snd 28 19 (js_al 0 1) := jo_aload_n (i := 0) (w := 0) rfl jd_28_19
theorem jk_28_20 : jx_Snd 28 20 (js_getf 0 3) := jo_getf rfl jf_0_35 jd_28_20
theorem jk_28_23 : jx_Snd 28 23 (js_il 1 1) := jo_iload_n (i := 1) (w := 1) rfl jd_28_23
theorem jk_28_24 : jx_Snd 28 24 (js_v1 7 84) := jo_v1 rfl jok_84 (Or.inl jw_303) jw_304 jw_305 rfl jd_28_24
theorem jk_28_27 : jx_Snd 28 27 (js_ifeq 32) := jo_ifeq (o := 5) rfl jd_28_27
theorem jk_28_30 : jx_Snd 28 30 (js_c 0 1) := jo_iconst (z := 0) jd_28_30 rfl
theorem jk_28_31 : jx_Snd 28 31 (js_zr) := jo_zr rfl jd_28_31
theorem jk_28_32 : jx_Snd 28 32 (js_al 0 1) := jo_aload_n (i := 0) (w := 0) rfl jd_28_32
theorem jk_28_33 : jx_Snd 28 33 (js_getf 0 3) := jo_getf rfl jf_0_35 jd_28_33
theorem jk_28_36 : jx_Snd 28 36 (js_al 0 1) := jo_aload_n (i := 0) (w := 0) rfl jd_28_36
theorem jk_28_37 : jx_Snd 28 37 (js_getf 0 2) := jo_getf rfl jf_0_28 jd_28_37
theorem jk_28_40 : jx_Snd 28 40 (js_getf 5 0) := jo_getf rfl jf_0_153 jd_28_40
theorem jk_28_43 : jx_Snd 28 43 (js_getf 6 0) := jo_getf rfl jf_0_162 jd_28_43
theorem jk_28_46 : jx_Snd 28 46 (js_il 1 1) := jo_iload_n (i := 1) (w := 1) rfl jd_28_46
theorem jk_28_47 : jx_Snd 28 47 (js_ald) := jo_ald jd_28_47
theorem jk_28_48 : jx_Snd 28 48 (js_v1 7 87) := jo_v1 rfl jok_87 (Or.inl jw_375) jw_376 jw_377 rfl jd_28_48
theorem jk_28_51 : jx_Snd 28 51 (js_ifne 56) := jo_ifne (o := 5) rfl jd_28_51
theorem jk_28_54 : jx_Snd 28 54 (js_c 0 1) := jo_iconst (z := 0) jd_28_54 rfl
theorem jk_28_55 : jx_Snd 28 55 (js_zr) := jo_zr rfl jd_28_55
theorem jk_28_56 : jx_Snd 28 56 (js_c 1 1) := jo_iconst (z := 1) jd_28_56 rfl
theorem jk_28_57 : jx_Snd 28 57 (js_is 2 1) := jo_istore_n (i := 2) (w := 2) rfl (Nat.le_of_ble_eq_true rfl) jd_28_57
theorem jk_28_58 : jx_Snd 28 58 (js_il 2 1) := jo_iload_n (i := 2) (w := 2) rfl jd_28_58
theorem jk_28_59 : jx_Snd 28 59 (js_c 3 1) := jo_iconst (z := 3) jd_28_59 rfl
theorem jk_28_60 : jx_Snd 28 60 (js_cge 86) := jo_cge (o := 26) rfl jd_28_60
theorem jk_28_63 : jx_Snd 28 63 (js_al 0 1) := jo_aload_n (i := 0) (w := 0) rfl jd_28_63
theorem jk_28_64 : jx_Snd 28 64 (js_getf 0 2) := jo_getf rfl jf_0_28 jd_28_64
theorem jk_28_67 : jx_Snd 28 67 (js_getf 5 0) := jo_getf rfl jf_0_153 jd_28_67
theorem jk_28_70 : jx_Snd 28 70 (js_il 1 1) := jo_iload_n (i := 1) (w := 1) rfl jd_28_70
theorem jk_28_71 : jx_Snd 28 71 (js_il 2 1) := jo_iload_n (i := 2) (w := 2) rfl jd_28_71
theorem jk_28_72 : jx_Snd 28 72 (js_v2 6 79) := jo_v2 rfl jok_79 (Or.inl jw_363) jw_364 jw_365 rfl jd_28_72
theorem jk_28_75 : jx_Snd 28 75 (js_ifeq 80) := jo_ifeq (o := 5) rfl jd_28_75
theorem jk_28_78 : jx_Snd 28 78 (js_c 0 1) := jo_iconst (z := 0) jd_28_78 rfl
theorem jk_28_79 : jx_Snd 28 79 (js_zr) := jo_zr rfl jd_28_79
theorem jk_28_80 : jx_Snd 28 80 (js_inc 2 1) := jo_iinc (w := 1) rfl (Nat.le_of_ble_eq_true rfl) jd_28_80
theorem jk_28_83 : jx_Snd 28 83 (js_go 58) := jo_goto (o := (-25)) rfl jd_28_83
theorem jk_28_86 : jx_Snd 28 86 (js_al 0 1) := jo_aload_n (i := 0) (w := 0) rfl jd_28_86
theorem jk_28_87 : jx_Snd 28 87 (js_getf 0 2) := jo_getf rfl jf_0_28 jd_28_87
theorem jk_28_90 : jx_Snd 28 90 (js_getf 5 0) := jo_getf rfl jf_0_153 jd_28_90
theorem jk_28_93 : jx_Snd 28 93 (js_il 1 1) := jo_iload_n (i := 1) (w := 1) rfl jd_28_93
theorem jk_28_94 : jx_Snd 28 94 (js_c 0 1) := jo_iconst (z := 0) jd_28_94 rfl
theorem jk_28_95 : jx_Snd 28 95 (js_v2 6 79) := jo_v2 rfl jok_79 (Or.inl jw_363) jw_364 jw_365 rfl jd_28_95
theorem jk_28_98 : jx_Snd 28 98 (js_c 2 1) := jo_iconst (z := 2) jd_28_98 rfl
theorem jk_28_99 : jx_Snd 28 99 (js_al 0 1) := jo_aload_n (i := 0) (w := 0) rfl jd_28_99
theorem jk_28_100 : jx_Snd 28 100 (js_getf 0 3) := jo_getf rfl jf_0_35 jd_28_100
theorem jk_28_103 : jx_Snd 28 103 (js_getf 7 6) := jo_getf rfl jf_0_187 jd_28_103
theorem jk_28_106 : jx_Snd 28 106 (js_imul) := jo_imul jd_28_106
theorem jk_28_107 : jx_Snd 28 107 (js_clt 114) := jo_clt (o := 7) rfl jd_28_107
theorem jk_28_110 : jx_Snd 28 110 (js_c 1 1) := jo_iconst (z := 1) jd_28_110 rfl
theorem jk_28_111 : jx_Snd 28 111 (js_go 115) := jo_goto (o := 4) rfl jd_28_111
theorem jk_28_114 : jx_Snd 28 114 (js_c 0 1) := jo_iconst (z := 0) jd_28_114 rfl
theorem jk_28_115 : jx_Snd 28 115 (js_zr) := jo_zr rfl jd_28_115
theorem jk_28 : jx_So 28 jt_28 := fun pc => jo_le (jo_le (jo_le (jo_le (jo_le (jo_le (jo_at (jk_28_0)) (jo_at (jk_28_1))) (jo_le (jo_at (jk_28_4)) (jo_at (jk_28_7)))) (jo_le (jo_le (jo_at (jk_28_8)) (jo_at (jk_28_9))) (jo_le (jo_at (jk_28_12)) (jo_at (jk_28_13))))) (jo_le (jo_le (jo_le (jo_at (jk_28_16)) (jo_at (jk_28_19))) (jo_le (jo_at (jk_28_20)) (jo_at (jk_28_23)))) (jo_le (jo_le (jo_at (jk_28_24)) (jo_at (jk_28_27))) (jo_at (jk_28_30))))) (jo_le (jo_le (jo_le (jo_le (jo_at (jk_28_31)) (jo_at (jk_28_32))) (jo_le (jo_at (jk_28_33)) (jo_at (jk_28_36)))) (jo_le (jo_le (jo_at (jk_28_37)) (jo_at (jk_28_40))) (jo_le (jo_at (jk_28_43)) (jo_at (jk_28_46))))) (jo_le (jo_le (jo_le (jo_at (jk_28_47)) (jo_at (jk_28_48))) (jo_le (jo_at (jk_28_51)) (jo_at (jk_28_54)))) (jo_le (jo_le (jo_at (jk_28_55)) (jo_at (jk_28_56))) (jo_at (jk_28_57)))))) (jo_le (jo_le (jo_le (jo_le (jo_le (jo_at (jk_28_58)) (jo_at (jk_28_59))) (jo_le (jo_at (jk_28_60)) (jo_at (jk_28_63)))) (jo_le (jo_le (jo_at (jk_28_64)) (jo_at (jk_28_67))) (jo_le (jo_at (jk_28_70)) (jo_at (jk_28_71))))) (jo_le (jo_le (jo_le (jo_at (jk_28_72)) (jo_at (jk_28_75))) (jo_le (jo_at (jk_28_78)) (jo_at (jk_28_79)))) (jo_le (jo_le (jo_at (jk_28_80)) (jo_at (jk_28_83))) (jo_at (jk_28_86))))) (jo_le (jo_le (jo_le (jo_le (jo_at (jk_28_87)) (jo_at (jk_28_90))) (jo_le (jo_at (jk_28_93)) (jo_at (jk_28_94)))) (jo_le (jo_le (jo_at (jk_28_95)) (jo_at (jk_28_98))) (jo_le (jo_at (jk_28_99)) (jo_at (jk_28_100))))) (jo_le (jo_le (jo_le (jo_at (jk_28_103)) (jo_at (jk_28_106))) (jo_le (jo_at (jk_28_107)) (jo_at (jk_28_110)))) (jo_le (jo_le (jo_at (jk_28_111)) (jo_at (jk_28_114))) (jo_at (jk_28_115))))))
theorem ji_28 {l : Launch} {D : va_G} {cA : ClassId} {ρ : Nat → Nat} {Λ : List jx_Lc} {d : Nat} {Q : Option Value → jx_St → Prop} {σ : jx_St} {z0 : Nat} (h : jt_28 0 Λ jx_tb0 (jx_rn Λ jx_tb0 jt_28 (fun k' as σ K => jx_C l D cA ρ Λ d k' as σ K) Q (jx_J l D cA ρ Λ (jx_A ρ Λ) jx_tb0 (d + 1) 28 Q) [] 400) (fun k' as σ K => jx_C l D cA ρ Λ d k' as σ K) Q 0 [(0, .ref z0)] [] σ) : jx_C l D cA ρ Λ (d + 1) 28 [.ref z0] σ Q := jx_in jk_28 400 [] rfl (Nat.le_of_ble_eq_true rfl) h
/-! ScriptLedger.scriptsAgree()Z -/
theorem jd_29_0 : decode prog_1_method_30_code 0 = .ok (.aload_n 0, 1) := by decide +kernel
theorem jd_29_1 : decode prog_1_method_30_code 1 = .ok (.invokevirtual 223, 3) := by decide +kernel
theorem jd_29_4 : decode prog_1_method_30_code 4 = .ok (.aload_n 0, 1) := by decide +kernel
theorem jd_29_5 : decode prog_1_method_30_code 5 = .ok (.getfield 35, 3) := by decide +kernel
theorem jd_29_8 : decode prog_1_method_30_code 8 = .ok (.getfield 226, 3) := by decide +kernel
theorem jd_29_11 : decode prog_1_method_30_code 11 = .ok (.istore_n 1, 1) := by decide +kernel
theorem jd_29_12 : decode prog_1_method_30_code 12 = .ok (.iconst 0, 1) := by decide +kernel
theorem jd_29_13 : decode prog_1_method_30_code 13 = .ok (.istore_n 2, 1) := by decide +kernel
theorem jd_29_14 : decode prog_1_method_30_code 14 = .ok (.iload_n 2, 1) := by decide +kernel
theorem jd_29_15 : decode prog_1_method_30_code 15 = .ok (.aload_n 0, 1) := by decide +kernel
theorem jd_29_16 : decode prog_1_method_30_code 16 = .ok (.getfield 35, 3) := by decide +kernel
theorem jd_29_19 : decode prog_1_method_30_code 19 = .ok (.getfield 90, 3) := by decide +kernel
theorem jd_29_22 : decode prog_1_method_30_code 22 = .ok (.if_icmp .ge 105, 3) := by decide +kernel
theorem jd_29_25 : decode prog_1_method_30_code 25 = .ok (.aload_n 0, 1) := by decide +kernel
theorem jd_29_26 : decode prog_1_method_30_code 26 = .ok (.getfield 35, 3) := by decide +kernel
theorem jd_29_29 : decode prog_1_method_30_code 29 = .ok (.getfield 208, 3) := by decide +kernel
theorem jd_29_32 : decode prog_1_method_30_code 32 = .ok (.iload_n 2, 1) := by decide +kernel
theorem jd_29_33 : decode prog_1_method_30_code 33 = .ok (.iaload, 1) := by decide +kernel
theorem jd_29_34 : decode prog_1_method_30_code 34 = .ok (.istore_n 3, 1) := by decide +kernel
theorem jd_29_35 : decode prog_1_method_30_code 35 = .ok (.aload_n 0, 1) := by decide +kernel
theorem jd_29_36 : decode prog_1_method_30_code 36 = .ok (.getfield 28, 3) := by decide +kernel
theorem jd_29_39 : decode prog_1_method_30_code 39 = .ok (.getfield 153, 3) := by decide +kernel
theorem jd_29_42 : decode prog_1_method_30_code 42 = .ok (.getfield 162, 3) := by decide +kernel
theorem jd_29_45 : decode prog_1_method_30_code 45 = .ok (.iload_n 3, 1) := by decide +kernel
theorem jd_29_46 : decode prog_1_method_30_code 46 = .ok (.iaload, 1) := by decide +kernel
theorem jd_29_47 : decode prog_1_method_30_code 47 = .ok (.istore 4, 2) := by decide +kernel
theorem jd_29_49 : decode prog_1_method_30_code 49 = .ok (.iload 4, 2) := by decide +kernel
theorem jd_29_51 : decode prog_1_method_30_code 51 = .ok (.iconst 4, 1) := by decide +kernel
theorem jd_29_52 : decode prog_1_method_30_code 52 = .ok (.if_icmp .lt 69, 3) := by decide +kernel
theorem jd_29_55 : decode prog_1_method_30_code 55 = .ok (.aload_n 0, 1) := by decide +kernel
theorem jd_29_56 : decode prog_1_method_30_code 56 = .ok (.getfield 39, 3) := by decide +kernel
theorem jd_29_59 : decode prog_1_method_30_code 59 = .ok (.iconst 0, 1) := by decide +kernel
theorem jd_29_60 : decode prog_1_method_30_code 60 = .ok (.iload_n 2, 1) := by decide +kernel
theorem jd_29_61 : decode prog_1_method_30_code 61 = .ok (.iastore, 1) := by decide +kernel
theorem jd_29_62 : decode prog_1_method_30_code 62 = .ok (.aload_n 0, 1) := by decide +kernel
theorem jd_29_63 : decode prog_1_method_30_code 63 = .ok (.getfield 19, 3) := by decide +kernel
theorem jd_29_66 : decode prog_1_method_30_code 66 = .ok (.iload 4, 2) := by decide +kernel
theorem jd_29_68 : decode prog_1_method_30_code 68 = .ok (.iconst 4, 1) := by decide +kernel
theorem jd_29_69 : decode prog_1_method_30_code 69 = .ok (.isub, 1) := by decide +kernel
theorem jd_29_70 : decode prog_1_method_30_code 70 = .ok (.aload_n 0, 1) := by decide +kernel
theorem jd_29_71 : decode prog_1_method_30_code 71 = .ok (.getfield 28, 3) := by decide +kernel
theorem jd_29_74 : decode prog_1_method_30_code 74 = .ok (.getfield 153, 3) := by decide +kernel
theorem jd_29_77 : decode prog_1_method_30_code 77 = .ok (.getfield 165, 3) := by decide +kernel
theorem jd_29_80 : decode prog_1_method_30_code 80 = .ok (.iload_n 3, 1) := by decide +kernel
theorem jd_29_81 : decode prog_1_method_30_code 81 = .ok (.iaload, 1) := by decide +kernel
theorem jd_29_82 : decode prog_1_method_30_code 82 = .ok (.aload_n 0, 1) := by decide +kernel
theorem jd_29_83 : decode prog_1_method_30_code 83 = .ok (.getfield 35, 3) := by decide +kernel
theorem jd_29_86 : decode prog_1_method_30_code 86 = .ok (.getfield 229, 3) := by decide +kernel
theorem jd_29_89 : decode prog_1_method_30_code 89 = .ok (.iload_n 2, 1) := by decide +kernel
theorem jd_29_90 : decode prog_1_method_30_code 90 = .ok (.iaload, 1) := by decide +kernel
theorem jd_29_91 : decode prog_1_method_30_code 91 = .ok (.aload_n 0, 1) := by decide +kernel
theorem jd_29_92 : decode prog_1_method_30_code 92 = .ok (.getfield 39, 3) := by decide +kernel
theorem jd_29_95 : decode prog_1_method_30_code 95 = .ok (.iload_n 1, 1) := by decide +kernel
theorem jd_29_96 : decode prog_1_method_30_code 96 = .ok (.invokevirtual 71, 3) := by decide +kernel
theorem jd_29_99 : decode prog_1_method_30_code 99 = .ok (.aload_n 0, 1) := by decide +kernel
theorem jd_29_100 : decode prog_1_method_30_code 100 = .ok (.getfield 19, 3) := by decide +kernel
theorem jd_29_103 : decode prog_1_method_30_code 103 = .ok (.getfield 75, 3) := by decide +kernel
theorem jd_29_106 : decode prog_1_method_30_code 106 = .ok (.ifCond .eq 5, 3) := by decide +kernel
theorem jd_29_109 : decode prog_1_method_30_code 109 = .ok (.iconst 0, 1) := by decide +kernel
theorem jd_29_110 : decode prog_1_method_30_code 110 = .ok (.ireturn, 1) := by decide +kernel
theorem jd_29_111 : decode prog_1_method_30_code 111 = .ok (.iload_n 1, 1) := by decide +kernel
theorem jd_29_112 : decode prog_1_method_30_code 112 = .ok (.aload_n 0, 1) := by decide +kernel
theorem jd_29_113 : decode prog_1_method_30_code 113 = .ok (.getfield 19, 3) := by decide +kernel
theorem jd_29_116 : decode prog_1_method_30_code 116 = .ok (.getfield 78, 3) := by decide +kernel
theorem jd_29_119 : decode prog_1_method_30_code 119 = .ok (.isub, 1) := by decide +kernel
theorem jd_29_120 : decode prog_1_method_30_code 120 = .ok (.istore_n 1, 1) := by decide +kernel
theorem jd_29_121 : decode prog_1_method_30_code 121 = .ok (.iinc 2 1, 3) := by decide +kernel
theorem jd_29_124 : decode prog_1_method_30_code 124 = .ok (.goto (-110), 3) := by decide +kernel
theorem jd_29_127 : decode prog_1_method_30_code 127 = .ok (.iconst 1, 1) := by decide +kernel
theorem jd_29_128 : decode prog_1_method_30_code 128 = .ok (.istore_n 2, 1) := by decide +kernel
theorem jd_29_129 : decode prog_1_method_30_code 129 = .ok (.iload_n 2, 1) := by decide +kernel
theorem jd_29_130 : decode prog_1_method_30_code 130 = .ok (.iconst 3, 1) := by decide +kernel
theorem jd_29_131 : decode prog_1_method_30_code 131 = .ok (.if_icmp .ge 81, 3) := by decide +kernel
theorem jd_29_134 : decode prog_1_method_30_code 134 = .ok (.aload_n 0, 1) := by decide +kernel
theorem jd_29_135 : decode prog_1_method_30_code 135 = .ok (.getfield 35, 3) := by decide +kernel
theorem jd_29_138 : decode prog_1_method_30_code 138 = .ok (.getfield 118, 3) := by decide +kernel
theorem jd_29_141 : decode prog_1_method_30_code 141 = .ok (.iload_n 2, 1) := by decide +kernel
theorem jd_29_142 : decode prog_1_method_30_code 142 = .ok (.iaload, 1) := by decide +kernel
theorem jd_29_143 : decode prog_1_method_30_code 143 = .ok (.istore_n 3, 1) := by decide +kernel
theorem jd_29_144 : decode prog_1_method_30_code 144 = .ok (.iload_n 3, 1) := by decide +kernel
theorem jd_29_145 : decode prog_1_method_30_code 145 = .ok (.ifCond .eq 61, 3) := by decide +kernel
theorem jd_29_148 : decode prog_1_method_30_code 148 = .ok (.aload_n 0, 1) := by decide +kernel
theorem jd_29_149 : decode prog_1_method_30_code 149 = .ok (.getfield 39, 3) := by decide +kernel
theorem jd_29_152 : decode prog_1_method_30_code 152 = .ok (.iconst 0, 1) := by decide +kernel
theorem jd_29_153 : decode prog_1_method_30_code 153 = .ok (.bipush 8, 2) := by decide +kernel
theorem jd_29_155 : decode prog_1_method_30_code 155 = .ok (.iload_n 2, 1) := by decide +kernel
theorem jd_29_156 : decode prog_1_method_30_code 156 = .ok (.iadd, 1) := by decide +kernel
theorem jd_29_157 : decode prog_1_method_30_code 157 = .ok (.iastore, 1) := by decide +kernel
theorem jd_29_158 : decode prog_1_method_30_code 158 = .ok (.aload_n 0, 1) := by decide +kernel
theorem jd_29_159 : decode prog_1_method_30_code 159 = .ok (.getfield 19, 3) := by decide +kernel
theorem jd_29_162 : decode prog_1_method_30_code 162 = .ok (.iload_n 2, 1) := by decide +kernel
theorem jd_29_163 : decode prog_1_method_30_code 163 = .ok (.invokestatic 220, 3) := by decide +kernel
theorem jd_29_166 : decode prog_1_method_30_code 166 = .ok (.iload_n 3, 1) := by decide +kernel
theorem jd_29_167 : decode prog_1_method_30_code 167 = .ok (.aload_n 0, 1) := by decide +kernel
theorem jd_29_168 : decode prog_1_method_30_code 168 = .ok (.getfield 35, 3) := by decide +kernel
theorem jd_29_171 : decode prog_1_method_30_code 171 = .ok (.getfield 121, 3) := by decide +kernel
theorem jd_29_174 : decode prog_1_method_30_code 174 = .ok (.iload_n 2, 1) := by decide +kernel
theorem jd_29_175 : decode prog_1_method_30_code 175 = .ok (.iaload, 1) := by decide +kernel
theorem jd_29_176 : decode prog_1_method_30_code 176 = .ok (.aload_n 0, 1) := by decide +kernel
theorem jd_29_177 : decode prog_1_method_30_code 177 = .ok (.getfield 39, 3) := by decide +kernel
theorem jd_29_180 : decode prog_1_method_30_code 180 = .ok (.iload_n 1, 1) := by decide +kernel
theorem jd_29_181 : decode prog_1_method_30_code 181 = .ok (.invokevirtual 71, 3) := by decide +kernel
theorem jd_29_184 : decode prog_1_method_30_code 184 = .ok (.aload_n 0, 1) := by decide +kernel
theorem jd_29_185 : decode prog_1_method_30_code 185 = .ok (.getfield 19, 3) := by decide +kernel
theorem jd_29_188 : decode prog_1_method_30_code 188 = .ok (.getfield 75, 3) := by decide +kernel
theorem jd_29_191 : decode prog_1_method_30_code 191 = .ok (.ifCond .eq 5, 3) := by decide +kernel
theorem jd_29_194 : decode prog_1_method_30_code 194 = .ok (.iconst 0, 1) := by decide +kernel
theorem jd_29_195 : decode prog_1_method_30_code 195 = .ok (.ireturn, 1) := by decide +kernel
theorem jd_29_196 : decode prog_1_method_30_code 196 = .ok (.iload_n 1, 1) := by decide +kernel
theorem jd_29_197 : decode prog_1_method_30_code 197 = .ok (.aload_n 0, 1) := by decide +kernel
theorem jd_29_198 : decode prog_1_method_30_code 198 = .ok (.getfield 19, 3) := by decide +kernel
theorem jd_29_201 : decode prog_1_method_30_code 201 = .ok (.getfield 78, 3) := by decide +kernel
theorem jd_29_204 : decode prog_1_method_30_code 204 = .ok (.isub, 1) := by decide +kernel
theorem jd_29_205 : decode prog_1_method_30_code 205 = .ok (.istore_n 1, 1) := by decide +kernel
theorem jd_29_206 : decode prog_1_method_30_code 206 = .ok (.iinc 2 1, 3) := by decide +kernel
theorem jd_29_209 : decode prog_1_method_30_code 209 = .ok (.goto (-80), 3) := by decide +kernel
theorem jd_29_212 : decode prog_1_method_30_code 212 = .ok (.iconst 1, 1) := by decide +kernel
theorem jd_29_213 : decode prog_1_method_30_code 213 = .ok (.ireturn, 1) := by decide +kernel
def jt_29 (pc : Nat) : jx_Sp := bif Nat.ble pc 109 then (bif Nat.ble pc 55 then (bif Nat.ble pc 26 then (bif Nat.ble pc 13 then (bif Nat.ble pc 5 then (bif Nat.ble pc 1 then (bif Nat.ble pc 0 then (bif Nat.beq pc 0 then js_al 0 1 else js_none) else (bif Nat.beq pc 1 then js_v0 0 30 else js_none)) else (bif Nat.ble pc 4 then (bif Nat.beq pc 4 then js_al 0 1 else js_none) else (bif Nat.beq pc 5 then js_getf 0 3 else js_none))) else (bif Nat.ble pc 11 then (bif Nat.ble pc 8 then (bif Nat.beq pc 8 then js_getf 7 10 else js_none) else (bif Nat.beq pc 11 then js_is 1 1 else js_none)) else (bif Nat.ble pc 12 then (bif Nat.beq pc 12 then js_c 0 1 else js_none) else (bif Nat.beq pc 13 then js_is 2 1 else js_none)))) else (bif Nat.ble pc 19 then (bif Nat.ble pc 15 then (bif Nat.ble pc 14 then (bif Nat.beq pc 14 then js_il 2 1 else js_none) else (bif Nat.beq pc 15 then js_al 0 1 else js_none)) else (bif Nat.ble pc 16 then (bif Nat.beq pc 16 then js_getf 0 3 else js_none) else (bif Nat.beq pc 19 then js_getf 7 2 else js_none))) else (bif Nat.ble pc 25 then (bif Nat.ble pc 22 then (bif Nat.beq pc 22 then js_cge 127 else js_none) else (bif Nat.beq pc 25 then js_al 0 1 else js_none)) else (bif Nat.beq pc 26 then js_getf 0 3 else js_none)))) else (bif Nat.ble pc 42 then (bif Nat.ble pc 34 then (bif Nat.ble pc 32 then (bif Nat.ble pc 29 then (bif Nat.beq pc 29 then js_getf 7 0 else js_none) else (bif Nat.beq pc 32 then js_il 2 1 else js_none)) else (bif Nat.ble pc 33 then (bif Nat.beq pc 33 then js_ald else js_none) else (bif Nat.beq pc 34 then js_is 3 1 else js_none))) else (bif Nat.ble pc 36 then (bif Nat.ble pc 35 then (bif Nat.beq pc 35 then js_al 0 1 else js_none) else (bif Nat.beq pc 36 then js_getf 0 2 else js_none)) else (bif Nat.ble pc 39 then (bif Nat.beq pc 39 then js_getf 5 0 else js_none) else (bif Nat.beq pc 42 then js_getf 6 0 else js_none)))) else (bif Nat.ble pc 49 then (bif Nat.ble pc 46 then (bif Nat.ble pc 45 then (bif Nat.beq pc 45 then js_il 3 1 else js_none) else (bif Nat.beq pc 46 then js_ald else js_none)) else (bif Nat.ble pc 47 then (bif Nat.beq pc 47 then js_is 4 2 else js_none) else (bif Nat.beq pc 49 then js_il 4 2 else js_none))) else (bif Nat.ble pc 52 then (bif Nat.ble pc 51 then (bif Nat.beq pc 51 then js_c 4 1 else js_none) else (bif Nat.beq pc 52 then js_clt 121 else js_none)) else (bif Nat.beq pc 55 then js_al 0 1 else js_none))))) else (bif Nat.ble pc 81 then (bif Nat.ble pc 68 then (bif Nat.ble pc 61 then (bif Nat.ble pc 59 then (bif Nat.ble pc 56 then (bif Nat.beq pc 56 then js_getf 0 4 else js_none) else (bif Nat.beq pc 59 then js_c 0 1 else js_none)) else (bif Nat.ble pc 60 then (bif Nat.beq pc 60 then js_il 2 1 else js_none) else (bif Nat.beq pc 61 then js_ast else js_none))) else (bif Nat.ble pc 63 then (bif Nat.ble pc 62 then (bif Nat.beq pc 62 then js_al 0 1 else js_none) else (bif Nat.beq pc 63 then js_getf 0 1 else js_none)) else (bif Nat.ble pc 66 then (bif Nat.beq pc 66 then js_il 4 2 else js_none) else (bif Nat.beq pc 68 then js_c 4 1 else js_none)))) else (bif Nat.ble pc 74 then (bif Nat.ble pc 70 then (bif Nat.ble pc 69 then (bif Nat.beq pc 69 then js_isub else js_none) else (bif Nat.beq pc 70 then js_al 0 1 else js_none)) else (bif Nat.ble pc 71 then (bif Nat.beq pc 71 then js_getf 0 2 else js_none) else (bif Nat.beq pc 74 then js_getf 5 0 else js_none))) else (bif Nat.ble pc 80 then (bif Nat.ble pc 77 then (bif Nat.beq pc 77 then js_getf 6 1 else js_none) else (bif Nat.beq pc 80 then js_il 3 1 else js_none)) else (bif Nat.beq pc 81 then js_ald else js_none)))) else (bif Nat.ble pc 92 then (bif Nat.ble pc 89 then (bif Nat.ble pc 83 then (bif Nat.ble pc 82 then (bif Nat.beq pc 82 then js_al 0 1 else js_none) else (bif Nat.beq pc 83 then js_getf 0 3 else js_none)) else (bif Nat.ble pc 86 then (bif Nat.beq pc 86 then js_getf 7 1 else js_none) else (bif Nat.beq pc 89 then js_il 2 1 else js_none))) else (bif Nat.ble pc 91 then (bif Nat.ble pc 90 then (bif Nat.beq pc 90 then js_ald else js_none) else (bif Nat.beq pc 91 then js_al 0 1 else js_none)) else (bif Nat.beq pc 92 then js_getf 0 4 else js_none))) else (bif Nat.ble pc 100 then (bif Nat.ble pc 96 then (bif Nat.ble pc 95 then (bif Nat.beq pc 95 then js_il 1 1 else js_none) else (bif Nat.beq pc 96 then js_v5 2 35 else js_none)) else (bif Nat.ble pc 99 then (bif Nat.beq pc 99 then js_al 0 1 else js_none) else (bif Nat.beq pc 100 then js_getf 0 1 else js_none))) else (bif Nat.ble pc 106 then (bif Nat.ble pc 103 then (bif Nat.beq pc 103 then js_getf 2 13 else js_none) else (bif Nat.beq pc 106 then js_ifeq 111 else js_none)) else (bif Nat.beq pc 109 then js_c 0 1 else js_none)))))) else (bif Nat.ble pc 158 then (bif Nat.ble pc 134 then (bif Nat.ble pc 121 then (bif Nat.ble pc 113 then (bif Nat.ble pc 111 then (bif Nat.ble pc 110 then (bif Nat.beq pc 110 then js_zr else js_none) else (bif Nat.beq pc 111 then js_il 1 1 else js_none)) else (bif Nat.ble pc 112 then (bif Nat.beq pc 112 then js_al 0 1 else js_none) else (bif Nat.beq pc 113 then js_getf 0 1 else js_none))) else (bif Nat.ble pc 119 then (bif Nat.ble pc 116 then (bif Nat.beq pc 116 then js_getf 2 12 else js_none) else (bif Nat.beq pc 119 then js_isub else js_none)) else (bif Nat.ble pc 120 then (bif Nat.beq pc 120 then js_is 1 1 else js_none) else (bif Nat.beq pc 121 then js_inc 2 1 else js_none)))) else (bif Nat.ble pc 129 then (bif Nat.ble pc 127 then (bif Nat.ble pc 124 then (bif Nat.beq pc 124 then js_go 14 else js_none) else (bif Nat.beq pc 127 then js_c 1 1 else js_none)) else (bif Nat.ble pc 128 then (bif Nat.beq pc 128 then js_is 2 1 else js_none) else (bif Nat.beq pc 129 then js_il 2 1 else js_none))) else (bif Nat.ble pc 131 then (bif Nat.ble pc 130 then (bif Nat.beq pc 130 then js_c 3 1 else js_none) else (bif Nat.beq pc 131 then js_cge 212 else js_none)) else (bif Nat.beq pc 134 then js_al 0 1 else js_none)))) else (bif Nat.ble pc 148 then (bif Nat.ble pc 142 then (bif Nat.ble pc 138 then (bif Nat.ble pc 135 then (bif Nat.beq pc 135 then js_getf 0 3 else js_none) else (bif Nat.beq pc 138 then js_getf 7 4 else js_none)) else (bif Nat.ble pc 141 then (bif Nat.beq pc 141 then js_il 2 1 else js_none) else (bif Nat.beq pc 142 then js_ald else js_none))) else (bif Nat.ble pc 144 then (bif Nat.ble pc 143 then (bif Nat.beq pc 143 then js_is 3 1 else js_none) else (bif Nat.beq pc 144 then js_il 3 1 else js_none)) else (bif Nat.ble pc 145 then (bif Nat.beq pc 145 then js_ifeq 206 else js_none) else (bif Nat.beq pc 148 then js_al 0 1 else js_none)))) else (bif Nat.ble pc 155 then (bif Nat.ble pc 152 then (bif Nat.ble pc 149 then (bif Nat.beq pc 149 then js_getf 0 4 else js_none) else (bif Nat.beq pc 152 then js_c 0 1 else js_none)) else (bif Nat.ble pc 153 then (bif Nat.beq pc 153 then js_c 8 2 else js_none) else (bif Nat.beq pc 155 then js_il 2 1 else js_none))) else (bif Nat.ble pc 157 then (bif Nat.ble pc 156 then (bif Nat.beq pc 156 then js_iadd else js_none) else (bif Nat.beq pc 157 then js_ast else js_none)) else (bif Nat.beq pc 158 then js_al 0 1 else js_none))))) else (bif Nat.ble pc 185 then (bif Nat.ble pc 174 then (bif Nat.ble pc 166 then (bif Nat.ble pc 162 then (bif Nat.ble pc 159 then (bif Nat.beq pc 159 then js_getf 0 1 else js_none) else (bif Nat.beq pc 162 then js_il 2 1 else js_none)) else (bif Nat.ble pc 163 then (bif Nat.beq pc 163 then js_s1 27 else js_none) else (bif Nat.beq pc 166 then js_il 3 1 else js_none))) else (bif Nat.ble pc 168 then (bif Nat.ble pc 167 then (bif Nat.beq pc 167 then js_al 0 1 else js_none) else (bif Nat.beq pc 168 then js_getf 0 3 else js_none)) else (bif Nat.ble pc 171 then (bif Nat.beq pc 171 then js_getf 7 5 else js_none) else (bif Nat.beq pc 174 then js_il 2 1 else js_none)))) else (bif Nat.ble pc 180 then (bif Nat.ble pc 176 then (bif Nat.ble pc 175 then (bif Nat.beq pc 175 then js_ald else js_none) else (bif Nat.beq pc 176 then js_al 0 1 else js_none)) else (bif Nat.ble pc 177 then (bif Nat.beq pc 177 then js_getf 0 4 else js_none) else (bif Nat.beq pc 180 then js_il 1 1 else js_none))) else (bif Nat.ble pc 184 then (bif Nat.ble pc 181 then (bif Nat.beq pc 181 then js_v5 2 35 else js_none) else (bif Nat.beq pc 184 then js_al 0 1 else js_none)) else (bif Nat.beq pc 185 then js_getf 0 1 else js_none)))) else (bif Nat.ble pc 198 then (bif Nat.ble pc 195 then (bif Nat.ble pc 191 then (bif Nat.ble pc 188 then (bif Nat.beq pc 188 then js_getf 2 13 else js_none) else (bif Nat.beq pc 191 then js_ifeq 196 else js_none)) else (bif Nat.ble pc 194 then (bif Nat.beq pc 194 then js_c 0 1 else js_none) else (bif Nat.beq pc 195 then js_zr else js_none))) else (bif Nat.ble pc 197 then (bif Nat.ble pc 196 then (bif Nat.beq pc 196 then js_il 1 1 else js_none) else (bif Nat.beq pc 197 then js_al 0 1 else js_none)) else (bif Nat.beq pc 198 then js_getf 0 1 else js_none))) else (bif Nat.ble pc 206 then (bif Nat.ble pc 204 then (bif Nat.ble pc 201 then (bif Nat.beq pc 201 then js_getf 2 12 else js_none) else (bif Nat.beq pc 204 then js_isub else js_none)) else (bif Nat.ble pc 205 then (bif Nat.beq pc 205 then js_is 1 1 else js_none) else (bif Nat.beq pc 206 then js_inc 2 1 else js_none))) else (bif Nat.ble pc 212 then (bif Nat.ble pc 209 then (bif Nat.beq pc 209 then js_go 129 else js_none) else (bif Nat.beq pc 212 then js_c 1 1 else js_none)) else (bif Nat.beq pc 213 then js_zr else js_none))))))
theorem jk_29_0 : jx_Snd 29 0 (js_al 0 1) := jo_aload_n (i := 0) (w := 0) rfl jd_29_0
theorem jk_29_1 : jx_Snd 29 1 (js_v0 0 30) := jo_v0 rfl jok_30 (Or.inl jw_394) jw_395 jw_712 rfl jd_29_1
theorem jk_29_4 : jx_Snd 29 4 (js_al 0 1) := jo_aload_n (i := 0) (w := 0) rfl jd_29_4
theorem jk_29_5 : jx_Snd 29 5 (js_getf 0 3) := jo_getf rfl jf_0_35 jd_29_5
theorem jk_29_8 : jx_Snd 29 8 (js_getf 7 10) := jo_getf rfl jf_0_226 jd_29_8
theorem jk_29_11 : jx_Snd 29 11 (js_is 1 1) := jo_istore_n (i := 1) (w := 1) rfl (Nat.le_of_ble_eq_true rfl) jd_29_11
theorem jk_29_12 : jx_Snd 29 12 (js_c 0 1) := jo_iconst (z := 0) jd_29_12 rfl
theorem jk_29_13 : jx_Snd 29 13 (js_is 2 1) := jo_istore_n (i := 2) (w := 2) rfl (Nat.le_of_ble_eq_true rfl) jd_29_13
theorem jk_29_14 : jx_Snd 29 14 (js_il 2 1) := jo_iload_n (i := 2) (w := 2) rfl jd_29_14
theorem jk_29_15 : jx_Snd 29 15 (js_al 0 1) := jo_aload_n (i := 0) (w := 0) rfl jd_29_15
theorem jk_29_16 : jx_Snd 29 16 (js_getf 0 3) := jo_getf rfl jf_0_35 jd_29_16
theorem jk_29_19 : jx_Snd 29 19 (js_getf 7 2) := jo_getf rfl jf_0_90 jd_29_19
theorem jk_29_22 : jx_Snd 29 22 (js_cge 127) := jo_cge (o := 105) rfl jd_29_22
theorem jk_29_25 : jx_Snd 29 25 (js_al 0 1) := jo_aload_n (i := 0) (w := 0) rfl jd_29_25
theorem jk_29_26 : jx_Snd 29 26 (js_getf 0 3) := jo_getf rfl jf_0_35 jd_29_26
theorem jk_29_29 : jx_Snd 29 29 (js_getf 7 0) := jo_getf rfl jf_0_208 jd_29_29
theorem jk_29_32 : jx_Snd 29 32 (js_il 2 1) := jo_iload_n (i := 2) (w := 2) rfl jd_29_32
theorem jk_29_33 : jx_Snd 29 33 (js_ald) := jo_ald jd_29_33
theorem jk_29_34 : jx_Snd 29 34 (js_is 3 1) := jo_istore_n (i := 3) (w := 3) rfl (Nat.le_of_ble_eq_true rfl) jd_29_34
theorem jk_29_35 : jx_Snd 29 35 (js_al 0 1) := jo_aload_n (i := 0) (w := 0) rfl jd_29_35
theorem jk_29_36 : jx_Snd 29 36 (js_getf 0 2) := jo_getf rfl jf_0_28 jd_29_36
theorem jk_29_39 : jx_Snd 29 39 (js_getf 5 0) := jo_getf rfl jf_0_153 jd_29_39
theorem jk_29_42 : jx_Snd 29 42 (js_getf 6 0) := jo_getf rfl jf_0_162 jd_29_42
theorem jk_29_45 : jx_Snd 29 45 (js_il 3 1) := jo_iload_n (i := 3) (w := 3) rfl jd_29_45
theorem jk_29_46 : jx_Snd 29 46 (js_ald) := jo_ald jd_29_46
theorem jk_29_47 : jx_Snd 29 47 (js_is 4 2) := jo_istore (i := 4) (Nat.le_of_ble_eq_true rfl) jd_29_47
theorem jk_29_49 : jx_Snd 29 49 (js_il 4 2) := jo_iload (i := 4) jd_29_49
theorem jk_29_51 : jx_Snd 29 51 (js_c 4 1) := jo_iconst (z := 4) jd_29_51 rfl
theorem jk_29_52 : jx_Snd 29 52 (js_clt 121) := jo_clt (o := 69) rfl jd_29_52
theorem jk_29_55 : jx_Snd 29 55 (js_al 0 1) := jo_aload_n (i := 0) (w := 0) rfl jd_29_55
theorem jk_29_56 : jx_Snd 29 56 (js_getf 0 4) := jo_getf rfl jf_0_39 jd_29_56
theorem jk_29_59 : jx_Snd 29 59 (js_c 0 1) := jo_iconst (z := 0) jd_29_59 rfl
theorem jk_29_60 : jx_Snd 29 60 (js_il 2 1) := jo_iload_n (i := 2) (w := 2) rfl jd_29_60
theorem jk_29_61 : jx_Snd 29 61 (js_ast) := jo_ast jd_29_61
theorem jk_29_62 : jx_Snd 29 62 (js_al 0 1) := jo_aload_n (i := 0) (w := 0) rfl jd_29_62
theorem jk_29_63 : jx_Snd 29 63 (js_getf 0 1) := jo_getf rfl jf_0_19 jd_29_63
theorem jk_29_66 : jx_Snd 29 66 (js_il 4 2) := jo_iload (i := 4) jd_29_66
theorem jk_29_68 : jx_Snd 29 68 (js_c 4 1) := jo_iconst (z := 4) jd_29_68 rfl
theorem jk_29_69 : jx_Snd 29 69 (js_isub) := jo_isub jd_29_69
theorem jk_29_70 : jx_Snd 29 70 (js_al 0 1) := jo_aload_n (i := 0) (w := 0) rfl jd_29_70
theorem jk_29_71 : jx_Snd 29 71 (js_getf 0 2) := jo_getf rfl jf_0_28 jd_29_71
theorem jk_29_74 : jx_Snd 29 74 (js_getf 5 0) := jo_getf rfl jf_0_153 jd_29_74
theorem jk_29_77 : jx_Snd 29 77 (js_getf 6 1) := jo_getf rfl jf_0_165 jd_29_77
theorem jk_29_80 : jx_Snd 29 80 (js_il 3 1) := jo_iload_n (i := 3) (w := 3) rfl jd_29_80
theorem jk_29_81 : jx_Snd 29 81 (js_ald) := jo_ald jd_29_81
theorem jk_29_82 : jx_Snd 29 82 (js_al 0 1) := jo_aload_n (i := 0) (w := 0) rfl jd_29_82
theorem jk_29_83 : jx_Snd 29 83 (js_getf 0 3) := jo_getf rfl jf_0_35 jd_29_83
theorem jk_29_86 : jx_Snd 29 86 (js_getf 7 1) := jo_getf rfl jf_0_229 jd_29_86
theorem jk_29_89 : jx_Snd 29 89 (js_il 2 1) := jo_iload_n (i := 2) (w := 2) rfl jd_29_89
theorem jk_29_90 : jx_Snd 29 90 (js_ald) := jo_ald jd_29_90
theorem jk_29_91 : jx_Snd 29 91 (js_al 0 1) := jo_aload_n (i := 0) (w := 0) rfl jd_29_91
theorem jk_29_92 : jx_Snd 29 92 (js_getf 0 4) := jo_getf rfl jf_0_39 jd_29_92
theorem jk_29_95 : jx_Snd 29 95 (js_il 1 1) := jo_iload_n (i := 1) (w := 1) rfl jd_29_95
theorem jk_29_96 : jx_Snd 29 96 (js_v5 2 35) := jo_v5 rfl jok_35 (Or.inl jw_202) jw_203 jw_204 rfl jd_29_96
theorem jk_29_99 : jx_Snd 29 99 (js_al 0 1) := jo_aload_n (i := 0) (w := 0) rfl jd_29_99
theorem jk_29_100 : jx_Snd 29 100 (js_getf 0 1) := jo_getf rfl jf_0_19 jd_29_100
theorem jk_29_103 : jx_Snd 29 103 (js_getf 2 13) := jo_getf rfl jf_0_75 jd_29_103
theorem jk_29_106 : jx_Snd 29 106 (js_ifeq 111) := jo_ifeq (o := 5) rfl jd_29_106
theorem jk_29_109 : jx_Snd 29 109 (js_c 0 1) := jo_iconst (z := 0) jd_29_109 rfl
theorem jk_29_110 : jx_Snd 29 110 (js_zr) := jo_zr rfl jd_29_110
theorem jk_29_111 : jx_Snd 29 111 (js_il 1 1) := jo_iload_n (i := 1) (w := 1) rfl jd_29_111
theorem jk_29_112 : jx_Snd 29 112 (js_al 0 1) := jo_aload_n (i := 0) (w := 0) rfl jd_29_112
theorem jk_29_113 : jx_Snd 29 113 (js_getf 0 1) := jo_getf rfl jf_0_19 jd_29_113
theorem jk_29_116 : jx_Snd 29 116 (js_getf 2 12) := jo_getf rfl jf_0_78 jd_29_116
theorem jk_29_119 : jx_Snd 29 119 (js_isub) := jo_isub jd_29_119
theorem jk_29_120 : jx_Snd 29 120 (js_is 1 1) := jo_istore_n (i := 1) (w := 1) rfl (Nat.le_of_ble_eq_true rfl) jd_29_120
theorem jk_29_121 : jx_Snd 29 121 (js_inc 2 1) := jo_iinc (w := 1) rfl (Nat.le_of_ble_eq_true rfl) jd_29_121
theorem jk_29_124 : jx_Snd 29 124 (js_go 14) := jo_goto (o := (-110)) rfl jd_29_124
theorem jk_29_127 : jx_Snd 29 127 (js_c 1 1) := jo_iconst (z := 1) jd_29_127 rfl
theorem jk_29_128 : jx_Snd 29 128 (js_is 2 1) := jo_istore_n (i := 2) (w := 2) rfl (Nat.le_of_ble_eq_true rfl) jd_29_128
theorem jk_29_129 : jx_Snd 29 129 (js_il 2 1) := jo_iload_n (i := 2) (w := 2) rfl jd_29_129
theorem jk_29_130 : jx_Snd 29 130 (js_c 3 1) := jo_iconst (z := 3) jd_29_130 rfl
theorem jk_29_131 : jx_Snd 29 131 (js_cge 212) := jo_cge (o := 81) rfl jd_29_131
theorem jk_29_134 : jx_Snd 29 134 (js_al 0 1) := jo_aload_n (i := 0) (w := 0) rfl jd_29_134
theorem jk_29_135 : jx_Snd 29 135 (js_getf 0 3) := jo_getf rfl jf_0_35 jd_29_135
theorem jk_29_138 : jx_Snd 29 138 (js_getf 7 4) := jo_getf rfl jf_0_118 jd_29_138
theorem jk_29_141 : jx_Snd 29 141 (js_il 2 1) := jo_iload_n (i := 2) (w := 2) rfl jd_29_141
theorem jk_29_142 : jx_Snd 29 142 (js_ald) := jo_ald jd_29_142
theorem jk_29_143 : jx_Snd 29 143 (js_is 3 1) := jo_istore_n (i := 3) (w := 3) rfl (Nat.le_of_ble_eq_true rfl) jd_29_143
theorem jk_29_144 : jx_Snd 29 144 (js_il 3 1) := jo_iload_n (i := 3) (w := 3) rfl jd_29_144
theorem jk_29_145 : jx_Snd 29 145 (js_ifeq 206) := jo_ifeq (o := 61) rfl jd_29_145
theorem jk_29_148 : jx_Snd 29 148 (js_al 0 1) := jo_aload_n (i := 0) (w := 0) rfl jd_29_148
theorem jk_29_149 : jx_Snd 29 149 (js_getf 0 4) := jo_getf rfl jf_0_39 jd_29_149
theorem jk_29_152 : jx_Snd 29 152 (js_c 0 1) := jo_iconst (z := 0) jd_29_152 rfl
theorem jk_29_153 : jx_Snd 29 153 (js_c 8 2) := jo_bipush (z := 8) jd_29_153 (by decide +kernel)
theorem jk_29_155 : jx_Snd 29 155 (js_il 2 1) := jo_iload_n (i := 2) (w := 2) rfl jd_29_155
theorem jk_29_156 : jx_Snd 29 156 (js_iadd) := jo_iadd jd_29_156
theorem jk_29_157 : jx_Snd 29 157 (js_ast) := jo_ast jd_29_157
theorem jk_29_158 : jx_Snd 29 158 (js_al 0 1) := jo_aload_n (i := 0) (w := 0) rfl jd_29_158
theorem jk_29_159 : jx_Snd 29 159 (js_getf 0 1) := jo_getf rfl jf_0_19 jd_29_159
theorem jk_29_162 : jx_Snd 29 162 (js_il 2 1) := jo_iload_n (i := 2) (w := 2) rfl jd_29_162
theorem jk_29_163 : jx_Snd 29 163 (js_s1 27) := jo_s1 rfl jok_27 (Or.inl jw_382) jw_383 jd_29_163
theorem jk_29_166 : jx_Snd 29 166 (js_il 3 1) := jo_iload_n (i := 3) (w := 3) rfl jd_29_166
theorem jk_29_167 : jx_Snd 29 167 (js_al 0 1) := jo_aload_n (i := 0) (w := 0) rfl jd_29_167
theorem jk_29_168 : jx_Snd 29 168 (js_getf 0 3) := jo_getf rfl jf_0_35 jd_29_168
theorem jk_29_171 : jx_Snd 29 171 (js_getf 7 5) := jo_getf rfl jf_0_121 jd_29_171
theorem jk_29_174 : jx_Snd 29 174 (js_il 2 1) := jo_iload_n (i := 2) (w := 2) rfl jd_29_174
theorem jk_29_175 : jx_Snd 29 175 (js_ald) := jo_ald jd_29_175
theorem jk_29_176 : jx_Snd 29 176 (js_al 0 1) := jo_aload_n (i := 0) (w := 0) rfl jd_29_176
theorem jk_29_177 : jx_Snd 29 177 (js_getf 0 4) := jo_getf rfl jf_0_39 jd_29_177
theorem jk_29_180 : jx_Snd 29 180 (js_il 1 1) := jo_iload_n (i := 1) (w := 1) rfl jd_29_180
theorem jk_29_181 : jx_Snd 29 181 (js_v5 2 35) := jo_v5 rfl jok_35 (Or.inl jw_202) jw_203 jw_204 rfl jd_29_181
theorem jk_29_184 : jx_Snd 29 184 (js_al 0 1) := jo_aload_n (i := 0) (w := 0) rfl jd_29_184
theorem jk_29_185 : jx_Snd 29 185 (js_getf 0 1) := jo_getf rfl jf_0_19 jd_29_185
theorem jk_29_188 : jx_Snd 29 188 (js_getf 2 13) := jo_getf rfl jf_0_75 jd_29_188
theorem jk_29_191 : jx_Snd 29 191 (js_ifeq 196) := jo_ifeq (o := 5) rfl jd_29_191
theorem jk_29_194 : jx_Snd 29 194 (js_c 0 1) := jo_iconst (z := 0) jd_29_194 rfl
theorem jk_29_195 : jx_Snd 29 195 (js_zr) := jo_zr rfl jd_29_195
theorem jk_29_196 : jx_Snd 29 196 (js_il 1 1) := jo_iload_n (i := 1) (w := 1) rfl jd_29_196
theorem jk_29_197 : jx_Snd 29 197 (js_al 0 1) := jo_aload_n (i := 0) (w := 0) rfl jd_29_197
theorem jk_29_198 : jx_Snd 29 198 (js_getf 0 1) := jo_getf rfl jf_0_19 jd_29_198
theorem jk_29_201 : jx_Snd 29 201 (js_getf 2 12) := jo_getf rfl jf_0_78 jd_29_201
theorem jk_29_204 : jx_Snd 29 204 (js_isub) := jo_isub jd_29_204
theorem jk_29_205 : jx_Snd 29 205 (js_is 1 1) := jo_istore_n (i := 1) (w := 1) rfl (Nat.le_of_ble_eq_true rfl) jd_29_205
theorem jk_29_206 : jx_Snd 29 206 (js_inc 2 1) := jo_iinc (w := 1) rfl (Nat.le_of_ble_eq_true rfl) jd_29_206
theorem jk_29_209 : jx_Snd 29 209 (js_go 129) := jo_goto (o := (-80)) rfl jd_29_209
theorem jk_29_212 : jx_Snd 29 212 (js_c 1 1) := jo_iconst (z := 1) jd_29_212 rfl
theorem jk_29_213 : jx_Snd 29 213 (js_zr) := jo_zr rfl jd_29_213
theorem jk_29 : jx_So 29 jt_29 := fun pc => jo_le (jo_le (jo_le (jo_le (jo_le (jo_le (jo_le (jo_at (jk_29_0)) (jo_at (jk_29_1))) (jo_le (jo_at (jk_29_4)) (jo_at (jk_29_5)))) (jo_le (jo_le (jo_at (jk_29_8)) (jo_at (jk_29_11))) (jo_le (jo_at (jk_29_12)) (jo_at (jk_29_13))))) (jo_le (jo_le (jo_le (jo_at (jk_29_14)) (jo_at (jk_29_15))) (jo_le (jo_at (jk_29_16)) (jo_at (jk_29_19)))) (jo_le (jo_le (jo_at (jk_29_22)) (jo_at (jk_29_25))) (jo_at (jk_29_26))))) (jo_le (jo_le (jo_le (jo_le (jo_at (jk_29_29)) (jo_at (jk_29_32))) (jo_le (jo_at (jk_29_33)) (jo_at (jk_29_34)))) (jo_le (jo_le (jo_at (jk_29_35)) (jo_at (jk_29_36))) (jo_le (jo_at (jk_29_39)) (jo_at (jk_29_42))))) (jo_le (jo_le (jo_le (jo_at (jk_29_45)) (jo_at (jk_29_46))) (jo_le (jo_at (jk_29_47)) (jo_at (jk_29_49)))) (jo_le (jo_le (jo_at (jk_29_51)) (jo_at (jk_29_52))) (jo_at (jk_29_55)))))) (jo_le (jo_le (jo_le (jo_le (jo_le (jo_at (jk_29_56)) (jo_at (jk_29_59))) (jo_le (jo_at (jk_29_60)) (jo_at (jk_29_61)))) (jo_le (jo_le (jo_at (jk_29_62)) (jo_at (jk_29_63))) (jo_le (jo_at (jk_29_66)) (jo_at (jk_29_68))))) (jo_le (jo_le (jo_le (jo_at (jk_29_69)) (jo_at (jk_29_70))) (jo_le (jo_at (jk_29_71)) (jo_at (jk_29_74)))) (jo_le (jo_le (jo_at (jk_29_77)) (jo_at (jk_29_80))) (jo_at (jk_29_81))))) (jo_le (jo_le (jo_le (jo_le (jo_at (jk_29_82)) (jo_at (jk_29_83))) (jo_le (jo_at (jk_29_86)) (jo_at (jk_29_89)))) (jo_le (jo_le (jo_at (jk_29_90)) (jo_at (jk_29_91))) (jo_at (jk_29_92)))) (jo_le (jo_le (jo_le (jo_at (jk_29_95)) (jo_at (jk_29_96))) (jo_le (jo_at (jk_29_99)) (jo_at (jk_29_100)))) (jo_le (jo_le (jo_at (jk_29_103)) (jo_at (jk_29_106))) (jo_at (jk_29_109))))))) (jo_le (jo_le (jo_le (jo_le (jo_le (jo_le (jo_at (jk_29_110)) (jo_at (jk_29_111))) (jo_le (jo_at (jk_29_112)) (jo_at (jk_29_113)))) (jo_le (jo_le (jo_at (jk_29_116)) (jo_at (jk_29_119))) (jo_le (jo_at (jk_29_120)) (jo_at (jk_29_121))))) (jo_le (jo_le (jo_le (jo_at (jk_29_124)) (jo_at (jk_29_127))) (jo_le (jo_at (jk_29_128)) (jo_at (jk_29_129)))) (jo_le (jo_le (jo_at (jk_29_130)) (jo_at (jk_29_131))) (jo_at (jk_29_134))))) (jo_le (jo_le (jo_le (jo_le (jo_at (jk_29_135)) (jo_at (jk_29_138))) (jo_le (jo_at (jk_29_141)) (jo_at (jk_29_142)))) (jo_le (jo_le (jo_at (jk_29_143)) (jo_at (jk_29_144))) (jo_le (jo_at (jk_29_145)) (jo_at (jk_29_148))))) (jo_le (jo_le (jo_le (jo_at (jk_29_149)) (jo_at (jk_29_152))) (jo_le (jo_at (jk_29_153)) (jo_at (jk_29_155)))) (jo_le (jo_le (jo_at (jk_29_156)) (jo_at (jk_29_157))) (jo_at (jk_29_158)))))) (jo_le (jo_le (jo_le (jo_le (jo_le (jo_at (jk_29_159)) (jo_at (jk_29_162))) (jo_le (jo_at (jk_29_163)) (jo_at (jk_29_166)))) (jo_le (jo_le (jo_at (jk_29_167)) (jo_at (jk_29_168))) (jo_le (jo_at (jk_29_171)) (jo_at (jk_29_174))))) (jo_le (jo_le (jo_le (jo_at (jk_29_175)) (jo_at (jk_29_176))) (jo_le (jo_at (jk_29_177)) (jo_at (jk_29_180)))) (jo_le (jo_le (jo_at (jk_29_181)) (jo_at (jk_29_184))) (jo_at (jk_29_185))))) (jo_le (jo_le (jo_le (jo_le (jo_at (jk_29_188)) (jo_at (jk_29_191))) (jo_le (jo_at (jk_29_194)) (jo_at (jk_29_195)))) (jo_le (jo_le (jo_at (jk_29_196)) (jo_at (jk_29_197))) (jo_at (jk_29_198)))) (jo_le (jo_le (jo_le (jo_at (jk_29_201)) (jo_at (jk_29_204))) (jo_le (jo_at (jk_29_205)) (jo_at (jk_29_206)))) (jo_le (jo_le (jo_at (jk_29_209)) (jo_at (jk_29_212))) (jo_at (jk_29_213)))))))
theorem ji_29 {l : Launch} {D : va_G} {cA : ClassId} {ρ : Nat → Nat} {Λ : List jx_Lc} {d : Nat} {Q : Option Value → jx_St → Prop} {σ : jx_St} {z0 : Nat} (h : jt_29 0 Λ jx_tb0 (jx_rn Λ jx_tb0 jt_29 (fun k' as σ K => jx_C l D cA ρ Λ d k' as σ K) Q (jx_J l D cA ρ Λ (jx_A ρ Λ) jx_tb0 (d + 1) 29 Q) [] 400) (fun k' as σ K => jx_C l D cA ρ Λ d k' as σ K) Q 0 [(0, .ref z0)] [] σ) : jx_C l D cA ρ Λ (d + 1) 29 [.ref z0] σ Q := jx_in jk_29 400 [] rfl (Nat.le_of_ble_eq_true rfl) h
/-! ScriptLedger.fillContext()V -/
theorem jd_30_0 : decode prog_1_method_31_code 0 = .ok (.aload_n 0, 1) := by decide +kernel
theorem jd_30_1 : decode prog_1_method_31_code 1 = .ok (.getfield 39, 3) := by decide +kernel
theorem jd_30_4 : decode prog_1_method_31_code 4 = .ok (.iconst 1, 1) := by decide +kernel
theorem jd_30_5 : decode prog_1_method_31_code 5 = .ok (.aload_n 0, 1) := by decide +kernel
theorem jd_30_6 : decode prog_1_method_31_code 6 = .ok (.getfield 35, 3) := by decide +kernel
theorem jd_30_9 : decode prog_1_method_31_code 9 = .ok (.getfield 181, 3) := by decide +kernel
theorem jd_30_12 : decode prog_1_method_31_code 12 = .ok (.iastore, 1) := by decide +kernel
theorem jd_30_13 : decode prog_1_method_31_code 13 = .ok (.aload_n 0, 1) := by decide +kernel
theorem jd_30_14 : decode prog_1_method_31_code 14 = .ok (.getfield 39, 3) := by decide +kernel
theorem jd_30_17 : decode prog_1_method_31_code 17 = .ok (.iconst 2, 1) := by decide +kernel
theorem jd_30_18 : decode prog_1_method_31_code 18 = .ok (.aload_n 0, 1) := by decide +kernel
theorem jd_30_19 : decode prog_1_method_31_code 19 = .ok (.getfield 35, 3) := by decide +kernel
theorem jd_30_22 : decode prog_1_method_31_code 22 = .ok (.getfield 184, 3) := by decide +kernel
theorem jd_30_25 : decode prog_1_method_31_code 25 = .ok (.iastore, 1) := by decide +kernel
theorem jd_30_26 : decode prog_1_method_31_code 26 = .ok (.aload_n 0, 1) := by decide +kernel
theorem jd_30_27 : decode prog_1_method_31_code 27 = .ok (.getfield 39, 3) := by decide +kernel
theorem jd_30_30 : decode prog_1_method_31_code 30 = .ok (.iconst 3, 1) := by decide +kernel
theorem jd_30_31 : decode prog_1_method_31_code 31 = .ok (.aload_n 0, 1) := by decide +kernel
theorem jd_30_32 : decode prog_1_method_31_code 32 = .ok (.getfield 35, 3) := by decide +kernel
theorem jd_30_35 : decode prog_1_method_31_code 35 = .ok (.getfield 187, 3) := by decide +kernel
theorem jd_30_38 : decode prog_1_method_31_code 38 = .ok (.iastore, 1) := by decide +kernel
theorem jd_30_39 : decode prog_1_method_31_code 39 = .ok (.aload_n 0, 1) := by decide +kernel
theorem jd_30_40 : decode prog_1_method_31_code 40 = .ok (.getfield 39, 3) := by decide +kernel
theorem jd_30_43 : decode prog_1_method_31_code 43 = .ok (.iconst 4, 1) := by decide +kernel
theorem jd_30_44 : decode prog_1_method_31_code 44 = .ok (.aload_n 0, 1) := by decide +kernel
theorem jd_30_45 : decode prog_1_method_31_code 45 = .ok (.getfield 35, 3) := by decide +kernel
theorem jd_30_48 : decode prog_1_method_31_code 48 = .ok (.getfield 232, 3) := by decide +kernel
theorem jd_30_51 : decode prog_1_method_31_code 51 = .ok (.iastore, 1) := by decide +kernel
theorem jd_30_52 : decode prog_1_method_31_code 52 = .ok (.aload_n 0, 1) := by decide +kernel
theorem jd_30_53 : decode prog_1_method_31_code 53 = .ok (.getfield 39, 3) := by decide +kernel
theorem jd_30_56 : decode prog_1_method_31_code 56 = .ok (.iconst 5, 1) := by decide +kernel
theorem jd_30_57 : decode prog_1_method_31_code 57 = .ok (.aload_n 0, 1) := by decide +kernel
theorem jd_30_58 : decode prog_1_method_31_code 58 = .ok (.getfield 35, 3) := by decide +kernel
theorem jd_30_61 : decode prog_1_method_31_code 61 = .ok (.getfield 90, 3) := by decide +kernel
theorem jd_30_64 : decode prog_1_method_31_code 64 = .ok (.iastore, 1) := by decide +kernel
theorem jd_30_65 : decode prog_1_method_31_code 65 = .ok (.aload_n 0, 1) := by decide +kernel
theorem jd_30_66 : decode prog_1_method_31_code 66 = .ok (.getfield 39, 3) := by decide +kernel
theorem jd_30_69 : decode prog_1_method_31_code 69 = .ok (.bipush 6, 2) := by decide +kernel
theorem jd_30_71 : decode prog_1_method_31_code 71 = .ok (.aload_n 0, 1) := by decide +kernel
theorem jd_30_72 : decode prog_1_method_31_code 72 = .ok (.getfield 35, 3) := by decide +kernel
theorem jd_30_75 : decode prog_1_method_31_code 75 = .ok (.getfield 100, 3) := by decide +kernel
theorem jd_30_78 : decode prog_1_method_31_code 78 = .ok (.getfield 156, 3) := by decide +kernel
theorem jd_30_81 : decode prog_1_method_31_code 81 = .ok (.iastore, 1) := by decide +kernel
theorem jd_30_82 : decode prog_1_method_31_code 82 = .ok (.aload_n 0, 1) := by decide +kernel
theorem jd_30_83 : decode prog_1_method_31_code 83 = .ok (.getfield 39, 3) := by decide +kernel
theorem jd_30_86 : decode prog_1_method_31_code 86 = .ok (.bipush 7, 2) := by decide +kernel
theorem jd_30_88 : decode prog_1_method_31_code 88 = .ok (.aload_n 0, 1) := by decide +kernel
theorem jd_30_89 : decode prog_1_method_31_code 89 = .ok (.getfield 35, 3) := by decide +kernel
theorem jd_30_92 : decode prog_1_method_31_code 92 = .ok (.getfield 118, 3) := by decide +kernel
theorem jd_30_95 : decode prog_1_method_31_code 95 = .ok (.iconst 1, 1) := by decide +kernel
theorem jd_30_96 : decode prog_1_method_31_code 96 = .ok (.iaload, 1) := by decide +kernel
theorem jd_30_97 : decode prog_1_method_31_code 97 = .ok (.iastore, 1) := by decide +kernel
theorem jd_30_98 : decode prog_1_method_31_code 98 = .ok (.aload_n 0, 1) := by decide +kernel
theorem jd_30_99 : decode prog_1_method_31_code 99 = .ok (.getfield 39, 3) := by decide +kernel
theorem jd_30_102 : decode prog_1_method_31_code 102 = .ok (.bipush 8, 2) := by decide +kernel
theorem jd_30_104 : decode prog_1_method_31_code 104 = .ok (.aload_n 0, 1) := by decide +kernel
theorem jd_30_105 : decode prog_1_method_31_code 105 = .ok (.getfield 35, 3) := by decide +kernel
theorem jd_30_108 : decode prog_1_method_31_code 108 = .ok (.getfield 118, 3) := by decide +kernel
theorem jd_30_111 : decode prog_1_method_31_code 111 = .ok (.iconst 2, 1) := by decide +kernel
theorem jd_30_112 : decode prog_1_method_31_code 112 = .ok (.iaload, 1) := by decide +kernel
theorem jd_30_113 : decode prog_1_method_31_code 113 = .ok (.iastore, 1) := by decide +kernel
theorem jd_30_114 : decode prog_1_method_31_code 114 = .ok (.aload_n 0, 1) := by decide +kernel
theorem jd_30_115 : decode prog_1_method_31_code 115 = .ok (.getfield 39, 3) := by decide +kernel
theorem jd_30_118 : decode prog_1_method_31_code 118 = .ok (.bipush 9, 2) := by decide +kernel
theorem jd_30_120 : decode prog_1_method_31_code 120 = .ok (.aload_n 0, 1) := by decide +kernel
theorem jd_30_121 : decode prog_1_method_31_code 121 = .ok (.iconst 0, 1) := by decide +kernel
theorem jd_30_122 : decode prog_1_method_31_code 122 = .ok (.invokevirtual 211, 3) := by decide +kernel
theorem jd_30_125 : decode prog_1_method_31_code 125 = .ok (.iastore, 1) := by decide +kernel
theorem jd_30_126 : decode prog_1_method_31_code 126 = .ok (.return_, 1) := by decide +kernel
def jt_30 (pc : Nat) : jx_Sp := bif Nat.ble pc 64 then (bif Nat.ble pc 31 then (bif Nat.ble pc 14 then (bif Nat.ble pc 6 then (bif Nat.ble pc 4 then (bif Nat.ble pc 1 then (bif Nat.ble pc 0 then (bif Nat.beq pc 0 then js_al 0 1 else js_none) else (bif Nat.beq pc 1 then js_getf 0 4 else js_none)) else (bif Nat.beq pc 4 then js_c 1 1 else js_none)) else (bif Nat.ble pc 5 then (bif Nat.beq pc 5 then js_al 0 1 else js_none) else (bif Nat.beq pc 6 then js_getf 0 3 else js_none))) else (bif Nat.ble pc 12 then (bif Nat.ble pc 9 then (bif Nat.beq pc 9 then js_getf 7 7 else js_none) else (bif Nat.beq pc 12 then js_ast else js_none)) else (bif Nat.ble pc 13 then (bif Nat.beq pc 13 then js_al 0 1 else js_none) else (bif Nat.beq pc 14 then js_getf 0 4 else js_none)))) else (bif Nat.ble pc 25 then (bif Nat.ble pc 19 then (bif Nat.ble pc 18 then (bif Nat.ble pc 17 then (bif Nat.beq pc 17 then js_c 2 1 else js_none) else (bif Nat.beq pc 18 then js_al 0 1 else js_none)) else (bif Nat.beq pc 19 then js_getf 0 3 else js_none)) else (bif Nat.ble pc 22 then (bif Nat.beq pc 22 then js_getf 7 8 else js_none) else (bif Nat.beq pc 25 then js_ast else js_none))) else (bif Nat.ble pc 27 then (bif Nat.ble pc 26 then (bif Nat.beq pc 26 then js_al 0 1 else js_none) else (bif Nat.beq pc 27 then js_getf 0 4 else js_none)) else (bif Nat.ble pc 30 then (bif Nat.beq pc 30 then js_c 3 1 else js_none) else (bif Nat.beq pc 31 then js_al 0 1 else js_none))))) else (bif Nat.ble pc 48 then (bif Nat.ble pc 40 then (bif Nat.ble pc 38 then (bif Nat.ble pc 35 then (bif Nat.ble pc 32 then (bif Nat.beq pc 32 then js_getf 0 3 else js_none) else (bif Nat.beq pc 35 then js_getf 7 6 else js_none)) else (bif Nat.beq pc 38 then js_ast else js_none)) else (bif Nat.ble pc 39 then (bif Nat.beq pc 39 then js_al 0 1 else js_none) else (bif Nat.beq pc 40 then js_getf 0 4 else js_none))) else (bif Nat.ble pc 44 then (bif Nat.ble pc 43 then (bif Nat.beq pc 43 then js_c 4 1 else js_none) else (bif Nat.beq pc 44 then js_al 0 1 else js_none)) else (bif Nat.ble pc 45 then (bif Nat.beq pc 45 then js_getf 0 3 else js_none) else (bif Nat.beq pc 48 then js_getf 7 9 else js_none)))) else (bif Nat.ble pc 56 then (bif Nat.ble pc 52 then (bif Nat.ble pc 51 then (bif Nat.beq pc 51 then js_ast else js_none) else (bif Nat.beq pc 52 then js_al 0 1 else js_none)) else (bif Nat.ble pc 53 then (bif Nat.beq pc 53 then js_getf 0 4 else js_none) else (bif Nat.beq pc 56 then js_c 5 1 else js_none))) else (bif Nat.ble pc 58 then (bif Nat.ble pc 57 then (bif Nat.beq pc 57 then js_al 0 1 else js_none) else (bif Nat.beq pc 58 then js_getf 0 3 else js_none)) else (bif Nat.ble pc 61 then (bif Nat.beq pc 61 then js_getf 7 2 else js_none) else (bif Nat.beq pc 64 then js_ast else js_none)))))) else (bif Nat.ble pc 97 then (bif Nat.ble pc 82 then (bif Nat.ble pc 72 then (bif Nat.ble pc 69 then (bif Nat.ble pc 66 then (bif Nat.ble pc 65 then (bif Nat.beq pc 65 then js_al 0 1 else js_none) else (bif Nat.beq pc 66 then js_getf 0 4 else js_none)) else (bif Nat.beq pc 69 then js_c 6 2 else js_none)) else (bif Nat.ble pc 71 then (bif Nat.beq pc 71 then js_al 0 1 else js_none) else (bif Nat.beq pc 72 then js_getf 0 3 else js_none))) else (bif Nat.ble pc 78 then (bif Nat.ble pc 75 then (bif Nat.beq pc 75 then js_getf 7 3 else js_none) else (bif Nat.beq pc 78 then js_getf 6 3 else js_none)) else (bif Nat.ble pc 81 then (bif Nat.beq pc 81 then js_ast else js_none) else (bif Nat.beq pc 82 then js_al 0 1 else js_none)))) else (bif Nat.ble pc 89 then (bif Nat.ble pc 86 then (bif Nat.ble pc 83 then (bif Nat.beq pc 83 then js_getf 0 4 else js_none) else (bif Nat.beq pc 86 then js_c 7 2 else js_none)) else (bif Nat.ble pc 88 then (bif Nat.beq pc 88 then js_al 0 1 else js_none) else (bif Nat.beq pc 89 then js_getf 0 3 else js_none))) else (bif Nat.ble pc 95 then (bif Nat.ble pc 92 then (bif Nat.beq pc 92 then js_getf 7 4 else js_none) else (bif Nat.beq pc 95 then js_c 1 1 else js_none)) else (bif Nat.ble pc 96 then (bif Nat.beq pc 96 then js_ald else js_none) else (bif Nat.beq pc 97 then js_ast else js_none))))) else (bif Nat.ble pc 113 then (bif Nat.ble pc 105 then (bif Nat.ble pc 102 then (bif Nat.ble pc 99 then (bif Nat.ble pc 98 then (bif Nat.beq pc 98 then js_al 0 1 else js_none) else (bif Nat.beq pc 99 then js_getf 0 4 else js_none)) else (bif Nat.beq pc 102 then js_c 8 2 else js_none)) else (bif Nat.ble pc 104 then (bif Nat.beq pc 104 then js_al 0 1 else js_none) else (bif Nat.beq pc 105 then js_getf 0 3 else js_none))) else (bif Nat.ble pc 111 then (bif Nat.ble pc 108 then (bif Nat.beq pc 108 then js_getf 7 4 else js_none) else (bif Nat.beq pc 111 then js_c 2 1 else js_none)) else (bif Nat.ble pc 112 then (bif Nat.beq pc 112 then js_ald else js_none) else (bif Nat.beq pc 113 then js_ast else js_none)))) else (bif Nat.ble pc 120 then (bif Nat.ble pc 115 then (bif Nat.ble pc 114 then (bif Nat.beq pc 114 then js_al 0 1 else js_none) else (bif Nat.beq pc 115 then js_getf 0 4 else js_none)) else (bif Nat.ble pc 118 then (bif Nat.beq pc 118 then js_c 9 2 else js_none) else (bif Nat.beq pc 120 then js_al 0 1 else js_none))) else (bif Nat.ble pc 122 then (bif Nat.ble pc 121 then (bif Nat.beq pc 121 then js_c 0 1 else js_none) else (bif Nat.beq pc 122 then js_v1 0 23 else js_none)) else (bif Nat.ble pc 125 then (bif Nat.beq pc 125 then js_ast else js_none) else (bif Nat.beq pc 126 then js_vr else js_none))))))
theorem jk_30_0 : jx_Snd 30 0 (js_al 0 1) := jo_aload_n (i := 0) (w := 0) rfl jd_30_0
theorem jk_30_1 : jx_Snd 30 1 (js_getf 0 4) := jo_getf rfl jf_0_39 jd_30_1
theorem jk_30_4 : jx_Snd 30 4 (js_c 1 1) := jo_iconst (z := 1) jd_30_4 rfl
theorem jk_30_5 : jx_Snd 30 5 (js_al 0 1) := jo_aload_n (i := 0) (w := 0) rfl jd_30_5
theorem jk_30_6 : jx_Snd 30 6 (js_getf 0 3) := jo_getf rfl jf_0_35 jd_30_6
theorem jk_30_9 : jx_Snd 30 9 (js_getf 7 7) := jo_getf rfl jf_0_181 jd_30_9
theorem jk_30_12 : jx_Snd 30 12 (js_ast) := jo_ast jd_30_12
theorem jk_30_13 : jx_Snd 30 13 (js_al 0 1) := jo_aload_n (i := 0) (w := 0) rfl jd_30_13
theorem jk_30_14 : jx_Snd 30 14 (js_getf 0 4) := jo_getf rfl jf_0_39 jd_30_14
theorem jk_30_17 : jx_Snd 30 17 (js_c 2 1) := jo_iconst (z := 2) jd_30_17 rfl
theorem jk_30_18 : jx_Snd 30 18 (js_al 0 1) := jo_aload_n (i := 0) (w := 0) rfl jd_30_18
theorem jk_30_19 : jx_Snd 30 19 (js_getf 0 3) := jo_getf rfl jf_0_35 jd_30_19
theorem jk_30_22 : jx_Snd 30 22 (js_getf 7 8) := jo_getf rfl jf_0_184 jd_30_22
theorem jk_30_25 : jx_Snd 30 25 (js_ast) := jo_ast jd_30_25
theorem jk_30_26 : jx_Snd 30 26 (js_al 0 1) := jo_aload_n (i := 0) (w := 0) rfl jd_30_26
theorem jk_30_27 : jx_Snd 30 27 (js_getf 0 4) := jo_getf rfl jf_0_39 jd_30_27
theorem jk_30_30 : jx_Snd 30 30 (js_c 3 1) := jo_iconst (z := 3) jd_30_30 rfl
theorem jk_30_31 : jx_Snd 30 31 (js_al 0 1) := jo_aload_n (i := 0) (w := 0) rfl jd_30_31
theorem jk_30_32 : jx_Snd 30 32 (js_getf 0 3) := jo_getf rfl jf_0_35 jd_30_32
theorem jk_30_35 : jx_Snd 30 35 (js_getf 7 6) := jo_getf rfl jf_0_187 jd_30_35
theorem jk_30_38 : jx_Snd 30 38 (js_ast) := jo_ast jd_30_38
theorem jk_30_39 : jx_Snd 30 39 (js_al 0 1) := jo_aload_n (i := 0) (w := 0) rfl jd_30_39
theorem jk_30_40 : jx_Snd 30 40 (js_getf 0 4) := jo_getf rfl jf_0_39 jd_30_40
theorem jk_30_43 : jx_Snd 30 43 (js_c 4 1) := jo_iconst (z := 4) jd_30_43 rfl
theorem jk_30_44 : jx_Snd 30 44 (js_al 0 1) := jo_aload_n (i := 0) (w := 0) rfl jd_30_44
theorem jk_30_45 : jx_Snd 30 45 (js_getf 0 3) := jo_getf rfl jf_0_35 jd_30_45
theorem jk_30_48 : jx_Snd 30 48 (js_getf 7 9) := jo_getf rfl jf_0_232 jd_30_48
theorem jk_30_51 : jx_Snd 30 51 (js_ast) := jo_ast jd_30_51
theorem jk_30_52 : jx_Snd 30 52 (js_al 0 1) := jo_aload_n (i := 0) (w := 0) rfl jd_30_52
theorem jk_30_53 : jx_Snd 30 53 (js_getf 0 4) := jo_getf rfl jf_0_39 jd_30_53
theorem jk_30_56 : jx_Snd 30 56 (js_c 5 1) := jo_iconst (z := 5) jd_30_56 rfl
theorem jk_30_57 : jx_Snd 30 57 (js_al 0 1) := jo_aload_n (i := 0) (w := 0) rfl jd_30_57
theorem jk_30_58 : jx_Snd 30 58 (js_getf 0 3) := jo_getf rfl jf_0_35 jd_30_58
theorem jk_30_61 : jx_Snd 30 61 (js_getf 7 2) := jo_getf rfl jf_0_90 jd_30_61
theorem jk_30_64 : jx_Snd 30 64 (js_ast) := jo_ast jd_30_64
theorem jk_30_65 : jx_Snd 30 65 (js_al 0 1) := jo_aload_n (i := 0) (w := 0) rfl jd_30_65
theorem jk_30_66 : jx_Snd 30 66 (js_getf 0 4) := jo_getf rfl jf_0_39 jd_30_66
theorem jk_30_69 : jx_Snd 30 69 (js_c 6 2) := jo_bipush (z := 6) jd_30_69 (by decide +kernel)
theorem jk_30_71 : jx_Snd 30 71 (js_al 0 1) := jo_aload_n (i := 0) (w := 0) rfl jd_30_71
theorem jk_30_72 : jx_Snd 30 72 (js_getf 0 3) := jo_getf rfl jf_0_35 jd_30_72
theorem jk_30_75 : jx_Snd 30 75 (js_getf 7 3) := jo_getf rfl jf_0_100 jd_30_75
theorem jk_30_78 : jx_Snd 30 78 (js_getf 6 3) := jo_getf rfl jf_0_156 jd_30_78
theorem jk_30_81 : jx_Snd 30 81 (js_ast) := jo_ast jd_30_81
theorem jk_30_82 : jx_Snd 30 82 (js_al 0 1) := jo_aload_n (i := 0) (w := 0) rfl jd_30_82
theorem jk_30_83 : jx_Snd 30 83 (js_getf 0 4) := jo_getf rfl jf_0_39 jd_30_83
theorem jk_30_86 : jx_Snd 30 86 (js_c 7 2) := jo_bipush (z := 7) jd_30_86 (by decide +kernel)
theorem jk_30_88 : jx_Snd 30 88 (js_al 0 1) := jo_aload_n (i := 0) (w := 0) rfl jd_30_88
theorem jk_30_89 : jx_Snd 30 89 (js_getf 0 3) := jo_getf rfl jf_0_35 jd_30_89
theorem jk_30_92 : jx_Snd 30 92 (js_getf 7 4) := jo_getf rfl jf_0_118 jd_30_92
theorem jk_30_95 : jx_Snd 30 95 (js_c 1 1) := jo_iconst (z := 1) jd_30_95 rfl
theorem jk_30_96 : jx_Snd 30 96 (js_ald) := jo_ald jd_30_96
theorem jk_30_97 : jx_Snd 30 97 (js_ast) := jo_ast jd_30_97
theorem jk_30_98 : jx_Snd 30 98 (js_al 0 1) := jo_aload_n (i := 0) (w := 0) rfl jd_30_98
theorem jk_30_99 : jx_Snd 30 99 (js_getf 0 4) := jo_getf rfl jf_0_39 jd_30_99
theorem jk_30_102 : jx_Snd 30 102 (js_c 8 2) := jo_bipush (z := 8) jd_30_102 (by decide +kernel)
theorem jk_30_104 : jx_Snd 30 104 (js_al 0 1) := jo_aload_n (i := 0) (w := 0) rfl jd_30_104
theorem jk_30_105 : jx_Snd 30 105 (js_getf 0 3) := jo_getf rfl jf_0_35 jd_30_105
theorem jk_30_108 : jx_Snd 30 108 (js_getf 7 4) := jo_getf rfl jf_0_118 jd_30_108
theorem jk_30_111 : jx_Snd 30 111 (js_c 2 1) := jo_iconst (z := 2) jd_30_111 rfl
theorem jk_30_112 : jx_Snd 30 112 (js_ald) := jo_ald jd_30_112
theorem jk_30_113 : jx_Snd 30 113 (js_ast) := jo_ast jd_30_113
theorem jk_30_114 : jx_Snd 30 114 (js_al 0 1) := jo_aload_n (i := 0) (w := 0) rfl jd_30_114
theorem jk_30_115 : jx_Snd 30 115 (js_getf 0 4) := jo_getf rfl jf_0_39 jd_30_115
theorem jk_30_118 : jx_Snd 30 118 (js_c 9 2) := jo_bipush (z := 9) jd_30_118 (by decide +kernel)
theorem jk_30_120 : jx_Snd 30 120 (js_al 0 1) := jo_aload_n (i := 0) (w := 0) rfl jd_30_120
theorem jk_30_121 : jx_Snd 30 121 (js_c 0 1) := jo_iconst (z := 0) jd_30_121 rfl
theorem jk_30_122 : jx_Snd 30 122 (js_v1 0 23) := jo_v1 rfl jok_23 (Or.inl jw_360) jw_361 jw_706 rfl jd_30_122
theorem jk_30_125 : jx_Snd 30 125 (js_ast) := jo_ast jd_30_125
theorem jk_30_126 : jx_Snd 30 126 (js_vr) := jo_vr rfl jd_30_126
theorem jk_30 : jx_So 30 jt_30 := fun pc => jo_le (jo_le (jo_le (jo_le (jo_le (jo_le (jo_le (jo_at (jk_30_0)) (jo_at (jk_30_1))) (jo_at (jk_30_4))) (jo_le (jo_at (jk_30_5)) (jo_at (jk_30_6)))) (jo_le (jo_le (jo_at (jk_30_9)) (jo_at (jk_30_12))) (jo_le (jo_at (jk_30_13)) (jo_at (jk_30_14))))) (jo_le (jo_le (jo_le (jo_le (jo_at (jk_30_17)) (jo_at (jk_30_18))) (jo_at (jk_30_19))) (jo_le (jo_at (jk_30_22)) (jo_at (jk_30_25)))) (jo_le (jo_le (jo_at (jk_30_26)) (jo_at (jk_30_27))) (jo_le (jo_at (jk_30_30)) (jo_at (jk_30_31)))))) (jo_le (jo_le (jo_le (jo_le (jo_le (jo_at (jk_30_32)) (jo_at (jk_30_35))) (jo_at (jk_30_38))) (jo_le (jo_at (jk_30_39)) (jo_at (jk_30_40)))) (jo_le (jo_le (jo_at (jk_30_43)) (jo_at (jk_30_44))) (jo_le (jo_at (jk_30_45)) (jo_at (jk_30_48))))) (jo_le (jo_le (jo_le (jo_at (jk_30_51)) (jo_at (jk_30_52))) (jo_le (jo_at (jk_30_53)) (jo_at (jk_30_56)))) (jo_le (jo_le (jo_at (jk_30_57)) (jo_at (jk_30_58))) (jo_le (jo_at (jk_30_61)) (jo_at (jk_30_64))))))) (jo_le (jo_le (jo_le (jo_le (jo_le (jo_le (jo_at (jk_30_65)) (jo_at (jk_30_66))) (jo_at (jk_30_69))) (jo_le (jo_at (jk_30_71)) (jo_at (jk_30_72)))) (jo_le (jo_le (jo_at (jk_30_75)) (jo_at (jk_30_78))) (jo_le (jo_at (jk_30_81)) (jo_at (jk_30_82))))) (jo_le (jo_le (jo_le (jo_at (jk_30_83)) (jo_at (jk_30_86))) (jo_le (jo_at (jk_30_88)) (jo_at (jk_30_89)))) (jo_le (jo_le (jo_at (jk_30_92)) (jo_at (jk_30_95))) (jo_le (jo_at (jk_30_96)) (jo_at (jk_30_97)))))) (jo_le (jo_le (jo_le (jo_le (jo_le (jo_at (jk_30_98)) (jo_at (jk_30_99))) (jo_at (jk_30_102))) (jo_le (jo_at (jk_30_104)) (jo_at (jk_30_105)))) (jo_le (jo_le (jo_at (jk_30_108)) (jo_at (jk_30_111))) (jo_le (jo_at (jk_30_112)) (jo_at (jk_30_113))))) (jo_le (jo_le (jo_le (jo_at (jk_30_114)) (jo_at (jk_30_115))) (jo_le (jo_at (jk_30_118)) (jo_at (jk_30_120)))) (jo_le (jo_le (jo_at (jk_30_121)) (jo_at (jk_30_122))) (jo_le (jo_at (jk_30_125)) (jo_at (jk_30_126)))))))
theorem ji_30 {l : Launch} {D : va_G} {cA : ClassId} {ρ : Nat → Nat} {Λ : List jx_Lc} {d : Nat} {Q : Option Value → jx_St → Prop} {σ : jx_St} {z0 : Nat} (h : jt_30 0 Λ jx_tb0 (jx_rn Λ jx_tb0 jt_30 (fun k' as σ K => jx_C l D cA ρ Λ d k' as σ K) Q (jx_J l D cA ρ Λ (jx_A ρ Λ) jx_tb0 (d + 1) 30 Q) [] 400) (fun k' as σ K => jx_C l D cA ρ Λ d k' as σ K) Q 0 [(0, .ref z0)] [] σ) : jx_C l D cA ρ Λ (d + 1) 30 [.ref z0] σ Q := jx_in jk_30 400 [] rfl (Nat.le_of_ble_eq_true rfl) h
/-! ScriptLedger.carryOut()V -/
theorem jd_31_0 : decode prog_1_method_32_code 0 = .ok (.iconst 0, 1) := by decide +kernel
theorem jd_31_1 : decode prog_1_method_32_code 1 = .ok (.istore_n 1, 1) := by decide +kernel
theorem jd_31_2 : decode prog_1_method_32_code 2 = .ok (.iload_n 1, 1) := by decide +kernel
theorem jd_31_3 : decode prog_1_method_32_code 3 = .ok (.aload_n 0, 1) := by decide +kernel
theorem jd_31_4 : decode prog_1_method_32_code 4 = .ok (.getfield 35, 3) := by decide +kernel
theorem jd_31_7 : decode prog_1_method_32_code 7 = .ok (.getfield 90, 3) := by decide +kernel
theorem jd_31_10 : decode prog_1_method_32_code 10 = .ok (.if_icmp .ge 25, 3) := by decide +kernel
theorem jd_31_13 : decode prog_1_method_32_code 13 = .ok (.aload_n 0, 1) := by decide +kernel
theorem jd_31_14 : decode prog_1_method_32_code 14 = .ok (.getfield 28, 3) := by decide +kernel
theorem jd_31_17 : decode prog_1_method_32_code 17 = .ok (.aload_n 0, 1) := by decide +kernel
theorem jd_31_18 : decode prog_1_method_32_code 18 = .ok (.getfield 35, 3) := by decide +kernel
theorem jd_31_21 : decode prog_1_method_32_code 21 = .ok (.getfield 208, 3) := by decide +kernel
theorem jd_31_24 : decode prog_1_method_32_code 24 = .ok (.iload_n 1, 1) := by decide +kernel
theorem jd_31_25 : decode prog_1_method_32_code 25 = .ok (.iaload, 1) := by decide +kernel
theorem jd_31_26 : decode prog_1_method_32_code 26 = .ok (.invokevirtual 235, 3) := by decide +kernel
theorem jd_31_29 : decode prog_1_method_32_code 29 = .ok (.iinc 1 1, 3) := by decide +kernel
theorem jd_31_32 : decode prog_1_method_32_code 32 = .ok (.goto (-30), 3) := by decide +kernel
theorem jd_31_35 : decode prog_1_method_32_code 35 = .ok (.iconst 0, 1) := by decide +kernel
theorem jd_31_36 : decode prog_1_method_32_code 36 = .ok (.istore_n 1, 1) := by decide +kernel
theorem jd_31_37 : decode prog_1_method_32_code 37 = .ok (.iload_n 1, 1) := by decide +kernel
theorem jd_31_38 : decode prog_1_method_32_code 38 = .ok (.aload_n 0, 1) := by decide +kernel
theorem jd_31_39 : decode prog_1_method_32_code 39 = .ok (.getfield 35, 3) := by decide +kernel
theorem jd_31_42 : decode prog_1_method_32_code 42 = .ok (.getfield 100, 3) := by decide +kernel
theorem jd_31_45 : decode prog_1_method_32_code 45 = .ok (.getfield 156, 3) := by decide +kernel
theorem jd_31_48 : decode prog_1_method_32_code 48 = .ok (.if_icmp .ge 24, 3) := by decide +kernel
theorem jd_31_51 : decode prog_1_method_32_code 51 = .ok (.aload_n 0, 1) := by decide +kernel
theorem jd_31_52 : decode prog_1_method_32_code 52 = .ok (.getfield 28, 3) := by decide +kernel
theorem jd_31_55 : decode prog_1_method_32_code 55 = .ok (.aload_n 0, 1) := by decide +kernel
theorem jd_31_56 : decode prog_1_method_32_code 56 = .ok (.getfield 35, 3) := by decide +kernel
theorem jd_31_59 : decode prog_1_method_32_code 59 = .ok (.getfield 100, 3) := by decide +kernel
theorem jd_31_62 : decode prog_1_method_32_code 62 = .ok (.iload_n 1, 1) := by decide +kernel
theorem jd_31_63 : decode prog_1_method_32_code 63 = .ok (.invokevirtual 238, 3) := by decide +kernel
theorem jd_31_66 : decode prog_1_method_32_code 66 = .ok (.iinc 1 1, 3) := by decide +kernel
theorem jd_31_69 : decode prog_1_method_32_code 69 = .ok (.goto (-32), 3) := by decide +kernel
theorem jd_31_72 : decode prog_1_method_32_code 72 = .ok (.aload_n 0, 1) := by decide +kernel
theorem jd_31_73 : decode prog_1_method_32_code 73 = .ok (.getfield 28, 3) := by decide +kernel
theorem jd_31_76 : decode prog_1_method_32_code 76 = .ok (.dup, 1) := by decide +kernel
theorem jd_31_77 : decode prog_1_method_32_code 77 = .ok (.getfield 175, 3) := by decide +kernel
theorem jd_31_80 : decode prog_1_method_32_code 80 = .ok (.aload_n 0, 1) := by decide +kernel
theorem jd_31_81 : decode prog_1_method_32_code 81 = .ok (.getfield 35, 3) := by decide +kernel
theorem jd_31_84 : decode prog_1_method_32_code 84 = .ok (.getfield 187, 3) := by decide +kernel
theorem jd_31_87 : decode prog_1_method_32_code 87 = .ok (.iadd, 1) := by decide +kernel
theorem jd_31_88 : decode prog_1_method_32_code 88 = .ok (.putfield 175, 3) := by decide +kernel
theorem jd_31_91 : decode prog_1_method_32_code 91 = .ok (.return_, 1) := by decide +kernel
def jt_31 (pc : Nat) : jx_Sp := bif Nat.ble pc 39 then (bif Nat.ble pc 18 then (bif Nat.ble pc 7 then (bif Nat.ble pc 2 then (bif Nat.ble pc 1 then (bif Nat.ble pc 0 then (bif Nat.beq pc 0 then js_c 0 1 else js_none) else (bif Nat.beq pc 1 then js_is 1 1 else js_none)) else (bif Nat.beq pc 2 then js_il 1 1 else js_none)) else (bif Nat.ble pc 4 then (bif Nat.ble pc 3 then (bif Nat.beq pc 3 then js_al 0 1 else js_none) else (bif Nat.beq pc 4 then js_getf 0 3 else js_none)) else (bif Nat.beq pc 7 then js_getf 7 2 else js_none))) else (bif Nat.ble pc 14 then (bif Nat.ble pc 13 then (bif Nat.ble pc 10 then (bif Nat.beq pc 10 then js_cge 35 else js_none) else (bif Nat.beq pc 13 then js_al 0 1 else js_none)) else (bif Nat.beq pc 14 then js_getf 0 2 else js_none)) else (bif Nat.ble pc 17 then (bif Nat.beq pc 17 then js_al 0 1 else js_none) else (bif Nat.beq pc 18 then js_getf 0 3 else js_none)))) else (bif Nat.ble pc 32 then (bif Nat.ble pc 25 then (bif Nat.ble pc 24 then (bif Nat.ble pc 21 then (bif Nat.beq pc 21 then js_getf 7 0 else js_none) else (bif Nat.beq pc 24 then js_il 1 1 else js_none)) else (bif Nat.beq pc 25 then js_ald else js_none)) else (bif Nat.ble pc 29 then (bif Nat.ble pc 26 then (bif Nat.beq pc 26 then js_v1 5 70 else js_none) else (bif Nat.beq pc 29 then js_inc 1 1 else js_none)) else (bif Nat.beq pc 32 then js_go 2 else js_none))) else (bif Nat.ble pc 37 then (bif Nat.ble pc 36 then (bif Nat.ble pc 35 then (bif Nat.beq pc 35 then js_c 0 1 else js_none) else (bif Nat.beq pc 36 then js_is 1 1 else js_none)) else (bif Nat.beq pc 37 then js_il 1 1 else js_none)) else (bif Nat.ble pc 38 then (bif Nat.beq pc 38 then js_al 0 1 else js_none) else (bif Nat.beq pc 39 then js_getf 0 3 else js_none))))) else (bif Nat.ble pc 66 then (bif Nat.ble pc 55 then (bif Nat.ble pc 48 then (bif Nat.ble pc 45 then (bif Nat.ble pc 42 then (bif Nat.beq pc 42 then js_getf 7 3 else js_none) else (bif Nat.beq pc 45 then js_getf 6 3 else js_none)) else (bif Nat.beq pc 48 then js_cge 72 else js_none)) else (bif Nat.ble pc 52 then (bif Nat.ble pc 51 then (bif Nat.beq pc 51 then js_al 0 1 else js_none) else (bif Nat.beq pc 52 then js_getf 0 2 else js_none)) else (bif Nat.beq pc 55 then js_al 0 1 else js_none))) else (bif Nat.ble pc 62 then (bif Nat.ble pc 59 then (bif Nat.ble pc 56 then (bif Nat.beq pc 56 then js_getf 0 3 else js_none) else (bif Nat.beq pc 59 then js_getf 7 3 else js_none)) else (bif Nat.beq pc 62 then js_il 1 1 else js_none)) else (bif Nat.ble pc 63 then (bif Nat.beq pc 63 then js_v2 5 71 else js_none) else (bif Nat.beq pc 66 then js_inc 1 1 else js_none)))) else (bif Nat.ble pc 80 then (bif Nat.ble pc 73 then (bif Nat.ble pc 72 then (bif Nat.ble pc 69 then (bif Nat.beq pc 69 then js_go 37 else js_none) else (bif Nat.beq pc 72 then js_al 0 1 else js_none)) else (bif Nat.beq pc 73 then js_getf 0 2 else js_none)) else (bif Nat.ble pc 77 then (bif Nat.ble pc 76 then (bif Nat.beq pc 76 then js_dup else js_none) else (bif Nat.beq pc 77 then js_getf 5 4 else js_none)) else (bif Nat.beq pc 80 then js_al 0 1 else js_none))) else (bif Nat.ble pc 87 then (bif Nat.ble pc 84 then (bif Nat.ble pc 81 then (bif Nat.beq pc 81 then js_getf 0 3 else js_none) else (bif Nat.beq pc 84 then js_getf 7 6 else js_none)) else (bif Nat.beq pc 87 then js_iadd else js_none)) else (bif Nat.ble pc 88 then (bif Nat.beq pc 88 then js_putf 5 4 false else js_none) else (bif Nat.beq pc 91 then js_vr else js_none)))))
theorem jk_31_0 : jx_Snd 31 0 (js_c 0 1) := jo_iconst (z := 0) jd_31_0 rfl
theorem jk_31_1 : jx_Snd 31 1 (js_is 1 1) := jo_istore_n (i := 1) (w := 1) rfl (Nat.le_of_ble_eq_true rfl) jd_31_1
theorem jk_31_2 : jx_Snd 31 2 (js_il 1 1) := jo_iload_n (i := 1) (w := 1) rfl jd_31_2
theorem jk_31_3 : jx_Snd 31 3 (js_al 0 1) := jo_aload_n (i := 0) (w := 0) rfl jd_31_3
theorem jk_31_4 : jx_Snd 31 4 (js_getf 0 3) := jo_getf rfl jf_0_35 jd_31_4
theorem jk_31_7 : jx_Snd 31 7 (js_getf 7 2) := jo_getf rfl jf_0_90 jd_31_7
theorem jk_31_10 : jx_Snd 31 10 (js_cge 35) := jo_cge (o := 25) rfl jd_31_10
theorem jk_31_13 : jx_Snd 31 13 (js_al 0 1) := jo_aload_n (i := 0) (w := 0) rfl jd_31_13
theorem jk_31_14 : jx_Snd 31 14 (js_getf 0 2) := jo_getf rfl jf_0_28 jd_31_14
theorem jk_31_17 : jx_Snd 31 17 (js_al 0 1) := jo_aload_n (i := 0) (w := 0) rfl jd_31_17
theorem jk_31_18 : jx_Snd 31 18 (js_getf 0 3) := jo_getf rfl jf_0_35 jd_31_18
theorem jk_31_21 : jx_Snd 31 21 (js_getf 7 0) := jo_getf rfl jf_0_208 jd_31_21
theorem jk_31_24 : jx_Snd 31 24 (js_il 1 1) := jo_iload_n (i := 1) (w := 1) rfl jd_31_24
theorem jk_31_25 : jx_Snd 31 25 (js_ald) := jo_ald jd_31_25
theorem jk_31_26 : jx_Snd 31 26 (js_v1 5 70) := jo_v1 rfl jok_70 (Or.inl jw_400) jw_401 jw_402 rfl jd_31_26
theorem jk_31_29 : jx_Snd 31 29 (js_inc 1 1) := jo_iinc (w := 1) rfl (Nat.le_of_ble_eq_true rfl) jd_31_29
theorem jk_31_32 : jx_Snd 31 32 (js_go 2) := jo_goto (o := (-30)) rfl jd_31_32
theorem jk_31_35 : jx_Snd 31 35 (js_c 0 1) := jo_iconst (z := 0) jd_31_35 rfl
theorem jk_31_36 : jx_Snd 31 36 (js_is 1 1) := jo_istore_n (i := 1) (w := 1) rfl (Nat.le_of_ble_eq_true rfl) jd_31_36
theorem jk_31_37 : jx_Snd 31 37 (js_il 1 1) := jo_iload_n (i := 1) (w := 1) rfl jd_31_37
theorem jk_31_38 : jx_Snd 31 38 (js_al 0 1) := jo_aload_n (i := 0) (w := 0) rfl jd_31_38
theorem jk_31_39 : jx_Snd 31 39 (js_getf 0 3) := jo_getf rfl jf_0_35 jd_31_39
theorem jk_31_42 : jx_Snd 31 42 (js_getf 7 3) := jo_getf rfl jf_0_100 jd_31_42
theorem jk_31_45 : jx_Snd 31 45 (js_getf 6 3) := jo_getf rfl jf_0_156 jd_31_45
theorem jk_31_48 : jx_Snd 31 48 (js_cge 72) := jo_cge (o := 24) rfl jd_31_48
theorem jk_31_51 : jx_Snd 31 51 (js_al 0 1) := jo_aload_n (i := 0) (w := 0) rfl jd_31_51
theorem jk_31_52 : jx_Snd 31 52 (js_getf 0 2) := jo_getf rfl jf_0_28 jd_31_52
theorem jk_31_55 : jx_Snd 31 55 (js_al 0 1) := jo_aload_n (i := 0) (w := 0) rfl jd_31_55
theorem jk_31_56 : jx_Snd 31 56 (js_getf 0 3) := jo_getf rfl jf_0_35 jd_31_56
theorem jk_31_59 : jx_Snd 31 59 (js_getf 7 3) := jo_getf rfl jf_0_100 jd_31_59
theorem jk_31_62 : jx_Snd 31 62 (js_il 1 1) := jo_iload_n (i := 1) (w := 1) rfl jd_31_62
theorem jk_31_63 : jx_Snd 31 63 (js_v2 5 71) := jo_v2 rfl jok_71 (Or.inl jw_404) jw_405 jw_406 rfl jd_31_63
theorem jk_31_66 : jx_Snd 31 66 (js_inc 1 1) := jo_iinc (w := 1) rfl (Nat.le_of_ble_eq_true rfl) jd_31_66
theorem jk_31_69 : jx_Snd 31 69 (js_go 37) := jo_goto (o := (-32)) rfl jd_31_69
theorem jk_31_72 : jx_Snd 31 72 (js_al 0 1) := jo_aload_n (i := 0) (w := 0) rfl jd_31_72
theorem jk_31_73 : jx_Snd 31 73 (js_getf 0 2) := jo_getf rfl jf_0_28 jd_31_73
theorem jk_31_76 : jx_Snd 31 76 (js_dup) := jo_dup jd_31_76
theorem jk_31_77 : jx_Snd 31 77 (js_getf 5 4) := jo_getf rfl jf_0_175 jd_31_77
theorem jk_31_80 : jx_Snd 31 80 (js_al 0 1) := jo_aload_n (i := 0) (w := 0) rfl jd_31_80
theorem jk_31_81 : jx_Snd 31 81 (js_getf 0 3) := jo_getf rfl jf_0_35 jd_31_81
theorem jk_31_84 : jx_Snd 31 84 (js_getf 7 6) := jo_getf rfl jf_0_187 jd_31_84
theorem jk_31_87 : jx_Snd 31 87 (js_iadd) := jo_iadd jd_31_87
theorem jk_31_88 : jx_Snd 31 88 (js_putf 5 4 false) := jo_putf (z := false) rfl jf_0_175 (fun C T N h => by cases h; rfl) jd_31_88
theorem jk_31_91 : jx_Snd 31 91 (js_vr) := jo_vr rfl jd_31_91
theorem jk_31 : jx_So 31 jt_31 := fun pc => jo_le (jo_le (jo_le (jo_le (jo_le (jo_le (jo_at (jk_31_0)) (jo_at (jk_31_1))) (jo_at (jk_31_2))) (jo_le (jo_le (jo_at (jk_31_3)) (jo_at (jk_31_4))) (jo_at (jk_31_7)))) (jo_le (jo_le (jo_le (jo_at (jk_31_10)) (jo_at (jk_31_13))) (jo_at (jk_31_14))) (jo_le (jo_at (jk_31_17)) (jo_at (jk_31_18))))) (jo_le (jo_le (jo_le (jo_le (jo_at (jk_31_21)) (jo_at (jk_31_24))) (jo_at (jk_31_25))) (jo_le (jo_le (jo_at (jk_31_26)) (jo_at (jk_31_29))) (jo_at (jk_31_32)))) (jo_le (jo_le (jo_le (jo_at (jk_31_35)) (jo_at (jk_31_36))) (jo_at (jk_31_37))) (jo_le (jo_at (jk_31_38)) (jo_at (jk_31_39)))))) (jo_le (jo_le (jo_le (jo_le (jo_le (jo_at (jk_31_42)) (jo_at (jk_31_45))) (jo_at (jk_31_48))) (jo_le (jo_le (jo_at (jk_31_51)) (jo_at (jk_31_52))) (jo_at (jk_31_55)))) (jo_le (jo_le (jo_le (jo_at (jk_31_56)) (jo_at (jk_31_59))) (jo_at (jk_31_62))) (jo_le (jo_at (jk_31_63)) (jo_at (jk_31_66))))) (jo_le (jo_le (jo_le (jo_le (jo_at (jk_31_69)) (jo_at (jk_31_72))) (jo_at (jk_31_73))) (jo_le (jo_le (jo_at (jk_31_76)) (jo_at (jk_31_77))) (jo_at (jk_31_80)))) (jo_le (jo_le (jo_le (jo_at (jk_31_81)) (jo_at (jk_31_84))) (jo_at (jk_31_87))) (jo_le (jo_at (jk_31_88)) (jo_at (jk_31_91))))))
theorem ji_31 {l : Launch} {D : va_G} {cA : ClassId} {ρ : Nat → Nat} {Λ : List jx_Lc} {d : Nat} {Q : Option Value → jx_St → Prop} {σ : jx_St} {z0 : Nat} (h : jt_31 0 Λ jx_tb0 (jx_rn Λ jx_tb0 jt_31 (fun k' as σ K => jx_C l D cA ρ Λ d k' as σ K) Q (jx_J l D cA ρ Λ (jx_A ρ Λ) jx_tb0 (d + 1) 31 Q) [] 400) (fun k' as σ K => jx_C l D cA ρ Λ d k' as σ K) Q 0 [(0, .ref z0)] [] σ) : jx_C l D cA ρ Λ (d + 1) 31 [.ref z0] σ Q := jx_in jk_31 400 [] rfl (Nat.le_of_ble_eq_true rfl) h
/-! ScriptLedger$Draft.<init>()V -/
theorem jd_32_0 : decode prog_2_method_1_code 0 = .ok (.aload_n 0, 1) := by decide +kernel
theorem jd_32_1 : decode prog_2_method_1_code 1 = .ok (.invokespecial 3, 3) := by decide +kernel
theorem jd_32_4 : decode prog_2_method_1_code 4 = .ok (.aload_n 0, 1) := by decide +kernel
theorem jd_32_5 : decode prog_2_method_1_code 5 = .ok (.bipush 48, 2) := by decide +kernel
theorem jd_32_7 : decode prog_2_method_1_code 7 = .ok (.newarray .int, 2) := by decide +kernel
theorem jd_32_9 : decode prog_2_method_1_code 9 = .ok (.putfield 9, 3) := by decide +kernel
theorem jd_32_12 : decode prog_2_method_1_code 12 = .ok (.return_, 1) := by decide +kernel
def jnt_32 (pc : Nat) : jn_Sp := bif Nat.ble pc 5 then (bif Nat.ble pc 1 then (bif Nat.ble pc 0 then (bif Nat.beq pc 0 then jn_of (js_al 0 1) else jn_none) else (bif Nat.beq pc 1 then jn_obj else jn_none)) else (bif Nat.ble pc 4 then (bif Nat.beq pc 4 then jn_of (js_al 0 1) else jn_none) else (bif Nat.beq pc 5 then jn_of (js_c 48 2) else jn_none))) else (bif Nat.ble pc 9 then (bif Nat.ble pc 7 then (bif Nat.beq pc 7 then jn_newa else jn_none) else (bif Nat.beq pc 9 then jn_putr 1 0 else jn_none)) else (bif Nat.beq pc 12 then jn_vr else jn_none))
theorem jnk_32_0 : jn_Snd 32 0 (jn_of (js_al 0 1)) := jn_lift (jo_aload_n (i := 0) (w := 0) rfl jd_32_0)
theorem jnk_32_1 : jn_Snd 32 1 (jn_obj) := jno_obj rfl jw_23 jw_17 jw_18 jd_32_1
theorem jnk_32_4 : jn_Snd 32 4 (jn_of (js_al 0 1)) := jn_lift (jo_aload_n (i := 0) (w := 0) rfl jd_32_4)
theorem jnk_32_5 : jn_Snd 32 5 (jn_of (js_c 48 2)) := jn_lift (jo_bipush (z := 48) jd_32_5 (by decide +kernel))
theorem jnk_32_7 : jn_Snd 32 7 (jn_newa) := jno_newa (at_ := .int) rfl jw_28 jd_32_7
theorem jnk_32_9 : jn_Snd 32 9 (jn_putr 1 0) := jno_putr rfl rfl jf_1_9 (fun C T N h => by cases h; exact ⟨rfl, rfl⟩) ⟨_, _, _, rfl, jw_24⟩ (fun a => ⟨rfl, rfl⟩) jd_32_9
theorem jnk_32_12 : jn_Snd 32 12 (jn_vr) := jno_vr jd_32_12
theorem jnk_32 : jn_So 32 jnt_32 := fun pc => jno_le (jno_le (jno_le (jno_at (jnk_32_0)) (jno_at (jnk_32_1))) (jno_le (jno_at (jnk_32_4)) (jno_at (jnk_32_5)))) (jno_le (jno_le (jno_at (jnk_32_7)) (jno_at (jnk_32_9))) (jno_at (jnk_32_12)))

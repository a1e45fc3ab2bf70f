/-! ScriptLedger$Ledger.takeBackTo(I)V -/
theorem jd_75_0 : decode prog_3_method_9_code 0 = .ok (.aload_n 0, 1) := by decide +kernel
theorem jd_75_1 : decode prog_3_method_9_code 1 = .ok (.iload_n 1, 1) := by decide +kernel
theorem jd_75_2 : decode prog_3_method_9_code 2 = .ok (.putfield 48, 3) := by decide +kernel
theorem jd_75_5 : decode prog_3_method_9_code 5 = .ok (.aload_n 0, 1) := by decide +kernel
theorem jd_75_6 : decode prog_3_method_9_code 6 = .ok (.getfield 14, 3) := by decide +kernel
theorem jd_75_9 : decode prog_3_method_9_code 9 = .ok (.aload_n 0, 1) := by decide +kernel
theorem jd_75_10 : decode prog_3_method_9_code 10 = .ok (.getfield 24, 3) := by decide +kernel
theorem jd_75_13 : decode prog_3_method_9_code 13 = .ok (.iload_n 1, 1) := by decide +kernel
theorem jd_75_14 : decode prog_3_method_9_code 14 = .ok (.iaload, 1) := by decide +kernel
theorem jd_75_15 : decode prog_3_method_9_code 15 = .ok (.putfield 40, 3) := by decide +kernel
theorem jd_75_18 : decode prog_3_method_9_code 18 = .ok (.aload_n 0, 1) := by decide +kernel
theorem jd_75_19 : decode prog_3_method_9_code 19 = .ok (.aload_n 0, 1) := by decide +kernel
theorem jd_75_20 : decode prog_3_method_9_code 20 = .ok (.getfield 27, 3) := by decide +kernel
theorem jd_75_23 : decode prog_3_method_9_code 23 = .ok (.iload_n 1, 1) := by decide +kernel
theorem jd_75_24 : decode prog_3_method_9_code 24 = .ok (.iaload, 1) := by decide +kernel
theorem jd_75_25 : decode prog_3_method_9_code 25 = .ok (.putfield 66, 3) := by decide +kernel
theorem jd_75_28 : decode prog_3_method_9_code 28 = .ok (.iconst 0, 1) := by decide +kernel
theorem jd_75_29 : decode prog_3_method_9_code 29 = .ok (.istore_n 2, 1) := by decide +kernel
theorem jd_75_30 : decode prog_3_method_9_code 30 = .ok (.iload_n 2, 1) := by decide +kernel
theorem jd_75_31 : decode prog_3_method_9_code 31 = .ok (.aload_n 0, 1) := by decide +kernel
theorem jd_75_32 : decode prog_3_method_9_code 32 = .ok (.getfield 14, 3) := by decide +kernel
theorem jd_75_35 : decode prog_3_method_9_code 35 = .ok (.getfield 40, 3) := by decide +kernel
theorem jd_75_38 : decode prog_3_method_9_code 38 = .ok (.if_icmp .ge 26, 3) := by decide +kernel
theorem jd_75_41 : decode prog_3_method_9_code 41 = .ok (.aload_n 0, 1) := by decide +kernel
theorem jd_75_42 : decode prog_3_method_9_code 42 = .ok (.getfield 20, 3) := by decide +kernel
theorem jd_75_45 : decode prog_3_method_9_code 45 = .ok (.iload_n 2, 1) := by decide +kernel
theorem jd_75_46 : decode prog_3_method_9_code 46 = .ok (.iaload, 1) := by decide +kernel
theorem jd_75_47 : decode prog_3_method_9_code 47 = .ok (.iload_n 1, 1) := by decide +kernel
theorem jd_75_48 : decode prog_3_method_9_code 48 = .ok (.if_icmp .lt 10, 3) := by decide +kernel
theorem jd_75_51 : decode prog_3_method_9_code 51 = .ok (.aload_n 0, 1) := by decide +kernel
theorem jd_75_52 : decode prog_3_method_9_code 52 = .ok (.getfield 20, 3) := by decide +kernel
theorem jd_75_55 : decode prog_3_method_9_code 55 = .ok (.iload_n 2, 1) := by decide +kernel
theorem jd_75_56 : decode prog_3_method_9_code 56 = .ok (.iconst (-1), 1) := by decide +kernel
theorem jd_75_57 : decode prog_3_method_9_code 57 = .ok (.iastore, 1) := by decide +kernel
theorem jd_75_58 : decode prog_3_method_9_code 58 = .ok (.iinc 2 1, 3) := by decide +kernel
theorem jd_75_61 : decode prog_3_method_9_code 61 = .ok (.goto (-31), 3) := by decide +kernel
theorem jd_75_64 : decode prog_3_method_9_code 64 = .ok (.return_, 1) := by decide +kernel
def jt_75 (pc : Nat) : jx_Sp := bif Nat.ble pc 30 then (bif Nat.ble pc 15 then (bif Nat.ble pc 6 then (bif Nat.ble pc 2 then (bif Nat.ble pc 1 then (bif Nat.ble pc 0 then (bif Nat.beq pc 0 then js_al 0 1 else js_none) else (bif Nat.beq pc 1 then js_il 1 1 else js_none)) else (bif Nat.beq pc 2 then js_putf 5 5 false else js_none)) else (bif Nat.ble pc 5 then (bif Nat.beq pc 5 then js_al 0 1 else js_none) else (bif Nat.beq pc 6 then js_getf 5 0 else js_none))) else (bif Nat.ble pc 13 then (bif Nat.ble pc 10 then (bif Nat.ble pc 9 then (bif Nat.beq pc 9 then js_al 0 1 else js_none) else (bif Nat.beq pc 10 then js_getf 5 2 else js_none)) else (bif Nat.beq pc 13 then js_il 1 1 else js_none)) else (bif Nat.ble pc 14 then (bif Nat.beq pc 14 then js_ald else js_none) else (bif Nat.beq pc 15 then js_putf 6 3 false else js_none)))) else (bif Nat.ble pc 24 then (bif Nat.ble pc 20 then (bif Nat.ble pc 19 then (bif Nat.ble pc 18 then (bif Nat.beq pc 18 then js_al 0 1 else js_none) else (bif Nat.beq pc 19 then js_al 0 1 else js_none)) else (bif Nat.beq pc 20 then js_getf 5 3 else js_none)) else (bif Nat.ble pc 23 then (bif Nat.beq pc 23 then js_il 1 1 else js_none) else (bif Nat.beq pc 24 then js_ald else js_none))) else (bif Nat.ble pc 28 then (bif Nat.ble pc 25 then (bif Nat.beq pc 25 then js_putf 5 4 false else js_none) else (bif Nat.beq pc 28 then js_c 0 1 else js_none)) else (bif Nat.ble pc 29 then (bif Nat.beq pc 29 then js_is 2 1 else js_none) else (bif Nat.beq pc 30 then js_il 2 1 else js_none))))) else (bif Nat.ble pc 47 then (bif Nat.ble pc 41 then (bif Nat.ble pc 35 then (bif Nat.ble pc 32 then (bif Nat.ble pc 31 then (bif Nat.beq pc 31 then js_al 0 1 else js_none) else (bif Nat.beq pc 32 then js_getf 5 0 else js_none)) else (bif Nat.beq pc 35 then js_getf 6 3 else js_none)) else (bif Nat.ble pc 38 then (bif Nat.beq pc 38 then js_cge 64 else js_none) else (bif Nat.beq pc 41 then js_al 0 1 else js_none))) else (bif Nat.ble pc 45 then (bif Nat.ble pc 42 then (bif Nat.beq pc 42 then js_getf 5 1 else js_none) else (bif Nat.beq pc 45 then js_il 2 1 else js_none)) else (bif Nat.ble pc 46 then (bif Nat.beq pc 46 then js_ald else js_none) else (bif Nat.beq pc 47 then js_il 1 1 else js_none)))) else (bif Nat.ble pc 56 then (bif Nat.ble pc 52 then (bif Nat.ble pc 51 then (bif Nat.ble pc 48 then (bif Nat.beq pc 48 then js_clt 58 else js_none) else (bif Nat.beq pc 51 then js_al 0 1 else js_none)) else (bif Nat.beq pc 52 then js_getf 5 1 else js_none)) else (bif Nat.ble pc 55 then (bif Nat.beq pc 55 then js_il 2 1 else js_none) else (bif Nat.beq pc 56 then js_c (-1) 1 else js_none))) else (bif Nat.ble pc 58 then (bif Nat.ble pc 57 then (bif Nat.beq pc 57 then js_ast else js_none) else (bif Nat.beq pc 58 then js_inc 2 1 else js_none)) else (bif Nat.ble pc 61 then (bif Nat.beq pc 61 then js_go 30 else js_none) else (bif Nat.beq pc 64 then js_vr else js_none)))))
theorem jk_75_0 : jx_Snd 75 0 (js_al 0 1) := jo_aload_n (i := 0) (w := 0) rfl jd_75_0
theorem jk_75_1 : jx_Snd 75 1 (js_il 1 1) := jo_iload_n (i := 1) (w := 1) rfl jd_75_1
theorem jk_75_2 : jx_Snd 75 2 (js_putf 5 5 false) := jo_putf (z := false) rfl jf_5_48 (fun C T N h => by cases h; rfl) jd_75_2
theorem jk_75_5 : jx_Snd 75 5 (js_al 0 1) := jo_aload_n (i := 0) (w := 0) rfl jd_75_5
theorem jk_75_6 : jx_Snd 75 6 (js_getf 5 0) := jo_getf rfl jf_5_14 jd_75_6
theorem jk_75_9 : jx_Snd 75 9 (js_al 0 1) := jo_aload_n (i := 0) (w := 0) rfl jd_75_9
theorem jk_75_10 : jx_Snd 75 10 (js_getf 5 2) := jo_getf rfl jf_5_24 jd_75_10
theorem jk_75_13 : jx_Snd 75 13 (js_il 1 1) := jo_iload_n (i := 1) (w := 1) rfl jd_75_13
theorem jk_75_14 : jx_Snd 75 14 (js_ald) := jo_ald jd_75_14
theorem jk_75_15 : jx_Snd 75 15 (js_putf 6 3 false) := jo_putf (z := false) rfl jf_5_40 (fun C T N h => by cases h; rfl) jd_75_15
theorem jk_75_18 : jx_Snd 75 18 (js_al 0 1) := jo_aload_n (i := 0) (w := 0) rfl jd_75_18
theorem jk_75_19 : jx_Snd 75 19 (js_al 0 1) := jo_aload_n (i := 0) (w := 0) rfl jd_75_19
theorem jk_75_20 : jx_Snd 75 20 (js_getf 5 3) := jo_getf rfl jf_5_27 jd_75_20
theorem jk_75_23 : jx_Snd 75 23 (js_il 1 1) := jo_iload_n (i := 1) (w := 1) rfl jd_75_23
theorem jk_75_24 : jx_Snd 75 24 (js_ald) := jo_ald jd_75_24
theorem jk_75_25 : jx_Snd 75 25 (js_putf 5 4 false) := jo_putf (z := false) rfl jf_5_66 (fun C T N h => by cases h; rfl) jd_75_25
theorem jk_75_28 : jx_Snd 75 28 (js_c 0 1) := jo_iconst (z := 0) jd_75_28 rfl
theorem jk_75_29 : jx_Snd 75 29 (js_is 2 1) := jo_istore_n (i := 2) (w := 2) rfl (Nat.le_of_ble_eq_true rfl) jd_75_29
theorem jk_75_30 : jx_Snd 75 30 (js_il 2 1) := jo_iload_n (i := 2) (w := 2) rfl jd_75_30
theorem jk_75_31 : jx_Snd 75 31 (js_al 0 1) := jo_aload_n (i := 0) (w := 0) rfl jd_75_31
theorem jk_75_32 : jx_Snd 75 32 (js_getf 5 0) := jo_getf rfl jf_5_14 jd_75_32
theorem jk_75_35 : jx_Snd 75 35 (js_getf 6 3) := jo_getf rfl jf_5_40 jd_75_35
theorem jk_75_38 : jx_Snd 75 38 (js_cge 64) := jo_cge (o := 26) rfl jd_75_38
theorem jk_75_41 : jx_Snd 75 41 (js_al 0 1) := jo_aload_n (i := 0) (w := 0) rfl jd_75_41
theorem jk_75_42 : jx_Snd 75 42 (js_getf 5 1) := jo_getf rfl jf_5_20 jd_75_42
theorem jk_75_45 : jx_Snd 75 45 (js_il 2 1) := jo_iload_n (i := 2) (w := 2) rfl jd_75_45
theorem jk_75_46 : jx_Snd 75 46 (js_ald) := jo_ald jd_75_46
theorem jk_75_47 : jx_Snd 75 47 (js_il 1 1) := jo_iload_n (i := 1) (w := 1) rfl jd_75_47
theorem jk_75_48 : jx_Snd 75 48 (js_clt 58) := jo_clt (o := 10) rfl jd_75_48
theorem jk_75_51 : jx_Snd 75 51 (js_al 0 1) := jo_aload_n (i := 0) (w := 0) rfl jd_75_51
theorem jk_75_52 : jx_Snd 75 52 (js_getf 5 1) := jo_getf rfl jf_5_20 jd_75_52
theorem jk_75_55 : jx_Snd 75 55 (js_il 2 1) := jo_iload_n (i := 2) (w := 2) rfl jd_75_55
theorem jk_75_56 : jx_Snd 75 56 (js_c (-1) 1) := jo_iconst (z := (-1)) jd_75_56 rfl
theorem jk_75_57 : jx_Snd 75 57 (js_ast) := jo_ast jd_75_57
theorem jk_75_58 : jx_Snd 75 58 (js_inc 2 1) := jo_iinc (w := 1) rfl (Nat.le_of_ble_eq_true rfl) jd_75_58
theorem jk_75_61 : jx_Snd 75 61 (js_go 30) := jo_goto (o := (-31)) rfl jd_75_61
theorem jk_75_64 : jx_Snd 75 64 (js_vr) := jo_vr rfl jd_75_64
theorem jk_75 : jx_So 75 jt_75 := fun pc => jo_le (jo_le (jo_le (jo_le (jo_le (jo_le (jo_at (jk_75_0)) (jo_at (jk_75_1))) (jo_at (jk_75_2))) (jo_le (jo_at (jk_75_5)) (jo_at (jk_75_6)))) (jo_le (jo_le (jo_le (jo_at (jk_75_9)) (jo_at (jk_75_10))) (jo_at (jk_75_13))) (jo_le (jo_at (jk_75_14)) (jo_at (jk_75_15))))) (jo_le (jo_le (jo_le (jo_le (jo_at (jk_75_18)) (jo_at (jk_75_19))) (jo_at (jk_75_20))) (jo_le (jo_at (jk_75_23)) (jo_at (jk_75_24)))) (jo_le (jo_le (jo_at (jk_75_25)) (jo_at (jk_75_28))) (jo_le (jo_at (jk_75_29)) (jo_at (jk_75_30)))))) (jo_le (jo_le (jo_le (jo_le (jo_le (jo_at (jk_75_31)) (jo_at (jk_75_32))) (jo_at (jk_75_35))) (jo_le (jo_at (jk_75_38)) (jo_at (jk_75_41)))) (jo_le (jo_le (jo_at (jk_75_42)) (jo_at (jk_75_45))) (jo_le (jo_at (jk_75_46)) (jo_at (jk_75_47))))) (jo_le (jo_le (jo_le (jo_le (jo_at (jk_75_48)) (jo_at (jk_75_51))) (jo_at (jk_75_52))) (jo_le (jo_at (jk_75_55)) (jo_at (jk_75_56)))) (jo_le (jo_le (jo_at (jk_75_57)) (jo_at (jk_75_58))) (jo_le (jo_at (jk_75_61)) (jo_at (jk_75_64))))))
theorem ji_75 {l : Launch} {D : va_G} {cA : ClassId} {ρ : Nat → Nat} {Λ : List jx_Lc} {d : Nat} {Q : Option Value → jx_St → Prop} {σ : jx_St} {z0 : Nat} {a1 : Int32} (h : jt_75 0 Λ jx_tb0 (jx_rn Λ jx_tb0 jt_75 (fun k' as σ K => jx_C l D cA ρ Λ d k' as σ K) Q (jx_J l D cA ρ Λ (jx_A ρ Λ) jx_tb0 (d + 1) 75 Q) [] 400) (fun k' as σ K => jx_C l D cA ρ Λ d k' as σ K) Q 0 [(0, .ref z0), (1, .int a1)] [] σ) : jx_C l D cA ρ Λ (d + 1) 75 [.ref z0, .int a1] σ Q := jx_in jk_75 400 [] rfl (Nat.le_of_ble_eq_true rfl) h
/-! ScriptLedger$OutputRow.<init>(I)V -/
theorem jd_76_0 : decode prog_5_method_1_code 0 = .ok (.aload_n 0, 1) := by decide +kernel
theorem jd_76_1 : decode prog_5_method_1_code 1 = .ok (.invokespecial 3, 3) := by decide +kernel
theorem jd_76_4 : decode prog_5_method_1_code 4 = .ok (.aload_n 0, 1) := by decide +kernel
theorem jd_76_5 : decode prog_5_method_1_code 5 = .ok (.iload_n 1, 1) := by decide +kernel
theorem jd_76_6 : decode prog_5_method_1_code 6 = .ok (.newarray .int, 2) := by decide +kernel
theorem jd_76_8 : decode prog_5_method_1_code 8 = .ok (.putfield 9, 3) := by decide +kernel
theorem jd_76_11 : decode prog_5_method_1_code 11 = .ok (.aload_n 0, 1) := by decide +kernel
theorem jd_76_12 : decode prog_5_method_1_code 12 = .ok (.iload_n 1, 1) := by decide +kernel
theorem jd_76_13 : decode prog_5_method_1_code 13 = .ok (.newarray .int, 2) := by decide +kernel
theorem jd_76_15 : decode prog_5_method_1_code 15 = .ok (.putfield 15, 3) := by decide +kernel
theorem jd_76_18 : decode prog_5_method_1_code 18 = .ok (.aload_n 0, 1) := by decide +kernel
theorem jd_76_19 : decode prog_5_method_1_code 19 = .ok (.iload_n 1, 1) := by decide +kernel
theorem jd_76_20 : decode prog_5_method_1_code 20 = .ok (.iconst 3, 1) := by decide +kernel
theorem jd_76_21 : decode prog_5_method_1_code 21 = .ok (.imul, 1) := by decide +kernel
theorem jd_76_22 : decode prog_5_method_1_code 22 = .ok (.newarray .int, 2) := by decide +kernel
theorem jd_76_24 : decode prog_5_method_1_code 24 = .ok (.putfield 18, 3) := by decide +kernel
theorem jd_76_27 : decode prog_5_method_1_code 27 = .ok (.return_, 1) := by decide +kernel
def jnt_76 (pc : Nat) : jn_Sp := bif Nat.ble pc 13 then (bif Nat.ble pc 6 then (bif Nat.ble pc 4 then (bif Nat.ble pc 1 then (bif Nat.ble pc 0 then (bif Nat.beq pc 0 then jn_of (js_al 0 1) else jn_none) else (bif Nat.beq pc 1 then jn_obj else jn_none)) else (bif Nat.beq pc 4 then jn_of (js_al 0 1) else jn_none)) else (bif Nat.ble pc 5 then (bif Nat.beq pc 5 then jn_of (js_il 1 1) else jn_none) else (bif Nat.beq pc 6 then jn_newa else jn_none))) else (bif Nat.ble pc 11 then (bif Nat.ble pc 8 then (bif Nat.beq pc 8 then jn_putr 6 0 else jn_none) else (bif Nat.beq pc 11 then jn_of (js_al 0 1) else jn_none)) else (bif Nat.ble pc 12 then (bif Nat.beq pc 12 then jn_of (js_il 1 1) else jn_none) else (bif Nat.beq pc 13 then jn_newa else jn_none)))) else (bif Nat.ble pc 20 then (bif Nat.ble pc 18 then (bif Nat.ble pc 15 then (bif Nat.beq pc 15 then jn_putr 6 1 else jn_none) else (bif Nat.beq pc 18 then jn_of (js_al 0 1) else jn_none)) else (bif Nat.ble pc 19 then (bif Nat.beq pc 19 then jn_of (js_il 1 1) else jn_none) else (bif Nat.beq pc 20 then jn_of (js_c 3 1) else jn_none))) else (bif Nat.ble pc 22 then (bif Nat.ble pc 21 then (bif Nat.beq pc 21 then jn_of (js_imul) else jn_none) else (bif Nat.beq pc 22 then jn_newa else jn_none)) else (bif Nat.ble pc 24 then (bif Nat.beq pc 24 then jn_putr 6 2 else jn_none) else (bif Nat.beq pc 27 then jn_vr else jn_none))))
theorem jnk_76_0 : jn_Snd 76 0 (jn_of (js_al 0 1)) := jn_lift (jo_aload_n (i := 0) (w := 0) rfl jd_76_0)
theorem jnk_76_1 : jn_Snd 76 1 (jn_obj) := jno_obj rfl jw_90 jw_17 jw_18 jd_76_1
theorem jnk_76_4 : jn_Snd 76 4 (jn_of (js_al 0 1)) := jn_lift (jo_aload_n (i := 0) (w := 0) rfl jd_76_4)
theorem jnk_76_5 : jn_Snd 76 5 (jn_of (js_il 1 1)) := jn_lift (jo_iload_n (i := 1) (w := 1) rfl jd_76_5)
theorem jnk_76_6 : jn_Snd 76 6 (jn_newa) := jno_newa (at_ := .int) rfl jw_28 jd_76_6
theorem jnk_76_8 : jn_Snd 76 8 (jn_putr 6 0) := jno_putr rfl rfl jf_6_9 (fun C T N h => by cases h; exact ⟨rfl, rfl⟩) ⟨_, _, _, rfl, jw_91⟩ (fun a => ⟨rfl, rfl⟩) jd_76_8
theorem jnk_76_11 : jn_Snd 76 11 (jn_of (js_al 0 1)) := jn_lift (jo_aload_n (i := 0) (w := 0) rfl jd_76_11)
theorem jnk_76_12 : jn_Snd 76 12 (jn_of (js_il 1 1)) := jn_lift (jo_iload_n (i := 1) (w := 1) rfl jd_76_12)
theorem jnk_76_13 : jn_Snd 76 13 (jn_newa) := jno_newa (at_ := .int) rfl jw_28 jd_76_13
theorem jnk_76_15 : jn_Snd 76 15 (jn_putr 6 1) := jno_putr rfl rfl jf_6_15 (fun C T N h => by cases h; exact ⟨rfl, rfl⟩) ⟨_, _, _, rfl, jw_94⟩ (fun a => ⟨rfl, rfl⟩) jd_76_15
theorem jnk_76_18 : jn_Snd 76 18 (jn_of (js_al 0 1)) := jn_lift (jo_aload_n (i := 0) (w := 0) rfl jd_76_18)
theorem jnk_76_19 : jn_Snd 76 19 (jn_of (js_il 1 1)) := jn_lift (jo_iload_n (i := 1) (w := 1) rfl jd_76_19)
theorem jnk_76_20 : jn_Snd 76 20 (jn_of (js_c 3 1)) := jn_lift (jo_iconst (z := 3) jd_76_20 rfl)
theorem jnk_76_21 : jn_Snd 76 21 (jn_of (js_imul)) := jn_lift (jo_imul jd_76_21)
theorem jnk_76_22 : jn_Snd 76 22 (jn_newa) := jno_newa (at_ := .int) rfl jw_28 jd_76_22
theorem jnk_76_24 : jn_Snd 76 24 (jn_putr 6 2) := jno_putr rfl rfl jf_6_18 (fun C T N h => by cases h; exact ⟨rfl, rfl⟩) ⟨_, _, _, rfl, jw_97⟩ (fun a => ⟨rfl, rfl⟩) jd_76_24
theorem jnk_76_27 : jn_Snd 76 27 (jn_vr) := jno_vr jd_76_27
theorem jnk_76 : jn_So 76 jnt_76 := fun pc => jno_le (jno_le (jno_le (jno_le (jno_le (jno_at (jnk_76_0)) (jno_at (jnk_76_1))) (jno_at (jnk_76_4))) (jno_le (jno_at (jnk_76_5)) (jno_at (jnk_76_6)))) (jno_le (jno_le (jno_at (jnk_76_8)) (jno_at (jnk_76_11))) (jno_le (jno_at (jnk_76_12)) (jno_at (jnk_76_13))))) (jno_le (jno_le (jno_le (jno_at (jnk_76_15)) (jno_at (jnk_76_18))) (jno_le (jno_at (jnk_76_19)) (jno_at (jnk_76_20)))) (jno_le (jno_le (jno_at (jnk_76_21)) (jno_at (jnk_76_22))) (jno_le (jno_at (jnk_76_24)) (jno_at (jnk_76_27)))))
/-! ScriptLedger$OutputRow.hasRoomFor(I)Z -/
theorem jd_77_0 : decode prog_5_method_2_code 0 = .ok (.aload_n 0, 1) := by decide +kernel
theorem jd_77_1 : decode prog_5_method_2_code 1 = .ok (.getfield 21, 3) := by decide +kernel
theorem jd_77_4 : decode prog_5_method_2_code 4 = .ok (.iload_n 1, 1) := by decide +kernel
theorem jd_77_5 : decode prog_5_method_2_code 5 = .ok (.iadd, 1) := by decide +kernel
theorem jd_77_6 : decode prog_5_method_2_code 6 = .ok (.aload_n 0, 1) := by decide +kernel
theorem jd_77_7 : decode prog_5_method_2_code 7 = .ok (.getfield 9, 3) := by decide +kernel
theorem jd_77_10 : decode prog_5_method_2_code 10 = .ok (.arraylength, 1) := by decide +kernel
theorem jd_77_11 : decode prog_5_method_2_code 11 = .ok (.if_icmp .gt 7, 3) := by decide +kernel
theorem jd_77_14 : decode prog_5_method_2_code 14 = .ok (.iconst 1, 1) := by decide +kernel
theorem jd_77_15 : decode prog_5_method_2_code 15 = .ok (.goto 4, 3) := by decide +kernel
theorem jd_77_18 : decode prog_5_method_2_code 18 = .ok (.iconst 0, 1) := by decide +kernel
theorem jd_77_19 : decode prog_5_method_2_code 19 = .ok (.ireturn, 1) := by decide +kernel
def jt_77 (pc : Nat) : jx_Sp := bif Nat.ble pc 7 then (bif Nat.ble pc 4 then (bif Nat.ble pc 1 then (bif Nat.ble pc 0 then (bif Nat.beq pc 0 then js_al 0 1 else js_none) else (bif Nat.beq pc 1 then js_getf 6 3 else js_none)) else (bif Nat.beq pc 4 then js_il 1 1 else js_none)) else (bif Nat.ble pc 6 then (bif Nat.ble pc 5 then (bif Nat.beq pc 5 then js_iadd else js_none) else (bif Nat.beq pc 6 then js_al 0 1 else js_none)) else (bif Nat.beq pc 7 then js_getf 6 0 else js_none))) else (bif Nat.ble pc 14 then (bif Nat.ble pc 11 then (bif Nat.ble pc 10 then (bif Nat.beq pc 10 then js_len else js_none) else (bif Nat.beq pc 11 then js_cgt 18 else js_none)) else (bif Nat.beq pc 14 then js_c 1 1 else js_none)) else (bif Nat.ble pc 18 then (bif Nat.ble pc 15 then (bif Nat.beq pc 15 then js_go 19 else js_none) else (bif Nat.beq pc 18 then js_c 0 1 else js_none)) else (bif Nat.beq pc 19 then js_zr else js_none)))
theorem jk_77_0 : jx_Snd 77 0 (js_al 0 1) := jo_aload_n (i := 0) (w := 0) rfl jd_77_0
theorem jk_77_1 : jx_Snd 77 1 (js_getf 6 3) := jo_getf rfl jf_6_21 jd_77_1
theorem jk_77_4 : jx_Snd 77 4 (js_il 1 1) := jo_iload_n (i := 1) (w := 1) rfl jd_77_4
theorem jk_77_5 : jx_Snd 77 5 (js_iadd) := jo_iadd jd_77_5
theorem jk_77_6 : jx_Snd 77 6 (js_al 0 1) := jo_aload_n (i := 0) (w := 0) rfl jd_77_6
theorem jk_77_7 : jx_Snd 77 7 (js_getf 6 0) := jo_getf rfl jf_6_9 jd_77_7
theorem jk_77_10 : jx_Snd 77 10 (js_len) := jo_len jd_77_10
theorem jk_77_11 : jx_Snd 77 11 (js_cgt 18) := jo_cgt (o := 7) rfl jd_77_11
theorem jk_77_14 : jx_Snd 77 14 (js_c 1 1) := jo_iconst (z := 1) jd_77_14 rfl
theorem jk_77_15 : jx_Snd 77 15 (js_go 19) := jo_goto (o := 4) rfl jd_77_15
theorem jk_77_18 : jx_Snd 77 18 (js_c 0 1) := jo_iconst (z := 0) jd_77_18 rfl
theorem jk_77_19 : jx_Snd 77 19 (js_zr) := jo_zr rfl jd_77_19
theorem jk_77 : jx_So 77 jt_77 := fun pc => jo_le (jo_le (jo_le (jo_le (jo_at (jk_77_0)) (jo_at (jk_77_1))) (jo_at (jk_77_4))) (jo_le (jo_le (jo_at (jk_77_5)) (jo_at (jk_77_6))) (jo_at (jk_77_7)))) (jo_le (jo_le (jo_le (jo_at (jk_77_10)) (jo_at (jk_77_11))) (jo_at (jk_77_14))) (jo_le (jo_le (jo_at (jk_77_15)) (jo_at (jk_77_18))) (jo_at (jk_77_19))))
theorem ji_77 {l : Launch} {D : va_G} {cA : ClassId} {ρ : Nat → Nat} {Λ : List jx_Lc} {d : Nat} {Q : Option Value → jx_St → Prop} {σ : jx_St} {z0 : Nat} {a1 : Int32} (h : jt_77 0 Λ jx_tb0 (jx_rn Λ jx_tb0 jt_77 (fun k' as σ K => jx_C l D cA ρ Λ d k' as σ K) Q (jx_J l D cA ρ Λ (jx_A ρ Λ) jx_tb0 (d + 1) 77 Q) [] 400) (fun k' as σ K => jx_C l D cA ρ Λ d k' as σ K) Q 0 [(0, .ref z0), (1, .int a1)] [] σ) : jx_C l D cA ρ Λ (d + 1) 77 [.ref z0, .int a1] σ Q := jx_in jk_77 400 [] rfl (Nat.le_of_ble_eq_true rfl) h
/-! ScriptLedger$OutputRow.add(IIIII)V -/
theorem jd_78_0 : decode prog_5_method_3_code 0 = .ok (.aload_n 0, 1) := by decide +kernel
theorem jd_78_1 : decode prog_5_method_3_code 1 = .ok (.iconst 1, 1) := by decide +kernel
theorem jd_78_2 : decode prog_5_method_3_code 2 = .ok (.invokevirtual 25, 3) := by decide +kernel
theorem jd_78_5 : decode prog_5_method_3_code 5 = .ok (.ifCond .ne 4, 3) := by decide +kernel
theorem jd_78_8 : decode prog_5_method_3_code 8 = .ok (.return_, 1) := by decide +kernel
theorem jd_78_9 : decode prog_5_method_3_code 9 = .ok (.aload_n 0, 1) := by decide +kernel
theorem jd_78_10 : decode prog_5_method_3_code 10 = .ok (.getfield 9, 3) := by decide +kernel
theorem jd_78_13 : decode prog_5_method_3_code 13 = .ok (.aload_n 0, 1) := by decide +kernel
theorem jd_78_14 : decode prog_5_method_3_code 14 = .ok (.getfield 21, 3) := by decide +kernel
theorem jd_78_17 : decode prog_5_method_3_code 17 = .ok (.iload_n 1, 1) := by decide +kernel
theorem jd_78_18 : decode prog_5_method_3_code 18 = .ok (.iastore, 1) := by decide +kernel
theorem jd_78_19 : decode prog_5_method_3_code 19 = .ok (.aload_n 0, 1) := by decide +kernel
theorem jd_78_20 : decode prog_5_method_3_code 20 = .ok (.getfield 15, 3) := by decide +kernel
theorem jd_78_23 : decode prog_5_method_3_code 23 = .ok (.aload_n 0, 1) := by decide +kernel
theorem jd_78_24 : decode prog_5_method_3_code 24 = .ok (.getfield 21, 3) := by decide +kernel
theorem jd_78_27 : decode prog_5_method_3_code 27 = .ok (.iload_n 2, 1) := by decide +kernel
theorem jd_78_28 : decode prog_5_method_3_code 28 = .ok (.iastore, 1) := by decide +kernel
theorem jd_78_29 : decode prog_5_method_3_code 29 = .ok (.aload_n 0, 1) := by decide +kernel
theorem jd_78_30 : decode prog_5_method_3_code 30 = .ok (.getfield 18, 3) := by decide +kernel
theorem jd_78_33 : decode prog_5_method_3_code 33 = .ok (.aload_n 0, 1) := by decide +kernel
theorem jd_78_34 : decode prog_5_method_3_code 34 = .ok (.getfield 21, 3) := by decide +kernel
theorem jd_78_37 : decode prog_5_method_3_code 37 = .ok (.iconst 3, 1) := by decide +kernel
theorem jd_78_38 : decode prog_5_method_3_code 38 = .ok (.imul, 1) := by decide +kernel
theorem jd_78_39 : decode prog_5_method_3_code 39 = .ok (.iload_n 3, 1) := by decide +kernel
theorem jd_78_40 : decode prog_5_method_3_code 40 = .ok (.iastore, 1) := by decide +kernel
theorem jd_78_41 : decode prog_5_method_3_code 41 = .ok (.aload_n 0, 1) := by decide +kernel
theorem jd_78_42 : decode prog_5_method_3_code 42 = .ok (.getfield 18, 3) := by decide +kernel
theorem jd_78_45 : decode prog_5_method_3_code 45 = .ok (.aload_n 0, 1) := by decide +kernel
theorem jd_78_46 : decode prog_5_method_3_code 46 = .ok (.getfield 21, 3) := by decide +kernel
theorem jd_78_49 : decode prog_5_method_3_code 49 = .ok (.iconst 3, 1) := by decide +kernel
theorem jd_78_50 : decode prog_5_method_3_code 50 = .ok (.imul, 1) := by decide +kernel
theorem jd_78_51 : decode prog_5_method_3_code 51 = .ok (.iconst 1, 1) := by decide +kernel
theorem jd_78_52 : decode prog_5_method_3_code 52 = .ok (.iadd, 1) := by decide +kernel
theorem jd_78_53 : decode prog_5_method_3_code 53 = .ok (.iload 4, 2) := by decide +kernel
theorem jd_78_55 : decode prog_5_method_3_code 55 = .ok (.iastore, 1) := by decide +kernel
theorem jd_78_56 : decode prog_5_method_3_code 56 = .ok (.aload_n 0, 1) := by decide +kernel
theorem jd_78_57 : decode prog_5_method_3_code 57 = .ok (.getfield 18, 3) := by decide +kernel
theorem jd_78_60 : decode prog_5_method_3_code 60 = .ok (.aload_n 0, 1) := by decide +kernel
theorem jd_78_61 : decode prog_5_method_3_code 61 = .ok (.getfield 21, 3) := by decide +kernel
theorem jd_78_64 : decode prog_5_method_3_code 64 = .ok (.iconst 3, 1) := by decide +kernel
theorem jd_78_65 : decode prog_5_method_3_code 65 = .ok (.imul, 1) := by decide +kernel
theorem jd_78_66 : decode prog_5_method_3_code 66 = .ok (.iconst 2, 1) := by decide +kernel
theorem jd_78_67 : decode prog_5_method_3_code 67 = .ok (.iadd, 1) := by decide +kernel
theorem jd_78_68 : decode prog_5_method_3_code 68 = .ok (.iload 5, 2) := by decide +kernel
theorem jd_78_70 : decode prog_5_method_3_code 70 = .ok (.iastore, 1) := by decide +kernel
theorem jd_78_71 : decode prog_5_method_3_code 71 = .ok (.aload_n 0, 1) := by decide +kernel
theorem jd_78_72 : decode prog_5_method_3_code 72 = .ok (.dup, 1) := by decide +kernel
theorem jd_78_73 : decode prog_5_method_3_code 73 = .ok (.getfield 21, 3) := by decide +kernel
theorem jd_78_76 : decode prog_5_method_3_code 76 = .ok (.iconst 1, 1) := by decide +kernel
theorem jd_78_77 : decode prog_5_method_3_code 77 = .ok (.iadd, 1) := by decide +kernel
theorem jd_78_78 : decode prog_5_method_3_code 78 = .ok (.putfield 21, 3) := by decide +kernel
theorem jd_78_81 : decode prog_5_method_3_code 81 = .ok (.return_, 1) := by decide +kernel
def jt_78 (pc : Nat) : jx_Sp := bif Nat.ble pc 41 then (bif Nat.ble pc 20 then (bif Nat.ble pc 10 then (bif Nat.ble pc 5 then (bif Nat.ble pc 1 then (bif Nat.ble pc 0 then (bif Nat.beq pc 0 then js_al 0 1 else js_none) else (bif Nat.beq pc 1 then js_c 1 1 else js_none)) else (bif Nat.ble pc 2 then (bif Nat.beq pc 2 then js_v1 6 77 else js_none) else (bif Nat.beq pc 5 then js_ifne 9 else js_none))) else (bif Nat.ble pc 9 then (bif Nat.ble pc 8 then (bif Nat.beq pc 8 then js_vr else js_none) else (bif Nat.beq pc 9 then js_al 0 1 else js_none)) else (bif Nat.beq pc 10 then js_getf 6 0 else js_none))) else (bif Nat.ble pc 17 then (bif Nat.ble pc 14 then (bif Nat.ble pc 13 then (bif Nat.beq pc 13 then js_al 0 1 else js_none) else (bif Nat.beq pc 14 then js_getf 6 3 else js_none)) else (bif Nat.beq pc 17 then js_il 1 1 else js_none)) else (bif Nat.ble pc 19 then (bif Nat.ble pc 18 then (bif Nat.beq pc 18 then js_ast else js_none) else (bif Nat.beq pc 19 then js_al 0 1 else js_none)) else (bif Nat.beq pc 20 then js_getf 6 1 else js_none)))) else (bif Nat.ble pc 33 then (bif Nat.ble pc 28 then (bif Nat.ble pc 24 then (bif Nat.ble pc 23 then (bif Nat.beq pc 23 then js_al 0 1 else js_none) else (bif Nat.beq pc 24 then js_getf 6 3 else js_none)) else (bif Nat.ble pc 27 then (bif Nat.beq pc 27 then js_il 2 1 else js_none) else (bif Nat.beq pc 28 then js_ast else js_none))) else (bif Nat.ble pc 30 then (bif Nat.ble pc 29 then (bif Nat.beq pc 29 then js_al 0 1 else js_none) else (bif Nat.beq pc 30 then js_getf 6 2 else js_none)) else (bif Nat.beq pc 33 then js_al 0 1 else js_none))) else (bif Nat.ble pc 38 then (bif Nat.ble pc 37 then (bif Nat.ble pc 34 then (bif Nat.beq pc 34 then js_getf 6 3 else js_none) else (bif Nat.beq pc 37 then js_c 3 1 else js_none)) else (bif Nat.beq pc 38 then js_imul else js_none)) else (bif Nat.ble pc 40 then (bif Nat.ble pc 39 then (bif Nat.beq pc 39 then js_il 3 1 else js_none) else (bif Nat.beq pc 40 then js_ast else js_none)) else (bif Nat.beq pc 41 then js_al 0 1 else js_none))))) else (bif Nat.ble pc 61 then (bif Nat.ble pc 52 then (bif Nat.ble pc 49 then (bif Nat.ble pc 45 then (bif Nat.ble pc 42 then (bif Nat.beq pc 42 then js_getf 6 2 else js_none) else (bif Nat.beq pc 45 then js_al 0 1 else js_none)) else (bif Nat.ble pc 46 then (bif Nat.beq pc 46 then js_getf 6 3 else js_none) else (bif Nat.beq pc 49 then js_c 3 1 else js_none))) else (bif Nat.ble pc 51 then (bif Nat.ble pc 50 then (bif Nat.beq pc 50 then js_imul else js_none) else (bif Nat.beq pc 51 then js_c 1 1 else js_none)) else (bif Nat.beq pc 52 then js_iadd else js_none))) else (bif Nat.ble pc 56 then (bif Nat.ble pc 55 then (bif Nat.ble pc 53 then (bif Nat.beq pc 53 then js_il 4 2 else js_none) else (bif Nat.beq pc 55 then js_ast else js_none)) else (bif Nat.beq pc 56 then js_al 0 1 else js_none)) else (bif Nat.ble pc 60 then (bif Nat.ble pc 57 then (bif Nat.beq pc 57 then js_getf 6 2 else js_none) else (bif Nat.beq pc 60 then js_al 0 1 else js_none)) else (bif Nat.beq pc 61 then js_getf 6 3 else js_none)))) else (bif Nat.ble pc 71 then (bif Nat.ble pc 67 then (bif Nat.ble pc 65 then (bif Nat.ble pc 64 then (bif Nat.beq pc 64 then js_c 3 1 else js_none) else (bif Nat.beq pc 65 then js_imul else js_none)) else (bif Nat.ble pc 66 then (bif Nat.beq pc 66 then js_c 2 1 else js_none) else (bif Nat.beq pc 67 then js_iadd else js_none))) else (bif Nat.ble pc 70 then (bif Nat.ble pc 68 then (bif Nat.beq pc 68 then js_il 5 2 else js_none) else (bif Nat.beq pc 70 then js_ast else js_none)) else (bif Nat.beq pc 71 then js_al 0 1 else js_none))) else (bif Nat.ble pc 76 then (bif Nat.ble pc 73 then (bif Nat.ble pc 72 then (bif Nat.beq pc 72 then js_dup else js_none) else (bif Nat.beq pc 73 then js_getf 6 3 else js_none)) else (bif Nat.beq pc 76 then js_c 1 1 else js_none)) else (bif Nat.ble pc 78 then (bif Nat.ble pc 77 then (bif Nat.beq pc 77 then js_iadd else js_none) else (bif Nat.beq pc 78 then js_putf 6 3 false else js_none)) else (bif Nat.beq pc 81 then js_vr else js_none)))))
theorem jk_78_0 : jx_Snd 78 0 (js_al 0 1) := jo_aload_n (i := 0) (w := 0) rfl jd_78_0
theorem jk_78_1 : jx_Snd 78 1 (js_c 1 1) := jo_iconst (z := 1) jd_78_1 rfl
theorem jk_78_2 : jx_Snd 78 2 (js_v1 6 77) := jo_v1 rfl jok_77 (Or.inl jw_109) jw_110 jw_111 rfl jd_78_2
theorem jk_78_5 : jx_Snd 78 5 (js_ifne 9) := jo_ifne (o := 4) rfl jd_78_5
theorem jk_78_8 : jx_Snd 78 8 (js_vr) := jo_vr rfl jd_78_8
theorem jk_78_9 : jx_Snd 78 9 (js_al 0 1) := jo_aload_n (i := 0) (w := 0) rfl jd_78_9
theorem jk_78_10 : jx_Snd 78 10 (js_getf 6 0) := jo_getf rfl jf_6_9 jd_78_10
theorem jk_78_13 : jx_Snd 78 13 (js_al 0 1) := jo_aload_n (i := 0) (w := 0) rfl jd_78_13
theorem jk_78_14 : jx_Snd 78 14 (js_getf 6 3) := jo_getf rfl jf_6_21 jd_78_14
theorem jk_78_17 : jx_Snd 78 17 (js_il 1 1) := jo_iload_n (i := 1) (w := 1) rfl jd_78_17
theorem jk_78_18 : jx_Snd 78 18 (js_ast) := jo_ast jd_78_18
theorem jk_78_19 : jx_Snd 78 19 (js_al 0 1) := jo_aload_n (i := 0) (w := 0) rfl jd_78_19
theorem jk_78_20 : jx_Snd 78 20 (js_getf 6 1) := jo_getf rfl jf_6_15 jd_78_20
theorem jk_78_23 : jx_Snd 78 23 (js_al 0 1) := jo_aload_n (i := 0) (w := 0) rfl jd_78_23
theorem jk_78_24 : jx_Snd 78 24 (js_getf 6 3) := jo_getf rfl jf_6_21 jd_78_24
theorem jk_78_27 : jx_Snd 78 27 (js_il 2 1) := jo_iload_n (i := 2) (w := 2) rfl jd_78_27
theorem jk_78_28 : jx_Snd 78 28 (js_ast) := jo_ast jd_78_28
theorem jk_78_29 : jx_Snd 78 29 (js_al 0 1) := jo_aload_n (i := 0) (w := 0) rfl jd_78_29
theorem jk_78_30 : jx_Snd 78 30 (js_getf 6 2) := jo_getf rfl jf_6_18 jd_78_30
theorem jk_78_33 : jx_Snd 78 33 (js_al 0 1) := jo_aload_n (i := 0) (w := 0) rfl jd_78_33
theorem jk_78_34 : jx_Snd 78 34 (js_getf 6 3) := jo_getf rfl jf_6_21 jd_78_34
theorem jk_78_37 : jx_Snd 78 37 (js_c 3 1) := jo_iconst (z := 3) jd_78_37 rfl
theorem jk_78_38 : jx_Snd 78 38 (js_imul) := jo_imul jd_78_38
theorem jk_78_39 : jx_Snd 78 39 (js_il 3 1) := jo_iload_n (i := 3) (w := 3) rfl jd_78_39
theorem jk_78_40 : jx_Snd 78 40 (js_ast) := jo_ast jd_78_40
theorem jk_78_41 : jx_Snd 78 41 (js_al 0 1) := jo_aload_n (i := 0) (w := 0) rfl jd_78_41
theorem jk_78_42 : jx_Snd 78 42 (js_getf 6 2) := jo_getf rfl jf_6_18 jd_78_42
theorem jk_78_45 : jx_Snd 78 45 (js_al 0 1) := jo_aload_n (i := 0) (w := 0) rfl jd_78_45
theorem jk_78_46 : jx_Snd 78 46 (js_getf 6 3) := jo_getf rfl jf_6_21 jd_78_46
theorem jk_78_49 : jx_Snd 78 49 (js_c 3 1) := jo_iconst (z := 3) jd_78_49 rfl
theorem jk_78_50 : jx_Snd 78 50 (js_imul) := jo_imul jd_78_50
theorem jk_78_51 : jx_Snd 78 51 (js_c 1 1) := jo_iconst (z := 1) jd_78_51 rfl
theorem jk_78_52 : jx_Snd 78 52 (js_iadd) := jo_iadd jd_78_52
theorem jk_78_53 : jx_Snd 78 53 (js_il 4 2) := jo_iload (i := 4) jd_78_53
theorem jk_78_55 : jx_Snd 78 55 (js_ast) := jo_ast jd_78_55
theorem jk_78_56 : jx_Snd 78 56 (js_al 0 1) := jo_aload_n (i := 0) (w := 0) rfl jd_78_56
theorem jk_78_57 : jx_Snd 78 57 (js_getf 6 2) := jo_getf rfl jf_6_18 jd_78_57
theorem jk_78_60 : jx_Snd 78 60 (js_al 0 1) := jo_aload_n (i := 0) (w := 0) rfl jd_78_60
theorem jk_78_61 : jx_Snd 78 61 (js_getf 6 3) := jo_getf rfl jf_6_21 jd_78_61
theorem jk_78_64 : jx_Snd 78 64 (js_c 3 1) := jo_iconst (z := 3) jd_78_64 rfl
theorem jk_78_65 : jx_Snd 78 65 (js_imul) := jo_imul jd_78_65
theorem jk_78_66 : jx_Snd 78 66 (js_c 2 1) := jo_iconst (z := 2) jd_78_66 rfl
theorem jk_78_67 : jx_Snd 78 67 (js_iadd) := jo_iadd jd_78_67
theorem jk_78_68 : jx_Snd 78 68 (js_il 5 2) := jo_iload (i := 5) jd_78_68
theorem jk_78_70 : jx_Snd 78 70 (js_ast) := jo_ast jd_78_70
theorem jk_78_71 : jx_Snd 78 71 (js_al 0 1) := jo_aload_n (i := 0) (w := 0) rfl jd_78_71
theorem jk_78_72 : jx_Snd 78 72 (js_dup) := jo_dup jd_78_72
theorem jk_78_73 : jx_Snd 78 73 (js_getf 6 3) := jo_getf rfl jf_6_21 jd_78_73
theorem jk_78_76 : jx_Snd 78 76 (js_c 1 1) := jo_iconst (z := 1) jd_78_76 rfl
theorem jk_78_77 : jx_Snd 78 77 (js_iadd) := jo_iadd jd_78_77
theorem jk_78_78 : jx_Snd 78 78 (js_putf 6 3 false) := jo_putf (z := false) rfl jf_6_21 (fun C T N h => by cases h; rfl) jd_78_78
theorem jk_78_81 : jx_Snd 78 81 (js_vr) := jo_vr rfl jd_78_81
theorem jk_78 : jx_So 78 jt_78 := fun pc => jo_le (jo_le (jo_le (jo_le (jo_le (jo_le (jo_at (jk_78_0)) (jo_at (jk_78_1))) (jo_le (jo_at (jk_78_2)) (jo_at (jk_78_5)))) (jo_le (jo_le (jo_at (jk_78_8)) (jo_at (jk_78_9))) (jo_at (jk_78_10)))) (jo_le (jo_le (jo_le (jo_at (jk_78_13)) (jo_at (jk_78_14))) (jo_at (jk_78_17))) (jo_le (jo_le (jo_at (jk_78_18)) (jo_at (jk_78_19))) (jo_at (jk_78_20))))) (jo_le (jo_le (jo_le (jo_le (jo_at (jk_78_23)) (jo_at (jk_78_24))) (jo_le (jo_at (jk_78_27)) (jo_at (jk_78_28)))) (jo_le (jo_le (jo_at (jk_78_29)) (jo_at (jk_78_30))) (jo_at (jk_78_33)))) (jo_le (jo_le (jo_le (jo_at (jk_78_34)) (jo_at (jk_78_37))) (jo_at (jk_78_38))) (jo_le (jo_le (jo_at (jk_78_39)) (jo_at (jk_78_40))) (jo_at (jk_78_41)))))) (jo_le (jo_le (jo_le (jo_le (jo_le (jo_at (jk_78_42)) (jo_at (jk_78_45))) (jo_le (jo_at (jk_78_46)) (jo_at (jk_78_49)))) (jo_le (jo_le (jo_at (jk_78_50)) (jo_at (jk_78_51))) (jo_at (jk_78_52)))) (jo_le (jo_le (jo_le (jo_at (jk_78_53)) (jo_at (jk_78_55))) (jo_at (jk_78_56))) (jo_le (jo_le (jo_at (jk_78_57)) (jo_at (jk_78_60))) (jo_at (jk_78_61))))) (jo_le (jo_le (jo_le (jo_le (jo_at (jk_78_64)) (jo_at (jk_78_65))) (jo_le (jo_at (jk_78_66)) (jo_at (jk_78_67)))) (jo_le (jo_le (jo_at (jk_78_68)) (jo_at (jk_78_70))) (jo_at (jk_78_71)))) (jo_le (jo_le (jo_le (jo_at (jk_78_72)) (jo_at (jk_78_73))) (jo_at (jk_78_76))) (jo_le (jo_le (jo_at (jk_78_77)) (jo_at (jk_78_78))) (jo_at (jk_78_81))))))
theorem ji_78 {l : Launch} {D : va_G} {cA : ClassId} {ρ : Nat → Nat} {Λ : List jx_Lc} {d : Nat} {Q : Option Value → jx_St → Prop} {σ : jx_St} {z0 : Nat} {a1 : Int32} {a2 : Int32} {a3 : Int32} {a4 : Int32} {a5 : Int32} (h : jt_78 0 Λ jx_tb0 (jx_rn Λ jx_tb0 jt_78 (fun k' as σ K => jx_C l D cA ρ Λ d k' as σ K) Q (jx_J l D cA ρ Λ (jx_A ρ Λ) jx_tb0 (d + 1) 78 Q) [] 400) (fun k' as σ K => jx_C l D cA ρ Λ d k' as σ K) Q 0 [(0, .ref z0), (1, .int a1), (2, .int a2), (3, .int a3), (4, .int a4), (5, .int a5)] [] σ) : jx_C l D cA ρ Λ (d + 1) 78 [.ref z0, .int a1, .int a2, .int a3, .int a4, .int a5] σ Q := jx_in jk_78 400 [] rfl (Nat.le_of_ble_eq_true rfl) h
/-! ScriptLedger$OutputRow.amountOf(II)I -/
theorem jd_79_0 : decode prog_5_method_4_code 0 = .ok (.aload_n 0, 1) := by decide +kernel
theorem jd_79_1 : decode prog_5_method_4_code 1 = .ok (.getfield 18, 3) := by decide +kernel
theorem jd_79_4 : decode prog_5_method_4_code 4 = .ok (.iload_n 1, 1) := by decide +kernel
theorem jd_79_5 : decode prog_5_method_4_code 5 = .ok (.iconst 3, 1) := by decide +kernel
theorem jd_79_6 : decode prog_5_method_4_code 6 = .ok (.imul, 1) := by decide +kernel
theorem jd_79_7 : decode prog_5_method_4_code 7 = .ok (.iload_n 2, 1) := by decide +kernel
theorem jd_79_8 : decode prog_5_method_4_code 8 = .ok (.iadd, 1) := by decide +kernel
theorem jd_79_9 : decode prog_5_method_4_code 9 = .ok (.iaload, 1) := by decide +kernel
theorem jd_79_10 : decode prog_5_method_4_code 10 = .ok (.ireturn, 1) := by decide +kernel
def jt_79 (pc : Nat) : jx_Sp := bif Nat.ble pc 6 then (bif Nat.ble pc 4 then (bif Nat.ble pc 1 then (bif Nat.ble pc 0 then (bif Nat.beq pc 0 then js_al 0 1 else js_none) else (bif Nat.beq pc 1 then js_getf 6 2 else js_none)) else (bif Nat.beq pc 4 then js_il 1 1 else js_none)) else (bif Nat.ble pc 5 then (bif Nat.beq pc 5 then js_c 3 1 else js_none) else (bif Nat.beq pc 6 then js_imul else js_none))) else (bif Nat.ble pc 8 then (bif Nat.ble pc 7 then (bif Nat.beq pc 7 then js_il 2 1 else js_none) else (bif Nat.beq pc 8 then js_iadd else js_none)) else (bif Nat.ble pc 9 then (bif Nat.beq pc 9 then js_ald else js_none) else (bif Nat.beq pc 10 then js_ir else js_none)))
theorem jk_79_0 : jx_Snd 79 0 (js_al 0 1) := jo_aload_n (i := 0) (w := 0) rfl jd_79_0
theorem jk_79_1 : jx_Snd 79 1 (js_getf 6 2) := jo_getf rfl jf_6_18 jd_79_1
theorem jk_79_4 : jx_Snd 79 4 (js_il 1 1) := jo_iload_n (i := 1) (w := 1) rfl jd_79_4
theorem jk_79_5 : jx_Snd 79 5 (js_c 3 1) := jo_iconst (z := 3) jd_79_5 rfl
theorem jk_79_6 : jx_Snd 79 6 (js_imul) := jo_imul jd_79_6
theorem jk_79_7 : jx_Snd 79 7 (js_il 2 1) := jo_iload_n (i := 2) (w := 2) rfl jd_79_7
theorem jk_79_8 : jx_Snd 79 8 (js_iadd) := jo_iadd jd_79_8
theorem jk_79_9 : jx_Snd 79 9 (js_ald) := jo_ald jd_79_9
theorem jk_79_10 : jx_Snd 79 10 (js_ir) := jo_ir rfl jd_79_10
theorem jk_79 : jx_So 79 jt_79 := fun pc => jo_le (jo_le (jo_le (jo_le (jo_at (jk_79_0)) (jo_at (jk_79_1))) (jo_at (jk_79_4))) (jo_le (jo_at (jk_79_5)) (jo_at (jk_79_6)))) (jo_le (jo_le (jo_at (jk_79_7)) (jo_at (jk_79_8))) (jo_le (jo_at (jk_79_9)) (jo_at (jk_79_10))))
theorem ji_79 {l : Launch} {D : va_G} {cA : ClassId} {ρ : Nat → Nat} {Λ : List jx_Lc} {d : Nat} {Q : Option Value → jx_St → Prop} {σ : jx_St} {z0 : Nat} {a1 : Int32} {a2 : Int32} (h : jt_79 0 Λ jx_tb0 (jx_rn Λ jx_tb0 jt_79 (fun k' as σ K => jx_C l D cA ρ Λ d k' as σ K) Q (jx_J l D cA ρ Λ (jx_A ρ Λ) jx_tb0 (d + 1) 79 Q) [] 400) (fun k' as σ K => jx_C l D cA ρ Λ d k' as σ K) Q 0 [(0, .ref z0), (1, .int a1), (2, .int a2)] [] σ) : jx_C l D cA ρ Λ (d + 1) 79 [.ref z0, .int a1, .int a2] σ Q := jx_in jk_79 400 [] rfl (Nat.le_of_ble_eq_true rfl) h
/-! ScriptLedger$OutputRow.sum(I)I -/
theorem jd_80_0 : decode prog_5_method_5_code 0 = .ok (.iconst 0, 1) := by decide +kernel
theorem jd_80_1 : decode prog_5_method_5_code 1 = .ok (.istore_n 2, 1) := by decide +kernel
theorem jd_80_2 : decode prog_5_method_5_code 2 = .ok (.iconst 0, 1) := by decide +kernel
theorem jd_80_3 : decode prog_5_method_5_code 3 = .ok (.istore_n 3, 1) := by decide +kernel
theorem jd_80_4 : decode prog_5_method_5_code 4 = .ok (.iload_n 3, 1) := by decide +kernel
theorem jd_80_5 : decode prog_5_method_5_code 5 = .ok (.aload_n 0, 1) := by decide +kernel
theorem jd_80_6 : decode prog_5_method_5_code 6 = .ok (.getfield 21, 3) := by decide +kernel
theorem jd_80_9 : decode prog_5_method_5_code 9 = .ok (.if_icmp .ge 18, 3) := by decide +kernel
theorem jd_80_12 : decode prog_5_method_5_code 12 = .ok (.iload_n 2, 1) := by decide +kernel
theorem jd_80_13 : decode prog_5_method_5_code 13 = .ok (.aload_n 0, 1) := by decide +kernel
theorem jd_80_14 : decode prog_5_method_5_code 14 = .ok (.iload_n 3, 1) := by decide +kernel
theorem jd_80_15 : decode prog_5_method_5_code 15 = .ok (.iload_n 1, 1) := by decide +kernel
theorem jd_80_16 : decode prog_5_method_5_code 16 = .ok (.invokevirtual 29, 3) := by decide +kernel
theorem jd_80_19 : decode prog_5_method_5_code 19 = .ok (.iadd, 1) := by decide +kernel
theorem jd_80_20 : decode prog_5_method_5_code 20 = .ok (.istore_n 2, 1) := by decide +kernel
theorem jd_80_21 : decode prog_5_method_5_code 21 = .ok (.iinc 3 1, 3) := by decide +kernel
theorem jd_80_24 : decode prog_5_method_5_code 24 = .ok (.goto (-20), 3) := by decide +kernel
theorem jd_80_27 : decode prog_5_method_5_code 27 = .ok (.iload_n 2, 1) := by decide +kernel
theorem jd_80_28 : decode prog_5_method_5_code 28 = .ok (.ireturn, 1) := by decide +kernel
def jt_80 (pc : Nat) : jx_Sp := bif Nat.ble pc 13 then (bif Nat.ble pc 4 then (bif Nat.ble pc 2 then (bif Nat.ble pc 1 then (bif Nat.ble pc 0 then (bif Nat.beq pc 0 then js_c 0 1 else js_none) else (bif Nat.beq pc 1 then js_is 2 1 else js_none)) else (bif Nat.beq pc 2 then js_c 0 1 else js_none)) else (bif Nat.ble pc 3 then (bif Nat.beq pc 3 then js_is 3 1 else js_none) else (bif Nat.beq pc 4 then js_il 3 1 else js_none))) else (bif Nat.ble pc 9 then (bif Nat.ble pc 6 then (bif Nat.ble pc 5 then (bif Nat.beq pc 5 then js_al 0 1 else js_none) else (bif Nat.beq pc 6 then js_getf 6 3 else js_none)) else (bif Nat.beq pc 9 then js_cge 27 else js_none)) else (bif Nat.ble pc 12 then (bif Nat.beq pc 12 then js_il 2 1 else js_none) else (bif Nat.beq pc 13 then js_al 0 1 else js_none)))) else (bif Nat.ble pc 20 then (bif Nat.ble pc 16 then (bif Nat.ble pc 15 then (bif Nat.ble pc 14 then (bif Nat.beq pc 14 then js_il 3 1 else js_none) else (bif Nat.beq pc 15 then js_il 1 1 else js_none)) else (bif Nat.beq pc 16 then js_v2 6 79 else js_none)) else (bif Nat.ble pc 19 then (bif Nat.beq pc 19 then js_iadd else js_none) else (bif Nat.beq pc 20 then js_is 2 1 else js_none))) else (bif Nat.ble pc 24 then (bif Nat.ble pc 21 then (bif Nat.beq pc 21 then js_inc 3 1 else js_none) else (bif Nat.beq pc 24 then js_go 4 else js_none)) else (bif Nat.ble pc 27 then (bif Nat.beq pc 27 then js_il 2 1 else js_none) else (bif Nat.beq pc 28 then js_ir else js_none))))
theorem jk_80_0 : jx_Snd 80 0 (js_c 0 1) := jo_iconst (z := 0) jd_80_0 rfl
theorem jk_80_1 : jx_Snd 80 1 (js_is 2 1) := jo_istore_n (i := 2) (w := 2) rfl (Nat.le_of_ble_eq_true rfl) jd_80_1
theorem jk_80_2 : jx_Snd 80 2 (js_c 0 1) := jo_iconst (z := 0) jd_80_2 rfl
theorem jk_80_3 : jx_Snd 80 3 (js_is 3 1) := jo_istore_n (i := 3) (w := 3) rfl (Nat.le_of_ble_eq_true rfl) jd_80_3
theorem jk_80_4 : jx_Snd 80 4 (js_il 3 1) := jo_iload_n (i := 3) (w := 3) rfl jd_80_4
theorem jk_80_5 : jx_Snd 80 5 (js_al 0 1) := jo_aload_n (i := 0) (w := 0) rfl jd_80_5
theorem jk_80_6 : jx_Snd 80 6 (js_getf 6 3) := jo_getf rfl jf_6_21 jd_80_6
theorem jk_80_9 : jx_Snd 80 9 (js_cge 27) := jo_cge (o := 18) rfl jd_80_9
theorem jk_80_12 : jx_Snd 80 12 (js_il 2 1) := jo_iload_n (i := 2) (w := 2) rfl jd_80_12
theorem jk_80_13 : jx_Snd 80 13 (js_al 0 1) := jo_aload_n (i := 0) (w := 0) rfl jd_80_13
theorem jk_80_14 : jx_Snd 80 14 (js_il 3 1) := jo_iload_n (i := 3) (w := 3) rfl jd_80_14
theorem jk_80_15 : jx_Snd 80 15 (js_il 1 1) := jo_iload_n (i := 1) (w := 1) rfl jd_80_15
theorem jk_80_16 : jx_Snd 80 16 (js_v2 6 79) := jo_v2 rfl jok_79 (Or.inl jw_371) jw_364 jw_365 rfl jd_80_16
theorem jk_80_19 : jx_Snd 80 19 (js_iadd) := jo_iadd jd_80_19
theorem jk_80_20 : jx_Snd 80 20 (js_is 2 1) := jo_istore_n (i := 2) (w := 2) rfl (Nat.le_of_ble_eq_true rfl) jd_80_20
theorem jk_80_21 : jx_Snd 80 21 (js_inc 3 1) := jo_iinc (w := 1) rfl (Nat.le_of_ble_eq_true rfl) jd_80_21
theorem jk_80_24 : jx_Snd 80 24 (js_go 4) := jo_goto (o := (-20)) rfl jd_80_24
theorem jk_80_27 : jx_Snd 80 27 (js_il 2 1) := jo_iload_n (i := 2) (w := 2) rfl jd_80_27
theorem jk_80_28 : jx_Snd 80 28 (js_ir) := jo_ir rfl jd_80_28
theorem jk_80 : jx_So 80 jt_80 := fun pc => jo_le (jo_le (jo_le (jo_le (jo_le (jo_at (jk_80_0)) (jo_at (jk_80_1))) (jo_at (jk_80_2))) (jo_le (jo_at (jk_80_3)) (jo_at (jk_80_4)))) (jo_le (jo_le (jo_le (jo_at (jk_80_5)) (jo_at (jk_80_6))) (jo_at (jk_80_9))) (jo_le (jo_at (jk_80_12)) (jo_at (jk_80_13))))) (jo_le (jo_le (jo_le (jo_le (jo_at (jk_80_14)) (jo_at (jk_80_15))) (jo_at (jk_80_16))) (jo_le (jo_at (jk_80_19)) (jo_at (jk_80_20)))) (jo_le (jo_le (jo_at (jk_80_21)) (jo_at (jk_80_24))) (jo_le (jo_at (jk_80_27)) (jo_at (jk_80_28)))))
theorem ji_80 {l : Launch} {D : va_G} {cA : ClassId} {ρ : Nat → Nat} {Λ : List jx_Lc} {d : Nat} {Q : Option Value → jx_St → Prop} {σ : jx_St} {z0 : Nat} {a1 : Int32} (h : jt_80 0 Λ jx_tb0 (jx_rn Λ jx_tb0 jt_80 (fun k' as σ K => jx_C l D cA ρ Λ d k' as σ K) Q (jx_J l D cA ρ Λ (jx_A ρ Λ) jx_tb0 (d + 1) 80 Q) [] 400) (fun k' as σ K => jx_C l D cA ρ Λ d k' as σ K) Q 0 [(0, .ref z0), (1, .int a1)] [] σ) : jx_C l D cA ρ Λ (d + 1) 80 [.ref z0, .int a1] σ Q := jx_in jk_80 400 [] rfl (Nat.le_of_ble_eq_true rfl) h
/-! ScriptLedger$Transaction.<init>()V -/
theorem jd_81_0 : decode prog_7_method_1_code 0 = .ok (.aload_n 0, 1) := by decide +kernel
theorem jd_81_1 : decode prog_7_method_1_code 1 = .ok (.invokespecial 3, 3) := by decide +kernel
theorem jd_81_4 : decode prog_7_method_1_code 4 = .ok (.aload_n 0, 1) := by decide +kernel
theorem jd_81_5 : decode prog_7_method_1_code 5 = .ok (.iconst 3, 1) := by decide +kernel
theorem jd_81_6 : decode prog_7_method_1_code 6 = .ok (.newarray .int, 2) := by decide +kernel
theorem jd_81_8 : decode prog_7_method_1_code 8 = .ok (.putfield 9, 3) := by decide +kernel
theorem jd_81_11 : decode prog_7_method_1_code 11 = .ok (.aload_n 0, 1) := by decide +kernel
theorem jd_81_12 : decode prog_7_method_1_code 12 = .ok (.iconst 3, 1) := by decide +kernel
theorem jd_81_13 : decode prog_7_method_1_code 13 = .ok (.newarray .int, 2) := by decide +kernel
theorem jd_81_15 : decode prog_7_method_1_code 15 = .ok (.putfield 15, 3) := by decide +kernel
theorem jd_81_18 : decode prog_7_method_1_code 18 = .ok (.aload_n 0, 1) := by decide +kernel
theorem jd_81_19 : decode prog_7_method_1_code 19 = .ok (.new 18, 3) := by decide +kernel
theorem jd_81_22 : decode prog_7_method_1_code 22 = .ok (.dup, 1) := by decide +kernel
theorem jd_81_23 : decode prog_7_method_1_code 23 = .ok (.iconst 3, 1) := by decide +kernel
theorem jd_81_24 : decode prog_7_method_1_code 24 = .ok (.invokespecial 20, 3) := by decide +kernel
theorem jd_81_27 : decode prog_7_method_1_code 27 = .ok (.putfield 23, 3) := by decide +kernel
theorem jd_81_30 : decode prog_7_method_1_code 30 = .ok (.aload_n 0, 1) := by decide +kernel
theorem jd_81_31 : decode prog_7_method_1_code 31 = .ok (.iconst 3, 1) := by decide +kernel
theorem jd_81_32 : decode prog_7_method_1_code 32 = .ok (.newarray .int, 2) := by decide +kernel
theorem jd_81_34 : decode prog_7_method_1_code 34 = .ok (.putfield 27, 3) := by decide +kernel
theorem jd_81_37 : decode prog_7_method_1_code 37 = .ok (.aload_n 0, 1) := by decide +kernel
theorem jd_81_38 : decode prog_7_method_1_code 38 = .ok (.iconst 3, 1) := by decide +kernel
theorem jd_81_39 : decode prog_7_method_1_code 39 = .ok (.newarray .int, 2) := by decide +kernel
theorem jd_81_41 : decode prog_7_method_1_code 41 = .ok (.putfield 30, 3) := by decide +kernel
theorem jd_81_44 : decode prog_7_method_1_code 44 = .ok (.aload_n 0, 1) := by decide +kernel
theorem jd_81_45 : decode prog_7_method_1_code 45 = .ok (.invokevirtual 33, 3) := by decide +kernel
theorem jd_81_48 : decode prog_7_method_1_code 48 = .ok (.return_, 1) := by decide +kernel
def jnt_81 (pc : Nat) : jn_Sp := bif Nat.ble pc 23 then (bif Nat.ble pc 11 then (bif Nat.ble pc 5 then (bif Nat.ble pc 1 then (bif Nat.ble pc 0 then (bif Nat.beq pc 0 then jn_of (js_al 0 1) else jn_none) else (bif Nat.beq pc 1 then jn_obj else jn_none)) else (bif Nat.ble pc 4 then (bif Nat.beq pc 4 then jn_of (js_al 0 1) else jn_none) else (bif Nat.beq pc 5 then jn_of (js_c 3 1) else jn_none))) else (bif Nat.ble pc 8 then (bif Nat.ble pc 6 then (bif Nat.beq pc 6 then jn_newa else jn_none) else (bif Nat.beq pc 8 then jn_putr 7 0 else jn_none)) else (bif Nat.beq pc 11 then jn_of (js_al 0 1) else jn_none))) else (bif Nat.ble pc 18 then (bif Nat.ble pc 13 then (bif Nat.ble pc 12 then (bif Nat.beq pc 12 then jn_of (js_c 3 1) else jn_none) else (bif Nat.beq pc 13 then jn_newa else jn_none)) else (bif Nat.ble pc 15 then (bif Nat.beq pc 15 then jn_putr 7 1 else jn_none) else (bif Nat.beq pc 18 then jn_of (js_al 0 1) else jn_none))) else (bif Nat.ble pc 22 then (bif Nat.ble pc 19 then (bif Nat.beq pc 19 then jn_new 6 4 [some none, some none, some none, none] else jn_none) else (bif Nat.beq pc 22 then jn_of (js_dup) else jn_none)) else (bif Nat.beq pc 23 then jn_of (js_c 3 1) else jn_none)))) else (bif Nat.ble pc 37 then (bif Nat.ble pc 31 then (bif Nat.ble pc 27 then (bif Nat.ble pc 24 then (bif Nat.beq pc 24 then jn_i1 76 3 240 else jn_none) else (bif Nat.beq pc 27 then jn_putr 7 3 else jn_none)) else (bif Nat.ble pc 30 then (bif Nat.beq pc 30 then jn_of (js_al 0 1) else jn_none) else (bif Nat.beq pc 31 then jn_of (js_c 3 1) else jn_none))) else (bif Nat.ble pc 34 then (bif Nat.ble pc 32 then (bif Nat.beq pc 32 then jn_newa else jn_none) else (bif Nat.beq pc 34 then jn_putr 7 4 else jn_none)) else (bif Nat.beq pc 37 then jn_of (js_al 0 1) else jn_none))) else (bif Nat.ble pc 41 then (bif Nat.ble pc 39 then (bif Nat.ble pc 38 then (bif Nat.beq pc 38 then jn_of (js_c 3 1) else jn_none) else (bif Nat.beq pc 39 then jn_newa else jn_none)) else (bif Nat.beq pc 41 then jn_putr 7 5 else jn_none)) else (bif Nat.ble pc 45 then (bif Nat.ble pc 44 then (bif Nat.beq pc 44 then jn_of (js_al 0 1) else jn_none) else (bif Nat.beq pc 45 then jn_of (js_v0 7 82) else jn_none)) else (bif Nat.beq pc 48 then jn_vr else jn_none))))
theorem jnk_81_0 : jn_Snd 81 0 (jn_of (js_al 0 1)) := jn_lift (jo_aload_n (i := 0) (w := 0) rfl jd_81_0)
theorem jnk_81_1 : jn_Snd 81 1 (jn_obj) := jno_obj rfl jw_127 jw_17 jw_18 jd_81_1
theorem jnk_81_4 : jn_Snd 81 4 (jn_of (js_al 0 1)) := jn_lift (jo_aload_n (i := 0) (w := 0) rfl jd_81_4)
theorem jnk_81_5 : jn_Snd 81 5 (jn_of (js_c 3 1)) := jn_lift (jo_iconst (z := 3) jd_81_5 rfl)
theorem jnk_81_6 : jn_Snd 81 6 (jn_newa) := jno_newa (at_ := .int) rfl jw_28 jd_81_6
theorem jnk_81_8 : jn_Snd 81 8 (jn_putr 7 0) := jno_putr rfl rfl jf_7_9 (fun C T N h => by cases h; exact ⟨rfl, rfl⟩) ⟨_, _, _, rfl, jw_138⟩ (fun a => ⟨rfl, rfl⟩) jd_81_8
theorem jnk_81_11 : jn_Snd 81 11 (jn_of (js_al 0 1)) := jn_lift (jo_aload_n (i := 0) (w := 0) rfl jd_81_11)
theorem jnk_81_12 : jn_Snd 81 12 (jn_of (js_c 3 1)) := jn_lift (jo_iconst (z := 3) jd_81_12 rfl)
theorem jnk_81_13 : jn_Snd 81 13 (jn_newa) := jno_newa (at_ := .int) rfl jw_28 jd_81_13
theorem jnk_81_15 : jn_Snd 81 15 (jn_putr 7 1) := jno_putr rfl rfl jf_7_15 (fun C T N h => by cases h; exact ⟨rfl, rfl⟩) ⟨_, _, _, rfl, jw_140⟩ (fun a => ⟨rfl, rfl⟩) jd_81_15
theorem jnk_81_18 : jn_Snd 81 18 (jn_of (js_al 0 1)) := jn_lift (jo_aload_n (i := 0) (w := 0) rfl jd_81_18)
theorem jnk_81_19 : jn_Snd 81 19 (jn_new 6 4 [some none, some none, some none, none]) := jno_new (tt := ju_6) rfl rfl jhl_6 jty_6 jw_128 jw_86 jw_7 rfl (by decide +kernel) jd_81_19
theorem jnk_81_22 : jn_Snd 81 22 (jn_of (js_dup)) := jn_lift (jo_dup jd_81_22)
theorem jnk_81_23 : jn_Snd 81 23 (jn_of (js_c 3 1)) := jn_lift (jo_iconst (z := 3) jd_81_23 rfl)
theorem jnk_81_24 : jn_Snd 81 24 (jn_i1 76 3 240) := jno_i1 rfl jok_76 (Or.inl jw_129) jw_88 rfl rfl jd_81_24
theorem jnk_81_27 : jn_Snd 81 27 (jn_putr 7 3) := jno_putr rfl rfl jf_7_23 (fun C T N h => by cases h; exact ⟨rfl, rfl⟩) ⟨_, _, _, rfl, jw_144⟩ (fun a => ⟨rfl, rfl⟩) jd_81_27
theorem jnk_81_30 : jn_Snd 81 30 (jn_of (js_al 0 1)) := jn_lift (jo_aload_n (i := 0) (w := 0) rfl jd_81_30)
theorem jnk_81_31 : jn_Snd 81 31 (jn_of (js_c 3 1)) := jn_lift (jo_iconst (z := 3) jd_81_31 rfl)
theorem jnk_81_32 : jn_Snd 81 32 (jn_newa) := jno_newa (at_ := .int) rfl jw_28 jd_81_32
theorem jnk_81_34 : jn_Snd 81 34 (jn_putr 7 4) := jno_putr rfl rfl jf_7_27 (fun C T N h => by cases h; exact ⟨rfl, rfl⟩) ⟨_, _, _, rfl, jw_146⟩ (fun a => ⟨rfl, rfl⟩) jd_81_34
theorem jnk_81_37 : jn_Snd 81 37 (jn_of (js_al 0 1)) := jn_lift (jo_aload_n (i := 0) (w := 0) rfl jd_81_37)
theorem jnk_81_38 : jn_Snd 81 38 (jn_of (js_c 3 1)) := jn_lift (jo_iconst (z := 3) jd_81_38 rfl)
theorem jnk_81_39 : jn_Snd 81 39 (jn_newa) := jno_newa (at_ := .int) rfl jw_28 jd_81_39
theorem jnk_81_41 : jn_Snd 81 41 (jn_putr 7 5) := jno_putr rfl rfl jf_7_30 (fun C T N h => by cases h; exact ⟨rfl, rfl⟩) ⟨_, _, _, rfl, jw_148⟩ (fun a => ⟨rfl, rfl⟩) jd_81_41
theorem jnk_81_44 : jn_Snd 81 44 (jn_of (js_al 0 1)) := jn_lift (jo_aload_n (i := 0) (w := 0) rfl jd_81_44)
theorem jnk_81_45 : jn_Snd 81 45 (jn_of (js_v0 7 82)) := jn_lift (jo_v0 rfl jok_82 (Or.inl jw_130) jw_131 jw_132 rfl jd_81_45)
theorem jnk_81_48 : jn_Snd 81 48 (jn_vr) := jno_vr jd_81_48
theorem jnk_81 : jn_So 81 jnt_81 := fun pc => jno_le (jno_le (jno_le (jno_le (jno_le (jno_at (jnk_81_0)) (jno_at (jnk_81_1))) (jno_le (jno_at (jnk_81_4)) (jno_at (jnk_81_5)))) (jno_le (jno_le (jno_at (jnk_81_6)) (jno_at (jnk_81_8))) (jno_at (jnk_81_11)))) (jno_le (jno_le (jno_le (jno_at (jnk_81_12)) (jno_at (jnk_81_13))) (jno_le (jno_at (jnk_81_15)) (jno_at (jnk_81_18)))) (jno_le (jno_le (jno_at (jnk_81_19)) (jno_at (jnk_81_22))) (jno_at (jnk_81_23))))) (jno_le (jno_le (jno_le (jno_le (jno_at (jnk_81_24)) (jno_at (jnk_81_27))) (jno_le (jno_at (jnk_81_30)) (jno_at (jnk_81_31)))) (jno_le (jno_le (jno_at (jnk_81_32)) (jno_at (jnk_81_34))) (jno_at (jnk_81_37)))) (jno_le (jno_le (jno_le (jno_at (jnk_81_38)) (jno_at (jnk_81_39))) (jno_at (jnk_81_41))) (jno_le (jno_le (jno_at (jnk_81_44)) (jno_at (jnk_81_45))) (jno_at (jnk_81_48)))))
/-! ScriptLedger$Transaction.clear()V -/
theorem jd_82_0 : decode prog_7_method_2_code 0 = .ok (.aload_n 0, 1) := by decide +kernel
theorem jd_82_1 : decode prog_7_method_2_code 1 = .ok (.iconst 0, 1) := by decide +kernel
theorem jd_82_2 : decode prog_7_method_2_code 2 = .ok (.putfield 36, 3) := by decide +kernel
theorem jd_82_5 : decode prog_7_method_2_code 5 = .ok (.aload_n 0, 1) := by decide +kernel
theorem jd_82_6 : decode prog_7_method_2_code 6 = .ok (.getfield 23, 3) := by decide +kernel
theorem jd_82_9 : decode prog_7_method_2_code 9 = .ok (.iconst 0, 1) := by decide +kernel
theorem jd_82_10 : decode prog_7_method_2_code 10 = .ok (.putfield 40, 3) := by decide +kernel
theorem jd_82_13 : decode prog_7_method_2_code 13 = .ok (.iconst 0, 1) := by decide +kernel
theorem jd_82_14 : decode prog_7_method_2_code 14 = .ok (.istore_n 1, 1) := by decide +kernel
theorem jd_82_15 : decode prog_7_method_2_code 15 = .ok (.iload_n 1, 1) := by decide +kernel
theorem jd_82_16 : decode prog_7_method_2_code 16 = .ok (.iconst 3, 1) := by decide +kernel
theorem jd_82_17 : decode prog_7_method_2_code 17 = .ok (.if_icmp .ge 23, 3) := by decide +kernel
theorem jd_82_20 : decode prog_7_method_2_code 20 = .ok (.aload_n 0, 1) := by decide +kernel
theorem jd_82_21 : decode prog_7_method_2_code 21 = .ok (.getfield 27, 3) := by decide +kernel
theorem jd_82_24 : decode prog_7_method_2_code 24 = .ok (.iload_n 1, 1) := by decide +kernel
theorem jd_82_25 : decode prog_7_method_2_code 25 = .ok (.iconst 0, 1) := by decide +kernel
theorem jd_82_26 : decode prog_7_method_2_code 26 = .ok (.iastore, 1) := by decide +kernel
theorem jd_82_27 : decode prog_7_method_2_code 27 = .ok (.aload_n 0, 1) := by decide +kernel
theorem jd_82_28 : decode prog_7_method_2_code 28 = .ok (.getfield 30, 3) := by decide +kernel
theorem jd_82_31 : decode prog_7_method_2_code 31 = .ok (.iload_n 1, 1) := by decide +kernel
theorem jd_82_32 : decode prog_7_method_2_code 32 = .ok (.iconst 0, 1) := by decide +kernel
theorem jd_82_33 : decode prog_7_method_2_code 33 = .ok (.iastore, 1) := by decide +kernel
theorem jd_82_34 : decode prog_7_method_2_code 34 = .ok (.iinc 1 1, 3) := by decide +kernel
theorem jd_82_37 : decode prog_7_method_2_code 37 = .ok (.goto (-22), 3) := by decide +kernel
theorem jd_82_40 : decode prog_7_method_2_code 40 = .ok (.aload_n 0, 1) := by decide +kernel
theorem jd_82_41 : decode prog_7_method_2_code 41 = .ok (.iconst 0, 1) := by decide +kernel
theorem jd_82_42 : decode prog_7_method_2_code 42 = .ok (.iconst 0, 1) := by decide +kernel
theorem jd_82_43 : decode prog_7_method_2_code 43 = .ok (.bipush 40, 2) := by decide +kernel
theorem jd_82_45 : decode prog_7_method_2_code 45 = .ok (.iconst 0, 1) := by decide +kernel
theorem jd_82_46 : decode prog_7_method_2_code 46 = .ok (.iconst 0, 1) := by decide +kernel
theorem jd_82_47 : decode prog_7_method_2_code 47 = .ok (.invokevirtual 43, 3) := by decide +kernel
theorem jd_82_50 : decode prog_7_method_2_code 50 = .ok (.aload_n 0, 1) := by decide +kernel
theorem jd_82_51 : decode prog_7_method_2_code 51 = .ok (.iconst (-1), 1) := by decide +kernel
theorem jd_82_52 : decode prog_7_method_2_code 52 = .ok (.putfield 47, 3) := by decide +kernel
theorem jd_82_55 : decode prog_7_method_2_code 55 = .ok (.return_, 1) := by decide +kernel
def jt_82 (pc : Nat) : jx_Sp := bif Nat.ble pc 27 then (bif Nat.ble pc 14 then (bif Nat.ble pc 6 then (bif Nat.ble pc 2 then (bif Nat.ble pc 1 then (bif Nat.ble pc 0 then (bif Nat.beq pc 0 then js_al 0 1 else js_none) else (bif Nat.beq pc 1 then js_c 0 1 else js_none)) else (bif Nat.beq pc 2 then js_putf 7 2 false else js_none)) else (bif Nat.ble pc 5 then (bif Nat.beq pc 5 then js_al 0 1 else js_none) else (bif Nat.beq pc 6 then js_getf 7 3 else js_none))) else (bif Nat.ble pc 10 then (bif Nat.ble pc 9 then (bif Nat.beq pc 9 then js_c 0 1 else js_none) else (bif Nat.beq pc 10 then js_putf 6 3 false else js_none)) else (bif Nat.ble pc 13 then (bif Nat.beq pc 13 then js_c 0 1 else js_none) else (bif Nat.beq pc 14 then js_is 1 1 else js_none)))) else (bif Nat.ble pc 21 then (bif Nat.ble pc 17 then (bif Nat.ble pc 16 then (bif Nat.ble pc 15 then (bif Nat.beq pc 15 then js_il 1 1 else js_none) else (bif Nat.beq pc 16 then js_c 3 1 else js_none)) else (bif Nat.beq pc 17 then js_cge 40 else js_none)) else (bif Nat.ble pc 20 then (bif Nat.beq pc 20 then js_al 0 1 else js_none) else (bif Nat.beq pc 21 then js_getf 7 4 else js_none))) else (bif Nat.ble pc 25 then (bif Nat.ble pc 24 then (bif Nat.beq pc 24 then js_il 1 1 else js_none) else (bif Nat.beq pc 25 then js_c 0 1 else js_none)) else (bif Nat.ble pc 26 then (bif Nat.beq pc 26 then js_ast else js_none) else (bif Nat.beq pc 27 then js_al 0 1 else js_none))))) else (bif Nat.ble pc 42 then (bif Nat.ble pc 34 then (bif Nat.ble pc 32 then (bif Nat.ble pc 31 then (bif Nat.ble pc 28 then (bif Nat.beq pc 28 then js_getf 7 5 else js_none) else (bif Nat.beq pc 31 then js_il 1 1 else js_none)) else (bif Nat.beq pc 32 then js_c 0 1 else js_none)) else (bif Nat.ble pc 33 then (bif Nat.beq pc 33 then js_ast else js_none) else (bif Nat.beq pc 34 then js_inc 1 1 else js_none))) else (bif Nat.ble pc 40 then (bif Nat.ble pc 37 then (bif Nat.beq pc 37 then js_go 15 else js_none) else (bif Nat.beq pc 40 then js_al 0 1 else js_none)) else (bif Nat.ble pc 41 then (bif Nat.beq pc 41 then js_c 0 1 else js_none) else (bif Nat.beq pc 42 then js_c 0 1 else js_none)))) else (bif Nat.ble pc 47 then (bif Nat.ble pc 45 then (bif Nat.ble pc 43 then (bif Nat.beq pc 43 then js_c 40 2 else js_none) else (bif Nat.beq pc 45 then js_c 0 1 else js_none)) else (bif Nat.ble pc 46 then (bif Nat.beq pc 46 then js_c 0 1 else js_none) else (bif Nat.beq pc 47 then js_v5 7 83 else js_none))) else (bif Nat.ble pc 51 then (bif Nat.ble pc 50 then (bif Nat.beq pc 50 then js_al 0 1 else js_none) else (bif Nat.beq pc 51 then js_c (-1) 1 else js_none)) else (bif Nat.ble pc 52 then (bif Nat.beq pc 52 then js_putf 7 11 false else js_none) else (bif Nat.beq pc 55 then js_vr else js_none)))))
theorem jk_82_0 : jx_Snd 82 0 (js_al 0 1) := jo_aload_n (i := 0) (w := 0) rfl jd_82_0
theorem jk_82_1 : jx_Snd 82 1 (js_c 0 1) := jo_iconst (z := 0) jd_82_1 rfl
theorem jk_82_2 : jx_Snd 82 2 (js_putf 7 2 false) := jo_putf (z := false) rfl jf_7_36 (fun C T N h => by cases h; rfl) jd_82_2
theorem jk_82_5 : jx_Snd 82 5 (js_al 0 1) := jo_aload_n (i := 0) (w := 0) rfl jd_82_5
theorem jk_82_6 : jx_Snd 82 6 (js_getf 7 3) := jo_getf rfl jf_7_23 jd_82_6
theorem jk_82_9 : jx_Snd 82 9 (js_c 0 1) := jo_iconst (z := 0) jd_82_9 rfl
theorem jk_82_10 : jx_Snd 82 10 (js_putf 6 3 false) := jo_putf (z := false) rfl jf_7_40 (fun C T N h => by cases h; rfl) jd_82_10
theorem jk_82_13 : jx_Snd 82 13 (js_c 0 1) := jo_iconst (z := 0) jd_82_13 rfl
theorem jk_82_14 : jx_Snd 82 14 (js_is 1 1) := jo_istore_n (i := 1) (w := 1) rfl (Nat.le_of_ble_eq_true rfl) jd_82_14
theorem jk_82_15 : jx_Snd 82 15 (js_il 1 1) := jo_iload_n (i := 1) (w := 1) rfl jd_82_15
theorem jk_82_16 : jx_Snd 82 16 (js_c 3 1) := jo_iconst (z := 3) jd_82_16 rfl
theorem jk_82_17 : jx_Snd 82 17 (js_cge 40) := jo_cge (o := 23) rfl jd_82_17
theorem jk_82_20 : jx_Snd 82 20 (js_al 0 1) := jo_aload_n (i := 0) (w := 0) rfl jd_82_20
theorem jk_82_21 : jx_Snd 82 21 (js_getf 7 4) := jo_getf rfl jf_7_27 jd_82_21
theorem jk_82_24 : jx_Snd 82 24 (js_il 1 1) := jo_iload_n (i := 1) (w := 1) rfl jd_82_24
theorem jk_82_25 : jx_Snd 82 25 (js_c 0 1) := jo_iconst (z := 0) jd_82_25 rfl
theorem jk_82_26 : jx_Snd 82 26 (js_ast) := jo_ast jd_82_26
theorem jk_82_27 : jx_Snd 82 27 (js_al 0 1) := jo_aload_n (i := 0) (w := 0) rfl jd_82_27
theorem jk_82_28 : jx_Snd 82 28 (js_getf 7 5) := jo_getf rfl jf_7_30 jd_82_28
theorem jk_82_31 : jx_Snd 82 31 (js_il 1 1) := jo_iload_n (i := 1) (w := 1) rfl jd_82_31
theorem jk_82_32 : jx_Snd 82 32 (js_c 0 1) := jo_iconst (z := 0) jd_82_32 rfl
theorem jk_82_33 : jx_Snd 82 33 (js_ast) := jo_ast jd_82_33
theorem jk_82_34 : jx_Snd 82 34 (js_inc 1 1) := jo_iinc (w := 1) rfl (Nat.le_of_ble_eq_true rfl) jd_82_34
theorem jk_82_37 : jx_Snd 82 37 (js_go 15) := jo_goto (o := (-22)) rfl jd_82_37
theorem jk_82_40 : jx_Snd 82 40 (js_al 0 1) := jo_aload_n (i := 0) (w := 0) rfl jd_82_40
theorem jk_82_41 : jx_Snd 82 41 (js_c 0 1) := jo_iconst (z := 0) jd_82_41 rfl
theorem jk_82_42 : jx_Snd 82 42 (js_c 0 1) := jo_iconst (z := 0) jd_82_42 rfl
theorem jk_82_43 : jx_Snd 82 43 (js_c 40 2) := jo_bipush (z := 40) jd_82_43 (by decide +kernel)
theorem jk_82_45 : jx_Snd 82 45 (js_c 0 1) := jo_iconst (z := 0) jd_82_45 rfl
theorem jk_82_46 : jx_Snd 82 46 (js_c 0 1) := jo_iconst (z := 0) jd_82_46 rfl
theorem jk_82_47 : jx_Snd 82 47 (js_v5 7 83) := jo_v5 rfl jok_83 (Or.inl jw_134) jw_135 jw_136 rfl jd_82_47
theorem jk_82_50 : jx_Snd 82 50 (js_al 0 1) := jo_aload_n (i := 0) (w := 0) rfl jd_82_50
theorem jk_82_51 : jx_Snd 82 51 (js_c (-1) 1) := jo_iconst (z := (-1)) jd_82_51 rfl
theorem jk_82_52 : jx_Snd 82 52 (js_putf 7 11 false) := jo_putf (z := false) rfl jf_7_47 (fun C T N h => by cases h; rfl) jd_82_52
theorem jk_82_55 : jx_Snd 82 55 (js_vr) := jo_vr rfl jd_82_55
theorem jk_82 : jx_So 82 jt_82 := fun pc => jo_le (jo_le (jo_le (jo_le (jo_le (jo_le (jo_at (jk_82_0)) (jo_at (jk_82_1))) (jo_at (jk_82_2))) (jo_le (jo_at (jk_82_5)) (jo_at (jk_82_6)))) (jo_le (jo_le (jo_at (jk_82_9)) (jo_at (jk_82_10))) (jo_le (jo_at (jk_82_13)) (jo_at (jk_82_14))))) (jo_le (jo_le (jo_le (jo_le (jo_at (jk_82_15)) (jo_at (jk_82_16))) (jo_at (jk_82_17))) (jo_le (jo_at (jk_82_20)) (jo_at (jk_82_21)))) (jo_le (jo_le (jo_at (jk_82_24)) (jo_at (jk_82_25))) (jo_le (jo_at (jk_82_26)) (jo_at (jk_82_27)))))) (jo_le (jo_le (jo_le (jo_le (jo_le (jo_at (jk_82_28)) (jo_at (jk_82_31))) (jo_at (jk_82_32))) (jo_le (jo_at (jk_82_33)) (jo_at (jk_82_34)))) (jo_le (jo_le (jo_at (jk_82_37)) (jo_at (jk_82_40))) (jo_le (jo_at (jk_82_41)) (jo_at (jk_82_42))))) (jo_le (jo_le (jo_le (jo_at (jk_82_43)) (jo_at (jk_82_45))) (jo_le (jo_at (jk_82_46)) (jo_at (jk_82_47)))) (jo_le (jo_le (jo_at (jk_82_50)) (jo_at (jk_82_51))) (jo_le (jo_at (jk_82_52)) (jo_at (jk_82_55))))))
theorem ji_82 {l : Launch} {D : va_G} {cA : ClassId} {ρ : Nat → Nat} {Λ : List jx_Lc} {d : Nat} {Q : Option Value → jx_St → Prop} {σ : jx_St} {z0 : Nat} (h : jt_82 0 Λ jx_tb0 (jx_rn Λ jx_tb0 jt_82 (fun k' as σ K => jx_C l D cA ρ Λ d k' as σ K) Q (jx_J l D cA ρ Λ (jx_A ρ Λ) jx_tb0 (d + 1) 82 Q) [] 400) (fun k' as σ K => jx_C l D cA ρ Λ d k' as σ K) Q 0 [(0, .ref z0)] [] σ) : jx_C l D cA ρ Λ (d + 1) 82 [.ref z0] σ Q := jx_in jk_82 400 [] rfl (Nat.le_of_ble_eq_true rfl) h
/-! ScriptLedger$Transaction.agree(IIIII)V -/
theorem jd_83_0 : decode prog_7_method_3_code 0 = .ok (.aload_n 0, 1) := by decide +kernel
theorem jd_83_1 : decode prog_7_method_3_code 1 = .ok (.iload_n 1, 1) := by decide +kernel
theorem jd_83_2 : decode prog_7_method_3_code 2 = .ok (.putfield 50, 3) := by decide +kernel
theorem jd_83_5 : decode prog_7_method_3_code 5 = .ok (.aload_n 0, 1) := by decide +kernel
theorem jd_83_6 : decode prog_7_method_3_code 6 = .ok (.iload_n 2, 1) := by decide +kernel
theorem jd_83_7 : decode prog_7_method_3_code 7 = .ok (.putfield 53, 3) := by decide +kernel
theorem jd_83_10 : decode prog_7_method_3_code 10 = .ok (.aload_n 0, 1) := by decide +kernel
theorem jd_83_11 : decode prog_7_method_3_code 11 = .ok (.iload_n 3, 1) := by decide +kernel
theorem jd_83_12 : decode prog_7_method_3_code 12 = .ok (.putfield 56, 3) := by decide +kernel
theorem jd_83_15 : decode prog_7_method_3_code 15 = .ok (.aload_n 0, 1) := by decide +kernel
theorem jd_83_16 : decode prog_7_method_3_code 16 = .ok (.iload 4, 2) := by decide +kernel
theorem jd_83_18 : decode prog_7_method_3_code 18 = .ok (.putfield 59, 3) := by decide +kernel
theorem jd_83_21 : decode prog_7_method_3_code 21 = .ok (.aload_n 0, 1) := by decide +kernel
theorem jd_83_22 : decode prog_7_method_3_code 22 = .ok (.iload 5, 2) := by decide +kernel
theorem jd_83_24 : decode prog_7_method_3_code 24 = .ok (.putfield 62, 3) := by decide +kernel
theorem jd_83_27 : decode prog_7_method_3_code 27 = .ok (.return_, 1) := by decide +kernel
def jt_83 (pc : Nat) : jx_Sp := bif Nat.ble pc 11 then (bif Nat.ble pc 5 then (bif Nat.ble pc 1 then (bif Nat.ble pc 0 then (bif Nat.beq pc 0 then js_al 0 1 else js_none) else (bif Nat.beq pc 1 then js_il 1 1 else js_none)) else (bif Nat.ble pc 2 then (bif Nat.beq pc 2 then js_putf 7 6 false else js_none) else (bif Nat.beq pc 5 then js_al 0 1 else js_none))) else (bif Nat.ble pc 7 then (bif Nat.ble pc 6 then (bif Nat.beq pc 6 then js_il 2 1 else js_none) else (bif Nat.beq pc 7 then js_putf 7 7 false else js_none)) else (bif Nat.ble pc 10 then (bif Nat.beq pc 10 then js_al 0 1 else js_none) else (bif Nat.beq pc 11 then js_il 3 1 else js_none)))) else (bif Nat.ble pc 18 then (bif Nat.ble pc 15 then (bif Nat.ble pc 12 then (bif Nat.beq pc 12 then js_putf 7 8 false else js_none) else (bif Nat.beq pc 15 then js_al 0 1 else js_none)) else (bif Nat.ble pc 16 then (bif Nat.beq pc 16 then js_il 4 2 else js_none) else (bif Nat.beq pc 18 then js_putf 7 9 false else js_none))) else (bif Nat.ble pc 22 then (bif Nat.ble pc 21 then (bif Nat.beq pc 21 then js_al 0 1 else js_none) else (bif Nat.beq pc 22 then js_il 5 2 else js_none)) else (bif Nat.ble pc 24 then (bif Nat.beq pc 24 then js_putf 7 10 false else js_none) else (bif Nat.beq pc 27 then js_vr else js_none))))
theorem jk_83_0 : jx_Snd 83 0 (js_al 0 1) := jo_aload_n (i := 0) (w := 0) rfl jd_83_0
theorem jk_83_1 : jx_Snd 83 1 (js_il 1 1) := jo_iload_n (i := 1) (w := 1) rfl jd_83_1
theorem jk_83_2 : jx_Snd 83 2 (js_putf 7 6 false) := jo_putf (z := false) rfl jf_7_50 (fun C T N h => by cases h; rfl) jd_83_2
theorem jk_83_5 : jx_Snd 83 5 (js_al 0 1) := jo_aload_n (i := 0) (w := 0) rfl jd_83_5
theorem jk_83_6 : jx_Snd 83 6 (js_il 2 1) := jo_iload_n (i := 2) (w := 2) rfl jd_83_6
theorem jk_83_7 : jx_Snd 83 7 (js_putf 7 7 false) := jo_putf (z := false) rfl jf_7_53 (fun C T N h => by cases h; rfl) jd_83_7
theorem jk_83_10 : jx_Snd 83 10 (js_al 0 1) := jo_aload_n (i := 0) (w := 0) rfl jd_83_10
theorem jk_83_11 : jx_Snd 83 11 (js_il 3 1) := jo_iload_n (i := 3) (w := 3) rfl jd_83_11
theorem jk_83_12 : jx_Snd 83 12 (js_putf 7 8 false) := jo_putf (z := false) rfl jf_7_56 (fun C T N h => by cases h; rfl) jd_83_12
theorem jk_83_15 : jx_Snd 83 15 (js_al 0 1) := jo_aload_n (i := 0) (w := 0) rfl jd_83_15
theorem jk_83_16 : jx_Snd 83 16 (js_il 4 2) := jo_iload (i := 4) jd_83_16
theorem jk_83_18 : jx_Snd 83 18 (js_putf 7 9 false) := jo_putf (z := false) rfl jf_7_59 (fun C T N h => by cases h; rfl) jd_83_18
theorem jk_83_21 : jx_Snd 83 21 (js_al 0 1) := jo_aload_n (i := 0) (w := 0) rfl jd_83_21
theorem jk_83_22 : jx_Snd 83 22 (js_il 5 2) := jo_iload (i := 5) jd_83_22
theorem jk_83_24 : jx_Snd 83 24 (js_putf 7 10 false) := jo_putf (z := false) rfl jf_7_62 (fun C T N h => by cases h; rfl) jd_83_24
theorem jk_83_27 : jx_Snd 83 27 (js_vr) := jo_vr rfl jd_83_27
theorem jk_83 : jx_So 83 jt_83 := fun pc => jo_le (jo_le (jo_le (jo_le (jo_at (jk_83_0)) (jo_at (jk_83_1))) (jo_le (jo_at (jk_83_2)) (jo_at (jk_83_5)))) (jo_le (jo_le (jo_at (jk_83_6)) (jo_at (jk_83_7))) (jo_le (jo_at (jk_83_10)) (jo_at (jk_83_11))))) (jo_le (jo_le (jo_le (jo_at (jk_83_12)) (jo_at (jk_83_15))) (jo_le (jo_at (jk_83_16)) (jo_at (jk_83_18)))) (jo_le (jo_le (jo_at (jk_83_21)) (jo_at (jk_83_22))) (jo_le (jo_at (jk_83_24)) (jo_at (jk_83_27)))))
theorem ji_83 {l : Launch} {D : va_G} {cA : ClassId} {ρ : Nat → Nat} {Λ : List jx_Lc} {d : Nat} {Q : Option Value → jx_St → Prop} {σ : jx_St} {z0 : Nat} {a1 : Int32} {a2 : Int32} {a3 : Int32} {a4 : Int32} {a5 : Int32} (h : jt_83 0 Λ jx_tb0 (jx_rn Λ jx_tb0 jt_83 (fun k' as σ K => jx_C l D cA ρ Λ d k' as σ K) Q (jx_J l D cA ρ Λ (jx_A ρ Λ) jx_tb0 (d + 1) 83 Q) [] 400) (fun k' as σ K => jx_C l D cA ρ Λ d k' as σ K) Q 0 [(0, .ref z0), (1, .int a1), (2, .int a2), (3, .int a3), (4, .int a4), (5, .int a5)] [] σ) : jx_C l D cA ρ Λ (d + 1) 83 [.ref z0, .int a1, .int a2, .int a3, .int a4, .int a5] σ Q := jx_in jk_83 400 [] rfl (Nat.le_of_ble_eq_true rfl) h
/-! ScriptLedger$Transaction.hasInput(I)Z -/
theorem jd_84_0 : decode prog_7_method_4_code 0 = .ok (.iconst 0, 1) := by decide +kernel
theorem jd_84_1 : decode prog_7_method_4_code 1 = .ok (.istore_n 2, 1) := by decide +kernel
theorem jd_84_2 : decode prog_7_method_4_code 2 = .ok (.iload_n 2, 1) := by decide +kernel
theorem jd_84_3 : decode prog_7_method_4_code 3 = .ok (.aload_n 0, 1) := by decide +kernel
theorem jd_84_4 : decode prog_7_method_4_code 4 = .ok (.getfield 36, 3) := by decide +kernel
theorem jd_84_7 : decode prog_7_method_4_code 7 = .ok (.if_icmp .ge 21, 3) := by decide +kernel
theorem jd_84_10 : decode prog_7_method_4_code 10 = .ok (.aload_n 0, 1) := by decide +kernel
theorem jd_84_11 : decode prog_7_method_4_code 11 = .ok (.getfield 9, 3) := by decide +kernel
theorem jd_84_14 : decode prog_7_method_4_code 14 = .ok (.iload_n 2, 1) := by decide +kernel
theorem jd_84_15 : decode prog_7_method_4_code 15 = .ok (.iaload, 1) := by decide +kernel
theorem jd_84_16 : decode prog_7_method_4_code 16 = .ok (.iload_n 1, 1) := by decide +kernel
theorem jd_84_17 : decode prog_7_method_4_code 17 = .ok (.if_icmp .ne 5, 3) := by decide +kernel
theorem jd_84_20 : decode prog_7_method_4_code 20 = .ok (.iconst 1, 1) := by decide +kernel
theorem jd_84_21 : decode prog_7_method_4_code 21 = .ok (.ireturn, 1) := by decide +kernel
theorem jd_84_22 : decode prog_7_method_4_code 22 = .ok (.iinc 2 1, 3) := by decide +kernel
theorem jd_84_25 : decode prog_7_method_4_code 25 = .ok (.goto (-23), 3) := by decide +kernel
theorem jd_84_28 : decode prog_7_method_4_code 28 = .ok (.iconst 0, 1) := by decide +kernel
theorem jd_84_29 : decode prog_7_method_4_code 29 = .ok (.ireturn, 1) := by decide +kernel
def jt_84 (pc : Nat) : jx_Sp := bif Nat.ble pc 14 then (bif Nat.ble pc 4 then (bif Nat.ble pc 2 then (bif Nat.ble pc 1 then (bif Nat.ble pc 0 then (bif Nat.beq pc 0 then js_c 0 1 else js_none) else (bif Nat.beq pc 1 then js_is 2 1 else js_none)) else (bif Nat.beq pc 2 then js_il 2 1 else js_none)) else (bif Nat.ble pc 3 then (bif Nat.beq pc 3 then js_al 0 1 else js_none) else (bif Nat.beq pc 4 then js_getf 7 2 else js_none))) else (bif Nat.ble pc 10 then (bif Nat.ble pc 7 then (bif Nat.beq pc 7 then js_cge 28 else js_none) else (bif Nat.beq pc 10 then js_al 0 1 else js_none)) else (bif Nat.ble pc 11 then (bif Nat.beq pc 11 then js_getf 7 0 else js_none) else (bif Nat.beq pc 14 then js_il 2 1 else js_none)))) else (bif Nat.ble pc 21 then (bif Nat.ble pc 17 then (bif Nat.ble pc 16 then (bif Nat.ble pc 15 then (bif Nat.beq pc 15 then js_ald else js_none) else (bif Nat.beq pc 16 then js_il 1 1 else js_none)) else (bif Nat.beq pc 17 then js_cne 22 else js_none)) else (bif Nat.ble pc 20 then (bif Nat.beq pc 20 then js_c 1 1 else js_none) else (bif Nat.beq pc 21 then js_zr else js_none))) else (bif Nat.ble pc 25 then (bif Nat.ble pc 22 then (bif Nat.beq pc 22 then js_inc 2 1 else js_none) else (bif Nat.beq pc 25 then js_go 2 else js_none)) else (bif Nat.ble pc 28 then (bif Nat.beq pc 28 then js_c 0 1 else js_none) else (bif Nat.beq pc 29 then js_zr else js_none))))
theorem jk_84_0 : jx_Snd 84 0 (js_c 0 1) := jo_iconst (z := 0) jd_84_0 rfl
theorem jk_84_1 : jx_Snd 84 1 (js_is 2 1) := jo_istore_n (i := 2) (w := 2) rfl (Nat.le_of_ble_eq_true rfl) jd_84_1
theorem jk_84_2 : jx_Snd 84 2 (js_il 2 1) := jo_iload_n (i := 2) (w := 2) rfl jd_84_2
theorem jk_84_3 : jx_Snd 84 3 (js_al 0 1) := jo_aload_n (i := 0) (w := 0) rfl jd_84_3
theorem jk_84_4 : jx_Snd 84 4 (js_getf 7 2) := jo_getf rfl jf_7_36 jd_84_4
theorem jk_84_7 : jx_Snd 84 7 (js_cge 28) := jo_cge (o := 21) rfl jd_84_7
theorem jk_84_10 : jx_Snd 84 10 (js_al 0 1) := jo_aload_n (i := 0) (w := 0) rfl jd_84_10
theorem jk_84_11 : jx_Snd 84 11 (js_getf 7 0) := jo_getf rfl jf_7_9 jd_84_11
theorem jk_84_14 : jx_Snd 84 14 (js_il 2 1) := jo_iload_n (i := 2) (w := 2) rfl jd_84_14
theorem jk_84_15 : jx_Snd 84 15 (js_ald) := jo_ald jd_84_15
theorem jk_84_16 : jx_Snd 84 16 (js_il 1 1) := jo_iload_n (i := 1) (w := 1) rfl jd_84_16
theorem jk_84_17 : jx_Snd 84 17 (js_cne 22) := jo_cne (o := 5) rfl jd_84_17
theorem jk_84_20 : jx_Snd 84 20 (js_c 1 1) := jo_iconst (z := 1) jd_84_20 rfl
theorem jk_84_21 : jx_Snd 84 21 (js_zr) := jo_zr rfl jd_84_21
theorem jk_84_22 : jx_Snd 84 22 (js_inc 2 1) := jo_iinc (w := 1) rfl (Nat.le_of_ble_eq_true rfl) jd_84_22
theorem jk_84_25 : jx_Snd 84 25 (js_go 2) := jo_goto (o := (-23)) rfl jd_84_25
theorem jk_84_28 : jx_Snd 84 28 (js_c 0 1) := jo_iconst (z := 0) jd_84_28 rfl
theorem jk_84_29 : jx_Snd 84 29 (js_zr) := jo_zr rfl jd_84_29
theorem jk_84 : jx_So 84 jt_84 := fun pc => jo_le (jo_le (jo_le (jo_le (jo_le (jo_at (jk_84_0)) (jo_at (jk_84_1))) (jo_at (jk_84_2))) (jo_le (jo_at (jk_84_3)) (jo_at (jk_84_4)))) (jo_le (jo_le (jo_at (jk_84_7)) (jo_at (jk_84_10))) (jo_le (jo_at (jk_84_11)) (jo_at (jk_84_14))))) (jo_le (jo_le (jo_le (jo_le (jo_at (jk_84_15)) (jo_at (jk_84_16))) (jo_at (jk_84_17))) (jo_le (jo_at (jk_84_20)) (jo_at (jk_84_21)))) (jo_le (jo_le (jo_at (jk_84_22)) (jo_at (jk_84_25))) (jo_le (jo_at (jk_84_28)) (jo_at (jk_84_29)))))
theorem ji_84 {l : Launch} {D : va_G} {cA : ClassId} {ρ : Nat → Nat} {Λ : List jx_Lc} {d : Nat} {Q : Option Value → jx_St → Prop} {σ : jx_St} {z0 : Nat} {a1 : Int32} (h : jt_84 0 Λ jx_tb0 (jx_rn Λ jx_tb0 jt_84 (fun k' as σ K => jx_C l D cA ρ Λ d k' as σ K) Q (jx_J l D cA ρ Λ (jx_A ρ Λ) jx_tb0 (d + 1) 84 Q) [] 400) (fun k' as σ K => jx_C l D cA ρ Λ d k' as σ K) Q 0 [(0, .ref z0), (1, .int a1)] [] σ) : jx_C l D cA ρ Λ (d + 1) 84 [.ref z0, .int a1] σ Q := jx_in jk_84 400 [] rfl (Nat.le_of_ble_eq_true rfl) h
/-! ScriptLedger$Transaction.addInput(II)V -/
theorem jd_85_0 : decode prog_7_method_5_code 0 = .ok (.aload_n 0, 1) := by decide +kernel
theorem jd_85_1 : decode prog_7_method_5_code 1 = .ok (.getfield 36, 3) := by decide +kernel
theorem jd_85_4 : decode prog_7_method_5_code 4 = .ok (.iconst 3, 1) := by decide +kernel
theorem jd_85_5 : decode prog_7_method_5_code 5 = .ok (.if_icmp .lt 4, 3) := by decide +kernel
theorem jd_85_8 : decode prog_7_method_5_code 8 = .ok (.return_, 1) := by decide +kernel
theorem jd_85_9 : decode prog_7_method_5_code 9 = .ok (.aload_n 0, 1) := by decide +kernel
theorem jd_85_10 : decode prog_7_method_5_code 10 = .ok (.getfield 9, 3) := by decide +kernel
theorem jd_85_13 : decode prog_7_method_5_code 13 = .ok (.aload_n 0, 1) := by decide +kernel
theorem jd_85_14 : decode prog_7_method_5_code 14 = .ok (.getfield 36, 3) := by decide +kernel
theorem jd_85_17 : decode prog_7_method_5_code 17 = .ok (.iload_n 1, 1) := by decide +kernel
theorem jd_85_18 : decode prog_7_method_5_code 18 = .ok (.iastore, 1) := by decide +kernel
theorem jd_85_19 : decode prog_7_method_5_code 19 = .ok (.aload_n 0, 1) := by decide +kernel
theorem jd_85_20 : decode prog_7_method_5_code 20 = .ok (.getfield 15, 3) := by decide +kernel
theorem jd_85_23 : decode prog_7_method_5_code 23 = .ok (.aload_n 0, 1) := by decide +kernel
theorem jd_85_24 : decode prog_7_method_5_code 24 = .ok (.getfield 36, 3) := by decide +kernel
theorem jd_85_27 : decode prog_7_method_5_code 27 = .ok (.iload_n 2, 1) := by decide +kernel
theorem jd_85_28 : decode prog_7_method_5_code 28 = .ok (.iastore, 1) := by decide +kernel
theorem jd_85_29 : decode prog_7_method_5_code 29 = .ok (.aload_n 0, 1) := by decide +kernel
theorem jd_85_30 : decode prog_7_method_5_code 30 = .ok (.dup, 1) := by decide +kernel
theorem jd_85_31 : decode prog_7_method_5_code 31 = .ok (.getfield 36, 3) := by decide +kernel
theorem jd_85_34 : decode prog_7_method_5_code 34 = .ok (.iconst 1, 1) := by decide +kernel
theorem jd_85_35 : decode prog_7_method_5_code 35 = .ok (.iadd, 1) := by decide +kernel
theorem jd_85_36 : decode prog_7_method_5_code 36 = .ok (.putfield 36, 3) := by decide +kernel
theorem jd_85_39 : decode prog_7_method_5_code 39 = .ok (.return_, 1) := by decide +kernel
def jt_85 (pc : Nat) : jx_Sp := bif Nat.ble pc 19 then (bif Nat.ble pc 9 then (bif Nat.ble pc 4 then (bif Nat.ble pc 1 then (bif Nat.ble pc 0 then (bif Nat.beq pc 0 then js_al 0 1 else js_none) else (bif Nat.beq pc 1 then js_getf 7 2 else js_none)) else (bif Nat.beq pc 4 then js_c 3 1 else js_none)) else (bif Nat.ble pc 8 then (bif Nat.ble pc 5 then (bif Nat.beq pc 5 then js_clt 9 else js_none) else (bif Nat.beq pc 8 then js_vr else js_none)) else (bif Nat.beq pc 9 then js_al 0 1 else js_none))) else (bif Nat.ble pc 14 then (bif Nat.ble pc 13 then (bif Nat.ble pc 10 then (bif Nat.beq pc 10 then js_getf 7 0 else js_none) else (bif Nat.beq pc 13 then js_al 0 1 else js_none)) else (bif Nat.beq pc 14 then js_getf 7 2 else js_none)) else (bif Nat.ble pc 18 then (bif Nat.ble pc 17 then (bif Nat.beq pc 17 then js_il 1 1 else js_none) else (bif Nat.beq pc 18 then js_ast else js_none)) else (bif Nat.beq pc 19 then js_al 0 1 else js_none)))) else (bif Nat.ble pc 29 then (bif Nat.ble pc 24 then (bif Nat.ble pc 23 then (bif Nat.ble pc 20 then (bif Nat.beq pc 20 then js_getf 7 1 else js_none) else (bif Nat.beq pc 23 then js_al 0 1 else js_none)) else (bif Nat.beq pc 24 then js_getf 7 2 else js_none)) else (bif Nat.ble pc 28 then (bif Nat.ble pc 27 then (bif Nat.beq pc 27 then js_il 2 1 else js_none) else (bif Nat.beq pc 28 then js_ast else js_none)) else (bif Nat.beq pc 29 then js_al 0 1 else js_none))) else (bif Nat.ble pc 34 then (bif Nat.ble pc 31 then (bif Nat.ble pc 30 then (bif Nat.beq pc 30 then js_dup else js_none) else (bif Nat.beq pc 31 then js_getf 7 2 else js_none)) else (bif Nat.beq pc 34 then js_c 1 1 else js_none)) else (bif Nat.ble pc 36 then (bif Nat.ble pc 35 then (bif Nat.beq pc 35 then js_iadd else js_none) else (bif Nat.beq pc 36 then js_putf 7 2 false else js_none)) else (bif Nat.beq pc 39 then js_vr else js_none))))
theorem jk_85_0 : jx_Snd 85 0 (js_al 0 1) := jo_aload_n (i := 0) (w := 0) rfl jd_85_0
theorem jk_85_1 : jx_Snd 85 1 (js_getf 7 2) := jo_getf rfl jf_7_36 jd_85_1
theorem jk_85_4 : jx_Snd 85 4 (js_c 3 1) := jo_iconst (z := 3) jd_85_4 rfl
theorem jk_85_5 : jx_Snd 85 5 (js_clt 9) := jo_clt (o := 4) rfl jd_85_5
theorem jk_85_8 : jx_Snd 85 8 (js_vr) := jo_vr rfl jd_85_8
theorem jk_85_9 : jx_Snd 85 9 (js_al 0 1) := jo_aload_n (i := 0) (w := 0) rfl jd_85_9
theorem jk_85_10 : jx_Snd 85 10 (js_getf 7 0) := jo_getf rfl jf_7_9 jd_85_10
theorem jk_85_13 : jx_Snd 85 13 (js_al 0 1) := jo_aload_n (i := 0) (w := 0) rfl jd_85_13
theorem jk_85_14 : jx_Snd 85 14 (js_getf 7 2) := jo_getf rfl jf_7_36 jd_85_14
theorem jk_85_17 : jx_Snd 85 17 (js_il 1 1) := jo_iload_n (i := 1) (w := 1) rfl jd_85_17
theorem jk_85_18 : jx_Snd 85 18 (js_ast) := jo_ast jd_85_18
theorem jk_85_19 : jx_Snd 85 19 (js_al 0 1) := jo_aload_n (i := 0) (w := 0) rfl jd_85_19
theorem jk_85_20 : jx_Snd 85 20 (js_getf 7 1) := jo_getf rfl jf_7_15 jd_85_20
theorem jk_85_23 : jx_Snd 85 23 (js_al 0 1) := jo_aload_n (i := 0) (w := 0) rfl jd_85_23
theorem jk_85_24 : jx_Snd 85 24 (js_getf 7 2) := jo_getf rfl jf_7_36 jd_85_24
theorem jk_85_27 : jx_Snd 85 27 (js_il 2 1) := jo_iload_n (i := 2) (w := 2) rfl jd_85_27
theorem jk_85_28 : jx_Snd 85 28 (js_ast) := jo_ast jd_85_28
theorem jk_85_29 : jx_Snd 85 29 (js_al 0 1) := jo_aload_n (i := 0) (w := 0) rfl jd_85_29
theorem jk_85_30 : jx_Snd 85 30 (js_dup) := jo_dup jd_85_30
theorem jk_85_31 : jx_Snd 85 31 (js_getf 7 2) := jo_getf rfl jf_7_36 jd_85_31
theorem jk_85_34 : jx_Snd 85 34 (js_c 1 1) := jo_iconst (z := 1) jd_85_34 rfl
theorem jk_85_35 : jx_Snd 85 35 (js_iadd) := jo_iadd jd_85_35
theorem jk_85_36 : jx_Snd 85 36 (js_putf 7 2 false) := jo_putf (z := false) rfl jf_7_36 (fun C T N h => by cases h; rfl) jd_85_36
theorem jk_85_39 : jx_Snd 85 39 (js_vr) := jo_vr rfl jd_85_39
theorem jk_85 : jx_So 85 jt_85 := fun pc => jo_le (jo_le (jo_le (jo_le (jo_le (jo_at (jk_85_0)) (jo_at (jk_85_1))) (jo_at (jk_85_4))) (jo_le (jo_le (jo_at (jk_85_5)) (jo_at (jk_85_8))) (jo_at (jk_85_9)))) (jo_le (jo_le (jo_le (jo_at (jk_85_10)) (jo_at (jk_85_13))) (jo_at (jk_85_14))) (jo_le (jo_le (jo_at (jk_85_17)) (jo_at (jk_85_18))) (jo_at (jk_85_19))))) (jo_le (jo_le (jo_le (jo_le (jo_at (jk_85_20)) (jo_at (jk_85_23))) (jo_at (jk_85_24))) (jo_le (jo_le (jo_at (jk_85_27)) (jo_at (jk_85_28))) (jo_at (jk_85_29)))) (jo_le (jo_le (jo_le (jo_at (jk_85_30)) (jo_at (jk_85_31))) (jo_at (jk_85_34))) (jo_le (jo_le (jo_at (jk_85_35)) (jo_at (jk_85_36))) (jo_at (jk_85_39)))))
theorem ji_85 {l : Launch} {D : va_G} {cA : ClassId} {ρ : Nat → Nat} {Λ : List jx_Lc} {d : Nat} {Q : Option Value → jx_St → Prop} {σ : jx_St} {z0 : Nat} {a1 : Int32} {a2 : Int32} (h : jt_85 0 Λ jx_tb0 (jx_rn Λ jx_tb0 jt_85 (fun k' as σ K => jx_C l D cA ρ Λ d k' as σ K) Q (jx_J l D cA ρ Λ (jx_A ρ Λ) jx_tb0 (d + 1) 85 Q) [] 400) (fun k' as σ K => jx_C l D cA ρ Λ d k' as σ K) Q 0 [(0, .ref z0), (1, .int a1), (2, .int a2)] [] σ) : jx_C l D cA ρ Λ (d + 1) 85 [.ref z0, .int a1, .int a2] σ Q := jx_in jk_85 400 [] rfl (Nat.le_of_ble_eq_true rfl) h
/-! ScriptLedger$Transaction.leastFee()I -/
theorem jd_86_0 : decode prog_7_method_6_code 0 = .ok (.iconst 5, 1) := by decide +kernel
theorem jd_86_1 : decode prog_7_method_6_code 1 = .ok (.aload_n 0, 1) := by decide +kernel
theorem jd_86_2 : decode prog_7_method_6_code 2 = .ok (.getfield 36, 3) := by decide +kernel
theorem jd_86_5 : decode prog_7_method_6_code 5 = .ok (.iadd, 1) := by decide +kernel
theorem jd_86_6 : decode prog_7_method_6_code 6 = .ok (.aload_n 0, 1) := by decide +kernel
theorem jd_86_7 : decode prog_7_method_6_code 7 = .ok (.getfield 23, 3) := by decide +kernel
theorem jd_86_10 : decode prog_7_method_6_code 10 = .ok (.getfield 40, 3) := by decide +kernel
theorem jd_86_13 : decode prog_7_method_6_code 13 = .ok (.iadd, 1) := by decide +kernel
theorem jd_86_14 : decode prog_7_method_6_code 14 = .ok (.aload_n 0, 1) := by decide +kernel
theorem jd_86_15 : decode prog_7_method_6_code 15 = .ok (.getfield 62, 3) := by decide +kernel
theorem jd_86_18 : decode prog_7_method_6_code 18 = .ok (.bipush 8, 2) := by decide +kernel
theorem jd_86_20 : decode prog_7_method_6_code 20 = .ok (.idiv, 1) := by decide +kernel
theorem jd_86_21 : decode prog_7_method_6_code 21 = .ok (.iadd, 1) := by decide +kernel
theorem jd_86_22 : decode prog_7_method_6_code 22 = .ok (.ireturn, 1) := by decide +kernel
def jt_86 (pc : Nat) : jx_Sp := bif Nat.ble pc 10 then (bif Nat.ble pc 5 then (bif Nat.ble pc 1 then (bif Nat.ble pc 0 then (bif Nat.beq pc 0 then js_c 5 1 else js_none) else (bif Nat.beq pc 1 then js_al 0 1 else js_none)) else (bif Nat.ble pc 2 then (bif Nat.beq pc 2 then js_getf 7 2 else js_none) else (bif Nat.beq pc 5 then js_iadd else js_none))) else (bif Nat.ble pc 7 then (bif Nat.ble pc 6 then (bif Nat.beq pc 6 then js_al 0 1 else js_none) else (bif Nat.beq pc 7 then js_getf 7 3 else js_none)) else (bif Nat.beq pc 10 then js_getf 6 3 else js_none))) else (bif Nat.ble pc 18 then (bif Nat.ble pc 14 then (bif Nat.ble pc 13 then (bif Nat.beq pc 13 then js_iadd else js_none) else (bif Nat.beq pc 14 then js_al 0 1 else js_none)) else (bif Nat.ble pc 15 then (bif Nat.beq pc 15 then js_getf 7 10 else js_none) else (bif Nat.beq pc 18 then js_c 8 2 else js_none))) else (bif Nat.ble pc 21 then (bif Nat.ble pc 20 then (bif Nat.beq pc 20 then js_idiv else js_none) else (bif Nat.beq pc 21 then js_iadd else js_none)) else (bif Nat.beq pc 22 then js_ir else js_none)))
theorem jk_86_0 : jx_Snd 86 0 (js_c 5 1) := jo_iconst (z := 5) jd_86_0 rfl
theorem jk_86_1 : jx_Snd 86 1 (js_al 0 1) := jo_aload_n (i := 0) (w := 0) rfl jd_86_1
theorem jk_86_2 : jx_Snd 86 2 (js_getf 7 2) := jo_getf rfl jf_7_36 jd_86_2
theorem jk_86_5 : jx_Snd 86 5 (js_iadd) := jo_iadd jd_86_5
theorem jk_86_6 : jx_Snd 86 6 (js_al 0 1) := jo_aload_n (i := 0) (w := 0) rfl jd_86_6
theorem jk_86_7 : jx_Snd 86 7 (js_getf 7 3) := jo_getf rfl jf_7_23 jd_86_7
theorem jk_86_10 : jx_Snd 86 10 (js_getf 6 3) := jo_getf rfl jf_7_40 jd_86_10
theorem jk_86_13 : jx_Snd 86 13 (js_iadd) := jo_iadd jd_86_13
theorem jk_86_14 : jx_Snd 86 14 (js_al 0 1) := jo_aload_n (i := 0) (w := 0) rfl jd_86_14
theorem jk_86_15 : jx_Snd 86 15 (js_getf 7 10) := jo_getf rfl jf_7_62 jd_86_15
theorem jk_86_18 : jx_Snd 86 18 (js_c 8 2) := jo_bipush (z := 8) jd_86_18 (by decide +kernel)
theorem jk_86_20 : jx_Snd 86 20 (js_idiv) := jo_idiv jd_86_20
theorem jk_86_21 : jx_Snd 86 21 (js_iadd) := jo_iadd jd_86_21
theorem jk_86_22 : jx_Snd 86 22 (js_ir) := jo_ir rfl jd_86_22
theorem jk_86 : jx_So 86 jt_86 := fun pc => jo_le (jo_le (jo_le (jo_le (jo_at (jk_86_0)) (jo_at (jk_86_1))) (jo_le (jo_at (jk_86_2)) (jo_at (jk_86_5)))) (jo_le (jo_le (jo_at (jk_86_6)) (jo_at (jk_86_7))) (jo_at (jk_86_10)))) (jo_le (jo_le (jo_le (jo_at (jk_86_13)) (jo_at (jk_86_14))) (jo_le (jo_at (jk_86_15)) (jo_at (jk_86_18)))) (jo_le (jo_le (jo_at (jk_86_20)) (jo_at (jk_86_21))) (jo_at (jk_86_22))))
theorem ji_86 {l : Launch} {D : va_G} {cA : ClassId} {ρ : Nat → Nat} {Λ : List jx_Lc} {d : Nat} {Q : Option Value → jx_St → Prop} {σ : jx_St} {z0 : Nat} (h : jt_86 0 Λ jx_tb0 (jx_rn Λ jx_tb0 jt_86 (fun k' as σ K => jx_C l D cA ρ Λ d k' as σ K) Q (jx_J l D cA ρ Λ (jx_A ρ Λ) jx_tb0 (d + 1) 86 Q) [] 400) (fun k' as σ K => jx_C l D cA ρ Λ d k' as σ K) Q 0 [(0, .ref z0)] [] σ) : jx_C l D cA ρ Λ (d + 1) 86 [.ref z0] σ Q := jx_in jk_86 400 [] rfl (Nat.le_of_ble_eq_true rfl) h
/-! ScriptLedger$Transaction.isSignedBy(I)Z -/
theorem jd_87_0 : decode prog_7_method_7_code 0 = .ok (.iload_n 1, 1) := by decide +kernel
theorem jd_87_1 : decode prog_7_method_7_code 1 = .ok (.iconst 4, 1) := by decide +kernel
theorem jd_87_2 : decode prog_7_method_7_code 2 = .ok (.if_icmp .ge 19, 3) := by decide +kernel
theorem jd_87_5 : decode prog_7_method_7_code 5 = .ok (.aload_n 0, 1) := by decide +kernel
theorem jd_87_6 : decode prog_7_method_7_code 6 = .ok (.getfield 59, 3) := by decide +kernel
theorem jd_87_9 : decode prog_7_method_7_code 9 = .ok (.iload_n 1, 1) := by decide +kernel
theorem jd_87_10 : decode prog_7_method_7_code 10 = .ok (.ishr, 1) := by decide +kernel
theorem jd_87_11 : decode prog_7_method_7_code 11 = .ok (.iconst 1, 1) := by decide +kernel
theorem jd_87_12 : decode prog_7_method_7_code 12 = .ok (.iand, 1) := by decide +kernel
theorem jd_87_13 : decode prog_7_method_7_code 13 = .ok (.iconst 1, 1) := by decide +kernel
theorem jd_87_14 : decode prog_7_method_7_code 14 = .ok (.if_icmp .ne 7, 3) := by decide +kernel
theorem jd_87_17 : decode prog_7_method_7_code 17 = .ok (.iconst 1, 1) := by decide +kernel
theorem jd_87_18 : decode prog_7_method_7_code 18 = .ok (.goto 4, 3) := by decide +kernel
theorem jd_87_21 : decode prog_7_method_7_code 21 = .ok (.iconst 0, 1) := by decide +kernel
theorem jd_87_22 : decode prog_7_method_7_code 22 = .ok (.ireturn, 1) := by decide +kernel
def jt_87 (pc : Nat) : jx_Sp := bif Nat.ble pc 11 then (bif Nat.ble pc 5 then (bif Nat.ble pc 1 then (bif Nat.ble pc 0 then (bif Nat.beq pc 0 then js_il 1 1 else js_none) else (bif Nat.beq pc 1 then js_c 4 1 else js_none)) else (bif Nat.ble pc 2 then (bif Nat.beq pc 2 then js_cge 21 else js_none) else (bif Nat.beq pc 5 then js_al 0 1 else js_none))) else (bif Nat.ble pc 9 then (bif Nat.ble pc 6 then (bif Nat.beq pc 6 then js_getf 7 9 else js_none) else (bif Nat.beq pc 9 then js_il 1 1 else js_none)) else (bif Nat.ble pc 10 then (bif Nat.beq pc 10 then js_ishr else js_none) else (bif Nat.beq pc 11 then js_c 1 1 else js_none)))) else (bif Nat.ble pc 17 then (bif Nat.ble pc 13 then (bif Nat.ble pc 12 then (bif Nat.beq pc 12 then js_iand else js_none) else (bif Nat.beq pc 13 then js_c 1 1 else js_none)) else (bif Nat.ble pc 14 then (bif Nat.beq pc 14 then js_cne 21 else js_none) else (bif Nat.beq pc 17 then js_c 1 1 else js_none))) else (bif Nat.ble pc 21 then (bif Nat.ble pc 18 then (bif Nat.beq pc 18 then js_go 22 else js_none) else (bif Nat.beq pc 21 then js_c 0 1 else js_none)) else (bif Nat.beq pc 22 then js_zr else js_none)))
theorem jk_87_0 : jx_Snd 87 0 (js_il 1 1) := jo_iload_n (i := 1) (w := 1) rfl jd_87_0
theorem jk_87_1 : jx_Snd 87 1 (js_c 4 1) := jo_iconst (z := 4) jd_87_1 rfl
theorem jk_87_2 : jx_Snd 87 2 (js_cge 21) := jo_cge (o := 19) rfl jd_87_2
theorem jk_87_5 : jx_Snd 87 5 (js_al 0 1) := jo_aload_n (i := 0) (w := 0) rfl jd_87_5
theorem jk_87_6 : jx_Snd 87 6 (js_getf 7 9) := jo_getf rfl jf_7_59 jd_87_6
theorem jk_87_9 : jx_Snd 87 9 (js_il 1 1) := jo_iload_n (i := 1) (w := 1) rfl jd_87_9
theorem jk_87_10 : jx_Snd 87 10 (js_ishr) := jo_ishr jd_87_10
theorem jk_87_11 : jx_Snd 87 11 (js_c 1 1) := jo_iconst (z := 1) jd_87_11 rfl
theorem jk_87_12 : jx_Snd 87 12 (js_iand) := jo_iand jd_87_12
theorem jk_87_13 : jx_Snd 87 13 (js_c 1 1) := jo_iconst (z := 1) jd_87_13 rfl
theorem jk_87_14 : jx_Snd 87 14 (js_cne 21) := jo_cne (o := 7) rfl jd_87_14
theorem jk_87_17 : jx_Snd 87 17 (js_c 1 1) := jo_iconst (z := 1) jd_87_17 rfl
theorem jk_87_18 : jx_Snd 87 18 (js_go 22) := jo_goto (o := 4) rfl jd_87_18
theorem jk_87_21 : jx_Snd 87 21 (js_c 0 1) := jo_iconst (z := 0) jd_87_21 rfl
theorem jk_87_22 : jx_Snd 87 22 (js_zr) := jo_zr rfl jd_87_22
theorem jk_87 : jx_So 87 jt_87 := fun pc => jo_le (jo_le (jo_le (jo_le (jo_at (jk_87_0)) (jo_at (jk_87_1))) (jo_le (jo_at (jk_87_2)) (jo_at (jk_87_5)))) (jo_le (jo_le (jo_at (jk_87_6)) (jo_at (jk_87_9))) (jo_le (jo_at (jk_87_10)) (jo_at (jk_87_11))))) (jo_le (jo_le (jo_le (jo_at (jk_87_12)) (jo_at (jk_87_13))) (jo_le (jo_at (jk_87_14)) (jo_at (jk_87_17)))) (jo_le (jo_le (jo_at (jk_87_18)) (jo_at (jk_87_21))) (jo_at (jk_87_22))))
theorem ji_87 {l : Launch} {D : va_G} {cA : ClassId} {ρ : Nat → Nat} {Λ : List jx_Lc} {d : Nat} {Q : Option Value → jx_St → Prop} {σ : jx_St} {z0 : Nat} {a1 : Int32} (h : jt_87 0 Λ jx_tb0 (jx_rn Λ jx_tb0 jt_87 (fun k' as σ K => jx_C l D cA ρ Λ d k' as σ K) Q (jx_J l D cA ρ Λ (jx_A ρ Λ) jx_tb0 (d + 1) 87 Q) [] 400) (fun k' as σ K => jx_C l D cA ρ Λ d k' as σ K) Q 0 [(0, .ref z0), (1, .int a1)] [] σ) : jx_C l D cA ρ Λ (d + 1) 87 [.ref z0, .int a1] σ Q := jx_in jk_87 400 [] rfl (Nat.le_of_ble_eq_true rfl) h
/-! ScriptLedgerModel.<init>(I)V -/
theorem jd_88_0 : decode prog_10_method_1_code 0 = .ok (.aload_n 0, 1) := by decide +kernel
theorem jd_88_1 : decode prog_10_method_1_code 1 = .ok (.invokespecial 1, 3) := by decide +kernel
theorem jd_88_4 : decode prog_10_method_1_code 4 = .ok (.aload_n 0, 1) := by decide +kernel
theorem jd_88_5 : decode prog_10_method_1_code 5 = .ok (.sipush 288, 3) := by decide +kernel
theorem jd_88_8 : decode prog_10_method_1_code 8 = .ok (.newarray .int, 2) := by decide +kernel
theorem jd_88_10 : decode prog_10_method_1_code 10 = .ok (.putfield 7, 3) := by decide +kernel
theorem jd_88_13 : decode prog_10_method_1_code 13 = .ok (.aload_n 0, 1) := by decide +kernel
theorem jd_88_14 : decode prog_10_method_1_code 14 = .ok (.bipush 6, 2) := by decide +kernel
theorem jd_88_16 : decode prog_10_method_1_code 16 = .ok (.newarray .int, 2) := by decide +kernel
theorem jd_88_18 : decode prog_10_method_1_code 18 = .ok (.putfield 13, 3) := by decide +kernel
theorem jd_88_21 : decode prog_10_method_1_code 21 = .ok (.aload_n 0, 1) := by decide +kernel
theorem jd_88_22 : decode prog_10_method_1_code 22 = .ok (.bipush 48, 2) := by decide +kernel
theorem jd_88_24 : decode prog_10_method_1_code 24 = .ok (.newarray .int, 2) := by decide +kernel
theorem jd_88_26 : decode prog_10_method_1_code 26 = .ok (.putfield 16, 3) := by decide +kernel
theorem jd_88_29 : decode prog_10_method_1_code 29 = .ok (.aload_n 0, 1) := by decide +kernel
theorem jd_88_30 : decode prog_10_method_1_code 30 = .ok (.sipush 260, 3) := by decide +kernel
theorem jd_88_33 : decode prog_10_method_1_code 33 = .ok (.newarray .int, 2) := by decide +kernel
theorem jd_88_35 : decode prog_10_method_1_code 35 = .ok (.putfield 19, 3) := by decide +kernel
theorem jd_88_38 : decode prog_10_method_1_code 38 = .ok (.aload_n 0, 1) := by decide +kernel
theorem jd_88_39 : decode prog_10_method_1_code 39 = .ok (.sipush 260, 3) := by decide +kernel
theorem jd_88_42 : decode prog_10_method_1_code 42 = .ok (.newarray .int, 2) := by decide +kernel
theorem jd_88_44 : decode prog_10_method_1_code 44 = .ok (.putfield 22, 3) := by decide +kernel
theorem jd_88_47 : decode prog_10_method_1_code 47 = .ok (.aload_n 0, 1) := by decide +kernel
theorem jd_88_48 : decode prog_10_method_1_code 48 = .ok (.sipush 260, 3) := by decide +kernel
theorem jd_88_51 : decode prog_10_method_1_code 51 = .ok (.newarray .int, 2) := by decide +kernel
theorem jd_88_53 : decode prog_10_method_1_code 53 = .ok (.putfield 25, 3) := by decide +kernel
theorem jd_88_56 : decode prog_10_method_1_code 56 = .ok (.aload_n 0, 1) := by decide +kernel
theorem jd_88_57 : decode prog_10_method_1_code 57 = .ok (.sipush 260, 3) := by decide +kernel
theorem jd_88_60 : decode prog_10_method_1_code 60 = .ok (.newarray .int, 2) := by decide +kernel
theorem jd_88_62 : decode prog_10_method_1_code 62 = .ok (.putfield 28, 3) := by decide +kernel
theorem jd_88_65 : decode prog_10_method_1_code 65 = .ok (.aload_n 0, 1) := by decide +kernel
theorem jd_88_66 : decode prog_10_method_1_code 66 = .ok (.sipush 260, 3) := by decide +kernel
theorem jd_88_69 : decode prog_10_method_1_code 69 = .ok (.newarray .int, 2) := by decide +kernel
theorem jd_88_71 : decode prog_10_method_1_code 71 = .ok (.putfield 31, 3) := by decide +kernel
theorem jd_88_74 : decode prog_10_method_1_code 74 = .ok (.aload_n 0, 1) := by decide +kernel
theorem jd_88_75 : decode prog_10_method_1_code 75 = .ok (.bipush 120, 2) := by decide +kernel
theorem jd_88_77 : decode prog_10_method_1_code 77 = .ok (.newarray .int, 2) := by decide +kernel
theorem jd_88_79 : decode prog_10_method_1_code 79 = .ok (.putfield 34, 3) := by decide +kernel
theorem jd_88_82 : decode prog_10_method_1_code 82 = .ok (.aload_n 0, 1) := by decide +kernel
theorem jd_88_83 : decode prog_10_method_1_code 83 = .ok (.bipush 120, 2) := by decide +kernel
theorem jd_88_85 : decode prog_10_method_1_code 85 = .ok (.newarray .int, 2) := by decide +kernel
theorem jd_88_87 : decode prog_10_method_1_code 87 = .ok (.putfield 37, 3) := by decide +kernel
theorem jd_88_90 : decode prog_10_method_1_code 90 = .ok (.aload_n 0, 1) := by decide +kernel
theorem jd_88_91 : decode prog_10_method_1_code 91 = .ok (.bipush 120, 2) := by decide +kernel
theorem jd_88_93 : decode prog_10_method_1_code 93 = .ok (.newarray .int, 2) := by decide +kernel
theorem jd_88_95 : decode prog_10_method_1_code 95 = .ok (.putfield 40, 3) := by decide +kernel
theorem jd_88_98 : decode prog_10_method_1_code 98 = .ok (.aload_n 0, 1) := by decide +kernel
theorem jd_88_99 : decode prog_10_method_1_code 99 = .ok (.bipush 120, 2) := by decide +kernel
theorem jd_88_101 : decode prog_10_method_1_code 101 = .ok (.newarray .int, 2) := by decide +kernel
theorem jd_88_103 : decode prog_10_method_1_code 103 = .ok (.putfield 43, 3) := by decide +kernel
theorem jd_88_106 : decode prog_10_method_1_code 106 = .ok (.aload_n 0, 1) := by decide +kernel
theorem jd_88_107 : decode prog_10_method_1_code 107 = .ok (.bipush 120, 2) := by decide +kernel
theorem jd_88_109 : decode prog_10_method_1_code 109 = .ok (.newarray .int, 2) := by decide +kernel
theorem jd_88_111 : decode prog_10_method_1_code 111 = .ok (.putfield 46, 3) := by decide +kernel
theorem jd_88_114 : decode prog_10_method_1_code 114 = .ok (.aload_n 0, 1) := by decide +kernel
theorem jd_88_115 : decode prog_10_method_1_code 115 = .ok (.iconst (-1), 1) := by decide +kernel
theorem jd_88_116 : decode prog_10_method_1_code 116 = .ok (.putfield 49, 3) := by decide +kernel
theorem jd_88_119 : decode prog_10_method_1_code 119 = .ok (.aload_n 0, 1) := by decide +kernel
theorem jd_88_120 : decode prog_10_method_1_code 120 = .ok (.sipush 144, 3) := by decide +kernel
theorem jd_88_123 : decode prog_10_method_1_code 123 = .ok (.newarray .int, 2) := by decide +kernel
theorem jd_88_125 : decode prog_10_method_1_code 125 = .ok (.putfield 53, 3) := by decide +kernel
theorem jd_88_128 : decode prog_10_method_1_code 128 = .ok (.aload_n 0, 1) := by decide +kernel
theorem jd_88_129 : decode prog_10_method_1_code 129 = .ok (.bipush 48, 2) := by decide +kernel
theorem jd_88_131 : decode prog_10_method_1_code 131 = .ok (.newarray .int, 2) := by decide +kernel
theorem jd_88_133 : decode prog_10_method_1_code 133 = .ok (.putfield 56, 3) := by decide +kernel
theorem jd_88_136 : decode prog_10_method_1_code 136 = .ok (.aload_n 0, 1) := by decide +kernel
theorem jd_88_137 : decode prog_10_method_1_code 137 = .ok (.bipush 48, 2) := by decide +kernel
theorem jd_88_139 : decode prog_10_method_1_code 139 = .ok (.newarray .int, 2) := by decide +kernel
theorem jd_88_141 : decode prog_10_method_1_code 141 = .ok (.putfield 59, 3) := by decide +kernel
theorem jd_88_144 : decode prog_10_method_1_code 144 = .ok (.aload_n 0, 1) := by decide +kernel
theorem jd_88_145 : decode prog_10_method_1_code 145 = .ok (.bipush 48, 2) := by decide +kernel
theorem jd_88_147 : decode prog_10_method_1_code 147 = .ok (.newarray .int, 2) := by decide +kernel
theorem jd_88_149 : decode prog_10_method_1_code 149 = .ok (.putfield 62, 3) := by decide +kernel
theorem jd_88_152 : decode prog_10_method_1_code 152 = .ok (.aload_n 0, 1) := by decide +kernel
theorem jd_88_153 : decode prog_10_method_1_code 153 = .ok (.bipush 48, 2) := by decide +kernel
theorem jd_88_155 : decode prog_10_method_1_code 155 = .ok (.newarray .int, 2) := by decide +kernel
theorem jd_88_157 : decode prog_10_method_1_code 157 = .ok (.putfield 65, 3) := by decide +kernel
theorem jd_88_160 : decode prog_10_method_1_code 160 = .ok (.aload_n 0, 1) := by decide +kernel
theorem jd_88_161 : decode prog_10_method_1_code 161 = .ok (.bipush 41, 2) := by decide +kernel
theorem jd_88_163 : decode prog_10_method_1_code 163 = .ok (.newarray .int, 2) := by decide +kernel
theorem jd_88_165 : decode prog_10_method_1_code 165 = .ok (.putfield 68, 3) := by decide +kernel
theorem jd_88_168 : decode prog_10_method_1_code 168 = .ok (.aload_n 0, 1) := by decide +kernel
theorem jd_88_169 : decode prog_10_method_1_code 169 = .ok (.iconst 3, 1) := by decide +kernel
theorem jd_88_170 : decode prog_10_method_1_code 170 = .ok (.newarray .int, 2) := by decide +kernel
theorem jd_88_172 : decode prog_10_method_1_code 172 = .ok (.putfield 71, 3) := by decide +kernel
theorem jd_88_175 : decode prog_10_method_1_code 175 = .ok (.aload_n 0, 1) := by decide +kernel
theorem jd_88_176 : decode prog_10_method_1_code 176 = .ok (.iconst 3, 1) := by decide +kernel
theorem jd_88_177 : decode prog_10_method_1_code 177 = .ok (.newarray .int, 2) := by decide +kernel
theorem jd_88_179 : decode prog_10_method_1_code 179 = .ok (.putfield 74, 3) := by decide +kernel
theorem jd_88_182 : decode prog_10_method_1_code 182 = .ok (.aload_n 0, 1) := by decide +kernel
theorem jd_88_183 : decode prog_10_method_1_code 183 = .ok (.iconst 3, 1) := by decide +kernel
theorem jd_88_184 : decode prog_10_method_1_code 184 = .ok (.newarray .int, 2) := by decide +kernel
theorem jd_88_186 : decode prog_10_method_1_code 186 = .ok (.putfield 77, 3) := by decide +kernel
theorem jd_88_189 : decode prog_10_method_1_code 189 = .ok (.aload_n 0, 1) := by decide +kernel
theorem jd_88_190 : decode prog_10_method_1_code 190 = .ok (.iconst 3, 1) := by decide +kernel
theorem jd_88_191 : decode prog_10_method_1_code 191 = .ok (.newarray .int, 2) := by decide +kernel
theorem jd_88_193 : decode prog_10_method_1_code 193 = .ok (.putfield 80, 3) := by decide +kernel
theorem jd_88_196 : decode prog_10_method_1_code 196 = .ok (.aload_n 0, 1) := by decide +kernel
theorem jd_88_197 : decode prog_10_method_1_code 197 = .ok (.bipush 9, 2) := by decide +kernel
theorem jd_88_199 : decode prog_10_method_1_code 199 = .ok (.newarray .int, 2) := by decide +kernel
theorem jd_88_201 : decode prog_10_method_1_code 201 = .ok (.putfield 83, 3) := by decide +kernel
theorem jd_88_204 : decode prog_10_method_1_code 204 = .ok (.aload_n 0, 1) := by decide +kernel
theorem jd_88_205 : decode prog_10_method_1_code 205 = .ok (.iconst 3, 1) := by decide +kernel
theorem jd_88_206 : decode prog_10_method_1_code 206 = .ok (.newarray .int, 2) := by decide +kernel
theorem jd_88_208 : decode prog_10_method_1_code 208 = .ok (.putfield 86, 3) := by decide +kernel
theorem jd_88_211 : decode prog_10_method_1_code 211 = .ok (.aload_n 0, 1) := by decide +kernel
theorem jd_88_212 : decode prog_10_method_1_code 212 = .ok (.iconst 3, 1) := by decide +kernel
theorem jd_88_213 : decode prog_10_method_1_code 213 = .ok (.newarray .int, 2) := by decide +kernel
theorem jd_88_215 : decode prog_10_method_1_code 215 = .ok (.putfield 89, 3) := by decide +kernel
theorem jd_88_218 : decode prog_10_method_1_code 218 = .ok (.aload_n 0, 1) := by decide +kernel
theorem jd_88_219 : decode prog_10_method_1_code 219 = .ok (.bipush 40, 2) := by decide +kernel
theorem jd_88_221 : decode prog_10_method_1_code 221 = .ok (.putfield 92, 3) := by decide +kernel
theorem jd_88_224 : decode prog_10_method_1_code 224 = .ok (.aload_n 0, 1) := by decide +kernel
theorem jd_88_225 : decode prog_10_method_1_code 225 = .ok (.iconst (-1), 1) := by decide +kernel
theorem jd_88_226 : decode prog_10_method_1_code 226 = .ok (.putfield 95, 3) := by decide +kernel
theorem jd_88_229 : decode prog_10_method_1_code 229 = .ok (.aload_n 0, 1) := by decide +kernel
theorem jd_88_230 : decode prog_10_method_1_code 230 = .ok (.bipush 48, 2) := by decide +kernel
theorem jd_88_232 : decode prog_10_method_1_code 232 = .ok (.newarray .int, 2) := by decide +kernel
theorem jd_88_234 : decode prog_10_method_1_code 234 = .ok (.putfield 98, 3) := by decide +kernel
theorem jd_88_237 : decode prog_10_method_1_code 237 = .ok (.aload_n 0, 1) := by decide +kernel
theorem jd_88_238 : decode prog_10_method_1_code 238 = .ok (.bipush 48, 2) := by decide +kernel
theorem jd_88_240 : decode prog_10_method_1_code 240 = .ok (.newarray .int, 2) := by decide +kernel
theorem jd_88_242 : decode prog_10_method_1_code 242 = .ok (.putfield 101, 3) := by decide +kernel
theorem jd_88_245 : decode prog_10_method_1_code 245 = .ok (.iconst 0, 1) := by decide +kernel
theorem jd_88_246 : decode prog_10_method_1_code 246 = .ok (.istore_n 2, 1) := by decide +kernel
theorem jd_88_247 : decode prog_10_method_1_code 247 = .ok (.iload_n 2, 1) := by decide +kernel
theorem jd_88_248 : decode prog_10_method_1_code 248 = .ok (.iconst 2, 1) := by decide +kernel
theorem jd_88_249 : decode prog_10_method_1_code 249 = .ok (.if_icmp .ge 59, 3) := by decide +kernel
theorem jd_88_252 : decode prog_10_method_1_code 252 = .ok (.aload_n 0, 1) := by decide +kernel
theorem jd_88_253 : decode prog_10_method_1_code 253 = .ok (.getfield 53, 3) := by decide +kernel
theorem jd_88_256 : decode prog_10_method_1_code 256 = .ok (.iconst 3, 1) := by decide +kernel
theorem jd_88_257 : decode prog_10_method_1_code 257 = .ok (.iload_n 2, 1) := by decide +kernel
theorem jd_88_258 : decode prog_10_method_1_code 258 = .ok (.imul, 1) := by decide +kernel
theorem jd_88_259 : decode prog_10_method_1_code 259 = .ok (.sipush 500, 3) := by decide +kernel
theorem jd_88_262 : decode prog_10_method_1_code 262 = .ok (.iload_n 1, 1) := by decide +kernel
theorem jd_88_263 : decode prog_10_method_1_code 263 = .ok (.sipush 1000, 3) := by decide +kernel
theorem jd_88_266 : decode prog_10_method_1_code 266 = .ok (.irem, 1) := by decide +kernel
theorem jd_88_267 : decode prog_10_method_1_code 267 = .ok (.ifCond .le 11, 3) := by decide +kernel
theorem jd_88_270 : decode prog_10_method_1_code 270 = .ok (.iload_n 1, 1) := by decide +kernel
theorem jd_88_271 : decode prog_10_method_1_code 271 = .ok (.sipush 1000, 3) := by decide +kernel
theorem jd_88_274 : decode prog_10_method_1_code 274 = .ok (.irem, 1) := by decide +kernel
theorem jd_88_275 : decode prog_10_method_1_code 275 = .ok (.goto 4, 3) := by decide +kernel
theorem jd_88_278 : decode prog_10_method_1_code 278 = .ok (.iconst 0, 1) := by decide +kernel
theorem jd_88_279 : decode prog_10_method_1_code 279 = .ok (.iadd, 1) := by decide +kernel
theorem jd_88_280 : decode prog_10_method_1_code 280 = .ok (.iastore, 1) := by decide +kernel
theorem jd_88_281 : decode prog_10_method_1_code 281 = .ok (.aload_n 0, 1) := by decide +kernel
theorem jd_88_282 : decode prog_10_method_1_code 282 = .ok (.getfield 56, 3) := by decide +kernel
theorem jd_88_285 : decode prog_10_method_1_code 285 = .ok (.iload_n 2, 1) := by decide +kernel
theorem jd_88_286 : decode prog_10_method_1_code 286 = .ok (.iload_n 2, 1) := by decide +kernel
theorem jd_88_287 : decode prog_10_method_1_code 287 = .ok (.iastore, 1) := by decide +kernel
theorem jd_88_288 : decode prog_10_method_1_code 288 = .ok (.aload_n 0, 1) := by decide +kernel
theorem jd_88_289 : decode prog_10_method_1_code 289 = .ok (.getfield 62, 3) := by decide +kernel
theorem jd_88_292 : decode prog_10_method_1_code 292 = .ok (.iload_n 2, 1) := by decide +kernel
theorem jd_88_293 : decode prog_10_method_1_code 293 = .ok (.iconst (-1), 1) := by decide +kernel
theorem jd_88_294 : decode prog_10_method_1_code 294 = .ok (.iastore, 1) := by decide +kernel
theorem jd_88_295 : decode prog_10_method_1_code 295 = .ok (.aload_n 0, 1) := by decide +kernel
theorem jd_88_296 : decode prog_10_method_1_code 296 = .ok (.getfield 65, 3) := by decide +kernel
theorem jd_88_299 : decode prog_10_method_1_code 299 = .ok (.iload_n 2, 1) := by decide +kernel
theorem jd_88_300 : decode prog_10_method_1_code 300 = .ok (.iconst (-1), 1) := by decide +kernel
theorem jd_88_301 : decode prog_10_method_1_code 301 = .ok (.iastore, 1) := by decide +kernel
theorem jd_88_302 : decode prog_10_method_1_code 302 = .ok (.iinc 2 1, 3) := by decide +kernel
theorem jd_88_305 : decode prog_10_method_1_code 305 = .ok (.goto (-58), 3) := by decide +kernel
theorem jd_88_308 : decode prog_10_method_1_code 308 = .ok (.aload_n 0, 1) := by decide +kernel
theorem jd_88_309 : decode prog_10_method_1_code 309 = .ok (.iconst 2, 1) := by decide +kernel
theorem jd_88_310 : decode prog_10_method_1_code 310 = .ok (.putfield 104, 3) := by decide +kernel
theorem jd_88_313 : decode prog_10_method_1_code 313 = .ok (.return_, 1) := by decide +kernel
def jnt_88 (pc : Nat) : jn_Sp := bif Nat.ble pc 169 then (bif Nat.ble pc 87 then (bif Nat.ble pc 42 then (bif Nat.ble pc 21 then (bif Nat.ble pc 10 then (bif Nat.ble pc 4 then (bif Nat.ble pc 1 then (bif Nat.ble pc 0 then (bif Nat.beq pc 0 then jn_of (js_al 0 1) else jn_none) else (bif Nat.beq pc 1 then jn_obj else jn_none)) else (bif Nat.beq pc 4 then jn_of (js_al 0 1) else jn_none)) else (bif Nat.ble pc 8 then (bif Nat.ble pc 5 then (bif Nat.beq pc 5 then jn_of (js_c 288 3) else jn_none) else (bif Nat.beq pc 8 then jn_newa else jn_none)) else (bif Nat.beq pc 10 then jn_putr 8 1 else jn_none))) else (bif Nat.ble pc 16 then (bif Nat.ble pc 14 then (bif Nat.ble pc 13 then (bif Nat.beq pc 13 then jn_of (js_al 0 1) else jn_none) else (bif Nat.beq pc 14 then jn_of (js_c 6 2) else jn_none)) else (bif Nat.beq pc 16 then jn_newa else jn_none)) else (bif Nat.ble pc 18 then (bif Nat.beq pc 18 then jn_putr 8 2 else jn_none) else (bif Nat.beq pc 21 then jn_of (js_al 0 1) else jn_none)))) else (bif Nat.ble pc 30 then (bif Nat.ble pc 26 then (bif Nat.ble pc 24 then (bif Nat.ble pc 22 then (bif Nat.beq pc 22 then jn_of (js_c 48 2) else jn_none) else (bif Nat.beq pc 24 then jn_newa else jn_none)) else (bif Nat.beq pc 26 then jn_putr 8 4 else jn_none)) else (bif Nat.ble pc 29 then (bif Nat.beq pc 29 then jn_of (js_al 0 1) else jn_none) else (bif Nat.beq pc 30 then jn_of (js_c 260 3) else jn_none))) else (bif Nat.ble pc 38 then (bif Nat.ble pc 35 then (bif Nat.ble pc 33 then (bif Nat.beq pc 33 then jn_newa else jn_none) else (bif Nat.beq pc 35 then jn_putr 8 6 else jn_none)) else (bif Nat.beq pc 38 then jn_of (js_al 0 1) else jn_none)) else (bif Nat.ble pc 39 then (bif Nat.beq pc 39 then jn_of (js_c 260 3) else jn_none) else (bif Nat.beq pc 42 then jn_newa else jn_none))))) else (bif Nat.ble pc 66 then (bif Nat.ble pc 56 then (bif Nat.ble pc 48 then (bif Nat.ble pc 47 then (bif Nat.ble pc 44 then (bif Nat.beq pc 44 then jn_putr 8 7 else jn_none) else (bif Nat.beq pc 47 then jn_of (js_al 0 1) else jn_none)) else (bif Nat.beq pc 48 then jn_of (js_c 260 3) else jn_none)) else (bif Nat.ble pc 53 then (bif Nat.ble pc 51 then (bif Nat.beq pc 51 then jn_newa else jn_none) else (bif Nat.beq pc 53 then jn_putr 8 8 else jn_none)) else (bif Nat.beq pc 56 then jn_of (js_al 0 1) else jn_none))) else (bif Nat.ble pc 62 then (bif Nat.ble pc 60 then (bif Nat.ble pc 57 then (bif Nat.beq pc 57 then jn_of (js_c 260 3) else jn_none) else (bif Nat.beq pc 60 then jn_newa else jn_none)) else (bif Nat.beq pc 62 then jn_putr 8 9 else jn_none)) else (bif Nat.ble pc 65 then (bif Nat.beq pc 65 then jn_of (js_al 0 1) else jn_none) else (bif Nat.beq pc 66 then jn_of (js_c 260 3) else jn_none)))) else (bif Nat.ble pc 77 then (bif Nat.ble pc 74 then (bif Nat.ble pc 71 then (bif Nat.ble pc 69 then (bif Nat.beq pc 69 then jn_newa else jn_none) else (bif Nat.beq pc 71 then jn_putr 8 10 else jn_none)) else (bif Nat.beq pc 74 then jn_of (js_al 0 1) else jn_none)) else (bif Nat.ble pc 75 then (bif Nat.beq pc 75 then jn_of (js_c 120 2) else jn_none) else (bif Nat.beq pc 77 then jn_newa else jn_none))) else (bif Nat.ble pc 83 then (bif Nat.ble pc 82 then (bif Nat.ble pc 79 then (bif Nat.beq pc 79 then jn_putr 8 12 else jn_none) else (bif Nat.beq pc 82 then jn_of (js_al 0 1) else jn_none)) else (bif Nat.beq pc 83 then jn_of (js_c 120 2) else jn_none)) else (bif Nat.ble pc 85 then (bif Nat.beq pc 85 then jn_newa else jn_none) else (bif Nat.beq pc 87 then jn_putr 8 13 else jn_none)))))) else (bif Nat.ble pc 129 then (bif Nat.ble pc 109 then (bif Nat.ble pc 99 then (bif Nat.ble pc 93 then (bif Nat.ble pc 91 then (bif Nat.ble pc 90 then (bif Nat.beq pc 90 then jn_of (js_al 0 1) else jn_none) else (bif Nat.beq pc 91 then jn_of (js_c 120 2) else jn_none)) else (bif Nat.beq pc 93 then jn_newa else jn_none)) else (bif Nat.ble pc 98 then (bif Nat.ble pc 95 then (bif Nat.beq pc 95 then jn_putr 8 15 else jn_none) else (bif Nat.beq pc 98 then jn_of (js_al 0 1) else jn_none)) else (bif Nat.beq pc 99 then jn_of (js_c 120 2) else jn_none))) else (bif Nat.ble pc 106 then (bif Nat.ble pc 103 then (bif Nat.ble pc 101 then (bif Nat.beq pc 101 then jn_newa else jn_none) else (bif Nat.beq pc 103 then jn_putr 8 16 else jn_none)) else (bif Nat.beq pc 106 then jn_of (js_al 0 1) else jn_none)) else (bif Nat.ble pc 107 then (bif Nat.beq pc 107 then jn_of (js_c 120 2) else jn_none) else (bif Nat.beq pc 109 then jn_newa else jn_none)))) else (bif Nat.ble pc 119 then (bif Nat.ble pc 115 then (bif Nat.ble pc 114 then (bif Nat.ble pc 111 then (bif Nat.beq pc 111 then jn_putr 8 17 else jn_none) else (bif Nat.beq pc 114 then jn_of (js_al 0 1) else jn_none)) else (bif Nat.beq pc 115 then jn_of (js_c (-1) 1) else jn_none)) else (bif Nat.ble pc 116 then (bif Nat.beq pc 116 then jn_of (js_putf 8 23 false) else jn_none) else (bif Nat.beq pc 119 then jn_of (js_al 0 1) else jn_none))) else (bif Nat.ble pc 125 then (bif Nat.ble pc 123 then (bif Nat.ble pc 120 then (bif Nat.beq pc 120 then jn_of (js_c 144 3) else jn_none) else (bif Nat.beq pc 123 then jn_newa else jn_none)) else (bif Nat.beq pc 125 then jn_putr 8 26 else jn_none)) else (bif Nat.ble pc 128 then (bif Nat.beq pc 128 then jn_of (js_al 0 1) else jn_none) else (bif Nat.beq pc 129 then jn_of (js_c 48 2) else jn_none))))) else (bif Nat.ble pc 149 then (bif Nat.ble pc 139 then (bif Nat.ble pc 136 then (bif Nat.ble pc 133 then (bif Nat.ble pc 131 then (bif Nat.beq pc 131 then jn_newa else jn_none) else (bif Nat.beq pc 133 then jn_putr 8 27 else jn_none)) else (bif Nat.beq pc 136 then jn_of (js_al 0 1) else jn_none)) else (bif Nat.ble pc 137 then (bif Nat.beq pc 137 then jn_of (js_c 48 2) else jn_none) else (bif Nat.beq pc 139 then jn_newa else jn_none))) else (bif Nat.ble pc 145 then (bif Nat.ble pc 144 then (bif Nat.ble pc 141 then (bif Nat.beq pc 141 then jn_putr 8 28 else jn_none) else (bif Nat.beq pc 144 then jn_of (js_al 0 1) else jn_none)) else (bif Nat.beq pc 145 then jn_of (js_c 48 2) else jn_none)) else (bif Nat.ble pc 147 then (bif Nat.beq pc 147 then jn_newa else jn_none) else (bif Nat.beq pc 149 then jn_putr 8 29 else jn_none)))) else (bif Nat.ble pc 160 then (bif Nat.ble pc 155 then (bif Nat.ble pc 153 then (bif Nat.ble pc 152 then (bif Nat.beq pc 152 then jn_of (js_al 0 1) else jn_none) else (bif Nat.beq pc 153 then jn_of (js_c 48 2) else jn_none)) else (bif Nat.beq pc 155 then jn_newa else jn_none)) else (bif Nat.ble pc 157 then (bif Nat.beq pc 157 then jn_putr 8 30 else jn_none) else (bif Nat.beq pc 160 then jn_of (js_al 0 1) else jn_none))) else (bif Nat.ble pc 165 then (bif Nat.ble pc 163 then (bif Nat.ble pc 161 then (bif Nat.beq pc 161 then jn_of (js_c 41 2) else jn_none) else (bif Nat.beq pc 163 then jn_newa else jn_none)) else (bif Nat.beq pc 165 then jn_putr 8 32 else jn_none)) else (bif Nat.ble pc 168 then (bif Nat.beq pc 168 then jn_of (js_al 0 1) else jn_none) else (bif Nat.beq pc 169 then jn_of (js_c 3 1) else jn_none))))))) else (bif Nat.ble pc 246 then (bif Nat.ble pc 206 then (bif Nat.ble pc 189 then (bif Nat.ble pc 179 then (bif Nat.ble pc 175 then (bif Nat.ble pc 172 then (bif Nat.ble pc 170 then (bif Nat.beq pc 170 then jn_newa else jn_none) else (bif Nat.beq pc 172 then jn_putr 8 34 else jn_none)) else (bif Nat.beq pc 175 then jn_of (js_al 0 1) else jn_none)) else (bif Nat.ble pc 177 then (bif Nat.ble pc 176 then (bif Nat.beq pc 176 then jn_of (js_c 3 1) else jn_none) else (bif Nat.beq pc 177 then jn_newa else jn_none)) else (bif Nat.beq pc 179 then jn_putr 8 35 else jn_none))) else (bif Nat.ble pc 184 then (bif Nat.ble pc 183 then (bif Nat.ble pc 182 then (bif Nat.beq pc 182 then jn_of (js_al 0 1) else jn_none) else (bif Nat.beq pc 183 then jn_of (js_c 3 1) else jn_none)) else (bif Nat.beq pc 184 then jn_newa else jn_none)) else (bif Nat.ble pc 186 then (bif Nat.beq pc 186 then jn_putr 8 37 else jn_none) else (bif Nat.beq pc 189 then jn_of (js_al 0 1) else jn_none)))) else (bif Nat.ble pc 197 then (bif Nat.ble pc 193 then (bif Nat.ble pc 191 then (bif Nat.ble pc 190 then (bif Nat.beq pc 190 then jn_of (js_c 3 1) else jn_none) else (bif Nat.beq pc 191 then jn_newa else jn_none)) else (bif Nat.beq pc 193 then jn_putr 8 38 else jn_none)) else (bif Nat.ble pc 196 then (bif Nat.beq pc 196 then jn_of (js_al 0 1) else jn_none) else (bif Nat.beq pc 197 then jn_of (js_c 9 2) else jn_none))) else (bif Nat.ble pc 204 then (bif Nat.ble pc 201 then (bif Nat.ble pc 199 then (bif Nat.beq pc 199 then jn_newa else jn_none) else (bif Nat.beq pc 201 then jn_putr 8 39 else jn_none)) else (bif Nat.beq pc 204 then jn_of (js_al 0 1) else jn_none)) else (bif Nat.ble pc 205 then (bif Nat.beq pc 205 then jn_of (js_c 3 1) else jn_none) else (bif Nat.beq pc 206 then jn_newa else jn_none))))) else (bif Nat.ble pc 226 then (bif Nat.ble pc 218 then (bif Nat.ble pc 212 then (bif Nat.ble pc 211 then (bif Nat.ble pc 208 then (bif Nat.beq pc 208 then jn_putr 8 40 else jn_none) else (bif Nat.beq pc 211 then jn_of (js_al 0 1) else jn_none)) else (bif Nat.beq pc 212 then jn_of (js_c 3 1) else jn_none)) else (bif Nat.ble pc 215 then (bif Nat.ble pc 213 then (bif Nat.beq pc 213 then jn_newa else jn_none) else (bif Nat.beq pc 215 then jn_putr 8 41 else jn_none)) else (bif Nat.beq pc 218 then jn_of (js_al 0 1) else jn_none))) else (bif Nat.ble pc 224 then (bif Nat.ble pc 221 then (bif Nat.ble pc 219 then (bif Nat.beq pc 219 then jn_of (js_c 40 2) else jn_none) else (bif Nat.beq pc 221 then jn_of (js_putf 8 44 false) else jn_none)) else (bif Nat.beq pc 224 then jn_of (js_al 0 1) else jn_none)) else (bif Nat.ble pc 225 then (bif Nat.beq pc 225 then jn_of (js_c (-1) 1) else jn_none) else (bif Nat.beq pc 226 then jn_of (js_putf 8 47 false) else jn_none)))) else (bif Nat.ble pc 237 then (bif Nat.ble pc 232 then (bif Nat.ble pc 230 then (bif Nat.ble pc 229 then (bif Nat.beq pc 229 then jn_of (js_al 0 1) else jn_none) else (bif Nat.beq pc 230 then jn_of (js_c 48 2) else jn_none)) else (bif Nat.beq pc 232 then jn_newa else jn_none)) else (bif Nat.ble pc 234 then (bif Nat.beq pc 234 then jn_putr 8 48 else jn_none) else (bif Nat.beq pc 237 then jn_of (js_al 0 1) else jn_none))) else (bif Nat.ble pc 242 then (bif Nat.ble pc 240 then (bif Nat.ble pc 238 then (bif Nat.beq pc 238 then jn_of (js_c 48 2) else jn_none) else (bif Nat.beq pc 240 then jn_newa else jn_none)) else (bif Nat.beq pc 242 then jn_putr 8 49 else jn_none)) else (bif Nat.ble pc 245 then (bif Nat.beq pc 245 then jn_of (js_c 0 1) else jn_none) else (bif Nat.beq pc 246 then jn_of (js_is 2 1) else jn_none)))))) else (bif Nat.ble pc 281 then (bif Nat.ble pc 263 then (bif Nat.ble pc 256 then (bif Nat.ble pc 249 then (bif Nat.ble pc 248 then (bif Nat.ble pc 247 then (bif Nat.beq pc 247 then jn_of (js_il 2 1) else jn_none) else (bif Nat.beq pc 248 then jn_of (js_c 2 1) else jn_none)) else (bif Nat.beq pc 249 then jn_of (js_cge 308) else jn_none)) else (bif Nat.ble pc 253 then (bif Nat.ble pc 252 then (bif Nat.beq pc 252 then jn_of (js_al 0 1) else jn_none) else (bif Nat.beq pc 253 then jn_of (js_getf 8 26) else jn_none)) else (bif Nat.beq pc 256 then jn_of (js_c 3 1) else jn_none))) else (bif Nat.ble pc 259 then (bif Nat.ble pc 258 then (bif Nat.ble pc 257 then (bif Nat.beq pc 257 then jn_of (js_il 2 1) else jn_none) else (bif Nat.beq pc 258 then jn_of (js_imul) else jn_none)) else (bif Nat.beq pc 259 then jn_of (js_c 500 3) else jn_none)) else (bif Nat.ble pc 262 then (bif Nat.beq pc 262 then jn_of (js_il 1 1) else jn_none) else (bif Nat.beq pc 263 then jn_of (js_c 1000 3) else jn_none)))) else (bif Nat.ble pc 274 then (bif Nat.ble pc 270 then (bif Nat.ble pc 267 then (bif Nat.ble pc 266 then (bif Nat.beq pc 266 then jn_of (js_irem) else jn_none) else (bif Nat.beq pc 267 then jn_of (js_ifle 278) else jn_none)) else (bif Nat.beq pc 270 then jn_of (js_il 1 1) else jn_none)) else (bif Nat.ble pc 271 then (bif Nat.beq pc 271 then jn_of (js_c 1000 3) else jn_none) else (bif Nat.beq pc 274 then jn_of (js_irem) else jn_none))) else (bif Nat.ble pc 279 then (bif Nat.ble pc 278 then (bif Nat.ble pc 275 then (bif Nat.beq pc 275 then jn_of (js_go 279) else jn_none) else (bif Nat.beq pc 278 then jn_of (js_c 0 1) else jn_none)) else (bif Nat.beq pc 279 then jn_of (js_iadd) else jn_none)) else (bif Nat.ble pc 280 then (bif Nat.beq pc 280 then jn_of (js_ast) else jn_none) else (bif Nat.beq pc 281 then jn_of (js_al 0 1) else jn_none))))) else (bif Nat.ble pc 295 then (bif Nat.ble pc 288 then (bif Nat.ble pc 286 then (bif Nat.ble pc 285 then (bif Nat.ble pc 282 then (bif Nat.beq pc 282 then jn_of (js_getf 8 27) else jn_none) else (bif Nat.beq pc 285 then jn_of (js_il 2 1) else jn_none)) else (bif Nat.beq pc 286 then jn_of (js_il 2 1) else jn_none)) else (bif Nat.ble pc 287 then (bif Nat.beq pc 287 then jn_of (js_ast) else jn_none) else (bif Nat.beq pc 288 then jn_of (js_al 0 1) else jn_none))) else (bif Nat.ble pc 293 then (bif Nat.ble pc 292 then (bif Nat.ble pc 289 then (bif Nat.beq pc 289 then jn_of (js_getf 8 29) else jn_none) else (bif Nat.beq pc 292 then jn_of (js_il 2 1) else jn_none)) else (bif Nat.beq pc 293 then jn_of (js_c (-1) 1) else jn_none)) else (bif Nat.ble pc 294 then (bif Nat.beq pc 294 then jn_of (js_ast) else jn_none) else (bif Nat.beq pc 295 then jn_of (js_al 0 1) else jn_none)))) else (bif Nat.ble pc 302 then (bif Nat.ble pc 300 then (bif Nat.ble pc 299 then (bif Nat.ble pc 296 then (bif Nat.beq pc 296 then jn_of (js_getf 8 30) else jn_none) else (bif Nat.beq pc 299 then jn_of (js_il 2 1) else jn_none)) else (bif Nat.beq pc 300 then jn_of (js_c (-1) 1) else jn_none)) else (bif Nat.ble pc 301 then (bif Nat.beq pc 301 then jn_of (js_ast) else jn_none) else (bif Nat.beq pc 302 then jn_of (js_inc 2 1) else jn_none))) else (bif Nat.ble pc 309 then (bif Nat.ble pc 308 then (bif Nat.ble pc 305 then (bif Nat.beq pc 305 then jn_of (js_go 247) else jn_none) else (bif Nat.beq pc 308 then jn_of (js_al 0 1) else jn_none)) else (bif Nat.beq pc 309 then jn_of (js_c 2 1) else jn_none)) else (bif Nat.ble pc 310 then (bif Nat.beq pc 310 then jn_of (js_putf 8 25 false) else jn_none) else (bif Nat.beq pc 313 then jn_vr else jn_none)))))))
theorem jnk_88_0 : jn_Snd 88 0 (jn_of (js_al 0 1)) := jn_lift (jo_aload_n (i := 0) (w := 0) rfl jd_88_0)
theorem jnk_88_1 : jn_Snd 88 1 (jn_obj) := jno_obj rfl jw_465 jw_17 jw_18 jd_88_1
theorem jnk_88_4 : jn_Snd 88 4 (jn_of (js_al 0 1)) := jn_lift (jo_aload_n (i := 0) (w := 0) rfl jd_88_4)
theorem jnk_88_5 : jn_Snd 88 5 (jn_of (js_c 288 3)) := jn_lift (jo_sipush (z := 288) jd_88_5 (by decide +kernel))
theorem jnk_88_8 : jn_Snd 88 8 (jn_newa) := jno_newa (at_ := .int) rfl jw_28 jd_88_8
theorem jnk_88_10 : jn_Snd 88 10 (jn_putr 8 1) := jno_putr rfl rfl jf_8_7 (fun C T N h => by cases h; exact ⟨rfl, rfl⟩) ⟨_, _, _, rfl, jw_467⟩ (fun a => ⟨rfl, rfl⟩) jd_88_10
theorem jnk_88_13 : jn_Snd 88 13 (jn_of (js_al 0 1)) := jn_lift (jo_aload_n (i := 0) (w := 0) rfl jd_88_13)
theorem jnk_88_14 : jn_Snd 88 14 (jn_of (js_c 6 2)) := jn_lift (jo_bipush (z := 6) jd_88_14 (by decide +kernel))
theorem jnk_88_16 : jn_Snd 88 16 (jn_newa) := jno_newa (at_ := .int) rfl jw_28 jd_88_16
theorem jnk_88_18 : jn_Snd 88 18 (jn_putr 8 2) := jno_putr rfl rfl jf_8_13 (fun C T N h => by cases h; exact ⟨rfl, rfl⟩) ⟨_, _, _, rfl, jw_468⟩ (fun a => ⟨rfl, rfl⟩) jd_88_18
theorem jnk_88_21 : jn_Snd 88 21 (jn_of (js_al 0 1)) := jn_lift (jo_aload_n (i := 0) (w := 0) rfl jd_88_21)
theorem jnk_88_22 : jn_Snd 88 22 (jn_of (js_c 48 2)) := jn_lift (jo_bipush (z := 48) jd_88_22 (by decide +kernel))
theorem jnk_88_24 : jn_Snd 88 24 (jn_newa) := jno_newa (at_ := .int) rfl jw_28 jd_88_24
theorem jnk_88_26 : jn_Snd 88 26 (jn_putr 8 4) := jno_putr rfl rfl jf_8_16 (fun C T N h => by cases h; exact ⟨rfl, rfl⟩) ⟨_, _, _, rfl, jw_470⟩ (fun a => ⟨rfl, rfl⟩) jd_88_26
theorem jnk_88_29 : jn_Snd 88 29 (jn_of (js_al 0 1)) := jn_lift (jo_aload_n (i := 0) (w := 0) rfl jd_88_29)
theorem jnk_88_30 : jn_Snd 88 30 (jn_of (js_c 260 3)) := jn_lift (jo_sipush (z := 260) jd_88_30 (by decide +kernel))
theorem jnk_88_33 : jn_Snd 88 33 (jn_newa) := jno_newa (at_ := .int) rfl jw_28 jd_88_33
theorem jnk_88_35 : jn_Snd 88 35 (jn_putr 8 6) := jno_putr rfl rfl jf_8_19 (fun C T N h => by cases h; exact ⟨rfl, rfl⟩) ⟨_, _, _, rfl, jw_472⟩ (fun a => ⟨rfl, rfl⟩) jd_88_35
theorem jnk_88_38 : jn_Snd 88 38 (jn_of (js_al 0 1)) := jn_lift (jo_aload_n (i := 0) (w := 0) rfl jd_88_38)
theorem jnk_88_39 : jn_Snd 88 39 (jn_of (js_c 260 3)) := jn_lift (jo_sipush (z := 260) jd_88_39 (by decide +kernel))
theorem jnk_88_42 : jn_Snd 88 42 (jn_newa) := jno_newa (at_ := .int) rfl jw_28 jd_88_42
theorem jnk_88_44 : jn_Snd 88 44 (jn_putr 8 7) := jno_putr rfl rfl jf_8_22 (fun C T N h => by cases h; exact ⟨rfl, rfl⟩) ⟨_, _, _, rfl, jw_473⟩ (fun a => ⟨rfl, rfl⟩) jd_88_44
theorem jnk_88_47 : jn_Snd 88 47 (jn_of (js_al 0 1)) := jn_lift (jo_aload_n (i := 0) (w := 0) rfl jd_88_47)
theorem jnk_88_48 : jn_Snd 88 48 (jn_of (js_c 260 3)) := jn_lift (jo_sipush (z := 260) jd_88_48 (by decide +kernel))
theorem jnk_88_51 : jn_Snd 88 51 (jn_newa) := jno_newa (at_ := .int) rfl jw_28 jd_88_51
theorem jnk_88_53 : jn_Snd 88 53 (jn_putr 8 8) := jno_putr rfl rfl jf_8_25 (fun C T N h => by cases h; exact ⟨rfl, rfl⟩) ⟨_, _, _, rfl, jw_474⟩ (fun a => ⟨rfl, rfl⟩) jd_88_53
theorem jnk_88_56 : jn_Snd 88 56 (jn_of (js_al 0 1)) := jn_lift (jo_aload_n (i := 0) (w := 0) rfl jd_88_56)
theorem jnk_88_57 : jn_Snd 88 57 (jn_of (js_c 260 3)) := jn_lift (jo_sipush (z := 260) jd_88_57 (by decide +kernel))
theorem jnk_88_60 : jn_Snd 88 60 (jn_newa) := jno_newa (at_ := .int) rfl jw_28 jd_88_60
theorem jnk_88_62 : jn_Snd 88 62 (jn_putr 8 9) := jno_putr rfl rfl jf_8_28 (fun C T N h => by cases h; exact ⟨rfl, rfl⟩) ⟨_, _, _, rfl, jw_475⟩ (fun a => ⟨rfl, rfl⟩) jd_88_62
theorem jnk_88_65 : jn_Snd 88 65 (jn_of (js_al 0 1)) := jn_lift (jo_aload_n (i := 0) (w := 0) rfl jd_88_65)
theorem jnk_88_66 : jn_Snd 88 66 (jn_of (js_c 260 3)) := jn_lift (jo_sipush (z := 260) jd_88_66 (by decide +kernel))
theorem jnk_88_69 : jn_Snd 88 69 (jn_newa) := jno_newa (at_ := .int) rfl jw_28 jd_88_69
theorem jnk_88_71 : jn_Snd 88 71 (jn_putr 8 10) := jno_putr rfl rfl jf_8_31 (fun C T N h => by cases h; exact ⟨rfl, rfl⟩) ⟨_, _, _, rfl, jw_476⟩ (fun a => ⟨rfl, rfl⟩) jd_88_71
theorem jnk_88_74 : jn_Snd 88 74 (jn_of (js_al 0 1)) := jn_lift (jo_aload_n (i := 0) (w := 0) rfl jd_88_74)
theorem jnk_88_75 : jn_Snd 88 75 (jn_of (js_c 120 2)) := jn_lift (jo_bipush (z := 120) jd_88_75 (by decide +kernel))
theorem jnk_88_77 : jn_Snd 88 77 (jn_newa) := jno_newa (at_ := .int) rfl jw_28 jd_88_77
theorem jnk_88_79 : jn_Snd 88 79 (jn_putr 8 12) := jno_putr rfl rfl jf_8_34 (fun C T N h => by cases h; exact ⟨rfl, rfl⟩) ⟨_, _, _, rfl, jw_478⟩ (fun a => ⟨rfl, rfl⟩) jd_88_79
theorem jnk_88_82 : jn_Snd 88 82 (jn_of (js_al 0 1)) := jn_lift (jo_aload_n (i := 0) (w := 0) rfl jd_88_82)
theorem jnk_88_83 : jn_Snd 88 83 (jn_of (js_c 120 2)) := jn_lift (jo_bipush (z := 120) jd_88_83 (by decide +kernel))
theorem jnk_88_85 : jn_Snd 88 85 (jn_newa) := jno_newa (at_ := .int) rfl jw_28 jd_88_85
theorem jnk_88_87 : jn_Snd 88 87 (jn_putr 8 13) := jno_putr rfl rfl jf_8_37 (fun C T N h => by cases h; exact ⟨rfl, rfl⟩) ⟨_, _, _, rfl, jw_479⟩ (fun a => ⟨rfl, rfl⟩) jd_88_87
theorem jnk_88_90 : jn_Snd 88 90 (jn_of (js_al 0 1)) := jn_lift (jo_aload_n (i := 0) (w := 0) rfl jd_88_90)
theorem jnk_88_91 : jn_Snd 88 91 (jn_of (js_c 120 2)) := jn_lift (jo_bipush (z := 120) jd_88_91 (by decide +kernel))
theorem jnk_88_93 : jn_Snd 88 93 (jn_newa) := jno_newa (at_ := .int) rfl jw_28 jd_88_93
theorem jnk_88_95 : jn_Snd 88 95 (jn_putr 8 15) := jno_putr rfl rfl jf_8_40 (fun C T N h => by cases h; exact ⟨rfl, rfl⟩) ⟨_, _, _, rfl, jw_481⟩ (fun a => ⟨rfl, rfl⟩) jd_88_95
theorem jnk_88_98 : jn_Snd 88 98 (jn_of (js_al 0 1)) := jn_lift (jo_aload_n (i := 0) (w := 0) rfl jd_88_98)
theorem jnk_88_99 : jn_Snd 88 99 (jn_of (js_c 120 2)) := jn_lift (jo_bipush (z := 120) jd_88_99 (by decide +kernel))
theorem jnk_88_101 : jn_Snd 88 101 (jn_newa) := jno_newa (at_ := .int) rfl jw_28 jd_88_101
theorem jnk_88_103 : jn_Snd 88 103 (jn_putr 8 16) := jno_putr rfl rfl jf_8_43 (fun C T N h => by cases h; exact ⟨rfl, rfl⟩) ⟨_, _, _, rfl, jw_482⟩ (fun a => ⟨rfl, rfl⟩) jd_88_103
theorem jnk_88_106 : jn_Snd 88 106 (jn_of (js_al 0 1)) := jn_lift (jo_aload_n (i := 0) (w := 0) rfl jd_88_106)
theorem jnk_88_107 : jn_Snd 88 107 (jn_of (js_c 120 2)) := jn_lift (jo_bipush (z := 120) jd_88_107 (by decide +kernel))
theorem jnk_88_109 : jn_Snd 88 109 (jn_newa) := jno_newa (at_ := .int) rfl jw_28 jd_88_109
theorem jnk_88_111 : jn_Snd 88 111 (jn_putr 8 17) := jno_putr rfl rfl jf_8_46 (fun C T N h => by cases h; exact ⟨rfl, rfl⟩) ⟨_, _, _, rfl, jw_483⟩ (fun a => ⟨rfl, rfl⟩) jd_88_111
theorem jnk_88_114 : jn_Snd 88 114 (jn_of (js_al 0 1)) := jn_lift (jo_aload_n (i := 0) (w := 0) rfl jd_88_114)
theorem jnk_88_115 : jn_Snd 88 115 (jn_of (js_c (-1) 1)) := jn_lift (jo_iconst (z := (-1)) jd_88_115 rfl)
theorem jnk_88_116 : jn_Snd 88 116 (jn_of (js_putf 8 23 false)) := jn_lift (jo_putf (z := false) rfl jf_8_49 (fun C T N h => by cases h; rfl) jd_88_116)
theorem jnk_88_119 : jn_Snd 88 119 (jn_of (js_al 0 1)) := jn_lift (jo_aload_n (i := 0) (w := 0) rfl jd_88_119)
theorem jnk_88_120 : jn_Snd 88 120 (jn_of (js_c 144 3)) := jn_lift (jo_sipush (z := 144) jd_88_120 (by decide +kernel))
theorem jnk_88_123 : jn_Snd 88 123 (jn_newa) := jno_newa (at_ := .int) rfl jw_28 jd_88_123
theorem jnk_88_125 : jn_Snd 88 125 (jn_putr 8 26) := jno_putr rfl rfl jf_8_53 (fun C T N h => by cases h; exact ⟨rfl, rfl⟩) ⟨_, _, _, rfl, jw_492⟩ (fun a => ⟨rfl, rfl⟩) jd_88_125
theorem jnk_88_128 : jn_Snd 88 128 (jn_of (js_al 0 1)) := jn_lift (jo_aload_n (i := 0) (w := 0) rfl jd_88_128)
theorem jnk_88_129 : jn_Snd 88 129 (jn_of (js_c 48 2)) := jn_lift (jo_bipush (z := 48) jd_88_129 (by decide +kernel))
theorem jnk_88_131 : jn_Snd 88 131 (jn_newa) := jno_newa (at_ := .int) rfl jw_28 jd_88_131
theorem jnk_88_133 : jn_Snd 88 133 (jn_putr 8 27) := jno_putr rfl rfl jf_8_56 (fun C T N h => by cases h; exact ⟨rfl, rfl⟩) ⟨_, _, _, rfl, jw_493⟩ (fun a => ⟨rfl, rfl⟩) jd_88_133
theorem jnk_88_136 : jn_Snd 88 136 (jn_of (js_al 0 1)) := jn_lift (jo_aload_n (i := 0) (w := 0) rfl jd_88_136)
theorem jnk_88_137 : jn_Snd 88 137 (jn_of (js_c 48 2)) := jn_lift (jo_bipush (z := 48) jd_88_137 (by decide +kernel))
theorem jnk_88_139 : jn_Snd 88 139 (jn_newa) := jno_newa (at_ := .int) rfl jw_28 jd_88_139
theorem jnk_88_141 : jn_Snd 88 141 (jn_putr 8 28) := jno_putr rfl rfl jf_8_59 (fun C T N h => by cases h; exact ⟨rfl, rfl⟩) ⟨_, _, _, rfl, jw_494⟩ (fun a => ⟨rfl, rfl⟩) jd_88_141
theorem jnk_88_144 : jn_Snd 88 144 (jn_of (js_al 0 1)) := jn_lift (jo_aload_n (i := 0) (w := 0) rfl jd_88_144)
theorem jnk_88_145 : jn_Snd 88 145 (jn_of (js_c 48 2)) := jn_lift (jo_bipush (z := 48) jd_88_145 (by decide +kernel))
theorem jnk_88_147 : jn_Snd 88 147 (jn_newa) := jno_newa (at_ := .int) rfl jw_28 jd_88_147
theorem jnk_88_149 : jn_Snd 88 149 (jn_putr 8 29) := jno_putr rfl rfl jf_8_62 (fun C T N h => by cases h; exact ⟨rfl, rfl⟩) ⟨_, _, _, rfl, jw_495⟩ (fun a => ⟨rfl, rfl⟩) jd_88_149
theorem jnk_88_152 : jn_Snd 88 152 (jn_of (js_al 0 1)) := jn_lift (jo_aload_n (i := 0) (w := 0) rfl jd_88_152)
theorem jnk_88_153 : jn_Snd 88 153 (jn_of (js_c 48 2)) := jn_lift (jo_bipush (z := 48) jd_88_153 (by decide +kernel))
theorem jnk_88_155 : jn_Snd 88 155 (jn_newa) := jno_newa (at_ := .int) rfl jw_28 jd_88_155
theorem jnk_88_157 : jn_Snd 88 157 (jn_putr 8 30) := jno_putr rfl rfl jf_8_65 (fun C T N h => by cases h; exact ⟨rfl, rfl⟩) ⟨_, _, _, rfl, jw_496⟩ (fun a => ⟨rfl, rfl⟩) jd_88_157
theorem jnk_88_160 : jn_Snd 88 160 (jn_of (js_al 0 1)) := jn_lift (jo_aload_n (i := 0) (w := 0) rfl jd_88_160)
theorem jnk_88_161 : jn_Snd 88 161 (jn_of (js_c 41 2)) := jn_lift (jo_bipush (z := 41) jd_88_161 (by decide +kernel))
theorem jnk_88_163 : jn_Snd 88 163 (jn_newa) := jno_newa (at_ := .int) rfl jw_28 jd_88_163
theorem jnk_88_165 : jn_Snd 88 165 (jn_putr 8 32) := jno_putr rfl rfl jf_8_68 (fun C T N h => by cases h; exact ⟨rfl, rfl⟩) ⟨_, _, _, rfl, jw_498⟩ (fun a => ⟨rfl, rfl⟩) jd_88_165
theorem jnk_88_168 : jn_Snd 88 168 (jn_of (js_al 0 1)) := jn_lift (jo_aload_n (i := 0) (w := 0) rfl jd_88_168)
theorem jnk_88_169 : jn_Snd 88 169 (jn_of (js_c 3 1)) := jn_lift (jo_iconst (z := 3) jd_88_169 rfl)
theorem jnk_88_170 : jn_Snd 88 170 (jn_newa) := jno_newa (at_ := .int) rfl jw_28 jd_88_170
theorem jnk_88_172 : jn_Snd 88 172 (jn_putr 8 34) := jno_putr rfl rfl jf_8_71 (fun C T N h => by cases h; exact ⟨rfl, rfl⟩) ⟨_, _, _, rfl, jw_500⟩ (fun a => ⟨rfl, rfl⟩) jd_88_172
theorem jnk_88_175 : jn_Snd 88 175 (jn_of (js_al 0 1)) := jn_lift (jo_aload_n (i := 0) (w := 0) rfl jd_88_175)
theorem jnk_88_176 : jn_Snd 88 176 (jn_of (js_c 3 1)) := jn_lift (jo_iconst (z := 3) jd_88_176 rfl)
theorem jnk_88_177 : jn_Snd 88 177 (jn_newa) := jno_newa (at_ := .int) rfl jw_28 jd_88_177
theorem jnk_88_179 : jn_Snd 88 179 (jn_putr 8 35) := jno_putr rfl rfl jf_8_74 (fun C T N h => by cases h; exact ⟨rfl, rfl⟩) ⟨_, _, _, rfl, jw_501⟩ (fun a => ⟨rfl, rfl⟩) jd_88_179
theorem jnk_88_182 : jn_Snd 88 182 (jn_of (js_al 0 1)) := jn_lift (jo_aload_n (i := 0) (w := 0) rfl jd_88_182)
theorem jnk_88_183 : jn_Snd 88 183 (jn_of (js_c 3 1)) := jn_lift (jo_iconst (z := 3) jd_88_183 rfl)
theorem jnk_88_184 : jn_Snd 88 184 (jn_newa) := jno_newa (at_ := .int) rfl jw_28 jd_88_184
theorem jnk_88_186 : jn_Snd 88 186 (jn_putr 8 37) := jno_putr rfl rfl jf_8_77 (fun C T N h => by cases h; exact ⟨rfl, rfl⟩) ⟨_, _, _, rfl, jw_503⟩ (fun a => ⟨rfl, rfl⟩) jd_88_186
theorem jnk_88_189 : jn_Snd 88 189 (jn_of (js_al 0 1)) := jn_lift (jo_aload_n (i := 0) (w := 0) rfl jd_88_189)
theorem jnk_88_190 : jn_Snd 88 190 (jn_of (js_c 3 1)) := jn_lift (jo_iconst (z := 3) jd_88_190 rfl)
theorem jnk_88_191 : jn_Snd 88 191 (jn_newa) := jno_newa (at_ := .int) rfl jw_28 jd_88_191
theorem jnk_88_193 : jn_Snd 88 193 (jn_putr 8 38) := jno_putr rfl rfl jf_8_80 (fun C T N h => by cases h; exact ⟨rfl, rfl⟩) ⟨_, _, _, rfl, jw_504⟩ (fun a => ⟨rfl, rfl⟩) jd_88_193
theorem jnk_88_196 : jn_Snd 88 196 (jn_of (js_al 0 1)) := jn_lift (jo_aload_n (i := 0) (w := 0) rfl jd_88_196)
theorem jnk_88_197 : jn_Snd 88 197 (jn_of (js_c 9 2)) := jn_lift (jo_bipush (z := 9) jd_88_197 (by decide +kernel))
theorem jnk_88_199 : jn_Snd 88 199 (jn_newa) := jno_newa (at_ := .int) rfl jw_28 jd_88_199
theorem jnk_88_201 : jn_Snd 88 201 (jn_putr 8 39) := jno_putr rfl rfl jf_8_83 (fun C T N h => by cases h; exact ⟨rfl, rfl⟩) ⟨_, _, _, rfl, jw_505⟩ (fun a => ⟨rfl, rfl⟩) jd_88_201
theorem jnk_88_204 : jn_Snd 88 204 (jn_of (js_al 0 1)) := jn_lift (jo_aload_n (i := 0) (w := 0) rfl jd_88_204)
theorem jnk_88_205 : jn_Snd 88 205 (jn_of (js_c 3 1)) := jn_lift (jo_iconst (z := 3) jd_88_205 rfl)
theorem jnk_88_206 : jn_Snd 88 206 (jn_newa) := jno_newa (at_ := .int) rfl jw_28 jd_88_206
theorem jnk_88_208 : jn_Snd 88 208 (jn_putr 8 40) := jno_putr rfl rfl jf_8_86 (fun C T N h => by cases h; exact ⟨rfl, rfl⟩) ⟨_, _, _, rfl, jw_506⟩ (fun a => ⟨rfl, rfl⟩) jd_88_208
theorem jnk_88_211 : jn_Snd 88 211 (jn_of (js_al 0 1)) := jn_lift (jo_aload_n (i := 0) (w := 0) rfl jd_88_211)
theorem jnk_88_212 : jn_Snd 88 212 (jn_of (js_c 3 1)) := jn_lift (jo_iconst (z := 3) jd_88_212 rfl)
theorem jnk_88_213 : jn_Snd 88 213 (jn_newa) := jno_newa (at_ := .int) rfl jw_28 jd_88_213
theorem jnk_88_215 : jn_Snd 88 215 (jn_putr 8 41) := jno_putr rfl rfl jf_8_89 (fun C T N h => by cases h; exact ⟨rfl, rfl⟩) ⟨_, _, _, rfl, jw_507⟩ (fun a => ⟨rfl, rfl⟩) jd_88_215
theorem jnk_88_218 : jn_Snd 88 218 (jn_of (js_al 0 1)) := jn_lift (jo_aload_n (i := 0) (w := 0) rfl jd_88_218)
theorem jnk_88_219 : jn_Snd 88 219 (jn_of (js_c 40 2)) := jn_lift (jo_bipush (z := 40) jd_88_219 (by decide +kernel))
theorem jnk_88_221 : jn_Snd 88 221 (jn_of (js_putf 8 44 false)) := jn_lift (jo_putf (z := false) rfl jf_8_92 (fun C T N h => by cases h; rfl) jd_88_221)
theorem jnk_88_224 : jn_Snd 88 224 (jn_of (js_al 0 1)) := jn_lift (jo_aload_n (i := 0) (w := 0) rfl jd_88_224)
theorem jnk_88_225 : jn_Snd 88 225 (jn_of (js_c (-1) 1)) := jn_lift (jo_iconst (z := (-1)) jd_88_225 rfl)
theorem jnk_88_226 : jn_Snd 88 226 (jn_of (js_putf 8 47 false)) := jn_lift (jo_putf (z := false) rfl jf_8_95 (fun C T N h => by cases h; rfl) jd_88_226)
theorem jnk_88_229 : jn_Snd 88 229 (jn_of (js_al 0 1)) := jn_lift (jo_aload_n (i := 0) (w := 0) rfl jd_88_229)
theorem jnk_88_230 : jn_Snd 88 230 (jn_of (js_c 48 2)) := jn_lift (jo_bipush (z := 48) jd_88_230 (by decide +kernel))
theorem jnk_88_232 : jn_Snd 88 232 (jn_newa) := jno_newa (at_ := .int) rfl jw_28 jd_88_232
theorem jnk_88_234 : jn_Snd 88 234 (jn_putr 8 48) := jno_putr rfl rfl jf_8_98 (fun C T N h => by cases h; exact ⟨rfl, rfl⟩) ⟨_, _, _, rfl, jw_514⟩ (fun a => ⟨rfl, rfl⟩) jd_88_234
theorem jnk_88_237 : jn_Snd 88 237 (jn_of (js_al 0 1)) := jn_lift (jo_aload_n (i := 0) (w := 0) rfl jd_88_237)
theorem jnk_88_238 : jn_Snd 88 238 (jn_of (js_c 48 2)) := jn_lift (jo_bipush (z := 48) jd_88_238 (by decide +kernel))
theorem jnk_88_240 : jn_Snd 88 240 (jn_newa) := jno_newa (at_ := .int) rfl jw_28 jd_88_240
theorem jnk_88_242 : jn_Snd 88 242 (jn_putr 8 49) := jno_putr rfl rfl jf_8_101 (fun C T N h => by cases h; exact ⟨rfl, rfl⟩) ⟨_, _, _, rfl, jw_515⟩ (fun a => ⟨rfl, rfl⟩) jd_88_242
theorem jnk_88_245 : jn_Snd 88 245 (jn_of (js_c 0 1)) := jn_lift (jo_iconst (z := 0) jd_88_245 rfl)
theorem jnk_88_246 : jn_Snd 88 246 (jn_of (js_is 2 1)) := jn_lift (jo_istore_n (i := 2) (w := 2) rfl (Nat.le_of_ble_eq_true rfl) jd_88_246)
theorem jnk_88_247 : jn_Snd 88 247 (jn_of (js_il 2 1)) := jn_lift (jo_iload_n (i := 2) (w := 2) rfl jd_88_247)
theorem jnk_88_248 : jn_Snd 88 248 (jn_of (js_c 2 1)) := jn_lift (jo_iconst (z := 2) jd_88_248 rfl)
theorem jnk_88_249 : jn_Snd 88 249 (jn_of (js_cge 308)) := jn_lift (jo_cge (o := 59) rfl jd_88_249)
theorem jnk_88_252 : jn_Snd 88 252 (jn_of (js_al 0 1)) := jn_lift (jo_aload_n (i := 0) (w := 0) rfl jd_88_252)
theorem jnk_88_253 : jn_Snd 88 253 (jn_of (js_getf 8 26)) := jn_lift (jo_getf rfl jf_8_53 jd_88_253)
theorem jnk_88_256 : jn_Snd 88 256 (jn_of (js_c 3 1)) := jn_lift (jo_iconst (z := 3) jd_88_256 rfl)
theorem jnk_88_257 : jn_Snd 88 257 (jn_of (js_il 2 1)) := jn_lift (jo_iload_n (i := 2) (w := 2) rfl jd_88_257)
theorem jnk_88_258 : jn_Snd 88 258 (jn_of (js_imul)) := jn_lift (jo_imul jd_88_258)
theorem jnk_88_259 : jn_Snd 88 259 (jn_of (js_c 500 3)) := jn_lift (jo_sipush (z := 500) jd_88_259 (by decide +kernel))
theorem jnk_88_262 : jn_Snd 88 262 (jn_of (js_il 1 1)) := jn_lift (jo_iload_n (i := 1) (w := 1) rfl jd_88_262)
theorem jnk_88_263 : jn_Snd 88 263 (jn_of (js_c 1000 3)) := jn_lift (jo_sipush (z := 1000) jd_88_263 (by decide +kernel))
theorem jnk_88_266 : jn_Snd 88 266 (jn_of (js_irem)) := jn_lift (jo_irem jd_88_266)
theorem jnk_88_267 : jn_Snd 88 267 (jn_of (js_ifle 278)) := jn_lift (jo_ifle (o := 11) rfl jd_88_267)
theorem jnk_88_270 : jn_Snd 88 270 (jn_of (js_il 1 1)) := jn_lift (jo_iload_n (i := 1) (w := 1) rfl jd_88_270)
theorem jnk_88_271 : jn_Snd 88 271 (jn_of (js_c 1000 3)) := jn_lift (jo_sipush (z := 1000) jd_88_271 (by decide +kernel))
theorem jnk_88_274 : jn_Snd 88 274 (jn_of (js_irem)) := jn_lift (jo_irem jd_88_274)
theorem jnk_88_275 : jn_Snd 88 275 (jn_of (js_go 279)) := jn_lift (jo_goto (o := 4) rfl jd_88_275)
theorem jnk_88_278 : jn_Snd 88 278 (jn_of (js_c 0 1)) := jn_lift (jo_iconst (z := 0) jd_88_278 rfl)
theorem jnk_88_279 : jn_Snd 88 279 (jn_of (js_iadd)) := jn_lift (jo_iadd jd_88_279)
theorem jnk_88_280 : jn_Snd 88 280 (jn_of (js_ast)) := jn_lift (jo_ast jd_88_280)
theorem jnk_88_281 : jn_Snd 88 281 (jn_of (js_al 0 1)) := jn_lift (jo_aload_n (i := 0) (w := 0) rfl jd_88_281)
theorem jnk_88_282 : jn_Snd 88 282 (jn_of (js_getf 8 27)) := jn_lift (jo_getf rfl jf_8_56 jd_88_282)
theorem jnk_88_285 : jn_Snd 88 285 (jn_of (js_il 2 1)) := jn_lift (jo_iload_n (i := 2) (w := 2) rfl jd_88_285)
theorem jnk_88_286 : jn_Snd 88 286 (jn_of (js_il 2 1)) := jn_lift (jo_iload_n (i := 2) (w := 2) rfl jd_88_286)
theorem jnk_88_287 : jn_Snd 88 287 (jn_of (js_ast)) := jn_lift (jo_ast jd_88_287)
theorem jnk_88_288 : jn_Snd 88 288 (jn_of (js_al 0 1)) := jn_lift (jo_aload_n (i := 0) (w := 0) rfl jd_88_288)
theorem jnk_88_289 : jn_Snd 88 289 (jn_of (js_getf 8 29)) := jn_lift (jo_getf rfl jf_8_62 jd_88_289)
theorem jnk_88_292 : jn_Snd 88 292 (jn_of (js_il 2 1)) := jn_lift (jo_iload_n (i := 2) (w := 2) rfl jd_88_292)
theorem jnk_88_293 : jn_Snd 88 293 (jn_of (js_c (-1) 1)) := jn_lift (jo_iconst (z := (-1)) jd_88_293 rfl)
theorem jnk_88_294 : jn_Snd 88 294 (jn_of (js_ast)) := jn_lift (jo_ast jd_88_294)
theorem jnk_88_295 : jn_Snd 88 295 (jn_of (js_al 0 1)) := jn_lift (jo_aload_n (i := 0) (w := 0) rfl jd_88_295)
theorem jnk_88_296 : jn_Snd 88 296 (jn_of (js_getf 8 30)) := jn_lift (jo_getf rfl jf_8_65 jd_88_296)
theorem jnk_88_299 : jn_Snd 88 299 (jn_of (js_il 2 1)) := jn_lift (jo_iload_n (i := 2) (w := 2) rfl jd_88_299)
theorem jnk_88_300 : jn_Snd 88 300 (jn_of (js_c (-1) 1)) := jn_lift (jo_iconst (z := (-1)) jd_88_300 rfl)
theorem jnk_88_301 : jn_Snd 88 301 (jn_of (js_ast)) := jn_lift (jo_ast jd_88_301)
theorem jnk_88_302 : jn_Snd 88 302 (jn_of (js_inc 2 1)) := jn_lift (jo_iinc (w := 1) rfl (Nat.le_of_ble_eq_true rfl) jd_88_302)
theorem jnk_88_305 : jn_Snd 88 305 (jn_of (js_go 247)) := jn_lift (jo_goto (o := (-58)) rfl jd_88_305)
theorem jnk_88_308 : jn_Snd 88 308 (jn_of (js_al 0 1)) := jn_lift (jo_aload_n (i := 0) (w := 0) rfl jd_88_308)
theorem jnk_88_309 : jn_Snd 88 309 (jn_of (js_c 2 1)) := jn_lift (jo_iconst (z := 2) jd_88_309 rfl)
theorem jnk_88_310 : jn_Snd 88 310 (jn_of (js_putf 8 25 false)) := jn_lift (jo_putf (z := false) rfl jf_8_104 (fun C T N h => by cases h; rfl) jd_88_310)
theorem jnk_88_313 : jn_Snd 88 313 (jn_vr) := jno_vr jd_88_313
theorem jnk_88 : jn_So 88 jnt_88 := fun pc => jno_le (jno_le (jno_le (jno_le (jno_le (jno_le (jno_le (jno_le (jno_at (jnk_88_0)) (jno_at (jnk_88_1))) (jno_at (jnk_88_4))) (jno_le (jno_le (jno_at (jnk_88_5)) (jno_at (jnk_88_8))) (jno_at (jnk_88_10)))) (jno_le (jno_le (jno_le (jno_at (jnk_88_13)) (jno_at (jnk_88_14))) (jno_at (jnk_88_16))) (jno_le (jno_at (jnk_88_18)) (jno_at (jnk_88_21))))) (jno_le (jno_le (jno_le (jno_le (jno_at (jnk_88_22)) (jno_at (jnk_88_24))) (jno_at (jnk_88_26))) (jno_le (jno_at (jnk_88_29)) (jno_at (jnk_88_30)))) (jno_le (jno_le (jno_le (jno_at (jnk_88_33)) (jno_at (jnk_88_35))) (jno_at (jnk_88_38))) (jno_le (jno_at (jnk_88_39)) (jno_at (jnk_88_42)))))) (jno_le (jno_le (jno_le (jno_le (jno_le (jno_at (jnk_88_44)) (jno_at (jnk_88_47))) (jno_at (jnk_88_48))) (jno_le (jno_le (jno_at (jnk_88_51)) (jno_at (jnk_88_53))) (jno_at (jnk_88_56)))) (jno_le (jno_le (jno_le (jno_at (jnk_88_57)) (jno_at (jnk_88_60))) (jno_at (jnk_88_62))) (jno_le (jno_at (jnk_88_65)) (jno_at (jnk_88_66))))) (jno_le (jno_le (jno_le (jno_le (jno_at (jnk_88_69)) (jno_at (jnk_88_71))) (jno_at (jnk_88_74))) (jno_le (jno_at (jnk_88_75)) (jno_at (jnk_88_77)))) (jno_le (jno_le (jno_le (jno_at (jnk_88_79)) (jno_at (jnk_88_82))) (jno_at (jnk_88_83))) (jno_le (jno_at (jnk_88_85)) (jno_at (jnk_88_87))))))) (jno_le (jno_le (jno_le (jno_le (jno_le (jno_le (jno_at (jnk_88_90)) (jno_at (jnk_88_91))) (jno_at (jnk_88_93))) (jno_le (jno_le (jno_at (jnk_88_95)) (jno_at (jnk_88_98))) (jno_at (jnk_88_99)))) (jno_le (jno_le (jno_le (jno_at (jnk_88_101)) (jno_at (jnk_88_103))) (jno_at (jnk_88_106))) (jno_le (jno_at (jnk_88_107)) (jno_at (jnk_88_109))))) (jno_le (jno_le (jno_le (jno_le (jno_at (jnk_88_111)) (jno_at (jnk_88_114))) (jno_at (jnk_88_115))) (jno_le (jno_at (jnk_88_116)) (jno_at (jnk_88_119)))) (jno_le (jno_le (jno_le (jno_at (jnk_88_120)) (jno_at (jnk_88_123))) (jno_at (jnk_88_125))) (jno_le (jno_at (jnk_88_128)) (jno_at (jnk_88_129)))))) (jno_le (jno_le (jno_le (jno_le (jno_le (jno_at (jnk_88_131)) (jno_at (jnk_88_133))) (jno_at (jnk_88_136))) (jno_le (jno_at (jnk_88_137)) (jno_at (jnk_88_139)))) (jno_le (jno_le (jno_le (jno_at (jnk_88_141)) (jno_at (jnk_88_144))) (jno_at (jnk_88_145))) (jno_le (jno_at (jnk_88_147)) (jno_at (jnk_88_149))))) (jno_le (jno_le (jno_le (jno_le (jno_at (jnk_88_152)) (jno_at (jnk_88_153))) (jno_at (jnk_88_155))) (jno_le (jno_at (jnk_88_157)) (jno_at (jnk_88_160)))) (jno_le (jno_le (jno_le (jno_at (jnk_88_161)) (jno_at (jnk_88_163))) (jno_at (jnk_88_165))) (jno_le (jno_at (jnk_88_168)) (jno_at (jnk_88_169)))))))) (jno_le (jno_le (jno_le (jno_le (jno_le (jno_le (jno_le (jno_at (jnk_88_170)) (jno_at (jnk_88_172))) (jno_at (jnk_88_175))) (jno_le (jno_le (jno_at (jnk_88_176)) (jno_at (jnk_88_177))) (jno_at (jnk_88_179)))) (jno_le (jno_le (jno_le (jno_at (jnk_88_182)) (jno_at (jnk_88_183))) (jno_at (jnk_88_184))) (jno_le (jno_at (jnk_88_186)) (jno_at (jnk_88_189))))) (jno_le (jno_le (jno_le (jno_le (jno_at (jnk_88_190)) (jno_at (jnk_88_191))) (jno_at (jnk_88_193))) (jno_le (jno_at (jnk_88_196)) (jno_at (jnk_88_197)))) (jno_le (jno_le (jno_le (jno_at (jnk_88_199)) (jno_at (jnk_88_201))) (jno_at (jnk_88_204))) (jno_le (jno_at (jnk_88_205)) (jno_at (jnk_88_206)))))) (jno_le (jno_le (jno_le (jno_le (jno_le (jno_at (jnk_88_208)) (jno_at (jnk_88_211))) (jno_at (jnk_88_212))) (jno_le (jno_le (jno_at (jnk_88_213)) (jno_at (jnk_88_215))) (jno_at (jnk_88_218)))) (jno_le (jno_le (jno_le (jno_at (jnk_88_219)) (jno_at (jnk_88_221))) (jno_at (jnk_88_224))) (jno_le (jno_at (jnk_88_225)) (jno_at (jnk_88_226))))) (jno_le (jno_le (jno_le (jno_le (jno_at (jnk_88_229)) (jno_at (jnk_88_230))) (jno_at (jnk_88_232))) (jno_le (jno_at (jnk_88_234)) (jno_at (jnk_88_237)))) (jno_le (jno_le (jno_le (jno_at (jnk_88_238)) (jno_at (jnk_88_240))) (jno_at (jnk_88_242))) (jno_le (jno_at (jnk_88_245)) (jno_at (jnk_88_246))))))) (jno_le (jno_le (jno_le (jno_le (jno_le (jno_le (jno_at (jnk_88_247)) (jno_at (jnk_88_248))) (jno_at (jnk_88_249))) (jno_le (jno_le (jno_at (jnk_88_252)) (jno_at (jnk_88_253))) (jno_at (jnk_88_256)))) (jno_le (jno_le (jno_le (jno_at (jnk_88_257)) (jno_at (jnk_88_258))) (jno_at (jnk_88_259))) (jno_le (jno_at (jnk_88_262)) (jno_at (jnk_88_263))))) (jno_le (jno_le (jno_le (jno_le (jno_at (jnk_88_266)) (jno_at (jnk_88_267))) (jno_at (jnk_88_270))) (jno_le (jno_at (jnk_88_271)) (jno_at (jnk_88_274)))) (jno_le (jno_le (jno_le (jno_at (jnk_88_275)) (jno_at (jnk_88_278))) (jno_at (jnk_88_279))) (jno_le (jno_at (jnk_88_280)) (jno_at (jnk_88_281)))))) (jno_le (jno_le (jno_le (jno_le (jno_le (jno_at (jnk_88_282)) (jno_at (jnk_88_285))) (jno_at (jnk_88_286))) (jno_le (jno_at (jnk_88_287)) (jno_at (jnk_88_288)))) (jno_le (jno_le (jno_le (jno_at (jnk_88_289)) (jno_at (jnk_88_292))) (jno_at (jnk_88_293))) (jno_le (jno_at (jnk_88_294)) (jno_at (jnk_88_295))))) (jno_le (jno_le (jno_le (jno_le (jno_at (jnk_88_296)) (jno_at (jnk_88_299))) (jno_at (jnk_88_300))) (jno_le (jno_at (jnk_88_301)) (jno_at (jnk_88_302)))) (jno_le (jno_le (jno_le (jno_at (jnk_88_305)) (jno_at (jnk_88_308))) (jno_at (jnk_88_309))) (jno_le (jno_at (jnk_88_310)) (jno_at (jnk_88_313))))))))
/-! ScriptLedgerModel.out(II)Z -/
theorem jd_89_0 : decode prog_10_method_2_code 0 = .ok (.iload_n 0, 1) := by decide +kernel
theorem jd_89_1 : decode prog_10_method_2_code 1 = .ok (.ifCond .lt 8, 3) := by decide +kernel
theorem jd_89_4 : decode prog_10_method_2_code 4 = .ok (.iload_n 0, 1) := by decide +kernel
theorem jd_89_5 : decode prog_10_method_2_code 5 = .ok (.iload_n 1, 1) := by decide +kernel
theorem jd_89_6 : decode prog_10_method_2_code 6 = .ok (.if_icmp .lt 7, 3) := by decide +kernel
theorem jd_89_9 : decode prog_10_method_2_code 9 = .ok (.iconst 1, 1) := by decide +kernel
theorem jd_89_10 : decode prog_10_method_2_code 10 = .ok (.goto 4, 3) := by decide +kernel
theorem jd_89_13 : decode prog_10_method_2_code 13 = .ok (.iconst 0, 1) := by decide +kernel
theorem jd_89_14 : decode prog_10_method_2_code 14 = .ok (.ireturn, 1) := by decide +kernel
def jt_89 (pc : Nat) : jx_Sp := bif Nat.ble pc 6 then (bif Nat.ble pc 4 then (bif Nat.ble pc 1 then (bif Nat.ble pc 0 then (bif Nat.beq pc 0 then js_il 0 1 else js_none) else (bif Nat.beq pc 1 then js_iflt 9 else js_none)) else (bif Nat.beq pc 4 then js_il 0 1 else js_none)) else (bif Nat.ble pc 5 then (bif Nat.beq pc 5 then js_il 1 1 else js_none) else (bif Nat.beq pc 6 then js_clt 13 else js_none))) else (bif Nat.ble pc 10 then (bif Nat.ble pc 9 then (bif Nat.beq pc 9 then js_c 1 1 else js_none) else (bif Nat.beq pc 10 then js_go 14 else js_none)) else (bif Nat.ble pc 13 then (bif Nat.beq pc 13 then js_c 0 1 else js_none) else (bif Nat.beq pc 14 then js_zr else js_none)))
theorem jk_89_0 : jx_Snd 89 0 (js_il 0 1) := jo_iload_n (i := 0) (w := 0) rfl jd_89_0
theorem jk_89_1 : jx_Snd 89 1 (js_iflt 9) := jo_iflt (o := 8) rfl jd_89_1
theorem jk_89_4 : jx_Snd 89 4 (js_il 0 1) := jo_iload_n (i := 0) (w := 0) rfl jd_89_4
theorem jk_89_5 : jx_Snd 89 5 (js_il 1 1) := jo_iload_n (i := 1) (w := 1) rfl jd_89_5
theorem jk_89_6 : jx_Snd 89 6 (js_clt 13) := jo_clt (o := 7) rfl jd_89_6
theorem jk_89_9 : jx_Snd 89 9 (js_c 1 1) := jo_iconst (z := 1) jd_89_9 rfl
theorem jk_89_10 : jx_Snd 89 10 (js_go 14) := jo_goto (o := 4) rfl jd_89_10
theorem jk_89_13 : jx_Snd 89 13 (js_c 0 1) := jo_iconst (z := 0) jd_89_13 rfl
theorem jk_89_14 : jx_Snd 89 14 (js_zr) := jo_zr rfl jd_89_14
theorem jk_89 : jx_So 89 jt_89 := fun pc => jo_le (jo_le (jo_le (jo_le (jo_at (jk_89_0)) (jo_at (jk_89_1))) (jo_at (jk_89_4))) (jo_le (jo_at (jk_89_5)) (jo_at (jk_89_6)))) (jo_le (jo_le (jo_at (jk_89_9)) (jo_at (jk_89_10))) (jo_le (jo_at (jk_89_13)) (jo_at (jk_89_14))))
theorem ji_89 {l : Launch} {D : va_G} {cA : ClassId} {ρ : Nat → Nat} {Λ : List jx_Lc} {d : Nat} {Q : Option Value → jx_St → Prop} {σ : jx_St} {a1 : Int32} {a2 : Int32} (h : jt_89 0 Λ jx_tb0 (jx_rn Λ jx_tb0 jt_89 (fun k' as σ K => jx_C l D cA ρ Λ d k' as σ K) Q (jx_J l D cA ρ Λ (jx_A ρ Λ) jx_tb0 (d + 1) 89 Q) [] 400) (fun k' as σ K => jx_C l D cA ρ Λ d k' as σ K) Q 0 [(0, .int a1), (1, .int a2)] [] σ) : jx_C l D cA ρ Λ (d + 1) 89 [.int a1, .int a2] σ Q := jx_in jk_89 400 [] rfl (Nat.le_of_ble_eq_true rfl) h

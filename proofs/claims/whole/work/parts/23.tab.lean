/-! ScriptLedger$Draft.append(JI)V -/
theorem jd_33_0 : decode prog_2_method_2_code 0 = .ok (.iload_n 3, 1) := by decide +kernel
theorem jd_33_1 : decode prog_2_method_2_code 1 = .ok (.iconst 1, 1) := by decide +kernel
theorem jd_33_2 : decode prog_2_method_2_code 2 = .ok (.isub, 1) := by decide +kernel
theorem jd_33_3 : decode prog_2_method_2_code 3 = .ok (.istore 4, 2) := by decide +kernel
theorem jd_33_5 : decode prog_2_method_2_code 5 = .ok (.iload 4, 2) := by decide +kernel
theorem jd_33_7 : decode prog_2_method_2_code 7 = .ok (.ifCond .lt 49, 3) := by decide +kernel
theorem jd_33_10 : decode prog_2_method_2_code 10 = .ok (.aload_n 0, 1) := by decide +kernel
theorem jd_33_11 : decode prog_2_method_2_code 11 = .ok (.getfield 15, 3) := by decide +kernel
theorem jd_33_14 : decode prog_2_method_2_code 14 = .ok (.bipush 48, 2) := by decide +kernel
theorem jd_33_16 : decode prog_2_method_2_code 16 = .ok (.if_icmp .ge 40, 3) := by decide +kernel
theorem jd_33_19 : decode prog_2_method_2_code 19 = .ok (.aload_n 0, 1) := by decide +kernel
theorem jd_33_20 : decode prog_2_method_2_code 20 = .ok (.getfield 9, 3) := by decide +kernel
theorem jd_33_23 : decode prog_2_method_2_code 23 = .ok (.aload_n 0, 1) := by decide +kernel
theorem jd_33_24 : decode prog_2_method_2_code 24 = .ok (.getfield 15, 3) := by decide +kernel
theorem jd_33_27 : decode prog_2_method_2_code 27 = .ok (.lload_n 1, 1) := by decide +kernel
theorem jd_33_28 : decode prog_2_method_2_code 28 = .ok (.bipush 8, 2) := by decide +kernel
theorem jd_33_30 : decode prog_2_method_2_code 30 = .ok (.iload 4, 2) := by decide +kernel
theorem jd_33_32 : decode prog_2_method_2_code 32 = .ok (.imul, 1) := by decide +kernel
theorem jd_33_33 : decode prog_2_method_2_code 33 = .ok (.lshr, 1) := by decide +kernel
theorem jd_33_34 : decode prog_2_method_2_code 34 = .ok (.l2i, 1) := by decide +kernel
theorem jd_33_35 : decode prog_2_method_2_code 35 = .ok (.sipush 255, 3) := by decide +kernel
theorem jd_33_38 : decode prog_2_method_2_code 38 = .ok (.iand, 1) := by decide +kernel
theorem jd_33_39 : decode prog_2_method_2_code 39 = .ok (.iastore, 1) := by decide +kernel
theorem jd_33_40 : decode prog_2_method_2_code 40 = .ok (.aload_n 0, 1) := by decide +kernel
theorem jd_33_41 : decode prog_2_method_2_code 41 = .ok (.dup, 1) := by decide +kernel
theorem jd_33_42 : decode prog_2_method_2_code 42 = .ok (.getfield 15, 3) := by decide +kernel
theorem jd_33_45 : decode prog_2_method_2_code 45 = .ok (.iconst 1, 1) := by decide +kernel
theorem jd_33_46 : decode prog_2_method_2_code 46 = .ok (.iadd, 1) := by decide +kernel
theorem jd_33_47 : decode prog_2_method_2_code 47 = .ok (.putfield 15, 3) := by decide +kernel
theorem jd_33_50 : decode prog_2_method_2_code 50 = .ok (.iinc 4 (-1), 3) := by decide +kernel
theorem jd_33_53 : decode prog_2_method_2_code 53 = .ok (.goto (-48), 3) := by decide +kernel
theorem jd_33_56 : decode prog_2_method_2_code 56 = .ok (.return_, 1) := by decide +kernel
def jt_33 (pc : Nat) : jx_Sp := bif Nat.ble pc 28 then (bif Nat.ble pc 11 then (bif Nat.ble pc 3 then (bif Nat.ble pc 1 then (bif Nat.ble pc 0 then (bif Nat.beq pc 0 then js_il 3 1 else js_none) else (bif Nat.beq pc 1 then js_c 1 1 else js_none)) else (bif Nat.ble pc 2 then (bif Nat.beq pc 2 then js_isub else js_none) else (bif Nat.beq pc 3 then js_is 4 2 else js_none))) else (bif Nat.ble pc 7 then (bif Nat.ble pc 5 then (bif Nat.beq pc 5 then js_il 4 2 else js_none) else (bif Nat.beq pc 7 then js_iflt 56 else js_none)) else (bif Nat.ble pc 10 then (bif Nat.beq pc 10 then js_al 0 1 else js_none) else (bif Nat.beq pc 11 then js_getf 1 1 else js_none)))) else (bif Nat.ble pc 20 then (bif Nat.ble pc 16 then (bif Nat.ble pc 14 then (bif Nat.beq pc 14 then js_c 48 2 else js_none) else (bif Nat.beq pc 16 then js_cge 56 else js_none)) else (bif Nat.ble pc 19 then (bif Nat.beq pc 19 then js_al 0 1 else js_none) else (bif Nat.beq pc 20 then js_getf 1 0 else js_none))) else (bif Nat.ble pc 24 then (bif Nat.ble pc 23 then (bif Nat.beq pc 23 then js_al 0 1 else js_none) else (bif Nat.beq pc 24 then js_getf 1 1 else js_none)) else (bif Nat.ble pc 27 then (bif Nat.beq pc 27 then js_ll 1 1 else js_none) else (bif Nat.beq pc 28 then js_c 8 2 else js_none))))) else (bif Nat.ble pc 40 then (bif Nat.ble pc 34 then (bif Nat.ble pc 32 then (bif Nat.ble pc 30 then (bif Nat.beq pc 30 then js_il 4 2 else js_none) else (bif Nat.beq pc 32 then js_imul else js_none)) else (bif Nat.ble pc 33 then (bif Nat.beq pc 33 then js_lshr else js_none) else (bif Nat.beq pc 34 then js_l2i else js_none))) else (bif Nat.ble pc 38 then (bif Nat.ble pc 35 then (bif Nat.beq pc 35 then js_c 255 3 else js_none) else (bif Nat.beq pc 38 then js_iand else js_none)) else (bif Nat.ble pc 39 then (bif Nat.beq pc 39 then js_ast else js_none) else (bif Nat.beq pc 40 then js_al 0 1 else js_none)))) else (bif Nat.ble pc 46 then (bif Nat.ble pc 42 then (bif Nat.ble pc 41 then (bif Nat.beq pc 41 then js_dup else js_none) else (bif Nat.beq pc 42 then js_getf 1 1 else js_none)) else (bif Nat.ble pc 45 then (bif Nat.beq pc 45 then js_c 1 1 else js_none) else (bif Nat.beq pc 46 then js_iadd else js_none))) else (bif Nat.ble pc 50 then (bif Nat.ble pc 47 then (bif Nat.beq pc 47 then js_putf 1 1 false else js_none) else (bif Nat.beq pc 50 then js_inc 4 (-1) else js_none)) else (bif Nat.ble pc 53 then (bif Nat.beq pc 53 then js_go 5 else js_none) else (bif Nat.beq pc 56 then js_vr else js_none)))))
theorem jk_33_0 : jx_Snd 33 0 (js_il 3 1) := jo_iload_n (i := 3) (w := 3) rfl jd_33_0
theorem jk_33_1 : jx_Snd 33 1 (js_c 1 1) := jo_iconst (z := 1) jd_33_1 rfl
theorem jk_33_2 : jx_Snd 33 2 (js_isub) := jo_isub jd_33_2
theorem jk_33_3 : jx_Snd 33 3 (js_is 4 2) := jo_istore (i := 4) (Nat.le_of_ble_eq_true rfl) jd_33_3
theorem jk_33_5 : jx_Snd 33 5 (js_il 4 2) := jo_iload (i := 4) jd_33_5
theorem jk_33_7 : jx_Snd 33 7 (js_iflt 56) := jo_iflt (o := 49) rfl jd_33_7
theorem jk_33_10 : jx_Snd 33 10 (js_al 0 1) := jo_aload_n (i := 0) (w := 0) rfl jd_33_10
theorem jk_33_11 : jx_Snd 33 11 (js_getf 1 1) := jo_getf rfl jf_1_15 jd_33_11
theorem jk_33_14 : jx_Snd 33 14 (js_c 48 2) := jo_bipush (z := 48) jd_33_14 (by decide +kernel)
theorem jk_33_16 : jx_Snd 33 16 (js_cge 56) := jo_cge (o := 40) rfl jd_33_16
theorem jk_33_19 : jx_Snd 33 19 (js_al 0 1) := jo_aload_n (i := 0) (w := 0) rfl jd_33_19
theorem jk_33_20 : jx_Snd 33 20 (js_getf 1 0) := jo_getf rfl jf_1_9 jd_33_20
theorem jk_33_23 : jx_Snd 33 23 (js_al 0 1) := jo_aload_n (i := 0) (w := 0) rfl jd_33_23
theorem jk_33_24 : jx_Snd 33 24 (js_getf 1 1) := jo_getf rfl jf_1_15 jd_33_24
theorem jk_33_27 : jx_Snd 33 27 (js_ll 1 1) := jo_lload_n (i := 1) (w := 1) rfl jd_33_27
theorem jk_33_28 : jx_Snd 33 28 (js_c 8 2) := jo_bipush (z := 8) jd_33_28 (by decide +kernel)
theorem jk_33_30 : jx_Snd 33 30 (js_il 4 2) := jo_iload (i := 4) jd_33_30
theorem jk_33_32 : jx_Snd 33 32 (js_imul) := jo_imul jd_33_32
theorem jk_33_33 : jx_Snd 33 33 (js_lshr) := jo_lshr jd_33_33
theorem jk_33_34 : jx_Snd 33 34 (js_l2i) := jo_l2i jd_33_34
theorem jk_33_35 : jx_Snd 33 35 (js_c 255 3) := jo_sipush (z := 255) jd_33_35 (by decide +kernel)
theorem jk_33_38 : jx_Snd 33 38 (js_iand) := jo_iand jd_33_38
theorem jk_33_39 : jx_Snd 33 39 (js_ast) := jo_ast jd_33_39
theorem jk_33_40 : jx_Snd 33 40 (js_al 0 1) := jo_aload_n (i := 0) (w := 0) rfl jd_33_40
theorem jk_33_41 : jx_Snd 33 41 (js_dup) := jo_dup jd_33_41
theorem jk_33_42 : jx_Snd 33 42 (js_getf 1 1) := jo_getf rfl jf_1_15 jd_33_42
theorem jk_33_45 : jx_Snd 33 45 (js_c 1 1) := jo_iconst (z := 1) jd_33_45 rfl
theorem jk_33_46 : jx_Snd 33 46 (js_iadd) := jo_iadd jd_33_46
theorem jk_33_47 : jx_Snd 33 47 (js_putf 1 1 false) := jo_putf (z := false) rfl jf_1_15 (fun C T N h => by cases h; rfl) jd_33_47
theorem jk_33_50 : jx_Snd 33 50 (js_inc 4 (-1)) := jo_iinc (w := (-1)) rfl (Nat.le_of_ble_eq_true rfl) jd_33_50
theorem jk_33_53 : jx_Snd 33 53 (js_go 5) := jo_goto (o := (-48)) rfl jd_33_53
theorem jk_33_56 : jx_Snd 33 56 (js_vr) := jo_vr rfl jd_33_56
theorem jk_33 : jx_So 33 jt_33 := fun pc => jo_le (jo_le (jo_le (jo_le (jo_le (jo_at (jk_33_0)) (jo_at (jk_33_1))) (jo_le (jo_at (jk_33_2)) (jo_at (jk_33_3)))) (jo_le (jo_le (jo_at (jk_33_5)) (jo_at (jk_33_7))) (jo_le (jo_at (jk_33_10)) (jo_at (jk_33_11))))) (jo_le (jo_le (jo_le (jo_at (jk_33_14)) (jo_at (jk_33_16))) (jo_le (jo_at (jk_33_19)) (jo_at (jk_33_20)))) (jo_le (jo_le (jo_at (jk_33_23)) (jo_at (jk_33_24))) (jo_le (jo_at (jk_33_27)) (jo_at (jk_33_28)))))) (jo_le (jo_le (jo_le (jo_le (jo_at (jk_33_30)) (jo_at (jk_33_32))) (jo_le (jo_at (jk_33_33)) (jo_at (jk_33_34)))) (jo_le (jo_le (jo_at (jk_33_35)) (jo_at (jk_33_38))) (jo_le (jo_at (jk_33_39)) (jo_at (jk_33_40))))) (jo_le (jo_le (jo_le (jo_at (jk_33_41)) (jo_at (jk_33_42))) (jo_le (jo_at (jk_33_45)) (jo_at (jk_33_46)))) (jo_le (jo_le (jo_at (jk_33_47)) (jo_at (jk_33_50))) (jo_le (jo_at (jk_33_53)) (jo_at (jk_33_56))))))
theorem ji_33 {l : Launch} {D : va_G} {cA : ClassId} {ρ : Nat → Nat} {Λ : List jx_Lc} {d : Nat} {Q : Option Value → jx_St → Prop} {σ : jx_St} {z0 : Nat} {a1 : Int64} {a2 : Int32} (h : jt_33 0 Λ jx_tb0 (jx_rn Λ jx_tb0 jt_33 (fun k' as σ K => jx_C l D cA ρ Λ d k' as σ K) Q (jx_J l D cA ρ Λ (jx_A ρ Λ) jx_tb0 (d + 1) 33 Q) [] 400) (fun k' as σ K => jx_C l D cA ρ Λ d k' as σ K) Q 0 [(0, .ref z0), (1, .long a1), (3, .int a2)] [] σ) : jx_C l D cA ρ Λ (d + 1) 33 [.ref z0, .long a1, .int a2] σ Q := jx_in jk_33 400 [] rfl (Nat.le_of_ble_eq_true rfl) h
/-! ScriptLedger$Machine.<init>()V -/
theorem jd_34_0 : decode prog_4_method_1_code 0 = .ok (.aload_n 0, 1) := by decide +kernel
theorem jd_34_1 : decode prog_4_method_1_code 1 = .ok (.invokespecial 3, 3) := by decide +kernel
theorem jd_34_4 : decode prog_4_method_1_code 4 = .ok (.aload_n 0, 1) := by decide +kernel
theorem jd_34_5 : decode prog_4_method_1_code 5 = .ok (.new 9, 3) := by decide +kernel
theorem jd_34_8 : decode prog_4_method_1_code 8 = .ok (.dup, 1) := by decide +kernel
theorem jd_34_9 : decode prog_4_method_1_code 9 = .ok (.invokespecial 11, 3) := by decide +kernel
theorem jd_34_12 : decode prog_4_method_1_code 12 = .ok (.putfield 12, 3) := by decide +kernel
theorem jd_34_15 : decode prog_4_method_1_code 15 = .ok (.aload_n 0, 1) := by decide +kernel
theorem jd_34_16 : decode prog_4_method_1_code 16 = .ok (.new 18, 3) := by decide +kernel
theorem jd_34_19 : decode prog_4_method_1_code 19 = .ok (.dup, 1) := by decide +kernel
theorem jd_34_20 : decode prog_4_method_1_code 20 = .ok (.invokespecial 20, 3) := by decide +kernel
theorem jd_34_23 : decode prog_4_method_1_code 23 = .ok (.putfield 21, 3) := by decide +kernel
theorem jd_34_26 : decode prog_4_method_1_code 26 = .ok (.aload_n 0, 1) := by decide +kernel
theorem jd_34_27 : decode prog_4_method_1_code 27 = .ok (.sipush 128, 3) := by decide +kernel
theorem jd_34_30 : decode prog_4_method_1_code 30 = .ok (.newarray .int, 2) := by decide +kernel
theorem jd_34_32 : decode prog_4_method_1_code 32 = .ok (.putfield 25, 3) := by decide +kernel
theorem jd_34_35 : decode prog_4_method_1_code 35 = .ok (.aload_n 0, 1) := by decide +kernel
theorem jd_34_36 : decode prog_4_method_1_code 36 = .ok (.sipush 128, 3) := by decide +kernel
theorem jd_34_39 : decode prog_4_method_1_code 39 = .ok (.newarray .int, 2) := by decide +kernel
theorem jd_34_41 : decode prog_4_method_1_code 41 = .ok (.putfield 29, 3) := by decide +kernel
theorem jd_34_44 : decode prog_4_method_1_code 44 = .ok (.aload_n 0, 1) := by decide +kernel
theorem jd_34_45 : decode prog_4_method_1_code 45 = .ok (.sipush 128, 3) := by decide +kernel
theorem jd_34_48 : decode prog_4_method_1_code 48 = .ok (.newarray .int, 2) := by decide +kernel
theorem jd_34_50 : decode prog_4_method_1_code 50 = .ok (.putfield 32, 3) := by decide +kernel
theorem jd_34_53 : decode prog_4_method_1_code 53 = .ok (.aload_n 0, 1) := by decide +kernel
theorem jd_34_54 : decode prog_4_method_1_code 54 = .ok (.iconst (-1), 1) := by decide +kernel
theorem jd_34_55 : decode prog_4_method_1_code 55 = .ok (.putfield 35, 3) := by decide +kernel
theorem jd_34_58 : decode prog_4_method_1_code 58 = .ok (.return_, 1) := by decide +kernel
def jnt_34 (pc : Nat) : jn_Sp := bif Nat.ble pc 27 then (bif Nat.ble pc 12 then (bif Nat.ble pc 5 then (bif Nat.ble pc 1 then (bif Nat.ble pc 0 then (bif Nat.beq pc 0 then jn_of (js_al 0 1) else jn_none) else (bif Nat.beq pc 1 then jn_obj else jn_none)) else (bif Nat.ble pc 4 then (bif Nat.beq pc 4 then jn_of (js_al 0 1) else jn_none) else (bif Nat.beq pc 5 then jn_new 3 3 [some none, some none, none] else jn_none))) else (bif Nat.ble pc 9 then (bif Nat.ble pc 8 then (bif Nat.beq pc 8 then jn_of (js_dup) else jn_none) else (bif Nat.beq pc 9 then jn_i0 55 2 576 else jn_none)) else (bif Nat.beq pc 12 then jn_putr 2 0 else jn_none))) else (bif Nat.ble pc 20 then (bif Nat.ble pc 16 then (bif Nat.ble pc 15 then (bif Nat.beq pc 15 then jn_of (js_al 0 1) else jn_none) else (bif Nat.beq pc 16 then jn_new 4 5 [some none, some none, some none, some none, none] else jn_none)) else (bif Nat.ble pc 19 then (bif Nat.beq pc 19 then jn_of (js_dup) else jn_none) else (bif Nat.beq pc 20 then jn_i0 61 4 2048 else jn_none))) else (bif Nat.ble pc 26 then (bif Nat.ble pc 23 then (bif Nat.beq pc 23 then jn_putr 2 1 else jn_none) else (bif Nat.beq pc 26 then jn_of (js_al 0 1) else jn_none)) else (bif Nat.beq pc 27 then jn_of (js_c 128 3) else jn_none)))) else (bif Nat.ble pc 44 then (bif Nat.ble pc 36 then (bif Nat.ble pc 32 then (bif Nat.ble pc 30 then (bif Nat.beq pc 30 then jn_newa else jn_none) else (bif Nat.beq pc 32 then jn_putr 2 2 else jn_none)) else (bif Nat.ble pc 35 then (bif Nat.beq pc 35 then jn_of (js_al 0 1) else jn_none) else (bif Nat.beq pc 36 then jn_of (js_c 128 3) else jn_none))) else (bif Nat.ble pc 41 then (bif Nat.ble pc 39 then (bif Nat.beq pc 39 then jn_newa else jn_none) else (bif Nat.beq pc 41 then jn_putr 2 3 else jn_none)) else (bif Nat.beq pc 44 then jn_of (js_al 0 1) else jn_none))) else (bif Nat.ble pc 53 then (bif Nat.ble pc 48 then (bif Nat.ble pc 45 then (bif Nat.beq pc 45 then jn_of (js_c 128 3) else jn_none) else (bif Nat.beq pc 48 then jn_newa else jn_none)) else (bif Nat.ble pc 50 then (bif Nat.beq pc 50 then jn_putr 2 4 else jn_none) else (bif Nat.beq pc 53 then jn_of (js_al 0 1) else jn_none))) else (bif Nat.ble pc 55 then (bif Nat.ble pc 54 then (bif Nat.beq pc 54 then jn_of (js_c (-1) 1) else jn_none) else (bif Nat.beq pc 55 then jn_of (js_putf 2 13 false) else jn_none)) else (bif Nat.beq pc 58 then jn_vr else jn_none))))
theorem jnk_34_0 : jn_Snd 34 0 (jn_of (js_al 0 1)) := jn_lift (jo_aload_n (i := 0) (w := 0) rfl jd_34_0)
theorem jnk_34_1 : jn_Snd 34 1 (jn_obj) := jno_obj rfl jw_33 jw_17 jw_18 jd_34_1
theorem jnk_34_4 : jn_Snd 34 4 (jn_of (js_al 0 1)) := jn_lift (jo_aload_n (i := 0) (w := 0) rfl jd_34_4)
theorem jnk_34_5 : jn_Snd 34 5 (jn_new 3 3 [some none, some none, none]) := jno_new (tt := ju_3) rfl rfl jhl_3 jty_3 jw_34 jw_35 jw_4 rfl (by decide +kernel) jd_34_5
theorem jnk_34_8 : jn_Snd 34 8 (jn_of (js_dup)) := jn_lift (jo_dup jd_34_8)
theorem jnk_34_9 : jn_Snd 34 9 (jn_i0 55 2 576) := jno_i0 rfl jok_55 (Or.inr ⟨_, List.mem_of_getElem? (i := 2) rfl⟩) jw_36 rfl rfl jd_34_9
theorem jnk_34_12 : jn_Snd 34 12 (jn_putr 2 0) := jno_putr rfl rfl jf_2_12 (fun C T N h => by cases h; exact ⟨rfl, rfl⟩) ⟨_, _, _, rfl, jw_58⟩ (fun a => ⟨rfl, rfl⟩) jd_34_12
theorem jnk_34_15 : jn_Snd 34 15 (jn_of (js_al 0 1)) := jn_lift (jo_aload_n (i := 0) (w := 0) rfl jd_34_15)
theorem jnk_34_16 : jn_Snd 34 16 (jn_new 4 5 [some none, some none, some none, some none, none]) := jno_new (tt := ju_4) rfl rfl jhl_4 jty_4 jw_44 jw_45 jw_5 rfl (by decide +kernel) jd_34_16
theorem jnk_34_19 : jn_Snd 34 19 (jn_of (js_dup)) := jn_lift (jo_dup jd_34_19)
theorem jnk_34_20 : jn_Snd 34 20 (jn_i0 61 4 2048) := jno_i0 rfl jok_61 (Or.inr ⟨_, List.mem_of_getElem? (i := 3) rfl⟩) jw_46 rfl rfl jd_34_20
theorem jnk_34_23 : jn_Snd 34 23 (jn_putr 2 1) := jno_putr rfl rfl jf_2_21 (fun C T N h => by cases h; exact ⟨rfl, rfl⟩) ⟨_, _, _, rfl, jw_60⟩ (fun a => ⟨rfl, rfl⟩) jd_34_23
theorem jnk_34_26 : jn_Snd 34 26 (jn_of (js_al 0 1)) := jn_lift (jo_aload_n (i := 0) (w := 0) rfl jd_34_26)
theorem jnk_34_27 : jn_Snd 34 27 (jn_of (js_c 128 3)) := jn_lift (jo_sipush (z := 128) jd_34_27 (by decide +kernel))
theorem jnk_34_30 : jn_Snd 34 30 (jn_newa) := jno_newa (at_ := .int) rfl jw_28 jd_34_30
theorem jnk_34_32 : jn_Snd 34 32 (jn_putr 2 2) := jno_putr rfl rfl jf_2_25 (fun C T N h => by cases h; exact ⟨rfl, rfl⟩) ⟨_, _, _, rfl, jw_61⟩ (fun a => ⟨rfl, rfl⟩) jd_34_32
theorem jnk_34_35 : jn_Snd 34 35 (jn_of (js_al 0 1)) := jn_lift (jo_aload_n (i := 0) (w := 0) rfl jd_34_35)
theorem jnk_34_36 : jn_Snd 34 36 (jn_of (js_c 128 3)) := jn_lift (jo_sipush (z := 128) jd_34_36 (by decide +kernel))
theorem jnk_34_39 : jn_Snd 34 39 (jn_newa) := jno_newa (at_ := .int) rfl jw_28 jd_34_39
theorem jnk_34_41 : jn_Snd 34 41 (jn_putr 2 3) := jno_putr rfl rfl jf_2_29 (fun C T N h => by cases h; exact ⟨rfl, rfl⟩) ⟨_, _, _, rfl, jw_62⟩ (fun a => ⟨rfl, rfl⟩) jd_34_41
theorem jnk_34_44 : jn_Snd 34 44 (jn_of (js_al 0 1)) := jn_lift (jo_aload_n (i := 0) (w := 0) rfl jd_34_44)
theorem jnk_34_45 : jn_Snd 34 45 (jn_of (js_c 128 3)) := jn_lift (jo_sipush (z := 128) jd_34_45 (by decide +kernel))
theorem jnk_34_48 : jn_Snd 34 48 (jn_newa) := jno_newa (at_ := .int) rfl jw_28 jd_34_48
theorem jnk_34_50 : jn_Snd 34 50 (jn_putr 2 4) := jno_putr rfl rfl jf_2_32 (fun C T N h => by cases h; exact ⟨rfl, rfl⟩) ⟨_, _, _, rfl, jw_63⟩ (fun a => ⟨rfl, rfl⟩) jd_34_50
theorem jnk_34_53 : jn_Snd 34 53 (jn_of (js_al 0 1)) := jn_lift (jo_aload_n (i := 0) (w := 0) rfl jd_34_53)
theorem jnk_34_54 : jn_Snd 34 54 (jn_of (js_c (-1) 1)) := jn_lift (jo_iconst (z := (-1)) jd_34_54 rfl)
theorem jnk_34_55 : jn_Snd 34 55 (jn_of (js_putf 2 13 false)) := jn_lift (jo_putf (z := false) rfl jf_2_35 (fun C T N h => by cases h; rfl) jd_34_55)
theorem jnk_34_58 : jn_Snd 34 58 (jn_vr) := jno_vr jd_34_58
theorem jnk_34 : jn_So 34 jnt_34 := fun pc => jno_le (jno_le (jno_le (jno_le (jno_le (jno_at (jnk_34_0)) (jno_at (jnk_34_1))) (jno_le (jno_at (jnk_34_4)) (jno_at (jnk_34_5)))) (jno_le (jno_le (jno_at (jnk_34_8)) (jno_at (jnk_34_9))) (jno_at (jnk_34_12)))) (jno_le (jno_le (jno_le (jno_at (jnk_34_15)) (jno_at (jnk_34_16))) (jno_le (jno_at (jnk_34_19)) (jno_at (jnk_34_20)))) (jno_le (jno_le (jno_at (jnk_34_23)) (jno_at (jnk_34_26))) (jno_at (jnk_34_27))))) (jno_le (jno_le (jno_le (jno_le (jno_at (jnk_34_30)) (jno_at (jnk_34_32))) (jno_le (jno_at (jnk_34_35)) (jno_at (jnk_34_36)))) (jno_le (jno_le (jno_at (jnk_34_39)) (jno_at (jnk_34_41))) (jno_at (jnk_34_44)))) (jno_le (jno_le (jno_le (jno_at (jnk_34_45)) (jno_at (jnk_34_48))) (jno_le (jno_at (jnk_34_50)) (jno_at (jnk_34_53)))) (jno_le (jno_le (jno_at (jnk_34_54)) (jno_at (jnk_34_55))) (jno_at (jnk_34_58)))))
/-! ScriptLedger$Machine.evaluate(III[II)V -/
theorem jd_35_0 : decode prog_4_method_2_code 0 = .ok (.aload_n 0, 1) := by decide +kernel
theorem jd_35_1 : decode prog_4_method_2_code 1 = .ok (.aload_n 0, 1) := by decide +kernel
theorem jd_35_2 : decode prog_4_method_2_code 2 = .ok (.getfield 12, 3) := by decide +kernel
theorem jd_35_5 : decode prog_4_method_2_code 5 = .ok (.iload_n 1, 1) := by decide +kernel
theorem jd_35_6 : decode prog_4_method_2_code 6 = .ok (.invokevirtual 39, 3) := by decide +kernel
theorem jd_35_9 : decode prog_4_method_2_code 9 = .ok (.iload 5, 2) := by decide +kernel
theorem jd_35_11 : decode prog_4_method_2_code 11 = .ok (.invokevirtual 43, 3) := by decide +kernel
theorem jd_35_14 : decode prog_4_method_2_code 14 = .ok (.aload_n 0, 1) := by decide +kernel
theorem jd_35_15 : decode prog_4_method_2_code 15 = .ok (.iconst 3, 1) := by decide +kernel
theorem jd_35_16 : decode prog_4_method_2_code 16 = .ok (.aload_n 0, 1) := by decide +kernel
theorem jd_35_17 : decode prog_4_method_2_code 17 = .ok (.aload 4, 2) := by decide +kernel
theorem jd_35_19 : decode prog_4_method_2_code 19 = .ok (.invokevirtual 47, 3) := by decide +kernel
theorem jd_35_22 : decode prog_4_method_2_code 22 = .ok (.iconst 0, 1) := by decide +kernel
theorem jd_35_23 : decode prog_4_method_2_code 23 = .ok (.invokevirtual 51, 3) := by decide +kernel
theorem jd_35_26 : decode prog_4_method_2_code 26 = .ok (.aload_n 0, 1) := by decide +kernel
theorem jd_35_27 : decode prog_4_method_2_code 27 = .ok (.iconst 3, 1) := by decide +kernel
theorem jd_35_28 : decode prog_4_method_2_code 28 = .ok (.aload_n 0, 1) := by decide +kernel
theorem jd_35_29 : decode prog_4_method_2_code 29 = .ok (.getfield 21, 3) := by decide +kernel
theorem jd_35_32 : decode prog_4_method_2_code 32 = .ok (.iconst 0, 1) := by decide +kernel
theorem jd_35_33 : decode prog_4_method_2_code 33 = .ok (.iload_n 3, 1) := by decide +kernel
theorem jd_35_34 : decode prog_4_method_2_code 34 = .ok (.invokevirtual 55, 3) := by decide +kernel
theorem jd_35_37 : decode prog_4_method_2_code 37 = .ok (.iconst 0, 1) := by decide +kernel
theorem jd_35_38 : decode prog_4_method_2_code 38 = .ok (.invokevirtual 51, 3) := by decide +kernel
theorem jd_35_41 : decode prog_4_method_2_code 41 = .ok (.aload_n 0, 1) := by decide +kernel
theorem jd_35_42 : decode prog_4_method_2_code 42 = .ok (.iconst 3, 1) := by decide +kernel
theorem jd_35_43 : decode prog_4_method_2_code 43 = .ok (.aload_n 0, 1) := by decide +kernel
theorem jd_35_44 : decode prog_4_method_2_code 44 = .ok (.getfield 21, 3) := by decide +kernel
theorem jd_35_47 : decode prog_4_method_2_code 47 = .ok (.iconst 0, 1) := by decide +kernel
theorem jd_35_48 : decode prog_4_method_2_code 48 = .ok (.iload_n 2, 1) := by decide +kernel
theorem jd_35_49 : decode prog_4_method_2_code 49 = .ok (.invokevirtual 55, 3) := by decide +kernel
theorem jd_35_52 : decode prog_4_method_2_code 52 = .ok (.iconst 0, 1) := by decide +kernel
theorem jd_35_53 : decode prog_4_method_2_code 53 = .ok (.invokevirtual 51, 3) := by decide +kernel
theorem jd_35_56 : decode prog_4_method_2_code 56 = .ok (.iconst 0, 1) := by decide +kernel
theorem jd_35_57 : decode prog_4_method_2_code 57 = .ok (.istore 6, 2) := by decide +kernel
theorem jd_35_59 : decode prog_4_method_2_code 59 = .ok (.iload 6, 2) := by decide +kernel
theorem jd_35_61 : decode prog_4_method_2_code 61 = .ok (.sipush 2000, 3) := by decide +kernel
theorem jd_35_64 : decode prog_4_method_2_code 64 = .ok (.if_icmp .ge 71, 3) := by decide +kernel
theorem jd_35_67 : decode prog_4_method_2_code 67 = .ok (.aload_n 0, 1) := by decide +kernel
theorem jd_35_68 : decode prog_4_method_2_code 68 = .ok (.getfield 59, 3) := by decide +kernel
theorem jd_35_71 : decode prog_4_method_2_code 71 = .ok (.iconst 4, 1) := by decide +kernel
theorem jd_35_72 : decode prog_4_method_2_code 72 = .ok (.if_icmp .eq 63, 3) := by decide +kernel
theorem jd_35_75 : decode prog_4_method_2_code 75 = .ok (.aload_n 0, 1) := by decide +kernel
theorem jd_35_76 : decode prog_4_method_2_code 76 = .ok (.getfield 59, 3) := by decide +kernel
theorem jd_35_79 : decode prog_4_method_2_code 79 = .ok (.tableswitch 46 0 2 #[25, 32, 39], 25) := by decide +kernel
theorem jd_35_104 : decode prog_4_method_2_code 104 = .ok (.aload_n 0, 1) := by decide +kernel
theorem jd_35_105 : decode prog_4_method_2_code 105 = .ok (.invokevirtual 62, 3) := by decide +kernel
theorem jd_35_108 : decode prog_4_method_2_code 108 = .ok (.goto 21, 3) := by decide +kernel
theorem jd_35_111 : decode prog_4_method_2_code 111 = .ok (.aload_n 0, 1) := by decide +kernel
theorem jd_35_112 : decode prog_4_method_2_code 112 = .ok (.invokevirtual 65, 3) := by decide +kernel
theorem jd_35_115 : decode prog_4_method_2_code 115 = .ok (.goto 14, 3) := by decide +kernel
theorem jd_35_118 : decode prog_4_method_2_code 118 = .ok (.aload_n 0, 1) := by decide +kernel
theorem jd_35_119 : decode prog_4_method_2_code 119 = .ok (.invokevirtual 68, 3) := by decide +kernel
theorem jd_35_122 : decode prog_4_method_2_code 122 = .ok (.goto 7, 3) := by decide +kernel
theorem jd_35_125 : decode prog_4_method_2_code 125 = .ok (.aload_n 0, 1) := by decide +kernel
theorem jd_35_126 : decode prog_4_method_2_code 126 = .ok (.invokevirtual 71, 3) := by decide +kernel
theorem jd_35_129 : decode prog_4_method_2_code 129 = .ok (.iinc 6 1, 3) := by decide +kernel
theorem jd_35_132 : decode prog_4_method_2_code 132 = .ok (.goto (-73), 3) := by decide +kernel
theorem jd_35_135 : decode prog_4_method_2_code 135 = .ok (.aload_n 0, 1) := by decide +kernel
theorem jd_35_136 : decode prog_4_method_2_code 136 = .ok (.getfield 59, 3) := by decide +kernel
theorem jd_35_139 : decode prog_4_method_2_code 139 = .ok (.iconst 4, 1) := by decide +kernel
theorem jd_35_140 : decode prog_4_method_2_code 140 = .ok (.if_icmp .eq 8, 3) := by decide +kernel
theorem jd_35_143 : decode prog_4_method_2_code 143 = .ok (.aload_n 0, 1) := by decide +kernel
theorem jd_35_144 : decode prog_4_method_2_code 144 = .ok (.iconst 3, 1) := by decide +kernel
theorem jd_35_145 : decode prog_4_method_2_code 145 = .ok (.invokevirtual 74, 3) := by decide +kernel
theorem jd_35_148 : decode prog_4_method_2_code 148 = .ok (.return_, 1) := by decide +kernel
def jt_35 (pc : Nat) : jx_Sp := bif Nat.ble pc 56 then (bif Nat.ble pc 28 then (bif Nat.ble pc 15 then (bif Nat.ble pc 6 then (bif Nat.ble pc 2 then (bif Nat.ble pc 1 then (bif Nat.ble pc 0 then (bif Nat.beq pc 0 then js_al 0 1 else js_none) else (bif Nat.beq pc 1 then js_al 0 1 else js_none)) else (bif Nat.beq pc 2 then js_getf 2 0 else js_none)) else (bif Nat.ble pc 5 then (bif Nat.beq pc 5 then js_il 1 1 else js_none) else (bif Nat.beq pc 6 then js_v1 3 57 else js_none))) else (bif Nat.ble pc 11 then (bif Nat.ble pc 9 then (bif Nat.beq pc 9 then js_il 5 2 else js_none) else (bif Nat.beq pc 11 then js_v2 2 36 else js_none)) else (bif Nat.ble pc 14 then (bif Nat.beq pc 14 then js_al 0 1 else js_none) else (bif Nat.beq pc 15 then js_c 3 1 else js_none)))) else (bif Nat.ble pc 22 then (bif Nat.ble pc 17 then (bif Nat.ble pc 16 then (bif Nat.beq pc 16 then js_al 0 1 else js_none) else (bif Nat.beq pc 17 then js_al 4 2 else js_none)) else (bif Nat.ble pc 19 then (bif Nat.beq pc 19 then js_v1 2 37 else js_none) else (bif Nat.beq pc 22 then js_c 0 1 else js_none))) else (bif Nat.ble pc 26 then (bif Nat.ble pc 23 then (bif Nat.beq pc 23 then js_v3 2 50 else js_none) else (bif Nat.beq pc 26 then js_al 0 1 else js_none)) else (bif Nat.ble pc 27 then (bif Nat.beq pc 27 then js_c 3 1 else js_none) else (bif Nat.beq pc 28 then js_al 0 1 else js_none))))) else (bif Nat.ble pc 42 then (bif Nat.ble pc 34 then (bif Nat.ble pc 32 then (bif Nat.ble pc 29 then (bif Nat.beq pc 29 then js_getf 2 1 else js_none) else (bif Nat.beq pc 32 then js_c 0 1 else js_none)) else (bif Nat.ble pc 33 then (bif Nat.beq pc 33 then js_il 3 1 else js_none) else (bif Nat.beq pc 34 then js_v2 4 64 else js_none))) else (bif Nat.ble pc 38 then (bif Nat.ble pc 37 then (bif Nat.beq pc 37 then js_c 0 1 else js_none) else (bif Nat.beq pc 38 then js_v3 2 50 else js_none)) else (bif Nat.ble pc 41 then (bif Nat.beq pc 41 then js_al 0 1 else js_none) else (bif Nat.beq pc 42 then js_c 3 1 else js_none)))) else (bif Nat.ble pc 48 then (bif Nat.ble pc 44 then (bif Nat.ble pc 43 then (bif Nat.beq pc 43 then js_al 0 1 else js_none) else (bif Nat.beq pc 44 then js_getf 2 1 else js_none)) else (bif Nat.ble pc 47 then (bif Nat.beq pc 47 then js_c 0 1 else js_none) else (bif Nat.beq pc 48 then js_il 2 1 else js_none))) else (bif Nat.ble pc 52 then (bif Nat.ble pc 49 then (bif Nat.beq pc 49 then js_v2 4 64 else js_none) else (bif Nat.beq pc 52 then js_c 0 1 else js_none)) else (bif Nat.ble pc 53 then (bif Nat.beq pc 53 then js_v3 2 50 else js_none) else (bif Nat.beq pc 56 then js_c 0 1 else js_none)))))) else (bif Nat.ble pc 112 then (bif Nat.ble pc 72 then (bif Nat.ble pc 64 then (bif Nat.ble pc 59 then (bif Nat.ble pc 57 then (bif Nat.beq pc 57 then js_is 6 2 else js_none) else (bif Nat.beq pc 59 then js_il 6 2 else js_none)) else (bif Nat.ble pc 61 then (bif Nat.beq pc 61 then js_c 2000 3 else js_none) else (bif Nat.beq pc 64 then js_cge 135 else js_none))) else (bif Nat.ble pc 68 then (bif Nat.ble pc 67 then (bif Nat.beq pc 67 then js_al 0 1 else js_none) else (bif Nat.beq pc 68 then js_getf 2 6 else js_none)) else (bif Nat.ble pc 71 then (bif Nat.beq pc 71 then js_c 4 1 else js_none) else (bif Nat.beq pc 72 then js_ceq 135 else js_none)))) else (bif Nat.ble pc 104 then (bif Nat.ble pc 76 then (bif Nat.ble pc 75 then (bif Nat.beq pc 75 then js_al 0 1 else js_none) else (bif Nat.beq pc 76 then js_getf 2 6 else js_none)) else (bif Nat.ble pc 79 then (bif Nat.beq pc 79 then js_sw [(0, 104), (1, 111), (2, 118)] 125 else js_none) else (bif Nat.beq pc 104 then js_al 0 1 else js_none))) else (bif Nat.ble pc 108 then (bif Nat.ble pc 105 then (bif Nat.beq pc 105 then js_v0 2 38 else js_none) else (bif Nat.beq pc 108 then js_go 129 else js_none)) else (bif Nat.ble pc 111 then (bif Nat.beq pc 111 then js_al 0 1 else js_none) else (bif Nat.beq pc 112 then js_v0 2 39 else js_none))))) else (bif Nat.ble pc 132 then (bif Nat.ble pc 122 then (bif Nat.ble pc 118 then (bif Nat.ble pc 115 then (bif Nat.beq pc 115 then js_go 129 else js_none) else (bif Nat.beq pc 118 then js_al 0 1 else js_none)) else (bif Nat.ble pc 119 then (bif Nat.beq pc 119 then js_v0 2 41 else js_none) else (bif Nat.beq pc 122 then js_go 129 else js_none))) else (bif Nat.ble pc 126 then (bif Nat.ble pc 125 then (bif Nat.beq pc 125 then js_al 0 1 else js_none) else (bif Nat.beq pc 126 then js_v0 2 43 else js_none)) else (bif Nat.ble pc 129 then (bif Nat.beq pc 129 then js_inc 6 1 else js_none) else (bif Nat.beq pc 132 then js_go 59 else js_none)))) else (bif Nat.ble pc 140 then (bif Nat.ble pc 136 then (bif Nat.ble pc 135 then (bif Nat.beq pc 135 then js_al 0 1 else js_none) else (bif Nat.beq pc 136 then js_getf 2 6 else js_none)) else (bif Nat.ble pc 139 then (bif Nat.beq pc 139 then js_c 4 1 else js_none) else (bif Nat.beq pc 140 then js_ceq 148 else js_none))) else (bif Nat.ble pc 144 then (bif Nat.ble pc 143 then (bif Nat.beq pc 143 then js_al 0 1 else js_none) else (bif Nat.beq pc 144 then js_c 3 1 else js_none)) else (bif Nat.ble pc 145 then (bif Nat.beq pc 145 then js_v1 2 53 else js_none) else (bif Nat.beq pc 148 then js_vr else js_none))))))
theorem jk_35_0 : jx_Snd 35 0 (js_al 0 1) := jo_aload_n (i := 0) (w := 0) rfl jd_35_0
theorem jk_35_1 : jx_Snd 35 1 (js_al 0 1) := jo_aload_n (i := 0) (w := 0) rfl jd_35_1
theorem jk_35_2 : jx_Snd 35 2 (js_getf 2 0) := jo_getf rfl jf_2_12 jd_35_2
theorem jk_35_5 : jx_Snd 35 5 (js_il 1 1) := jo_iload_n (i := 1) (w := 1) rfl jd_35_5
theorem jk_35_6 : jx_Snd 35 6 (js_v1 3 57) := jo_v1 rfl jok_57 (Or.inl jw_206) jw_185 jw_186 rfl jd_35_6
theorem jk_35_9 : jx_Snd 35 9 (js_il 5 2) := jo_iload (i := 5) jd_35_9
theorem jk_35_11 : jx_Snd 35 11 (js_v2 2 36) := jo_v2 rfl jok_36 (Or.inl jw_207) jw_208 jw_685 rfl jd_35_11
theorem jk_35_14 : jx_Snd 35 14 (js_al 0 1) := jo_aload_n (i := 0) (w := 0) rfl jd_35_14
theorem jk_35_15 : jx_Snd 35 15 (js_c 3 1) := jo_iconst (z := 3) jd_35_15 rfl
theorem jk_35_16 : jx_Snd 35 16 (js_al 0 1) := jo_aload_n (i := 0) (w := 0) rfl jd_35_16
theorem jk_35_17 : jx_Snd 35 17 (js_al 4 2) := jo_aload (i := 4) jd_35_17
theorem jk_35_19 : jx_Snd 35 19 (js_v1 2 37) := jo_v1 rfl jok_37 (Or.inl jw_221) jw_222 jw_687 rfl jd_35_19
theorem jk_35_22 : jx_Snd 35 22 (js_c 0 1) := jo_iconst (z := 0) jd_35_22 rfl
theorem jk_35_23 : jx_Snd 35 23 (js_v3 2 50) := jo_v3 rfl jok_50 (Or.inl jw_232) jw_233 jw_688 rfl jd_35_23
theorem jk_35_26 : jx_Snd 35 26 (js_al 0 1) := jo_aload_n (i := 0) (w := 0) rfl jd_35_26
theorem jk_35_27 : jx_Snd 35 27 (js_c 3 1) := jo_iconst (z := 3) jd_35_27 rfl
theorem jk_35_28 : jx_Snd 35 28 (js_al 0 1) := jo_aload_n (i := 0) (w := 0) rfl jd_35_28
theorem jk_35_29 : jx_Snd 35 29 (js_getf 2 1) := jo_getf rfl jf_2_21 jd_35_29
theorem jk_35_32 : jx_Snd 35 32 (js_c 0 1) := jo_iconst (z := 0) jd_35_32 rfl
theorem jk_35_33 : jx_Snd 35 33 (js_il 3 1) := jo_iload_n (i := 3) (w := 3) rfl jd_35_33
theorem jk_35_34 : jx_Snd 35 34 (js_v2 4 64) := jo_v2 rfl jok_64 (Or.inl jw_224) jw_225 jw_226 rfl jd_35_34
theorem jk_35_37 : jx_Snd 35 37 (js_c 0 1) := jo_iconst (z := 0) jd_35_37 rfl
theorem jk_35_38 : jx_Snd 35 38 (js_v3 2 50) := jo_v3 rfl jok_50 (Or.inl jw_232) jw_233 jw_688 rfl jd_35_38
theorem jk_35_41 : jx_Snd 35 41 (js_al 0 1) := jo_aload_n (i := 0) (w := 0) rfl jd_35_41
theorem jk_35_42 : jx_Snd 35 42 (js_c 3 1) := jo_iconst (z := 3) jd_35_42 rfl
theorem jk_35_43 : jx_Snd 35 43 (js_al 0 1) := jo_aload_n (i := 0) (w := 0) rfl jd_35_43
theorem jk_35_44 : jx_Snd 35 44 (js_getf 2 1) := jo_getf rfl jf_2_21 jd_35_44
theorem jk_35_47 : jx_Snd 35 47 (js_c 0 1) := jo_iconst (z := 0) jd_35_47 rfl
theorem jk_35_48 : jx_Snd 35 48 (js_il 2 1) := jo_iload_n (i := 2) (w := 2) rfl jd_35_48
theorem jk_35_49 : jx_Snd 35 49 (js_v2 4 64) := jo_v2 rfl jok_64 (Or.inl jw_224) jw_225 jw_226 rfl jd_35_49
theorem jk_35_52 : jx_Snd 35 52 (js_c 0 1) := jo_iconst (z := 0) jd_35_52 rfl
theorem jk_35_53 : jx_Snd 35 53 (js_v3 2 50) := jo_v3 rfl jok_50 (Or.inl jw_232) jw_233 jw_688 rfl jd_35_53
theorem jk_35_56 : jx_Snd 35 56 (js_c 0 1) := jo_iconst (z := 0) jd_35_56 rfl
theorem jk_35_57 : jx_Snd 35 57 (js_is 6 2) := jo_istore (i := 6) (Nat.le_of_ble_eq_true rfl) jd_35_57
theorem jk_35_59 : jx_Snd 35 59 (js_il 6 2) := jo_iload (i := 6) jd_35_59
theorem jk_35_61 : jx_Snd 35 61 (js_c 2000 3) := jo_sipush (z := 2000) jd_35_61 (by decide +kernel)
theorem jk_35_64 : jx_Snd 35 64 (js_cge 135) := jo_cge (o := 71) rfl jd_35_64
theorem jk_35_67 : jx_Snd 35 67 (js_al 0 1) := jo_aload_n (i := 0) (w := 0) rfl jd_35_67
theorem jk_35_68 : jx_Snd 35 68 (js_getf 2 6) := jo_getf rfl jf_2_59 jd_35_68
theorem jk_35_71 : jx_Snd 35 71 (js_c 4 1) := jo_iconst (z := 4) jd_35_71 rfl
theorem jk_35_72 : jx_Snd 35 72 (js_ceq 135) := jo_ceq (o := 63) rfl jd_35_72
theorem jk_35_75 : jx_Snd 35 75 (js_al 0 1) := jo_aload_n (i := 0) (w := 0) rfl jd_35_75
theorem jk_35_76 : jx_Snd 35 76 (js_getf 2 6) := jo_getf rfl jf_2_59 jd_35_76
theorem jk_35_79 : jx_Snd 35 79 (js_sw [(0, 104), (1, 111), (2, 118)] 125) := jo_tableD (dflt := 46) (lo := 0) (hi := 2) (offs := #[25, 32, 39]) rfl rfl (by decide +kernel) jd_35_79
theorem jk_35_104 : jx_Snd 35 104 (js_al 0 1) := jo_aload_n (i := 0) (w := 0) rfl jd_35_104
theorem jk_35_105 : jx_Snd 35 105 (js_v0 2 38) := jo_v0 rfl jok_38 (Or.inl jw_238) jw_239 jw_690 rfl jd_35_105
theorem jk_35_108 : jx_Snd 35 108 (js_go 129) := jo_goto (o := 21) rfl jd_35_108
theorem jk_35_111 : jx_Snd 35 111 (js_al 0 1) := jo_aload_n (i := 0) (w := 0) rfl jd_35_111
theorem jk_35_112 : jx_Snd 35 112 (js_v0 2 39) := jo_v0 rfl jok_39 (Or.inl jw_252) jw_253 jw_693 rfl jd_35_112
theorem jk_35_115 : jx_Snd 35 115 (js_go 129) := jo_goto (o := 14) rfl jd_35_115
theorem jk_35_118 : jx_Snd 35 118 (js_al 0 1) := jo_aload_n (i := 0) (w := 0) rfl jd_35_118
theorem jk_35_119 : jx_Snd 35 119 (js_v0 2 41) := jo_v0 rfl jok_41 (Or.inl jw_264) jw_265 jw_696 rfl jd_35_119
theorem jk_35_122 : jx_Snd 35 122 (js_go 129) := jo_goto (o := 7) rfl jd_35_122
theorem jk_35_125 : jx_Snd 35 125 (js_al 0 1) := jo_aload_n (i := 0) (w := 0) rfl jd_35_125
theorem jk_35_126 : jx_Snd 35 126 (js_v0 2 43) := jo_v0 rfl jok_43 (Or.inl jw_271) jw_272 jw_698 rfl jd_35_126
theorem jk_35_129 : jx_Snd 35 129 (js_inc 6 1) := jo_iinc (w := 1) rfl (Nat.le_of_ble_eq_true rfl) jd_35_129
theorem jk_35_132 : jx_Snd 35 132 (js_go 59) := jo_goto (o := (-73)) rfl jd_35_132
theorem jk_35_135 : jx_Snd 35 135 (js_al 0 1) := jo_aload_n (i := 0) (w := 0) rfl jd_35_135
theorem jk_35_136 : jx_Snd 35 136 (js_getf 2 6) := jo_getf rfl jf_2_59 jd_35_136
theorem jk_35_139 : jx_Snd 35 139 (js_c 4 1) := jo_iconst (z := 4) jd_35_139 rfl
theorem jk_35_140 : jx_Snd 35 140 (js_ceq 148) := jo_ceq (o := 8) rfl jd_35_140
theorem jk_35_143 : jx_Snd 35 143 (js_al 0 1) := jo_aload_n (i := 0) (w := 0) rfl jd_35_143
theorem jk_35_144 : jx_Snd 35 144 (js_c 3 1) := jo_iconst (z := 3) jd_35_144 rfl
theorem jk_35_145 : jx_Snd 35 145 (js_v1 2 53) := jo_v1 rfl jok_53 (Or.inl jw_235) jw_236 jw_689 rfl jd_35_145
theorem jk_35_148 : jx_Snd 35 148 (js_vr) := jo_vr rfl jd_35_148
theorem jk_35 : jx_So 35 jt_35 := fun pc => jo_le (jo_le (jo_le (jo_le (jo_le (jo_le (jo_le (jo_at (jk_35_0)) (jo_at (jk_35_1))) (jo_at (jk_35_2))) (jo_le (jo_at (jk_35_5)) (jo_at (jk_35_6)))) (jo_le (jo_le (jo_at (jk_35_9)) (jo_at (jk_35_11))) (jo_le (jo_at (jk_35_14)) (jo_at (jk_35_15))))) (jo_le (jo_le (jo_le (jo_at (jk_35_16)) (jo_at (jk_35_17))) (jo_le (jo_at (jk_35_19)) (jo_at (jk_35_22)))) (jo_le (jo_le (jo_at (jk_35_23)) (jo_at (jk_35_26))) (jo_le (jo_at (jk_35_27)) (jo_at (jk_35_28)))))) (jo_le (jo_le (jo_le (jo_le (jo_at (jk_35_29)) (jo_at (jk_35_32))) (jo_le (jo_at (jk_35_33)) (jo_at (jk_35_34)))) (jo_le (jo_le (jo_at (jk_35_37)) (jo_at (jk_35_38))) (jo_le (jo_at (jk_35_41)) (jo_at (jk_35_42))))) (jo_le (jo_le (jo_le (jo_at (jk_35_43)) (jo_at (jk_35_44))) (jo_le (jo_at (jk_35_47)) (jo_at (jk_35_48)))) (jo_le (jo_le (jo_at (jk_35_49)) (jo_at (jk_35_52))) (jo_le (jo_at (jk_35_53)) (jo_at (jk_35_56))))))) (jo_le (jo_le (jo_le (jo_le (jo_le (jo_at (jk_35_57)) (jo_at (jk_35_59))) (jo_le (jo_at (jk_35_61)) (jo_at (jk_35_64)))) (jo_le (jo_le (jo_at (jk_35_67)) (jo_at (jk_35_68))) (jo_le (jo_at (jk_35_71)) (jo_at (jk_35_72))))) (jo_le (jo_le (jo_le (jo_at (jk_35_75)) (jo_at (jk_35_76))) (jo_le (jo_at (jk_35_79)) (jo_at (jk_35_104)))) (jo_le (jo_le (jo_at (jk_35_105)) (jo_at (jk_35_108))) (jo_le (jo_at (jk_35_111)) (jo_at (jk_35_112)))))) (jo_le (jo_le (jo_le (jo_le (jo_at (jk_35_115)) (jo_at (jk_35_118))) (jo_le (jo_at (jk_35_119)) (jo_at (jk_35_122)))) (jo_le (jo_le (jo_at (jk_35_125)) (jo_at (jk_35_126))) (jo_le (jo_at (jk_35_129)) (jo_at (jk_35_132))))) (jo_le (jo_le (jo_le (jo_at (jk_35_135)) (jo_at (jk_35_136))) (jo_le (jo_at (jk_35_139)) (jo_at (jk_35_140)))) (jo_le (jo_le (jo_at (jk_35_143)) (jo_at (jk_35_144))) (jo_le (jo_at (jk_35_145)) (jo_at (jk_35_148)))))))
theorem ji_35 {l : Launch} {D : va_G} {cA : ClassId} {ρ : Nat → Nat} {Λ : List jx_Lc} {d : Nat} {Q : Option Value → jx_St → Prop} {σ : jx_St} {z0 : Nat} {a1 : Int32} {a2 : Int32} {a3 : Int32} {a4 : Nat} {a5 : Int32} (h : jt_35 0 Λ jx_tb0 (jx_rn Λ jx_tb0 jt_35 (fun k' as σ K => jx_C l D cA ρ Λ d k' as σ K) Q (jx_J l D cA ρ Λ (jx_A ρ Λ) jx_tb0 (d + 1) 35 Q) [] 400) (fun k' as σ K => jx_C l D cA ρ Λ d k' as σ K) Q 0 [(0, .ref z0), (1, .int a1), (2, .int a2), (3, .int a3), (4, .ref a4), (5, .int a5)] [] σ) : jx_C l D cA ρ Λ (d + 1) 35 [.ref z0, .int a1, .int a2, .int a3, .ref a4, .int a5] σ Q := jx_in jk_35 400 [] rfl (Nat.le_of_ble_eq_true rfl) h
/-! ScriptLedger$Machine.prepare(II)V -/
theorem jd_36_0 : decode prog_4_method_3_code 0 = .ok (.aload_n 0, 1) := by decide +kernel
theorem jd_36_1 : decode prog_4_method_3_code 1 = .ok (.getfield 21, 3) := by decide +kernel
theorem jd_36_4 : decode prog_4_method_3_code 4 = .ok (.invokevirtual 78, 3) := by decide +kernel
theorem jd_36_7 : decode prog_4_method_3_code 7 = .ok (.aload_n 0, 1) := by decide +kernel
theorem jd_36_8 : decode prog_4_method_3_code 8 = .ok (.iconst 0, 1) := by decide +kernel
theorem jd_36_9 : decode prog_4_method_3_code 9 = .ok (.putfield 81, 3) := by decide +kernel
theorem jd_36_12 : decode prog_4_method_3_code 12 = .ok (.aload_n 0, 1) := by decide +kernel
theorem jd_36_13 : decode prog_4_method_3_code 13 = .ok (.iconst 0, 1) := by decide +kernel
theorem jd_36_14 : decode prog_4_method_3_code 14 = .ok (.putfield 84, 3) := by decide +kernel
theorem jd_36_17 : decode prog_4_method_3_code 17 = .ok (.aload_n 0, 1) := by decide +kernel
theorem jd_36_18 : decode prog_4_method_3_code 18 = .ok (.iload_n 2, 1) := by decide +kernel
theorem jd_36_19 : decode prog_4_method_3_code 19 = .ok (.putfield 87, 3) := by decide +kernel
theorem jd_36_22 : decode prog_4_method_3_code 22 = .ok (.aload_n 0, 1) := by decide +kernel
theorem jd_36_23 : decode prog_4_method_3_code 23 = .ok (.iload_n 1, 1) := by decide +kernel
theorem jd_36_24 : decode prog_4_method_3_code 24 = .ok (.iconst 0, 1) := by decide +kernel
theorem jd_36_25 : decode prog_4_method_3_code 25 = .ok (.invokevirtual 90, 3) := by decide +kernel
theorem jd_36_28 : decode prog_4_method_3_code 28 = .ok (.return_, 1) := by decide +kernel
def jt_36 (pc : Nat) : jx_Sp := bif Nat.ble pc 14 then (bif Nat.ble pc 8 then (bif Nat.ble pc 4 then (bif Nat.ble pc 1 then (bif Nat.ble pc 0 then (bif Nat.beq pc 0 then js_al 0 1 else js_none) else (bif Nat.beq pc 1 then js_getf 2 1 else js_none)) else (bif Nat.beq pc 4 then js_v0 4 62 else js_none)) else (bif Nat.ble pc 7 then (bif Nat.beq pc 7 then js_al 0 1 else js_none) else (bif Nat.beq pc 8 then js_c 0 1 else js_none))) else (bif Nat.ble pc 12 then (bif Nat.ble pc 9 then (bif Nat.beq pc 9 then js_putf 2 5 false else js_none) else (bif Nat.beq pc 12 then js_al 0 1 else js_none)) else (bif Nat.ble pc 13 then (bif Nat.beq pc 13 then js_c 0 1 else js_none) else (bif Nat.beq pc 14 then js_putf 2 12 false else js_none)))) else (bif Nat.ble pc 22 then (bif Nat.ble pc 18 then (bif Nat.ble pc 17 then (bif Nat.beq pc 17 then js_al 0 1 else js_none) else (bif Nat.beq pc 18 then js_il 2 1 else js_none)) else (bif Nat.ble pc 19 then (bif Nat.beq pc 19 then js_putf 2 11 false else js_none) else (bif Nat.beq pc 22 then js_al 0 1 else js_none))) else (bif Nat.ble pc 24 then (bif Nat.ble pc 23 then (bif Nat.beq pc 23 then js_il 1 1 else js_none) else (bif Nat.beq pc 24 then js_c 0 1 else js_none)) else (bif Nat.ble pc 25 then (bif Nat.beq pc 25 then js_v2 2 51 else js_none) else (bif Nat.beq pc 28 then js_vr else js_none))))
theorem jk_36_0 : jx_Snd 36 0 (js_al 0 1) := jo_aload_n (i := 0) (w := 0) rfl jd_36_0
theorem jk_36_1 : jx_Snd 36 1 (js_getf 2 1) := jo_getf rfl jf_2_21 jd_36_1
theorem jk_36_4 : jx_Snd 36 4 (js_v0 4 62) := jo_v0 rfl jok_62 (Or.inl jw_210) jw_211 jw_212 rfl jd_36_4
theorem jk_36_7 : jx_Snd 36 7 (js_al 0 1) := jo_aload_n (i := 0) (w := 0) rfl jd_36_7
theorem jk_36_8 : jx_Snd 36 8 (js_c 0 1) := jo_iconst (z := 0) jd_36_8 rfl
theorem jk_36_9 : jx_Snd 36 9 (js_putf 2 5 false) := jo_putf (z := false) rfl jf_2_81 (fun C T N h => by cases h; rfl) jd_36_9
theorem jk_36_12 : jx_Snd 36 12 (js_al 0 1) := jo_aload_n (i := 0) (w := 0) rfl jd_36_12
theorem jk_36_13 : jx_Snd 36 13 (js_c 0 1) := jo_iconst (z := 0) jd_36_13 rfl
theorem jk_36_14 : jx_Snd 36 14 (js_putf 2 12 false) := jo_putf (z := false) rfl jf_2_84 (fun C T N h => by cases h; rfl) jd_36_14
theorem jk_36_17 : jx_Snd 36 17 (js_al 0 1) := jo_aload_n (i := 0) (w := 0) rfl jd_36_17
theorem jk_36_18 : jx_Snd 36 18 (js_il 2 1) := jo_iload_n (i := 2) (w := 2) rfl jd_36_18
theorem jk_36_19 : jx_Snd 36 19 (js_putf 2 11 false) := jo_putf (z := false) rfl jf_2_87 (fun C T N h => by cases h; rfl) jd_36_19
theorem jk_36_22 : jx_Snd 36 22 (js_al 0 1) := jo_aload_n (i := 0) (w := 0) rfl jd_36_22
theorem jk_36_23 : jx_Snd 36 23 (js_il 1 1) := jo_iload_n (i := 1) (w := 1) rfl jd_36_23
theorem jk_36_24 : jx_Snd 36 24 (js_c 0 1) := jo_iconst (z := 0) jd_36_24 rfl
theorem jk_36_25 : jx_Snd 36 25 (js_v2 2 51) := jo_v2 rfl jok_51 (Or.inl jw_218) jw_219 jw_686 rfl jd_36_25
theorem jk_36_28 : jx_Snd 36 28 (js_vr) := jo_vr rfl jd_36_28
theorem jk_36 : jx_So 36 jt_36 := fun pc => jo_le (jo_le (jo_le (jo_le (jo_le (jo_at (jk_36_0)) (jo_at (jk_36_1))) (jo_at (jk_36_4))) (jo_le (jo_at (jk_36_7)) (jo_at (jk_36_8)))) (jo_le (jo_le (jo_at (jk_36_9)) (jo_at (jk_36_12))) (jo_le (jo_at (jk_36_13)) (jo_at (jk_36_14))))) (jo_le (jo_le (jo_le (jo_at (jk_36_17)) (jo_at (jk_36_18))) (jo_le (jo_at (jk_36_19)) (jo_at (jk_36_22)))) (jo_le (jo_le (jo_at (jk_36_23)) (jo_at (jk_36_24))) (jo_le (jo_at (jk_36_25)) (jo_at (jk_36_28)))))
theorem ji_36 {l : Launch} {D : va_G} {cA : ClassId} {ρ : Nat → Nat} {Λ : List jx_Lc} {d : Nat} {Q : Option Value → jx_St → Prop} {σ : jx_St} {z0 : Nat} {a1 : Int32} {a2 : Int32} (h : jt_36 0 Λ jx_tb0 (jx_rn Λ jx_tb0 jt_36 (fun k' as σ K => jx_C l D cA ρ Λ d k' as σ K) Q (jx_J l D cA ρ Λ (jx_A ρ Λ) jx_tb0 (d + 1) 36 Q) [] 400) (fun k' as σ K => jx_C l D cA ρ Λ d k' as σ K) Q 0 [(0, .ref z0), (1, .int a1), (2, .int a2)] [] σ) : jx_C l D cA ρ Λ (d + 1) 36 [.ref z0, .int a1, .int a2] σ Q := jx_in jk_36 400 [] rfl (Nat.le_of_ble_eq_true rfl) h
/-! ScriptLedger$Machine.listOf([I)I -/
theorem jd_37_0 : decode prog_4_method_4_code 0 = .ok (.iconst 0, 1) := by decide +kernel
theorem jd_37_1 : decode prog_4_method_4_code 1 = .ok (.istore_n 2, 1) := by decide +kernel
theorem jd_37_2 : decode prog_4_method_4_code 2 = .ok (.aload_n 1, 1) := by decide +kernel
theorem jd_37_3 : decode prog_4_method_4_code 3 = .ok (.arraylength, 1) := by decide +kernel
theorem jd_37_4 : decode prog_4_method_4_code 4 = .ok (.iconst 1, 1) := by decide +kernel
theorem jd_37_5 : decode prog_4_method_4_code 5 = .ok (.isub, 1) := by decide +kernel
theorem jd_37_6 : decode prog_4_method_4_code 6 = .ok (.istore_n 3, 1) := by decide +kernel
theorem jd_37_7 : decode prog_4_method_4_code 7 = .ok (.iload_n 3, 1) := by decide +kernel
theorem jd_37_8 : decode prog_4_method_4_code 8 = .ok (.ifCond .lt 29, 3) := by decide +kernel
theorem jd_37_11 : decode prog_4_method_4_code 11 = .ok (.aload_n 0, 1) := by decide +kernel
theorem jd_37_12 : decode prog_4_method_4_code 12 = .ok (.getfield 21, 3) := by decide +kernel
theorem jd_37_15 : decode prog_4_method_4_code 15 = .ok (.aload_n 0, 1) := by decide +kernel
theorem jd_37_16 : decode prog_4_method_4_code 16 = .ok (.getfield 21, 3) := by decide +kernel
theorem jd_37_19 : decode prog_4_method_4_code 19 = .ok (.iconst 0, 1) := by decide +kernel
theorem jd_37_20 : decode prog_4_method_4_code 20 = .ok (.aload_n 1, 1) := by decide +kernel
theorem jd_37_21 : decode prog_4_method_4_code 21 = .ok (.iload_n 3, 1) := by decide +kernel
theorem jd_37_22 : decode prog_4_method_4_code 22 = .ok (.iaload, 1) := by decide +kernel
theorem jd_37_23 : decode prog_4_method_4_code 23 = .ok (.invokevirtual 55, 3) := by decide +kernel
theorem jd_37_26 : decode prog_4_method_4_code 26 = .ok (.iload_n 2, 1) := by decide +kernel
theorem jd_37_27 : decode prog_4_method_4_code 27 = .ok (.invokevirtual 93, 3) := by decide +kernel
theorem jd_37_30 : decode prog_4_method_4_code 30 = .ok (.istore_n 2, 1) := by decide +kernel
theorem jd_37_31 : decode prog_4_method_4_code 31 = .ok (.iinc 3 (-1), 3) := by decide +kernel
theorem jd_37_34 : decode prog_4_method_4_code 34 = .ok (.goto (-27), 3) := by decide +kernel
theorem jd_37_37 : decode prog_4_method_4_code 37 = .ok (.iload_n 2, 1) := by decide +kernel
theorem jd_37_38 : decode prog_4_method_4_code 38 = .ok (.ireturn, 1) := by decide +kernel
def jt_37 (pc : Nat) : jx_Sp := bif Nat.ble pc 16 then (bif Nat.ble pc 6 then (bif Nat.ble pc 3 then (bif Nat.ble pc 1 then (bif Nat.ble pc 0 then (bif Nat.beq pc 0 then js_c 0 1 else js_none) else (bif Nat.beq pc 1 then js_is 2 1 else js_none)) else (bif Nat.ble pc 2 then (bif Nat.beq pc 2 then js_al 1 1 else js_none) else (bif Nat.beq pc 3 then js_len else js_none))) else (bif Nat.ble pc 5 then (bif Nat.ble pc 4 then (bif Nat.beq pc 4 then js_c 1 1 else js_none) else (bif Nat.beq pc 5 then js_isub else js_none)) else (bif Nat.beq pc 6 then js_is 3 1 else js_none))) else (bif Nat.ble pc 11 then (bif Nat.ble pc 8 then (bif Nat.ble pc 7 then (bif Nat.beq pc 7 then js_il 3 1 else js_none) else (bif Nat.beq pc 8 then js_iflt 37 else js_none)) else (bif Nat.beq pc 11 then js_al 0 1 else js_none)) else (bif Nat.ble pc 15 then (bif Nat.ble pc 12 then (bif Nat.beq pc 12 then js_getf 2 1 else js_none) else (bif Nat.beq pc 15 then js_al 0 1 else js_none)) else (bif Nat.beq pc 16 then js_getf 2 1 else js_none)))) else (bif Nat.ble pc 26 then (bif Nat.ble pc 21 then (bif Nat.ble pc 20 then (bif Nat.ble pc 19 then (bif Nat.beq pc 19 then js_c 0 1 else js_none) else (bif Nat.beq pc 20 then js_al 1 1 else js_none)) else (bif Nat.beq pc 21 then js_il 3 1 else js_none)) else (bif Nat.ble pc 23 then (bif Nat.ble pc 22 then (bif Nat.beq pc 22 then js_ald else js_none) else (bif Nat.beq pc 23 then js_v2 4 64 else js_none)) else (bif Nat.beq pc 26 then js_il 2 1 else js_none))) else (bif Nat.ble pc 31 then (bif Nat.ble pc 30 then (bif Nat.ble pc 27 then (bif Nat.beq pc 27 then js_v2 4 65 else js_none) else (bif Nat.beq pc 30 then js_is 2 1 else js_none)) else (bif Nat.beq pc 31 then js_inc 3 (-1) else js_none)) else (bif Nat.ble pc 37 then (bif Nat.ble pc 34 then (bif Nat.beq pc 34 then js_go 7 else js_none) else (bif Nat.beq pc 37 then js_il 2 1 else js_none)) else (bif Nat.beq pc 38 then js_ir else js_none))))
theorem jk_37_0 : jx_Snd 37 0 (js_c 0 1) := jo_iconst (z := 0) jd_37_0 rfl
theorem jk_37_1 : jx_Snd 37 1 (js_is 2 1) := jo_istore_n (i := 2) (w := 2) rfl (Nat.le_of_ble_eq_true rfl) jd_37_1
theorem jk_37_2 : jx_Snd 37 2 (js_al 1 1) := jo_aload_n (i := 1) (w := 1) rfl jd_37_2
theorem jk_37_3 : jx_Snd 37 3 (js_len) := jo_len jd_37_3
theorem jk_37_4 : jx_Snd 37 4 (js_c 1 1) := jo_iconst (z := 1) jd_37_4 rfl
theorem jk_37_5 : jx_Snd 37 5 (js_isub) := jo_isub jd_37_5
theorem jk_37_6 : jx_Snd 37 6 (js_is 3 1) := jo_istore_n (i := 3) (w := 3) rfl (Nat.le_of_ble_eq_true rfl) jd_37_6
theorem jk_37_7 : jx_Snd 37 7 (js_il 3 1) := jo_iload_n (i := 3) (w := 3) rfl jd_37_7
theorem jk_37_8 : jx_Snd 37 8 (js_iflt 37) := jo_iflt (o := 29) rfl jd_37_8
theorem jk_37_11 : jx_Snd 37 11 (js_al 0 1) := jo_aload_n (i := 0) (w := 0) rfl jd_37_11
theorem jk_37_12 : jx_Snd 37 12 (js_getf 2 1) := jo_getf rfl jf_2_21 jd_37_12
theorem jk_37_15 : jx_Snd 37 15 (js_al 0 1) := jo_aload_n (i := 0) (w := 0) rfl jd_37_15
theorem jk_37_16 : jx_Snd 37 16 (js_getf 2 1) := jo_getf rfl jf_2_21 jd_37_16
theorem jk_37_19 : jx_Snd 37 19 (js_c 0 1) := jo_iconst (z := 0) jd_37_19 rfl
theorem jk_37_20 : jx_Snd 37 20 (js_al 1 1) := jo_aload_n (i := 1) (w := 1) rfl jd_37_20
theorem jk_37_21 : jx_Snd 37 21 (js_il 3 1) := jo_iload_n (i := 3) (w := 3) rfl jd_37_21
theorem jk_37_22 : jx_Snd 37 22 (js_ald) := jo_ald jd_37_22
theorem jk_37_23 : jx_Snd 37 23 (js_v2 4 64) := jo_v2 rfl jok_64 (Or.inl jw_224) jw_225 jw_226 rfl jd_37_23
theorem jk_37_26 : jx_Snd 37 26 (js_il 2 1) := jo_iload_n (i := 2) (w := 2) rfl jd_37_26
theorem jk_37_27 : jx_Snd 37 27 (js_v2 4 65) := jo_v2 rfl jok_65 (Or.inl jw_228) jw_229 jw_230 rfl jd_37_27
theorem jk_37_30 : jx_Snd 37 30 (js_is 2 1) := jo_istore_n (i := 2) (w := 2) rfl (Nat.le_of_ble_eq_true rfl) jd_37_30
theorem jk_37_31 : jx_Snd 37 31 (js_inc 3 (-1)) := jo_iinc (w := (-1)) rfl (Nat.le_of_ble_eq_true rfl) jd_37_31
theorem jk_37_34 : jx_Snd 37 34 (js_go 7) := jo_goto (o := (-27)) rfl jd_37_34
theorem jk_37_37 : jx_Snd 37 37 (js_il 2 1) := jo_iload_n (i := 2) (w := 2) rfl jd_37_37
theorem jk_37_38 : jx_Snd 37 38 (js_ir) := jo_ir rfl jd_37_38
theorem jk_37 : jx_So 37 jt_37 := fun pc => jo_le (jo_le (jo_le (jo_le (jo_le (jo_at (jk_37_0)) (jo_at (jk_37_1))) (jo_le (jo_at (jk_37_2)) (jo_at (jk_37_3)))) (jo_le (jo_le (jo_at (jk_37_4)) (jo_at (jk_37_5))) (jo_at (jk_37_6)))) (jo_le (jo_le (jo_le (jo_at (jk_37_7)) (jo_at (jk_37_8))) (jo_at (jk_37_11))) (jo_le (jo_le (jo_at (jk_37_12)) (jo_at (jk_37_15))) (jo_at (jk_37_16))))) (jo_le (jo_le (jo_le (jo_le (jo_at (jk_37_19)) (jo_at (jk_37_20))) (jo_at (jk_37_21))) (jo_le (jo_le (jo_at (jk_37_22)) (jo_at (jk_37_23))) (jo_at (jk_37_26)))) (jo_le (jo_le (jo_le (jo_at (jk_37_27)) (jo_at (jk_37_30))) (jo_at (jk_37_31))) (jo_le (jo_le (jo_at (jk_37_34)) (jo_at (jk_37_37))) (jo_at (jk_37_38)))))
theorem ji_37 {l : Launch} {D : va_G} {cA : ClassId} {ρ : Nat → Nat} {Λ : List jx_Lc} {d : Nat} {Q : Option Value → jx_St → Prop} {σ : jx_St} {z0 : Nat} {a1 : Nat} (h : jt_37 0 Λ jx_tb0 (jx_rn Λ jx_tb0 jt_37 (fun k' as σ K => jx_C l D cA ρ Λ d k' as σ K) Q (jx_J l D cA ρ Λ (jx_A ρ Λ) jx_tb0 (d + 1) 37 Q) [] 400) (fun k' as σ K => jx_C l D cA ρ Λ d k' as σ K) Q 0 [(0, .ref z0), (1, .ref a1)] [] σ) : jx_C l D cA ρ Λ (d + 1) 37 [.ref z0, .ref a1] σ Q := jx_in jk_37 400 [] rfl (Nat.le_of_ble_eq_true rfl) h
/-! ScriptLedger$Machine.beginTerm()V -/
theorem jd_38_0 : decode prog_4_method_5_code 0 = .ok (.aload_n 0, 1) := by decide +kernel
theorem jd_38_1 : decode prog_4_method_5_code 1 = .ok (.iconst 1, 1) := by decide +kernel
theorem jd_38_2 : decode prog_4_method_5_code 2 = .ok (.invokevirtual 96, 3) := by decide +kernel
theorem jd_38_5 : decode prog_4_method_5_code 5 = .ok (.ifCond .ne 4, 3) := by decide +kernel
theorem jd_38_8 : decode prog_4_method_5_code 8 = .ok (.return_, 1) := by decide +kernel
theorem jd_38_9 : decode prog_4_method_5_code 9 = .ok (.aload_n 0, 1) := by decide +kernel
theorem jd_38_10 : decode prog_4_method_5_code 10 = .ok (.getfield 100, 3) := by decide +kernel
theorem jd_38_13 : decode prog_4_method_5_code 13 = .ok (.iconst 1, 1) := by decide +kernel
theorem jd_38_14 : decode prog_4_method_5_code 14 = .ok (.iadd, 1) := by decide +kernel
theorem jd_38_15 : decode prog_4_method_5_code 15 = .ok (.istore_n 1, 1) := by decide +kernel
theorem jd_38_16 : decode prog_4_method_5_code 16 = .ok (.aload_n 0, 1) := by decide +kernel
theorem jd_38_17 : decode prog_4_method_5_code 17 = .ok (.getfield 12, 3) := by decide +kernel
theorem jd_38_20 : decode prog_4_method_5_code 20 = .ok (.getfield 103, 3) := by decide +kernel
theorem jd_38_23 : decode prog_4_method_5_code 23 = .ok (.aload_n 0, 1) := by decide +kernel
theorem jd_38_24 : decode prog_4_method_5_code 24 = .ok (.getfield 100, 3) := by decide +kernel
theorem jd_38_27 : decode prog_4_method_5_code 27 = .ok (.iaload, 1) := by decide +kernel
theorem jd_38_28 : decode prog_4_method_5_code 28 = .ok (.tableswitch 233 0 8 #[52, 79, 100, 133, 161, 185, 206, 233, 225], 52) := by decide +kernel
theorem jd_38_80 : decode prog_4_method_5_code 80 = .ok (.aload_n 0, 1) := by decide +kernel
theorem jd_38_81 : decode prog_4_method_5_code 81 = .ok (.aload_n 0, 1) := by decide +kernel
theorem jd_38_82 : decode prog_4_method_5_code 82 = .ok (.getfield 21, 3) := by decide +kernel
theorem jd_38_85 : decode prog_4_method_5_code 85 = .ok (.aload_n 0, 1) := by decide +kernel
theorem jd_38_86 : decode prog_4_method_5_code 86 = .ok (.getfield 106, 3) := by decide +kernel
theorem jd_38_89 : decode prog_4_method_5_code 89 = .ok (.aload_n 0, 1) := by decide +kernel
theorem jd_38_90 : decode prog_4_method_5_code 90 = .ok (.getfield 12, 3) := by decide +kernel
theorem jd_38_93 : decode prog_4_method_5_code 93 = .ok (.getfield 103, 3) := by decide +kernel
theorem jd_38_96 : decode prog_4_method_5_code 96 = .ok (.iload_n 1, 1) := by decide +kernel
theorem jd_38_97 : decode prog_4_method_5_code 97 = .ok (.iaload, 1) := by decide +kernel
theorem jd_38_98 : decode prog_4_method_5_code 98 = .ok (.invokevirtual 109, 3) := by decide +kernel
theorem jd_38_101 : decode prog_4_method_5_code 101 = .ok (.invokevirtual 112, 3) := by decide +kernel
theorem jd_38_104 : decode prog_4_method_5_code 104 = .ok (.goto 162, 3) := by decide +kernel
theorem jd_38_107 : decode prog_4_method_5_code 107 = .ok (.aload_n 0, 1) := by decide +kernel
theorem jd_38_108 : decode prog_4_method_5_code 108 = .ok (.aload_n 0, 1) := by decide +kernel
theorem jd_38_109 : decode prog_4_method_5_code 109 = .ok (.getfield 21, 3) := by decide +kernel
theorem jd_38_112 : decode prog_4_method_5_code 112 = .ok (.iconst 3, 1) := by decide +kernel
theorem jd_38_113 : decode prog_4_method_5_code 113 = .ok (.iload_n 1, 1) := by decide +kernel
theorem jd_38_114 : decode prog_4_method_5_code 114 = .ok (.aload_n 0, 1) := by decide +kernel
theorem jd_38_115 : decode prog_4_method_5_code 115 = .ok (.getfield 106, 3) := by decide +kernel
theorem jd_38_118 : decode prog_4_method_5_code 118 = .ok (.iconst 0, 1) := by decide +kernel
theorem jd_38_119 : decode prog_4_method_5_code 119 = .ok (.invokevirtual 115, 3) := by decide +kernel
theorem jd_38_122 : decode prog_4_method_5_code 122 = .ok (.invokevirtual 112, 3) := by decide +kernel
theorem jd_38_125 : decode prog_4_method_5_code 125 = .ok (.goto 141, 3) := by decide +kernel
theorem jd_38_128 : decode prog_4_method_5_code 128 = .ok (.aload_n 0, 1) := by decide +kernel
theorem jd_38_129 : decode prog_4_method_5_code 129 = .ok (.iconst 0, 1) := by decide +kernel
theorem jd_38_130 : decode prog_4_method_5_code 130 = .ok (.aload_n 0, 1) := by decide +kernel
theorem jd_38_131 : decode prog_4_method_5_code 131 = .ok (.getfield 12, 3) := by decide +kernel
theorem jd_38_134 : decode prog_4_method_5_code 134 = .ok (.getfield 119, 3) := by decide +kernel
theorem jd_38_137 : decode prog_4_method_5_code 137 = .ok (.aload_n 0, 1) := by decide +kernel
theorem jd_38_138 : decode prog_4_method_5_code 138 = .ok (.getfield 100, 3) := by decide +kernel
theorem jd_38_141 : decode prog_4_method_5_code 141 = .ok (.iaload, 1) := by decide +kernel
theorem jd_38_142 : decode prog_4_method_5_code 142 = .ok (.aload_n 0, 1) := by decide +kernel
theorem jd_38_143 : decode prog_4_method_5_code 143 = .ok (.getfield 106, 3) := by decide +kernel
theorem jd_38_146 : decode prog_4_method_5_code 146 = .ok (.invokevirtual 51, 3) := by decide +kernel
theorem jd_38_149 : decode prog_4_method_5_code 149 = .ok (.aload_n 0, 1) := by decide +kernel
theorem jd_38_150 : decode prog_4_method_5_code 150 = .ok (.iload_n 1, 1) := by decide +kernel
theorem jd_38_151 : decode prog_4_method_5_code 151 = .ok (.aload_n 0, 1) := by decide +kernel
theorem jd_38_152 : decode prog_4_method_5_code 152 = .ok (.getfield 106, 3) := by decide +kernel
theorem jd_38_155 : decode prog_4_method_5_code 155 = .ok (.invokevirtual 90, 3) := by decide +kernel
theorem jd_38_158 : decode prog_4_method_5_code 158 = .ok (.goto 108, 3) := by decide +kernel
theorem jd_38_161 : decode prog_4_method_5_code 161 = .ok (.aload_n 0, 1) := by decide +kernel
theorem jd_38_162 : decode prog_4_method_5_code 162 = .ok (.aload_n 0, 1) := by decide +kernel
theorem jd_38_163 : decode prog_4_method_5_code 163 = .ok (.getfield 21, 3) := by decide +kernel
theorem jd_38_166 : decode prog_4_method_5_code 166 = .ok (.iconst 0, 1) := by decide +kernel
theorem jd_38_167 : decode prog_4_method_5_code 167 = .ok (.aload_n 0, 1) := by decide +kernel
theorem jd_38_168 : decode prog_4_method_5_code 168 = .ok (.getfield 12, 3) := by decide +kernel
theorem jd_38_171 : decode prog_4_method_5_code 171 = .ok (.getfield 103, 3) := by decide +kernel
theorem jd_38_174 : decode prog_4_method_5_code 174 = .ok (.iload_n 1, 1) := by decide +kernel
theorem jd_38_175 : decode prog_4_method_5_code 175 = .ok (.iaload, 1) := by decide +kernel
theorem jd_38_176 : decode prog_4_method_5_code 176 = .ok (.sipush 128, 3) := by decide +kernel
theorem jd_38_179 : decode prog_4_method_5_code 179 = .ok (.isub, 1) := by decide +kernel
theorem jd_38_180 : decode prog_4_method_5_code 180 = .ok (.invokevirtual 55, 3) := by decide +kernel
theorem jd_38_183 : decode prog_4_method_5_code 183 = .ok (.invokevirtual 112, 3) := by decide +kernel
theorem jd_38_186 : decode prog_4_method_5_code 186 = .ok (.goto 80, 3) := by decide +kernel
theorem jd_38_189 : decode prog_4_method_5_code 189 = .ok (.aload_n 0, 1) := by decide +kernel
theorem jd_38_190 : decode prog_4_method_5_code 190 = .ok (.aload_n 0, 1) := by decide +kernel
theorem jd_38_191 : decode prog_4_method_5_code 191 = .ok (.getfield 21, 3) := by decide +kernel
theorem jd_38_194 : decode prog_4_method_5_code 194 = .ok (.iconst 5, 1) := by decide +kernel
theorem jd_38_195 : decode prog_4_method_5_code 195 = .ok (.aload_n 0, 1) := by decide +kernel
theorem jd_38_196 : decode prog_4_method_5_code 196 = .ok (.getfield 12, 3) := by decide +kernel
theorem jd_38_199 : decode prog_4_method_5_code 199 = .ok (.getfield 103, 3) := by decide +kernel
theorem jd_38_202 : decode prog_4_method_5_code 202 = .ok (.iload_n 1, 1) := by decide +kernel
theorem jd_38_203 : decode prog_4_method_5_code 203 = .ok (.iaload, 1) := by decide +kernel
theorem jd_38_204 : decode prog_4_method_5_code 204 = .ok (.invokevirtual 55, 3) := by decide +kernel
theorem jd_38_207 : decode prog_4_method_5_code 207 = .ok (.invokevirtual 112, 3) := by decide +kernel
theorem jd_38_210 : decode prog_4_method_5_code 210 = .ok (.goto 56, 3) := by decide +kernel
theorem jd_38_213 : decode prog_4_method_5_code 213 = .ok (.aload_n 0, 1) := by decide +kernel
theorem jd_38_214 : decode prog_4_method_5_code 214 = .ok (.aload_n 0, 1) := by decide +kernel
theorem jd_38_215 : decode prog_4_method_5_code 215 = .ok (.getfield 21, 3) := by decide +kernel
theorem jd_38_218 : decode prog_4_method_5_code 218 = .ok (.iconst 4, 1) := by decide +kernel
theorem jd_38_219 : decode prog_4_method_5_code 219 = .ok (.iload_n 1, 1) := by decide +kernel
theorem jd_38_220 : decode prog_4_method_5_code 220 = .ok (.aload_n 0, 1) := by decide +kernel
theorem jd_38_221 : decode prog_4_method_5_code 221 = .ok (.getfield 106, 3) := by decide +kernel
theorem jd_38_224 : decode prog_4_method_5_code 224 = .ok (.iconst 0, 1) := by decide +kernel
theorem jd_38_225 : decode prog_4_method_5_code 225 = .ok (.invokevirtual 115, 3) := by decide +kernel
theorem jd_38_228 : decode prog_4_method_5_code 228 = .ok (.invokevirtual 112, 3) := by decide +kernel
theorem jd_38_231 : decode prog_4_method_5_code 231 = .ok (.goto 35, 3) := by decide +kernel
theorem jd_38_234 : decode prog_4_method_5_code 234 = .ok (.aload_n 0, 1) := by decide +kernel
theorem jd_38_235 : decode prog_4_method_5_code 235 = .ok (.iconst 2, 1) := by decide +kernel
theorem jd_38_236 : decode prog_4_method_5_code 236 = .ok (.iconst 0, 1) := by decide +kernel
theorem jd_38_237 : decode prog_4_method_5_code 237 = .ok (.iconst 0, 1) := by decide +kernel
theorem jd_38_238 : decode prog_4_method_5_code 238 = .ok (.invokevirtual 51, 3) := by decide +kernel
theorem jd_38_241 : decode prog_4_method_5_code 241 = .ok (.aload_n 0, 1) := by decide +kernel
theorem jd_38_242 : decode prog_4_method_5_code 242 = .ok (.iload_n 1, 1) := by decide +kernel
theorem jd_38_243 : decode prog_4_method_5_code 243 = .ok (.aload_n 0, 1) := by decide +kernel
theorem jd_38_244 : decode prog_4_method_5_code 244 = .ok (.getfield 106, 3) := by decide +kernel
theorem jd_38_247 : decode prog_4_method_5_code 247 = .ok (.invokevirtual 90, 3) := by decide +kernel
theorem jd_38_250 : decode prog_4_method_5_code 250 = .ok (.goto 16, 3) := by decide +kernel
theorem jd_38_253 : decode prog_4_method_5_code 253 = .ok (.aload_n 0, 1) := by decide +kernel
theorem jd_38_254 : decode prog_4_method_5_code 254 = .ok (.iconst 0, 1) := by decide +kernel
theorem jd_38_255 : decode prog_4_method_5_code 255 = .ok (.invokevirtual 112, 3) := by decide +kernel
theorem jd_38_258 : decode prog_4_method_5_code 258 = .ok (.goto 8, 3) := by decide +kernel
theorem jd_38_261 : decode prog_4_method_5_code 261 = .ok (.aload_n 0, 1) := by decide +kernel
theorem jd_38_262 : decode prog_4_method_5_code 262 = .ok (.iconst 2, 1) := by decide +kernel
theorem jd_38_263 : decode prog_4_method_5_code 263 = .ok (.invokevirtual 74, 3) := by decide +kernel
theorem jd_38_266 : decode prog_4_method_5_code 266 = .ok (.return_, 1) := by decide +kernel
def jt_38 (pc : Nat) : jx_Sp := bif Nat.ble pc 155 then (bif Nat.ble pc 101 then (bif Nat.ble pc 24 then (bif Nat.ble pc 13 then (bif Nat.ble pc 5 then (bif Nat.ble pc 1 then (bif Nat.ble pc 0 then (bif Nat.beq pc 0 then js_al 0 1 else js_none) else (bif Nat.beq pc 1 then js_c 1 1 else js_none)) else (bif Nat.ble pc 2 then (bif Nat.beq pc 2 then js_v1 2 49 else js_none) else (bif Nat.beq pc 5 then js_ifne 9 else js_none))) else (bif Nat.ble pc 9 then (bif Nat.ble pc 8 then (bif Nat.beq pc 8 then js_vr else js_none) else (bif Nat.beq pc 9 then js_al 0 1 else js_none)) else (bif Nat.ble pc 10 then (bif Nat.beq pc 10 then js_getf 2 7 else js_none) else (bif Nat.beq pc 13 then js_c 1 1 else js_none)))) else (bif Nat.ble pc 17 then (bif Nat.ble pc 15 then (bif Nat.ble pc 14 then (bif Nat.beq pc 14 then js_iadd else js_none) else (bif Nat.beq pc 15 then js_is 1 1 else js_none)) else (bif Nat.ble pc 16 then (bif Nat.beq pc 16 then js_al 0 1 else js_none) else (bif Nat.beq pc 17 then js_getf 2 0 else js_none))) else (bif Nat.ble pc 23 then (bif Nat.ble pc 20 then (bif Nat.beq pc 20 then js_getf 3 0 else js_none) else (bif Nat.beq pc 23 then js_al 0 1 else js_none)) else (bif Nat.beq pc 24 then js_getf 2 7 else js_none)))) else (bif Nat.ble pc 86 then (bif Nat.ble pc 81 then (bif Nat.ble pc 28 then (bif Nat.ble pc 27 then (bif Nat.beq pc 27 then js_ald else js_none) else (bif Nat.beq pc 28 then js_sw [(0, 80), (1, 107), (2, 128), (3, 161), (4, 189), (5, 213), (6, 234), (7, 261), (8, 253)] 261 else js_none)) else (bif Nat.ble pc 80 then (bif Nat.beq pc 80 then js_al 0 1 else js_none) else (bif Nat.beq pc 81 then js_al 0 1 else js_none))) else (bif Nat.ble pc 85 then (bif Nat.ble pc 82 then (bif Nat.beq pc 82 then js_getf 2 1 else js_none) else (bif Nat.beq pc 85 then js_al 0 1 else js_none)) else (bif Nat.beq pc 86 then js_getf 2 8 else js_none))) else (bif Nat.ble pc 96 then (bif Nat.ble pc 90 then (bif Nat.ble pc 89 then (bif Nat.beq pc 89 then js_al 0 1 else js_none) else (bif Nat.beq pc 90 then js_getf 2 0 else js_none)) else (bif Nat.ble pc 93 then (bif Nat.beq pc 93 then js_getf 3 0 else js_none) else (bif Nat.beq pc 96 then js_il 1 1 else js_none))) else (bif Nat.ble pc 98 then (bif Nat.ble pc 97 then (bif Nat.beq pc 97 then js_ald else js_none) else (bif Nat.beq pc 98 then js_v2 4 66 else js_none)) else (bif Nat.beq pc 101 then js_v1 2 52 else js_none))))) else (bif Nat.ble pc 129 then (bif Nat.ble pc 114 then (bif Nat.ble pc 109 then (bif Nat.ble pc 107 then (bif Nat.ble pc 104 then (bif Nat.beq pc 104 then js_go 266 else js_none) else (bif Nat.beq pc 107 then js_al 0 1 else js_none)) else (bif Nat.ble pc 108 then (bif Nat.beq pc 108 then js_al 0 1 else js_none) else (bif Nat.beq pc 109 then js_getf 2 1 else js_none))) else (bif Nat.ble pc 113 then (bif Nat.ble pc 112 then (bif Nat.beq pc 112 then js_c 3 1 else js_none) else (bif Nat.beq pc 113 then js_il 1 1 else js_none)) else (bif Nat.beq pc 114 then js_al 0 1 else js_none))) else (bif Nat.ble pc 122 then (bif Nat.ble pc 118 then (bif Nat.ble pc 115 then (bif Nat.beq pc 115 then js_getf 2 8 else js_none) else (bif Nat.beq pc 118 then js_c 0 1 else js_none)) else (bif Nat.ble pc 119 then (bif Nat.beq pc 119 then js_v4 4 63 else js_none) else (bif Nat.beq pc 122 then js_v1 2 52 else js_none))) else (bif Nat.ble pc 128 then (bif Nat.ble pc 125 then (bif Nat.beq pc 125 then js_go 266 else js_none) else (bif Nat.beq pc 128 then js_al 0 1 else js_none)) else (bif Nat.beq pc 129 then js_c 0 1 else js_none)))) else (bif Nat.ble pc 142 then (bif Nat.ble pc 137 then (bif Nat.ble pc 131 then (bif Nat.ble pc 130 then (bif Nat.beq pc 130 then js_al 0 1 else js_none) else (bif Nat.beq pc 131 then js_getf 2 0 else js_none)) else (bif Nat.ble pc 134 then (bif Nat.beq pc 134 then js_getf 3 1 else js_none) else (bif Nat.beq pc 137 then js_al 0 1 else js_none))) else (bif Nat.ble pc 141 then (bif Nat.ble pc 138 then (bif Nat.beq pc 138 then js_getf 2 7 else js_none) else (bif Nat.beq pc 141 then js_ald else js_none)) else (bif Nat.beq pc 142 then js_al 0 1 else js_none))) else (bif Nat.ble pc 150 then (bif Nat.ble pc 146 then (bif Nat.ble pc 143 then (bif Nat.beq pc 143 then js_getf 2 8 else js_none) else (bif Nat.beq pc 146 then js_v3 2 50 else js_none)) else (bif Nat.ble pc 149 then (bif Nat.beq pc 149 then js_al 0 1 else js_none) else (bif Nat.beq pc 150 then js_il 1 1 else js_none))) else (bif Nat.ble pc 152 then (bif Nat.ble pc 151 then (bif Nat.beq pc 151 then js_al 0 1 else js_none) else (bif Nat.beq pc 152 then js_getf 2 8 else js_none)) else (bif Nat.beq pc 155 then js_v2 2 51 else js_none)))))) else (bif Nat.ble pc 214 then (bif Nat.ble pc 186 then (bif Nat.ble pc 171 then (bif Nat.ble pc 163 then (bif Nat.ble pc 161 then (bif Nat.ble pc 158 then (bif Nat.beq pc 158 then js_go 266 else js_none) else (bif Nat.beq pc 161 then js_al 0 1 else js_none)) else (bif Nat.ble pc 162 then (bif Nat.beq pc 162 then js_al 0 1 else js_none) else (bif Nat.beq pc 163 then js_getf 2 1 else js_none))) else (bif Nat.ble pc 167 then (bif Nat.ble pc 166 then (bif Nat.beq pc 166 then js_c 0 1 else js_none) else (bif Nat.beq pc 167 then js_al 0 1 else js_none)) else (bif Nat.ble pc 168 then (bif Nat.beq pc 168 then js_getf 2 0 else js_none) else (bif Nat.beq pc 171 then js_getf 3 0 else js_none)))) else (bif Nat.ble pc 179 then (bif Nat.ble pc 175 then (bif Nat.ble pc 174 then (bif Nat.beq pc 174 then js_il 1 1 else js_none) else (bif Nat.beq pc 175 then js_ald else js_none)) else (bif Nat.ble pc 176 then (bif Nat.beq pc 176 then js_c 128 3 else js_none) else (bif Nat.beq pc 179 then js_isub else js_none))) else (bif Nat.ble pc 183 then (bif Nat.ble pc 180 then (bif Nat.beq pc 180 then js_v2 4 64 else js_none) else (bif Nat.beq pc 183 then js_v1 2 52 else js_none)) else (bif Nat.beq pc 186 then js_go 266 else js_none)))) else (bif Nat.ble pc 199 then (bif Nat.ble pc 194 then (bif Nat.ble pc 190 then (bif Nat.ble pc 189 then (bif Nat.beq pc 189 then js_al 0 1 else js_none) else (bif Nat.beq pc 190 then js_al 0 1 else js_none)) else (bif Nat.ble pc 191 then (bif Nat.beq pc 191 then js_getf 2 1 else js_none) else (bif Nat.beq pc 194 then js_c 5 1 else js_none))) else (bif Nat.ble pc 196 then (bif Nat.ble pc 195 then (bif Nat.beq pc 195 then js_al 0 1 else js_none) else (bif Nat.beq pc 196 then js_getf 2 0 else js_none)) else (bif Nat.beq pc 199 then js_getf 3 0 else js_none))) else (bif Nat.ble pc 207 then (bif Nat.ble pc 203 then (bif Nat.ble pc 202 then (bif Nat.beq pc 202 then js_il 1 1 else js_none) else (bif Nat.beq pc 203 then js_ald else js_none)) else (bif Nat.ble pc 204 then (bif Nat.beq pc 204 then js_v2 4 64 else js_none) else (bif Nat.beq pc 207 then js_v1 2 52 else js_none))) else (bif Nat.ble pc 213 then (bif Nat.ble pc 210 then (bif Nat.beq pc 210 then js_go 266 else js_none) else (bif Nat.beq pc 213 then js_al 0 1 else js_none)) else (bif Nat.beq pc 214 then js_al 0 1 else js_none))))) else (bif Nat.ble pc 238 then (bif Nat.ble pc 225 then (bif Nat.ble pc 220 then (bif Nat.ble pc 218 then (bif Nat.ble pc 215 then (bif Nat.beq pc 215 then js_getf 2 1 else js_none) else (bif Nat.beq pc 218 then js_c 4 1 else js_none)) else (bif Nat.ble pc 219 then (bif Nat.beq pc 219 then js_il 1 1 else js_none) else (bif Nat.beq pc 220 then js_al 0 1 else js_none))) else (bif Nat.ble pc 224 then (bif Nat.ble pc 221 then (bif Nat.beq pc 221 then js_getf 2 8 else js_none) else (bif Nat.beq pc 224 then js_c 0 1 else js_none)) else (bif Nat.beq pc 225 then js_v4 4 63 else js_none))) else (bif Nat.ble pc 235 then (bif Nat.ble pc 231 then (bif Nat.ble pc 228 then (bif Nat.beq pc 228 then js_v1 2 52 else js_none) else (bif Nat.beq pc 231 then js_go 266 else js_none)) else (bif Nat.ble pc 234 then (bif Nat.beq pc 234 then js_al 0 1 else js_none) else (bif Nat.beq pc 235 then js_c 2 1 else js_none))) else (bif Nat.ble pc 237 then (bif Nat.ble pc 236 then (bif Nat.beq pc 236 then js_c 0 1 else js_none) else (bif Nat.beq pc 237 then js_c 0 1 else js_none)) else (bif Nat.beq pc 238 then js_v3 2 50 else js_none)))) else (bif Nat.ble pc 253 then (bif Nat.ble pc 244 then (bif Nat.ble pc 242 then (bif Nat.ble pc 241 then (bif Nat.beq pc 241 then js_al 0 1 else js_none) else (bif Nat.beq pc 242 then js_il 1 1 else js_none)) else (bif Nat.ble pc 243 then (bif Nat.beq pc 243 then js_al 0 1 else js_none) else (bif Nat.beq pc 244 then js_getf 2 8 else js_none))) else (bif Nat.ble pc 250 then (bif Nat.ble pc 247 then (bif Nat.beq pc 247 then js_v2 2 51 else js_none) else (bif Nat.beq pc 250 then js_go 266 else js_none)) else (bif Nat.beq pc 253 then js_al 0 1 else js_none))) else (bif Nat.ble pc 261 then (bif Nat.ble pc 255 then (bif Nat.ble pc 254 then (bif Nat.beq pc 254 then js_c 0 1 else js_none) else (bif Nat.beq pc 255 then js_v1 2 52 else js_none)) else (bif Nat.ble pc 258 then (bif Nat.beq pc 258 then js_go 266 else js_none) else (bif Nat.beq pc 261 then js_al 0 1 else js_none))) else (bif Nat.ble pc 263 then (bif Nat.ble pc 262 then (bif Nat.beq pc 262 then js_c 2 1 else js_none) else (bif Nat.beq pc 263 then js_v1 2 53 else js_none)) else (bif Nat.beq pc 266 then js_vr else js_none))))))
theorem jk_38_0 : jx_Snd 38 0 (js_al 0 1) := jo_aload_n (i := 0) (w := 0) rfl jd_38_0
theorem jk_38_1 : jx_Snd 38 1 (js_c 1 1) := jo_iconst (z := 1) jd_38_1 rfl
theorem jk_38_2 : jx_Snd 38 2 (js_v1 2 49) := jo_v1 rfl jok_49 (Or.inl jw_241) jw_242 jw_691 rfl jd_38_2
theorem jk_38_5 : jx_Snd 38 5 (js_ifne 9) := jo_ifne (o := 4) rfl jd_38_5
theorem jk_38_8 : jx_Snd 38 8 (js_vr) := jo_vr rfl jd_38_8
theorem jk_38_9 : jx_Snd 38 9 (js_al 0 1) := jo_aload_n (i := 0) (w := 0) rfl jd_38_9
theorem jk_38_10 : jx_Snd 38 10 (js_getf 2 7) := jo_getf rfl jf_2_100 jd_38_10
theorem jk_38_13 : jx_Snd 38 13 (js_c 1 1) := jo_iconst (z := 1) jd_38_13 rfl
theorem jk_38_14 : jx_Snd 38 14 (js_iadd) := jo_iadd jd_38_14
theorem jk_38_15 : jx_Snd 38 15 (js_is 1 1) := jo_istore_n (i := 1) (w := 1) rfl (Nat.le_of_ble_eq_true rfl) jd_38_15
theorem jk_38_16 : jx_Snd 38 16 (js_al 0 1) := jo_aload_n (i := 0) (w := 0) rfl jd_38_16
theorem jk_38_17 : jx_Snd 38 17 (js_getf 2 0) := jo_getf rfl jf_2_12 jd_38_17
theorem jk_38_20 : jx_Snd 38 20 (js_getf 3 0) := jo_getf rfl jf_2_103 jd_38_20
theorem jk_38_23 : jx_Snd 38 23 (js_al 0 1) := jo_aload_n (i := 0) (w := 0) rfl jd_38_23
theorem jk_38_24 : jx_Snd 38 24 (js_getf 2 7) := jo_getf rfl jf_2_100 jd_38_24
theorem jk_38_27 : jx_Snd 38 27 (js_ald) := jo_ald jd_38_27
theorem jk_38_28 : jx_Snd 38 28 (js_sw [(0, 80), (1, 107), (2, 128), (3, 161), (4, 189), (5, 213), (6, 234), (7, 261), (8, 253)] 261) := jo_tableD (dflt := 233) (lo := 0) (hi := 8) (offs := #[52, 79, 100, 133, 161, 185, 206, 233, 225]) rfl rfl (by decide +kernel) jd_38_28
theorem jk_38_80 : jx_Snd 38 80 (js_al 0 1) := jo_aload_n (i := 0) (w := 0) rfl jd_38_80
theorem jk_38_81 : jx_Snd 38 81 (js_al 0 1) := jo_aload_n (i := 0) (w := 0) rfl jd_38_81
theorem jk_38_82 : jx_Snd 38 82 (js_getf 2 1) := jo_getf rfl jf_2_21 jd_38_82
theorem jk_38_85 : jx_Snd 38 85 (js_al 0 1) := jo_aload_n (i := 0) (w := 0) rfl jd_38_85
theorem jk_38_86 : jx_Snd 38 86 (js_getf 2 8) := jo_getf rfl jf_2_106 jd_38_86
theorem jk_38_89 : jx_Snd 38 89 (js_al 0 1) := jo_aload_n (i := 0) (w := 0) rfl jd_38_89
theorem jk_38_90 : jx_Snd 38 90 (js_getf 2 0) := jo_getf rfl jf_2_12 jd_38_90
theorem jk_38_93 : jx_Snd 38 93 (js_getf 3 0) := jo_getf rfl jf_2_103 jd_38_93
theorem jk_38_96 : jx_Snd 38 96 (js_il 1 1) := jo_iload_n (i := 1) (w := 1) rfl jd_38_96
theorem jk_38_97 : jx_Snd 38 97 (js_ald) := jo_ald jd_38_97
theorem jk_38_98 : jx_Snd 38 98 (js_v2 4 66) := jo_v2 rfl jok_66 (Or.inl jw_244) jw_245 jw_246 rfl jd_38_98
theorem jk_38_101 : jx_Snd 38 101 (js_v1 2 52) := jo_v1 rfl jok_52 (Or.inl jw_248) jw_249 jw_692 rfl jd_38_101
theorem jk_38_104 : jx_Snd 38 104 (js_go 266) := jo_goto (o := 162) rfl jd_38_104
theorem jk_38_107 : jx_Snd 38 107 (js_al 0 1) := jo_aload_n (i := 0) (w := 0) rfl jd_38_107
theorem jk_38_108 : jx_Snd 38 108 (js_al 0 1) := jo_aload_n (i := 0) (w := 0) rfl jd_38_108
theorem jk_38_109 : jx_Snd 38 109 (js_getf 2 1) := jo_getf rfl jf_2_21 jd_38_109
theorem jk_38_112 : jx_Snd 38 112 (js_c 3 1) := jo_iconst (z := 3) jd_38_112 rfl
theorem jk_38_113 : jx_Snd 38 113 (js_il 1 1) := jo_iload_n (i := 1) (w := 1) rfl jd_38_113
theorem jk_38_114 : jx_Snd 38 114 (js_al 0 1) := jo_aload_n (i := 0) (w := 0) rfl jd_38_114
theorem jk_38_115 : jx_Snd 38 115 (js_getf 2 8) := jo_getf rfl jf_2_106 jd_38_115
theorem jk_38_118 : jx_Snd 38 118 (js_c 0 1) := jo_iconst (z := 0) jd_38_118 rfl
theorem jk_38_119 : jx_Snd 38 119 (js_v4 4 63) := jo_v4 rfl jok_63 (Or.inl jw_251) jw_215 jw_216 rfl jd_38_119
theorem jk_38_122 : jx_Snd 38 122 (js_v1 2 52) := jo_v1 rfl jok_52 (Or.inl jw_248) jw_249 jw_692 rfl jd_38_122
theorem jk_38_125 : jx_Snd 38 125 (js_go 266) := jo_goto (o := 141) rfl jd_38_125
theorem jk_38_128 : jx_Snd 38 128 (js_al 0 1) := jo_aload_n (i := 0) (w := 0) rfl jd_38_128
theorem jk_38_129 : jx_Snd 38 129 (js_c 0 1) := jo_iconst (z := 0) jd_38_129 rfl
theorem jk_38_130 : jx_Snd 38 130 (js_al 0 1) := jo_aload_n (i := 0) (w := 0) rfl jd_38_130
theorem jk_38_131 : jx_Snd 38 131 (js_getf 2 0) := jo_getf rfl jf_2_12 jd_38_131
theorem jk_38_134 : jx_Snd 38 134 (js_getf 3 1) := jo_getf rfl jf_2_119 jd_38_134
theorem jk_38_137 : jx_Snd 38 137 (js_al 0 1) := jo_aload_n (i := 0) (w := 0) rfl jd_38_137
theorem jk_38_138 : jx_Snd 38 138 (js_getf 2 7) := jo_getf rfl jf_2_100 jd_38_138
theorem jk_38_141 : jx_Snd 38 141 (js_ald) := jo_ald jd_38_141
theorem jk_38_142 : jx_Snd 38 142 (js_al 0 1) := jo_aload_n (i := 0) (w := 0) rfl jd_38_142
theorem jk_38_143 : jx_Snd 38 143 (js_getf 2 8) := jo_getf rfl jf_2_106 jd_38_143
theorem jk_38_146 : jx_Snd 38 146 (js_v3 2 50) := jo_v3 rfl jok_50 (Or.inl jw_232) jw_233 jw_688 rfl jd_38_146
theorem jk_38_149 : jx_Snd 38 149 (js_al 0 1) := jo_aload_n (i := 0) (w := 0) rfl jd_38_149
theorem jk_38_150 : jx_Snd 38 150 (js_il 1 1) := jo_iload_n (i := 1) (w := 1) rfl jd_38_150
theorem jk_38_151 : jx_Snd 38 151 (js_al 0 1) := jo_aload_n (i := 0) (w := 0) rfl jd_38_151
theorem jk_38_152 : jx_Snd 38 152 (js_getf 2 8) := jo_getf rfl jf_2_106 jd_38_152
theorem jk_38_155 : jx_Snd 38 155 (js_v2 2 51) := jo_v2 rfl jok_51 (Or.inl jw_218) jw_219 jw_686 rfl jd_38_155
theorem jk_38_158 : jx_Snd 38 158 (js_go 266) := jo_goto (o := 108) rfl jd_38_158
theorem jk_38_161 : jx_Snd 38 161 (js_al 0 1) := jo_aload_n (i := 0) (w := 0) rfl jd_38_161
theorem jk_38_162 : jx_Snd 38 162 (js_al 0 1) := jo_aload_n (i := 0) (w := 0) rfl jd_38_162
theorem jk_38_163 : jx_Snd 38 163 (js_getf 2 1) := jo_getf rfl jf_2_21 jd_38_163
theorem jk_38_166 : jx_Snd 38 166 (js_c 0 1) := jo_iconst (z := 0) jd_38_166 rfl
theorem jk_38_167 : jx_Snd 38 167 (js_al 0 1) := jo_aload_n (i := 0) (w := 0) rfl jd_38_167
theorem jk_38_168 : jx_Snd 38 168 (js_getf 2 0) := jo_getf rfl jf_2_12 jd_38_168
theorem jk_38_171 : jx_Snd 38 171 (js_getf 3 0) := jo_getf rfl jf_2_103 jd_38_171
theorem jk_38_174 : jx_Snd 38 174 (js_il 1 1) := jo_iload_n (i := 1) (w := 1) rfl jd_38_174
theorem jk_38_175 : jx_Snd 38 175 (js_ald) := jo_ald jd_38_175
theorem jk_38_176 : jx_Snd 38 176 (js_c 128 3) := jo_sipush (z := 128) jd_38_176 (by decide +kernel)
theorem jk_38_179 : jx_Snd 38 179 (js_isub) := jo_isub jd_38_179
theorem jk_38_180 : jx_Snd 38 180 (js_v2 4 64) := jo_v2 rfl jok_64 (Or.inl jw_224) jw_225 jw_226 rfl jd_38_180
theorem jk_38_183 : jx_Snd 38 183 (js_v1 2 52) := jo_v1 rfl jok_52 (Or.inl jw_248) jw_249 jw_692 rfl jd_38_183
theorem jk_38_186 : jx_Snd 38 186 (js_go 266) := jo_goto (o := 80) rfl jd_38_186
theorem jk_38_189 : jx_Snd 38 189 (js_al 0 1) := jo_aload_n (i := 0) (w := 0) rfl jd_38_189
theorem jk_38_190 : jx_Snd 38 190 (js_al 0 1) := jo_aload_n (i := 0) (w := 0) rfl jd_38_190
theorem jk_38_191 : jx_Snd 38 191 (js_getf 2 1) := jo_getf rfl jf_2_21 jd_38_191
theorem jk_38_194 : jx_Snd 38 194 (js_c 5 1) := jo_iconst (z := 5) jd_38_194 rfl
theorem jk_38_195 : jx_Snd 38 195 (js_al 0 1) := jo_aload_n (i := 0) (w := 0) rfl jd_38_195
theorem jk_38_196 : jx_Snd 38 196 (js_getf 2 0) := jo_getf rfl jf_2_12 jd_38_196
theorem jk_38_199 : jx_Snd 38 199 (js_getf 3 0) := jo_getf rfl jf_2_103 jd_38_199
theorem jk_38_202 : jx_Snd 38 202 (js_il 1 1) := jo_iload_n (i := 1) (w := 1) rfl jd_38_202
theorem jk_38_203 : jx_Snd 38 203 (js_ald) := jo_ald jd_38_203
theorem jk_38_204 : jx_Snd 38 204 (js_v2 4 64) := jo_v2 rfl jok_64 (Or.inl jw_224) jw_225 jw_226 rfl jd_38_204
theorem jk_38_207 : jx_Snd 38 207 (js_v1 2 52) := jo_v1 rfl jok_52 (Or.inl jw_248) jw_249 jw_692 rfl jd_38_207
theorem jk_38_210 : jx_Snd 38 210 (js_go 266) := jo_goto (o := 56) rfl jd_38_210
theorem jk_38_213 : jx_Snd 38 213 (js_al 0 1) := jo_aload_n (i := 0) (w := 0) rfl jd_38_213
theorem jk_38_214 : jx_Snd 38 214 (js_al 0 1) := jo_aload_n (i := 0) (w := 0) rfl jd_38_214
theorem jk_38_215 : jx_Snd 38 215 (js_getf 2 1) := jo_getf rfl jf_2_21 jd_38_215
theorem jk_38_218 : jx_Snd 38 218 (js_c 4 1) := jo_iconst (z := 4) jd_38_218 rfl
theorem jk_38_219 : jx_Snd 38 219 (js_il 1 1) := jo_iload_n (i := 1) (w := 1) rfl jd_38_219
theorem jk_38_220 : jx_Snd 38 220 (js_al 0 1) := jo_aload_n (i := 0) (w := 0) rfl jd_38_220
theorem jk_38_221 : jx_Snd 38 221 (js_getf 2 8) := jo_getf rfl jf_2_106 jd_38_221
theorem jk_38_224 : jx_Snd 38 224 (js_c 0 1) := jo_iconst (z := 0) jd_38_224 rfl
theorem jk_38_225 : jx_Snd 38 225 (js_v4 4 63) := jo_v4 rfl jok_63 (Or.inl jw_251) jw_215 jw_216 rfl jd_38_225
theorem jk_38_228 : jx_Snd 38 228 (js_v1 2 52) := jo_v1 rfl jok_52 (Or.inl jw_248) jw_249 jw_692 rfl jd_38_228
theorem jk_38_231 : jx_Snd 38 231 (js_go 266) := jo_goto (o := 35) rfl jd_38_231
theorem jk_38_234 : jx_Snd 38 234 (js_al 0 1) := jo_aload_n (i := 0) (w := 0) rfl jd_38_234
theorem jk_38_235 : jx_Snd 38 235 (js_c 2 1) := jo_iconst (z := 2) jd_38_235 rfl
theorem jk_38_236 : jx_Snd 38 236 (js_c 0 1) := jo_iconst (z := 0) jd_38_236 rfl
theorem jk_38_237 : jx_Snd 38 237 (js_c 0 1) := jo_iconst (z := 0) jd_38_237 rfl
theorem jk_38_238 : jx_Snd 38 238 (js_v3 2 50) := jo_v3 rfl jok_50 (Or.inl jw_232) jw_233 jw_688 rfl jd_38_238
theorem jk_38_241 : jx_Snd 38 241 (js_al 0 1) := jo_aload_n (i := 0) (w := 0) rfl jd_38_241
theorem jk_38_242 : jx_Snd 38 242 (js_il 1 1) := jo_iload_n (i := 1) (w := 1) rfl jd_38_242
theorem jk_38_243 : jx_Snd 38 243 (js_al 0 1) := jo_aload_n (i := 0) (w := 0) rfl jd_38_243
theorem jk_38_244 : jx_Snd 38 244 (js_getf 2 8) := jo_getf rfl jf_2_106 jd_38_244
theorem jk_38_247 : jx_Snd 38 247 (js_v2 2 51) := jo_v2 rfl jok_51 (Or.inl jw_218) jw_219 jw_686 rfl jd_38_247
theorem jk_38_250 : jx_Snd 38 250 (js_go 266) := jo_goto (o := 16) rfl jd_38_250
theorem jk_38_253 : jx_Snd 38 253 (js_al 0 1) := jo_aload_n (i := 0) (w := 0) rfl jd_38_253
theorem jk_38_254 : jx_Snd 38 254 (js_c 0 1) := jo_iconst (z := 0) jd_38_254 rfl
theorem jk_38_255 : jx_Snd 38 255 (js_v1 2 52) := jo_v1 rfl jok_52 (Or.inl jw_248) jw_249 jw_692 rfl jd_38_255
theorem jk_38_258 : jx_Snd 38 258 (js_go 266) := jo_goto (o := 8) rfl jd_38_258
theorem jk_38_261 : jx_Snd 38 261 (js_al 0 1) := jo_aload_n (i := 0) (w := 0) rfl jd_38_261
theorem jk_38_262 : jx_Snd 38 262 (js_c 2 1) := jo_iconst (z := 2) jd_38_262 rfl
theorem jk_38_263 : jx_Snd 38 263 (js_v1 2 53) := jo_v1 rfl jok_53 (Or.inl jw_235) jw_236 jw_689 rfl jd_38_263
theorem jk_38_266 : jx_Snd 38 266 (js_vr) := jo_vr rfl jd_38_266
theorem jk_38 : jx_So 38 jt_38 := fun pc => jo_le (jo_le (jo_le (jo_le (jo_le (jo_le (jo_le (jo_at (jk_38_0)) (jo_at (jk_38_1))) (jo_le (jo_at (jk_38_2)) (jo_at (jk_38_5)))) (jo_le (jo_le (jo_at (jk_38_8)) (jo_at (jk_38_9))) (jo_le (jo_at (jk_38_10)) (jo_at (jk_38_13))))) (jo_le (jo_le (jo_le (jo_at (jk_38_14)) (jo_at (jk_38_15))) (jo_le (jo_at (jk_38_16)) (jo_at (jk_38_17)))) (jo_le (jo_le (jo_at (jk_38_20)) (jo_at (jk_38_23))) (jo_at (jk_38_24))))) (jo_le (jo_le (jo_le (jo_le (jo_at (jk_38_27)) (jo_at (jk_38_28))) (jo_le (jo_at (jk_38_80)) (jo_at (jk_38_81)))) (jo_le (jo_le (jo_at (jk_38_82)) (jo_at (jk_38_85))) (jo_at (jk_38_86)))) (jo_le (jo_le (jo_le (jo_at (jk_38_89)) (jo_at (jk_38_90))) (jo_le (jo_at (jk_38_93)) (jo_at (jk_38_96)))) (jo_le (jo_le (jo_at (jk_38_97)) (jo_at (jk_38_98))) (jo_at (jk_38_101)))))) (jo_le (jo_le (jo_le (jo_le (jo_le (jo_at (jk_38_104)) (jo_at (jk_38_107))) (jo_le (jo_at (jk_38_108)) (jo_at (jk_38_109)))) (jo_le (jo_le (jo_at (jk_38_112)) (jo_at (jk_38_113))) (jo_at (jk_38_114)))) (jo_le (jo_le (jo_le (jo_at (jk_38_115)) (jo_at (jk_38_118))) (jo_le (jo_at (jk_38_119)) (jo_at (jk_38_122)))) (jo_le (jo_le (jo_at (jk_38_125)) (jo_at (jk_38_128))) (jo_at (jk_38_129))))) (jo_le (jo_le (jo_le (jo_le (jo_at (jk_38_130)) (jo_at (jk_38_131))) (jo_le (jo_at (jk_38_134)) (jo_at (jk_38_137)))) (jo_le (jo_le (jo_at (jk_38_138)) (jo_at (jk_38_141))) (jo_at (jk_38_142)))) (jo_le (jo_le (jo_le (jo_at (jk_38_143)) (jo_at (jk_38_146))) (jo_le (jo_at (jk_38_149)) (jo_at (jk_38_150)))) (jo_le (jo_le (jo_at (jk_38_151)) (jo_at (jk_38_152))) (jo_at (jk_38_155))))))) (jo_le (jo_le (jo_le (jo_le (jo_le (jo_le (jo_at (jk_38_158)) (jo_at (jk_38_161))) (jo_le (jo_at (jk_38_162)) (jo_at (jk_38_163)))) (jo_le (jo_le (jo_at (jk_38_166)) (jo_at (jk_38_167))) (jo_le (jo_at (jk_38_168)) (jo_at (jk_38_171))))) (jo_le (jo_le (jo_le (jo_at (jk_38_174)) (jo_at (jk_38_175))) (jo_le (jo_at (jk_38_176)) (jo_at (jk_38_179)))) (jo_le (jo_le (jo_at (jk_38_180)) (jo_at (jk_38_183))) (jo_at (jk_38_186))))) (jo_le (jo_le (jo_le (jo_le (jo_at (jk_38_189)) (jo_at (jk_38_190))) (jo_le (jo_at (jk_38_191)) (jo_at (jk_38_194)))) (jo_le (jo_le (jo_at (jk_38_195)) (jo_at (jk_38_196))) (jo_at (jk_38_199)))) (jo_le (jo_le (jo_le (jo_at (jk_38_202)) (jo_at (jk_38_203))) (jo_le (jo_at (jk_38_204)) (jo_at (jk_38_207)))) (jo_le (jo_le (jo_at (jk_38_210)) (jo_at (jk_38_213))) (jo_at (jk_38_214)))))) (jo_le (jo_le (jo_le (jo_le (jo_le (jo_at (jk_38_215)) (jo_at (jk_38_218))) (jo_le (jo_at (jk_38_219)) (jo_at (jk_38_220)))) (jo_le (jo_le (jo_at (jk_38_221)) (jo_at (jk_38_224))) (jo_at (jk_38_225)))) (jo_le (jo_le (jo_le (jo_at (jk_38_228)) (jo_at (jk_38_231))) (jo_le (jo_at (jk_38_234)) (jo_at (jk_38_235)))) (jo_le (jo_le (jo_at (jk_38_236)) (jo_at (jk_38_237))) (jo_at (jk_38_238))))) (jo_le (jo_le (jo_le (jo_le (jo_at (jk_38_241)) (jo_at (jk_38_242))) (jo_le (jo_at (jk_38_243)) (jo_at (jk_38_244)))) (jo_le (jo_le (jo_at (jk_38_247)) (jo_at (jk_38_250))) (jo_at (jk_38_253)))) (jo_le (jo_le (jo_le (jo_at (jk_38_254)) (jo_at (jk_38_255))) (jo_le (jo_at (jk_38_258)) (jo_at (jk_38_261)))) (jo_le (jo_le (jo_at (jk_38_262)) (jo_at (jk_38_263))) (jo_at (jk_38_266)))))))
theorem ji_38 {l : Launch} {D : va_G} {cA : ClassId} {ρ : Nat → Nat} {Λ : List jx_Lc} {d : Nat} {Q : Option Value → jx_St → Prop} {σ : jx_St} {z0 : Nat} (h : jt_38 0 Λ jx_tb0 (jx_rn Λ jx_tb0 jt_38 (fun k' as σ K => jx_C l D cA ρ Λ d k' as σ K) Q (jx_J l D cA ρ Λ (jx_A ρ Λ) jx_tb0 (d + 1) 38 Q) [] 400) (fun k' as σ K => jx_C l D cA ρ Λ d k' as σ K) Q 0 [(0, .ref z0)] [] σ) : jx_C l D cA ρ Λ (d + 1) 38 [.ref z0] σ Q := jx_in jk_38 400 [] rfl (Nat.le_of_ble_eq_true rfl) h
/-! ScriptLedger$Machine.handOnValue()V -/
theorem jd_39_0 : decode prog_4_method_6_code 0 = .ok (.aload_n 0, 1) := by decide +kernel
theorem jd_39_1 : decode prog_4_method_6_code 1 = .ok (.getfield 81, 3) := by decide +kernel
theorem jd_39_4 : decode prog_4_method_6_code 4 = .ok (.ifCond .ne 8, 3) := by decide +kernel
theorem jd_39_7 : decode prog_4_method_6_code 7 = .ok (.aload_n 0, 1) := by decide +kernel
theorem jd_39_8 : decode prog_4_method_6_code 8 = .ok (.invokevirtual 122, 3) := by decide +kernel
theorem jd_39_11 : decode prog_4_method_6_code 11 = .ok (.return_, 1) := by decide +kernel
theorem jd_39_12 : decode prog_4_method_6_code 12 = .ok (.aload_n 0, 1) := by decide +kernel
theorem jd_39_13 : decode prog_4_method_6_code 13 = .ok (.dup, 1) := by decide +kernel
theorem jd_39_14 : decode prog_4_method_6_code 14 = .ok (.getfield 81, 3) := by decide +kernel
theorem jd_39_17 : decode prog_4_method_6_code 17 = .ok (.iconst 1, 1) := by decide +kernel
theorem jd_39_18 : decode prog_4_method_6_code 18 = .ok (.isub, 1) := by decide +kernel
theorem jd_39_19 : decode prog_4_method_6_code 19 = .ok (.putfield 81, 3) := by decide +kernel
theorem jd_39_22 : decode prog_4_method_6_code 22 = .ok (.aload_n 0, 1) := by decide +kernel
theorem jd_39_23 : decode prog_4_method_6_code 23 = .ok (.getfield 25, 3) := by decide +kernel
theorem jd_39_26 : decode prog_4_method_6_code 26 = .ok (.aload_n 0, 1) := by decide +kernel
theorem jd_39_27 : decode prog_4_method_6_code 27 = .ok (.getfield 81, 3) := by decide +kernel
theorem jd_39_30 : decode prog_4_method_6_code 30 = .ok (.iaload, 1) := by decide +kernel
theorem jd_39_31 : decode prog_4_method_6_code 31 = .ok (.tableswitch 114 0 3 #[29, 64, 114, 93], 29) := by decide +kernel
theorem jd_39_60 : decode prog_4_method_6_code 60 = .ok (.aload_n 0, 1) := by decide +kernel
theorem jd_39_61 : decode prog_4_method_6_code 61 = .ok (.aload_n 0, 1) := by decide +kernel
theorem jd_39_62 : decode prog_4_method_6_code 62 = .ok (.getfield 29, 3) := by decide +kernel
theorem jd_39_65 : decode prog_4_method_6_code 65 = .ok (.aload_n 0, 1) := by decide +kernel
theorem jd_39_66 : decode prog_4_method_6_code 66 = .ok (.getfield 81, 3) := by decide +kernel
theorem jd_39_69 : decode prog_4_method_6_code 69 = .ok (.iaload, 1) := by decide +kernel
theorem jd_39_70 : decode prog_4_method_6_code 70 = .ok (.aload_n 0, 1) := by decide +kernel
theorem jd_39_71 : decode prog_4_method_6_code 71 = .ok (.getfield 32, 3) := by decide +kernel
theorem jd_39_74 : decode prog_4_method_6_code 74 = .ok (.aload_n 0, 1) := by decide +kernel
theorem jd_39_75 : decode prog_4_method_6_code 75 = .ok (.getfield 81, 3) := by decide +kernel
theorem jd_39_78 : decode prog_4_method_6_code 78 = .ok (.iaload, 1) := by decide +kernel
theorem jd_39_79 : decode prog_4_method_6_code 79 = .ok (.invokevirtual 90, 3) := by decide +kernel
theorem jd_39_82 : decode prog_4_method_6_code 82 = .ok (.aload_n 0, 1) := by decide +kernel
theorem jd_39_83 : decode prog_4_method_6_code 83 = .ok (.iconst 1, 1) := by decide +kernel
theorem jd_39_84 : decode prog_4_method_6_code 84 = .ok (.aload_n 0, 1) := by decide +kernel
theorem jd_39_85 : decode prog_4_method_6_code 85 = .ok (.getfield 125, 3) := by decide +kernel
theorem jd_39_88 : decode prog_4_method_6_code 88 = .ok (.iconst 0, 1) := by decide +kernel
theorem jd_39_89 : decode prog_4_method_6_code 89 = .ok (.invokevirtual 51, 3) := by decide +kernel
theorem jd_39_92 : decode prog_4_method_6_code 92 = .ok (.goto 57, 3) := by decide +kernel
theorem jd_39_95 : decode prog_4_method_6_code 95 = .ok (.aload_n 0, 1) := by decide +kernel
theorem jd_39_96 : decode prog_4_method_6_code 96 = .ok (.aload_n 0, 1) := by decide +kernel
theorem jd_39_97 : decode prog_4_method_6_code 97 = .ok (.getfield 125, 3) := by decide +kernel
theorem jd_39_100 : decode prog_4_method_6_code 100 = .ok (.putfield 128, 3) := by decide +kernel
theorem jd_39_103 : decode prog_4_method_6_code 103 = .ok (.aload_n 0, 1) := by decide +kernel
theorem jd_39_104 : decode prog_4_method_6_code 104 = .ok (.aload_n 0, 1) := by decide +kernel
theorem jd_39_105 : decode prog_4_method_6_code 105 = .ok (.getfield 29, 3) := by decide +kernel
theorem jd_39_108 : decode prog_4_method_6_code 108 = .ok (.aload_n 0, 1) := by decide +kernel
theorem jd_39_109 : decode prog_4_method_6_code 109 = .ok (.getfield 81, 3) := by decide +kernel
theorem jd_39_112 : decode prog_4_method_6_code 112 = .ok (.iaload, 1) := by decide +kernel
theorem jd_39_113 : decode prog_4_method_6_code 113 = .ok (.putfield 125, 3) := by decide +kernel
theorem jd_39_116 : decode prog_4_method_6_code 116 = .ok (.aload_n 0, 1) := by decide +kernel
theorem jd_39_117 : decode prog_4_method_6_code 117 = .ok (.iconst 2, 1) := by decide +kernel
theorem jd_39_118 : decode prog_4_method_6_code 118 = .ok (.putfield 59, 3) := by decide +kernel
theorem jd_39_121 : decode prog_4_method_6_code 121 = .ok (.goto 28, 3) := by decide +kernel
theorem jd_39_124 : decode prog_4_method_6_code 124 = .ok (.aload_n 0, 1) := by decide +kernel
theorem jd_39_125 : decode prog_4_method_6_code 125 = .ok (.aload_n 0, 1) := by decide +kernel
theorem jd_39_126 : decode prog_4_method_6_code 126 = .ok (.getfield 29, 3) := by decide +kernel
theorem jd_39_129 : decode prog_4_method_6_code 129 = .ok (.aload_n 0, 1) := by decide +kernel
theorem jd_39_130 : decode prog_4_method_6_code 130 = .ok (.getfield 81, 3) := by decide +kernel
theorem jd_39_133 : decode prog_4_method_6_code 133 = .ok (.iaload, 1) := by decide +kernel
theorem jd_39_134 : decode prog_4_method_6_code 134 = .ok (.putfield 128, 3) := by decide +kernel
theorem jd_39_137 : decode prog_4_method_6_code 137 = .ok (.aload_n 0, 1) := by decide +kernel
theorem jd_39_138 : decode prog_4_method_6_code 138 = .ok (.iconst 2, 1) := by decide +kernel
theorem jd_39_139 : decode prog_4_method_6_code 139 = .ok (.putfield 59, 3) := by decide +kernel
theorem jd_39_142 : decode prog_4_method_6_code 142 = .ok (.goto 7, 3) := by decide +kernel
theorem jd_39_145 : decode prog_4_method_6_code 145 = .ok (.aload_n 0, 1) := by decide +kernel
theorem jd_39_146 : decode prog_4_method_6_code 146 = .ok (.invokevirtual 131, 3) := by decide +kernel
theorem jd_39_149 : decode prog_4_method_6_code 149 = .ok (.return_, 1) := by decide +kernel
def jt_39 (pc : Nat) : jx_Sp := bif Nat.ble pc 84 then (bif Nat.ble pc 30 then (bif Nat.ble pc 14 then (bif Nat.ble pc 8 then (bif Nat.ble pc 4 then (bif Nat.ble pc 1 then (bif Nat.ble pc 0 then (bif Nat.beq pc 0 then js_al 0 1 else js_none) else (bif Nat.beq pc 1 then js_getf 2 5 else js_none)) else (bif Nat.beq pc 4 then js_ifne 12 else js_none)) else (bif Nat.ble pc 7 then (bif Nat.beq pc 7 then js_al 0 1 else js_none) else (bif Nat.beq pc 8 then js_v0 2 54 else js_none))) else (bif Nat.ble pc 12 then (bif Nat.ble pc 11 then (bif Nat.beq pc 11 then js_vr else js_none) else (bif Nat.beq pc 12 then js_al 0 1 else js_none)) else (bif Nat.ble pc 13 then (bif Nat.beq pc 13 then js_dup else js_none) else (bif Nat.beq pc 14 then js_getf 2 5 else js_none)))) else (bif Nat.ble pc 22 then (bif Nat.ble pc 18 then (bif Nat.ble pc 17 then (bif Nat.beq pc 17 then js_c 1 1 else js_none) else (bif Nat.beq pc 18 then js_isub else js_none)) else (bif Nat.ble pc 19 then (bif Nat.beq pc 19 then js_putf 2 5 false else js_none) else (bif Nat.beq pc 22 then js_al 0 1 else js_none))) else (bif Nat.ble pc 26 then (bif Nat.ble pc 23 then (bif Nat.beq pc 23 then js_getf 2 2 else js_none) else (bif Nat.beq pc 26 then js_al 0 1 else js_none)) else (bif Nat.ble pc 27 then (bif Nat.beq pc 27 then js_getf 2 5 else js_none) else (bif Nat.beq pc 30 then js_ald else js_none))))) else (bif Nat.ble pc 70 then (bif Nat.ble pc 62 then (bif Nat.ble pc 60 then (bif Nat.ble pc 31 then (bif Nat.beq pc 31 then js_sw [(0, 60), (1, 95), (2, 145), (3, 124)] 145 else js_none) else (bif Nat.beq pc 60 then js_al 0 1 else js_none)) else (bif Nat.ble pc 61 then (bif Nat.beq pc 61 then js_al 0 1 else js_none) else (bif Nat.beq pc 62 then js_getf 2 3 else js_none))) else (bif Nat.ble pc 66 then (bif Nat.ble pc 65 then (bif Nat.beq pc 65 then js_al 0 1 else js_none) else (bif Nat.beq pc 66 then js_getf 2 5 else js_none)) else (bif Nat.ble pc 69 then (bif Nat.beq pc 69 then js_ald else js_none) else (bif Nat.beq pc 70 then js_al 0 1 else js_none)))) else (bif Nat.ble pc 78 then (bif Nat.ble pc 74 then (bif Nat.ble pc 71 then (bif Nat.beq pc 71 then js_getf 2 4 else js_none) else (bif Nat.beq pc 74 then js_al 0 1 else js_none)) else (bif Nat.ble pc 75 then (bif Nat.beq pc 75 then js_getf 2 5 else js_none) else (bif Nat.beq pc 78 then js_ald else js_none))) else (bif Nat.ble pc 82 then (bif Nat.ble pc 79 then (bif Nat.beq pc 79 then js_v2 2 51 else js_none) else (bif Nat.beq pc 82 then js_al 0 1 else js_none)) else (bif Nat.ble pc 83 then (bif Nat.beq pc 83 then js_c 1 1 else js_none) else (bif Nat.beq pc 84 then js_al 0 1 else js_none)))))) else (bif Nat.ble pc 117 then (bif Nat.ble pc 103 then (bif Nat.ble pc 95 then (bif Nat.ble pc 89 then (bif Nat.ble pc 88 then (bif Nat.ble pc 85 then (bif Nat.beq pc 85 then js_getf 2 9 else js_none) else (bif Nat.beq pc 88 then js_c 0 1 else js_none)) else (bif Nat.beq pc 89 then js_v3 2 50 else js_none)) else (bif Nat.ble pc 92 then (bif Nat.beq pc 92 then js_go 149 else js_none) else (bif Nat.beq pc 95 then js_al 0 1 else js_none))) else (bif Nat.ble pc 97 then (bif Nat.ble pc 96 then (bif Nat.beq pc 96 then js_al 0 1 else js_none) else (bif Nat.beq pc 97 then js_getf 2 9 else js_none)) else (bif Nat.ble pc 100 then (bif Nat.beq pc 100 then js_putf 2 10 false else js_none) else (bif Nat.beq pc 103 then js_al 0 1 else js_none)))) else (bif Nat.ble pc 109 then (bif Nat.ble pc 105 then (bif Nat.ble pc 104 then (bif Nat.beq pc 104 then js_al 0 1 else js_none) else (bif Nat.beq pc 105 then js_getf 2 3 else js_none)) else (bif Nat.ble pc 108 then (bif Nat.beq pc 108 then js_al 0 1 else js_none) else (bif Nat.beq pc 109 then js_getf 2 5 else js_none))) else (bif Nat.ble pc 113 then (bif Nat.ble pc 112 then (bif Nat.beq pc 112 then js_ald else js_none) else (bif Nat.beq pc 113 then js_putf 2 9 false else js_none)) else (bif Nat.ble pc 116 then (bif Nat.beq pc 116 then js_al 0 1 else js_none) else (bif Nat.beq pc 117 then js_c 2 1 else js_none))))) else (bif Nat.ble pc 133 then (bif Nat.ble pc 125 then (bif Nat.ble pc 121 then (bif Nat.ble pc 118 then (bif Nat.beq pc 118 then js_putf 2 6 false else js_none) else (bif Nat.beq pc 121 then js_go 149 else js_none)) else (bif Nat.ble pc 124 then (bif Nat.beq pc 124 then js_al 0 1 else js_none) else (bif Nat.beq pc 125 then js_al 0 1 else js_none))) else (bif Nat.ble pc 129 then (bif Nat.ble pc 126 then (bif Nat.beq pc 126 then js_getf 2 3 else js_none) else (bif Nat.beq pc 129 then js_al 0 1 else js_none)) else (bif Nat.ble pc 130 then (bif Nat.beq pc 130 then js_getf 2 5 else js_none) else (bif Nat.beq pc 133 then js_ald else js_none)))) else (bif Nat.ble pc 139 then (bif Nat.ble pc 137 then (bif Nat.ble pc 134 then (bif Nat.beq pc 134 then js_putf 2 10 false else js_none) else (bif Nat.beq pc 137 then js_al 0 1 else js_none)) else (bif Nat.ble pc 138 then (bif Nat.beq pc 138 then js_c 2 1 else js_none) else (bif Nat.beq pc 139 then js_putf 2 6 false else js_none))) else (bif Nat.ble pc 145 then (bif Nat.ble pc 142 then (bif Nat.beq pc 142 then js_go 149 else js_none) else (bif Nat.beq pc 145 then js_al 0 1 else js_none)) else (bif Nat.ble pc 146 then (bif Nat.beq pc 146 then js_v0 2 40 else js_none) else (bif Nat.beq pc 149 then js_vr else js_none))))))
theorem jk_39_0 : jx_Snd 39 0 (js_al 0 1) := jo_aload_n (i := 0) (w := 0) rfl jd_39_0
theorem jk_39_1 : jx_Snd 39 1 (js_getf 2 5) := jo_getf rfl jf_2_81 jd_39_1
theorem jk_39_4 : jx_Snd 39 4 (js_ifne 12) := jo_ifne (o := 8) rfl jd_39_4
theorem jk_39_7 : jx_Snd 39 7 (js_al 0 1) := jo_aload_n (i := 0) (w := 0) rfl jd_39_7
theorem jk_39_8 : jx_Snd 39 8 (js_v0 2 54) := jo_v0 rfl jok_54 (Or.inl jw_255) jw_256 jw_694 rfl jd_39_8
theorem jk_39_11 : jx_Snd 39 11 (js_vr) := jo_vr rfl jd_39_11
theorem jk_39_12 : jx_Snd 39 12 (js_al 0 1) := jo_aload_n (i := 0) (w := 0) rfl jd_39_12
theorem jk_39_13 : jx_Snd 39 13 (js_dup) := jo_dup jd_39_13
theorem jk_39_14 : jx_Snd 39 14 (js_getf 2 5) := jo_getf rfl jf_2_81 jd_39_14
theorem jk_39_17 : jx_Snd 39 17 (js_c 1 1) := jo_iconst (z := 1) jd_39_17 rfl
theorem jk_39_18 : jx_Snd 39 18 (js_isub) := jo_isub jd_39_18
theorem jk_39_19 : jx_Snd 39 19 (js_putf 2 5 false) := jo_putf (z := false) rfl jf_2_81 (fun C T N h => by cases h; rfl) jd_39_19
theorem jk_39_22 : jx_Snd 39 22 (js_al 0 1) := jo_aload_n (i := 0) (w := 0) rfl jd_39_22
theorem jk_39_23 : jx_Snd 39 23 (js_getf 2 2) := jo_getf rfl jf_2_25 jd_39_23
theorem jk_39_26 : jx_Snd 39 26 (js_al 0 1) := jo_aload_n (i := 0) (w := 0) rfl jd_39_26
theorem jk_39_27 : jx_Snd 39 27 (js_getf 2 5) := jo_getf rfl jf_2_81 jd_39_27
theorem jk_39_30 : jx_Snd 39 30 (js_ald) := jo_ald jd_39_30
theorem jk_39_31 : jx_Snd 39 31 (js_sw [(0, 60), (1, 95), (2, 145), (3, 124)] 145) := jo_tableD (dflt := 114) (lo := 0) (hi := 3) (offs := #[29, 64, 114, 93]) rfl rfl (by decide +kernel) jd_39_31
theorem jk_39_60 : jx_Snd 39 60 (js_al 0 1) := jo_aload_n (i := 0) (w := 0) rfl jd_39_60
theorem jk_39_61 : jx_Snd 39 61 (js_al 0 1) := jo_aload_n (i := 0) (w := 0) rfl jd_39_61
theorem jk_39_62 : jx_Snd 39 62 (js_getf 2 3) := jo_getf rfl jf_2_29 jd_39_62
theorem jk_39_65 : jx_Snd 39 65 (js_al 0 1) := jo_aload_n (i := 0) (w := 0) rfl jd_39_65
theorem jk_39_66 : jx_Snd 39 66 (js_getf 2 5) := jo_getf rfl jf_2_81 jd_39_66
theorem jk_39_69 : jx_Snd 39 69 (js_ald) := jo_ald jd_39_69
theorem jk_39_70 : jx_Snd 39 70 (js_al 0 1) := jo_aload_n (i := 0) (w := 0) rfl jd_39_70
theorem jk_39_71 : jx_Snd 39 71 (js_getf 2 4) := jo_getf rfl jf_2_32 jd_39_71
theorem jk_39_74 : jx_Snd 39 74 (js_al 0 1) := jo_aload_n (i := 0) (w := 0) rfl jd_39_74
theorem jk_39_75 : jx_Snd 39 75 (js_getf 2 5) := jo_getf rfl jf_2_81 jd_39_75
theorem jk_39_78 : jx_Snd 39 78 (js_ald) := jo_ald jd_39_78
theorem jk_39_79 : jx_Snd 39 79 (js_v2 2 51) := jo_v2 rfl jok_51 (Or.inl jw_218) jw_219 jw_686 rfl jd_39_79
theorem jk_39_82 : jx_Snd 39 82 (js_al 0 1) := jo_aload_n (i := 0) (w := 0) rfl jd_39_82
theorem jk_39_83 : jx_Snd 39 83 (js_c 1 1) := jo_iconst (z := 1) jd_39_83 rfl
theorem jk_39_84 : jx_Snd 39 84 (js_al 0 1) := jo_aload_n (i := 0) (w := 0) rfl jd_39_84
theorem jk_39_85 : jx_Snd 39 85 (js_getf 2 9) := jo_getf rfl jf_2_125 jd_39_85
theorem jk_39_88 : jx_Snd 39 88 (js_c 0 1) := jo_iconst (z := 0) jd_39_88 rfl
theorem jk_39_89 : jx_Snd 39 89 (js_v3 2 50) := jo_v3 rfl jok_50 (Or.inl jw_232) jw_233 jw_688 rfl jd_39_89
theorem jk_39_92 : jx_Snd 39 92 (js_go 149) := jo_goto (o := 57) rfl jd_39_92
theorem jk_39_95 : jx_Snd 39 95 (js_al 0 1) := jo_aload_n (i := 0) (w := 0) rfl jd_39_95
theorem jk_39_96 : jx_Snd 39 96 (js_al 0 1) := jo_aload_n (i := 0) (w := 0) rfl jd_39_96
theorem jk_39_97 : jx_Snd 39 97 (js_getf 2 9) := jo_getf rfl jf_2_125 jd_39_97
theorem jk_39_100 : jx_Snd 39 100 (js_putf 2 10 false) := jo_putf (z := false) rfl jf_2_128 (fun C T N h => by cases h; rfl) jd_39_100
theorem jk_39_103 : jx_Snd 39 103 (js_al 0 1) := jo_aload_n (i := 0) (w := 0) rfl jd_39_103
theorem jk_39_104 : jx_Snd 39 104 (js_al 0 1) := jo_aload_n (i := 0) (w := 0) rfl jd_39_104
theorem jk_39_105 : jx_Snd 39 105 (js_getf 2 3) := jo_getf rfl jf_2_29 jd_39_105
theorem jk_39_108 : jx_Snd 39 108 (js_al 0 1) := jo_aload_n (i := 0) (w := 0) rfl jd_39_108
theorem jk_39_109 : jx_Snd 39 109 (js_getf 2 5) := jo_getf rfl jf_2_81 jd_39_109
theorem jk_39_112 : jx_Snd 39 112 (js_ald) := jo_ald jd_39_112
theorem jk_39_113 : jx_Snd 39 113 (js_putf 2 9 false) := jo_putf (z := false) rfl jf_2_125 (fun C T N h => by cases h; rfl) jd_39_113
theorem jk_39_116 : jx_Snd 39 116 (js_al 0 1) := jo_aload_n (i := 0) (w := 0) rfl jd_39_116
theorem jk_39_117 : jx_Snd 39 117 (js_c 2 1) := jo_iconst (z := 2) jd_39_117 rfl
theorem jk_39_118 : jx_Snd 39 118 (js_putf 2 6 false) := jo_putf (z := false) rfl jf_2_59 (fun C T N h => by cases h; rfl) jd_39_118
theorem jk_39_121 : jx_Snd 39 121 (js_go 149) := jo_goto (o := 28) rfl jd_39_121
theorem jk_39_124 : jx_Snd 39 124 (js_al 0 1) := jo_aload_n (i := 0) (w := 0) rfl jd_39_124
theorem jk_39_125 : jx_Snd 39 125 (js_al 0 1) := jo_aload_n (i := 0) (w := 0) rfl jd_39_125
theorem jk_39_126 : jx_Snd 39 126 (js_getf 2 3) := jo_getf rfl jf_2_29 jd_39_126
theorem jk_39_129 : jx_Snd 39 129 (js_al 0 1) := jo_aload_n (i := 0) (w := 0) rfl jd_39_129
theorem jk_39_130 : jx_Snd 39 130 (js_getf 2 5) := jo_getf rfl jf_2_81 jd_39_130
theorem jk_39_133 : jx_Snd 39 133 (js_ald) := jo_ald jd_39_133
theorem jk_39_134 : jx_Snd 39 134 (js_putf 2 10 false) := jo_putf (z := false) rfl jf_2_128 (fun C T N h => by cases h; rfl) jd_39_134
theorem jk_39_137 : jx_Snd 39 137 (js_al 0 1) := jo_aload_n (i := 0) (w := 0) rfl jd_39_137
theorem jk_39_138 : jx_Snd 39 138 (js_c 2 1) := jo_iconst (z := 2) jd_39_138 rfl
theorem jk_39_139 : jx_Snd 39 139 (js_putf 2 6 false) := jo_putf (z := false) rfl jf_2_59 (fun C T N h => by cases h; rfl) jd_39_139
theorem jk_39_142 : jx_Snd 39 142 (js_go 149) := jo_goto (o := 7) rfl jd_39_142
theorem jk_39_145 : jx_Snd 39 145 (js_al 0 1) := jo_aload_n (i := 0) (w := 0) rfl jd_39_145
theorem jk_39_146 : jx_Snd 39 146 (js_v0 2 40) := jo_v0 rfl jok_40 (Or.inl jw_261) jw_262 jw_695 rfl jd_39_146
theorem jk_39_149 : jx_Snd 39 149 (js_vr) := jo_vr rfl jd_39_149
theorem jk_39 : jx_So 39 jt_39 := fun pc => jo_le (jo_le (jo_le (jo_le (jo_le (jo_le (jo_le (jo_at (jk_39_0)) (jo_at (jk_39_1))) (jo_at (jk_39_4))) (jo_le (jo_at (jk_39_7)) (jo_at (jk_39_8)))) (jo_le (jo_le (jo_at (jk_39_11)) (jo_at (jk_39_12))) (jo_le (jo_at (jk_39_13)) (jo_at (jk_39_14))))) (jo_le (jo_le (jo_le (jo_at (jk_39_17)) (jo_at (jk_39_18))) (jo_le (jo_at (jk_39_19)) (jo_at (jk_39_22)))) (jo_le (jo_le (jo_at (jk_39_23)) (jo_at (jk_39_26))) (jo_le (jo_at (jk_39_27)) (jo_at (jk_39_30)))))) (jo_le (jo_le (jo_le (jo_le (jo_at (jk_39_31)) (jo_at (jk_39_60))) (jo_le (jo_at (jk_39_61)) (jo_at (jk_39_62)))) (jo_le (jo_le (jo_at (jk_39_65)) (jo_at (jk_39_66))) (jo_le (jo_at (jk_39_69)) (jo_at (jk_39_70))))) (jo_le (jo_le (jo_le (jo_at (jk_39_71)) (jo_at (jk_39_74))) (jo_le (jo_at (jk_39_75)) (jo_at (jk_39_78)))) (jo_le (jo_le (jo_at (jk_39_79)) (jo_at (jk_39_82))) (jo_le (jo_at (jk_39_83)) (jo_at (jk_39_84))))))) (jo_le (jo_le (jo_le (jo_le (jo_le (jo_le (jo_at (jk_39_85)) (jo_at (jk_39_88))) (jo_at (jk_39_89))) (jo_le (jo_at (jk_39_92)) (jo_at (jk_39_95)))) (jo_le (jo_le (jo_at (jk_39_96)) (jo_at (jk_39_97))) (jo_le (jo_at (jk_39_100)) (jo_at (jk_39_103))))) (jo_le (jo_le (jo_le (jo_at (jk_39_104)) (jo_at (jk_39_105))) (jo_le (jo_at (jk_39_108)) (jo_at (jk_39_109)))) (jo_le (jo_le (jo_at (jk_39_112)) (jo_at (jk_39_113))) (jo_le (jo_at (jk_39_116)) (jo_at (jk_39_117)))))) (jo_le (jo_le (jo_le (jo_le (jo_at (jk_39_118)) (jo_at (jk_39_121))) (jo_le (jo_at (jk_39_124)) (jo_at (jk_39_125)))) (jo_le (jo_le (jo_at (jk_39_126)) (jo_at (jk_39_129))) (jo_le (jo_at (jk_39_130)) (jo_at (jk_39_133))))) (jo_le (jo_le (jo_le (jo_at (jk_39_134)) (jo_at (jk_39_137))) (jo_le (jo_at (jk_39_138)) (jo_at (jk_39_139)))) (jo_le (jo_le (jo_at (jk_39_142)) (jo_at (jk_39_145))) (jo_le (jo_at (jk_39_146)) (jo_at (jk_39_149)))))))
theorem ji_39 {l : Launch} {D : va_G} {cA : ClassId} {ρ : Nat → Nat} {Λ : List jx_Lc} {d : Nat} {Q : Option Value → jx_St → Prop} {σ : jx_St} {z0 : Nat} (h : jt_39 0 Λ jx_tb0 (jx_rn Λ jx_tb0 jt_39 (fun k' as σ K => jx_C l D cA ρ Λ d k' as σ K) Q (jx_J l D cA ρ Λ (jx_A ρ Λ) jx_tb0 (d + 1) 39 Q) [] 400) (fun k' as σ K => jx_C l D cA ρ Λ d k' as σ K) Q 0 [(0, .ref z0)] [] σ) : jx_C l D cA ρ Λ (d + 1) 39 [.ref z0] σ Q := jx_in jk_39 400 [] rfl (Nat.le_of_ble_eq_true rfl) h
/-! ScriptLedger$Machine.force()V -/
theorem jd_40_0 : decode prog_4_method_7_code 0 = .ok (.aload_n 0, 1) := by decide +kernel
theorem jd_40_1 : decode prog_4_method_7_code 1 = .ok (.getfield 21, 3) := by decide +kernel
theorem jd_40_4 : decode prog_4_method_7_code 4 = .ok (.getfield 134, 3) := by decide +kernel
theorem jd_40_7 : decode prog_4_method_7_code 7 = .ok (.aload_n 0, 1) := by decide +kernel
theorem jd_40_8 : decode prog_4_method_7_code 8 = .ok (.getfield 125, 3) := by decide +kernel
theorem jd_40_11 : decode prog_4_method_7_code 11 = .ok (.iaload, 1) := by decide +kernel
theorem jd_40_12 : decode prog_4_method_7_code 12 = .ok (.iconst 4, 1) := by decide +kernel
theorem jd_40_13 : decode prog_4_method_7_code 13 = .ok (.if_icmp .ne 34, 3) := by decide +kernel
theorem jd_40_16 : decode prog_4_method_7_code 16 = .ok (.aload_n 0, 1) := by decide +kernel
theorem jd_40_17 : decode prog_4_method_7_code 17 = .ok (.aload_n 0, 1) := by decide +kernel
theorem jd_40_18 : decode prog_4_method_7_code 18 = .ok (.getfield 21, 3) := by decide +kernel
theorem jd_40_21 : decode prog_4_method_7_code 21 = .ok (.getfield 137, 3) := by decide +kernel
theorem jd_40_24 : decode prog_4_method_7_code 24 = .ok (.aload_n 0, 1) := by decide +kernel
theorem jd_40_25 : decode prog_4_method_7_code 25 = .ok (.getfield 125, 3) := by decide +kernel
theorem jd_40_28 : decode prog_4_method_7_code 28 = .ok (.iaload, 1) := by decide +kernel
theorem jd_40_29 : decode prog_4_method_7_code 29 = .ok (.aload_n 0, 1) := by decide +kernel
theorem jd_40_30 : decode prog_4_method_7_code 30 = .ok (.getfield 21, 3) := by decide +kernel
theorem jd_40_33 : decode prog_4_method_7_code 33 = .ok (.getfield 140, 3) := by decide +kernel
theorem jd_40_36 : decode prog_4_method_7_code 36 = .ok (.aload_n 0, 1) := by decide +kernel
theorem jd_40_37 : decode prog_4_method_7_code 37 = .ok (.getfield 125, 3) := by decide +kernel
theorem jd_40_40 : decode prog_4_method_7_code 40 = .ok (.iaload, 1) := by decide +kernel
theorem jd_40_41 : decode prog_4_method_7_code 41 = .ok (.invokevirtual 90, 3) := by decide +kernel
theorem jd_40_44 : decode prog_4_method_7_code 44 = .ok (.goto 8, 3) := by decide +kernel
theorem jd_40_47 : decode prog_4_method_7_code 47 = .ok (.aload_n 0, 1) := by decide +kernel
theorem jd_40_48 : decode prog_4_method_7_code 48 = .ok (.iconst 2, 1) := by decide +kernel
theorem jd_40_49 : decode prog_4_method_7_code 49 = .ok (.invokevirtual 74, 3) := by decide +kernel
theorem jd_40_52 : decode prog_4_method_7_code 52 = .ok (.return_, 1) := by decide +kernel
def jt_40 (pc : Nat) : jx_Sp := bif Nat.ble pc 25 then (bif Nat.ble pc 12 then (bif Nat.ble pc 7 then (bif Nat.ble pc 1 then (bif Nat.ble pc 0 then (bif Nat.beq pc 0 then js_al 0 1 else js_none) else (bif Nat.beq pc 1 then js_getf 2 1 else js_none)) else (bif Nat.ble pc 4 then (bif Nat.beq pc 4 then js_getf 4 0 else js_none) else (bif Nat.beq pc 7 then js_al 0 1 else js_none))) else (bif Nat.ble pc 11 then (bif Nat.ble pc 8 then (bif Nat.beq pc 8 then js_getf 2 9 else js_none) else (bif Nat.beq pc 11 then js_ald else js_none)) else (bif Nat.beq pc 12 then js_c 4 1 else js_none))) else (bif Nat.ble pc 18 then (bif Nat.ble pc 16 then (bif Nat.ble pc 13 then (bif Nat.beq pc 13 then js_cne 47 else js_none) else (bif Nat.beq pc 16 then js_al 0 1 else js_none)) else (bif Nat.ble pc 17 then (bif Nat.beq pc 17 then js_al 0 1 else js_none) else (bif Nat.beq pc 18 then js_getf 2 1 else js_none))) else (bif Nat.ble pc 24 then (bif Nat.ble pc 21 then (bif Nat.beq pc 21 then js_getf 4 1 else js_none) else (bif Nat.beq pc 24 then js_al 0 1 else js_none)) else (bif Nat.beq pc 25 then js_getf 2 9 else js_none)))) else (bif Nat.ble pc 40 then (bif Nat.ble pc 33 then (bif Nat.ble pc 29 then (bif Nat.ble pc 28 then (bif Nat.beq pc 28 then js_ald else js_none) else (bif Nat.beq pc 29 then js_al 0 1 else js_none)) else (bif Nat.ble pc 30 then (bif Nat.beq pc 30 then js_getf 2 1 else js_none) else (bif Nat.beq pc 33 then js_getf 4 2 else js_none))) else (bif Nat.ble pc 37 then (bif Nat.ble pc 36 then (bif Nat.beq pc 36 then js_al 0 1 else js_none) else (bif Nat.beq pc 37 then js_getf 2 9 else js_none)) else (bif Nat.beq pc 40 then js_ald else js_none))) else (bif Nat.ble pc 47 then (bif Nat.ble pc 44 then (bif Nat.ble pc 41 then (bif Nat.beq pc 41 then js_v2 2 51 else js_none) else (bif Nat.beq pc 44 then js_go 52 else js_none)) else (bif Nat.beq pc 47 then js_al 0 1 else js_none)) else (bif Nat.ble pc 49 then (bif Nat.ble pc 48 then (bif Nat.beq pc 48 then js_c 2 1 else js_none) else (bif Nat.beq pc 49 then js_v1 2 53 else js_none)) else (bif Nat.beq pc 52 then js_vr else js_none))))
theorem jk_40_0 : jx_Snd 40 0 (js_al 0 1) := jo_aload_n (i := 0) (w := 0) rfl jd_40_0
theorem jk_40_1 : jx_Snd 40 1 (js_getf 2 1) := jo_getf rfl jf_2_21 jd_40_1
theorem jk_40_4 : jx_Snd 40 4 (js_getf 4 0) := jo_getf rfl jf_2_134 jd_40_4
theorem jk_40_7 : jx_Snd 40 7 (js_al 0 1) := jo_aload_n (i := 0) (w := 0) rfl jd_40_7
theorem jk_40_8 : jx_Snd 40 8 (js_getf 2 9) := jo_getf rfl jf_2_125 jd_40_8
theorem jk_40_11 : jx_Snd 40 11 (js_ald) := jo_ald jd_40_11
theorem jk_40_12 : jx_Snd 40 12 (js_c 4 1) := jo_iconst (z := 4) jd_40_12 rfl
theorem jk_40_13 : jx_Snd 40 13 (js_cne 47) := jo_cne (o := 34) rfl jd_40_13
theorem jk_40_16 : jx_Snd 40 16 (js_al 0 1) := jo_aload_n (i := 0) (w := 0) rfl jd_40_16
theorem jk_40_17 : jx_Snd 40 17 (js_al 0 1) := jo_aload_n (i := 0) (w := 0) rfl jd_40_17
theorem jk_40_18 : jx_Snd 40 18 (js_getf 2 1) := jo_getf rfl jf_2_21 jd_40_18
theorem jk_40_21 : jx_Snd 40 21 (js_getf 4 1) := jo_getf rfl jf_2_137 jd_40_21
theorem jk_40_24 : jx_Snd 40 24 (js_al 0 1) := jo_aload_n (i := 0) (w := 0) rfl jd_40_24
theorem jk_40_25 : jx_Snd 40 25 (js_getf 2 9) := jo_getf rfl jf_2_125 jd_40_25
theorem jk_40_28 : jx_Snd 40 28 (js_ald) := jo_ald jd_40_28
theorem jk_40_29 : jx_Snd 40 29 (js_al 0 1) := jo_aload_n (i := 0) (w := 0) rfl jd_40_29
theorem jk_40_30 : jx_Snd 40 30 (js_getf 2 1) := jo_getf rfl jf_2_21 jd_40_30
theorem jk_40_33 : jx_Snd 40 33 (js_getf 4 2) := jo_getf rfl jf_2_140 jd_40_33
theorem jk_40_36 : jx_Snd 40 36 (js_al 0 1) := jo_aload_n (i := 0) (w := 0) rfl jd_40_36
theorem jk_40_37 : jx_Snd 40 37 (js_getf 2 9) := jo_getf rfl jf_2_125 jd_40_37
theorem jk_40_40 : jx_Snd 40 40 (js_ald) := jo_ald jd_40_40
theorem jk_40_41 : jx_Snd 40 41 (js_v2 2 51) := jo_v2 rfl jok_51 (Or.inl jw_218) jw_219 jw_686 rfl jd_40_41
theorem jk_40_44 : jx_Snd 40 44 (js_go 52) := jo_goto (o := 8) rfl jd_40_44
theorem jk_40_47 : jx_Snd 40 47 (js_al 0 1) := jo_aload_n (i := 0) (w := 0) rfl jd_40_47
theorem jk_40_48 : jx_Snd 40 48 (js_c 2 1) := jo_iconst (z := 2) jd_40_48 rfl
theorem jk_40_49 : jx_Snd 40 49 (js_v1 2 53) := jo_v1 rfl jok_53 (Or.inl jw_235) jw_236 jw_689 rfl jd_40_49
theorem jk_40_52 : jx_Snd 40 52 (js_vr) := jo_vr rfl jd_40_52
theorem jk_40 : jx_So 40 jt_40 := fun pc => jo_le (jo_le (jo_le (jo_le (jo_le (jo_at (jk_40_0)) (jo_at (jk_40_1))) (jo_le (jo_at (jk_40_4)) (jo_at (jk_40_7)))) (jo_le (jo_le (jo_at (jk_40_8)) (jo_at (jk_40_11))) (jo_at (jk_40_12)))) (jo_le (jo_le (jo_le (jo_at (jk_40_13)) (jo_at (jk_40_16))) (jo_le (jo_at (jk_40_17)) (jo_at (jk_40_18)))) (jo_le (jo_le (jo_at (jk_40_21)) (jo_at (jk_40_24))) (jo_at (jk_40_25))))) (jo_le (jo_le (jo_le (jo_le (jo_at (jk_40_28)) (jo_at (jk_40_29))) (jo_le (jo_at (jk_40_30)) (jo_at (jk_40_33)))) (jo_le (jo_le (jo_at (jk_40_36)) (jo_at (jk_40_37))) (jo_at (jk_40_40)))) (jo_le (jo_le (jo_le (jo_at (jk_40_41)) (jo_at (jk_40_44))) (jo_at (jk_40_47))) (jo_le (jo_le (jo_at (jk_40_48)) (jo_at (jk_40_49))) (jo_at (jk_40_52)))))
theorem ji_40 {l : Launch} {D : va_G} {cA : ClassId} {ρ : Nat → Nat} {Λ : List jx_Lc} {d : Nat} {Q : Option Value → jx_St → Prop} {σ : jx_St} {z0 : Nat} (h : jt_40 0 Λ jx_tb0 (jx_rn Λ jx_tb0 jt_40 (fun k' as σ K => jx_C l D cA ρ Λ d k' as σ K) Q (jx_J l D cA ρ Λ (jx_A ρ Λ) jx_tb0 (d + 1) 40 Q) [] 400) (fun k' as σ K => jx_C l D cA ρ Λ d k' as σ K) Q 0 [(0, .ref z0)] [] σ) : jx_C l D cA ρ Λ (d + 1) 40 [.ref z0] σ Q := jx_in jk_40 400 [] rfl (Nat.le_of_ble_eq_true rfl) h
/-! ScriptLedger$Machine.apply()V -/
theorem jd_41_0 : decode prog_4_method_8_code 0 = .ok (.aload_n 0, 1) := by decide +kernel
theorem jd_41_1 : decode prog_4_method_8_code 1 = .ok (.getfield 21, 3) := by decide +kernel
theorem jd_41_4 : decode prog_4_method_8_code 4 = .ok (.getfield 134, 3) := by decide +kernel
theorem jd_41_7 : decode prog_4_method_8_code 7 = .ok (.aload_n 0, 1) := by decide +kernel
theorem jd_41_8 : decode prog_4_method_8_code 8 = .ok (.getfield 125, 3) := by decide +kernel
theorem jd_41_11 : decode prog_4_method_8_code 11 = .ok (.iaload, 1) := by decide +kernel
theorem jd_41_12 : decode prog_4_method_8_code 12 = .ok (.iconst 3, 1) := by decide +kernel
theorem jd_41_13 : decode prog_4_method_8_code 13 = .ok (.if_icmp .ne 48, 3) := by decide +kernel
theorem jd_41_16 : decode prog_4_method_8_code 16 = .ok (.aload_n 0, 1) := by decide +kernel
theorem jd_41_17 : decode prog_4_method_8_code 17 = .ok (.aload_n 0, 1) := by decide +kernel
theorem jd_41_18 : decode prog_4_method_8_code 18 = .ok (.getfield 21, 3) := by decide +kernel
theorem jd_41_21 : decode prog_4_method_8_code 21 = .ok (.getfield 137, 3) := by decide +kernel
theorem jd_41_24 : decode prog_4_method_8_code 24 = .ok (.aload_n 0, 1) := by decide +kernel
theorem jd_41_25 : decode prog_4_method_8_code 25 = .ok (.getfield 125, 3) := by decide +kernel
theorem jd_41_28 : decode prog_4_method_8_code 28 = .ok (.iaload, 1) := by decide +kernel
theorem jd_41_29 : decode prog_4_method_8_code 29 = .ok (.aload_n 0, 1) := by decide +kernel
theorem jd_41_30 : decode prog_4_method_8_code 30 = .ok (.getfield 21, 3) := by decide +kernel
theorem jd_41_33 : decode prog_4_method_8_code 33 = .ok (.bipush 6, 2) := by decide +kernel
theorem jd_41_35 : decode prog_4_method_8_code 35 = .ok (.aload_n 0, 1) := by decide +kernel
theorem jd_41_36 : decode prog_4_method_8_code 36 = .ok (.getfield 128, 3) := by decide +kernel
theorem jd_41_39 : decode prog_4_method_8_code 39 = .ok (.aload_n 0, 1) := by decide +kernel
theorem jd_41_40 : decode prog_4_method_8_code 40 = .ok (.getfield 21, 3) := by decide +kernel
theorem jd_41_43 : decode prog_4_method_8_code 43 = .ok (.getfield 140, 3) := by decide +kernel
theorem jd_41_46 : decode prog_4_method_8_code 46 = .ok (.aload_n 0, 1) := by decide +kernel
theorem jd_41_47 : decode prog_4_method_8_code 47 = .ok (.getfield 125, 3) := by decide +kernel
theorem jd_41_50 : decode prog_4_method_8_code 50 = .ok (.iaload, 1) := by decide +kernel
theorem jd_41_51 : decode prog_4_method_8_code 51 = .ok (.iconst 0, 1) := by decide +kernel
theorem jd_41_52 : decode prog_4_method_8_code 52 = .ok (.invokevirtual 115, 3) := by decide +kernel
theorem jd_41_55 : decode prog_4_method_8_code 55 = .ok (.invokevirtual 90, 3) := by decide +kernel
theorem jd_41_58 : decode prog_4_method_8_code 58 = .ok (.goto 31, 3) := by decide +kernel
theorem jd_41_61 : decode prog_4_method_8_code 61 = .ok (.aload_n 0, 1) := by decide +kernel
theorem jd_41_62 : decode prog_4_method_8_code 62 = .ok (.getfield 21, 3) := by decide +kernel
theorem jd_41_65 : decode prog_4_method_8_code 65 = .ok (.getfield 134, 3) := by decide +kernel
theorem jd_41_68 : decode prog_4_method_8_code 68 = .ok (.aload_n 0, 1) := by decide +kernel
theorem jd_41_69 : decode prog_4_method_8_code 69 = .ok (.getfield 125, 3) := by decide +kernel
theorem jd_41_72 : decode prog_4_method_8_code 72 = .ok (.iaload, 1) := by decide +kernel
theorem jd_41_73 : decode prog_4_method_8_code 73 = .ok (.iconst 5, 1) := by decide +kernel
theorem jd_41_74 : decode prog_4_method_8_code 74 = .ok (.if_icmp .ne 10, 3) := by decide +kernel
theorem jd_41_77 : decode prog_4_method_8_code 77 = .ok (.aload_n 0, 1) := by decide +kernel
theorem jd_41_78 : decode prog_4_method_8_code 78 = .ok (.invokevirtual 141, 3) := by decide +kernel
theorem jd_41_81 : decode prog_4_method_8_code 81 = .ok (.goto 8, 3) := by decide +kernel
theorem jd_41_84 : decode prog_4_method_8_code 84 = .ok (.aload_n 0, 1) := by decide +kernel
theorem jd_41_85 : decode prog_4_method_8_code 85 = .ok (.iconst 2, 1) := by decide +kernel
theorem jd_41_86 : decode prog_4_method_8_code 86 = .ok (.invokevirtual 74, 3) := by decide +kernel
theorem jd_41_89 : decode prog_4_method_8_code 89 = .ok (.return_, 1) := by decide +kernel
def jt_41 (pc : Nat) : jx_Sp := bif Nat.ble pc 43 then (bif Nat.ble pc 21 then (bif Nat.ble pc 11 then (bif Nat.ble pc 4 then (bif Nat.ble pc 1 then (bif Nat.ble pc 0 then (bif Nat.beq pc 0 then js_al 0 1 else js_none) else (bif Nat.beq pc 1 then js_getf 2 1 else js_none)) else (bif Nat.beq pc 4 then js_getf 4 0 else js_none)) else (bif Nat.ble pc 8 then (bif Nat.ble pc 7 then (bif Nat.beq pc 7 then js_al 0 1 else js_none) else (bif Nat.beq pc 8 then js_getf 2 9 else js_none)) else (bif Nat.beq pc 11 then js_ald else js_none))) else (bif Nat.ble pc 16 then (bif Nat.ble pc 13 then (bif Nat.ble pc 12 then (bif Nat.beq pc 12 then js_c 3 1 else js_none) else (bif Nat.beq pc 13 then js_cne 61 else js_none)) else (bif Nat.beq pc 16 then js_al 0 1 else js_none)) else (bif Nat.ble pc 18 then (bif Nat.ble pc 17 then (bif Nat.beq pc 17 then js_al 0 1 else js_none) else (bif Nat.beq pc 18 then js_getf 2 1 else js_none)) else (bif Nat.beq pc 21 then js_getf 4 1 else js_none)))) else (bif Nat.ble pc 33 then (bif Nat.ble pc 28 then (bif Nat.ble pc 25 then (bif Nat.ble pc 24 then (bif Nat.beq pc 24 then js_al 0 1 else js_none) else (bif Nat.beq pc 25 then js_getf 2 9 else js_none)) else (bif Nat.beq pc 28 then js_ald else js_none)) else (bif Nat.ble pc 30 then (bif Nat.ble pc 29 then (bif Nat.beq pc 29 then js_al 0 1 else js_none) else (bif Nat.beq pc 30 then js_getf 2 1 else js_none)) else (bif Nat.beq pc 33 then js_c 6 2 else js_none))) else (bif Nat.ble pc 39 then (bif Nat.ble pc 36 then (bif Nat.ble pc 35 then (bif Nat.beq pc 35 then js_al 0 1 else js_none) else (bif Nat.beq pc 36 then js_getf 2 10 else js_none)) else (bif Nat.beq pc 39 then js_al 0 1 else js_none)) else (bif Nat.ble pc 40 then (bif Nat.beq pc 40 then js_getf 2 1 else js_none) else (bif Nat.beq pc 43 then js_getf 4 2 else js_none))))) else (bif Nat.ble pc 68 then (bif Nat.ble pc 55 then (bif Nat.ble pc 50 then (bif Nat.ble pc 47 then (bif Nat.ble pc 46 then (bif Nat.beq pc 46 then js_al 0 1 else js_none) else (bif Nat.beq pc 47 then js_getf 2 9 else js_none)) else (bif Nat.beq pc 50 then js_ald else js_none)) else (bif Nat.ble pc 52 then (bif Nat.ble pc 51 then (bif Nat.beq pc 51 then js_c 0 1 else js_none) else (bif Nat.beq pc 52 then js_v4 4 63 else js_none)) else (bif Nat.beq pc 55 then js_v2 2 51 else js_none))) else (bif Nat.ble pc 62 then (bif Nat.ble pc 61 then (bif Nat.ble pc 58 then (bif Nat.beq pc 58 then js_go 89 else js_none) else (bif Nat.beq pc 61 then js_al 0 1 else js_none)) else (bif Nat.beq pc 62 then js_getf 2 1 else js_none)) else (bif Nat.ble pc 65 then (bif Nat.beq pc 65 then js_getf 4 0 else js_none) else (bif Nat.beq pc 68 then js_al 0 1 else js_none)))) else (bif Nat.ble pc 78 then (bif Nat.ble pc 73 then (bif Nat.ble pc 72 then (bif Nat.ble pc 69 then (bif Nat.beq pc 69 then js_getf 2 9 else js_none) else (bif Nat.beq pc 72 then js_ald else js_none)) else (bif Nat.beq pc 73 then js_c 5 1 else js_none)) else (bif Nat.ble pc 77 then (bif Nat.ble pc 74 then (bif Nat.beq pc 74 then js_cne 84 else js_none) else (bif Nat.beq pc 77 then js_al 0 1 else js_none)) else (bif Nat.beq pc 78 then js_v0 2 42 else js_none))) else (bif Nat.ble pc 85 then (bif Nat.ble pc 84 then (bif Nat.ble pc 81 then (bif Nat.beq pc 81 then js_go 89 else js_none) else (bif Nat.beq pc 84 then js_al 0 1 else js_none)) else (bif Nat.beq pc 85 then js_c 2 1 else js_none)) else (bif Nat.ble pc 86 then (bif Nat.beq pc 86 then js_v1 2 53 else js_none) else (bif Nat.beq pc 89 then js_vr else js_none)))))
theorem jk_41_0 : jx_Snd 41 0 (js_al 0 1) := jo_aload_n (i := 0) (w := 0) rfl jd_41_0
theorem jk_41_1 : jx_Snd 41 1 (js_getf 2 1) := jo_getf rfl jf_2_21 jd_41_1
theorem jk_41_4 : jx_Snd 41 4 (js_getf 4 0) := jo_getf rfl jf_2_134 jd_41_4
theorem jk_41_7 : jx_Snd 41 7 (js_al 0 1) := jo_aload_n (i := 0) (w := 0) rfl jd_41_7
theorem jk_41_8 : jx_Snd 41 8 (js_getf 2 9) := jo_getf rfl jf_2_125 jd_41_8
theorem jk_41_11 : jx_Snd 41 11 (js_ald) := jo_ald jd_41_11
theorem jk_41_12 : jx_Snd 41 12 (js_c 3 1) := jo_iconst (z := 3) jd_41_12 rfl
theorem jk_41_13 : jx_Snd 41 13 (js_cne 61) := jo_cne (o := 48) rfl jd_41_13
theorem jk_41_16 : jx_Snd 41 16 (js_al 0 1) := jo_aload_n (i := 0) (w := 0) rfl jd_41_16
theorem jk_41_17 : jx_Snd 41 17 (js_al 0 1) := jo_aload_n (i := 0) (w := 0) rfl jd_41_17
theorem jk_41_18 : jx_Snd 41 18 (js_getf 2 1) := jo_getf rfl jf_2_21 jd_41_18
theorem jk_41_21 : jx_Snd 41 21 (js_getf 4 1) := jo_getf rfl jf_2_137 jd_41_21
theorem jk_41_24 : jx_Snd 41 24 (js_al 0 1) := jo_aload_n (i := 0) (w := 0) rfl jd_41_24
theorem jk_41_25 : jx_Snd 41 25 (js_getf 2 9) := jo_getf rfl jf_2_125 jd_41_25
theorem jk_41_28 : jx_Snd 41 28 (js_ald) := jo_ald jd_41_28
theorem jk_41_29 : jx_Snd 41 29 (js_al 0 1) := jo_aload_n (i := 0) (w := 0) rfl jd_41_29
theorem jk_41_30 : jx_Snd 41 30 (js_getf 2 1) := jo_getf rfl jf_2_21 jd_41_30
theorem jk_41_33 : jx_Snd 41 33 (js_c 6 2) := jo_bipush (z := 6) jd_41_33 (by decide +kernel)
theorem jk_41_35 : jx_Snd 41 35 (js_al 0 1) := jo_aload_n (i := 0) (w := 0) rfl jd_41_35
theorem jk_41_36 : jx_Snd 41 36 (js_getf 2 10) := jo_getf rfl jf_2_128 jd_41_36
theorem jk_41_39 : jx_Snd 41 39 (js_al 0 1) := jo_aload_n (i := 0) (w := 0) rfl jd_41_39
theorem jk_41_40 : jx_Snd 41 40 (js_getf 2 1) := jo_getf rfl jf_2_21 jd_41_40
theorem jk_41_43 : jx_Snd 41 43 (js_getf 4 2) := jo_getf rfl jf_2_140 jd_41_43
theorem jk_41_46 : jx_Snd 41 46 (js_al 0 1) := jo_aload_n (i := 0) (w := 0) rfl jd_41_46
theorem jk_41_47 : jx_Snd 41 47 (js_getf 2 9) := jo_getf rfl jf_2_125 jd_41_47
theorem jk_41_50 : jx_Snd 41 50 (js_ald) := jo_ald jd_41_50
theorem jk_41_51 : jx_Snd 41 51 (js_c 0 1) := jo_iconst (z := 0) jd_41_51 rfl
theorem jk_41_52 : jx_Snd 41 52 (js_v4 4 63) := jo_v4 rfl jok_63 (Or.inl jw_251) jw_215 jw_216 rfl jd_41_52
theorem jk_41_55 : jx_Snd 41 55 (js_v2 2 51) := jo_v2 rfl jok_51 (Or.inl jw_218) jw_219 jw_686 rfl jd_41_55
theorem jk_41_58 : jx_Snd 41 58 (js_go 89) := jo_goto (o := 31) rfl jd_41_58
theorem jk_41_61 : jx_Snd 41 61 (js_al 0 1) := jo_aload_n (i := 0) (w := 0) rfl jd_41_61
theorem jk_41_62 : jx_Snd 41 62 (js_getf 2 1) := jo_getf rfl jf_2_21 jd_41_62
theorem jk_41_65 : jx_Snd 41 65 (js_getf 4 0) := jo_getf rfl jf_2_134 jd_41_65
theorem jk_41_68 : jx_Snd 41 68 (js_al 0 1) := jo_aload_n (i := 0) (w := 0) rfl jd_41_68
theorem jk_41_69 : jx_Snd 41 69 (js_getf 2 9) := jo_getf rfl jf_2_125 jd_41_69
theorem jk_41_72 : jx_Snd 41 72 (js_ald) := jo_ald jd_41_72
theorem jk_41_73 : jx_Snd 41 73 (js_c 5 1) := jo_iconst (z := 5) jd_41_73 rfl
theorem jk_41_74 : jx_Snd 41 74 (js_cne 84) := jo_cne (o := 10) rfl jd_41_74
theorem jk_41_77 : jx_Snd 41 77 (js_al 0 1) := jo_aload_n (i := 0) (w := 0) rfl jd_41_77
theorem jk_41_78 : jx_Snd 41 78 (js_v0 2 42) := jo_v0 rfl jok_42 (Or.inl jw_267) jw_268 jw_697 rfl jd_41_78
theorem jk_41_81 : jx_Snd 41 81 (js_go 89) := jo_goto (o := 8) rfl jd_41_81
theorem jk_41_84 : jx_Snd 41 84 (js_al 0 1) := jo_aload_n (i := 0) (w := 0) rfl jd_41_84
theorem jk_41_85 : jx_Snd 41 85 (js_c 2 1) := jo_iconst (z := 2) jd_41_85 rfl
theorem jk_41_86 : jx_Snd 41 86 (js_v1 2 53) := jo_v1 rfl jok_53 (Or.inl jw_235) jw_236 jw_689 rfl jd_41_86
theorem jk_41_89 : jx_Snd 41 89 (js_vr) := jo_vr rfl jd_41_89
theorem jk_41 : jx_So 41 jt_41 := fun pc => jo_le (jo_le (jo_le (jo_le (jo_le (jo_le (jo_at (jk_41_0)) (jo_at (jk_41_1))) (jo_at (jk_41_4))) (jo_le (jo_le (jo_at (jk_41_7)) (jo_at (jk_41_8))) (jo_at (jk_41_11)))) (jo_le (jo_le (jo_le (jo_at (jk_41_12)) (jo_at (jk_41_13))) (jo_at (jk_41_16))) (jo_le (jo_le (jo_at (jk_41_17)) (jo_at (jk_41_18))) (jo_at (jk_41_21))))) (jo_le (jo_le (jo_le (jo_le (jo_at (jk_41_24)) (jo_at (jk_41_25))) (jo_at (jk_41_28))) (jo_le (jo_le (jo_at (jk_41_29)) (jo_at (jk_41_30))) (jo_at (jk_41_33)))) (jo_le (jo_le (jo_le (jo_at (jk_41_35)) (jo_at (jk_41_36))) (jo_at (jk_41_39))) (jo_le (jo_at (jk_41_40)) (jo_at (jk_41_43)))))) (jo_le (jo_le (jo_le (jo_le (jo_le (jo_at (jk_41_46)) (jo_at (jk_41_47))) (jo_at (jk_41_50))) (jo_le (jo_le (jo_at (jk_41_51)) (jo_at (jk_41_52))) (jo_at (jk_41_55)))) (jo_le (jo_le (jo_le (jo_at (jk_41_58)) (jo_at (jk_41_61))) (jo_at (jk_41_62))) (jo_le (jo_at (jk_41_65)) (jo_at (jk_41_68))))) (jo_le (jo_le (jo_le (jo_le (jo_at (jk_41_69)) (jo_at (jk_41_72))) (jo_at (jk_41_73))) (jo_le (jo_le (jo_at (jk_41_74)) (jo_at (jk_41_77))) (jo_at (jk_41_78)))) (jo_le (jo_le (jo_le (jo_at (jk_41_81)) (jo_at (jk_41_84))) (jo_at (jk_41_85))) (jo_le (jo_at (jk_41_86)) (jo_at (jk_41_89))))))
theorem ji_41 {l : Launch} {D : va_G} {cA : ClassId} {ρ : Nat → Nat} {Λ : List jx_Lc} {d : Nat} {Q : Option Value → jx_St → Prop} {σ : jx_St} {z0 : Nat} (h : jt_41 0 Λ jx_tb0 (jx_rn Λ jx_tb0 jt_41 (fun k' as σ K => jx_C l D cA ρ Λ d k' as σ K) Q (jx_J l D cA ρ Λ (jx_A ρ Λ) jx_tb0 (d + 1) 41 Q) [] 400) (fun k' as σ K => jx_C l D cA ρ Λ d k' as σ K) Q 0 [(0, .ref z0)] [] σ) : jx_C l D cA ρ Λ (d + 1) 41 [.ref z0] σ Q := jx_in jk_41 400 [] rfl (Nat.le_of_ble_eq_true rfl) h
/-! ScriptLedger$Machine.takeArgument()V -/
theorem jd_42_0 : decode prog_4_method_9_code 0 = .ok (.aload_n 0, 1) := by decide +kernel
theorem jd_42_1 : decode prog_4_method_9_code 1 = .ok (.getfield 21, 3) := by decide +kernel
theorem jd_42_4 : decode prog_4_method_9_code 4 = .ok (.getfield 137, 3) := by decide +kernel
theorem jd_42_7 : decode prog_4_method_9_code 7 = .ok (.aload_n 0, 1) := by decide +kernel
theorem jd_42_8 : decode prog_4_method_9_code 8 = .ok (.getfield 125, 3) := by decide +kernel
theorem jd_42_11 : decode prog_4_method_9_code 11 = .ok (.iaload, 1) := by decide +kernel
theorem jd_42_12 : decode prog_4_method_9_code 12 = .ok (.istore_n 1, 1) := by decide +kernel
theorem jd_42_13 : decode prog_4_method_9_code 13 = .ok (.aload_n 0, 1) := by decide +kernel
theorem jd_42_14 : decode prog_4_method_9_code 14 = .ok (.getfield 21, 3) := by decide +kernel
theorem jd_42_17 : decode prog_4_method_9_code 17 = .ok (.getfield 144, 3) := by decide +kernel
theorem jd_42_20 : decode prog_4_method_9_code 20 = .ok (.aload_n 0, 1) := by decide +kernel
theorem jd_42_21 : decode prog_4_method_9_code 21 = .ok (.getfield 125, 3) := by decide +kernel
theorem jd_42_24 : decode prog_4_method_9_code 24 = .ok (.iaload, 1) := by decide +kernel
theorem jd_42_25 : decode prog_4_method_9_code 25 = .ok (.iconst 1, 1) := by decide +kernel
theorem jd_42_26 : decode prog_4_method_9_code 26 = .ok (.iadd, 1) := by decide +kernel
theorem jd_42_27 : decode prog_4_method_9_code 27 = .ok (.istore_n 2, 1) := by decide +kernel
theorem jd_42_28 : decode prog_4_method_9_code 28 = .ok (.aload_n 0, 1) := by decide +kernel
theorem jd_42_29 : decode prog_4_method_9_code 29 = .ok (.getfield 21, 3) := by decide +kernel
theorem jd_42_32 : decode prog_4_method_9_code 32 = .ok (.bipush 6, 2) := by decide +kernel
theorem jd_42_34 : decode prog_4_method_9_code 34 = .ok (.aload_n 0, 1) := by decide +kernel
theorem jd_42_35 : decode prog_4_method_9_code 35 = .ok (.getfield 128, 3) := by decide +kernel
theorem jd_42_38 : decode prog_4_method_9_code 38 = .ok (.aload_n 0, 1) := by decide +kernel
theorem jd_42_39 : decode prog_4_method_9_code 39 = .ok (.getfield 21, 3) := by decide +kernel
theorem jd_42_42 : decode prog_4_method_9_code 42 = .ok (.getfield 140, 3) := by decide +kernel
theorem jd_42_45 : decode prog_4_method_9_code 45 = .ok (.aload_n 0, 1) := by decide +kernel
theorem jd_42_46 : decode prog_4_method_9_code 46 = .ok (.getfield 125, 3) := by decide +kernel
theorem jd_42_49 : decode prog_4_method_9_code 49 = .ok (.iaload, 1) := by decide +kernel
theorem jd_42_50 : decode prog_4_method_9_code 50 = .ok (.iconst 0, 1) := by decide +kernel
theorem jd_42_51 : decode prog_4_method_9_code 51 = .ok (.invokevirtual 115, 3) := by decide +kernel
theorem jd_42_54 : decode prog_4_method_9_code 54 = .ok (.istore_n 3, 1) := by decide +kernel
theorem jd_42_55 : decode prog_4_method_9_code 55 = .ok (.aload_n 0, 1) := by decide +kernel
theorem jd_42_56 : decode prog_4_method_9_code 56 = .ok (.aload_n 0, 1) := by decide +kernel
theorem jd_42_57 : decode prog_4_method_9_code 57 = .ok (.getfield 21, 3) := by decide +kernel
theorem jd_42_60 : decode prog_4_method_9_code 60 = .ok (.iconst 5, 1) := by decide +kernel
theorem jd_42_61 : decode prog_4_method_9_code 61 = .ok (.iload_n 1, 1) := by decide +kernel
theorem jd_42_62 : decode prog_4_method_9_code 62 = .ok (.iload_n 3, 1) := by decide +kernel
theorem jd_42_63 : decode prog_4_method_9_code 63 = .ok (.iload_n 2, 1) := by decide +kernel
theorem jd_42_64 : decode prog_4_method_9_code 64 = .ok (.invokevirtual 115, 3) := by decide +kernel
theorem jd_42_67 : decode prog_4_method_9_code 67 = .ok (.putfield 125, 3) := by decide +kernel
theorem jd_42_70 : decode prog_4_method_9_code 70 = .ok (.aload_n 0, 1) := by decide +kernel
theorem jd_42_71 : decode prog_4_method_9_code 71 = .ok (.iload_n 2, 1) := by decide +kernel
theorem jd_42_72 : decode prog_4_method_9_code 72 = .ok (.getstatic 147, 3) := by decide +kernel
theorem jd_42_75 : decode prog_4_method_9_code 75 = .ok (.iload_n 1, 1) := by decide +kernel
theorem jd_42_76 : decode prog_4_method_9_code 76 = .ok (.iaload, 1) := by decide +kernel
theorem jd_42_77 : decode prog_4_method_9_code 77 = .ok (.if_icmp .ge 7, 3) := by decide +kernel
theorem jd_42_80 : decode prog_4_method_9_code 80 = .ok (.iconst 1, 1) := by decide +kernel
theorem jd_42_81 : decode prog_4_method_9_code 81 = .ok (.goto 4, 3) := by decide +kernel
theorem jd_42_84 : decode prog_4_method_9_code 84 = .ok (.iconst 3, 1) := by decide +kernel
theorem jd_42_85 : decode prog_4_method_9_code 85 = .ok (.putfield 59, 3) := by decide +kernel
theorem jd_42_88 : decode prog_4_method_9_code 88 = .ok (.return_, 1) := by decide +kernel
def jt_42 (pc : Nat) : jx_Sp := bif Nat.ble pc 45 then (bif Nat.ble pc 24 then (bif Nat.ble pc 12 then (bif Nat.ble pc 7 then (bif Nat.ble pc 1 then (bif Nat.ble pc 0 then (bif Nat.beq pc 0 then js_al 0 1 else js_none) else (bif Nat.beq pc 1 then js_getf 2 1 else js_none)) else (bif Nat.ble pc 4 then (bif Nat.beq pc 4 then js_getf 4 1 else js_none) else (bif Nat.beq pc 7 then js_al 0 1 else js_none))) else (bif Nat.ble pc 11 then (bif Nat.ble pc 8 then (bif Nat.beq pc 8 then js_getf 2 9 else js_none) else (bif Nat.beq pc 11 then js_ald else js_none)) else (bif Nat.beq pc 12 then js_is 1 1 else js_none))) else (bif Nat.ble pc 17 then (bif Nat.ble pc 14 then (bif Nat.ble pc 13 then (bif Nat.beq pc 13 then js_al 0 1 else js_none) else (bif Nat.beq pc 14 then js_getf 2 1 else js_none)) else (bif Nat.beq pc 17 then js_getf 4 3 else js_none)) else (bif Nat.ble pc 21 then (bif Nat.ble pc 20 then (bif Nat.beq pc 20 then js_al 0 1 else js_none) else (bif Nat.beq pc 21 then js_getf 2 9 else js_none)) else (bif Nat.beq pc 24 then js_ald else js_none)))) else (bif Nat.ble pc 32 then (bif Nat.ble pc 27 then (bif Nat.ble pc 26 then (bif Nat.ble pc 25 then (bif Nat.beq pc 25 then js_c 1 1 else js_none) else (bif Nat.beq pc 26 then js_iadd else js_none)) else (bif Nat.beq pc 27 then js_is 2 1 else js_none)) else (bif Nat.ble pc 29 then (bif Nat.ble pc 28 then (bif Nat.beq pc 28 then js_al 0 1 else js_none) else (bif Nat.beq pc 29 then js_getf 2 1 else js_none)) else (bif Nat.beq pc 32 then js_c 6 2 else js_none))) else (bif Nat.ble pc 38 then (bif Nat.ble pc 35 then (bif Nat.ble pc 34 then (bif Nat.beq pc 34 then js_al 0 1 else js_none) else (bif Nat.beq pc 35 then js_getf 2 10 else js_none)) else (bif Nat.beq pc 38 then js_al 0 1 else js_none)) else (bif Nat.ble pc 42 then (bif Nat.ble pc 39 then (bif Nat.beq pc 39 then js_getf 2 1 else js_none) else (bif Nat.beq pc 42 then js_getf 4 2 else js_none)) else (bif Nat.beq pc 45 then js_al 0 1 else js_none))))) else (bif Nat.ble pc 64 then (bif Nat.ble pc 56 then (bif Nat.ble pc 51 then (bif Nat.ble pc 49 then (bif Nat.ble pc 46 then (bif Nat.beq pc 46 then js_getf 2 9 else js_none) else (bif Nat.beq pc 49 then js_ald else js_none)) else (bif Nat.ble pc 50 then (bif Nat.beq pc 50 then js_c 0 1 else js_none) else (bif Nat.beq pc 51 then js_v4 4 63 else js_none))) else (bif Nat.ble pc 55 then (bif Nat.ble pc 54 then (bif Nat.beq pc 54 then js_is 3 1 else js_none) else (bif Nat.beq pc 55 then js_al 0 1 else js_none)) else (bif Nat.beq pc 56 then js_al 0 1 else js_none))) else (bif Nat.ble pc 61 then (bif Nat.ble pc 60 then (bif Nat.ble pc 57 then (bif Nat.beq pc 57 then js_getf 2 1 else js_none) else (bif Nat.beq pc 60 then js_c 5 1 else js_none)) else (bif Nat.beq pc 61 then js_il 1 1 else js_none)) else (bif Nat.ble pc 63 then (bif Nat.ble pc 62 then (bif Nat.beq pc 62 then js_il 3 1 else js_none) else (bif Nat.beq pc 63 then js_il 2 1 else js_none)) else (bif Nat.beq pc 64 then js_v4 4 63 else js_none)))) else (bif Nat.ble pc 76 then (bif Nat.ble pc 71 then (bif Nat.ble pc 70 then (bif Nat.ble pc 67 then (bif Nat.beq pc 67 then js_putf 2 9 false else js_none) else (bif Nat.beq pc 70 then js_al 0 1 else js_none)) else (bif Nat.beq pc 71 then js_il 2 1 else js_none)) else (bif Nat.ble pc 75 then (bif Nat.ble pc 72 then (bif Nat.beq pc 72 then js_gets 900 else js_none) else (bif Nat.beq pc 75 then js_il 1 1 else js_none)) else (bif Nat.beq pc 76 then js_ald else js_none))) else (bif Nat.ble pc 81 then (bif Nat.ble pc 80 then (bif Nat.ble pc 77 then (bif Nat.beq pc 77 then js_cge 84 else js_none) else (bif Nat.beq pc 80 then js_c 1 1 else js_none)) else (bif Nat.beq pc 81 then js_go 85 else js_none)) else (bif Nat.ble pc 85 then (bif Nat.ble pc 84 then (bif Nat.beq pc 84 then js_c 3 1 else js_none) else (bif Nat.beq pc 85 then js_putf 2 6 false else js_none)) else (bif Nat.beq pc 88 then js_vr else js_none)))))
theorem jk_42_0 : jx_Snd 42 0 (js_al 0 1) := jo_aload_n (i := 0) (w := 0) rfl jd_42_0
theorem jk_42_1 : jx_Snd 42 1 (js_getf 2 1) := jo_getf rfl jf_2_21 jd_42_1
theorem jk_42_4 : jx_Snd 42 4 (js_getf 4 1) := jo_getf rfl jf_2_137 jd_42_4
theorem jk_42_7 : jx_Snd 42 7 (js_al 0 1) := jo_aload_n (i := 0) (w := 0) rfl jd_42_7
theorem jk_42_8 : jx_Snd 42 8 (js_getf 2 9) := jo_getf rfl jf_2_125 jd_42_8
theorem jk_42_11 : jx_Snd 42 11 (js_ald) := jo_ald jd_42_11
theorem jk_42_12 : jx_Snd 42 12 (js_is 1 1) := jo_istore_n (i := 1) (w := 1) rfl (Nat.le_of_ble_eq_true rfl) jd_42_12
theorem jk_42_13 : jx_Snd 42 13 (js_al 0 1) := jo_aload_n (i := 0) (w := 0) rfl jd_42_13
theorem jk_42_14 : jx_Snd 42 14 (js_getf 2 1) := jo_getf rfl jf_2_21 jd_42_14
theorem jk_42_17 : jx_Snd 42 17 (js_getf 4 3) := jo_getf rfl jf_2_144 jd_42_17
theorem jk_42_20 : jx_Snd 42 20 (js_al 0 1) := jo_aload_n (i := 0) (w := 0) rfl jd_42_20
theorem jk_42_21 : jx_Snd 42 21 (js_getf 2 9) := jo_getf rfl jf_2_125 jd_42_21
theorem jk_42_24 : jx_Snd 42 24 (js_ald) := jo_ald jd_42_24
theorem jk_42_25 : jx_Snd 42 25 (js_c 1 1) := jo_iconst (z := 1) jd_42_25 rfl
theorem jk_42_26 : jx_Snd 42 26 (js_iadd) := jo_iadd jd_42_26
theorem jk_42_27 : jx_Snd 42 27 (js_is 2 1) := jo_istore_n (i := 2) (w := 2) rfl (Nat.le_of_ble_eq_true rfl) jd_42_27
theorem jk_42_28 : jx_Snd 42 28 (js_al 0 1) := jo_aload_n (i := 0) (w := 0) rfl jd_42_28
theorem jk_42_29 : jx_Snd 42 29 (js_getf 2 1) := jo_getf rfl jf_2_21 jd_42_29
theorem jk_42_32 : jx_Snd 42 32 (js_c 6 2) := jo_bipush (z := 6) jd_42_32 (by decide +kernel)
theorem jk_42_34 : jx_Snd 42 34 (js_al 0 1) := jo_aload_n (i := 0) (w := 0) rfl jd_42_34
theorem jk_42_35 : jx_Snd 42 35 (js_getf 2 10) := jo_getf rfl jf_2_128 jd_42_35
theorem jk_42_38 : jx_Snd 42 38 (js_al 0 1) := jo_aload_n (i := 0) (w := 0) rfl jd_42_38
theorem jk_42_39 : jx_Snd 42 39 (js_getf 2 1) := jo_getf rfl jf_2_21 jd_42_39
theorem jk_42_42 : jx_Snd 42 42 (js_getf 4 2) := jo_getf rfl jf_2_140 jd_42_42
theorem jk_42_45 : jx_Snd 42 45 (js_al 0 1) := jo_aload_n (i := 0) (w := 0) rfl jd_42_45
theorem jk_42_46 : jx_Snd 42 46 (js_getf 2 9) := jo_getf rfl jf_2_125 jd_42_46
theorem jk_42_49 : jx_Snd 42 49 (js_ald) := jo_ald jd_42_49
theorem jk_42_50 : jx_Snd 42 50 (js_c 0 1) := jo_iconst (z := 0) jd_42_50 rfl
theorem jk_42_51 : jx_Snd 42 51 (js_v4 4 63) := jo_v4 rfl jok_63 (Or.inl jw_251) jw_215 jw_216 rfl jd_42_51
theorem jk_42_54 : jx_Snd 42 54 (js_is 3 1) := jo_istore_n (i := 3) (w := 3) rfl (Nat.le_of_ble_eq_true rfl) jd_42_54
theorem jk_42_55 : jx_Snd 42 55 (js_al 0 1) := jo_aload_n (i := 0) (w := 0) rfl jd_42_55
theorem jk_42_56 : jx_Snd 42 56 (js_al 0 1) := jo_aload_n (i := 0) (w := 0) rfl jd_42_56
theorem jk_42_57 : jx_Snd 42 57 (js_getf 2 1) := jo_getf rfl jf_2_21 jd_42_57
theorem jk_42_60 : jx_Snd 42 60 (js_c 5 1) := jo_iconst (z := 5) jd_42_60 rfl
theorem jk_42_61 : jx_Snd 42 61 (js_il 1 1) := jo_iload_n (i := 1) (w := 1) rfl jd_42_61
theorem jk_42_62 : jx_Snd 42 62 (js_il 3 1) := jo_iload_n (i := 3) (w := 3) rfl jd_42_62
theorem jk_42_63 : jx_Snd 42 63 (js_il 2 1) := jo_iload_n (i := 2) (w := 2) rfl jd_42_63
theorem jk_42_64 : jx_Snd 42 64 (js_v4 4 63) := jo_v4 rfl jok_63 (Or.inl jw_251) jw_215 jw_216 rfl jd_42_64
theorem jk_42_67 : jx_Snd 42 67 (js_putf 2 9 false) := jo_putf (z := false) rfl jf_2_125 (fun C T N h => by cases h; rfl) jd_42_67
theorem jk_42_70 : jx_Snd 42 70 (js_al 0 1) := jo_aload_n (i := 0) (w := 0) rfl jd_42_70
theorem jk_42_71 : jx_Snd 42 71 (js_il 2 1) := jo_iload_n (i := 2) (w := 2) rfl jd_42_71
theorem jk_42_72 : jx_Snd 42 72 (js_gets 900) := jo_gets rfl (List.mem_of_getElem? (i := 0) rfl) jw_270 jd_42_72
theorem jk_42_75 : jx_Snd 42 75 (js_il 1 1) := jo_iload_n (i := 1) (w := 1) rfl jd_42_75
theorem jk_42_76 : jx_Snd 42 76 (js_ald) := jo_ald jd_42_76
theorem jk_42_77 : jx_Snd 42 77 (js_cge 84) := jo_cge (o := 7) rfl jd_42_77
theorem jk_42_80 : jx_Snd 42 80 (js_c 1 1) := jo_iconst (z := 1) jd_42_80 rfl
theorem jk_42_81 : jx_Snd 42 81 (js_go 85) := jo_goto (o := 4) rfl jd_42_81
theorem jk_42_84 : jx_Snd 42 84 (js_c 3 1) := jo_iconst (z := 3) jd_42_84 rfl
theorem jk_42_85 : jx_Snd 42 85 (js_putf 2 6 false) := jo_putf (z := false) rfl jf_2_59 (fun C T N h => by cases h; rfl) jd_42_85
theorem jk_42_88 : jx_Snd 42 88 (js_vr) := jo_vr rfl jd_42_88
theorem jk_42 : jx_So 42 jt_42 := fun pc => jo_le (jo_le (jo_le (jo_le (jo_le (jo_le (jo_at (jk_42_0)) (jo_at (jk_42_1))) (jo_le (jo_at (jk_42_4)) (jo_at (jk_42_7)))) (jo_le (jo_le (jo_at (jk_42_8)) (jo_at (jk_42_11))) (jo_at (jk_42_12)))) (jo_le (jo_le (jo_le (jo_at (jk_42_13)) (jo_at (jk_42_14))) (jo_at (jk_42_17))) (jo_le (jo_le (jo_at (jk_42_20)) (jo_at (jk_42_21))) (jo_at (jk_42_24))))) (jo_le (jo_le (jo_le (jo_le (jo_at (jk_42_25)) (jo_at (jk_42_26))) (jo_at (jk_42_27))) (jo_le (jo_le (jo_at (jk_42_28)) (jo_at (jk_42_29))) (jo_at (jk_42_32)))) (jo_le (jo_le (jo_le (jo_at (jk_42_34)) (jo_at (jk_42_35))) (jo_at (jk_42_38))) (jo_le (jo_le (jo_at (jk_42_39)) (jo_at (jk_42_42))) (jo_at (jk_42_45)))))) (jo_le (jo_le (jo_le (jo_le (jo_le (jo_at (jk_42_46)) (jo_at (jk_42_49))) (jo_le (jo_at (jk_42_50)) (jo_at (jk_42_51)))) (jo_le (jo_le (jo_at (jk_42_54)) (jo_at (jk_42_55))) (jo_at (jk_42_56)))) (jo_le (jo_le (jo_le (jo_at (jk_42_57)) (jo_at (jk_42_60))) (jo_at (jk_42_61))) (jo_le (jo_le (jo_at (jk_42_62)) (jo_at (jk_42_63))) (jo_at (jk_42_64))))) (jo_le (jo_le (jo_le (jo_le (jo_at (jk_42_67)) (jo_at (jk_42_70))) (jo_at (jk_42_71))) (jo_le (jo_le (jo_at (jk_42_72)) (jo_at (jk_42_75))) (jo_at (jk_42_76)))) (jo_le (jo_le (jo_le (jo_at (jk_42_77)) (jo_at (jk_42_80))) (jo_at (jk_42_81))) (jo_le (jo_le (jo_at (jk_42_84)) (jo_at (jk_42_85))) (jo_at (jk_42_88))))))
theorem ji_42 {l : Launch} {D : va_G} {cA : ClassId} {ρ : Nat → Nat} {Λ : List jx_Lc} {d : Nat} {Q : Option Value → jx_St → Prop} {σ : jx_St} {z0 : Nat} (h : jt_42 0 Λ jx_tb0 (jx_rn Λ jx_tb0 jt_42 (fun k' as σ K => jx_C l D cA ρ Λ d k' as σ K) Q (jx_J l D cA ρ Λ (jx_A ρ Λ) jx_tb0 (d + 1) 42 Q) [] 400) (fun k' as σ K => jx_C l D cA ρ Λ d k' as σ K) Q 0 [(0, .ref z0)] [] σ) : jx_C l D cA ρ Λ (d + 1) 42 [.ref z0] σ Q := jx_in jk_42 400 [] rfl (Nat.le_of_ble_eq_true rfl) h

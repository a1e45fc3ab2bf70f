/-! ScriptLedger.<init>(I)V -/
theorem jd_0_0 : decode prog_1_method_1_code 0 = .ok (.aload_n 0, 1) := by decide +kernel
theorem jd_0_1 : decode prog_1_method_1_code 1 = .ok (.invokespecial 1, 3) := by decide +kernel
theorem jd_0_4 : decode prog_1_method_1_code 4 = .ok (.aload_n 0, 1) := by decide +kernel
theorem jd_0_5 : decode prog_1_method_1_code 5 = .ok (.new 7, 3) := by decide +kernel
theorem jd_0_8 : decode prog_1_method_1_code 8 = .ok (.dup, 1) := by decide +kernel
theorem jd_0_9 : decode prog_1_method_1_code 9 = .ok (.invokespecial 9, 3) := by decide +kernel
theorem jd_0_12 : decode prog_1_method_1_code 12 = .ok (.putfield 10, 3) := by decide +kernel
theorem jd_0_15 : decode prog_1_method_1_code 15 = .ok (.aload_n 0, 1) := by decide +kernel
theorem jd_0_16 : decode prog_1_method_1_code 16 = .ok (.new 16, 3) := by decide +kernel
theorem jd_0_19 : decode prog_1_method_1_code 19 = .ok (.dup, 1) := by decide +kernel
theorem jd_0_20 : decode prog_1_method_1_code 20 = .ok (.invokespecial 18, 3) := by decide +kernel
theorem jd_0_23 : decode prog_1_method_1_code 23 = .ok (.putfield 19, 3) := by decide +kernel
theorem jd_0_26 : decode prog_1_method_1_code 26 = .ok (.aload_n 0, 1) := by decide +kernel
theorem jd_0_27 : decode prog_1_method_1_code 27 = .ok (.new 23, 3) := by decide +kernel
theorem jd_0_30 : decode prog_1_method_1_code 30 = .ok (.dup, 1) := by decide +kernel
theorem jd_0_31 : decode prog_1_method_1_code 31 = .ok (.iload_n 1, 1) := by decide +kernel
theorem jd_0_32 : decode prog_1_method_1_code 32 = .ok (.invokespecial 25, 3) := by decide +kernel
theorem jd_0_35 : decode prog_1_method_1_code 35 = .ok (.putfield 28, 3) := by decide +kernel
theorem jd_0_38 : decode prog_1_method_1_code 38 = .ok (.aload_n 0, 1) := by decide +kernel
theorem jd_0_39 : decode prog_1_method_1_code 39 = .ok (.new 32, 3) := by decide +kernel
theorem jd_0_42 : decode prog_1_method_1_code 42 = .ok (.dup, 1) := by decide +kernel
theorem jd_0_43 : decode prog_1_method_1_code 43 = .ok (.invokespecial 34, 3) := by decide +kernel
theorem jd_0_46 : decode prog_1_method_1_code 46 = .ok (.putfield 35, 3) := by decide +kernel
theorem jd_0_49 : decode prog_1_method_1_code 49 = .ok (.aload_n 0, 1) := by decide +kernel
theorem jd_0_50 : decode prog_1_method_1_code 50 = .ok (.bipush 10, 2) := by decide +kernel
theorem jd_0_52 : decode prog_1_method_1_code 52 = .ok (.newarray .int, 2) := by decide +kernel
theorem jd_0_54 : decode prog_1_method_1_code 54 = .ok (.putfield 39, 3) := by decide +kernel
theorem jd_0_57 : decode prog_1_method_1_code 57 = .ok (.aload_n 0, 1) := by decide +kernel
theorem jd_0_58 : decode prog_1_method_1_code 58 = .ok (.iconst 0, 1) := by decide +kernel
theorem jd_0_59 : decode prog_1_method_1_code 59 = .ok (.newarray .int, 2) := by decide +kernel
theorem jd_0_61 : decode prog_1_method_1_code 61 = .ok (.putfield 43, 3) := by decide +kernel
theorem jd_0_64 : decode prog_1_method_1_code 64 = .ok (.return_, 1) := by decide +kernel
def jnt_0 (pc : Nat) : jn_Sp := bif Nat.ble pc 31 then (bif Nat.ble pc 15 then (bif Nat.ble pc 5 then (bif Nat.ble pc 1 then (bif Nat.ble pc 0 then (bif Nat.beq pc 0 then jn_of (js_al 0 1) else jn_none) else (bif Nat.beq pc 1 then jn_obj else jn_none)) else (bif Nat.ble pc 4 then (bif Nat.beq pc 4 then jn_of (js_al 0 1) else jn_none) else (bif Nat.beq pc 5 then jn_new 1 2 [some none, none] else jn_none))) else (bif Nat.ble pc 9 then (bif Nat.ble pc 8 then (bif Nat.beq pc 8 then jn_of (js_dup) else jn_none) else (bif Nat.beq pc 9 then jn_i0 32 1 48 else jn_none)) else (bif Nat.ble pc 12 then (bif Nat.beq pc 12 then jn_putr 0 0 else jn_none) else (bif Nat.beq pc 15 then jn_of (js_al 0 1) else jn_none)))) else (bif Nat.ble pc 23 then (bif Nat.ble pc 19 then (bif Nat.ble pc 16 then (bif Nat.beq pc 16 then jn_new 2 16 [some none, some none, some none, some none, some none, none, none, none, none, none, none, none, none, none, none, none] else jn_none) else (bif Nat.beq pc 19 then jn_of (js_dup) else jn_none)) else (bif Nat.ble pc 20 then (bif Nat.beq pc 20 then jn_i0 34 11 3016 else jn_none) else (bif Nat.beq pc 23 then jn_putr 0 1 else jn_none))) else (bif Nat.ble pc 27 then (bif Nat.ble pc 26 then (bif Nat.beq pc 26 then jn_of (js_al 0 1) else jn_none) else (bif Nat.beq pc 27 then jn_new 5 6 [some none, some none, some none, some none, none, none] else jn_none)) else (bif Nat.ble pc 30 then (bif Nat.beq pc 30 then jn_of (js_dup) else jn_none) else (bif Nat.beq pc 31 then jn_of (js_il 1 1) else jn_none))))) else (bif Nat.ble pc 49 then (bif Nat.ble pc 39 then (bif Nat.ble pc 35 then (bif Nat.ble pc 32 then (bif Nat.beq pc 32 then jn_i1 67 7 374 else jn_none) else (bif Nat.beq pc 35 then jn_putr 0 2 else jn_none)) else (bif Nat.ble pc 38 then (bif Nat.beq pc 38 then jn_of (js_al 0 1) else jn_none) else (bif Nat.beq pc 39 then jn_new 7 12 [some none, some none, none, some none, some none, some none, none, none, none, none, none, none] else jn_none))) else (bif Nat.ble pc 43 then (bif Nat.ble pc 42 then (bif Nat.beq pc 42 then jn_of (js_dup) else jn_none) else (bif Nat.beq pc 43 then jn_i0 81 8 256 else jn_none)) else (bif Nat.ble pc 46 then (bif Nat.beq pc 46 then jn_putr 0 3 else jn_none) else (bif Nat.beq pc 49 then jn_of (js_al 0 1) else jn_none)))) else (bif Nat.ble pc 57 then (bif Nat.ble pc 52 then (bif Nat.ble pc 50 then (bif Nat.beq pc 50 then jn_of (js_c 10 2) else jn_none) else (bif Nat.beq pc 52 then jn_newa else jn_none)) else (bif Nat.ble pc 54 then (bif Nat.beq pc 54 then jn_putr 0 4 else jn_none) else (bif Nat.beq pc 57 then jn_of (js_al 0 1) else jn_none))) else (bif Nat.ble pc 59 then (bif Nat.ble pc 58 then (bif Nat.beq pc 58 then jn_of (js_c 0 1) else jn_none) else (bif Nat.beq pc 59 then jn_newa else jn_none)) else (bif Nat.ble pc 61 then (bif Nat.beq pc 61 then jn_putr 0 5 else jn_none) else (bif Nat.beq pc 64 then jn_vr else jn_none)))))
theorem jnk_0_0 : jn_Snd 0 0 (jn_of (js_al 0 1)) := jn_lift (jo_aload_n (i := 0) (w := 0) rfl jd_0_0)
theorem jnk_0_1 : jn_Snd 0 1 (jn_obj) := jno_obj rfl jw_16 jw_17 jw_18 jd_0_1
theorem jnk_0_4 : jn_Snd 0 4 (jn_of (js_al 0 1)) := jn_lift (jo_aload_n (i := 0) (w := 0) rfl jd_0_4)
theorem jnk_0_5 : jn_Snd 0 5 (jn_new 1 2 [some none, none]) := jno_new (tt := ju_1) rfl rfl jhl_1 jty_1 jw_19 jw_20 jw_2 rfl (by decide +kernel) jd_0_5
theorem jnk_0_8 : jn_Snd 0 8 (jn_of (js_dup)) := jn_lift (jo_dup jd_0_8)
theorem jnk_0_9 : jn_Snd 0 9 (jn_i0 32 1 48) := jno_i0 rfl jok_32 (Or.inr ⟨_, List.mem_of_getElem? (i := 0) rfl⟩) jw_21 rfl rfl jd_0_9
theorem jnk_0_12 : jn_Snd 0 12 (jn_putr 0 0) := jno_putr rfl rfl jf_0_10 (fun C T N h => by cases h; exact ⟨rfl, rfl⟩) ⟨_, _, _, rfl, jw_162⟩ (fun a => ⟨rfl, rfl⟩) jd_0_12
theorem jnk_0_15 : jn_Snd 0 15 (jn_of (js_al 0 1)) := jn_lift (jo_aload_n (i := 0) (w := 0) rfl jd_0_15)
theorem jnk_0_16 : jn_Snd 0 16 (jn_new 2 16 [some none, some none, some none, some none, some none, none, none, none, none, none, none, none, none, none, none, none]) := jno_new (tt := ju_2) rfl rfl jhl_2 jty_2 jw_29 jw_30 jw_3 rfl (by decide +kernel) jd_0_16
theorem jnk_0_19 : jn_Snd 0 19 (jn_of (js_dup)) := jn_lift (jo_dup jd_0_19)
theorem jnk_0_20 : jn_Snd 0 20 (jn_i0 34 11 3016) := jno_i0 rfl jok_34 (Or.inr ⟨_, List.mem_of_getElem? (i := 1) rfl⟩) jw_31 rfl rfl jd_0_20
theorem jnk_0_23 : jn_Snd 0 23 (jn_putr 0 1) := jno_putr rfl rfl jf_0_19 (fun C T N h => by cases h; exact ⟨rfl, rfl⟩) ⟨_, _, _, rfl, jw_163⟩ (fun a => ⟨rfl, rfl⟩) jd_0_23
theorem jnk_0_26 : jn_Snd 0 26 (jn_of (js_al 0 1)) := jn_lift (jo_aload_n (i := 0) (w := 0) rfl jd_0_26)
theorem jnk_0_27 : jn_Snd 0 27 (jn_new 5 6 [some none, some none, some none, some none, none, none]) := jno_new (tt := ju_5) rfl rfl jhl_5 jty_5 jw_79 jw_80 jw_6 rfl (by decide +kernel) jd_0_27
theorem jnk_0_30 : jn_Snd 0 30 (jn_of (js_dup)) := jn_lift (jo_dup jd_0_30)
theorem jnk_0_31 : jn_Snd 0 31 (jn_of (js_il 1 1)) := jn_lift (jo_iload_n (i := 1) (w := 1) rfl jd_0_31)
theorem jnk_0_32 : jn_Snd 0 32 (jn_i1 67 7 374) := jno_i1 rfl jok_67 (Or.inl jw_81) jw_82 rfl rfl jd_0_32
theorem jnk_0_35 : jn_Snd 0 35 (jn_putr 0 2) := jno_putr rfl rfl jf_0_28 (fun C T N h => by cases h; exact ⟨rfl, rfl⟩) ⟨_, _, _, rfl, jw_164⟩ (fun a => ⟨rfl, rfl⟩) jd_0_35
theorem jnk_0_38 : jn_Snd 0 38 (jn_of (js_al 0 1)) := jn_lift (jo_aload_n (i := 0) (w := 0) rfl jd_0_38)
theorem jnk_0_39 : jn_Snd 0 39 (jn_new 7 12 [some none, some none, none, some none, some none, some none, none, none, none, none, none, none]) := jno_new (tt := ju_7) rfl rfl jhl_7 jty_7 jw_122 jw_123 jw_9 rfl (by decide +kernel) jd_0_39
theorem jnk_0_42 : jn_Snd 0 42 (jn_of (js_dup)) := jn_lift (jo_dup jd_0_42)
theorem jnk_0_43 : jn_Snd 0 43 (jn_i0 81 8 256) := jno_i0 rfl jok_81 (Or.inl jw_124) jw_125 rfl rfl jd_0_43
theorem jnk_0_46 : jn_Snd 0 46 (jn_putr 0 3) := jno_putr rfl rfl jf_0_35 (fun C T N h => by cases h; exact ⟨rfl, rfl⟩) ⟨_, _, _, rfl, jw_165⟩ (fun a => ⟨rfl, rfl⟩) jd_0_46
theorem jnk_0_49 : jn_Snd 0 49 (jn_of (js_al 0 1)) := jn_lift (jo_aload_n (i := 0) (w := 0) rfl jd_0_49)
theorem jnk_0_50 : jn_Snd 0 50 (jn_of (js_c 10 2)) := jn_lift (jo_bipush (z := 10) jd_0_50 (by decide +kernel))
theorem jnk_0_52 : jn_Snd 0 52 (jn_newa) := jno_newa (at_ := .int) rfl jw_28 jd_0_52
theorem jnk_0_54 : jn_Snd 0 54 (jn_putr 0 4) := jno_putr rfl rfl jf_0_39 (fun C T N h => by cases h; exact ⟨rfl, rfl⟩) ⟨_, _, _, rfl, jw_166⟩ (fun a => ⟨rfl, rfl⟩) jd_0_54
theorem jnk_0_57 : jn_Snd 0 57 (jn_of (js_al 0 1)) := jn_lift (jo_aload_n (i := 0) (w := 0) rfl jd_0_57)
theorem jnk_0_58 : jn_Snd 0 58 (jn_of (js_c 0 1)) := jn_lift (jo_iconst (z := 0) jd_0_58 rfl)
theorem jnk_0_59 : jn_Snd 0 59 (jn_newa) := jno_newa (at_ := .int) rfl jw_28 jd_0_59
theorem jnk_0_61 : jn_Snd 0 61 (jn_putr 0 5) := jno_putr rfl rfl jf_0_43 (fun C T N h => by cases h; exact ⟨rfl, rfl⟩) ⟨_, _, _, rfl, jw_167⟩ (fun a => ⟨rfl, rfl⟩) jd_0_61
theorem jnk_0_64 : jn_Snd 0 64 (jn_vr) := jno_vr jd_0_64
theorem jnk_0 : jn_So 0 jnt_0 := fun pc => jno_le (jno_le (jno_le (jno_le (jno_le (jno_at (jnk_0_0)) (jno_at (jnk_0_1))) (jno_le (jno_at (jnk_0_4)) (jno_at (jnk_0_5)))) (jno_le (jno_le (jno_at (jnk_0_8)) (jno_at (jnk_0_9))) (jno_le (jno_at (jnk_0_12)) (jno_at (jnk_0_15))))) (jno_le (jno_le (jno_le (jno_at (jnk_0_16)) (jno_at (jnk_0_19))) (jno_le (jno_at (jnk_0_20)) (jno_at (jnk_0_23)))) (jno_le (jno_le (jno_at (jnk_0_26)) (jno_at (jnk_0_27))) (jno_le (jno_at (jnk_0_30)) (jno_at (jnk_0_31)))))) (jno_le (jno_le (jno_le (jno_le (jno_at (jnk_0_32)) (jno_at (jnk_0_35))) (jno_le (jno_at (jnk_0_38)) (jno_at (jnk_0_39)))) (jno_le (jno_le (jno_at (jnk_0_42)) (jno_at (jnk_0_43))) (jno_le (jno_at (jnk_0_46)) (jno_at (jnk_0_49))))) (jno_le (jno_le (jno_le (jno_at (jnk_0_50)) (jno_at (jnk_0_52))) (jno_le (jno_at (jnk_0_54)) (jno_at (jnk_0_57)))) (jno_le (jno_le (jno_at (jnk_0_58)) (jno_at (jnk_0_59))) (jno_le (jno_at (jnk_0_61)) (jno_at (jnk_0_64))))))
/-! ScriptLedger.type(JI)Z -/
theorem jd_1_0 : decode prog_1_method_2_code 0 = .ok (.iload_n 3, 1) := by decide +kernel
theorem jd_1_1 : decode prog_1_method_2_code 1 = .ok (.iconst 1, 1) := by decide +kernel
theorem jd_1_2 : decode prog_1_method_2_code 2 = .ok (.if_icmp .lt 23, 3) := by decide +kernel
theorem jd_1_5 : decode prog_1_method_2_code 5 = .ok (.iload_n 3, 1) := by decide +kernel
theorem jd_1_6 : decode prog_1_method_2_code 6 = .ok (.bipush 8, 2) := by decide +kernel
theorem jd_1_8 : decode prog_1_method_2_code 8 = .ok (.if_icmp .gt 17, 3) := by decide +kernel
theorem jd_1_11 : decode prog_1_method_2_code 11 = .ok (.aload_n 0, 1) := by decide +kernel
theorem jd_1_12 : decode prog_1_method_2_code 12 = .ok (.getfield 10, 3) := by decide +kernel
theorem jd_1_15 : decode prog_1_method_2_code 15 = .ok (.getfield 46, 3) := by decide +kernel
theorem jd_1_18 : decode prog_1_method_2_code 18 = .ok (.iload_n 3, 1) := by decide +kernel
theorem jd_1_19 : decode prog_1_method_2_code 19 = .ok (.iadd, 1) := by decide +kernel
theorem jd_1_20 : decode prog_1_method_2_code 20 = .ok (.bipush 48, 2) := by decide +kernel
theorem jd_1_22 : decode prog_1_method_2_code 22 = .ok (.if_icmp .le 5, 3) := by decide +kernel
theorem jd_1_25 : decode prog_1_method_2_code 25 = .ok (.iconst 0, 1) := by decide +kernel
theorem jd_1_26 : decode prog_1_method_2_code 26 = .ok (.ireturn, 1) := by decide +kernel
theorem jd_1_27 : decode prog_1_method_2_code 27 = .ok (.aload_n 0, 1) := by decide +kernel
theorem jd_1_28 : decode prog_1_method_2_code 28 = .ok (.getfield 10, 3) := by decide +kernel
theorem jd_1_31 : decode prog_1_method_2_code 31 = .ok (.lload_n 1, 1) := by decide +kernel
theorem jd_1_32 : decode prog_1_method_2_code 32 = .ok (.iload_n 3, 1) := by decide +kernel
theorem jd_1_33 : decode prog_1_method_2_code 33 = .ok (.invokevirtual 50, 3) := by decide +kernel
theorem jd_1_36 : decode prog_1_method_2_code 36 = .ok (.iconst 1, 1) := by decide +kernel
theorem jd_1_37 : decode prog_1_method_2_code 37 = .ok (.ireturn, 1) := by decide +kernel
def jt_1 (pc : Nat) : jx_Sp := bif Nat.ble pc 19 then (bif Nat.ble pc 8 then (bif Nat.ble pc 2 then (bif Nat.ble pc 1 then (bif Nat.ble pc 0 then (bif Nat.beq pc 0 then js_il 3 1 else js_none) else (bif Nat.beq pc 1 then js_c 1 1 else js_none)) else (bif Nat.beq pc 2 then js_clt 25 else js_none)) else (bif Nat.ble pc 6 then (bif Nat.ble pc 5 then (bif Nat.beq pc 5 then js_il 3 1 else js_none) else (bif Nat.beq pc 6 then js_c 8 2 else js_none)) else (bif Nat.beq pc 8 then js_cgt 25 else js_none))) else (bif Nat.ble pc 15 then (bif Nat.ble pc 12 then (bif Nat.ble pc 11 then (bif Nat.beq pc 11 then js_al 0 1 else js_none) else (bif Nat.beq pc 12 then js_getf 0 0 else js_none)) else (bif Nat.beq pc 15 then js_getf 1 1 else js_none)) else (bif Nat.ble pc 18 then (bif Nat.beq pc 18 then js_il 3 1 else js_none) else (bif Nat.beq pc 19 then js_iadd else js_none)))) else (bif Nat.ble pc 28 then (bif Nat.ble pc 25 then (bif Nat.ble pc 22 then (bif Nat.ble pc 20 then (bif Nat.beq pc 20 then js_c 48 2 else js_none) else (bif Nat.beq pc 22 then js_cle 27 else js_none)) else (bif Nat.beq pc 25 then js_c 0 1 else js_none)) else (bif Nat.ble pc 27 then (bif Nat.ble pc 26 then (bif Nat.beq pc 26 then js_zr else js_none) else (bif Nat.beq pc 27 then js_al 0 1 else js_none)) else (bif Nat.beq pc 28 then js_getf 0 0 else js_none))) else (bif Nat.ble pc 33 then (bif Nat.ble pc 32 then (bif Nat.ble pc 31 then (bif Nat.beq pc 31 then js_ll 1 1 else js_none) else (bif Nat.beq pc 32 then js_il 3 1 else js_none)) else (bif Nat.beq pc 33 then js_v2 1 33 else js_none)) else (bif Nat.ble pc 36 then (bif Nat.beq pc 36 then js_c 1 1 else js_none) else (bif Nat.beq pc 37 then js_zr else js_none))))
theorem jk_1_0 : jx_Snd 1 0 (js_il 3 1) := jo_iload_n (i := 3) (w := 3) rfl jd_1_0
theorem jk_1_1 : jx_Snd 1 1 (js_c 1 1) := jo_iconst (z := 1) jd_1_1 rfl
theorem jk_1_2 : jx_Snd 1 2 (js_clt 25) := jo_clt (o := 23) rfl jd_1_2
theorem jk_1_5 : jx_Snd 1 5 (js_il 3 1) := jo_iload_n (i := 3) (w := 3) rfl jd_1_5
theorem jk_1_6 : jx_Snd 1 6 (js_c 8 2) := jo_bipush (z := 8) jd_1_6 (by decide +kernel)
theorem jk_1_8 : jx_Snd 1 8 (js_cgt 25) := jo_cgt (o := 17) rfl jd_1_8
theorem jk_1_11 : jx_Snd 1 11 (js_al 0 1) := jo_aload_n (i := 0) (w := 0) rfl jd_1_11
theorem jk_1_12 : jx_Snd 1 12 (js_getf 0 0) := jo_getf rfl jf_0_10 jd_1_12
theorem jk_1_15 : jx_Snd 1 15 (js_getf 1 1) := jo_getf rfl jf_0_46 jd_1_15
theorem jk_1_18 : jx_Snd 1 18 (js_il 3 1) := jo_iload_n (i := 3) (w := 3) rfl jd_1_18
theorem jk_1_19 : jx_Snd 1 19 (js_iadd) := jo_iadd jd_1_19
theorem jk_1_20 : jx_Snd 1 20 (js_c 48 2) := jo_bipush (z := 48) jd_1_20 (by decide +kernel)
theorem jk_1_22 : jx_Snd 1 22 (js_cle 27) := jo_cle (o := 5) rfl jd_1_22
theorem jk_1_25 : jx_Snd 1 25 (js_c 0 1) := jo_iconst (z := 0) jd_1_25 rfl
theorem jk_1_26 : jx_Snd 1 26 (js_zr) := jo_zr rfl jd_1_26
theorem jk_1_27 : jx_Snd 1 27 (js_al 0 1) := jo_aload_n (i := 0) (w := 0) rfl jd_1_27
theorem jk_1_28 : jx_Snd 1 28 (js_getf 0 0) := jo_getf rfl jf_0_10 jd_1_28
theorem jk_1_31 : jx_Snd 1 31 (js_ll 1 1) := jo_lload_n (i := 1) (w := 1) rfl jd_1_31
theorem jk_1_32 : jx_Snd 1 32 (js_il 3 1) := jo_iload_n (i := 3) (w := 3) rfl jd_1_32
theorem jk_1_33 : jx_Snd 1 33 (js_v2 1 33) := jo_v2 rfl jok_33 (Or.inl jw_172) jw_173 jw_174 rfl jd_1_33
theorem jk_1_36 : jx_Snd 1 36 (js_c 1 1) := jo_iconst (z := 1) jd_1_36 rfl
theorem jk_1_37 : jx_Snd 1 37 (js_zr) := jo_zr rfl jd_1_37
theorem jk_1 : jx_So 1 jt_1 := fun pc => jo_le (jo_le (jo_le (jo_le (jo_le (jo_at (jk_1_0)) (jo_at (jk_1_1))) (jo_at (jk_1_2))) (jo_le (jo_le (jo_at (jk_1_5)) (jo_at (jk_1_6))) (jo_at (jk_1_8)))) (jo_le (jo_le (jo_le (jo_at (jk_1_11)) (jo_at (jk_1_12))) (jo_at (jk_1_15))) (jo_le (jo_at (jk_1_18)) (jo_at (jk_1_19))))) (jo_le (jo_le (jo_le (jo_le (jo_at (jk_1_20)) (jo_at (jk_1_22))) (jo_at (jk_1_25))) (jo_le (jo_le (jo_at (jk_1_26)) (jo_at (jk_1_27))) (jo_at (jk_1_28)))) (jo_le (jo_le (jo_le (jo_at (jk_1_31)) (jo_at (jk_1_32))) (jo_at (jk_1_33))) (jo_le (jo_at (jk_1_36)) (jo_at (jk_1_37)))))
theorem ji_1 {l : Launch} {D : va_G} {cA : ClassId} {ρ : Nat → Nat} {Λ : List jx_Lc} {d : Nat} {Q : Option Value → jx_St → Prop} {σ : jx_St} {z0 : Nat} {a1 : Int64} {a2 : Int32} (h : jt_1 0 Λ jx_tb0 (jx_rn Λ jx_tb0 jt_1 (fun k' as σ K => jx_C l D cA ρ Λ d k' as σ K) Q (jx_J l D cA ρ Λ (jx_A ρ Λ) jx_tb0 (d + 1) 1 Q) [] 400) (fun k' as σ K => jx_C l D cA ρ Λ d k' as σ K) Q 0 [(0, .ref z0), (1, .long a1), (3, .int a2)] [] σ) : jx_C l D cA ρ Λ (d + 1) 1 [.ref z0, .long a1, .int a2] σ Q := jx_in jk_1 400 [] rfl (Nat.le_of_ble_eq_true rfl) h
/-! ScriptLedger.define()I -/
theorem jd_2_0 : decode prog_1_method_3_code 0 = .ok (.aload_n 0, 1) := by decide +kernel
theorem jd_2_1 : decode prog_1_method_3_code 1 = .ok (.getfield 19, 3) := by decide +kernel
theorem jd_2_4 : decode prog_1_method_3_code 4 = .ok (.getfield 54, 3) := by decide +kernel
theorem jd_2_7 : decode prog_1_method_3_code 7 = .ok (.aload_n 0, 1) := by decide +kernel
theorem jd_2_8 : decode prog_1_method_3_code 8 = .ok (.getfield 10, 3) := by decide +kernel
theorem jd_2_11 : decode prog_1_method_3_code 11 = .ok (.getfield 58, 3) := by decide +kernel
theorem jd_2_14 : decode prog_1_method_3_code 14 = .ok (.aload_n 0, 1) := by decide +kernel
theorem jd_2_15 : decode prog_1_method_3_code 15 = .ok (.getfield 10, 3) := by decide +kernel
theorem jd_2_18 : decode prog_1_method_3_code 18 = .ok (.getfield 46, 3) := by decide +kernel
theorem jd_2_21 : decode prog_1_method_3_code 21 = .ok (.invokevirtual 61, 3) := by decide +kernel
theorem jd_2_24 : decode prog_1_method_3_code 24 = .ok (.istore_n 1, 1) := by decide +kernel
theorem jd_2_25 : decode prog_1_method_3_code 25 = .ok (.aload_n 0, 1) := by decide +kernel
theorem jd_2_26 : decode prog_1_method_3_code 26 = .ok (.getfield 10, 3) := by decide +kernel
theorem jd_2_29 : decode prog_1_method_3_code 29 = .ok (.iconst 0, 1) := by decide +kernel
theorem jd_2_30 : decode prog_1_method_3_code 30 = .ok (.putfield 46, 3) := by decide +kernel
theorem jd_2_33 : decode prog_1_method_3_code 33 = .ok (.iload_n 1, 1) := by decide +kernel
theorem jd_2_34 : decode prog_1_method_3_code 34 = .ok (.ireturn, 1) := by decide +kernel
def jt_2 (pc : Nat) : jx_Sp := bif Nat.ble pc 18 then (bif Nat.ble pc 8 then (bif Nat.ble pc 4 then (bif Nat.ble pc 1 then (bif Nat.ble pc 0 then (bif Nat.beq pc 0 then js_al 0 1 else js_none) else (bif Nat.beq pc 1 then js_getf 0 1 else js_none)) else (bif Nat.beq pc 4 then js_getf 2 0 else js_none)) else (bif Nat.ble pc 7 then (bif Nat.beq pc 7 then js_al 0 1 else js_none) else (bif Nat.beq pc 8 then js_getf 0 0 else js_none))) else (bif Nat.ble pc 14 then (bif Nat.ble pc 11 then (bif Nat.beq pc 11 then js_getf 1 0 else js_none) else (bif Nat.beq pc 14 then js_al 0 1 else js_none)) else (bif Nat.ble pc 15 then (bif Nat.beq pc 15 then js_getf 0 0 else js_none) else (bif Nat.beq pc 18 then js_getf 1 1 else js_none)))) else (bif Nat.ble pc 26 then (bif Nat.ble pc 24 then (bif Nat.ble pc 21 then (bif Nat.beq pc 21 then js_v2 3 58 else js_none) else (bif Nat.beq pc 24 then js_is 1 1 else js_none)) else (bif Nat.ble pc 25 then (bif Nat.beq pc 25 then js_al 0 1 else js_none) else (bif Nat.beq pc 26 then js_getf 0 0 else js_none))) else (bif Nat.ble pc 30 then (bif Nat.ble pc 29 then (bif Nat.beq pc 29 then js_c 0 1 else js_none) else (bif Nat.beq pc 30 then js_putf 1 1 false else js_none)) else (bif Nat.ble pc 33 then (bif Nat.beq pc 33 then js_il 1 1 else js_none) else (bif Nat.beq pc 34 then js_ir else js_none))))
theorem jk_2_0 : jx_Snd 2 0 (js_al 0 1) := jo_aload_n (i := 0) (w := 0) rfl jd_2_0
theorem jk_2_1 : jx_Snd 2 1 (js_getf 0 1) := jo_getf rfl jf_0_19 jd_2_1
theorem jk_2_4 : jx_Snd 2 4 (js_getf 2 0) := jo_getf rfl jf_0_54 jd_2_4
theorem jk_2_7 : jx_Snd 2 7 (js_al 0 1) := jo_aload_n (i := 0) (w := 0) rfl jd_2_7
theorem jk_2_8 : jx_Snd 2 8 (js_getf 0 0) := jo_getf rfl jf_0_10 jd_2_8
theorem jk_2_11 : jx_Snd 2 11 (js_getf 1 0) := jo_getf rfl jf_0_58 jd_2_11
theorem jk_2_14 : jx_Snd 2 14 (js_al 0 1) := jo_aload_n (i := 0) (w := 0) rfl jd_2_14
theorem jk_2_15 : jx_Snd 2 15 (js_getf 0 0) := jo_getf rfl jf_0_10 jd_2_15
theorem jk_2_18 : jx_Snd 2 18 (js_getf 1 1) := jo_getf rfl jf_0_46 jd_2_18
theorem jk_2_21 : jx_Snd 2 21 (js_v2 3 58) := jo_v2 rfl jok_58 (Or.inl jw_180) jw_181 jw_182 rfl jd_2_21
theorem jk_2_24 : jx_Snd 2 24 (js_is 1 1) := jo_istore_n (i := 1) (w := 1) rfl (Nat.le_of_ble_eq_true rfl) jd_2_24
theorem jk_2_25 : jx_Snd 2 25 (js_al 0 1) := jo_aload_n (i := 0) (w := 0) rfl jd_2_25
theorem jk_2_26 : jx_Snd 2 26 (js_getf 0 0) := jo_getf rfl jf_0_10 jd_2_26
theorem jk_2_29 : jx_Snd 2 29 (js_c 0 1) := jo_iconst (z := 0) jd_2_29 rfl
theorem jk_2_30 : jx_Snd 2 30 (js_putf 1 1 false) := jo_putf (z := false) rfl jf_0_46 (fun C T N h => by cases h; rfl) jd_2_30
theorem jk_2_33 : jx_Snd 2 33 (js_il 1 1) := jo_iload_n (i := 1) (w := 1) rfl jd_2_33
theorem jk_2_34 : jx_Snd 2 34 (js_ir) := jo_ir rfl jd_2_34
theorem jk_2 : jx_So 2 jt_2 := fun pc => jo_le (jo_le (jo_le (jo_le (jo_le (jo_at (jk_2_0)) (jo_at (jk_2_1))) (jo_at (jk_2_4))) (jo_le (jo_at (jk_2_7)) (jo_at (jk_2_8)))) (jo_le (jo_le (jo_at (jk_2_11)) (jo_at (jk_2_14))) (jo_le (jo_at (jk_2_15)) (jo_at (jk_2_18))))) (jo_le (jo_le (jo_le (jo_at (jk_2_21)) (jo_at (jk_2_24))) (jo_le (jo_at (jk_2_25)) (jo_at (jk_2_26)))) (jo_le (jo_le (jo_at (jk_2_29)) (jo_at (jk_2_30))) (jo_le (jo_at (jk_2_33)) (jo_at (jk_2_34)))))
theorem ji_2 {l : Launch} {D : va_G} {cA : ClassId} {ρ : Nat → Nat} {Λ : List jx_Lc} {d : Nat} {Q : Option Value → jx_St → Prop} {σ : jx_St} {z0 : Nat} (h : jt_2 0 Λ jx_tb0 (jx_rn Λ jx_tb0 jt_2 (fun k' as σ K => jx_C l D cA ρ Λ d k' as σ K) Q (jx_J l D cA ρ Λ (jx_A ρ Λ) jx_tb0 (d + 1) 2 Q) [] 400) (fun k' as σ K => jx_C l D cA ρ Λ d k' as σ K) Q 0 [(0, .ref z0)] [] σ) : jx_C l D cA ρ Λ (d + 1) 2 [.ref z0] σ Q := jx_in jk_2 400 [] rfl (Nat.le_of_ble_eq_true rfl) h
/-! ScriptLedger.run(IIII)I -/
theorem jd_3_0 : decode prog_1_method_4_code 0 = .ok (.aload_n 0, 1) := by decide +kernel
theorem jd_3_1 : decode prog_1_method_4_code 1 = .ok (.getfield 19, 3) := by decide +kernel
theorem jd_3_4 : decode prog_1_method_4_code 4 = .ok (.getfield 54, 3) := by decide +kernel
theorem jd_3_7 : decode prog_1_method_4_code 7 = .ok (.iload_n 1, 1) := by decide +kernel
theorem jd_3_8 : decode prog_1_method_4_code 8 = .ok (.invokevirtual 67, 3) := by decide +kernel
theorem jd_3_11 : decode prog_1_method_4_code 11 = .ok (.ifCond .eq 15, 3) := by decide +kernel
theorem jd_3_14 : decode prog_1_method_4_code 14 = .ok (.iload 4, 2) := by decide +kernel
theorem jd_3_16 : decode prog_1_method_4_code 16 = .ok (.ifCond .lt 10, 3) := by decide +kernel
theorem jd_3_19 : decode prog_1_method_4_code 19 = .ok (.iload 4, 2) := by decide +kernel
theorem jd_3_21 : decode prog_1_method_4_code 21 = .ok (.bipush 99, 2) := by decide +kernel
theorem jd_3_23 : decode prog_1_method_4_code 23 = .ok (.if_icmp .le 5, 3) := by decide +kernel
theorem jd_3_26 : decode prog_1_method_4_code 26 = .ok (.iconst (-1), 1) := by decide +kernel
theorem jd_3_27 : decode prog_1_method_4_code 27 = .ok (.ireturn, 1) := by decide +kernel
theorem jd_3_28 : decode prog_1_method_4_code 28 = .ok (.aload_n 0, 1) := by decide +kernel
theorem jd_3_29 : decode prog_1_method_4_code 29 = .ok (.getfield 19, 3) := by decide +kernel
theorem jd_3_32 : decode prog_1_method_4_code 32 = .ok (.iload_n 1, 1) := by decide +kernel
theorem jd_3_33 : decode prog_1_method_4_code 33 = .ok (.iload_n 2, 1) := by decide +kernel
theorem jd_3_34 : decode prog_1_method_4_code 34 = .ok (.iload_n 3, 1) := by decide +kernel
theorem jd_3_35 : decode prog_1_method_4_code 35 = .ok (.aload_n 0, 1) := by decide +kernel
theorem jd_3_36 : decode prog_1_method_4_code 36 = .ok (.getfield 43, 3) := by decide +kernel
theorem jd_3_39 : decode prog_1_method_4_code 39 = .ok (.iload 4, 2) := by decide +kernel
theorem jd_3_41 : decode prog_1_method_4_code 41 = .ok (.invokevirtual 71, 3) := by decide +kernel
theorem jd_3_44 : decode prog_1_method_4_code 44 = .ok (.aload_n 0, 1) := by decide +kernel
theorem jd_3_45 : decode prog_1_method_4_code 45 = .ok (.getfield 19, 3) := by decide +kernel
theorem jd_3_48 : decode prog_1_method_4_code 48 = .ok (.getfield 75, 3) := by decide +kernel
theorem jd_3_51 : decode prog_1_method_4_code 51 = .ok (.ireturn, 1) := by decide +kernel
def jt_3 (pc : Nat) : jx_Sp := bif Nat.ble pc 27 then (bif Nat.ble pc 14 then (bif Nat.ble pc 7 then (bif Nat.ble pc 1 then (bif Nat.ble pc 0 then (bif Nat.beq pc 0 then js_al 0 1 else js_none) else (bif Nat.beq pc 1 then js_getf 0 1 else js_none)) else (bif Nat.ble pc 4 then (bif Nat.beq pc 4 then js_getf 2 0 else js_none) else (bif Nat.beq pc 7 then js_il 1 1 else js_none))) else (bif Nat.ble pc 11 then (bif Nat.ble pc 8 then (bif Nat.beq pc 8 then js_v1 3 56 else js_none) else (bif Nat.beq pc 11 then js_ifeq 26 else js_none)) else (bif Nat.beq pc 14 then js_il 4 2 else js_none))) else (bif Nat.ble pc 21 then (bif Nat.ble pc 19 then (bif Nat.ble pc 16 then (bif Nat.beq pc 16 then js_iflt 26 else js_none) else (bif Nat.beq pc 19 then js_il 4 2 else js_none)) else (bif Nat.beq pc 21 then js_c 99 2 else js_none)) else (bif Nat.ble pc 26 then (bif Nat.ble pc 23 then (bif Nat.beq pc 23 then js_cle 28 else js_none) else (bif Nat.beq pc 26 then js_c (-1) 1 else js_none)) else (bif Nat.beq pc 27 then js_ir else js_none)))) else (bif Nat.ble pc 36 then (bif Nat.ble pc 33 then (bif Nat.ble pc 29 then (bif Nat.ble pc 28 then (bif Nat.beq pc 28 then js_al 0 1 else js_none) else (bif Nat.beq pc 29 then js_getf 0 1 else js_none)) else (bif Nat.ble pc 32 then (bif Nat.beq pc 32 then js_il 1 1 else js_none) else (bif Nat.beq pc 33 then js_il 2 1 else js_none))) else (bif Nat.ble pc 35 then (bif Nat.ble pc 34 then (bif Nat.beq pc 34 then js_il 3 1 else js_none) else (bif Nat.beq pc 35 then js_al 0 1 else js_none)) else (bif Nat.beq pc 36 then js_getf 0 5 else js_none))) else (bif Nat.ble pc 44 then (bif Nat.ble pc 41 then (bif Nat.ble pc 39 then (bif Nat.beq pc 39 then js_il 4 2 else js_none) else (bif Nat.beq pc 41 then js_v5 2 35 else js_none)) else (bif Nat.beq pc 44 then js_al 0 1 else js_none)) else (bif Nat.ble pc 48 then (bif Nat.ble pc 45 then (bif Nat.beq pc 45 then js_getf 0 1 else js_none) else (bif Nat.beq pc 48 then js_getf 2 13 else js_none)) else (bif Nat.beq pc 51 then js_ir else js_none))))
theorem jk_3_0 : jx_Snd 3 0 (js_al 0 1) := jo_aload_n (i := 0) (w := 0) rfl jd_3_0
theorem jk_3_1 : jx_Snd 3 1 (js_getf 0 1) := jo_getf rfl jf_0_19 jd_3_1
theorem jk_3_4 : jx_Snd 3 4 (js_getf 2 0) := jo_getf rfl jf_0_54 jd_3_4
theorem jk_3_7 : jx_Snd 3 7 (js_il 1 1) := jo_iload_n (i := 1) (w := 1) rfl jd_3_7
theorem jk_3_8 : jx_Snd 3 8 (js_v1 3 56) := jo_v1 rfl jok_56 (Or.inl jw_198) jw_199 jw_200 rfl jd_3_8
theorem jk_3_11 : jx_Snd 3 11 (js_ifeq 26) := jo_ifeq (o := 15) rfl jd_3_11
theorem jk_3_14 : jx_Snd 3 14 (js_il 4 2) := jo_iload (i := 4) jd_3_14
theorem jk_3_16 : jx_Snd 3 16 (js_iflt 26) := jo_iflt (o := 10) rfl jd_3_16
theorem jk_3_19 : jx_Snd 3 19 (js_il 4 2) := jo_iload (i := 4) jd_3_19
theorem jk_3_21 : jx_Snd 3 21 (js_c 99 2) := jo_bipush (z := 99) jd_3_21 (by decide +kernel)
theorem jk_3_23 : jx_Snd 3 23 (js_cle 28) := jo_cle (o := 5) rfl jd_3_23
theorem jk_3_26 : jx_Snd 3 26 (js_c (-1) 1) := jo_iconst (z := (-1)) jd_3_26 rfl
theorem jk_3_27 : jx_Snd 3 27 (js_ir) := jo_ir rfl jd_3_27
theorem jk_3_28 : jx_Snd 3 28 (js_al 0 1) := jo_aload_n (i := 0) (w := 0) rfl jd_3_28
theorem jk_3_29 : jx_Snd 3 29 (js_getf 0 1) := jo_getf rfl jf_0_19 jd_3_29
theorem jk_3_32 : jx_Snd 3 32 (js_il 1 1) := jo_iload_n (i := 1) (w := 1) rfl jd_3_32
theorem jk_3_33 : jx_Snd 3 33 (js_il 2 1) := jo_iload_n (i := 2) (w := 2) rfl jd_3_33
theorem jk_3_34 : jx_Snd 3 34 (js_il 3 1) := jo_iload_n (i := 3) (w := 3) rfl jd_3_34
theorem jk_3_35 : jx_Snd 3 35 (js_al 0 1) := jo_aload_n (i := 0) (w := 0) rfl jd_3_35
theorem jk_3_36 : jx_Snd 3 36 (js_getf 0 5) := jo_getf rfl jf_0_43 jd_3_36
theorem jk_3_39 : jx_Snd 3 39 (js_il 4 2) := jo_iload (i := 4) jd_3_39
theorem jk_3_41 : jx_Snd 3 41 (js_v5 2 35) := jo_v5 rfl jok_35 (Or.inl jw_202) jw_203 jw_204 rfl jd_3_41
theorem jk_3_44 : jx_Snd 3 44 (js_al 0 1) := jo_aload_n (i := 0) (w := 0) rfl jd_3_44
theorem jk_3_45 : jx_Snd 3 45 (js_getf 0 1) := jo_getf rfl jf_0_19 jd_3_45
theorem jk_3_48 : jx_Snd 3 48 (js_getf 2 13) := jo_getf rfl jf_0_75 jd_3_48
theorem jk_3_51 : jx_Snd 3 51 (js_ir) := jo_ir rfl jd_3_51
theorem jk_3 : jx_So 3 jt_3 := fun pc => jo_le (jo_le (jo_le (jo_le (jo_le (jo_at (jk_3_0)) (jo_at (jk_3_1))) (jo_le (jo_at (jk_3_4)) (jo_at (jk_3_7)))) (jo_le (jo_le (jo_at (jk_3_8)) (jo_at (jk_3_11))) (jo_at (jk_3_14)))) (jo_le (jo_le (jo_le (jo_at (jk_3_16)) (jo_at (jk_3_19))) (jo_at (jk_3_21))) (jo_le (jo_le (jo_at (jk_3_23)) (jo_at (jk_3_26))) (jo_at (jk_3_27))))) (jo_le (jo_le (jo_le (jo_le (jo_at (jk_3_28)) (jo_at (jk_3_29))) (jo_le (jo_at (jk_3_32)) (jo_at (jk_3_33)))) (jo_le (jo_le (jo_at (jk_3_34)) (jo_at (jk_3_35))) (jo_at (jk_3_36)))) (jo_le (jo_le (jo_le (jo_at (jk_3_39)) (jo_at (jk_3_41))) (jo_at (jk_3_44))) (jo_le (jo_le (jo_at (jk_3_45)) (jo_at (jk_3_48))) (jo_at (jk_3_51)))))
theorem ji_3 {l : Launch} {D : va_G} {cA : ClassId} {ρ : Nat → Nat} {Λ : List jx_Lc} {d : Nat} {Q : Option Value → jx_St → Prop} {σ : jx_St} {z0 : Nat} {a1 : Int32} {a2 : Int32} {a3 : Int32} {a4 : Int32} (h : jt_3 0 Λ jx_tb0 (jx_rn Λ jx_tb0 jt_3 (fun k' as σ K => jx_C l D cA ρ Λ d k' as σ K) Q (jx_J l D cA ρ Λ (jx_A ρ Λ) jx_tb0 (d + 1) 3 Q) [] 400) (fun k' as σ K => jx_C l D cA ρ Λ d k' as σ K) Q 0 [(0, .ref z0), (1, .int a1), (2, .int a2), (3, .int a3), (4, .int a4)] [] σ) : jx_C l D cA ρ Λ (d + 1) 3 [.ref z0, .int a1, .int a2, .int a3, .int a4] σ Q := jx_in jk_3 400 [] rfl (Nat.le_of_ble_eq_true rfl) h
/-! ScriptLedger.result(I)I -/
theorem jd_4_0 : decode prog_1_method_5_code 0 = .ok (.aload_n 0, 1) := by decide +kernel
theorem jd_4_1 : decode prog_1_method_5_code 1 = .ok (.getfield 19, 3) := by decide +kernel
theorem jd_4_4 : decode prog_1_method_5_code 4 = .ok (.getfield 75, 3) := by decide +kernel
theorem jd_4_7 : decode prog_1_method_5_code 7 = .ok (.iconst (-1), 1) := by decide +kernel
theorem jd_4_8 : decode prog_1_method_5_code 8 = .ok (.if_icmp .ne 5, 3) := by decide +kernel
theorem jd_4_11 : decode prog_1_method_5_code 11 = .ok (.iconst (-1), 1) := by decide +kernel
theorem jd_4_12 : decode prog_1_method_5_code 12 = .ok (.ireturn, 1) := by decide +kernel
theorem jd_4_13 : decode prog_1_method_5_code 13 = .ok (.iload_n 1, 1) := by decide +kernel
theorem jd_4_14 : decode prog_1_method_5_code 14 = .ok (.tableswitch 62 0 3 #[30, 38, 46, 54], 30) := by decide +kernel
theorem jd_4_44 : decode prog_1_method_5_code 44 = .ok (.aload_n 0, 1) := by decide +kernel
theorem jd_4_45 : decode prog_1_method_5_code 45 = .ok (.getfield 19, 3) := by decide +kernel
theorem jd_4_48 : decode prog_1_method_5_code 48 = .ok (.getfield 75, 3) := by decide +kernel
theorem jd_4_51 : decode prog_1_method_5_code 51 = .ok (.ireturn, 1) := by decide +kernel
theorem jd_4_52 : decode prog_1_method_5_code 52 = .ok (.aload_n 0, 1) := by decide +kernel
theorem jd_4_53 : decode prog_1_method_5_code 53 = .ok (.getfield 19, 3) := by decide +kernel
theorem jd_4_56 : decode prog_1_method_5_code 56 = .ok (.getfield 78, 3) := by decide +kernel
theorem jd_4_59 : decode prog_1_method_5_code 59 = .ok (.ireturn, 1) := by decide +kernel
theorem jd_4_60 : decode prog_1_method_5_code 60 = .ok (.aload_n 0, 1) := by decide +kernel
theorem jd_4_61 : decode prog_1_method_5_code 61 = .ok (.getfield 19, 3) := by decide +kernel
theorem jd_4_64 : decode prog_1_method_5_code 64 = .ok (.getfield 81, 3) := by decide +kernel
theorem jd_4_67 : decode prog_1_method_5_code 67 = .ok (.ireturn, 1) := by decide +kernel
theorem jd_4_68 : decode prog_1_method_5_code 68 = .ok (.aload_n 0, 1) := by decide +kernel
theorem jd_4_69 : decode prog_1_method_5_code 69 = .ok (.getfield 19, 3) := by decide +kernel
theorem jd_4_72 : decode prog_1_method_5_code 72 = .ok (.getfield 84, 3) := by decide +kernel
theorem jd_4_75 : decode prog_1_method_5_code 75 = .ok (.ireturn, 1) := by decide +kernel
theorem jd_4_76 : decode prog_1_method_5_code 76 = .ok (.iconst (-1), 1) := by decide +kernel
theorem jd_4_77 : decode prog_1_method_5_code 77 = .ok (.ireturn, 1) := by decide +kernel
def jt_4 (pc : Nat) : jx_Sp := bif Nat.ble pc 52 then (bif Nat.ble pc 12 then (bif Nat.ble pc 7 then (bif Nat.ble pc 1 then (bif Nat.ble pc 0 then (bif Nat.beq pc 0 then js_al 0 1 else js_none) else (bif Nat.beq pc 1 then js_getf 0 1 else js_none)) else (bif Nat.ble pc 4 then (bif Nat.beq pc 4 then js_getf 2 13 else js_none) else (bif Nat.beq pc 7 then js_c (-1) 1 else js_none))) else (bif Nat.ble pc 11 then (bif Nat.ble pc 8 then (bif Nat.beq pc 8 then js_cne 13 else js_none) else (bif Nat.beq pc 11 then js_c (-1) 1 else js_none)) else (bif Nat.beq pc 12 then js_ir else js_none))) else (bif Nat.ble pc 45 then (bif Nat.ble pc 14 then (bif Nat.ble pc 13 then (bif Nat.beq pc 13 then js_il 1 1 else js_none) else (bif Nat.beq pc 14 then js_sw [(0, 44), (1, 52), (2, 60), (3, 68)] 76 else js_none)) else (bif Nat.ble pc 44 then (bif Nat.beq pc 44 then js_al 0 1 else js_none) else (bif Nat.beq pc 45 then js_getf 0 1 else js_none))) else (bif Nat.ble pc 51 then (bif Nat.ble pc 48 then (bif Nat.beq pc 48 then js_getf 2 13 else js_none) else (bif Nat.beq pc 51 then js_ir else js_none)) else (bif Nat.beq pc 52 then js_al 0 1 else js_none)))) else (bif Nat.ble pc 67 then (bif Nat.ble pc 60 then (bif Nat.ble pc 56 then (bif Nat.ble pc 53 then (bif Nat.beq pc 53 then js_getf 0 1 else js_none) else (bif Nat.beq pc 56 then js_getf 2 12 else js_none)) else (bif Nat.ble pc 59 then (bif Nat.beq pc 59 then js_ir else js_none) else (bif Nat.beq pc 60 then js_al 0 1 else js_none))) else (bif Nat.ble pc 64 then (bif Nat.ble pc 61 then (bif Nat.beq pc 61 then js_getf 0 1 else js_none) else (bif Nat.beq pc 64 then js_getf 2 14 else js_none)) else (bif Nat.beq pc 67 then js_ir else js_none))) else (bif Nat.ble pc 72 then (bif Nat.ble pc 69 then (bif Nat.ble pc 68 then (bif Nat.beq pc 68 then js_al 0 1 else js_none) else (bif Nat.beq pc 69 then js_getf 0 1 else js_none)) else (bif Nat.beq pc 72 then js_getf 2 15 else js_none)) else (bif Nat.ble pc 76 then (bif Nat.ble pc 75 then (bif Nat.beq pc 75 then js_ir else js_none) else (bif Nat.beq pc 76 then js_c (-1) 1 else js_none)) else (bif Nat.beq pc 77 then js_ir else js_none))))
theorem jk_4_0 : jx_Snd 4 0 (js_al 0 1) := jo_aload_n (i := 0) (w := 0) rfl jd_4_0
theorem jk_4_1 : jx_Snd 4 1 (js_getf 0 1) := jo_getf rfl jf_0_19 jd_4_1
theorem jk_4_4 : jx_Snd 4 4 (js_getf 2 13) := jo_getf rfl jf_0_75 jd_4_4
theorem jk_4_7 : jx_Snd 4 7 (js_c (-1) 1) := jo_iconst (z := (-1)) jd_4_7 rfl
theorem jk_4_8 : jx_Snd 4 8 (js_cne 13) := jo_cne (o := 5) rfl jd_4_8
theorem jk_4_11 : jx_Snd 4 11 (js_c (-1) 1) := jo_iconst (z := (-1)) jd_4_11 rfl
theorem jk_4_12 : jx_Snd 4 12 (js_ir) := jo_ir rfl jd_4_12
theorem jk_4_13 : jx_Snd 4 13 (js_il 1 1) := jo_iload_n (i := 1) (w := 1) rfl jd_4_13
theorem jk_4_14 : jx_Snd 4 14 (js_sw [(0, 44), (1, 52), (2, 60), (3, 68)] 76) := jo_tableD (dflt := 62) (lo := 0) (hi := 3) (offs := #[30, 38, 46, 54]) rfl rfl (by decide +kernel) jd_4_14
theorem jk_4_44 : jx_Snd 4 44 (js_al 0 1) := jo_aload_n (i := 0) (w := 0) rfl jd_4_44
theorem jk_4_45 : jx_Snd 4 45 (js_getf 0 1) := jo_getf rfl jf_0_19 jd_4_45
theorem jk_4_48 : jx_Snd 4 48 (js_getf 2 13) := jo_getf rfl jf_0_75 jd_4_48
theorem jk_4_51 : jx_Snd 4 51 (js_ir) := jo_ir rfl jd_4_51
theorem jk_4_52 : jx_Snd 4 52 (js_al 0 1) := jo_aload_n (i := 0) (w := 0) rfl jd_4_52
theorem jk_4_53 : jx_Snd 4 53 (js_getf 0 1) := jo_getf rfl jf_0_19 jd_4_53
theorem jk_4_56 : jx_Snd 4 56 (js_getf 2 12) := jo_getf rfl jf_0_78 jd_4_56
theorem jk_4_59 : jx_Snd 4 59 (js_ir) := jo_ir rfl jd_4_59
theorem jk_4_60 : jx_Snd 4 60 (js_al 0 1) := jo_aload_n (i := 0) (w := 0) rfl jd_4_60
theorem jk_4_61 : jx_Snd 4 61 (js_getf 0 1) := jo_getf rfl jf_0_19 jd_4_61
theorem jk_4_64 : jx_Snd 4 64 (js_getf 2 14) := jo_getf rfl jf_0_81 jd_4_64
theorem jk_4_67 : jx_Snd 4 67 (js_ir) := jo_ir rfl jd_4_67
theorem jk_4_68 : jx_Snd 4 68 (js_al 0 1) := jo_aload_n (i := 0) (w := 0) rfl jd_4_68
theorem jk_4_69 : jx_Snd 4 69 (js_getf 0 1) := jo_getf rfl jf_0_19 jd_4_69
theorem jk_4_72 : jx_Snd 4 72 (js_getf 2 15) := jo_getf rfl jf_0_84 jd_4_72
theorem jk_4_75 : jx_Snd 4 75 (js_ir) := jo_ir rfl jd_4_75
theorem jk_4_76 : jx_Snd 4 76 (js_c (-1) 1) := jo_iconst (z := (-1)) jd_4_76 rfl
theorem jk_4_77 : jx_Snd 4 77 (js_ir) := jo_ir rfl jd_4_77
theorem jk_4 : jx_So 4 jt_4 := fun pc => jo_le (jo_le (jo_le (jo_le (jo_le (jo_at (jk_4_0)) (jo_at (jk_4_1))) (jo_le (jo_at (jk_4_4)) (jo_at (jk_4_7)))) (jo_le (jo_le (jo_at (jk_4_8)) (jo_at (jk_4_11))) (jo_at (jk_4_12)))) (jo_le (jo_le (jo_le (jo_at (jk_4_13)) (jo_at (jk_4_14))) (jo_le (jo_at (jk_4_44)) (jo_at (jk_4_45)))) (jo_le (jo_le (jo_at (jk_4_48)) (jo_at (jk_4_51))) (jo_at (jk_4_52))))) (jo_le (jo_le (jo_le (jo_le (jo_at (jk_4_53)) (jo_at (jk_4_56))) (jo_le (jo_at (jk_4_59)) (jo_at (jk_4_60)))) (jo_le (jo_le (jo_at (jk_4_61)) (jo_at (jk_4_64))) (jo_at (jk_4_67)))) (jo_le (jo_le (jo_le (jo_at (jk_4_68)) (jo_at (jk_4_69))) (jo_at (jk_4_72))) (jo_le (jo_le (jo_at (jk_4_75)) (jo_at (jk_4_76))) (jo_at (jk_4_77)))))
theorem ji_4 {l : Launch} {D : va_G} {cA : ClassId} {ρ : Nat → Nat} {Λ : List jx_Lc} {d : Nat} {Q : Option Value → jx_St → Prop} {σ : jx_St} {z0 : Nat} {a1 : Int32} (h : jt_4 0 Λ jx_tb0 (jx_rn Λ jx_tb0 jt_4 (fun k' as σ K => jx_C l D cA ρ Λ d k' as σ K) Q (jx_J l D cA ρ Λ (jx_A ρ Λ) jx_tb0 (d + 1) 4 Q) [] 400) (fun k' as σ K => jx_C l D cA ρ Λ d k' as σ K) Q 0 [(0, .ref z0), (1, .int a1)] [] σ) : jx_C l D cA ρ Λ (d + 1) 4 [.ref z0, .int a1] σ Q := jx_in jk_4 400 [] rfl (Nat.le_of_ble_eq_true rfl) h
/-! ScriptLedger.begin()V -/
theorem jd_5_0 : decode prog_1_method_6_code 0 = .ok (.aload_n 0, 1) := by decide +kernel
theorem jd_5_1 : decode prog_1_method_6_code 1 = .ok (.getfield 35, 3) := by decide +kernel
theorem jd_5_4 : decode prog_1_method_6_code 4 = .ok (.invokevirtual 87, 3) := by decide +kernel
theorem jd_5_7 : decode prog_1_method_6_code 7 = .ok (.return_, 1) := by decide +kernel
def jt_5 (pc : Nat) : jx_Sp := bif Nat.ble pc 1 then (bif Nat.ble pc 0 then (bif Nat.beq pc 0 then js_al 0 1 else js_none) else (bif Nat.beq pc 1 then js_getf 0 3 else js_none)) else (bif Nat.ble pc 4 then (bif Nat.beq pc 4 then js_v0 7 82 else js_none) else (bif Nat.beq pc 7 then js_vr else js_none))
theorem jk_5_0 : jx_Snd 5 0 (js_al 0 1) := jo_aload_n (i := 0) (w := 0) rfl jd_5_0
theorem jk_5_1 : jx_Snd 5 1 (js_getf 0 3) := jo_getf rfl jf_0_35 jd_5_1
theorem jk_5_4 : jx_Snd 5 4 (js_v0 7 82) := jo_v0 rfl jok_82 (Or.inl jw_298) jw_131 jw_132 rfl jd_5_4
theorem jk_5_7 : jx_Snd 5 7 (js_vr) := jo_vr rfl jd_5_7
theorem jk_5 : jx_So 5 jt_5 := fun pc => jo_le (jo_le (jo_at (jk_5_0)) (jo_at (jk_5_1))) (jo_le (jo_at (jk_5_4)) (jo_at (jk_5_7)))
theorem ji_5 {l : Launch} {D : va_G} {cA : ClassId} {ρ : Nat → Nat} {Λ : List jx_Lc} {d : Nat} {Q : Option Value → jx_St → Prop} {σ : jx_St} {z0 : Nat} (h : jt_5 0 Λ jx_tb0 (jx_rn Λ jx_tb0 jt_5 (fun k' as σ K => jx_C l D cA ρ Λ d k' as σ K) Q (jx_J l D cA ρ Λ (jx_A ρ Λ) jx_tb0 (d + 1) 5 Q) [] 400) (fun k' as σ K => jx_C l D cA ρ Λ d k' as σ K) Q 0 [(0, .ref z0)] [] σ) : jx_C l D cA ρ Λ (d + 1) 5 [.ref z0] σ Q := jx_in jk_5 400 [] rfl (Nat.le_of_ble_eq_true rfl) h
/-! ScriptLedger.spend(II)Z -/
theorem jd_6_0 : decode prog_1_method_7_code 0 = .ok (.aload_n 0, 1) := by decide +kernel
theorem jd_6_1 : decode prog_1_method_7_code 1 = .ok (.getfield 35, 3) := by decide +kernel
theorem jd_6_4 : decode prog_1_method_7_code 4 = .ok (.getfield 90, 3) := by decide +kernel
theorem jd_6_7 : decode prog_1_method_7_code 7 = .ok (.iconst 3, 1) := by decide +kernel
theorem jd_6_8 : decode prog_1_method_7_code 8 = .ok (.if_icmp .ge 18, 3) := by decide +kernel
theorem jd_6_11 : decode prog_1_method_7_code 11 = .ok (.iload_n 1, 1) := by decide +kernel
theorem jd_6_12 : decode prog_1_method_7_code 12 = .ok (.ifCond .lt 14, 3) := by decide +kernel
theorem jd_6_15 : decode prog_1_method_7_code 15 = .ok (.aload_n 0, 1) := by decide +kernel
theorem jd_6_16 : decode prog_1_method_7_code 16 = .ok (.getfield 35, 3) := by decide +kernel
theorem jd_6_19 : decode prog_1_method_7_code 19 = .ok (.iload_n 1, 1) := by decide +kernel
theorem jd_6_20 : decode prog_1_method_7_code 20 = .ok (.invokevirtual 93, 3) := by decide +kernel
theorem jd_6_23 : decode prog_1_method_7_code 23 = .ok (.ifCond .eq 5, 3) := by decide +kernel
theorem jd_6_26 : decode prog_1_method_7_code 26 = .ok (.iconst 0, 1) := by decide +kernel
theorem jd_6_27 : decode prog_1_method_7_code 27 = .ok (.ireturn, 1) := by decide +kernel
theorem jd_6_28 : decode prog_1_method_7_code 28 = .ok (.aload_n 0, 1) := by decide +kernel
theorem jd_6_29 : decode prog_1_method_7_code 29 = .ok (.getfield 35, 3) := by decide +kernel
theorem jd_6_32 : decode prog_1_method_7_code 32 = .ok (.iload_n 1, 1) := by decide +kernel
theorem jd_6_33 : decode prog_1_method_7_code 33 = .ok (.iload_n 2, 1) := by decide +kernel
theorem jd_6_34 : decode prog_1_method_7_code 34 = .ok (.invokevirtual 96, 3) := by decide +kernel
theorem jd_6_37 : decode prog_1_method_7_code 37 = .ok (.iconst 1, 1) := by decide +kernel
theorem jd_6_38 : decode prog_1_method_7_code 38 = .ok (.ireturn, 1) := by decide +kernel
def jt_6 (pc : Nat) : jx_Sp := bif Nat.ble pc 20 then (bif Nat.ble pc 11 then (bif Nat.ble pc 4 then (bif Nat.ble pc 1 then (bif Nat.ble pc 0 then (bif Nat.beq pc 0 then js_al 0 1 else js_none) else (bif Nat.beq pc 1 then js_getf 0 3 else js_none)) else (bif Nat.beq pc 4 then js_getf 7 2 else js_none)) else (bif Nat.ble pc 8 then (bif Nat.ble pc 7 then (bif Nat.beq pc 7 then js_c 3 1 else js_none) else (bif Nat.beq pc 8 then js_cge 26 else js_none)) else (bif Nat.beq pc 11 then js_il 1 1 else js_none))) else (bif Nat.ble pc 16 then (bif Nat.ble pc 15 then (bif Nat.ble pc 12 then (bif Nat.beq pc 12 then js_iflt 26 else js_none) else (bif Nat.beq pc 15 then js_al 0 1 else js_none)) else (bif Nat.beq pc 16 then js_getf 0 3 else js_none)) else (bif Nat.ble pc 19 then (bif Nat.beq pc 19 then js_il 1 1 else js_none) else (bif Nat.beq pc 20 then js_v1 7 84 else js_none)))) else (bif Nat.ble pc 29 then (bif Nat.ble pc 27 then (bif Nat.ble pc 26 then (bif Nat.ble pc 23 then (bif Nat.beq pc 23 then js_ifeq 28 else js_none) else (bif Nat.beq pc 26 then js_c 0 1 else js_none)) else (bif Nat.beq pc 27 then js_zr else js_none)) else (bif Nat.ble pc 28 then (bif Nat.beq pc 28 then js_al 0 1 else js_none) else (bif Nat.beq pc 29 then js_getf 0 3 else js_none))) else (bif Nat.ble pc 34 then (bif Nat.ble pc 33 then (bif Nat.ble pc 32 then (bif Nat.beq pc 32 then js_il 1 1 else js_none) else (bif Nat.beq pc 33 then js_il 2 1 else js_none)) else (bif Nat.beq pc 34 then js_v2 7 85 else js_none)) else (bif Nat.ble pc 37 then (bif Nat.beq pc 37 then js_c 1 1 else js_none) else (bif Nat.beq pc 38 then js_zr else js_none))))
theorem jk_6_0 : jx_Snd 6 0 (js_al 0 1) := jo_aload_n (i := 0) (w := 0) rfl jd_6_0
theorem jk_6_1 : jx_Snd 6 1 (js_getf 0 3) := jo_getf rfl jf_0_35 jd_6_1
theorem jk_6_4 : jx_Snd 6 4 (js_getf 7 2) := jo_getf rfl jf_0_90 jd_6_4
theorem jk_6_7 : jx_Snd 6 7 (js_c 3 1) := jo_iconst (z := 3) jd_6_7 rfl
theorem jk_6_8 : jx_Snd 6 8 (js_cge 26) := jo_cge (o := 18) rfl jd_6_8
theorem jk_6_11 : jx_Snd 6 11 (js_il 1 1) := jo_iload_n (i := 1) (w := 1) rfl jd_6_11
theorem jk_6_12 : jx_Snd 6 12 (js_iflt 26) := jo_iflt (o := 14) rfl jd_6_12
theorem jk_6_15 : jx_Snd 6 15 (js_al 0 1) := jo_aload_n (i := 0) (w := 0) rfl jd_6_15
theorem jk_6_16 : jx_Snd 6 16 (js_getf 0 3) := jo_getf rfl jf_0_35 jd_6_16
theorem jk_6_19 : jx_Snd 6 19 (js_il 1 1) := jo_iload_n (i := 1) (w := 1) rfl jd_6_19
theorem jk_6_20 : jx_Snd 6 20 (js_v1 7 84) := jo_v1 rfl jok_84 (Or.inl jw_303) jw_304 jw_305 rfl jd_6_20
theorem jk_6_23 : jx_Snd 6 23 (js_ifeq 28) := jo_ifeq (o := 5) rfl jd_6_23
theorem jk_6_26 : jx_Snd 6 26 (js_c 0 1) := jo_iconst (z := 0) jd_6_26 rfl
theorem jk_6_27 : jx_Snd 6 27 (js_zr) := jo_zr rfl jd_6_27
theorem jk_6_28 : jx_Snd 6 28 (js_al 0 1) := jo_aload_n (i := 0) (w := 0) rfl jd_6_28
theorem jk_6_29 : jx_Snd 6 29 (js_getf 0 3) := jo_getf rfl jf_0_35 jd_6_29
theorem jk_6_32 : jx_Snd 6 32 (js_il 1 1) := jo_iload_n (i := 1) (w := 1) rfl jd_6_32
theorem jk_6_33 : jx_Snd 6 33 (js_il 2 1) := jo_iload_n (i := 2) (w := 2) rfl jd_6_33
theorem jk_6_34 : jx_Snd 6 34 (js_v2 7 85) := jo_v2 rfl jok_85 (Or.inl jw_307) jw_308 jw_309 rfl jd_6_34
theorem jk_6_37 : jx_Snd 6 37 (js_c 1 1) := jo_iconst (z := 1) jd_6_37 rfl
theorem jk_6_38 : jx_Snd 6 38 (js_zr) := jo_zr rfl jd_6_38
theorem jk_6 : jx_So 6 jt_6 := fun pc => jo_le (jo_le (jo_le (jo_le (jo_le (jo_at (jk_6_0)) (jo_at (jk_6_1))) (jo_at (jk_6_4))) (jo_le (jo_le (jo_at (jk_6_7)) (jo_at (jk_6_8))) (jo_at (jk_6_11)))) (jo_le (jo_le (jo_le (jo_at (jk_6_12)) (jo_at (jk_6_15))) (jo_at (jk_6_16))) (jo_le (jo_at (jk_6_19)) (jo_at (jk_6_20))))) (jo_le (jo_le (jo_le (jo_le (jo_at (jk_6_23)) (jo_at (jk_6_26))) (jo_at (jk_6_27))) (jo_le (jo_at (jk_6_28)) (jo_at (jk_6_29)))) (jo_le (jo_le (jo_le (jo_at (jk_6_32)) (jo_at (jk_6_33))) (jo_at (jk_6_34))) (jo_le (jo_at (jk_6_37)) (jo_at (jk_6_38)))))
theorem ji_6 {l : Launch} {D : va_G} {cA : ClassId} {ρ : Nat → Nat} {Λ : List jx_Lc} {d : Nat} {Q : Option Value → jx_St → Prop} {σ : jx_St} {z0 : Nat} {a1 : Int32} {a2 : Int32} (h : jt_6 0 Λ jx_tb0 (jx_rn Λ jx_tb0 jt_6 (fun k' as σ K => jx_C l D cA ρ Λ d k' as σ K) Q (jx_J l D cA ρ Λ (jx_A ρ Λ) jx_tb0 (d + 1) 6 Q) [] 400) (fun k' as σ K => jx_C l D cA ρ Λ d k' as σ K) Q 0 [(0, .ref z0), (1, .int a1), (2, .int a2)] [] σ) : jx_C l D cA ρ Λ (d + 1) 6 [.ref z0, .int a1, .int a2] σ Q := jx_in jk_6 400 [] rfl (Nat.le_of_ble_eq_true rfl) h
/-! ScriptLedger.give(IIIII)Z -/
theorem jd_7_0 : decode prog_1_method_8_code 0 = .ok (.aload_n 0, 1) := by decide +kernel
theorem jd_7_1 : decode prog_1_method_8_code 1 = .ok (.getfield 35, 3) := by decide +kernel
theorem jd_7_4 : decode prog_1_method_8_code 4 = .ok (.getfield 100, 3) := by decide +kernel
theorem jd_7_7 : decode prog_1_method_8_code 7 = .ok (.iconst 1, 1) := by decide +kernel
theorem jd_7_8 : decode prog_1_method_8_code 8 = .ok (.invokevirtual 104, 3) := by decide +kernel
theorem jd_7_11 : decode prog_1_method_8_code 11 = .ok (.ifCond .eq 13, 3) := by decide +kernel
theorem jd_7_14 : decode prog_1_method_8_code 14 = .ok (.iload_n 1, 1) := by decide +kernel
theorem jd_7_15 : decode prog_1_method_8_code 15 = .ok (.ifCond .lt 9, 3) := by decide +kernel
theorem jd_7_18 : decode prog_1_method_8_code 18 = .ok (.iload_n 1, 1) := by decide +kernel
theorem jd_7_19 : decode prog_1_method_8_code 19 = .ok (.bipush 10, 2) := by decide +kernel
theorem jd_7_21 : decode prog_1_method_8_code 21 = .ok (.if_icmp .lt 5, 3) := by decide +kernel
theorem jd_7_24 : decode prog_1_method_8_code 24 = .ok (.iconst 0, 1) := by decide +kernel
theorem jd_7_25 : decode prog_1_method_8_code 25 = .ok (.ireturn, 1) := by decide +kernel
theorem jd_7_26 : decode prog_1_method_8_code 26 = .ok (.iload_n 3, 1) := by decide +kernel
theorem jd_7_27 : decode prog_1_method_8_code 27 = .ok (.invokestatic 109, 3) := by decide +kernel
theorem jd_7_30 : decode prog_1_method_8_code 30 = .ok (.ifCond .eq 19, 3) := by decide +kernel
theorem jd_7_33 : decode prog_1_method_8_code 33 = .ok (.iload 4, 2) := by decide +kernel
theorem jd_7_35 : decode prog_1_method_8_code 35 = .ok (.invokestatic 109, 3) := by decide +kernel
theorem jd_7_38 : decode prog_1_method_8_code 38 = .ok (.ifCond .eq 11, 3) := by decide +kernel
theorem jd_7_41 : decode prog_1_method_8_code 41 = .ok (.iload 5, 2) := by decide +kernel
theorem jd_7_43 : decode prog_1_method_8_code 43 = .ok (.invokestatic 109, 3) := by decide +kernel
theorem jd_7_46 : decode prog_1_method_8_code 46 = .ok (.ifCond .ne 5, 3) := by decide +kernel
theorem jd_7_49 : decode prog_1_method_8_code 49 = .ok (.iconst 0, 1) := by decide +kernel
theorem jd_7_50 : decode prog_1_method_8_code 50 = .ok (.ireturn, 1) := by decide +kernel
theorem jd_7_51 : decode prog_1_method_8_code 51 = .ok (.aload_n 0, 1) := by decide +kernel
theorem jd_7_52 : decode prog_1_method_8_code 52 = .ok (.getfield 35, 3) := by decide +kernel
theorem jd_7_55 : decode prog_1_method_8_code 55 = .ok (.getfield 100, 3) := by decide +kernel
theorem jd_7_58 : decode prog_1_method_8_code 58 = .ok (.iload_n 1, 1) := by decide +kernel
theorem jd_7_59 : decode prog_1_method_8_code 59 = .ok (.iload_n 2, 1) := by decide +kernel
theorem jd_7_60 : decode prog_1_method_8_code 60 = .ok (.iload_n 3, 1) := by decide +kernel
theorem jd_7_61 : decode prog_1_method_8_code 61 = .ok (.iload 4, 2) := by decide +kernel
theorem jd_7_63 : decode prog_1_method_8_code 63 = .ok (.iload 5, 2) := by decide +kernel
theorem jd_7_65 : decode prog_1_method_8_code 65 = .ok (.invokevirtual 112, 3) := by decide +kernel
theorem jd_7_68 : decode prog_1_method_8_code 68 = .ok (.iconst 1, 1) := by decide +kernel
theorem jd_7_69 : decode prog_1_method_8_code 69 = .ok (.ireturn, 1) := by decide +kernel
def jt_7 (pc : Nat) : jx_Sp := bif Nat.ble pc 35 then (bif Nat.ble pc 18 then (bif Nat.ble pc 8 then (bif Nat.ble pc 4 then (bif Nat.ble pc 1 then (bif Nat.ble pc 0 then (bif Nat.beq pc 0 then js_al 0 1 else js_none) else (bif Nat.beq pc 1 then js_getf 0 3 else js_none)) else (bif Nat.beq pc 4 then js_getf 7 3 else js_none)) else (bif Nat.ble pc 7 then (bif Nat.beq pc 7 then js_c 1 1 else js_none) else (bif Nat.beq pc 8 then js_v1 6 77 else js_none))) else (bif Nat.ble pc 14 then (bif Nat.ble pc 11 then (bif Nat.beq pc 11 then js_ifeq 24 else js_none) else (bif Nat.beq pc 14 then js_il 1 1 else js_none)) else (bif Nat.ble pc 15 then (bif Nat.beq pc 15 then js_iflt 24 else js_none) else (bif Nat.beq pc 18 then js_il 1 1 else js_none)))) else (bif Nat.ble pc 26 then (bif Nat.ble pc 24 then (bif Nat.ble pc 21 then (bif Nat.ble pc 19 then (bif Nat.beq pc 19 then js_c 10 2 else js_none) else (bif Nat.beq pc 21 then js_clt 26 else js_none)) else (bif Nat.beq pc 24 then js_c 0 1 else js_none)) else (bif Nat.ble pc 25 then (bif Nat.beq pc 25 then js_zr else js_none) else (bif Nat.beq pc 26 then js_il 3 1 else js_none))) else (bif Nat.ble pc 30 then (bif Nat.ble pc 27 then (bif Nat.beq pc 27 then js_s1 19 else js_none) else (bif Nat.beq pc 30 then js_ifeq 49 else js_none)) else (bif Nat.ble pc 33 then (bif Nat.beq pc 33 then js_il 4 2 else js_none) else (bif Nat.beq pc 35 then js_s1 19 else js_none))))) else (bif Nat.ble pc 55 then (bif Nat.ble pc 49 then (bif Nat.ble pc 43 then (bif Nat.ble pc 41 then (bif Nat.ble pc 38 then (bif Nat.beq pc 38 then js_ifeq 49 else js_none) else (bif Nat.beq pc 41 then js_il 5 2 else js_none)) else (bif Nat.beq pc 43 then js_s1 19 else js_none)) else (bif Nat.ble pc 46 then (bif Nat.beq pc 46 then js_ifne 51 else js_none) else (bif Nat.beq pc 49 then js_c 0 1 else js_none))) else (bif Nat.ble pc 51 then (bif Nat.ble pc 50 then (bif Nat.beq pc 50 then js_zr else js_none) else (bif Nat.beq pc 51 then js_al 0 1 else js_none)) else (bif Nat.ble pc 52 then (bif Nat.beq pc 52 then js_getf 0 3 else js_none) else (bif Nat.beq pc 55 then js_getf 7 3 else js_none)))) else (bif Nat.ble pc 61 then (bif Nat.ble pc 59 then (bif Nat.ble pc 58 then (bif Nat.beq pc 58 then js_il 1 1 else js_none) else (bif Nat.beq pc 59 then js_il 2 1 else js_none)) else (bif Nat.ble pc 60 then (bif Nat.beq pc 60 then js_il 3 1 else js_none) else (bif Nat.beq pc 61 then js_il 4 2 else js_none))) else (bif Nat.ble pc 65 then (bif Nat.ble pc 63 then (bif Nat.beq pc 63 then js_il 5 2 else js_none) else (bif Nat.beq pc 65 then js_v5 6 78 else js_none)) else (bif Nat.ble pc 68 then (bif Nat.beq pc 68 then js_c 1 1 else js_none) else (bif Nat.beq pc 69 then js_zr else js_none)))))
theorem jk_7_0 : jx_Snd 7 0 (js_al 0 1) := jo_aload_n (i := 0) (w := 0) rfl jd_7_0
theorem jk_7_1 : jx_Snd 7 1 (js_getf 0 3) := jo_getf rfl jf_0_35 jd_7_1
theorem jk_7_4 : jx_Snd 7 4 (js_getf 7 3) := jo_getf rfl jf_0_100 jd_7_4
theorem jk_7_7 : jx_Snd 7 7 (js_c 1 1) := jo_iconst (z := 1) jd_7_7 rfl
theorem jk_7_8 : jx_Snd 7 8 (js_v1 6 77) := jo_v1 rfl jok_77 (Or.inl jw_315) jw_110 jw_111 rfl jd_7_8
theorem jk_7_11 : jx_Snd 7 11 (js_ifeq 24) := jo_ifeq (o := 13) rfl jd_7_11
theorem jk_7_14 : jx_Snd 7 14 (js_il 1 1) := jo_iload_n (i := 1) (w := 1) rfl jd_7_14
theorem jk_7_15 : jx_Snd 7 15 (js_iflt 24) := jo_iflt (o := 9) rfl jd_7_15
theorem jk_7_18 : jx_Snd 7 18 (js_il 1 1) := jo_iload_n (i := 1) (w := 1) rfl jd_7_18
theorem jk_7_19 : jx_Snd 7 19 (js_c 10 2) := jo_bipush (z := 10) jd_7_19 (by decide +kernel)
theorem jk_7_21 : jx_Snd 7 21 (js_clt 26) := jo_clt (o := 5) rfl jd_7_21
theorem jk_7_24 : jx_Snd 7 24 (js_c 0 1) := jo_iconst (z := 0) jd_7_24 rfl
theorem jk_7_25 : jx_Snd 7 25 (js_zr) := jo_zr rfl jd_7_25
theorem jk_7_26 : jx_Snd 7 26 (js_il 3 1) := jo_iload_n (i := 3) (w := 3) rfl jd_7_26
theorem jk_7_27 : jx_Snd 7 27 (js_s1 19) := jo_s1 rfl jok_19 (Or.inl jw_316) jw_317 jd_7_27
theorem jk_7_30 : jx_Snd 7 30 (js_ifeq 49) := jo_ifeq (o := 19) rfl jd_7_30
theorem jk_7_33 : jx_Snd 7 33 (js_il 4 2) := jo_iload (i := 4) jd_7_33
theorem jk_7_35 : jx_Snd 7 35 (js_s1 19) := jo_s1 rfl jok_19 (Or.inl jw_316) jw_317 jd_7_35
theorem jk_7_38 : jx_Snd 7 38 (js_ifeq 49) := jo_ifeq (o := 11) rfl jd_7_38
theorem jk_7_41 : jx_Snd 7 41 (js_il 5 2) := jo_iload (i := 5) jd_7_41
theorem jk_7_43 : jx_Snd 7 43 (js_s1 19) := jo_s1 rfl jok_19 (Or.inl jw_316) jw_317 jd_7_43
theorem jk_7_46 : jx_Snd 7 46 (js_ifne 51) := jo_ifne (o := 5) rfl jd_7_46
theorem jk_7_49 : jx_Snd 7 49 (js_c 0 1) := jo_iconst (z := 0) jd_7_49 rfl
theorem jk_7_50 : jx_Snd 7 50 (js_zr) := jo_zr rfl jd_7_50
theorem jk_7_51 : jx_Snd 7 51 (js_al 0 1) := jo_aload_n (i := 0) (w := 0) rfl jd_7_51
theorem jk_7_52 : jx_Snd 7 52 (js_getf 0 3) := jo_getf rfl jf_0_35 jd_7_52
theorem jk_7_55 : jx_Snd 7 55 (js_getf 7 3) := jo_getf rfl jf_0_100 jd_7_55
theorem jk_7_58 : jx_Snd 7 58 (js_il 1 1) := jo_iload_n (i := 1) (w := 1) rfl jd_7_58
theorem jk_7_59 : jx_Snd 7 59 (js_il 2 1) := jo_iload_n (i := 2) (w := 2) rfl jd_7_59
theorem jk_7_60 : jx_Snd 7 60 (js_il 3 1) := jo_iload_n (i := 3) (w := 3) rfl jd_7_60
theorem jk_7_61 : jx_Snd 7 61 (js_il 4 2) := jo_iload (i := 4) jd_7_61
theorem jk_7_63 : jx_Snd 7 63 (js_il 5 2) := jo_iload (i := 5) jd_7_63
theorem jk_7_65 : jx_Snd 7 65 (js_v5 6 78) := jo_v5 rfl jok_78 (Or.inl jw_320) jw_106 jw_107 rfl jd_7_65
theorem jk_7_68 : jx_Snd 7 68 (js_c 1 1) := jo_iconst (z := 1) jd_7_68 rfl
theorem jk_7_69 : jx_Snd 7 69 (js_zr) := jo_zr rfl jd_7_69
theorem jk_7 : jx_So 7 jt_7 := fun pc => jo_le (jo_le (jo_le (jo_le (jo_le (jo_le (jo_at (jk_7_0)) (jo_at (jk_7_1))) (jo_at (jk_7_4))) (jo_le (jo_at (jk_7_7)) (jo_at (jk_7_8)))) (jo_le (jo_le (jo_at (jk_7_11)) (jo_at (jk_7_14))) (jo_le (jo_at (jk_7_15)) (jo_at (jk_7_18))))) (jo_le (jo_le (jo_le (jo_le (jo_at (jk_7_19)) (jo_at (jk_7_21))) (jo_at (jk_7_24))) (jo_le (jo_at (jk_7_25)) (jo_at (jk_7_26)))) (jo_le (jo_le (jo_at (jk_7_27)) (jo_at (jk_7_30))) (jo_le (jo_at (jk_7_33)) (jo_at (jk_7_35)))))) (jo_le (jo_le (jo_le (jo_le (jo_le (jo_at (jk_7_38)) (jo_at (jk_7_41))) (jo_at (jk_7_43))) (jo_le (jo_at (jk_7_46)) (jo_at (jk_7_49)))) (jo_le (jo_le (jo_at (jk_7_50)) (jo_at (jk_7_51))) (jo_le (jo_at (jk_7_52)) (jo_at (jk_7_55))))) (jo_le (jo_le (jo_le (jo_at (jk_7_58)) (jo_at (jk_7_59))) (jo_le (jo_at (jk_7_60)) (jo_at (jk_7_61)))) (jo_le (jo_le (jo_at (jk_7_63)) (jo_at (jk_7_65))) (jo_le (jo_at (jk_7_68)) (jo_at (jk_7_69))))))
theorem ji_7 {l : Launch} {D : va_G} {cA : ClassId} {ρ : Nat → Nat} {Λ : List jx_Lc} {d : Nat} {Q : Option Value → jx_St → Prop} {σ : jx_St} {z0 : Nat} {a1 : Int32} {a2 : Int32} {a3 : Int32} {a4 : Int32} {a5 : Int32} (h : jt_7 0 Λ jx_tb0 (jx_rn Λ jx_tb0 jt_7 (fun k' as σ K => jx_C l D cA ρ Λ d k' as σ K) Q (jx_J l D cA ρ Λ (jx_A ρ Λ) jx_tb0 (d + 1) 7 Q) [] 400) (fun k' as σ K => jx_C l D cA ρ Λ d k' as σ K) Q 0 [(0, .ref z0), (1, .int a1), (2, .int a2), (3, .int a3), (4, .int a4), (5, .int a5)] [] σ) : jx_C l D cA ρ Λ (d + 1) 7 [.ref z0, .int a1, .int a2, .int a3, .int a4, .int a5] σ Q := jx_in jk_7 400 [] rfl (Nat.le_of_ble_eq_true rfl) h
/-! ScriptLedger.mint(III)Z -/
theorem jd_8_0 : decode prog_1_method_9_code 0 = .ok (.iload_n 1, 1) := by decide +kernel
theorem jd_8_1 : decode prog_1_method_9_code 1 = .ok (.ifCond .le 20, 3) := by decide +kernel
theorem jd_8_4 : decode prog_1_method_9_code 4 = .ok (.iload_n 1, 1) := by decide +kernel
theorem jd_8_5 : decode prog_1_method_9_code 5 = .ok (.iconst 3, 1) := by decide +kernel
theorem jd_8_6 : decode prog_1_method_9_code 6 = .ok (.if_icmp .ge 15, 3) := by decide +kernel
theorem jd_8_9 : decode prog_1_method_9_code 9 = .ok (.iload_n 2, 1) := by decide +kernel
theorem jd_8_10 : decode prog_1_method_9_code 10 = .ok (.ldc 116, 2) := by decide +kernel
theorem jd_8_12 : decode prog_1_method_9_code 12 = .ok (.if_icmp .lt 9, 3) := by decide +kernel
theorem jd_8_15 : decode prog_1_method_9_code 15 = .ok (.iload_n 2, 1) := by decide +kernel
theorem jd_8_16 : decode prog_1_method_9_code 16 = .ok (.ldc 117, 2) := by decide +kernel
theorem jd_8_18 : decode prog_1_method_9_code 18 = .ok (.if_icmp .le 5, 3) := by decide +kernel
theorem jd_8_21 : decode prog_1_method_9_code 21 = .ok (.iconst 0, 1) := by decide +kernel
theorem jd_8_22 : decode prog_1_method_9_code 22 = .ok (.ireturn, 1) := by decide +kernel
theorem jd_8_23 : decode prog_1_method_9_code 23 = .ok (.aload_n 0, 1) := by decide +kernel
theorem jd_8_24 : decode prog_1_method_9_code 24 = .ok (.getfield 35, 3) := by decide +kernel
theorem jd_8_27 : decode prog_1_method_9_code 27 = .ok (.getfield 118, 3) := by decide +kernel
theorem jd_8_30 : decode prog_1_method_9_code 30 = .ok (.iload_n 1, 1) := by decide +kernel
theorem jd_8_31 : decode prog_1_method_9_code 31 = .ok (.iload_n 2, 1) := by decide +kernel
theorem jd_8_32 : decode prog_1_method_9_code 32 = .ok (.iastore, 1) := by decide +kernel
theorem jd_8_33 : decode prog_1_method_9_code 33 = .ok (.aload_n 0, 1) := by decide +kernel
theorem jd_8_34 : decode prog_1_method_9_code 34 = .ok (.getfield 35, 3) := by decide +kernel
theorem jd_8_37 : decode prog_1_method_9_code 37 = .ok (.getfield 121, 3) := by decide +kernel
theorem jd_8_40 : decode prog_1_method_9_code 40 = .ok (.iload_n 1, 1) := by decide +kernel
theorem jd_8_41 : decode prog_1_method_9_code 41 = .ok (.iload_n 3, 1) := by decide +kernel
theorem jd_8_42 : decode prog_1_method_9_code 42 = .ok (.iastore, 1) := by decide +kernel
theorem jd_8_43 : decode prog_1_method_9_code 43 = .ok (.iconst 1, 1) := by decide +kernel
theorem jd_8_44 : decode prog_1_method_9_code 44 = .ok (.ireturn, 1) := by decide +kernel
def jt_8 (pc : Nat) : jx_Sp := bif Nat.ble pc 23 then (bif Nat.ble pc 10 then (bif Nat.ble pc 5 then (bif Nat.ble pc 1 then (bif Nat.ble pc 0 then (bif Nat.beq pc 0 then js_il 1 1 else js_none) else (bif Nat.beq pc 1 then js_ifle 21 else js_none)) else (bif Nat.ble pc 4 then (bif Nat.beq pc 4 then js_il 1 1 else js_none) else (bif Nat.beq pc 5 then js_c 3 1 else js_none))) else (bif Nat.ble pc 9 then (bif Nat.ble pc 6 then (bif Nat.beq pc 6 then js_cge 21 else js_none) else (bif Nat.beq pc 9 then js_il 2 1 else js_none)) else (bif Nat.beq pc 10 then js_c (-1000000) 2 else js_none))) else (bif Nat.ble pc 18 then (bif Nat.ble pc 15 then (bif Nat.ble pc 12 then (bif Nat.beq pc 12 then js_clt 21 else js_none) else (bif Nat.beq pc 15 then js_il 2 1 else js_none)) else (bif Nat.ble pc 16 then (bif Nat.beq pc 16 then js_c 1000000 2 else js_none) else (bif Nat.beq pc 18 then js_cle 23 else js_none))) else (bif Nat.ble pc 22 then (bif Nat.ble pc 21 then (bif Nat.beq pc 21 then js_c 0 1 else js_none) else (bif Nat.beq pc 22 then js_zr else js_none)) else (bif Nat.beq pc 23 then js_al 0 1 else js_none)))) else (bif Nat.ble pc 34 then (bif Nat.ble pc 31 then (bif Nat.ble pc 27 then (bif Nat.ble pc 24 then (bif Nat.beq pc 24 then js_getf 0 3 else js_none) else (bif Nat.beq pc 27 then js_getf 7 4 else js_none)) else (bif Nat.ble pc 30 then (bif Nat.beq pc 30 then js_il 1 1 else js_none) else (bif Nat.beq pc 31 then js_il 2 1 else js_none))) else (bif Nat.ble pc 33 then (bif Nat.ble pc 32 then (bif Nat.beq pc 32 then js_ast else js_none) else (bif Nat.beq pc 33 then js_al 0 1 else js_none)) else (bif Nat.beq pc 34 then js_getf 0 3 else js_none))) else (bif Nat.ble pc 41 then (bif Nat.ble pc 40 then (bif Nat.ble pc 37 then (bif Nat.beq pc 37 then js_getf 7 5 else js_none) else (bif Nat.beq pc 40 then js_il 1 1 else js_none)) else (bif Nat.beq pc 41 then js_il 3 1 else js_none)) else (bif Nat.ble pc 43 then (bif Nat.ble pc 42 then (bif Nat.beq pc 42 then js_ast else js_none) else (bif Nat.beq pc 43 then js_c 1 1 else js_none)) else (bif Nat.beq pc 44 then js_zr else js_none))))
theorem jk_8_0 : jx_Snd 8 0 (js_il 1 1) := jo_iload_n (i := 1) (w := 1) rfl jd_8_0
theorem jk_8_1 : jx_Snd 8 1 (js_ifle 21) := jo_ifle (o := 20) rfl jd_8_1
theorem jk_8_4 : jx_Snd 8 4 (js_il 1 1) := jo_iload_n (i := 1) (w := 1) rfl jd_8_4
theorem jk_8_5 : jx_Snd 8 5 (js_c 3 1) := jo_iconst (z := 3) jd_8_5 rfl
theorem jk_8_6 : jx_Snd 8 6 (js_cge 21) := jo_cge (o := 15) rfl jd_8_6
theorem jk_8_9 : jx_Snd 8 9 (js_il 2 1) := jo_iload_n (i := 2) (w := 2) rfl jd_8_9
theorem jk_8_10 : jx_Snd 8 10 (js_c (-1000000) 2) := jo_ldc (ix := 116) rfl jw_325 jd_8_10
theorem jk_8_12 : jx_Snd 8 12 (js_clt 21) := jo_clt (o := 9) rfl jd_8_12
theorem jk_8_15 : jx_Snd 8 15 (js_il 2 1) := jo_iload_n (i := 2) (w := 2) rfl jd_8_15
theorem jk_8_16 : jx_Snd 8 16 (js_c 1000000 2) := jo_ldc (ix := 117) rfl jw_319 jd_8_16
theorem jk_8_18 : jx_Snd 8 18 (js_cle 23) := jo_cle (o := 5) rfl jd_8_18
theorem jk_8_21 : jx_Snd 8 21 (js_c 0 1) := jo_iconst (z := 0) jd_8_21 rfl
theorem jk_8_22 : jx_Snd 8 22 (js_zr) := jo_zr rfl jd_8_22
theorem jk_8_23 : jx_Snd 8 23 (js_al 0 1) := jo_aload_n (i := 0) (w := 0) rfl jd_8_23
theorem jk_8_24 : jx_Snd 8 24 (js_getf 0 3) := jo_getf rfl jf_0_35 jd_8_24
theorem jk_8_27 : jx_Snd 8 27 (js_getf 7 4) := jo_getf rfl jf_0_118 jd_8_27
theorem jk_8_30 : jx_Snd 8 30 (js_il 1 1) := jo_iload_n (i := 1) (w := 1) rfl jd_8_30
theorem jk_8_31 : jx_Snd 8 31 (js_il 2 1) := jo_iload_n (i := 2) (w := 2) rfl jd_8_31
theorem jk_8_32 : jx_Snd 8 32 (js_ast) := jo_ast jd_8_32
theorem jk_8_33 : jx_Snd 8 33 (js_al 0 1) := jo_aload_n (i := 0) (w := 0) rfl jd_8_33
theorem jk_8_34 : jx_Snd 8 34 (js_getf 0 3) := jo_getf rfl jf_0_35 jd_8_34
theorem jk_8_37 : jx_Snd 8 37 (js_getf 7 5) := jo_getf rfl jf_0_121 jd_8_37
theorem jk_8_40 : jx_Snd 8 40 (js_il 1 1) := jo_iload_n (i := 1) (w := 1) rfl jd_8_40
theorem jk_8_41 : jx_Snd 8 41 (js_il 3 1) := jo_iload_n (i := 3) (w := 3) rfl jd_8_41
theorem jk_8_42 : jx_Snd 8 42 (js_ast) := jo_ast jd_8_42
theorem jk_8_43 : jx_Snd 8 43 (js_c 1 1) := jo_iconst (z := 1) jd_8_43 rfl
theorem jk_8_44 : jx_Snd 8 44 (js_zr) := jo_zr rfl jd_8_44
theorem jk_8 : jx_So 8 jt_8 := fun pc => jo_le (jo_le (jo_le (jo_le (jo_le (jo_at (jk_8_0)) (jo_at (jk_8_1))) (jo_le (jo_at (jk_8_4)) (jo_at (jk_8_5)))) (jo_le (jo_le (jo_at (jk_8_6)) (jo_at (jk_8_9))) (jo_at (jk_8_10)))) (jo_le (jo_le (jo_le (jo_at (jk_8_12)) (jo_at (jk_8_15))) (jo_le (jo_at (jk_8_16)) (jo_at (jk_8_18)))) (jo_le (jo_le (jo_at (jk_8_21)) (jo_at (jk_8_22))) (jo_at (jk_8_23))))) (jo_le (jo_le (jo_le (jo_le (jo_at (jk_8_24)) (jo_at (jk_8_27))) (jo_le (jo_at (jk_8_30)) (jo_at (jk_8_31)))) (jo_le (jo_le (jo_at (jk_8_32)) (jo_at (jk_8_33))) (jo_at (jk_8_34)))) (jo_le (jo_le (jo_le (jo_at (jk_8_37)) (jo_at (jk_8_40))) (jo_at (jk_8_41))) (jo_le (jo_le (jo_at (jk_8_42)) (jo_at (jk_8_43))) (jo_at (jk_8_44)))))
theorem ji_8 {l : Launch} {D : va_G} {cA : ClassId} {ρ : Nat → Nat} {Λ : List jx_Lc} {d : Nat} {Q : Option Value → jx_St → Prop} {σ : jx_St} {z0 : Nat} {a1 : Int32} {a2 : Int32} {a3 : Int32} (h : jt_8 0 Λ jx_tb0 (jx_rn Λ jx_tb0 jt_8 (fun k' as σ K => jx_C l D cA ρ Λ d k' as σ K) Q (jx_J l D cA ρ Λ (jx_A ρ Λ) jx_tb0 (d + 1) 8 Q) [] 400) (fun k' as σ K => jx_C l D cA ρ Λ d k' as σ K) Q 0 [(0, .ref z0), (1, .int a1), (2, .int a2), (3, .int a3)] [] σ) : jx_C l D cA ρ Λ (d + 1) 8 [.ref z0, .int a1, .int a2, .int a3] σ Q := jx_in jk_8 400 [] rfl (Nat.le_of_ble_eq_true rfl) h
/-! ScriptLedger.terms(IIIII)Z -/
theorem jd_9_0 : decode prog_1_method_10_code 0 = .ok (.iload_n 1, 1) := by decide +kernel
theorem jd_9_1 : decode prog_1_method_10_code 1 = .ok (.invokestatic 109, 3) := by decide +kernel
theorem jd_9_4 : decode prog_1_method_10_code 4 = .ok (.ifCond .eq 15, 3) := by decide +kernel
theorem jd_9_7 : decode prog_1_method_10_code 7 = .ok (.iload 4, 2) := by decide +kernel
theorem jd_9_9 : decode prog_1_method_10_code 9 = .ok (.ifCond .lt 10, 3) := by decide +kernel
theorem jd_9_12 : decode prog_1_method_10_code 12 = .ok (.iload 4, 2) := by decide +kernel
theorem jd_9_14 : decode prog_1_method_10_code 14 = .ok (.bipush 15, 2) := by decide +kernel
theorem jd_9_16 : decode prog_1_method_10_code 16 = .ok (.if_icmp .le 5, 3) := by decide +kernel
theorem jd_9_19 : decode prog_1_method_10_code 19 = .ok (.iconst 0, 1) := by decide +kernel
theorem jd_9_20 : decode prog_1_method_10_code 20 = .ok (.ireturn, 1) := by decide +kernel
theorem jd_9_21 : decode prog_1_method_10_code 21 = .ok (.iload 5, 2) := by decide +kernel
theorem jd_9_23 : decode prog_1_method_10_code 23 = .ok (.ifCond .lt 10, 3) := by decide +kernel
theorem jd_9_26 : decode prog_1_method_10_code 26 = .ok (.iload 5, 2) := by decide +kernel
theorem jd_9_28 : decode prog_1_method_10_code 28 = .ok (.bipush 99, 2) := by decide +kernel
theorem jd_9_30 : decode prog_1_method_10_code 30 = .ok (.if_icmp .le 5, 3) := by decide +kernel
theorem jd_9_33 : decode prog_1_method_10_code 33 = .ok (.iconst 0, 1) := by decide +kernel
theorem jd_9_34 : decode prog_1_method_10_code 34 = .ok (.ireturn, 1) := by decide +kernel
theorem jd_9_35 : decode prog_1_method_10_code 35 = .ok (.aload_n 0, 1) := by decide +kernel
theorem jd_9_36 : decode prog_1_method_10_code 36 = .ok (.getfield 35, 3) := by decide +kernel
theorem jd_9_39 : decode prog_1_method_10_code 39 = .ok (.iload_n 1, 1) := by decide +kernel
theorem jd_9_40 : decode prog_1_method_10_code 40 = .ok (.iload_n 2, 1) := by decide +kernel
theorem jd_9_41 : decode prog_1_method_10_code 41 = .ok (.iload_n 3, 1) := by decide +kernel
theorem jd_9_42 : decode prog_1_method_10_code 42 = .ok (.iload 4, 2) := by decide +kernel
theorem jd_9_44 : decode prog_1_method_10_code 44 = .ok (.iload 5, 2) := by decide +kernel
theorem jd_9_46 : decode prog_1_method_10_code 46 = .ok (.invokevirtual 124, 3) := by decide +kernel
theorem jd_9_49 : decode prog_1_method_10_code 49 = .ok (.iconst 1, 1) := by decide +kernel
theorem jd_9_50 : decode prog_1_method_10_code 50 = .ok (.ireturn, 1) := by decide +kernel
def jt_9 (pc : Nat) : jx_Sp := bif Nat.ble pc 28 then (bif Nat.ble pc 14 then (bif Nat.ble pc 7 then (bif Nat.ble pc 1 then (bif Nat.ble pc 0 then (bif Nat.beq pc 0 then js_il 1 1 else js_none) else (bif Nat.beq pc 1 then js_s1 19 else js_none)) else (bif Nat.ble pc 4 then (bif Nat.beq pc 4 then js_ifeq 19 else js_none) else (bif Nat.beq pc 7 then js_il 4 2 else js_none))) else (bif Nat.ble pc 12 then (bif Nat.ble pc 9 then (bif Nat.beq pc 9 then js_iflt 19 else js_none) else (bif Nat.beq pc 12 then js_il 4 2 else js_none)) else (bif Nat.beq pc 14 then js_c 15 2 else js_none))) else (bif Nat.ble pc 21 then (bif Nat.ble pc 19 then (bif Nat.ble pc 16 then (bif Nat.beq pc 16 then js_cle 21 else js_none) else (bif Nat.beq pc 19 then js_c 0 1 else js_none)) else (bif Nat.ble pc 20 then (bif Nat.beq pc 20 then js_zr else js_none) else (bif Nat.beq pc 21 then js_il 5 2 else js_none))) else (bif Nat.ble pc 26 then (bif Nat.ble pc 23 then (bif Nat.beq pc 23 then js_iflt 33 else js_none) else (bif Nat.beq pc 26 then js_il 5 2 else js_none)) else (bif Nat.beq pc 28 then js_c 99 2 else js_none)))) else (bif Nat.ble pc 40 then (bif Nat.ble pc 35 then (bif Nat.ble pc 33 then (bif Nat.ble pc 30 then (bif Nat.beq pc 30 then js_cle 35 else js_none) else (bif Nat.beq pc 33 then js_c 0 1 else js_none)) else (bif Nat.ble pc 34 then (bif Nat.beq pc 34 then js_zr else js_none) else (bif Nat.beq pc 35 then js_al 0 1 else js_none))) else (bif Nat.ble pc 39 then (bif Nat.ble pc 36 then (bif Nat.beq pc 36 then js_getf 0 3 else js_none) else (bif Nat.beq pc 39 then js_il 1 1 else js_none)) else (bif Nat.beq pc 40 then js_il 2 1 else js_none))) else (bif Nat.ble pc 44 then (bif Nat.ble pc 42 then (bif Nat.ble pc 41 then (bif Nat.beq pc 41 then js_il 3 1 else js_none) else (bif Nat.beq pc 42 then js_il 4 2 else js_none)) else (bif Nat.beq pc 44 then js_il 5 2 else js_none)) else (bif Nat.ble pc 49 then (bif Nat.ble pc 46 then (bif Nat.beq pc 46 then js_v5 7 83 else js_none) else (bif Nat.beq pc 49 then js_c 1 1 else js_none)) else (bif Nat.beq pc 50 then js_zr else js_none))))
theorem jk_9_0 : jx_Snd 9 0 (js_il 1 1) := jo_iload_n (i := 1) (w := 1) rfl jd_9_0
theorem jk_9_1 : jx_Snd 9 1 (js_s1 19) := jo_s1 rfl jok_19 (Or.inl jw_316) jw_317 jd_9_1
theorem jk_9_4 : jx_Snd 9 4 (js_ifeq 19) := jo_ifeq (o := 15) rfl jd_9_4
theorem jk_9_7 : jx_Snd 9 7 (js_il 4 2) := jo_iload (i := 4) jd_9_7
theorem jk_9_9 : jx_Snd 9 9 (js_iflt 19) := jo_iflt (o := 10) rfl jd_9_9
theorem jk_9_12 : jx_Snd 9 12 (js_il 4 2) := jo_iload (i := 4) jd_9_12
theorem jk_9_14 : jx_Snd 9 14 (js_c 15 2) := jo_bipush (z := 15) jd_9_14 (by decide +kernel)
theorem jk_9_16 : jx_Snd 9 16 (js_cle 21) := jo_cle (o := 5) rfl jd_9_16
theorem jk_9_19 : jx_Snd 9 19 (js_c 0 1) := jo_iconst (z := 0) jd_9_19 rfl
theorem jk_9_20 : jx_Snd 9 20 (js_zr) := jo_zr rfl jd_9_20
theorem jk_9_21 : jx_Snd 9 21 (js_il 5 2) := jo_iload (i := 5) jd_9_21
theorem jk_9_23 : jx_Snd 9 23 (js_iflt 33) := jo_iflt (o := 10) rfl jd_9_23
theorem jk_9_26 : jx_Snd 9 26 (js_il 5 2) := jo_iload (i := 5) jd_9_26
theorem jk_9_28 : jx_Snd 9 28 (js_c 99 2) := jo_bipush (z := 99) jd_9_28 (by decide +kernel)
theorem jk_9_30 : jx_Snd 9 30 (js_cle 35) := jo_cle (o := 5) rfl jd_9_30
theorem jk_9_33 : jx_Snd 9 33 (js_c 0 1) := jo_iconst (z := 0) jd_9_33 rfl
theorem jk_9_34 : jx_Snd 9 34 (js_zr) := jo_zr rfl jd_9_34
theorem jk_9_35 : jx_Snd 9 35 (js_al 0 1) := jo_aload_n (i := 0) (w := 0) rfl jd_9_35
theorem jk_9_36 : jx_Snd 9 36 (js_getf 0 3) := jo_getf rfl jf_0_35 jd_9_36
theorem jk_9_39 : jx_Snd 9 39 (js_il 1 1) := jo_iload_n (i := 1) (w := 1) rfl jd_9_39
theorem jk_9_40 : jx_Snd 9 40 (js_il 2 1) := jo_iload_n (i := 2) (w := 2) rfl jd_9_40
theorem jk_9_41 : jx_Snd 9 41 (js_il 3 1) := jo_iload_n (i := 3) (w := 3) rfl jd_9_41
theorem jk_9_42 : jx_Snd 9 42 (js_il 4 2) := jo_iload (i := 4) jd_9_42
theorem jk_9_44 : jx_Snd 9 44 (js_il 5 2) := jo_iload (i := 5) jd_9_44
theorem jk_9_46 : jx_Snd 9 46 (js_v5 7 83) := jo_v5 rfl jok_83 (Or.inl jw_330) jw_135 jw_136 rfl jd_9_46
theorem jk_9_49 : jx_Snd 9 49 (js_c 1 1) := jo_iconst (z := 1) jd_9_49 rfl
theorem jk_9_50 : jx_Snd 9 50 (js_zr) := jo_zr rfl jd_9_50
theorem jk_9 : jx_So 9 jt_9 := fun pc => jo_le (jo_le (jo_le (jo_le (jo_le (jo_at (jk_9_0)) (jo_at (jk_9_1))) (jo_le (jo_at (jk_9_4)) (jo_at (jk_9_7)))) (jo_le (jo_le (jo_at (jk_9_9)) (jo_at (jk_9_12))) (jo_at (jk_9_14)))) (jo_le (jo_le (jo_le (jo_at (jk_9_16)) (jo_at (jk_9_19))) (jo_le (jo_at (jk_9_20)) (jo_at (jk_9_21)))) (jo_le (jo_le (jo_at (jk_9_23)) (jo_at (jk_9_26))) (jo_at (jk_9_28))))) (jo_le (jo_le (jo_le (jo_le (jo_at (jk_9_30)) (jo_at (jk_9_33))) (jo_le (jo_at (jk_9_34)) (jo_at (jk_9_35)))) (jo_le (jo_le (jo_at (jk_9_36)) (jo_at (jk_9_39))) (jo_at (jk_9_40)))) (jo_le (jo_le (jo_le (jo_at (jk_9_41)) (jo_at (jk_9_42))) (jo_at (jk_9_44))) (jo_le (jo_le (jo_at (jk_9_46)) (jo_at (jk_9_49))) (jo_at (jk_9_50)))))
theorem ji_9 {l : Launch} {D : va_G} {cA : ClassId} {ρ : Nat → Nat} {Λ : List jx_Lc} {d : Nat} {Q : Option Value → jx_St → Prop} {σ : jx_St} {z0 : Nat} {a1 : Int32} {a2 : Int32} {a3 : Int32} {a4 : Int32} {a5 : Int32} (h : jt_9 0 Λ jx_tb0 (jx_rn Λ jx_tb0 jt_9 (fun k' as σ K => jx_C l D cA ρ Λ d k' as σ K) Q (jx_J l D cA ρ Λ (jx_A ρ Λ) jx_tb0 (d + 1) 9 Q) [] 400) (fun k' as σ K => jx_C l D cA ρ Λ d k' as σ K) Q 0 [(0, .ref z0), (1, .int a1), (2, .int a2), (3, .int a3), (4, .int a4), (5, .int a5)] [] σ) : jx_C l D cA ρ Λ (d + 1) 9 [.ref z0, .int a1, .int a2, .int a3, .int a4, .int a5] σ Q := jx_in jk_9 400 [] rfl (Nat.le_of_ble_eq_true rfl) h
/-! ScriptLedger.guarantee(I)Z -/
theorem jd_10_0 : decode prog_1_method_11_code 0 = .ok (.iload_n 1, 1) := by decide +kernel
theorem jd_10_1 : decode prog_1_method_11_code 1 = .ok (.ifCond .ge 5, 3) := by decide +kernel
theorem jd_10_4 : decode prog_1_method_11_code 4 = .ok (.iconst 0, 1) := by decide +kernel
theorem jd_10_5 : decode prog_1_method_11_code 5 = .ok (.ireturn, 1) := by decide +kernel
theorem jd_10_6 : decode prog_1_method_11_code 6 = .ok (.aload_n 0, 1) := by decide +kernel
theorem jd_10_7 : decode prog_1_method_11_code 7 = .ok (.getfield 35, 3) := by decide +kernel
theorem jd_10_10 : decode prog_1_method_11_code 10 = .ok (.iload_n 1, 1) := by decide +kernel
theorem jd_10_11 : decode prog_1_method_11_code 11 = .ok (.putfield 127, 3) := by decide +kernel
theorem jd_10_14 : decode prog_1_method_11_code 14 = .ok (.iconst 1, 1) := by decide +kernel
theorem jd_10_15 : decode prog_1_method_11_code 15 = .ok (.ireturn, 1) := by decide +kernel
def jt_10 (pc : Nat) : jx_Sp := bif Nat.ble pc 6 then (bif Nat.ble pc 4 then (bif Nat.ble pc 1 then (bif Nat.ble pc 0 then (bif Nat.beq pc 0 then js_il 1 1 else js_none) else (bif Nat.beq pc 1 then js_ifge 6 else js_none)) else (bif Nat.beq pc 4 then js_c 0 1 else js_none)) else (bif Nat.ble pc 5 then (bif Nat.beq pc 5 then js_zr else js_none) else (bif Nat.beq pc 6 then js_al 0 1 else js_none))) else (bif Nat.ble pc 11 then (bif Nat.ble pc 10 then (bif Nat.ble pc 7 then (bif Nat.beq pc 7 then js_getf 0 3 else js_none) else (bif Nat.beq pc 10 then js_il 1 1 else js_none)) else (bif Nat.beq pc 11 then js_putf 7 11 false else js_none)) else (bif Nat.ble pc 14 then (bif Nat.beq pc 14 then js_c 1 1 else js_none) else (bif Nat.beq pc 15 then js_zr else js_none)))
theorem jk_10_0 : jx_Snd 10 0 (js_il 1 1) := jo_iload_n (i := 1) (w := 1) rfl jd_10_0
theorem jk_10_1 : jx_Snd 10 1 (js_ifge 6) := jo_ifge (o := 5) rfl jd_10_1
theorem jk_10_4 : jx_Snd 10 4 (js_c 0 1) := jo_iconst (z := 0) jd_10_4 rfl
theorem jk_10_5 : jx_Snd 10 5 (js_zr) := jo_zr rfl jd_10_5
theorem jk_10_6 : jx_Snd 10 6 (js_al 0 1) := jo_aload_n (i := 0) (w := 0) rfl jd_10_6
theorem jk_10_7 : jx_Snd 10 7 (js_getf 0 3) := jo_getf rfl jf_0_35 jd_10_7
theorem jk_10_10 : jx_Snd 10 10 (js_il 1 1) := jo_iload_n (i := 1) (w := 1) rfl jd_10_10
theorem jk_10_11 : jx_Snd 10 11 (js_putf 7 11 false) := jo_putf (z := false) rfl jf_0_127 (fun C T N h => by cases h; rfl) jd_10_11
theorem jk_10_14 : jx_Snd 10 14 (js_c 1 1) := jo_iconst (z := 1) jd_10_14 rfl
theorem jk_10_15 : jx_Snd 10 15 (js_zr) := jo_zr rfl jd_10_15
theorem jk_10 : jx_So 10 jt_10 := fun pc => jo_le (jo_le (jo_le (jo_le (jo_at (jk_10_0)) (jo_at (jk_10_1))) (jo_at (jk_10_4))) (jo_le (jo_at (jk_10_5)) (jo_at (jk_10_6)))) (jo_le (jo_le (jo_le (jo_at (jk_10_7)) (jo_at (jk_10_10))) (jo_at (jk_10_11))) (jo_le (jo_at (jk_10_14)) (jo_at (jk_10_15))))
theorem ji_10 {l : Launch} {D : va_G} {cA : ClassId} {ρ : Nat → Nat} {Λ : List jx_Lc} {d : Nat} {Q : Option Value → jx_St → Prop} {σ : jx_St} {z0 : Nat} {a1 : Int32} (h : jt_10 0 Λ jx_tb0 (jx_rn Λ jx_tb0 jt_10 (fun k' as σ K => jx_C l D cA ρ Λ d k' as σ K) Q (jx_J l D cA ρ Λ (jx_A ρ Λ) jx_tb0 (d + 1) 10 Q) [] 400) (fun k' as σ K => jx_C l D cA ρ Λ d k' as σ K) Q 0 [(0, .ref z0), (1, .int a1)] [] σ) : jx_C l D cA ρ Λ (d + 1) 10 [.ref z0, .int a1] σ Q := jx_in jk_10 400 [] rfl (Nat.le_of_ble_eq_true rfl) h
/-! ScriptLedger.submit()I -/
theorem jd_11_0 : decode prog_1_method_12_code 0 = .ok (.aload_n 0, 1) := by decide +kernel
theorem jd_11_1 : decode prog_1_method_12_code 1 = .ok (.invokevirtual 130, 3) := by decide +kernel
theorem jd_11_4 : decode prog_1_method_12_code 4 = .ok (.istore_n 1, 1) := by decide +kernel
theorem jd_11_5 : decode prog_1_method_12_code 5 = .ok (.iload_n 1, 1) := by decide +kernel
theorem jd_11_6 : decode prog_1_method_12_code 6 = .ok (.ifCond .ne 33, 3) := by decide +kernel
theorem jd_11_9 : decode prog_1_method_12_code 9 = .ok (.aload_n 0, 1) := by decide +kernel
theorem jd_11_10 : decode prog_1_method_12_code 10 = .ok (.invokevirtual 134, 3) := by decide +kernel
theorem jd_11_13 : decode prog_1_method_12_code 13 = .ok (.ifCond .eq 10, 3) := by decide +kernel
theorem jd_11_16 : decode prog_1_method_12_code 16 = .ok (.aload_n 0, 1) := by decide +kernel
theorem jd_11_17 : decode prog_1_method_12_code 17 = .ok (.invokevirtual 138, 3) := by decide +kernel
theorem jd_11_20 : decode prog_1_method_12_code 20 = .ok (.goto 19, 3) := by decide +kernel
theorem jd_11_23 : decode prog_1_method_12_code 23 = .ok (.aload_n 0, 1) := by decide +kernel
theorem jd_11_24 : decode prog_1_method_12_code 24 = .ok (.getfield 28, 3) := by decide +kernel
theorem jd_11_27 : decode prog_1_method_12_code 27 = .ok (.aload_n 0, 1) := by decide +kernel
theorem jd_11_28 : decode prog_1_method_12_code 28 = .ok (.getfield 35, 3) := by decide +kernel
theorem jd_11_31 : decode prog_1_method_12_code 31 = .ok (.getfield 127, 3) := by decide +kernel
theorem jd_11_34 : decode prog_1_method_12_code 34 = .ok (.invokevirtual 141, 3) := by decide +kernel
theorem jd_11_37 : decode prog_1_method_12_code 37 = .ok (.iconst 1, 1) := by decide +kernel
theorem jd_11_38 : decode prog_1_method_12_code 38 = .ok (.istore_n 1, 1) := by decide +kernel
theorem jd_11_39 : decode prog_1_method_12_code 39 = .ok (.aload_n 0, 1) := by decide +kernel
theorem jd_11_40 : decode prog_1_method_12_code 40 = .ok (.getfield 35, 3) := by decide +kernel
theorem jd_11_43 : decode prog_1_method_12_code 43 = .ok (.invokevirtual 87, 3) := by decide +kernel
theorem jd_11_46 : decode prog_1_method_12_code 46 = .ok (.iload_n 1, 1) := by decide +kernel
theorem jd_11_47 : decode prog_1_method_12_code 47 = .ok (.ireturn, 1) := by decide +kernel
def jt_11 (pc : Nat) : jx_Sp := bif Nat.ble pc 23 then (bif Nat.ble pc 9 then (bif Nat.ble pc 4 then (bif Nat.ble pc 1 then (bif Nat.ble pc 0 then (bif Nat.beq pc 0 then js_al 0 1 else js_none) else (bif Nat.beq pc 1 then js_v0 0 20 else js_none)) else (bif Nat.beq pc 4 then js_is 1 1 else js_none)) else (bif Nat.ble pc 6 then (bif Nat.ble pc 5 then (bif Nat.beq pc 5 then js_il 1 1 else js_none) else (bif Nat.beq pc 6 then js_ifne 39 else js_none)) else (bif Nat.beq pc 9 then js_al 0 1 else js_none))) else (bif Nat.ble pc 16 then (bif Nat.ble pc 13 then (bif Nat.ble pc 10 then (bif Nat.beq pc 10 then js_v0 0 29 else js_none) else (bif Nat.beq pc 13 then js_ifeq 23 else js_none)) else (bif Nat.beq pc 16 then js_al 0 1 else js_none)) else (bif Nat.ble pc 20 then (bif Nat.ble pc 17 then (bif Nat.beq pc 17 then js_v0 0 31 else js_none) else (bif Nat.beq pc 20 then js_go 39 else js_none)) else (bif Nat.beq pc 23 then js_al 0 1 else js_none)))) else (bif Nat.ble pc 37 then (bif Nat.ble pc 28 then (bif Nat.ble pc 27 then (bif Nat.ble pc 24 then (bif Nat.beq pc 24 then js_getf 0 2 else js_none) else (bif Nat.beq pc 27 then js_al 0 1 else js_none)) else (bif Nat.beq pc 28 then js_getf 0 3 else js_none)) else (bif Nat.ble pc 34 then (bif Nat.ble pc 31 then (bif Nat.beq pc 31 then js_getf 7 11 else js_none) else (bif Nat.beq pc 34 then js_v1 5 72 else js_none)) else (bif Nat.beq pc 37 then js_c 1 1 else js_none))) else (bif Nat.ble pc 40 then (bif Nat.ble pc 39 then (bif Nat.ble pc 38 then (bif Nat.beq pc 38 then js_is 1 1 else js_none) else (bif Nat.beq pc 39 then js_al 0 1 else js_none)) else (bif Nat.beq pc 40 then js_getf 0 3 else js_none)) else (bif Nat.ble pc 46 then (bif Nat.ble pc 43 then (bif Nat.beq pc 43 then js_v0 7 82 else js_none) else (bif Nat.beq pc 46 then js_il 1 1 else js_none)) else (bif Nat.beq pc 47 then js_ir else js_none))))
theorem jk_11_0 : jx_Snd 11 0 (js_al 0 1) := jo_aload_n (i := 0) (w := 0) rfl jd_11_0
theorem jk_11_1 : jx_Snd 11 1 (js_v0 0 20) := jo_v0 rfl jok_20 (Or.inl jw_339) jw_340 jw_703 rfl jd_11_1
theorem jk_11_4 : jx_Snd 11 4 (js_is 1 1) := jo_istore_n (i := 1) (w := 1) rfl (Nat.le_of_ble_eq_true rfl) jd_11_4
theorem jk_11_5 : jx_Snd 11 5 (js_il 1 1) := jo_iload_n (i := 1) (w := 1) rfl jd_11_5
theorem jk_11_6 : jx_Snd 11 6 (js_ifne 39) := jo_ifne (o := 33) rfl jd_11_6
theorem jk_11_9 : jx_Snd 11 9 (js_al 0 1) := jo_aload_n (i := 0) (w := 0) rfl jd_11_9
theorem jk_11_10 : jx_Snd 11 10 (js_v0 0 29) := jo_v0 rfl jok_29 (Or.inl jw_391) jw_392 jw_711 rfl jd_11_10
theorem jk_11_13 : jx_Snd 11 13 (js_ifeq 23) := jo_ifeq (o := 10) rfl jd_11_13
theorem jk_11_16 : jx_Snd 11 16 (js_al 0 1) := jo_aload_n (i := 0) (w := 0) rfl jd_11_16
theorem jk_11_17 : jx_Snd 11 17 (js_v0 0 31) := jo_v0 rfl jok_31 (Or.inl jw_397) jw_398 jw_713 rfl jd_11_17
theorem jk_11_20 : jx_Snd 11 20 (js_go 39) := jo_goto (o := 19) rfl jd_11_20
theorem jk_11_23 : jx_Snd 11 23 (js_al 0 1) := jo_aload_n (i := 0) (w := 0) rfl jd_11_23
theorem jk_11_24 : jx_Snd 11 24 (js_getf 0 2) := jo_getf rfl jf_0_28 jd_11_24
theorem jk_11_27 : jx_Snd 11 27 (js_al 0 1) := jo_aload_n (i := 0) (w := 0) rfl jd_11_27
theorem jk_11_28 : jx_Snd 11 28 (js_getf 0 3) := jo_getf rfl jf_0_35 jd_11_28
theorem jk_11_31 : jx_Snd 11 31 (js_getf 7 11) := jo_getf rfl jf_0_127 jd_11_31
theorem jk_11_34 : jx_Snd 11 34 (js_v1 5 72) := jo_v1 rfl jok_72 (Or.inl jw_410) jw_411 jw_412 rfl jd_11_34
theorem jk_11_37 : jx_Snd 11 37 (js_c 1 1) := jo_iconst (z := 1) jd_11_37 rfl
theorem jk_11_38 : jx_Snd 11 38 (js_is 1 1) := jo_istore_n (i := 1) (w := 1) rfl (Nat.le_of_ble_eq_true rfl) jd_11_38
theorem jk_11_39 : jx_Snd 11 39 (js_al 0 1) := jo_aload_n (i := 0) (w := 0) rfl jd_11_39
theorem jk_11_40 : jx_Snd 11 40 (js_getf 0 3) := jo_getf rfl jf_0_35 jd_11_40
theorem jk_11_43 : jx_Snd 11 43 (js_v0 7 82) := jo_v0 rfl jok_82 (Or.inl jw_298) jw_131 jw_132 rfl jd_11_43
theorem jk_11_46 : jx_Snd 11 46 (js_il 1 1) := jo_iload_n (i := 1) (w := 1) rfl jd_11_46
theorem jk_11_47 : jx_Snd 11 47 (js_ir) := jo_ir rfl jd_11_47
theorem jk_11 : jx_So 11 jt_11 := fun pc => jo_le (jo_le (jo_le (jo_le (jo_le (jo_at (jk_11_0)) (jo_at (jk_11_1))) (jo_at (jk_11_4))) (jo_le (jo_le (jo_at (jk_11_5)) (jo_at (jk_11_6))) (jo_at (jk_11_9)))) (jo_le (jo_le (jo_le (jo_at (jk_11_10)) (jo_at (jk_11_13))) (jo_at (jk_11_16))) (jo_le (jo_le (jo_at (jk_11_17)) (jo_at (jk_11_20))) (jo_at (jk_11_23))))) (jo_le (jo_le (jo_le (jo_le (jo_at (jk_11_24)) (jo_at (jk_11_27))) (jo_at (jk_11_28))) (jo_le (jo_le (jo_at (jk_11_31)) (jo_at (jk_11_34))) (jo_at (jk_11_37)))) (jo_le (jo_le (jo_le (jo_at (jk_11_38)) (jo_at (jk_11_39))) (jo_at (jk_11_40))) (jo_le (jo_le (jo_at (jk_11_43)) (jo_at (jk_11_46))) (jo_at (jk_11_47)))))
theorem ji_11 {l : Launch} {D : va_G} {cA : ClassId} {ρ : Nat → Nat} {Λ : List jx_Lc} {d : Nat} {Q : Option Value → jx_St → Prop} {σ : jx_St} {z0 : Nat} (h : jt_11 0 Λ jx_tb0 (jx_rn Λ jx_tb0 jt_11 (fun k' as σ K => jx_C l D cA ρ Λ d k' as σ K) Q (jx_J l D cA ρ Λ (jx_A ρ Λ) jx_tb0 (d + 1) 11 Q) [] 400) (fun k' as σ K => jx_C l D cA ρ Λ d k' as σ K) Q 0 [(0, .ref z0)] [] σ) : jx_C l D cA ρ Λ (d + 1) 11 [.ref z0] σ Q := jx_in jk_11 400 [] rfl (Nat.le_of_ble_eq_true rfl) h
/-! ScriptLedger.block()I -/
theorem jd_12_0 : decode prog_1_method_13_code 0 = .ok (.aload_n 0, 1) := by decide +kernel
theorem jd_12_1 : decode prog_1_method_13_code 1 = .ok (.getfield 28, 3) := by decide +kernel
theorem jd_12_4 : decode prog_1_method_13_code 4 = .ok (.getfield 144, 3) := by decide +kernel
theorem jd_12_7 : decode prog_1_method_13_code 7 = .ok (.bipush 40, 2) := by decide +kernel
theorem jd_12_9 : decode prog_1_method_13_code 9 = .ok (.if_icmp .lt 5, 3) := by decide +kernel
theorem jd_12_12 : decode prog_1_method_13_code 12 = .ok (.iconst (-1), 1) := by decide +kernel
theorem jd_12_13 : decode prog_1_method_13_code 13 = .ok (.ireturn, 1) := by decide +kernel
theorem jd_12_14 : decode prog_1_method_13_code 14 = .ok (.aload_n 0, 1) := by decide +kernel
theorem jd_12_15 : decode prog_1_method_13_code 15 = .ok (.getfield 28, 3) := by decide +kernel
theorem jd_12_18 : decode prog_1_method_13_code 18 = .ok (.invokevirtual 147, 3) := by decide +kernel
theorem jd_12_21 : decode prog_1_method_13_code 21 = .ok (.aload_n 0, 1) := by decide +kernel
theorem jd_12_22 : decode prog_1_method_13_code 22 = .ok (.getfield 28, 3) := by decide +kernel
theorem jd_12_25 : decode prog_1_method_13_code 25 = .ok (.getfield 144, 3) := by decide +kernel
theorem jd_12_28 : decode prog_1_method_13_code 28 = .ok (.ireturn, 1) := by decide +kernel
def jt_12 (pc : Nat) : jx_Sp := bif Nat.ble pc 13 then (bif Nat.ble pc 7 then (bif Nat.ble pc 1 then (bif Nat.ble pc 0 then (bif Nat.beq pc 0 then js_al 0 1 else js_none) else (bif Nat.beq pc 1 then js_getf 0 2 else js_none)) else (bif Nat.ble pc 4 then (bif Nat.beq pc 4 then js_getf 5 5 else js_none) else (bif Nat.beq pc 7 then js_c 40 2 else js_none))) else (bif Nat.ble pc 12 then (bif Nat.ble pc 9 then (bif Nat.beq pc 9 then js_clt 14 else js_none) else (bif Nat.beq pc 12 then js_c (-1) 1 else js_none)) else (bif Nat.beq pc 13 then js_ir else js_none))) else (bif Nat.ble pc 21 then (bif Nat.ble pc 15 then (bif Nat.ble pc 14 then (bif Nat.beq pc 14 then js_al 0 1 else js_none) else (bif Nat.beq pc 15 then js_getf 0 2 else js_none)) else (bif Nat.ble pc 18 then (bif Nat.beq pc 18 then js_v0 5 74 else js_none) else (bif Nat.beq pc 21 then js_al 0 1 else js_none))) else (bif Nat.ble pc 25 then (bif Nat.ble pc 22 then (bif Nat.beq pc 22 then js_getf 0 2 else js_none) else (bif Nat.beq pc 25 then js_getf 5 5 else js_none)) else (bif Nat.beq pc 28 then js_ir else js_none)))
theorem jk_12_0 : jx_Snd 12 0 (js_al 0 1) := jo_aload_n (i := 0) (w := 0) rfl jd_12_0
theorem jk_12_1 : jx_Snd 12 1 (js_getf 0 2) := jo_getf rfl jf_0_28 jd_12_1
theorem jk_12_4 : jx_Snd 12 4 (js_getf 5 5) := jo_getf rfl jf_0_144 jd_12_4
theorem jk_12_7 : jx_Snd 12 7 (js_c 40 2) := jo_bipush (z := 40) jd_12_7 (by decide +kernel)
theorem jk_12_9 : jx_Snd 12 9 (js_clt 14) := jo_clt (o := 5) rfl jd_12_9
theorem jk_12_12 : jx_Snd 12 12 (js_c (-1) 1) := jo_iconst (z := (-1)) jd_12_12 rfl
theorem jk_12_13 : jx_Snd 12 13 (js_ir) := jo_ir rfl jd_12_13
theorem jk_12_14 : jx_Snd 12 14 (js_al 0 1) := jo_aload_n (i := 0) (w := 0) rfl jd_12_14
theorem jk_12_15 : jx_Snd 12 15 (js_getf 0 2) := jo_getf rfl jf_0_28 jd_12_15
theorem jk_12_18 : jx_Snd 12 18 (js_v0 5 74) := jo_v0 rfl jok_74 (Or.inl jw_419) jw_420 jw_421 rfl jd_12_18
theorem jk_12_21 : jx_Snd 12 21 (js_al 0 1) := jo_aload_n (i := 0) (w := 0) rfl jd_12_21
theorem jk_12_22 : jx_Snd 12 22 (js_getf 0 2) := jo_getf rfl jf_0_28 jd_12_22
theorem jk_12_25 : jx_Snd 12 25 (js_getf 5 5) := jo_getf rfl jf_0_144 jd_12_25
theorem jk_12_28 : jx_Snd 12 28 (js_ir) := jo_ir rfl jd_12_28
theorem jk_12 : jx_So 12 jt_12 := fun pc => jo_le (jo_le (jo_le (jo_le (jo_at (jk_12_0)) (jo_at (jk_12_1))) (jo_le (jo_at (jk_12_4)) (jo_at (jk_12_7)))) (jo_le (jo_le (jo_at (jk_12_9)) (jo_at (jk_12_12))) (jo_at (jk_12_13)))) (jo_le (jo_le (jo_le (jo_at (jk_12_14)) (jo_at (jk_12_15))) (jo_le (jo_at (jk_12_18)) (jo_at (jk_12_21)))) (jo_le (jo_le (jo_at (jk_12_22)) (jo_at (jk_12_25))) (jo_at (jk_12_28))))
theorem ji_12 {l : Launch} {D : va_G} {cA : ClassId} {ρ : Nat → Nat} {Λ : List jx_Lc} {d : Nat} {Q : Option Value → jx_St → Prop} {σ : jx_St} {z0 : Nat} (h : jt_12 0 Λ jx_tb0 (jx_rn Λ jx_tb0 jt_12 (fun k' as σ K => jx_C l D cA ρ Λ d k' as σ K) Q (jx_J l D cA ρ Λ (jx_A ρ Λ) jx_tb0 (d + 1) 12 Q) [] 400) (fun k' as σ K => jx_C l D cA ρ Λ d k' as σ K) Q 0 [(0, .ref z0)] [] σ) : jx_C l D cA ρ Λ (d + 1) 12 [.ref z0] σ Q := jx_in jk_12 400 [] rfl (Nat.le_of_ble_eq_true rfl) h
/-! ScriptLedger.rollback(I)I -/
theorem jd_13_0 : decode prog_1_method_14_code 0 = .ok (.iload_n 1, 1) := by decide +kernel
theorem jd_13_1 : decode prog_1_method_14_code 1 = .ok (.ifCond .lt 19, 3) := by decide +kernel
theorem jd_13_4 : decode prog_1_method_14_code 4 = .ok (.iload_n 1, 1) := by decide +kernel
theorem jd_13_5 : decode prog_1_method_14_code 5 = .ok (.iconst 4, 1) := by decide +kernel
theorem jd_13_6 : decode prog_1_method_14_code 6 = .ok (.if_icmp .gt 14, 3) := by decide +kernel
theorem jd_13_9 : decode prog_1_method_14_code 9 = .ok (.iload_n 1, 1) := by decide +kernel
theorem jd_13_10 : decode prog_1_method_14_code 10 = .ok (.aload_n 0, 1) := by decide +kernel
theorem jd_13_11 : decode prog_1_method_14_code 11 = .ok (.getfield 28, 3) := by decide +kernel
theorem jd_13_14 : decode prog_1_method_14_code 14 = .ok (.getfield 144, 3) := by decide +kernel
theorem jd_13_17 : decode prog_1_method_14_code 17 = .ok (.if_icmp .le 5, 3) := by decide +kernel
theorem jd_13_20 : decode prog_1_method_14_code 20 = .ok (.iconst (-1), 1) := by decide +kernel
theorem jd_13_21 : decode prog_1_method_14_code 21 = .ok (.ireturn, 1) := by decide +kernel
theorem jd_13_22 : decode prog_1_method_14_code 22 = .ok (.aload_n 0, 1) := by decide +kernel
theorem jd_13_23 : decode prog_1_method_14_code 23 = .ok (.getfield 28, 3) := by decide +kernel
theorem jd_13_26 : decode prog_1_method_14_code 26 = .ok (.aload_n 0, 1) := by decide +kernel
theorem jd_13_27 : decode prog_1_method_14_code 27 = .ok (.getfield 28, 3) := by decide +kernel
theorem jd_13_30 : decode prog_1_method_14_code 30 = .ok (.getfield 144, 3) := by decide +kernel
theorem jd_13_33 : decode prog_1_method_14_code 33 = .ok (.iload_n 1, 1) := by decide +kernel
theorem jd_13_34 : decode prog_1_method_14_code 34 = .ok (.isub, 1) := by decide +kernel
theorem jd_13_35 : decode prog_1_method_14_code 35 = .ok (.invokevirtual 150, 3) := by decide +kernel
theorem jd_13_38 : decode prog_1_method_14_code 38 = .ok (.aload_n 0, 1) := by decide +kernel
theorem jd_13_39 : decode prog_1_method_14_code 39 = .ok (.getfield 28, 3) := by decide +kernel
theorem jd_13_42 : decode prog_1_method_14_code 42 = .ok (.getfield 153, 3) := by decide +kernel
theorem jd_13_45 : decode prog_1_method_14_code 45 = .ok (.getfield 156, 3) := by decide +kernel
theorem jd_13_48 : decode prog_1_method_14_code 48 = .ok (.ireturn, 1) := by decide +kernel
def jt_13 (pc : Nat) : jx_Sp := bif Nat.ble pc 22 then (bif Nat.ble pc 10 then (bif Nat.ble pc 5 then (bif Nat.ble pc 1 then (bif Nat.ble pc 0 then (bif Nat.beq pc 0 then js_il 1 1 else js_none) else (bif Nat.beq pc 1 then js_iflt 20 else js_none)) else (bif Nat.ble pc 4 then (bif Nat.beq pc 4 then js_il 1 1 else js_none) else (bif Nat.beq pc 5 then js_c 4 1 else js_none))) else (bif Nat.ble pc 9 then (bif Nat.ble pc 6 then (bif Nat.beq pc 6 then js_cgt 20 else js_none) else (bif Nat.beq pc 9 then js_il 1 1 else js_none)) else (bif Nat.beq pc 10 then js_al 0 1 else js_none))) else (bif Nat.ble pc 17 then (bif Nat.ble pc 14 then (bif Nat.ble pc 11 then (bif Nat.beq pc 11 then js_getf 0 2 else js_none) else (bif Nat.beq pc 14 then js_getf 5 5 else js_none)) else (bif Nat.beq pc 17 then js_cle 22 else js_none)) else (bif Nat.ble pc 21 then (bif Nat.ble pc 20 then (bif Nat.beq pc 20 then js_c (-1) 1 else js_none) else (bif Nat.beq pc 21 then js_ir else js_none)) else (bif Nat.beq pc 22 then js_al 0 1 else js_none)))) else (bif Nat.ble pc 34 then (bif Nat.ble pc 27 then (bif Nat.ble pc 26 then (bif Nat.ble pc 23 then (bif Nat.beq pc 23 then js_getf 0 2 else js_none) else (bif Nat.beq pc 26 then js_al 0 1 else js_none)) else (bif Nat.beq pc 27 then js_getf 0 2 else js_none)) else (bif Nat.ble pc 33 then (bif Nat.ble pc 30 then (bif Nat.beq pc 30 then js_getf 5 5 else js_none) else (bif Nat.beq pc 33 then js_il 1 1 else js_none)) else (bif Nat.beq pc 34 then js_isub else js_none))) else (bif Nat.ble pc 39 then (bif Nat.ble pc 38 then (bif Nat.ble pc 35 then (bif Nat.beq pc 35 then js_v1 5 75 else js_none) else (bif Nat.beq pc 38 then js_al 0 1 else js_none)) else (bif Nat.beq pc 39 then js_getf 0 2 else js_none)) else (bif Nat.ble pc 45 then (bif Nat.ble pc 42 then (bif Nat.beq pc 42 then js_getf 5 0 else js_none) else (bif Nat.beq pc 45 then js_getf 6 3 else js_none)) else (bif Nat.beq pc 48 then js_ir else js_none))))
theorem jk_13_0 : jx_Snd 13 0 (js_il 1 1) := jo_iload_n (i := 1) (w := 1) rfl jd_13_0
theorem jk_13_1 : jx_Snd 13 1 (js_iflt 20) := jo_iflt (o := 19) rfl jd_13_1
theorem jk_13_4 : jx_Snd 13 4 (js_il 1 1) := jo_iload_n (i := 1) (w := 1) rfl jd_13_4
theorem jk_13_5 : jx_Snd 13 5 (js_c 4 1) := jo_iconst (z := 4) jd_13_5 rfl
theorem jk_13_6 : jx_Snd 13 6 (js_cgt 20) := jo_cgt (o := 14) rfl jd_13_6
theorem jk_13_9 : jx_Snd 13 9 (js_il 1 1) := jo_iload_n (i := 1) (w := 1) rfl jd_13_9
theorem jk_13_10 : jx_Snd 13 10 (js_al 0 1) := jo_aload_n (i := 0) (w := 0) rfl jd_13_10
theorem jk_13_11 : jx_Snd 13 11 (js_getf 0 2) := jo_getf rfl jf_0_28 jd_13_11
theorem jk_13_14 : jx_Snd 13 14 (js_getf 5 5) := jo_getf rfl jf_0_144 jd_13_14
theorem jk_13_17 : jx_Snd 13 17 (js_cle 22) := jo_cle (o := 5) rfl jd_13_17
theorem jk_13_20 : jx_Snd 13 20 (js_c (-1) 1) := jo_iconst (z := (-1)) jd_13_20 rfl
theorem jk_13_21 : jx_Snd 13 21 (js_ir) := jo_ir rfl jd_13_21
theorem jk_13_22 : jx_Snd 13 22 (js_al 0 1) := jo_aload_n (i := 0) (w := 0) rfl jd_13_22
theorem jk_13_23 : jx_Snd 13 23 (js_getf 0 2) := jo_getf rfl jf_0_28 jd_13_23
theorem jk_13_26 : jx_Snd 13 26 (js_al 0 1) := jo_aload_n (i := 0) (w := 0) rfl jd_13_26
theorem jk_13_27 : jx_Snd 13 27 (js_getf 0 2) := jo_getf rfl jf_0_28 jd_13_27
theorem jk_13_30 : jx_Snd 13 30 (js_getf 5 5) := jo_getf rfl jf_0_144 jd_13_30
theorem jk_13_33 : jx_Snd 13 33 (js_il 1 1) := jo_iload_n (i := 1) (w := 1) rfl jd_13_33
theorem jk_13_34 : jx_Snd 13 34 (js_isub) := jo_isub jd_13_34
theorem jk_13_35 : jx_Snd 13 35 (js_v1 5 75) := jo_v1 rfl jok_75 (Or.inl jw_427) jw_428 jw_429 rfl jd_13_35
theorem jk_13_38 : jx_Snd 13 38 (js_al 0 1) := jo_aload_n (i := 0) (w := 0) rfl jd_13_38
theorem jk_13_39 : jx_Snd 13 39 (js_getf 0 2) := jo_getf rfl jf_0_28 jd_13_39
theorem jk_13_42 : jx_Snd 13 42 (js_getf 5 0) := jo_getf rfl jf_0_153 jd_13_42
theorem jk_13_45 : jx_Snd 13 45 (js_getf 6 3) := jo_getf rfl jf_0_156 jd_13_45
theorem jk_13_48 : jx_Snd 13 48 (js_ir) := jo_ir rfl jd_13_48
theorem jk_13 : jx_So 13 jt_13 := fun pc => jo_le (jo_le (jo_le (jo_le (jo_le (jo_at (jk_13_0)) (jo_at (jk_13_1))) (jo_le (jo_at (jk_13_4)) (jo_at (jk_13_5)))) (jo_le (jo_le (jo_at (jk_13_6)) (jo_at (jk_13_9))) (jo_at (jk_13_10)))) (jo_le (jo_le (jo_le (jo_at (jk_13_11)) (jo_at (jk_13_14))) (jo_at (jk_13_17))) (jo_le (jo_le (jo_at (jk_13_20)) (jo_at (jk_13_21))) (jo_at (jk_13_22))))) (jo_le (jo_le (jo_le (jo_le (jo_at (jk_13_23)) (jo_at (jk_13_26))) (jo_at (jk_13_27))) (jo_le (jo_le (jo_at (jk_13_30)) (jo_at (jk_13_33))) (jo_at (jk_13_34)))) (jo_le (jo_le (jo_le (jo_at (jk_13_35)) (jo_at (jk_13_38))) (jo_at (jk_13_39))) (jo_le (jo_le (jo_at (jk_13_42)) (jo_at (jk_13_45))) (jo_at (jk_13_48)))))
theorem ji_13 {l : Launch} {D : va_G} {cA : ClassId} {ρ : Nat → Nat} {Λ : List jx_Lc} {d : Nat} {Q : Option Value → jx_St → Prop} {σ : jx_St} {z0 : Nat} {a1 : Int32} (h : jt_13 0 Λ jx_tb0 (jx_rn Λ jx_tb0 jt_13 (fun k' as σ K => jx_C l D cA ρ Λ d k' as σ K) Q (jx_J l D cA ρ Λ (jx_A ρ Λ) jx_tb0 (d + 1) 13 Q) [] 400) (fun k' as σ K => jx_C l D cA ρ Λ d k' as σ K) Q 0 [(0, .ref z0), (1, .int a1)] [] σ) : jx_C l D cA ρ Λ (d + 1) 13 [.ref z0, .int a1] σ Q := jx_in jk_13 400 [] rfl (Nat.le_of_ble_eq_true rfl) h
/-! ScriptLedger.outputs()I -/
theorem jd_14_0 : decode prog_1_method_15_code 0 = .ok (.aload_n 0, 1) := by decide +kernel
theorem jd_14_1 : decode prog_1_method_15_code 1 = .ok (.getfield 28, 3) := by decide +kernel
theorem jd_14_4 : decode prog_1_method_15_code 4 = .ok (.getfield 153, 3) := by decide +kernel
theorem jd_14_7 : decode prog_1_method_15_code 7 = .ok (.getfield 156, 3) := by decide +kernel
theorem jd_14_10 : decode prog_1_method_15_code 10 = .ok (.ireturn, 1) := by decide +kernel
def jt_14 (pc : Nat) : jx_Sp := bif Nat.ble pc 4 then (bif Nat.ble pc 1 then (bif Nat.ble pc 0 then (bif Nat.beq pc 0 then js_al 0 1 else js_none) else (bif Nat.beq pc 1 then js_getf 0 2 else js_none)) else (bif Nat.beq pc 4 then js_getf 5 0 else js_none)) else (bif Nat.ble pc 7 then (bif Nat.beq pc 7 then js_getf 6 3 else js_none) else (bif Nat.beq pc 10 then js_ir else js_none))
theorem jk_14_0 : jx_Snd 14 0 (js_al 0 1) := jo_aload_n (i := 0) (w := 0) rfl jd_14_0
theorem jk_14_1 : jx_Snd 14 1 (js_getf 0 2) := jo_getf rfl jf_0_28 jd_14_1
theorem jk_14_4 : jx_Snd 14 4 (js_getf 5 0) := jo_getf rfl jf_0_153 jd_14_4
theorem jk_14_7 : jx_Snd 14 7 (js_getf 6 3) := jo_getf rfl jf_0_156 jd_14_7
theorem jk_14_10 : jx_Snd 14 10 (js_ir) := jo_ir rfl jd_14_10
theorem jk_14 : jx_So 14 jt_14 := fun pc => jo_le (jo_le (jo_le (jo_at (jk_14_0)) (jo_at (jk_14_1))) (jo_at (jk_14_4))) (jo_le (jo_at (jk_14_7)) (jo_at (jk_14_10)))
theorem ji_14 {l : Launch} {D : va_G} {cA : ClassId} {ρ : Nat → Nat} {Λ : List jx_Lc} {d : Nat} {Q : Option Value → jx_St → Prop} {σ : jx_St} {z0 : Nat} (h : jt_14 0 Λ jx_tb0 (jx_rn Λ jx_tb0 jt_14 (fun k' as σ K => jx_C l D cA ρ Λ d k' as σ K) Q (jx_J l D cA ρ Λ (jx_A ρ Λ) jx_tb0 (d + 1) 14 Q) [] 400) (fun k' as σ K => jx_C l D cA ρ Λ d k' as σ K) Q 0 [(0, .ref z0)] [] σ) : jx_C l D cA ρ Λ (d + 1) 14 [.ref z0] σ Q := jx_in jk_14 400 [] rfl (Nat.le_of_ble_eq_true rfl) h
/-! ScriptLedger.about(II)I -/
theorem jd_15_0 : decode prog_1_method_16_code 0 = .ok (.aload_n 0, 1) := by decide +kernel
theorem jd_15_1 : decode prog_1_method_16_code 1 = .ok (.getfield 28, 3) := by decide +kernel
theorem jd_15_4 : decode prog_1_method_16_code 4 = .ok (.iload_n 1, 1) := by decide +kernel
theorem jd_15_5 : decode prog_1_method_16_code 5 = .ok (.invokevirtual 157, 3) := by decide +kernel
theorem jd_15_8 : decode prog_1_method_16_code 8 = .ok (.ifCond .ne 5, 3) := by decide +kernel
theorem jd_15_11 : decode prog_1_method_16_code 11 = .ok (.iconst (-1), 1) := by decide +kernel
theorem jd_15_12 : decode prog_1_method_16_code 12 = .ok (.ireturn, 1) := by decide +kernel
theorem jd_15_13 : decode prog_1_method_16_code 13 = .ok (.iload_n 2, 1) := by decide +kernel
theorem jd_15_14 : decode prog_1_method_16_code 14 = .ok (.tableswitch 94 0 5 #[38, 38, 38, 51, 64, 77], 38) := by decide +kernel
theorem jd_15_52 : decode prog_1_method_16_code 52 = .ok (.aload_n 0, 1) := by decide +kernel
theorem jd_15_53 : decode prog_1_method_16_code 53 = .ok (.getfield 28, 3) := by decide +kernel
theorem jd_15_56 : decode prog_1_method_16_code 56 = .ok (.getfield 153, 3) := by decide +kernel
theorem jd_15_59 : decode prog_1_method_16_code 59 = .ok (.iload_n 1, 1) := by decide +kernel
theorem jd_15_60 : decode prog_1_method_16_code 60 = .ok (.iload_n 2, 1) := by decide +kernel
theorem jd_15_61 : decode prog_1_method_16_code 61 = .ok (.invokevirtual 158, 3) := by decide +kernel
theorem jd_15_64 : decode prog_1_method_16_code 64 = .ok (.ireturn, 1) := by decide +kernel
theorem jd_15_65 : decode prog_1_method_16_code 65 = .ok (.aload_n 0, 1) := by decide +kernel
theorem jd_15_66 : decode prog_1_method_16_code 66 = .ok (.getfield 28, 3) := by decide +kernel
theorem jd_15_69 : decode prog_1_method_16_code 69 = .ok (.getfield 153, 3) := by decide +kernel
theorem jd_15_72 : decode prog_1_method_16_code 72 = .ok (.getfield 162, 3) := by decide +kernel
theorem jd_15_75 : decode prog_1_method_16_code 75 = .ok (.iload_n 1, 1) := by decide +kernel
theorem jd_15_76 : decode prog_1_method_16_code 76 = .ok (.iaload, 1) := by decide +kernel
theorem jd_15_77 : decode prog_1_method_16_code 77 = .ok (.ireturn, 1) := by decide +kernel
theorem jd_15_78 : decode prog_1_method_16_code 78 = .ok (.aload_n 0, 1) := by decide +kernel
theorem jd_15_79 : decode prog_1_method_16_code 79 = .ok (.getfield 28, 3) := by decide +kernel
theorem jd_15_82 : decode prog_1_method_16_code 82 = .ok (.getfield 153, 3) := by decide +kernel
theorem jd_15_85 : decode prog_1_method_16_code 85 = .ok (.getfield 165, 3) := by decide +kernel
theorem jd_15_88 : decode prog_1_method_16_code 88 = .ok (.iload_n 1, 1) := by decide +kernel
theorem jd_15_89 : decode prog_1_method_16_code 89 = .ok (.iaload, 1) := by decide +kernel
theorem jd_15_90 : decode prog_1_method_16_code 90 = .ok (.ireturn, 1) := by decide +kernel
theorem jd_15_91 : decode prog_1_method_16_code 91 = .ok (.aload_n 0, 1) := by decide +kernel
theorem jd_15_92 : decode prog_1_method_16_code 92 = .ok (.getfield 28, 3) := by decide +kernel
theorem jd_15_95 : decode prog_1_method_16_code 95 = .ok (.iload_n 1, 1) := by decide +kernel
theorem jd_15_96 : decode prog_1_method_16_code 96 = .ok (.invokevirtual 168, 3) := by decide +kernel
theorem jd_15_99 : decode prog_1_method_16_code 99 = .ok (.ifCond .eq 7, 3) := by decide +kernel
theorem jd_15_102 : decode prog_1_method_16_code 102 = .ok (.iconst 0, 1) := by decide +kernel
theorem jd_15_103 : decode prog_1_method_16_code 103 = .ok (.goto 4, 3) := by decide +kernel
theorem jd_15_106 : decode prog_1_method_16_code 106 = .ok (.iconst 1, 1) := by decide +kernel
theorem jd_15_107 : decode prog_1_method_16_code 107 = .ok (.ireturn, 1) := by decide +kernel
theorem jd_15_108 : decode prog_1_method_16_code 108 = .ok (.iconst (-1), 1) := by decide +kernel
theorem jd_15_109 : decode prog_1_method_16_code 109 = .ok (.ireturn, 1) := by decide +kernel
def jt_15 (pc : Nat) : jx_Sp := bif Nat.ble pc 75 then (bif Nat.ble pc 53 then (bif Nat.ble pc 11 then (bif Nat.ble pc 4 then (bif Nat.ble pc 1 then (bif Nat.ble pc 0 then (bif Nat.beq pc 0 then js_al 0 1 else js_none) else (bif Nat.beq pc 1 then js_getf 0 2 else js_none)) else (bif Nat.beq pc 4 then js_il 1 1 else js_none)) else (bif Nat.ble pc 8 then (bif Nat.ble pc 5 then (bif Nat.beq pc 5 then js_v1 5 68 else js_none) else (bif Nat.beq pc 8 then js_ifne 13 else js_none)) else (bif Nat.beq pc 11 then js_c (-1) 1 else js_none))) else (bif Nat.ble pc 14 then (bif Nat.ble pc 13 then (bif Nat.ble pc 12 then (bif Nat.beq pc 12 then js_ir else js_none) else (bif Nat.beq pc 13 then js_il 2 1 else js_none)) else (bif Nat.beq pc 14 then js_sw [(0, 52), (1, 52), (2, 52), (3, 65), (4, 78), (5, 91)] 108 else js_none)) else (bif Nat.ble pc 52 then (bif Nat.beq pc 52 then js_al 0 1 else js_none) else (bif Nat.beq pc 53 then js_getf 0 2 else js_none)))) else (bif Nat.ble pc 64 then (bif Nat.ble pc 60 then (bif Nat.ble pc 59 then (bif Nat.ble pc 56 then (bif Nat.beq pc 56 then js_getf 5 0 else js_none) else (bif Nat.beq pc 59 then js_il 1 1 else js_none)) else (bif Nat.beq pc 60 then js_il 2 1 else js_none)) else (bif Nat.ble pc 61 then (bif Nat.beq pc 61 then js_v2 6 79 else js_none) else (bif Nat.beq pc 64 then js_ir else js_none))) else (bif Nat.ble pc 69 then (bif Nat.ble pc 66 then (bif Nat.ble pc 65 then (bif Nat.beq pc 65 then js_al 0 1 else js_none) else (bif Nat.beq pc 66 then js_getf 0 2 else js_none)) else (bif Nat.beq pc 69 then js_getf 5 0 else js_none)) else (bif Nat.ble pc 72 then (bif Nat.beq pc 72 then js_getf 6 0 else js_none) else (bif Nat.beq pc 75 then js_il 1 1 else js_none))))) else (bif Nat.ble pc 91 then (bif Nat.ble pc 82 then (bif Nat.ble pc 78 then (bif Nat.ble pc 77 then (bif Nat.ble pc 76 then (bif Nat.beq pc 76 then js_ald else js_none) else (bif Nat.beq pc 77 then js_ir else js_none)) else (bif Nat.beq pc 78 then js_al 0 1 else js_none)) else (bif Nat.ble pc 79 then (bif Nat.beq pc 79 then js_getf 0 2 else js_none) else (bif Nat.beq pc 82 then js_getf 5 0 else js_none))) else (bif Nat.ble pc 89 then (bif Nat.ble pc 88 then (bif Nat.ble pc 85 then (bif Nat.beq pc 85 then js_getf 6 1 else js_none) else (bif Nat.beq pc 88 then js_il 1 1 else js_none)) else (bif Nat.beq pc 89 then js_ald else js_none)) else (bif Nat.ble pc 90 then (bif Nat.beq pc 90 then js_ir else js_none) else (bif Nat.beq pc 91 then js_al 0 1 else js_none)))) else (bif Nat.ble pc 102 then (bif Nat.ble pc 96 then (bif Nat.ble pc 95 then (bif Nat.ble pc 92 then (bif Nat.beq pc 92 then js_getf 0 2 else js_none) else (bif Nat.beq pc 95 then js_il 1 1 else js_none)) else (bif Nat.beq pc 96 then js_v1 5 69 else js_none)) else (bif Nat.ble pc 99 then (bif Nat.beq pc 99 then js_ifeq 106 else js_none) else (bif Nat.beq pc 102 then js_c 0 1 else js_none))) else (bif Nat.ble pc 107 then (bif Nat.ble pc 106 then (bif Nat.ble pc 103 then (bif Nat.beq pc 103 then js_go 107 else js_none) else (bif Nat.beq pc 106 then js_c 1 1 else js_none)) else (bif Nat.beq pc 107 then js_ir else js_none)) else (bif Nat.ble pc 108 then (bif Nat.beq pc 108 then js_c (-1) 1 else js_none) else (bif Nat.beq pc 109 then js_ir else js_none)))))
theorem jk_15_0 : jx_Snd 15 0 (js_al 0 1) := jo_aload_n (i := 0) (w := 0) rfl jd_15_0
theorem jk_15_1 : jx_Snd 15 1 (js_getf 0 2) := jo_getf rfl jf_0_28 jd_15_1
theorem jk_15_4 : jx_Snd 15 4 (js_il 1 1) := jo_iload_n (i := 1) (w := 1) rfl jd_15_4
theorem jk_15_5 : jx_Snd 15 5 (js_v1 5 68) := jo_v1 rfl jok_68 (Or.inl jw_439) jw_350 jw_351 rfl jd_15_5
theorem jk_15_8 : jx_Snd 15 8 (js_ifne 13) := jo_ifne (o := 5) rfl jd_15_8
theorem jk_15_11 : jx_Snd 15 11 (js_c (-1) 1) := jo_iconst (z := (-1)) jd_15_11 rfl
theorem jk_15_12 : jx_Snd 15 12 (js_ir) := jo_ir rfl jd_15_12
theorem jk_15_13 : jx_Snd 15 13 (js_il 2 1) := jo_iload_n (i := 2) (w := 2) rfl jd_15_13
theorem jk_15_14 : jx_Snd 15 14 (js_sw [(0, 52), (1, 52), (2, 52), (3, 65), (4, 78), (5, 91)] 108) := jo_tableD (dflt := 94) (lo := 0) (hi := 5) (offs := #[38, 38, 38, 51, 64, 77]) rfl rfl (by decide +kernel) jd_15_14
theorem jk_15_52 : jx_Snd 15 52 (js_al 0 1) := jo_aload_n (i := 0) (w := 0) rfl jd_15_52
theorem jk_15_53 : jx_Snd 15 53 (js_getf 0 2) := jo_getf rfl jf_0_28 jd_15_53
theorem jk_15_56 : jx_Snd 15 56 (js_getf 5 0) := jo_getf rfl jf_0_153 jd_15_56
theorem jk_15_59 : jx_Snd 15 59 (js_il 1 1) := jo_iload_n (i := 1) (w := 1) rfl jd_15_59
theorem jk_15_60 : jx_Snd 15 60 (js_il 2 1) := jo_iload_n (i := 2) (w := 2) rfl jd_15_60
theorem jk_15_61 : jx_Snd 15 61 (js_v2 6 79) := jo_v2 rfl jok_79 (Or.inl jw_363) jw_364 jw_365 rfl jd_15_61
theorem jk_15_64 : jx_Snd 15 64 (js_ir) := jo_ir rfl jd_15_64
theorem jk_15_65 : jx_Snd 15 65 (js_al 0 1) := jo_aload_n (i := 0) (w := 0) rfl jd_15_65
theorem jk_15_66 : jx_Snd 15 66 (js_getf 0 2) := jo_getf rfl jf_0_28 jd_15_66
theorem jk_15_69 : jx_Snd 15 69 (js_getf 5 0) := jo_getf rfl jf_0_153 jd_15_69
theorem jk_15_72 : jx_Snd 15 72 (js_getf 6 0) := jo_getf rfl jf_0_162 jd_15_72
theorem jk_15_75 : jx_Snd 15 75 (js_il 1 1) := jo_iload_n (i := 1) (w := 1) rfl jd_15_75
theorem jk_15_76 : jx_Snd 15 76 (js_ald) := jo_ald jd_15_76
theorem jk_15_77 : jx_Snd 15 77 (js_ir) := jo_ir rfl jd_15_77
theorem jk_15_78 : jx_Snd 15 78 (js_al 0 1) := jo_aload_n (i := 0) (w := 0) rfl jd_15_78
theorem jk_15_79 : jx_Snd 15 79 (js_getf 0 2) := jo_getf rfl jf_0_28 jd_15_79
theorem jk_15_82 : jx_Snd 15 82 (js_getf 5 0) := jo_getf rfl jf_0_153 jd_15_82
theorem jk_15_85 : jx_Snd 15 85 (js_getf 6 1) := jo_getf rfl jf_0_165 jd_15_85
theorem jk_15_88 : jx_Snd 15 88 (js_il 1 1) := jo_iload_n (i := 1) (w := 1) rfl jd_15_88
theorem jk_15_89 : jx_Snd 15 89 (js_ald) := jo_ald jd_15_89
theorem jk_15_90 : jx_Snd 15 90 (js_ir) := jo_ir rfl jd_15_90
theorem jk_15_91 : jx_Snd 15 91 (js_al 0 1) := jo_aload_n (i := 0) (w := 0) rfl jd_15_91
theorem jk_15_92 : jx_Snd 15 92 (js_getf 0 2) := jo_getf rfl jf_0_28 jd_15_92
theorem jk_15_95 : jx_Snd 15 95 (js_il 1 1) := jo_iload_n (i := 1) (w := 1) rfl jd_15_95
theorem jk_15_96 : jx_Snd 15 96 (js_v1 5 69) := jo_v1 rfl jok_69 (Or.inl jw_345) jw_346 jw_347 rfl jd_15_96
theorem jk_15_99 : jx_Snd 15 99 (js_ifeq 106) := jo_ifeq (o := 7) rfl jd_15_99
theorem jk_15_102 : jx_Snd 15 102 (js_c 0 1) := jo_iconst (z := 0) jd_15_102 rfl
theorem jk_15_103 : jx_Snd 15 103 (js_go 107) := jo_goto (o := 4) rfl jd_15_103
theorem jk_15_106 : jx_Snd 15 106 (js_c 1 1) := jo_iconst (z := 1) jd_15_106 rfl
theorem jk_15_107 : jx_Snd 15 107 (js_ir) := jo_ir rfl jd_15_107
theorem jk_15_108 : jx_Snd 15 108 (js_c (-1) 1) := jo_iconst (z := (-1)) jd_15_108 rfl
theorem jk_15_109 : jx_Snd 15 109 (js_ir) := jo_ir rfl jd_15_109
theorem jk_15 : jx_So 15 jt_15 := fun pc => jo_le (jo_le (jo_le (jo_le (jo_le (jo_le (jo_at (jk_15_0)) (jo_at (jk_15_1))) (jo_at (jk_15_4))) (jo_le (jo_le (jo_at (jk_15_5)) (jo_at (jk_15_8))) (jo_at (jk_15_11)))) (jo_le (jo_le (jo_le (jo_at (jk_15_12)) (jo_at (jk_15_13))) (jo_at (jk_15_14))) (jo_le (jo_at (jk_15_52)) (jo_at (jk_15_53))))) (jo_le (jo_le (jo_le (jo_le (jo_at (jk_15_56)) (jo_at (jk_15_59))) (jo_at (jk_15_60))) (jo_le (jo_at (jk_15_61)) (jo_at (jk_15_64)))) (jo_le (jo_le (jo_le (jo_at (jk_15_65)) (jo_at (jk_15_66))) (jo_at (jk_15_69))) (jo_le (jo_at (jk_15_72)) (jo_at (jk_15_75)))))) (jo_le (jo_le (jo_le (jo_le (jo_le (jo_at (jk_15_76)) (jo_at (jk_15_77))) (jo_at (jk_15_78))) (jo_le (jo_at (jk_15_79)) (jo_at (jk_15_82)))) (jo_le (jo_le (jo_le (jo_at (jk_15_85)) (jo_at (jk_15_88))) (jo_at (jk_15_89))) (jo_le (jo_at (jk_15_90)) (jo_at (jk_15_91))))) (jo_le (jo_le (jo_le (jo_le (jo_at (jk_15_92)) (jo_at (jk_15_95))) (jo_at (jk_15_96))) (jo_le (jo_at (jk_15_99)) (jo_at (jk_15_102)))) (jo_le (jo_le (jo_le (jo_at (jk_15_103)) (jo_at (jk_15_106))) (jo_at (jk_15_107))) (jo_le (jo_at (jk_15_108)) (jo_at (jk_15_109))))))
theorem ji_15 {l : Launch} {D : va_G} {cA : ClassId} {ρ : Nat → Nat} {Λ : List jx_Lc} {d : Nat} {Q : Option Value → jx_St → Prop} {σ : jx_St} {z0 : Nat} {a1 : Int32} {a2 : Int32} (h : jt_15 0 Λ jx_tb0 (jx_rn Λ jx_tb0 jt_15 (fun k' as σ K => jx_C l D cA ρ Λ d k' as σ K) Q (jx_J l D cA ρ Λ (jx_A ρ Λ) jx_tb0 (d + 1) 15 Q) [] 400) (fun k' as σ K => jx_C l D cA ρ Λ d k' as σ K) Q 0 [(0, .ref z0), (1, .int a1), (2, .int a2)] [] σ) : jx_C l D cA ρ Λ (d + 1) 15 [.ref z0, .int a1, .int a2] σ Q := jx_in jk_15 400 [] rfl (Nat.le_of_ble_eq_true rfl) h
/-! ScriptLedger.total(I)I -/
theorem jd_16_0 : decode prog_1_method_17_code 0 = .ok (.iload_n 1, 1) := by decide +kernel
theorem jd_16_1 : decode prog_1_method_17_code 1 = .ok (.ifCond .lt 8, 3) := by decide +kernel
theorem jd_16_4 : decode prog_1_method_17_code 4 = .ok (.iload_n 1, 1) := by decide +kernel
theorem jd_16_5 : decode prog_1_method_17_code 5 = .ok (.iconst 3, 1) := by decide +kernel
theorem jd_16_6 : decode prog_1_method_17_code 6 = .ok (.if_icmp .lt 5, 3) := by decide +kernel
theorem jd_16_9 : decode prog_1_method_17_code 9 = .ok (.iconst (-1), 1) := by decide +kernel
theorem jd_16_10 : decode prog_1_method_17_code 10 = .ok (.ireturn, 1) := by decide +kernel
theorem jd_16_11 : decode prog_1_method_17_code 11 = .ok (.aload_n 0, 1) := by decide +kernel
theorem jd_16_12 : decode prog_1_method_17_code 12 = .ok (.getfield 28, 3) := by decide +kernel
theorem jd_16_15 : decode prog_1_method_17_code 15 = .ok (.iload_n 1, 1) := by decide +kernel
theorem jd_16_16 : decode prog_1_method_17_code 16 = .ok (.invokevirtual 171, 3) := by decide +kernel
theorem jd_16_19 : decode prog_1_method_17_code 19 = .ok (.ireturn, 1) := by decide +kernel
def jt_16 (pc : Nat) : jx_Sp := bif Nat.ble pc 9 then (bif Nat.ble pc 4 then (bif Nat.ble pc 1 then (bif Nat.ble pc 0 then (bif Nat.beq pc 0 then js_il 1 1 else js_none) else (bif Nat.beq pc 1 then js_iflt 9 else js_none)) else (bif Nat.beq pc 4 then js_il 1 1 else js_none)) else (bif Nat.ble pc 6 then (bif Nat.ble pc 5 then (bif Nat.beq pc 5 then js_c 3 1 else js_none) else (bif Nat.beq pc 6 then js_clt 11 else js_none)) else (bif Nat.beq pc 9 then js_c (-1) 1 else js_none))) else (bif Nat.ble pc 12 then (bif Nat.ble pc 11 then (bif Nat.ble pc 10 then (bif Nat.beq pc 10 then js_ir else js_none) else (bif Nat.beq pc 11 then js_al 0 1 else js_none)) else (bif Nat.beq pc 12 then js_getf 0 2 else js_none)) else (bif Nat.ble pc 16 then (bif Nat.ble pc 15 then (bif Nat.beq pc 15 then js_il 1 1 else js_none) else (bif Nat.beq pc 16 then js_v1 5 73 else js_none)) else (bif Nat.beq pc 19 then js_ir else js_none)))
theorem jk_16_0 : jx_Snd 16 0 (js_il 1 1) := jo_iload_n (i := 1) (w := 1) rfl jd_16_0
theorem jk_16_1 : jx_Snd 16 1 (js_iflt 9) := jo_iflt (o := 8) rfl jd_16_1
theorem jk_16_4 : jx_Snd 16 4 (js_il 1 1) := jo_iload_n (i := 1) (w := 1) rfl jd_16_4
theorem jk_16_5 : jx_Snd 16 5 (js_c 3 1) := jo_iconst (z := 3) jd_16_5 rfl
theorem jk_16_6 : jx_Snd 16 6 (js_clt 11) := jo_clt (o := 5) rfl jd_16_6
theorem jk_16_9 : jx_Snd 16 9 (js_c (-1) 1) := jo_iconst (z := (-1)) jd_16_9 rfl
theorem jk_16_10 : jx_Snd 16 10 (js_ir) := jo_ir rfl jd_16_10
theorem jk_16_11 : jx_Snd 16 11 (js_al 0 1) := jo_aload_n (i := 0) (w := 0) rfl jd_16_11
theorem jk_16_12 : jx_Snd 16 12 (js_getf 0 2) := jo_getf rfl jf_0_28 jd_16_12
theorem jk_16_15 : jx_Snd 16 15 (js_il 1 1) := jo_iload_n (i := 1) (w := 1) rfl jd_16_15
theorem jk_16_16 : jx_Snd 16 16 (js_v1 5 73) := jo_v1 rfl jok_73 (Or.inl jw_444) jw_445 jw_446 rfl jd_16_16
theorem jk_16_19 : jx_Snd 16 19 (js_ir) := jo_ir rfl jd_16_19
theorem jk_16 : jx_So 16 jt_16 := fun pc => jo_le (jo_le (jo_le (jo_le (jo_at (jk_16_0)) (jo_at (jk_16_1))) (jo_at (jk_16_4))) (jo_le (jo_le (jo_at (jk_16_5)) (jo_at (jk_16_6))) (jo_at (jk_16_9)))) (jo_le (jo_le (jo_le (jo_at (jk_16_10)) (jo_at (jk_16_11))) (jo_at (jk_16_12))) (jo_le (jo_le (jo_at (jk_16_15)) (jo_at (jk_16_16))) (jo_at (jk_16_19))))
theorem ji_16 {l : Launch} {D : va_G} {cA : ClassId} {ρ : Nat → Nat} {Λ : List jx_Lc} {d : Nat} {Q : Option Value → jx_St → Prop} {σ : jx_St} {z0 : Nat} {a1 : Int32} (h : jt_16 0 Λ jx_tb0 (jx_rn Λ jx_tb0 jt_16 (fun k' as σ K => jx_C l D cA ρ Λ d k' as σ K) Q (jx_J l D cA ρ Λ (jx_A ρ Λ) jx_tb0 (d + 1) 16 Q) [] 400) (fun k' as σ K => jx_C l D cA ρ Λ d k' as σ K) Q 0 [(0, .ref z0), (1, .int a1)] [] σ) : jx_C l D cA ρ Λ (d + 1) 16 [.ref z0, .int a1] σ Q := jx_in jk_16 400 [] rfl (Nat.le_of_ble_eq_true rfl) h
/-! ScriptLedger.pot()I -/
theorem jd_17_0 : decode prog_1_method_18_code 0 = .ok (.aload_n 0, 1) := by decide +kernel
theorem jd_17_1 : decode prog_1_method_18_code 1 = .ok (.getfield 28, 3) := by decide +kernel
theorem jd_17_4 : decode prog_1_method_18_code 4 = .ok (.getfield 175, 3) := by decide +kernel
theorem jd_17_7 : decode prog_1_method_18_code 7 = .ok (.ireturn, 1) := by decide +kernel
def jt_17 (pc : Nat) : jx_Sp := bif Nat.ble pc 1 then (bif Nat.ble pc 0 then (bif Nat.beq pc 0 then js_al 0 1 else js_none) else (bif Nat.beq pc 1 then js_getf 0 2 else js_none)) else (bif Nat.ble pc 4 then (bif Nat.beq pc 4 then js_getf 5 4 else js_none) else (bif Nat.beq pc 7 then js_ir else js_none))
theorem jk_17_0 : jx_Snd 17 0 (js_al 0 1) := jo_aload_n (i := 0) (w := 0) rfl jd_17_0
theorem jk_17_1 : jx_Snd 17 1 (js_getf 0 2) := jo_getf rfl jf_0_28 jd_17_1
theorem jk_17_4 : jx_Snd 17 4 (js_getf 5 4) := jo_getf rfl jf_0_175 jd_17_4
theorem jk_17_7 : jx_Snd 17 7 (js_ir) := jo_ir rfl jd_17_7
theorem jk_17 : jx_So 17 jt_17 := fun pc => jo_le (jo_le (jo_at (jk_17_0)) (jo_at (jk_17_1))) (jo_le (jo_at (jk_17_4)) (jo_at (jk_17_7)))
theorem ji_17 {l : Launch} {D : va_G} {cA : ClassId} {ρ : Nat → Nat} {Λ : List jx_Lc} {d : Nat} {Q : Option Value → jx_St → Prop} {σ : jx_St} {z0 : Nat} (h : jt_17 0 Λ jx_tb0 (jx_rn Λ jx_tb0 jt_17 (fun k' as σ K => jx_C l D cA ρ Λ d k' as σ K) Q (jx_J l D cA ρ Λ (jx_A ρ Λ) jx_tb0 (d + 1) 17 Q) [] 400) (fun k' as σ K => jx_C l D cA ρ Λ d k' as σ K) Q 0 [(0, .ref z0)] [] σ) : jx_C l D cA ρ Λ (d + 1) 17 [.ref z0] σ Q := jx_in jk_17 400 [] rfl (Nat.le_of_ble_eq_true rfl) h
/-! ScriptLedger.height()I -/
theorem jd_18_0 : decode prog_1_method_19_code 0 = .ok (.aload_n 0, 1) := by decide +kernel
theorem jd_18_1 : decode prog_1_method_19_code 1 = .ok (.getfield 28, 3) := by decide +kernel
theorem jd_18_4 : decode prog_1_method_19_code 4 = .ok (.getfield 144, 3) := by decide +kernel
theorem jd_18_7 : decode prog_1_method_19_code 7 = .ok (.ireturn, 1) := by decide +kernel
def jt_18 (pc : Nat) : jx_Sp := bif Nat.ble pc 1 then (bif Nat.ble pc 0 then (bif Nat.beq pc 0 then js_al 0 1 else js_none) else (bif Nat.beq pc 1 then js_getf 0 2 else js_none)) else (bif Nat.ble pc 4 then (bif Nat.beq pc 4 then js_getf 5 5 else js_none) else (bif Nat.beq pc 7 then js_ir else js_none))
theorem jk_18_0 : jx_Snd 18 0 (js_al 0 1) := jo_aload_n (i := 0) (w := 0) rfl jd_18_0
theorem jk_18_1 : jx_Snd 18 1 (js_getf 0 2) := jo_getf rfl jf_0_28 jd_18_1
theorem jk_18_4 : jx_Snd 18 4 (js_getf 5 5) := jo_getf rfl jf_0_144 jd_18_4
theorem jk_18_7 : jx_Snd 18 7 (js_ir) := jo_ir rfl jd_18_7
theorem jk_18 : jx_So 18 jt_18 := fun pc => jo_le (jo_le (jo_at (jk_18_0)) (jo_at (jk_18_1))) (jo_le (jo_at (jk_18_4)) (jo_at (jk_18_7)))
theorem ji_18 {l : Launch} {D : va_G} {cA : ClassId} {ρ : Nat → Nat} {Λ : List jx_Lc} {d : Nat} {Q : Option Value → jx_St → Prop} {σ : jx_St} {z0 : Nat} (h : jt_18 0 Λ jx_tb0 (jx_rn Λ jx_tb0 jt_18 (fun k' as σ K => jx_C l D cA ρ Λ d k' as σ K) Q (jx_J l D cA ρ Λ (jx_A ρ Λ) jx_tb0 (d + 1) 18 Q) [] 400) (fun k' as σ K => jx_C l D cA ρ Λ d k' as σ K) Q 0 [(0, .ref z0)] [] σ) : jx_C l D cA ρ Λ (d + 1) 18 [.ref z0] σ Q := jx_in jk_18 400 [] rfl (Nat.le_of_ble_eq_true rfl) h
/-! ScriptLedger.isAmount(I)Z -/
theorem jd_19_0 : decode prog_1_method_20_code 0 = .ok (.iload_n 0, 1) := by decide +kernel
theorem jd_19_1 : decode prog_1_method_20_code 1 = .ok (.ifCond .lt 13, 3) := by decide +kernel
theorem jd_19_4 : decode prog_1_method_20_code 4 = .ok (.iload_n 0, 1) := by decide +kernel
theorem jd_19_5 : decode prog_1_method_20_code 5 = .ok (.ldc 117, 2) := by decide +kernel
theorem jd_19_7 : decode prog_1_method_20_code 7 = .ok (.if_icmp .gt 7, 3) := by decide +kernel
theorem jd_19_10 : decode prog_1_method_20_code 10 = .ok (.iconst 1, 1) := by decide +kernel
theorem jd_19_11 : decode prog_1_method_20_code 11 = .ok (.goto 4, 3) := by decide +kernel
theorem jd_19_14 : decode prog_1_method_20_code 14 = .ok (.iconst 0, 1) := by decide +kernel
theorem jd_19_15 : decode prog_1_method_20_code 15 = .ok (.ireturn, 1) := by decide +kernel
def jt_19 (pc : Nat) : jx_Sp := bif Nat.ble pc 7 then (bif Nat.ble pc 4 then (bif Nat.ble pc 1 then (bif Nat.ble pc 0 then (bif Nat.beq pc 0 then js_il 0 1 else js_none) else (bif Nat.beq pc 1 then js_iflt 14 else js_none)) else (bif Nat.beq pc 4 then js_il 0 1 else js_none)) else (bif Nat.ble pc 5 then (bif Nat.beq pc 5 then js_c 1000000 2 else js_none) else (bif Nat.beq pc 7 then js_cgt 14 else js_none))) else (bif Nat.ble pc 11 then (bif Nat.ble pc 10 then (bif Nat.beq pc 10 then js_c 1 1 else js_none) else (bif Nat.beq pc 11 then js_go 15 else js_none)) else (bif Nat.ble pc 14 then (bif Nat.beq pc 14 then js_c 0 1 else js_none) else (bif Nat.beq pc 15 then js_zr else js_none)))
theorem jk_19_0 : jx_Snd 19 0 (js_il 0 1) := jo_iload_n (i := 0) (w := 0) rfl jd_19_0
theorem jk_19_1 : jx_Snd 19 1 (js_iflt 14) := jo_iflt (o := 13) rfl jd_19_1
theorem jk_19_4 : jx_Snd 19 4 (js_il 0 1) := jo_iload_n (i := 0) (w := 0) rfl jd_19_4
theorem jk_19_5 : jx_Snd 19 5 (js_c 1000000 2) := jo_ldc (ix := 117) rfl jw_319 jd_19_5
theorem jk_19_7 : jx_Snd 19 7 (js_cgt 14) := jo_cgt (o := 7) rfl jd_19_7
theorem jk_19_10 : jx_Snd 19 10 (js_c 1 1) := jo_iconst (z := 1) jd_19_10 rfl
theorem jk_19_11 : jx_Snd 19 11 (js_go 15) := jo_goto (o := 4) rfl jd_19_11
theorem jk_19_14 : jx_Snd 19 14 (js_c 0 1) := jo_iconst (z := 0) jd_19_14 rfl
theorem jk_19_15 : jx_Snd 19 15 (js_zr) := jo_zr rfl jd_19_15
theorem jk_19 : jx_So 19 jt_19 := fun pc => jo_le (jo_le (jo_le (jo_le (jo_at (jk_19_0)) (jo_at (jk_19_1))) (jo_at (jk_19_4))) (jo_le (jo_at (jk_19_5)) (jo_at (jk_19_7)))) (jo_le (jo_le (jo_at (jk_19_10)) (jo_at (jk_19_11))) (jo_le (jo_at (jk_19_14)) (jo_at (jk_19_15))))
theorem ji_19 {l : Launch} {D : va_G} {cA : ClassId} {ρ : Nat → Nat} {Λ : List jx_Lc} {d : Nat} {Q : Option Value → jx_St → Prop} {σ : jx_St} {a1 : Int32} (h : jt_19 0 Λ jx_tb0 (jx_rn Λ jx_tb0 jt_19 (fun k' as σ K => jx_C l D cA ρ Λ d k' as σ K) Q (jx_J l D cA ρ Λ (jx_A ρ Λ) jx_tb0 (d + 1) 19 Q) [] 400) (fun k' as σ K => jx_C l D cA ρ Λ d k' as σ K) Q 0 [(0, .int a1)] [] σ) : jx_C l D cA ρ Λ (d + 1) 19 [.int a1] σ Q := jx_in jk_19 400 [] rfl (Nat.le_of_ble_eq_true rfl) h
/-! ScriptLedger.firstFault()I -/
theorem jd_20_0 : decode prog_1_method_21_code 0 = .ok (.aload_n 0, 1) := by decide +kernel
theorem jd_20_1 : decode prog_1_method_21_code 1 = .ok (.getfield 35, 3) := by decide +kernel
theorem jd_20_4 : decode prog_1_method_21_code 4 = .ok (.getfield 90, 3) := by decide +kernel
theorem jd_20_7 : decode prog_1_method_21_code 7 = .ok (.ifCond .ne 5, 3) := by decide +kernel
theorem jd_20_10 : decode prog_1_method_21_code 10 = .ok (.iconst 2, 1) := by decide +kernel
theorem jd_20_11 : decode prog_1_method_21_code 11 = .ok (.ireturn, 1) := by decide +kernel
theorem jd_20_12 : decode prog_1_method_21_code 12 = .ok (.aload_n 0, 1) := by decide +kernel
theorem jd_20_13 : decode prog_1_method_21_code 13 = .ok (.invokevirtual 178, 3) := by decide +kernel
theorem jd_20_16 : decode prog_1_method_21_code 16 = .ok (.ifCond .ne 5, 3) := by decide +kernel
theorem jd_20_19 : decode prog_1_method_21_code 19 = .ok (.iconst 3, 1) := by decide +kernel
theorem jd_20_20 : decode prog_1_method_21_code 20 = .ok (.ireturn, 1) := by decide +kernel
theorem jd_20_21 : decode prog_1_method_21_code 21 = .ok (.aload_n 0, 1) := by decide +kernel
theorem jd_20_22 : decode prog_1_method_21_code 22 = .ok (.getfield 28, 3) := by decide +kernel
theorem jd_20_25 : decode prog_1_method_21_code 25 = .ok (.getfield 144, 3) := by decide +kernel
theorem jd_20_28 : decode prog_1_method_21_code 28 = .ok (.aload_n 0, 1) := by decide +kernel
theorem jd_20_29 : decode prog_1_method_21_code 29 = .ok (.getfield 35, 3) := by decide +kernel
theorem jd_20_32 : decode prog_1_method_21_code 32 = .ok (.getfield 181, 3) := by decide +kernel
theorem jd_20_35 : decode prog_1_method_21_code 35 = .ok (.if_icmp .lt 20, 3) := by decide +kernel
theorem jd_20_38 : decode prog_1_method_21_code 38 = .ok (.aload_n 0, 1) := by decide +kernel
theorem jd_20_39 : decode prog_1_method_21_code 39 = .ok (.getfield 28, 3) := by decide +kernel
theorem jd_20_42 : decode prog_1_method_21_code 42 = .ok (.getfield 144, 3) := by decide +kernel
theorem jd_20_45 : decode prog_1_method_21_code 45 = .ok (.aload_n 0, 1) := by decide +kernel
theorem jd_20_46 : decode prog_1_method_21_code 46 = .ok (.getfield 35, 3) := by decide +kernel
theorem jd_20_49 : decode prog_1_method_21_code 49 = .ok (.getfield 184, 3) := by decide +kernel
theorem jd_20_52 : decode prog_1_method_21_code 52 = .ok (.if_icmp .le 5, 3) := by decide +kernel
theorem jd_20_55 : decode prog_1_method_21_code 55 = .ok (.iconst 4, 1) := by decide +kernel
theorem jd_20_56 : decode prog_1_method_21_code 56 = .ok (.ireturn, 1) := by decide +kernel
theorem jd_20_57 : decode prog_1_method_21_code 57 = .ok (.aload_n 0, 1) := by decide +kernel
theorem jd_20_58 : decode prog_1_method_21_code 58 = .ok (.getfield 35, 3) := by decide +kernel
theorem jd_20_61 : decode prog_1_method_21_code 61 = .ok (.getfield 187, 3) := by decide +kernel
theorem jd_20_64 : decode prog_1_method_21_code 64 = .ok (.aload_n 0, 1) := by decide +kernel
theorem jd_20_65 : decode prog_1_method_21_code 65 = .ok (.getfield 35, 3) := by decide +kernel
theorem jd_20_68 : decode prog_1_method_21_code 68 = .ok (.invokevirtual 190, 3) := by decide +kernel
theorem jd_20_71 : decode prog_1_method_21_code 71 = .ok (.if_icmp .ge 5, 3) := by decide +kernel
theorem jd_20_74 : decode prog_1_method_21_code 74 = .ok (.iconst 5, 1) := by decide +kernel
theorem jd_20_75 : decode prog_1_method_21_code 75 = .ok (.ireturn, 1) := by decide +kernel
theorem jd_20_76 : decode prog_1_method_21_code 76 = .ok (.aload_n 0, 1) := by decide +kernel
theorem jd_20_77 : decode prog_1_method_21_code 77 = .ok (.invokevirtual 193, 3) := by decide +kernel
theorem jd_20_80 : decode prog_1_method_21_code 80 = .ok (.ifCond .ne 6, 3) := by decide +kernel
theorem jd_20_83 : decode prog_1_method_21_code 83 = .ok (.bipush 6, 2) := by decide +kernel
theorem jd_20_85 : decode prog_1_method_21_code 85 = .ok (.ireturn, 1) := by decide +kernel
theorem jd_20_86 : decode prog_1_method_21_code 86 = .ok (.aload_n 0, 1) := by decide +kernel
theorem jd_20_87 : decode prog_1_method_21_code 87 = .ok (.invokevirtual 196, 3) := by decide +kernel
theorem jd_20_90 : decode prog_1_method_21_code 90 = .ok (.ifCond .ne 6, 3) := by decide +kernel
theorem jd_20_93 : decode prog_1_method_21_code 93 = .ok (.bipush 7, 2) := by decide +kernel
theorem jd_20_95 : decode prog_1_method_21_code 95 = .ok (.ireturn, 1) := by decide +kernel
theorem jd_20_96 : decode prog_1_method_21_code 96 = .ok (.aload_n 0, 1) := by decide +kernel
theorem jd_20_97 : decode prog_1_method_21_code 97 = .ok (.invokevirtual 199, 3) := by decide +kernel
theorem jd_20_100 : decode prog_1_method_21_code 100 = .ok (.ifCond .ne 6, 3) := by decide +kernel
theorem jd_20_103 : decode prog_1_method_21_code 103 = .ok (.bipush 8, 2) := by decide +kernel
theorem jd_20_105 : decode prog_1_method_21_code 105 = .ok (.ireturn, 1) := by decide +kernel
theorem jd_20_106 : decode prog_1_method_21_code 106 = .ok (.aload_n 0, 1) := by decide +kernel
theorem jd_20_107 : decode prog_1_method_21_code 107 = .ok (.invokevirtual 202, 3) := by decide +kernel
theorem jd_20_110 : decode prog_1_method_21_code 110 = .ok (.ifCond .eq 13, 3) := by decide +kernel
theorem jd_20_113 : decode prog_1_method_21_code 113 = .ok (.aload_n 0, 1) := by decide +kernel
theorem jd_20_114 : decode prog_1_method_21_code 114 = .ok (.invokevirtual 205, 3) := by decide +kernel
theorem jd_20_117 : decode prog_1_method_21_code 117 = .ok (.ifCond .ne 6, 3) := by decide +kernel
theorem jd_20_120 : decode prog_1_method_21_code 120 = .ok (.bipush 9, 2) := by decide +kernel
theorem jd_20_122 : decode prog_1_method_21_code 122 = .ok (.ireturn, 1) := by decide +kernel
theorem jd_20_123 : decode prog_1_method_21_code 123 = .ok (.aload_n 0, 1) := by decide +kernel
theorem jd_20_124 : decode prog_1_method_21_code 124 = .ok (.getfield 28, 3) := by decide +kernel
theorem jd_20_127 : decode prog_1_method_21_code 127 = .ok (.getfield 153, 3) := by decide +kernel
theorem jd_20_130 : decode prog_1_method_21_code 130 = .ok (.aload_n 0, 1) := by decide +kernel
theorem jd_20_131 : decode prog_1_method_21_code 131 = .ok (.getfield 35, 3) := by decide +kernel
theorem jd_20_134 : decode prog_1_method_21_code 134 = .ok (.getfield 100, 3) := by decide +kernel
theorem jd_20_137 : decode prog_1_method_21_code 137 = .ok (.getfield 156, 3) := by decide +kernel
theorem jd_20_140 : decode prog_1_method_21_code 140 = .ok (.invokevirtual 104, 3) := by decide +kernel
theorem jd_20_143 : decode prog_1_method_21_code 143 = .ok (.ifCond .ne 6, 3) := by decide +kernel
theorem jd_20_146 : decode prog_1_method_21_code 146 = .ok (.bipush 10, 2) := by decide +kernel
theorem jd_20_148 : decode prog_1_method_21_code 148 = .ok (.ireturn, 1) := by decide +kernel
theorem jd_20_149 : decode prog_1_method_21_code 149 = .ok (.iconst 0, 1) := by decide +kernel
theorem jd_20_150 : decode prog_1_method_21_code 150 = .ok (.ireturn, 1) := by decide +kernel
def jt_20 (pc : Nat) : jx_Sp := bif Nat.ble pc 75 then (bif Nat.ble pc 35 then (bif Nat.ble pc 16 then (bif Nat.ble pc 10 then (bif Nat.ble pc 4 then (bif Nat.ble pc 1 then (bif Nat.ble pc 0 then (bif Nat.beq pc 0 then js_al 0 1 else js_none) else (bif Nat.beq pc 1 then js_getf 0 3 else js_none)) else (bif Nat.beq pc 4 then js_getf 7 2 else js_none)) else (bif Nat.ble pc 7 then (bif Nat.beq pc 7 then js_ifne 12 else js_none) else (bif Nat.beq pc 10 then js_c 2 1 else js_none))) else (bif Nat.ble pc 12 then (bif Nat.ble pc 11 then (bif Nat.beq pc 11 then js_ir else js_none) else (bif Nat.beq pc 12 then js_al 0 1 else js_none)) else (bif Nat.ble pc 13 then (bif Nat.beq pc 13 then js_v0 0 21 else js_none) else (bif Nat.beq pc 16 then js_ifne 21 else js_none)))) else (bif Nat.ble pc 25 then (bif Nat.ble pc 21 then (bif Nat.ble pc 20 then (bif Nat.ble pc 19 then (bif Nat.beq pc 19 then js_c 3 1 else js_none) else (bif Nat.beq pc 20 then js_ir else js_none)) else (bif Nat.beq pc 21 then js_al 0 1 else js_none)) else (bif Nat.ble pc 22 then (bif Nat.beq pc 22 then js_getf 0 2 else js_none) else (bif Nat.beq pc 25 then js_getf 5 5 else js_none))) else (bif Nat.ble pc 29 then (bif Nat.ble pc 28 then (bif Nat.beq pc 28 then js_al 0 1 else js_none) else (bif Nat.beq pc 29 then js_getf 0 3 else js_none)) else (bif Nat.ble pc 32 then (bif Nat.beq pc 32 then js_getf 7 7 else js_none) else (bif Nat.beq pc 35 then js_clt 55 else js_none))))) else (bif Nat.ble pc 56 then (bif Nat.ble pc 46 then (bif Nat.ble pc 42 then (bif Nat.ble pc 39 then (bif Nat.ble pc 38 then (bif Nat.beq pc 38 then js_al 0 1 else js_none) else (bif Nat.beq pc 39 then js_getf 0 2 else js_none)) else (bif Nat.beq pc 42 then js_getf 5 5 else js_none)) else (bif Nat.ble pc 45 then (bif Nat.beq pc 45 then js_al 0 1 else js_none) else (bif Nat.beq pc 46 then js_getf 0 3 else js_none))) else (bif Nat.ble pc 52 then (bif Nat.ble pc 49 then (bif Nat.beq pc 49 then js_getf 7 8 else js_none) else (bif Nat.beq pc 52 then js_cle 57 else js_none)) else (bif Nat.ble pc 55 then (bif Nat.beq pc 55 then js_c 4 1 else js_none) else (bif Nat.beq pc 56 then js_ir else js_none)))) else (bif Nat.ble pc 65 then (bif Nat.ble pc 61 then (bif Nat.ble pc 58 then (bif Nat.ble pc 57 then (bif Nat.beq pc 57 then js_al 0 1 else js_none) else (bif Nat.beq pc 58 then js_getf 0 3 else js_none)) else (bif Nat.beq pc 61 then js_getf 7 6 else js_none)) else (bif Nat.ble pc 64 then (bif Nat.beq pc 64 then js_al 0 1 else js_none) else (bif Nat.beq pc 65 then js_getf 0 3 else js_none))) else (bif Nat.ble pc 71 then (bif Nat.ble pc 68 then (bif Nat.beq pc 68 then js_v0 7 86 else js_none) else (bif Nat.beq pc 71 then js_cge 76 else js_none)) else (bif Nat.ble pc 74 then (bif Nat.beq pc 74 then js_c 5 1 else js_none) else (bif Nat.beq pc 75 then js_ir else js_none)))))) else (bif Nat.ble pc 110 then (bif Nat.ble pc 93 then (bif Nat.ble pc 85 then (bif Nat.ble pc 80 then (bif Nat.ble pc 77 then (bif Nat.ble pc 76 then (bif Nat.beq pc 76 then js_al 0 1 else js_none) else (bif Nat.beq pc 77 then js_v0 0 22 else js_none)) else (bif Nat.beq pc 80 then js_ifne 86 else js_none)) else (bif Nat.ble pc 83 then (bif Nat.beq pc 83 then js_c 6 2 else js_none) else (bif Nat.beq pc 85 then js_ir else js_none))) else (bif Nat.ble pc 87 then (bif Nat.ble pc 86 then (bif Nat.beq pc 86 then js_al 0 1 else js_none) else (bif Nat.beq pc 87 then js_v0 0 24 else js_none)) else (bif Nat.ble pc 90 then (bif Nat.beq pc 90 then js_ifne 96 else js_none) else (bif Nat.beq pc 93 then js_c 7 2 else js_none)))) else (bif Nat.ble pc 103 then (bif Nat.ble pc 97 then (bif Nat.ble pc 96 then (bif Nat.ble pc 95 then (bif Nat.beq pc 95 then js_ir else js_none) else (bif Nat.beq pc 96 then js_al 0 1 else js_none)) else (bif Nat.beq pc 97 then js_v0 0 25 else js_none)) else (bif Nat.ble pc 100 then (bif Nat.beq pc 100 then js_ifne 106 else js_none) else (bif Nat.beq pc 103 then js_c 8 2 else js_none))) else (bif Nat.ble pc 106 then (bif Nat.ble pc 105 then (bif Nat.beq pc 105 then js_ir else js_none) else (bif Nat.beq pc 106 then js_al 0 1 else js_none)) else (bif Nat.ble pc 107 then (bif Nat.beq pc 107 then js_v0 0 26 else js_none) else (bif Nat.beq pc 110 then js_ifeq 123 else js_none))))) else (bif Nat.ble pc 130 then (bif Nat.ble pc 122 then (bif Nat.ble pc 117 then (bif Nat.ble pc 114 then (bif Nat.ble pc 113 then (bif Nat.beq pc 113 then js_al 0 1 else js_none) else (bif Nat.beq pc 114 then js_v0 0 28 else js_none)) else (bif Nat.beq pc 117 then js_ifne 123 else js_none)) else (bif Nat.ble pc 120 then (bif Nat.beq pc 120 then js_c 9 2 else js_none) else (bif Nat.beq pc 122 then js_ir else js_none))) else (bif Nat.ble pc 124 then (bif Nat.ble pc 123 then (bif Nat.beq pc 123 then js_al 0 1 else js_none) else (bif Nat.beq pc 124 then js_getf 0 2 else js_none)) else (bif Nat.ble pc 127 then (bif Nat.beq pc 127 then js_getf 5 0 else js_none) else (bif Nat.beq pc 130 then js_al 0 1 else js_none)))) else (bif Nat.ble pc 143 then (bif Nat.ble pc 137 then (bif Nat.ble pc 134 then (bif Nat.ble pc 131 then (bif Nat.beq pc 131 then js_getf 0 3 else js_none) else (bif Nat.beq pc 134 then js_getf 7 3 else js_none)) else (bif Nat.beq pc 137 then js_getf 6 3 else js_none)) else (bif Nat.ble pc 140 then (bif Nat.beq pc 140 then js_v1 6 77 else js_none) else (bif Nat.beq pc 143 then js_ifne 149 else js_none))) else (bif Nat.ble pc 148 then (bif Nat.ble pc 146 then (bif Nat.beq pc 146 then js_c 10 2 else js_none) else (bif Nat.beq pc 148 then js_ir else js_none)) else (bif Nat.ble pc 149 then (bif Nat.beq pc 149 then js_c 0 1 else js_none) else (bif Nat.beq pc 150 then js_ir else js_none))))))
theorem jk_20_0 : jx_Snd 20 0 (js_al 0 1) := jo_aload_n (i := 0) (w := 0) rfl jd_20_0
theorem jk_20_1 : jx_Snd 20 1 (js_getf 0 3) := jo_getf rfl jf_0_35 jd_20_1
theorem jk_20_4 : jx_Snd 20 4 (js_getf 7 2) := jo_getf rfl jf_0_90 jd_20_4
theorem jk_20_7 : jx_Snd 20 7 (js_ifne 12) := jo_ifne (o := 5) rfl jd_20_7
theorem jk_20_10 : jx_Snd 20 10 (js_c 2 1) := jo_iconst (z := 2) jd_20_10 rfl
theorem jk_20_11 : jx_Snd 20 11 (js_ir) := jo_ir rfl jd_20_11
theorem jk_20_12 : jx_Snd 20 12 (js_al 0 1) := jo_aload_n (i := 0) (w := 0) rfl jd_20_12
theorem jk_20_13 : jx_Snd 20 13 (js_v0 0 21) := jo_v0 rfl jok_21 (Or.inl jw_342) jw_343 jw_704 rfl jd_20_13
theorem jk_20_16 : jx_Snd 20 16 (js_ifne 21) := jo_ifne (o := 5) rfl jd_20_16
theorem jk_20_19 : jx_Snd 20 19 (js_c 3 1) := jo_iconst (z := 3) jd_20_19 rfl
theorem jk_20_20 : jx_Snd 20 20 (js_ir) := jo_ir rfl jd_20_20
theorem jk_20_21 : jx_Snd 20 21 (js_al 0 1) := jo_aload_n (i := 0) (w := 0) rfl jd_20_21
theorem jk_20_22 : jx_Snd 20 22 (js_getf 0 2) := jo_getf rfl jf_0_28 jd_20_22
theorem jk_20_25 : jx_Snd 20 25 (js_getf 5 5) := jo_getf rfl jf_0_144 jd_20_25
theorem jk_20_28 : jx_Snd 20 28 (js_al 0 1) := jo_aload_n (i := 0) (w := 0) rfl jd_20_28
theorem jk_20_29 : jx_Snd 20 29 (js_getf 0 3) := jo_getf rfl jf_0_35 jd_20_29
theorem jk_20_32 : jx_Snd 20 32 (js_getf 7 7) := jo_getf rfl jf_0_181 jd_20_32
theorem jk_20_35 : jx_Snd 20 35 (js_clt 55) := jo_clt (o := 20) rfl jd_20_35
theorem jk_20_38 : jx_Snd 20 38 (js_al 0 1) := jo_aload_n (i := 0) (w := 0) rfl jd_20_38
theorem jk_20_39 : jx_Snd 20 39 (js_getf 0 2) := jo_getf rfl jf_0_28 jd_20_39
theorem jk_20_42 : jx_Snd 20 42 (js_getf 5 5) := jo_getf rfl jf_0_144 jd_20_42
theorem jk_20_45 : jx_Snd 20 45 (js_al 0 1) := jo_aload_n (i := 0) (w := 0) rfl jd_20_45
theorem jk_20_46 : jx_Snd 20 46 (js_getf 0 3) := jo_getf rfl jf_0_35 jd_20_46
theorem jk_20_49 : jx_Snd 20 49 (js_getf 7 8) := jo_getf rfl jf_0_184 jd_20_49
theorem jk_20_52 : jx_Snd 20 52 (js_cle 57) := jo_cle (o := 5) rfl jd_20_52
theorem jk_20_55 : jx_Snd 20 55 (js_c 4 1) := jo_iconst (z := 4) jd_20_55 rfl
theorem jk_20_56 : jx_Snd 20 56 (js_ir) := jo_ir rfl jd_20_56
theorem jk_20_57 : jx_Snd 20 57 (js_al 0 1) := jo_aload_n (i := 0) (w := 0) rfl jd_20_57
theorem jk_20_58 : jx_Snd 20 58 (js_getf 0 3) := jo_getf rfl jf_0_35 jd_20_58
theorem jk_20_61 : jx_Snd 20 61 (js_getf 7 6) := jo_getf rfl jf_0_187 jd_20_61
theorem jk_20_64 : jx_Snd 20 64 (js_al 0 1) := jo_aload_n (i := 0) (w := 0) rfl jd_20_64
theorem jk_20_65 : jx_Snd 20 65 (js_getf 0 3) := jo_getf rfl jf_0_35 jd_20_65
theorem jk_20_68 : jx_Snd 20 68 (js_v0 7 86) := jo_v0 rfl jok_86 (Or.inl jw_353) jw_354 jw_355 rfl jd_20_68
theorem jk_20_71 : jx_Snd 20 71 (js_cge 76) := jo_cge (o := 5) rfl jd_20_71
theorem jk_20_74 : jx_Snd 20 74 (js_c 5 1) := jo_iconst (z := 5) jd_20_74 rfl
theorem jk_20_75 : jx_Snd 20 75 (js_ir) := jo_ir rfl jd_20_75
theorem jk_20_76 : jx_Snd 20 76 (js_al 0 1) := jo_aload_n (i := 0) (w := 0) rfl jd_20_76
theorem jk_20_77 : jx_Snd 20 77 (js_v0 0 22) := jo_v0 rfl jok_22 (Or.inl jw_357) jw_358 jw_705 rfl jd_20_77
theorem jk_20_80 : jx_Snd 20 80 (js_ifne 86) := jo_ifne (o := 6) rfl jd_20_80
theorem jk_20_83 : jx_Snd 20 83 (js_c 6 2) := jo_bipush (z := 6) jd_20_83 (by decide +kernel)
theorem jk_20_85 : jx_Snd 20 85 (js_ir) := jo_ir rfl jd_20_85
theorem jk_20_86 : jx_Snd 20 86 (js_al 0 1) := jo_aload_n (i := 0) (w := 0) rfl jd_20_86
theorem jk_20_87 : jx_Snd 20 87 (js_v0 0 24) := jo_v0 rfl jok_24 (Or.inl jw_372) jw_373 jw_707 rfl jd_20_87
theorem jk_20_90 : jx_Snd 20 90 (js_ifne 96) := jo_ifne (o := 6) rfl jd_20_90
theorem jk_20_93 : jx_Snd 20 93 (js_c 7 2) := jo_bipush (z := 7) jd_20_93 (by decide +kernel)
theorem jk_20_95 : jx_Snd 20 95 (js_ir) := jo_ir rfl jd_20_95
theorem jk_20_96 : jx_Snd 20 96 (js_al 0 1) := jo_aload_n (i := 0) (w := 0) rfl jd_20_96
theorem jk_20_97 : jx_Snd 20 97 (js_v0 0 25) := jo_v0 rfl jok_25 (Or.inl jw_379) jw_380 jw_708 rfl jd_20_97
theorem jk_20_100 : jx_Snd 20 100 (js_ifne 106) := jo_ifne (o := 6) rfl jd_20_100
theorem jk_20_103 : jx_Snd 20 103 (js_c 8 2) := jo_bipush (z := 8) jd_20_103 (by decide +kernel)
theorem jk_20_105 : jx_Snd 20 105 (js_ir) := jo_ir rfl jd_20_105
theorem jk_20_106 : jx_Snd 20 106 (js_al 0 1) := jo_aload_n (i := 0) (w := 0) rfl jd_20_106
theorem jk_20_107 : jx_Snd 20 107 (js_v0 0 26) := jo_v0 rfl jok_26 (Or.inl jw_385) jw_386 jw_709 rfl jd_20_107
theorem jk_20_110 : jx_Snd 20 110 (js_ifeq 123) := jo_ifeq (o := 13) rfl jd_20_110
theorem jk_20_113 : jx_Snd 20 113 (js_al 0 1) := jo_aload_n (i := 0) (w := 0) rfl jd_20_113
theorem jk_20_114 : jx_Snd 20 114 (js_v0 0 28) := jo_v0 rfl jok_28 (Or.inl jw_388) jw_389 jw_710 rfl jd_20_114
theorem jk_20_117 : jx_Snd 20 117 (js_ifne 123) := jo_ifne (o := 6) rfl jd_20_117
theorem jk_20_120 : jx_Snd 20 120 (js_c 9 2) := jo_bipush (z := 9) jd_20_120 (by decide +kernel)
theorem jk_20_122 : jx_Snd 20 122 (js_ir) := jo_ir rfl jd_20_122
theorem jk_20_123 : jx_Snd 20 123 (js_al 0 1) := jo_aload_n (i := 0) (w := 0) rfl jd_20_123
theorem jk_20_124 : jx_Snd 20 124 (js_getf 0 2) := jo_getf rfl jf_0_28 jd_20_124
theorem jk_20_127 : jx_Snd 20 127 (js_getf 5 0) := jo_getf rfl jf_0_153 jd_20_127
theorem jk_20_130 : jx_Snd 20 130 (js_al 0 1) := jo_aload_n (i := 0) (w := 0) rfl jd_20_130
theorem jk_20_131 : jx_Snd 20 131 (js_getf 0 3) := jo_getf rfl jf_0_35 jd_20_131
theorem jk_20_134 : jx_Snd 20 134 (js_getf 7 3) := jo_getf rfl jf_0_100 jd_20_134
theorem jk_20_137 : jx_Snd 20 137 (js_getf 6 3) := jo_getf rfl jf_0_156 jd_20_137
theorem jk_20_140 : jx_Snd 20 140 (js_v1 6 77) := jo_v1 rfl jok_77 (Or.inl jw_315) jw_110 jw_111 rfl jd_20_140
theorem jk_20_143 : jx_Snd 20 143 (js_ifne 149) := jo_ifne (o := 6) rfl jd_20_143
theorem jk_20_146 : jx_Snd 20 146 (js_c 10 2) := jo_bipush (z := 10) jd_20_146 (by decide +kernel)
theorem jk_20_148 : jx_Snd 20 148 (js_ir) := jo_ir rfl jd_20_148
theorem jk_20_149 : jx_Snd 20 149 (js_c 0 1) := jo_iconst (z := 0) jd_20_149 rfl
theorem jk_20_150 : jx_Snd 20 150 (js_ir) := jo_ir rfl jd_20_150
theorem jk_20 : jx_So 20 jt_20 := fun pc => jo_le (jo_le (jo_le (jo_le (jo_le (jo_le (jo_le (jo_at (jk_20_0)) (jo_at (jk_20_1))) (jo_at (jk_20_4))) (jo_le (jo_at (jk_20_7)) (jo_at (jk_20_10)))) (jo_le (jo_le (jo_at (jk_20_11)) (jo_at (jk_20_12))) (jo_le (jo_at (jk_20_13)) (jo_at (jk_20_16))))) (jo_le (jo_le (jo_le (jo_le (jo_at (jk_20_19)) (jo_at (jk_20_20))) (jo_at (jk_20_21))) (jo_le (jo_at (jk_20_22)) (jo_at (jk_20_25)))) (jo_le (jo_le (jo_at (jk_20_28)) (jo_at (jk_20_29))) (jo_le (jo_at (jk_20_32)) (jo_at (jk_20_35)))))) (jo_le (jo_le (jo_le (jo_le (jo_le (jo_at (jk_20_38)) (jo_at (jk_20_39))) (jo_at (jk_20_42))) (jo_le (jo_at (jk_20_45)) (jo_at (jk_20_46)))) (jo_le (jo_le (jo_at (jk_20_49)) (jo_at (jk_20_52))) (jo_le (jo_at (jk_20_55)) (jo_at (jk_20_56))))) (jo_le (jo_le (jo_le (jo_le (jo_at (jk_20_57)) (jo_at (jk_20_58))) (jo_at (jk_20_61))) (jo_le (jo_at (jk_20_64)) (jo_at (jk_20_65)))) (jo_le (jo_le (jo_at (jk_20_68)) (jo_at (jk_20_71))) (jo_le (jo_at (jk_20_74)) (jo_at (jk_20_75))))))) (jo_le (jo_le (jo_le (jo_le (jo_le (jo_le (jo_at (jk_20_76)) (jo_at (jk_20_77))) (jo_at (jk_20_80))) (jo_le (jo_at (jk_20_83)) (jo_at (jk_20_85)))) (jo_le (jo_le (jo_at (jk_20_86)) (jo_at (jk_20_87))) (jo_le (jo_at (jk_20_90)) (jo_at (jk_20_93))))) (jo_le (jo_le (jo_le (jo_le (jo_at (jk_20_95)) (jo_at (jk_20_96))) (jo_at (jk_20_97))) (jo_le (jo_at (jk_20_100)) (jo_at (jk_20_103)))) (jo_le (jo_le (jo_at (jk_20_105)) (jo_at (jk_20_106))) (jo_le (jo_at (jk_20_107)) (jo_at (jk_20_110)))))) (jo_le (jo_le (jo_le (jo_le (jo_le (jo_at (jk_20_113)) (jo_at (jk_20_114))) (jo_at (jk_20_117))) (jo_le (jo_at (jk_20_120)) (jo_at (jk_20_122)))) (jo_le (jo_le (jo_at (jk_20_123)) (jo_at (jk_20_124))) (jo_le (jo_at (jk_20_127)) (jo_at (jk_20_130))))) (jo_le (jo_le (jo_le (jo_le (jo_at (jk_20_131)) (jo_at (jk_20_134))) (jo_at (jk_20_137))) (jo_le (jo_at (jk_20_140)) (jo_at (jk_20_143)))) (jo_le (jo_le (jo_at (jk_20_146)) (jo_at (jk_20_148))) (jo_le (jo_at (jk_20_149)) (jo_at (jk_20_150)))))))
theorem ji_20 {l : Launch} {D : va_G} {cA : ClassId} {ρ : Nat → Nat} {Λ : List jx_Lc} {d : Nat} {Q : Option Value → jx_St → Prop} {σ : jx_St} {z0 : Nat} (h : jt_20 0 Λ jx_tb0 (jx_rn Λ jx_tb0 jt_20 (fun k' as σ K => jx_C l D cA ρ Λ d k' as σ K) Q (jx_J l D cA ρ Λ (jx_A ρ Λ) jx_tb0 (d + 1) 20 Q) [] 400) (fun k' as σ K => jx_C l D cA ρ Λ d k' as σ K) Q 0 [(0, .ref z0)] [] σ) : jx_C l D cA ρ Λ (d + 1) 20 [.ref z0] σ Q := jx_in jk_20 400 [] rfl (Nat.le_of_ble_eq_true rfl) h
/-! ScriptLedger.inputsAreUnspent()Z -/
theorem jd_21_0 : decode prog_1_method_22_code 0 = .ok (.iconst 0, 1) := by decide +kernel
theorem jd_21_1 : decode prog_1_method_22_code 1 = .ok (.istore_n 1, 1) := by decide +kernel
theorem jd_21_2 : decode prog_1_method_22_code 2 = .ok (.iload_n 1, 1) := by decide +kernel
theorem jd_21_3 : decode prog_1_method_22_code 3 = .ok (.aload_n 0, 1) := by decide +kernel
theorem jd_21_4 : decode prog_1_method_22_code 4 = .ok (.getfield 35, 3) := by decide +kernel
theorem jd_21_7 : decode prog_1_method_22_code 7 = .ok (.getfield 90, 3) := by decide +kernel
theorem jd_21_10 : decode prog_1_method_22_code 10 = .ok (.if_icmp .ge 30, 3) := by decide +kernel
theorem jd_21_13 : decode prog_1_method_22_code 13 = .ok (.aload_n 0, 1) := by decide +kernel
theorem jd_21_14 : decode prog_1_method_22_code 14 = .ok (.getfield 28, 3) := by decide +kernel
theorem jd_21_17 : decode prog_1_method_22_code 17 = .ok (.aload_n 0, 1) := by decide +kernel
theorem jd_21_18 : decode prog_1_method_22_code 18 = .ok (.getfield 35, 3) := by decide +kernel
theorem jd_21_21 : decode prog_1_method_22_code 21 = .ok (.getfield 208, 3) := by decide +kernel
theorem jd_21_24 : decode prog_1_method_22_code 24 = .ok (.iload_n 1, 1) := by decide +kernel
theorem jd_21_25 : decode prog_1_method_22_code 25 = .ok (.iaload, 1) := by decide +kernel
theorem jd_21_26 : decode prog_1_method_22_code 26 = .ok (.invokevirtual 168, 3) := by decide +kernel
theorem jd_21_29 : decode prog_1_method_22_code 29 = .ok (.ifCond .ne 5, 3) := by decide +kernel
theorem jd_21_32 : decode prog_1_method_22_code 32 = .ok (.iconst 0, 1) := by decide +kernel
theorem jd_21_33 : decode prog_1_method_22_code 33 = .ok (.ireturn, 1) := by decide +kernel
theorem jd_21_34 : decode prog_1_method_22_code 34 = .ok (.iinc 1 1, 3) := by decide +kernel
theorem jd_21_37 : decode prog_1_method_22_code 37 = .ok (.goto (-35), 3) := by decide +kernel
theorem jd_21_40 : decode prog_1_method_22_code 40 = .ok (.iconst 1, 1) := by decide +kernel
theorem jd_21_41 : decode prog_1_method_22_code 41 = .ok (.ireturn, 1) := by decide +kernel
def jt_21 (pc : Nat) : jx_Sp := bif Nat.ble pc 18 then (bif Nat.ble pc 7 then (bif Nat.ble pc 2 then (bif Nat.ble pc 1 then (bif Nat.ble pc 0 then (bif Nat.beq pc 0 then js_c 0 1 else js_none) else (bif Nat.beq pc 1 then js_is 1 1 else js_none)) else (bif Nat.beq pc 2 then js_il 1 1 else js_none)) else (bif Nat.ble pc 4 then (bif Nat.ble pc 3 then (bif Nat.beq pc 3 then js_al 0 1 else js_none) else (bif Nat.beq pc 4 then js_getf 0 3 else js_none)) else (bif Nat.beq pc 7 then js_getf 7 2 else js_none))) else (bif Nat.ble pc 14 then (bif Nat.ble pc 13 then (bif Nat.ble pc 10 then (bif Nat.beq pc 10 then js_cge 40 else js_none) else (bif Nat.beq pc 13 then js_al 0 1 else js_none)) else (bif Nat.beq pc 14 then js_getf 0 2 else js_none)) else (bif Nat.ble pc 17 then (bif Nat.beq pc 17 then js_al 0 1 else js_none) else (bif Nat.beq pc 18 then js_getf 0 3 else js_none)))) else (bif Nat.ble pc 32 then (bif Nat.ble pc 25 then (bif Nat.ble pc 24 then (bif Nat.ble pc 21 then (bif Nat.beq pc 21 then js_getf 7 0 else js_none) else (bif Nat.beq pc 24 then js_il 1 1 else js_none)) else (bif Nat.beq pc 25 then js_ald else js_none)) else (bif Nat.ble pc 29 then (bif Nat.ble pc 26 then (bif Nat.beq pc 26 then js_v1 5 69 else js_none) else (bif Nat.beq pc 29 then js_ifne 34 else js_none)) else (bif Nat.beq pc 32 then js_c 0 1 else js_none))) else (bif Nat.ble pc 37 then (bif Nat.ble pc 34 then (bif Nat.ble pc 33 then (bif Nat.beq pc 33 then js_zr else js_none) else (bif Nat.beq pc 34 then js_inc 1 1 else js_none)) else (bif Nat.beq pc 37 then js_go 2 else js_none)) else (bif Nat.ble pc 40 then (bif Nat.beq pc 40 then js_c 1 1 else js_none) else (bif Nat.beq pc 41 then js_zr else js_none))))
theorem jk_21_0 : jx_Snd 21 0 (js_c 0 1) := jo_iconst (z := 0) jd_21_0 rfl
theorem jk_21_1 : jx_Snd 21 1 (js_is 1 1) := jo_istore_n (i := 1) (w := 1) rfl (Nat.le_of_ble_eq_true rfl) jd_21_1
theorem jk_21_2 : jx_Snd 21 2 (js_il 1 1) := jo_iload_n (i := 1) (w := 1) rfl jd_21_2
theorem jk_21_3 : jx_Snd 21 3 (js_al 0 1) := jo_aload_n (i := 0) (w := 0) rfl jd_21_3
theorem jk_21_4 : jx_Snd 21 4 (js_getf 0 3) := jo_getf rfl jf_0_35 jd_21_4
theorem jk_21_7 : jx_Snd 21 7 (js_getf 7 2) := jo_getf rfl jf_0_90 jd_21_7
theorem jk_21_10 : jx_Snd 21 10 (js_cge 40) := jo_cge (o := 30) rfl jd_21_10
theorem jk_21_13 : jx_Snd 21 13 (js_al 0 1) := jo_aload_n (i := 0) (w := 0) rfl jd_21_13
theorem jk_21_14 : jx_Snd 21 14 (js_getf 0 2) := jo_getf rfl jf_0_28 jd_21_14
theorem jk_21_17 : jx_Snd 21 17 (js_al 0 1) := jo_aload_n (i := 0) (w := 0) rfl jd_21_17
theorem jk_21_18 : jx_Snd 21 18 (js_getf 0 3) := jo_getf rfl jf_0_35 jd_21_18
theorem jk_21_21 : jx_Snd 21 21 (js_getf 7 0) := jo_getf rfl jf_0_208 jd_21_21
theorem jk_21_24 : jx_Snd 21 24 (js_il 1 1) := jo_iload_n (i := 1) (w := 1) rfl jd_21_24
theorem jk_21_25 : jx_Snd 21 25 (js_ald) := jo_ald jd_21_25
theorem jk_21_26 : jx_Snd 21 26 (js_v1 5 69) := jo_v1 rfl jok_69 (Or.inl jw_345) jw_346 jw_347 rfl jd_21_26
theorem jk_21_29 : jx_Snd 21 29 (js_ifne 34) := jo_ifne (o := 5) rfl jd_21_29
theorem jk_21_32 : jx_Snd 21 32 (js_c 0 1) := jo_iconst (z := 0) jd_21_32 rfl
theorem jk_21_33 : jx_Snd 21 33 (js_zr) := jo_zr rfl jd_21_33
theorem jk_21_34 : jx_Snd 21 34 (js_inc 1 1) := jo_iinc (w := 1) rfl (Nat.le_of_ble_eq_true rfl) jd_21_34
theorem jk_21_37 : jx_Snd 21 37 (js_go 2) := jo_goto (o := (-35)) rfl jd_21_37
theorem jk_21_40 : jx_Snd 21 40 (js_c 1 1) := jo_iconst (z := 1) jd_21_40 rfl
theorem jk_21_41 : jx_Snd 21 41 (js_zr) := jo_zr rfl jd_21_41
theorem jk_21 : jx_So 21 jt_21 := fun pc => jo_le (jo_le (jo_le (jo_le (jo_le (jo_at (jk_21_0)) (jo_at (jk_21_1))) (jo_at (jk_21_2))) (jo_le (jo_le (jo_at (jk_21_3)) (jo_at (jk_21_4))) (jo_at (jk_21_7)))) (jo_le (jo_le (jo_le (jo_at (jk_21_10)) (jo_at (jk_21_13))) (jo_at (jk_21_14))) (jo_le (jo_at (jk_21_17)) (jo_at (jk_21_18))))) (jo_le (jo_le (jo_le (jo_le (jo_at (jk_21_21)) (jo_at (jk_21_24))) (jo_at (jk_21_25))) (jo_le (jo_le (jo_at (jk_21_26)) (jo_at (jk_21_29))) (jo_at (jk_21_32)))) (jo_le (jo_le (jo_le (jo_at (jk_21_33)) (jo_at (jk_21_34))) (jo_at (jk_21_37))) (jo_le (jo_at (jk_21_40)) (jo_at (jk_21_41)))))
theorem ji_21 {l : Launch} {D : va_G} {cA : ClassId} {ρ : Nat → Nat} {Λ : List jx_Lc} {d : Nat} {Q : Option Value → jx_St → Prop} {σ : jx_St} {z0 : Nat} (h : jt_21 0 Λ jx_tb0 (jx_rn Λ jx_tb0 jt_21 (fun k' as σ K => jx_C l D cA ρ Λ d k' as σ K) Q (jx_J l D cA ρ Λ (jx_A ρ Λ) jx_tb0 (d + 1) 21 Q) [] 400) (fun k' as σ K => jx_C l D cA ρ Λ d k' as σ K) Q 0 [(0, .ref z0)] [] σ) : jx_C l D cA ρ Λ (d + 1) 21 [.ref z0] σ Q := jx_in jk_21 400 [] rfl (Nat.le_of_ble_eq_true rfl) h

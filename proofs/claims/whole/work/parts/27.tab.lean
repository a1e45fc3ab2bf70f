/-! ScriptLedgerModel.type(JI)Z -/
theorem jd_90_0 : decode prog_10_method_3_code 0 = .ok (.iload_n 3, 1) := by decide +kernel
theorem jd_90_1 : decode prog_10_method_3_code 1 = .ok (.iconst 1, 1) := by decide +kernel
theorem jd_90_2 : decode prog_10_method_3_code 2 = .ok (.if_icmp .lt 20, 3) := by decide +kernel
theorem jd_90_5 : decode prog_10_method_3_code 5 = .ok (.iload_n 3, 1) := by decide +kernel
theorem jd_90_6 : decode prog_10_method_3_code 6 = .ok (.bipush 8, 2) := by decide +kernel
theorem jd_90_8 : decode prog_10_method_3_code 8 = .ok (.if_icmp .gt 14, 3) := by decide +kernel
theorem jd_90_11 : decode prog_10_method_3_code 11 = .ok (.aload_n 0, 1) := by decide +kernel
theorem jd_90_12 : decode prog_10_method_3_code 12 = .ok (.getfield 107, 3) := by decide +kernel
theorem jd_90_15 : decode prog_10_method_3_code 15 = .ok (.iload_n 3, 1) := by decide +kernel
theorem jd_90_16 : decode prog_10_method_3_code 16 = .ok (.iadd, 1) := by decide +kernel
theorem jd_90_17 : decode prog_10_method_3_code 17 = .ok (.bipush 48, 2) := by decide +kernel
theorem jd_90_19 : decode prog_10_method_3_code 19 = .ok (.if_icmp .le 5, 3) := by decide +kernel
theorem jd_90_22 : decode prog_10_method_3_code 22 = .ok (.iconst 0, 1) := by decide +kernel
theorem jd_90_23 : decode prog_10_method_3_code 23 = .ok (.ireturn, 1) := by decide +kernel
theorem jd_90_24 : decode prog_10_method_3_code 24 = .ok (.iload_n 3, 1) := by decide +kernel
theorem jd_90_25 : decode prog_10_method_3_code 25 = .ok (.iconst 1, 1) := by decide +kernel
theorem jd_90_26 : decode prog_10_method_3_code 26 = .ok (.isub, 1) := by decide +kernel
theorem jd_90_27 : decode prog_10_method_3_code 27 = .ok (.istore 4, 2) := by decide +kernel
theorem jd_90_29 : decode prog_10_method_3_code 29 = .ok (.iload 4, 2) := by decide +kernel
theorem jd_90_31 : decode prog_10_method_3_code 31 = .ok (.ifCond .lt 40, 3) := by decide +kernel
theorem jd_90_34 : decode prog_10_method_3_code 34 = .ok (.aload_n 0, 1) := by decide +kernel
theorem jd_90_35 : decode prog_10_method_3_code 35 = .ok (.getfield 16, 3) := by decide +kernel
theorem jd_90_38 : decode prog_10_method_3_code 38 = .ok (.aload_n 0, 1) := by decide +kernel
theorem jd_90_39 : decode prog_10_method_3_code 39 = .ok (.getfield 107, 3) := by decide +kernel
theorem jd_90_42 : decode prog_10_method_3_code 42 = .ok (.lload_n 1, 1) := by decide +kernel
theorem jd_90_43 : decode prog_10_method_3_code 43 = .ok (.bipush 8, 2) := by decide +kernel
theorem jd_90_45 : decode prog_10_method_3_code 45 = .ok (.iload 4, 2) := by decide +kernel
theorem jd_90_47 : decode prog_10_method_3_code 47 = .ok (.imul, 1) := by decide +kernel
theorem jd_90_48 : decode prog_10_method_3_code 48 = .ok (.lshr, 1) := by decide +kernel
theorem jd_90_49 : decode prog_10_method_3_code 49 = .ok (.ldc2_w 110, 3) := by decide +kernel
theorem jd_90_52 : decode prog_10_method_3_code 52 = .ok (.land, 1) := by decide +kernel
theorem jd_90_53 : decode prog_10_method_3_code 53 = .ok (.l2i, 1) := by decide +kernel
theorem jd_90_54 : decode prog_10_method_3_code 54 = .ok (.iastore, 1) := by decide +kernel
theorem jd_90_55 : decode prog_10_method_3_code 55 = .ok (.aload_n 0, 1) := by decide +kernel
theorem jd_90_56 : decode prog_10_method_3_code 56 = .ok (.dup, 1) := by decide +kernel
theorem jd_90_57 : decode prog_10_method_3_code 57 = .ok (.getfield 107, 3) := by decide +kernel
theorem jd_90_60 : decode prog_10_method_3_code 60 = .ok (.iconst 1, 1) := by decide +kernel
theorem jd_90_61 : decode prog_10_method_3_code 61 = .ok (.iadd, 1) := by decide +kernel
theorem jd_90_62 : decode prog_10_method_3_code 62 = .ok (.putfield 107, 3) := by decide +kernel
theorem jd_90_65 : decode prog_10_method_3_code 65 = .ok (.iinc 4 (-1), 3) := by decide +kernel
theorem jd_90_68 : decode prog_10_method_3_code 68 = .ok (.goto (-39), 3) := by decide +kernel
theorem jd_90_71 : decode prog_10_method_3_code 71 = .ok (.iconst 1, 1) := by decide +kernel
theorem jd_90_72 : decode prog_10_method_3_code 72 = .ok (.ireturn, 1) := by decide +kernel
def jt_90 (pc : Nat) : jx_Sp := bif Nat.ble pc 35 then (bif Nat.ble pc 17 then (bif Nat.ble pc 8 then (bif Nat.ble pc 2 then (bif Nat.ble pc 1 then (bif Nat.ble pc 0 then (bif Nat.beq pc 0 then js_il 3 1 else js_none) else (bif Nat.beq pc 1 then js_c 1 1 else js_none)) else (bif Nat.beq pc 2 then js_clt 22 else js_none)) else (bif Nat.ble pc 6 then (bif Nat.ble pc 5 then (bif Nat.beq pc 5 then js_il 3 1 else js_none) else (bif Nat.beq pc 6 then js_c 8 2 else js_none)) else (bif Nat.beq pc 8 then js_cgt 22 else js_none))) else (bif Nat.ble pc 15 then (bif Nat.ble pc 12 then (bif Nat.ble pc 11 then (bif Nat.beq pc 11 then js_al 0 1 else js_none) else (bif Nat.beq pc 12 then js_getf 8 3 else js_none)) else (bif Nat.beq pc 15 then js_il 3 1 else js_none)) else (bif Nat.ble pc 16 then (bif Nat.beq pc 16 then js_iadd else js_none) else (bif Nat.beq pc 17 then js_c 48 2 else js_none)))) else (bif Nat.ble pc 26 then (bif Nat.ble pc 23 then (bif Nat.ble pc 22 then (bif Nat.ble pc 19 then (bif Nat.beq pc 19 then js_cle 24 else js_none) else (bif Nat.beq pc 22 then js_c 0 1 else js_none)) else (bif Nat.beq pc 23 then js_zr else js_none)) else (bif Nat.ble pc 25 then (bif Nat.ble pc 24 then (bif Nat.beq pc 24 then js_il 3 1 else js_none) else (bif Nat.beq pc 25 then js_c 1 1 else js_none)) else (bif Nat.beq pc 26 then js_isub else js_none))) else (bif Nat.ble pc 31 then (bif Nat.ble pc 29 then (bif Nat.ble pc 27 then (bif Nat.beq pc 27 then js_is 4 2 else js_none) else (bif Nat.beq pc 29 then js_il 4 2 else js_none)) else (bif Nat.beq pc 31 then js_iflt 71 else js_none)) else (bif Nat.ble pc 34 then (bif Nat.beq pc 34 then js_al 0 1 else js_none) else (bif Nat.beq pc 35 then js_getf 8 4 else js_none))))) else (bif Nat.ble pc 54 then (bif Nat.ble pc 47 then (bif Nat.ble pc 42 then (bif Nat.ble pc 39 then (bif Nat.ble pc 38 then (bif Nat.beq pc 38 then js_al 0 1 else js_none) else (bif Nat.beq pc 39 then js_getf 8 3 else js_none)) else (bif Nat.beq pc 42 then js_ll 1 1 else js_none)) else (bif Nat.ble pc 45 then (bif Nat.ble pc 43 then (bif Nat.beq pc 43 then js_c 8 2 else js_none) else (bif Nat.beq pc 45 then js_il 4 2 else js_none)) else (bif Nat.beq pc 47 then js_imul else js_none))) else (bif Nat.ble pc 52 then (bif Nat.ble pc 49 then (bif Nat.ble pc 48 then (bif Nat.beq pc 48 then js_lshr else js_none) else (bif Nat.beq pc 49 then js_cl 255 3 else js_none)) else (bif Nat.beq pc 52 then js_land else js_none)) else (bif Nat.ble pc 53 then (bif Nat.beq pc 53 then js_l2i else js_none) else (bif Nat.beq pc 54 then js_ast else js_none)))) else (bif Nat.ble pc 61 then (bif Nat.ble pc 57 then (bif Nat.ble pc 56 then (bif Nat.ble pc 55 then (bif Nat.beq pc 55 then js_al 0 1 else js_none) else (bif Nat.beq pc 56 then js_dup else js_none)) else (bif Nat.beq pc 57 then js_getf 8 3 else js_none)) else (bif Nat.ble pc 60 then (bif Nat.beq pc 60 then js_c 1 1 else js_none) else (bif Nat.beq pc 61 then js_iadd else js_none))) else (bif Nat.ble pc 68 then (bif Nat.ble pc 65 then (bif Nat.ble pc 62 then (bif Nat.beq pc 62 then js_putf 8 3 false else js_none) else (bif Nat.beq pc 65 then js_inc 4 (-1) else js_none)) else (bif Nat.beq pc 68 then js_go 29 else js_none)) else (bif Nat.ble pc 71 then (bif Nat.beq pc 71 then js_c 1 1 else js_none) else (bif Nat.beq pc 72 then js_zr else js_none)))))
theorem jk_90_0 : jx_Snd 90 0 (js_il 3 1) := jo_iload_n (i := 3) (w := 3) rfl jd_90_0
theorem jk_90_1 : jx_Snd 90 1 (js_c 1 1) := jo_iconst (z := 1) jd_90_1 rfl
theorem jk_90_2 : jx_Snd 90 2 (js_clt 22) := jo_clt (o := 20) rfl jd_90_2
theorem jk_90_5 : jx_Snd 90 5 (js_il 3 1) := jo_iload_n (i := 3) (w := 3) rfl jd_90_5
theorem jk_90_6 : jx_Snd 90 6 (js_c 8 2) := jo_bipush (z := 8) jd_90_6 (by decide +kernel)
theorem jk_90_8 : jx_Snd 90 8 (js_cgt 22) := jo_cgt (o := 14) rfl jd_90_8
theorem jk_90_11 : jx_Snd 90 11 (js_al 0 1) := jo_aload_n (i := 0) (w := 0) rfl jd_90_11
theorem jk_90_12 : jx_Snd 90 12 (js_getf 8 3) := jo_getf rfl jf_8_107 jd_90_12
theorem jk_90_15 : jx_Snd 90 15 (js_il 3 1) := jo_iload_n (i := 3) (w := 3) rfl jd_90_15
theorem jk_90_16 : jx_Snd 90 16 (js_iadd) := jo_iadd jd_90_16
theorem jk_90_17 : jx_Snd 90 17 (js_c 48 2) := jo_bipush (z := 48) jd_90_17 (by decide +kernel)
theorem jk_90_19 : jx_Snd 90 19 (js_cle 24) := jo_cle (o := 5) rfl jd_90_19
theorem jk_90_22 : jx_Snd 90 22 (js_c 0 1) := jo_iconst (z := 0) jd_90_22 rfl
theorem jk_90_23 : jx_Snd 90 23 (js_zr) := jo_zr rfl jd_90_23
theorem jk_90_24 : jx_Snd 90 24 (js_il 3 1) := jo_iload_n (i := 3) (w := 3) rfl jd_90_24
theorem jk_90_25 : jx_Snd 90 25 (js_c 1 1) := jo_iconst (z := 1) jd_90_25 rfl
theorem jk_90_26 : jx_Snd 90 26 (js_isub) := jo_isub jd_90_26
theorem jk_90_27 : jx_Snd 90 27 (js_is 4 2) := jo_istore (i := 4) (Nat.le_of_ble_eq_true rfl) jd_90_27
theorem jk_90_29 : jx_Snd 90 29 (js_il 4 2) := jo_iload (i := 4) jd_90_29
theorem jk_90_31 : jx_Snd 90 31 (js_iflt 71) := jo_iflt (o := 40) rfl jd_90_31
theorem jk_90_34 : jx_Snd 90 34 (js_al 0 1) := jo_aload_n (i := 0) (w := 0) rfl jd_90_34
theorem jk_90_35 : jx_Snd 90 35 (js_getf 8 4) := jo_getf rfl jf_8_16 jd_90_35
theorem jk_90_38 : jx_Snd 90 38 (js_al 0 1) := jo_aload_n (i := 0) (w := 0) rfl jd_90_38
theorem jk_90_39 : jx_Snd 90 39 (js_getf 8 3) := jo_getf rfl jf_8_107 jd_90_39
theorem jk_90_42 : jx_Snd 90 42 (js_ll 1 1) := jo_lload_n (i := 1) (w := 1) rfl jd_90_42
theorem jk_90_43 : jx_Snd 90 43 (js_c 8 2) := jo_bipush (z := 8) jd_90_43 (by decide +kernel)
theorem jk_90_45 : jx_Snd 90 45 (js_il 4 2) := jo_iload (i := 4) jd_90_45
theorem jk_90_47 : jx_Snd 90 47 (js_imul) := jo_imul jd_90_47
theorem jk_90_48 : jx_Snd 90 48 (js_lshr) := jo_lshr jd_90_48
theorem jk_90_49 : jx_Snd 90 49 (js_cl 255 3) := jo_ldc2 (ix := 110) rfl jw_520 jd_90_49
theorem jk_90_52 : jx_Snd 90 52 (js_land) := jo_land jd_90_52
theorem jk_90_53 : jx_Snd 90 53 (js_l2i) := jo_l2i jd_90_53
theorem jk_90_54 : jx_Snd 90 54 (js_ast) := jo_ast jd_90_54
theorem jk_90_55 : jx_Snd 90 55 (js_al 0 1) := jo_aload_n (i := 0) (w := 0) rfl jd_90_55
theorem jk_90_56 : jx_Snd 90 56 (js_dup) := jo_dup jd_90_56
theorem jk_90_57 : jx_Snd 90 57 (js_getf 8 3) := jo_getf rfl jf_8_107 jd_90_57
theorem jk_90_60 : jx_Snd 90 60 (js_c 1 1) := jo_iconst (z := 1) jd_90_60 rfl
theorem jk_90_61 : jx_Snd 90 61 (js_iadd) := jo_iadd jd_90_61
theorem jk_90_62 : jx_Snd 90 62 (js_putf 8 3 false) := jo_putf (z := false) rfl jf_8_107 (fun C T N h => by cases h; rfl) jd_90_62
theorem jk_90_65 : jx_Snd 90 65 (js_inc 4 (-1)) := jo_iinc (w := (-1)) rfl (Nat.le_of_ble_eq_true rfl) jd_90_65
theorem jk_90_68 : jx_Snd 90 68 (js_go 29) := jo_goto (o := (-39)) rfl jd_90_68
theorem jk_90_71 : jx_Snd 90 71 (js_c 1 1) := jo_iconst (z := 1) jd_90_71 rfl
theorem jk_90_72 : jx_Snd 90 72 (js_zr) := jo_zr rfl jd_90_72
theorem jk_90 : jx_So 90 jt_90 := fun pc => jo_le (jo_le (jo_le (jo_le (jo_le (jo_le (jo_at (jk_90_0)) (jo_at (jk_90_1))) (jo_at (jk_90_2))) (jo_le (jo_le (jo_at (jk_90_5)) (jo_at (jk_90_6))) (jo_at (jk_90_8)))) (jo_le (jo_le (jo_le (jo_at (jk_90_11)) (jo_at (jk_90_12))) (jo_at (jk_90_15))) (jo_le (jo_at (jk_90_16)) (jo_at (jk_90_17))))) (jo_le (jo_le (jo_le (jo_le (jo_at (jk_90_19)) (jo_at (jk_90_22))) (jo_at (jk_90_23))) (jo_le (jo_le (jo_at (jk_90_24)) (jo_at (jk_90_25))) (jo_at (jk_90_26)))) (jo_le (jo_le (jo_le (jo_at (jk_90_27)) (jo_at (jk_90_29))) (jo_at (jk_90_31))) (jo_le (jo_at (jk_90_34)) (jo_at (jk_90_35)))))) (jo_le (jo_le (jo_le (jo_le (jo_le (jo_at (jk_90_38)) (jo_at (jk_90_39))) (jo_at (jk_90_42))) (jo_le (jo_le (jo_at (jk_90_43)) (jo_at (jk_90_45))) (jo_at (jk_90_47)))) (jo_le (jo_le (jo_le (jo_at (jk_90_48)) (jo_at (jk_90_49))) (jo_at (jk_90_52))) (jo_le (jo_at (jk_90_53)) (jo_at (jk_90_54))))) (jo_le (jo_le (jo_le (jo_le (jo_at (jk_90_55)) (jo_at (jk_90_56))) (jo_at (jk_90_57))) (jo_le (jo_at (jk_90_60)) (jo_at (jk_90_61)))) (jo_le (jo_le (jo_le (jo_at (jk_90_62)) (jo_at (jk_90_65))) (jo_at (jk_90_68))) (jo_le (jo_at (jk_90_71)) (jo_at (jk_90_72))))))
theorem ji_90 {l : Launch} {D : va_G} {cA : ClassId} {ρ : Nat → Nat} {Λ : List jx_Lc} {d : Nat} {Q : Option Value → jx_St → Prop} {σ : jx_St} {z0 : Nat} {a1 : Int64} {a2 : Int32} (h : jt_90 0 Λ jx_tb0 (jx_rn Λ jx_tb0 jt_90 (fun k' as σ K => jx_C l D cA ρ Λ d k' as σ K) Q (jx_J l D cA ρ Λ (jx_A ρ Λ) jx_tb0 (d + 1) 90 Q) [] 400) (fun k' as σ K => jx_C l D cA ρ Λ d k' as σ K) Q 0 [(0, .ref z0), (1, .long a1), (3, .int a2)] [] σ) : jx_C l D cA ρ Λ (d + 1) 90 [.ref z0, .long a1, .int a2] σ Q := jx_in jk_90 400 [] rfl (Nat.le_of_ble_eq_true rfl) h
/-! ScriptLedgerModel.formed()Z -/
theorem jd_91_0 : decode prog_10_method_4_code 0 = .ok (.iconst 1, 1) := by decide +kernel
theorem jd_91_1 : decode prog_10_method_4_code 1 = .ok (.istore_n 1, 1) := by decide +kernel
theorem jd_91_2 : decode prog_10_method_4_code 2 = .ok (.iconst 0, 1) := by decide +kernel
theorem jd_91_3 : decode prog_10_method_4_code 3 = .ok (.istore_n 2, 1) := by decide +kernel
theorem jd_91_4 : decode prog_10_method_4_code 4 = .ok (.aload_n 0, 1) := by decide +kernel
theorem jd_91_5 : decode prog_10_method_4_code 5 = .ok (.getfield 98, 3) := by decide +kernel
theorem jd_91_8 : decode prog_10_method_4_code 8 = .ok (.iconst 0, 1) := by decide +kernel
theorem jd_91_9 : decode prog_10_method_4_code 9 = .ok (.iconst 0, 1) := by decide +kernel
theorem jd_91_10 : decode prog_10_method_4_code 10 = .ok (.iastore, 1) := by decide +kernel
theorem jd_91_11 : decode prog_10_method_4_code 11 = .ok (.aload_n 0, 1) := by decide +kernel
theorem jd_91_12 : decode prog_10_method_4_code 12 = .ok (.getfield 101, 3) := by decide +kernel
theorem jd_91_15 : decode prog_10_method_4_code 15 = .ok (.iconst 0, 1) := by decide +kernel
theorem jd_91_16 : decode prog_10_method_4_code 16 = .ok (.iconst 0, 1) := by decide +kernel
theorem jd_91_17 : decode prog_10_method_4_code 17 = .ok (.iastore, 1) := by decide +kernel
theorem jd_91_18 : decode prog_10_method_4_code 18 = .ok (.iload_n 1, 1) := by decide +kernel
theorem jd_91_19 : decode prog_10_method_4_code 19 = .ok (.ifCond .le 248, 3) := by decide +kernel
theorem jd_91_22 : decode prog_10_method_4_code 22 = .ok (.iinc 1 (-1), 3) := by decide +kernel
theorem jd_91_25 : decode prog_10_method_4_code 25 = .ok (.aload_n 0, 1) := by decide +kernel
theorem jd_91_26 : decode prog_10_method_4_code 26 = .ok (.getfield 98, 3) := by decide +kernel
theorem jd_91_29 : decode prog_10_method_4_code 29 = .ok (.iload_n 1, 1) := by decide +kernel
theorem jd_91_30 : decode prog_10_method_4_code 30 = .ok (.iaload, 1) := by decide +kernel
theorem jd_91_31 : decode prog_10_method_4_code 31 = .ok (.istore_n 3, 1) := by decide +kernel
theorem jd_91_32 : decode prog_10_method_4_code 32 = .ok (.aload_n 0, 1) := by decide +kernel
theorem jd_91_33 : decode prog_10_method_4_code 33 = .ok (.getfield 101, 3) := by decide +kernel
theorem jd_91_36 : decode prog_10_method_4_code 36 = .ok (.iload_n 1, 1) := by decide +kernel
theorem jd_91_37 : decode prog_10_method_4_code 37 = .ok (.iaload, 1) := by decide +kernel
theorem jd_91_38 : decode prog_10_method_4_code 38 = .ok (.istore 4, 2) := by decide +kernel
theorem jd_91_40 : decode prog_10_method_4_code 40 = .ok (.iload_n 2, 1) := by decide +kernel
theorem jd_91_41 : decode prog_10_method_4_code 41 = .ok (.aload_n 0, 1) := by decide +kernel
theorem jd_91_42 : decode prog_10_method_4_code 42 = .ok (.getfield 107, 3) := by decide +kernel
theorem jd_91_45 : decode prog_10_method_4_code 45 = .ok (.if_icmp .ge 12, 3) := by decide +kernel
theorem jd_91_48 : decode prog_10_method_4_code 48 = .ok (.aload_n 0, 1) := by decide +kernel
theorem jd_91_49 : decode prog_10_method_4_code 49 = .ok (.getfield 16, 3) := by decide +kernel
theorem jd_91_52 : decode prog_10_method_4_code 52 = .ok (.iload_n 2, 1) := by decide +kernel
theorem jd_91_53 : decode prog_10_method_4_code 53 = .ok (.iaload, 1) := by decide +kernel
theorem jd_91_54 : decode prog_10_method_4_code 54 = .ok (.goto 5, 3) := by decide +kernel
theorem jd_91_57 : decode prog_10_method_4_code 57 = .ok (.bipush 99, 2) := by decide +kernel
theorem jd_91_59 : decode prog_10_method_4_code 59 = .ok (.istore 5, 2) := by decide +kernel
theorem jd_91_61 : decode prog_10_method_4_code 61 = .ok (.iload 5, 2) := by decide +kernel
theorem jd_91_63 : decode prog_10_method_4_code 63 = .ok (.ifCond .eq 15, 3) := by decide +kernel
theorem jd_91_66 : decode prog_10_method_4_code 66 = .ok (.iload 5, 2) := by decide +kernel
theorem jd_91_68 : decode prog_10_method_4_code 68 = .ok (.iconst 3, 1) := by decide +kernel
theorem jd_91_69 : decode prog_10_method_4_code 69 = .ok (.if_icmp .eq 9, 3) := by decide +kernel
theorem jd_91_72 : decode prog_10_method_4_code 72 = .ok (.iload 5, 2) := by decide +kernel
theorem jd_91_74 : decode prog_10_method_4_code 74 = .ok (.iconst 4, 1) := by decide +kernel
theorem jd_91_75 : decode prog_10_method_4_code 75 = .ok (.if_icmp .ne 7, 3) := by decide +kernel
theorem jd_91_78 : decode prog_10_method_4_code 78 = .ok (.iconst 1, 1) := by decide +kernel
theorem jd_91_79 : decode prog_10_method_4_code 79 = .ok (.goto 4, 3) := by decide +kernel
theorem jd_91_82 : decode prog_10_method_4_code 82 = .ok (.iconst 0, 1) := by decide +kernel
theorem jd_91_83 : decode prog_10_method_4_code 83 = .ok (.istore 6, 2) := by decide +kernel
theorem jd_91_85 : decode prog_10_method_4_code 85 = .ok (.iload_n 2, 1) := by decide +kernel
theorem jd_91_86 : decode prog_10_method_4_code 86 = .ok (.iconst 1, 1) := by decide +kernel
theorem jd_91_87 : decode prog_10_method_4_code 87 = .ok (.iadd, 1) := by decide +kernel
theorem jd_91_88 : decode prog_10_method_4_code 88 = .ok (.aload_n 0, 1) := by decide +kernel
theorem jd_91_89 : decode prog_10_method_4_code 89 = .ok (.getfield 107, 3) := by decide +kernel
theorem jd_91_92 : decode prog_10_method_4_code 92 = .ok (.if_icmp .ge 14, 3) := by decide +kernel
theorem jd_91_95 : decode prog_10_method_4_code 95 = .ok (.aload_n 0, 1) := by decide +kernel
theorem jd_91_96 : decode prog_10_method_4_code 96 = .ok (.getfield 16, 3) := by decide +kernel
theorem jd_91_99 : decode prog_10_method_4_code 99 = .ok (.iload_n 2, 1) := by decide +kernel
theorem jd_91_100 : decode prog_10_method_4_code 100 = .ok (.iconst 1, 1) := by decide +kernel
theorem jd_91_101 : decode prog_10_method_4_code 101 = .ok (.iadd, 1) := by decide +kernel
theorem jd_91_102 : decode prog_10_method_4_code 102 = .ok (.iaload, 1) := by decide +kernel
theorem jd_91_103 : decode prog_10_method_4_code 103 = .ok (.goto 6, 3) := by decide +kernel
theorem jd_91_106 : decode prog_10_method_4_code 106 = .ok (.sipush 999, 3) := by decide +kernel
theorem jd_91_109 : decode prog_10_method_4_code 109 = .ok (.istore 7, 2) := by decide +kernel
theorem jd_91_111 : decode prog_10_method_4_code 111 = .ok (.iload 5, 2) := by decide +kernel
theorem jd_91_113 : decode prog_10_method_4_code 113 = .ok (.bipush 8, 2) := by decide +kernel
theorem jd_91_115 : decode prog_10_method_4_code 115 = .ok (.if_icmp .gt 47, 3) := by decide +kernel
theorem jd_91_118 : decode prog_10_method_4_code 118 = .ok (.iload_n 3, 1) := by decide +kernel
theorem jd_91_119 : decode prog_10_method_4_code 119 = .ok (.bipush 20, 2) := by decide +kernel
theorem jd_91_121 : decode prog_10_method_4_code 121 = .ok (.if_icmp .gt 41, 3) := by decide +kernel
theorem jd_91_124 : decode prog_10_method_4_code 124 = .ok (.iload 6, 2) := by decide +kernel
theorem jd_91_126 : decode prog_10_method_4_code 126 = .ok (.ifCond .eq 11, 3) := by decide +kernel
theorem jd_91_129 : decode prog_10_method_4_code 129 = .ok (.iload 7, 2) := by decide +kernel
theorem jd_91_131 : decode prog_10_method_4_code 131 = .ok (.sipush 999, 3) := by decide +kernel
theorem jd_91_134 : decode prog_10_method_4_code 134 = .ok (.if_icmp .eq 28, 3) := by decide +kernel
theorem jd_91_137 : decode prog_10_method_4_code 137 = .ok (.iload 5, 2) := by decide +kernel
theorem jd_91_139 : decode prog_10_method_4_code 139 = .ok (.ifCond .ne 10, 3) := by decide +kernel
theorem jd_91_142 : decode prog_10_method_4_code 142 = .ok (.iload 7, 2) := by decide +kernel
theorem jd_91_144 : decode prog_10_method_4_code 144 = .ok (.iload 4, 2) := by decide +kernel
theorem jd_91_146 : decode prog_10_method_4_code 146 = .ok (.if_icmp .ge 16, 3) := by decide +kernel
theorem jd_91_149 : decode prog_10_method_4_code 149 = .ok (.iload 5, 2) := by decide +kernel
theorem jd_91_151 : decode prog_10_method_4_code 151 = .ok (.iconst 4, 1) := by decide +kernel
theorem jd_91_152 : decode prog_10_method_4_code 152 = .ok (.if_icmp .ne 12, 3) := by decide +kernel
theorem jd_91_155 : decode prog_10_method_4_code 155 = .ok (.iload 7, 2) := by decide +kernel
theorem jd_91_157 : decode prog_10_method_4_code 157 = .ok (.bipush 10, 2) := by decide +kernel
theorem jd_91_159 : decode prog_10_method_4_code 159 = .ok (.if_icmp .le 5, 3) := by decide +kernel
theorem jd_91_162 : decode prog_10_method_4_code 162 = .ok (.iconst 0, 1) := by decide +kernel
theorem jd_91_163 : decode prog_10_method_4_code 163 = .ok (.ireturn, 1) := by decide +kernel
theorem jd_91_164 : decode prog_10_method_4_code 164 = .ok (.iload 6, 2) := by decide +kernel
theorem jd_91_166 : decode prog_10_method_4_code 166 = .ok (.ifCond .eq 9, 3) := by decide +kernel
theorem jd_91_169 : decode prog_10_method_4_code 169 = .ok (.iload_n 2, 1) := by decide +kernel
theorem jd_91_170 : decode prog_10_method_4_code 170 = .ok (.iconst 2, 1) := by decide +kernel
theorem jd_91_171 : decode prog_10_method_4_code 171 = .ok (.iadd, 1) := by decide +kernel
theorem jd_91_172 : decode prog_10_method_4_code 172 = .ok (.goto 6, 3) := by decide +kernel
theorem jd_91_175 : decode prog_10_method_4_code 175 = .ok (.iload_n 2, 1) := by decide +kernel
theorem jd_91_176 : decode prog_10_method_4_code 176 = .ok (.iconst 1, 1) := by decide +kernel
theorem jd_91_177 : decode prog_10_method_4_code 177 = .ok (.iadd, 1) := by decide +kernel
theorem jd_91_178 : decode prog_10_method_4_code 178 = .ok (.istore_n 2, 1) := by decide +kernel
theorem jd_91_179 : decode prog_10_method_4_code 179 = .ok (.iload 5, 2) := by decide +kernel
theorem jd_91_181 : decode prog_10_method_4_code 181 = .ok (.iconst 2, 1) := by decide +kernel
theorem jd_91_182 : decode prog_10_method_4_code 182 = .ok (.if_icmp .ne 7, 3) := by decide +kernel
theorem jd_91_185 : decode prog_10_method_4_code 185 = .ok (.iconst 2, 1) := by decide +kernel
theorem jd_91_186 : decode prog_10_method_4_code 186 = .ok (.goto 27, 3) := by decide +kernel
theorem jd_91_189 : decode prog_10_method_4_code 189 = .ok (.iload 5, 2) := by decide +kernel
theorem jd_91_191 : decode prog_10_method_4_code 191 = .ok (.iconst 1, 1) := by decide +kernel
theorem jd_91_192 : decode prog_10_method_4_code 192 = .ok (.if_icmp .eq 16, 3) := by decide +kernel
theorem jd_91_195 : decode prog_10_method_4_code 195 = .ok (.iload 5, 2) := by decide +kernel
theorem jd_91_197 : decode prog_10_method_4_code 197 = .ok (.iconst 5, 1) := by decide +kernel
theorem jd_91_198 : decode prog_10_method_4_code 198 = .ok (.if_icmp .eq 10, 3) := by decide +kernel
theorem jd_91_201 : decode prog_10_method_4_code 201 = .ok (.iload 5, 2) := by decide +kernel
theorem jd_91_203 : decode prog_10_method_4_code 203 = .ok (.bipush 6, 2) := by decide +kernel
theorem jd_91_205 : decode prog_10_method_4_code 205 = .ok (.if_icmp .ne 7, 3) := by decide +kernel
theorem jd_91_208 : decode prog_10_method_4_code 208 = .ok (.iconst 1, 1) := by decide +kernel
theorem jd_91_209 : decode prog_10_method_4_code 209 = .ok (.goto 4, 3) := by decide +kernel
theorem jd_91_212 : decode prog_10_method_4_code 212 = .ok (.iconst 0, 1) := by decide +kernel
theorem jd_91_213 : decode prog_10_method_4_code 213 = .ok (.istore 8, 2) := by decide +kernel
theorem jd_91_215 : decode prog_10_method_4_code 215 = .ok (.iconst 0, 1) := by decide +kernel
theorem jd_91_216 : decode prog_10_method_4_code 216 = .ok (.istore 9, 2) := by decide +kernel
theorem jd_91_218 : decode prog_10_method_4_code 218 = .ok (.iload 9, 2) := by decide +kernel
theorem jd_91_220 : decode prog_10_method_4_code 220 = .ok (.iload 8, 2) := by decide +kernel
theorem jd_91_222 : decode prog_10_method_4_code 222 = .ok (.if_icmp .ge 42, 3) := by decide +kernel
theorem jd_91_225 : decode prog_10_method_4_code 225 = .ok (.aload_n 0, 1) := by decide +kernel
theorem jd_91_226 : decode prog_10_method_4_code 226 = .ok (.getfield 98, 3) := by decide +kernel
theorem jd_91_229 : decode prog_10_method_4_code 229 = .ok (.iload_n 1, 1) := by decide +kernel
theorem jd_91_230 : decode prog_10_method_4_code 230 = .ok (.iload_n 3, 1) := by decide +kernel
theorem jd_91_231 : decode prog_10_method_4_code 231 = .ok (.iconst 1, 1) := by decide +kernel
theorem jd_91_232 : decode prog_10_method_4_code 232 = .ok (.iadd, 1) := by decide +kernel
theorem jd_91_233 : decode prog_10_method_4_code 233 = .ok (.iastore, 1) := by decide +kernel
theorem jd_91_234 : decode prog_10_method_4_code 234 = .ok (.aload_n 0, 1) := by decide +kernel
theorem jd_91_235 : decode prog_10_method_4_code 235 = .ok (.getfield 101, 3) := by decide +kernel
theorem jd_91_238 : decode prog_10_method_4_code 238 = .ok (.iload_n 1, 1) := by decide +kernel
theorem jd_91_239 : decode prog_10_method_4_code 239 = .ok (.iload 5, 2) := by decide +kernel
theorem jd_91_241 : decode prog_10_method_4_code 241 = .ok (.iconst 1, 1) := by decide +kernel
theorem jd_91_242 : decode prog_10_method_4_code 242 = .ok (.if_icmp .ne 10, 3) := by decide +kernel
theorem jd_91_245 : decode prog_10_method_4_code 245 = .ok (.iload 4, 2) := by decide +kernel
theorem jd_91_247 : decode prog_10_method_4_code 247 = .ok (.iconst 1, 1) := by decide +kernel
theorem jd_91_248 : decode prog_10_method_4_code 248 = .ok (.iadd, 1) := by decide +kernel
theorem jd_91_249 : decode prog_10_method_4_code 249 = .ok (.goto 5, 3) := by decide +kernel
theorem jd_91_252 : decode prog_10_method_4_code 252 = .ok (.iload 4, 2) := by decide +kernel
theorem jd_91_254 : decode prog_10_method_4_code 254 = .ok (.iastore, 1) := by decide +kernel
theorem jd_91_255 : decode prog_10_method_4_code 255 = .ok (.iinc 1 1, 3) := by decide +kernel
theorem jd_91_258 : decode prog_10_method_4_code 258 = .ok (.iinc 9 1, 3) := by decide +kernel
theorem jd_91_261 : decode prog_10_method_4_code 261 = .ok (.goto (-43), 3) := by decide +kernel
theorem jd_91_264 : decode prog_10_method_4_code 264 = .ok (.goto (-246), 3) := by decide +kernel
theorem jd_91_267 : decode prog_10_method_4_code 267 = .ok (.iload_n 2, 1) := by decide +kernel
theorem jd_91_268 : decode prog_10_method_4_code 268 = .ok (.aload_n 0, 1) := by decide +kernel
theorem jd_91_269 : decode prog_10_method_4_code 269 = .ok (.getfield 107, 3) := by decide +kernel
theorem jd_91_272 : decode prog_10_method_4_code 272 = .ok (.if_icmp .ne 7, 3) := by decide +kernel
theorem jd_91_275 : decode prog_10_method_4_code 275 = .ok (.iconst 1, 1) := by decide +kernel
theorem jd_91_276 : decode prog_10_method_4_code 276 = .ok (.goto 4, 3) := by decide +kernel
theorem jd_91_279 : decode prog_10_method_4_code 279 = .ok (.iconst 0, 1) := by decide +kernel
theorem jd_91_280 : decode prog_10_method_4_code 280 = .ok (.ireturn, 1) := by decide +kernel
def jt_91 (pc : Nat) : jx_Sp := bif Nat.ble pc 137 then (bif Nat.ble pc 61 then (bif Nat.ble pc 29 then (bif Nat.ble pc 11 then (bif Nat.ble pc 4 then (bif Nat.ble pc 2 then (bif Nat.ble pc 1 then (bif Nat.ble pc 0 then (bif Nat.beq pc 0 then js_c 1 1 else js_none) else (bif Nat.beq pc 1 then js_is 1 1 else js_none)) else (bif Nat.beq pc 2 then js_c 0 1 else js_none)) else (bif Nat.ble pc 3 then (bif Nat.beq pc 3 then js_is 2 1 else js_none) else (bif Nat.beq pc 4 then js_al 0 1 else js_none))) else (bif Nat.ble pc 9 then (bif Nat.ble pc 8 then (bif Nat.ble pc 5 then (bif Nat.beq pc 5 then js_getf 8 48 else js_none) else (bif Nat.beq pc 8 then js_c 0 1 else js_none)) else (bif Nat.beq pc 9 then js_c 0 1 else js_none)) else (bif Nat.ble pc 10 then (bif Nat.beq pc 10 then js_ast else js_none) else (bif Nat.beq pc 11 then js_al 0 1 else js_none)))) else (bif Nat.ble pc 18 then (bif Nat.ble pc 16 then (bif Nat.ble pc 15 then (bif Nat.ble pc 12 then (bif Nat.beq pc 12 then js_getf 8 49 else js_none) else (bif Nat.beq pc 15 then js_c 0 1 else js_none)) else (bif Nat.beq pc 16 then js_c 0 1 else js_none)) else (bif Nat.ble pc 17 then (bif Nat.beq pc 17 then js_ast else js_none) else (bif Nat.beq pc 18 then js_il 1 1 else js_none))) else (bif Nat.ble pc 25 then (bif Nat.ble pc 22 then (bif Nat.ble pc 19 then (bif Nat.beq pc 19 then js_ifle 267 else js_none) else (bif Nat.beq pc 22 then js_inc 1 (-1) else js_none)) else (bif Nat.beq pc 25 then js_al 0 1 else js_none)) else (bif Nat.ble pc 26 then (bif Nat.beq pc 26 then js_getf 8 48 else js_none) else (bif Nat.beq pc 29 then js_il 1 1 else js_none))))) else (bif Nat.ble pc 42 then (bif Nat.ble pc 36 then (bif Nat.ble pc 32 then (bif Nat.ble pc 31 then (bif Nat.ble pc 30 then (bif Nat.beq pc 30 then js_ald else js_none) else (bif Nat.beq pc 31 then js_is 3 1 else js_none)) else (bif Nat.beq pc 32 then js_al 0 1 else js_none)) else (bif Nat.ble pc 33 then (bif Nat.beq pc 33 then js_getf 8 49 else js_none) else (bif Nat.beq pc 36 then js_il 1 1 else js_none))) else (bif Nat.ble pc 40 then (bif Nat.ble pc 38 then (bif Nat.ble pc 37 then (bif Nat.beq pc 37 then js_ald else js_none) else (bif Nat.beq pc 38 then js_is 4 2 else js_none)) else (bif Nat.beq pc 40 then js_il 2 1 else js_none)) else (bif Nat.ble pc 41 then (bif Nat.beq pc 41 then js_al 0 1 else js_none) else (bif Nat.beq pc 42 then js_getf 8 3 else js_none)))) else (bif Nat.ble pc 53 then (bif Nat.ble pc 49 then (bif Nat.ble pc 48 then (bif Nat.ble pc 45 then (bif Nat.beq pc 45 then js_cge 57 else js_none) else (bif Nat.beq pc 48 then js_al 0 1 else js_none)) else (bif Nat.beq pc 49 then js_getf 8 4 else js_none)) else (bif Nat.ble pc 52 then (bif Nat.beq pc 52 then js_il 2 1 else js_none) else (bif Nat.beq pc 53 then js_ald else js_none))) else (bif Nat.ble pc 57 then (bif Nat.ble pc 54 then (bif Nat.beq pc 54 then js_go 59 else js_none) else (bif Nat.beq pc 57 then js_c 99 2 else js_none)) else (bif Nat.ble pc 59 then (bif Nat.beq pc 59 then js_is 5 2 else js_none) else (bif Nat.beq pc 61 then js_il 5 2 else js_none)))))) else (bif Nat.ble pc 96 then (bif Nat.ble pc 82 then (bif Nat.ble pc 72 then (bif Nat.ble pc 68 then (bif Nat.ble pc 66 then (bif Nat.ble pc 63 then (bif Nat.beq pc 63 then js_ifeq 78 else js_none) else (bif Nat.beq pc 66 then js_il 5 2 else js_none)) else (bif Nat.beq pc 68 then js_c 3 1 else js_none)) else (bif Nat.ble pc 69 then (bif Nat.beq pc 69 then js_ceq 78 else js_none) else (bif Nat.beq pc 72 then js_il 5 2 else js_none))) else (bif Nat.ble pc 78 then (bif Nat.ble pc 75 then (bif Nat.ble pc 74 then (bif Nat.beq pc 74 then js_c 4 1 else js_none) else (bif Nat.beq pc 75 then js_cne 82 else js_none)) else (bif Nat.beq pc 78 then js_c 1 1 else js_none)) else (bif Nat.ble pc 79 then (bif Nat.beq pc 79 then js_go 83 else js_none) else (bif Nat.beq pc 82 then js_c 0 1 else js_none)))) else (bif Nat.ble pc 88 then (bif Nat.ble pc 86 then (bif Nat.ble pc 85 then (bif Nat.ble pc 83 then (bif Nat.beq pc 83 then js_is 6 2 else js_none) else (bif Nat.beq pc 85 then js_il 2 1 else js_none)) else (bif Nat.beq pc 86 then js_c 1 1 else js_none)) else (bif Nat.ble pc 87 then (bif Nat.beq pc 87 then js_iadd else js_none) else (bif Nat.beq pc 88 then js_al 0 1 else js_none))) else (bif Nat.ble pc 92 then (bif Nat.ble pc 89 then (bif Nat.beq pc 89 then js_getf 8 3 else js_none) else (bif Nat.beq pc 92 then js_cge 106 else js_none)) else (bif Nat.ble pc 95 then (bif Nat.beq pc 95 then js_al 0 1 else js_none) else (bif Nat.beq pc 96 then js_getf 8 4 else js_none))))) else (bif Nat.ble pc 115 then (bif Nat.ble pc 103 then (bif Nat.ble pc 101 then (bif Nat.ble pc 100 then (bif Nat.ble pc 99 then (bif Nat.beq pc 99 then js_il 2 1 else js_none) else (bif Nat.beq pc 100 then js_c 1 1 else js_none)) else (bif Nat.beq pc 101 then js_iadd else js_none)) else (bif Nat.ble pc 102 then (bif Nat.beq pc 102 then js_ald else js_none) else (bif Nat.beq pc 103 then js_go 109 else js_none))) else (bif Nat.ble pc 111 then (bif Nat.ble pc 109 then (bif Nat.ble pc 106 then (bif Nat.beq pc 106 then js_c 999 3 else js_none) else (bif Nat.beq pc 109 then js_is 7 2 else js_none)) else (bif Nat.beq pc 111 then js_il 5 2 else js_none)) else (bif Nat.ble pc 113 then (bif Nat.beq pc 113 then js_c 8 2 else js_none) else (bif Nat.beq pc 115 then js_cgt 162 else js_none)))) else (bif Nat.ble pc 126 then (bif Nat.ble pc 121 then (bif Nat.ble pc 119 then (bif Nat.ble pc 118 then (bif Nat.beq pc 118 then js_il 3 1 else js_none) else (bif Nat.beq pc 119 then js_c 20 2 else js_none)) else (bif Nat.beq pc 121 then js_cgt 162 else js_none)) else (bif Nat.ble pc 124 then (bif Nat.beq pc 124 then js_il 6 2 else js_none) else (bif Nat.beq pc 126 then js_ifeq 137 else js_none))) else (bif Nat.ble pc 131 then (bif Nat.ble pc 129 then (bif Nat.beq pc 129 then js_il 7 2 else js_none) else (bif Nat.beq pc 131 then js_c 999 3 else js_none)) else (bif Nat.ble pc 134 then (bif Nat.beq pc 134 then js_ceq 162 else js_none) else (bif Nat.beq pc 137 then js_il 5 2 else js_none))))))) else (bif Nat.ble pc 209 then (bif Nat.ble pc 175 then (bif Nat.ble pc 159 then (bif Nat.ble pc 149 then (bif Nat.ble pc 144 then (bif Nat.ble pc 142 then (bif Nat.ble pc 139 then (bif Nat.beq pc 139 then js_ifne 149 else js_none) else (bif Nat.beq pc 142 then js_il 7 2 else js_none)) else (bif Nat.beq pc 144 then js_il 4 2 else js_none)) else (bif Nat.ble pc 146 then (bif Nat.beq pc 146 then js_cge 162 else js_none) else (bif Nat.beq pc 149 then js_il 5 2 else js_none))) else (bif Nat.ble pc 155 then (bif Nat.ble pc 152 then (bif Nat.ble pc 151 then (bif Nat.beq pc 151 then js_c 4 1 else js_none) else (bif Nat.beq pc 152 then js_cne 164 else js_none)) else (bif Nat.beq pc 155 then js_il 7 2 else js_none)) else (bif Nat.ble pc 157 then (bif Nat.beq pc 157 then js_c 10 2 else js_none) else (bif Nat.beq pc 159 then js_cle 164 else js_none)))) else (bif Nat.ble pc 169 then (bif Nat.ble pc 164 then (bif Nat.ble pc 163 then (bif Nat.ble pc 162 then (bif Nat.beq pc 162 then js_c 0 1 else js_none) else (bif Nat.beq pc 163 then js_zr else js_none)) else (bif Nat.beq pc 164 then js_il 6 2 else js_none)) else (bif Nat.ble pc 166 then (bif Nat.beq pc 166 then js_ifeq 175 else js_none) else (bif Nat.beq pc 169 then js_il 2 1 else js_none))) else (bif Nat.ble pc 171 then (bif Nat.ble pc 170 then (bif Nat.beq pc 170 then js_c 2 1 else js_none) else (bif Nat.beq pc 171 then js_iadd else js_none)) else (bif Nat.ble pc 172 then (bif Nat.beq pc 172 then js_go 178 else js_none) else (bif Nat.beq pc 175 then js_il 2 1 else js_none))))) else (bif Nat.ble pc 191 then (bif Nat.ble pc 181 then (bif Nat.ble pc 178 then (bif Nat.ble pc 177 then (bif Nat.ble pc 176 then (bif Nat.beq pc 176 then js_c 1 1 else js_none) else (bif Nat.beq pc 177 then js_iadd else js_none)) else (bif Nat.beq pc 178 then js_is 2 1 else js_none)) else (bif Nat.ble pc 179 then (bif Nat.beq pc 179 then js_il 5 2 else js_none) else (bif Nat.beq pc 181 then js_c 2 1 else js_none))) else (bif Nat.ble pc 186 then (bif Nat.ble pc 185 then (bif Nat.ble pc 182 then (bif Nat.beq pc 182 then js_cne 189 else js_none) else (bif Nat.beq pc 185 then js_c 2 1 else js_none)) else (bif Nat.beq pc 186 then js_go 213 else js_none)) else (bif Nat.ble pc 189 then (bif Nat.beq pc 189 then js_il 5 2 else js_none) else (bif Nat.beq pc 191 then js_c 1 1 else js_none)))) else (bif Nat.ble pc 201 then (bif Nat.ble pc 197 then (bif Nat.ble pc 195 then (bif Nat.ble pc 192 then (bif Nat.beq pc 192 then js_ceq 208 else js_none) else (bif Nat.beq pc 195 then js_il 5 2 else js_none)) else (bif Nat.beq pc 197 then js_c 5 1 else js_none)) else (bif Nat.ble pc 198 then (bif Nat.beq pc 198 then js_ceq 208 else js_none) else (bif Nat.beq pc 201 then js_il 5 2 else js_none))) else (bif Nat.ble pc 205 then (bif Nat.ble pc 203 then (bif Nat.beq pc 203 then js_c 6 2 else js_none) else (bif Nat.beq pc 205 then js_cne 212 else js_none)) else (bif Nat.ble pc 208 then (bif Nat.beq pc 208 then js_c 1 1 else js_none) else (bif Nat.beq pc 209 then js_go 213 else js_none)))))) else (bif Nat.ble pc 241 then (bif Nat.ble pc 229 then (bif Nat.ble pc 218 then (bif Nat.ble pc 215 then (bif Nat.ble pc 213 then (bif Nat.ble pc 212 then (bif Nat.beq pc 212 then js_c 0 1 else js_none) else (bif Nat.beq pc 213 then js_is 8 2 else js_none)) else (bif Nat.beq pc 215 then js_c 0 1 else js_none)) else (bif Nat.ble pc 216 then (bif Nat.beq pc 216 then js_is 9 2 else js_none) else (bif Nat.beq pc 218 then js_il 9 2 else js_none))) else (bif Nat.ble pc 225 then (bif Nat.ble pc 222 then (bif Nat.ble pc 220 then (bif Nat.beq pc 220 then js_il 8 2 else js_none) else (bif Nat.beq pc 222 then js_cge 264 else js_none)) else (bif Nat.beq pc 225 then js_al 0 1 else js_none)) else (bif Nat.ble pc 226 then (bif Nat.beq pc 226 then js_getf 8 48 else js_none) else (bif Nat.beq pc 229 then js_il 1 1 else js_none)))) else (bif Nat.ble pc 234 then (bif Nat.ble pc 232 then (bif Nat.ble pc 231 then (bif Nat.ble pc 230 then (bif Nat.beq pc 230 then js_il 3 1 else js_none) else (bif Nat.beq pc 231 then js_c 1 1 else js_none)) else (bif Nat.beq pc 232 then js_iadd else js_none)) else (bif Nat.ble pc 233 then (bif Nat.beq pc 233 then js_ast else js_none) else (bif Nat.beq pc 234 then js_al 0 1 else js_none))) else (bif Nat.ble pc 238 then (bif Nat.ble pc 235 then (bif Nat.beq pc 235 then js_getf 8 49 else js_none) else (bif Nat.beq pc 238 then js_il 1 1 else js_none)) else (bif Nat.ble pc 239 then (bif Nat.beq pc 239 then js_il 5 2 else js_none) else (bif Nat.beq pc 241 then js_c 1 1 else js_none))))) else (bif Nat.ble pc 261 then (bif Nat.ble pc 249 then (bif Nat.ble pc 247 then (bif Nat.ble pc 245 then (bif Nat.ble pc 242 then (bif Nat.beq pc 242 then js_cne 252 else js_none) else (bif Nat.beq pc 245 then js_il 4 2 else js_none)) else (bif Nat.beq pc 247 then js_c 1 1 else js_none)) else (bif Nat.ble pc 248 then (bif Nat.beq pc 248 then js_iadd else js_none) else (bif Nat.beq pc 249 then js_go 254 else js_none))) else (bif Nat.ble pc 255 then (bif Nat.ble pc 254 then (bif Nat.ble pc 252 then (bif Nat.beq pc 252 then js_il 4 2 else js_none) else (bif Nat.beq pc 254 then js_ast else js_none)) else (bif Nat.beq pc 255 then js_inc 1 1 else js_none)) else (bif Nat.ble pc 258 then (bif Nat.beq pc 258 then js_inc 9 1 else js_none) else (bif Nat.beq pc 261 then js_go 218 else js_none)))) else (bif Nat.ble pc 272 then (bif Nat.ble pc 268 then (bif Nat.ble pc 267 then (bif Nat.ble pc 264 then (bif Nat.beq pc 264 then js_go 18 else js_none) else (bif Nat.beq pc 267 then js_il 2 1 else js_none)) else (bif Nat.beq pc 268 then js_al 0 1 else js_none)) else (bif Nat.ble pc 269 then (bif Nat.beq pc 269 then js_getf 8 3 else js_none) else (bif Nat.beq pc 272 then js_cne 279 else js_none))) else (bif Nat.ble pc 276 then (bif Nat.ble pc 275 then (bif Nat.beq pc 275 then js_c 1 1 else js_none) else (bif Nat.beq pc 276 then js_go 280 else js_none)) else (bif Nat.ble pc 279 then (bif Nat.beq pc 279 then js_c 0 1 else js_none) else (bif Nat.beq pc 280 then js_zr else js_none)))))))
theorem jk_91_0 : jx_Snd 91 0 (js_c 1 1) := jo_iconst (z := 1) jd_91_0 rfl
theorem jk_91_1 : jx_Snd 91 1 (js_is 1 1) := jo_istore_n (i := 1) (w := 1) rfl (Nat.le_of_ble_eq_true rfl) jd_91_1
theorem jk_91_2 : jx_Snd 91 2 (js_c 0 1) := jo_iconst (z := 0) jd_91_2 rfl
theorem jk_91_3 : jx_Snd 91 3 (js_is 2 1) := jo_istore_n (i := 2) (w := 2) rfl (Nat.le_of_ble_eq_true rfl) jd_91_3
theorem jk_91_4 : jx_Snd 91 4 (js_al 0 1) := jo_aload_n (i := 0) (w := 0) rfl jd_91_4
theorem jk_91_5 : jx_Snd 91 5 (js_getf 8 48) := jo_getf rfl jf_8_98 jd_91_5
theorem jk_91_8 : jx_Snd 91 8 (js_c 0 1) := jo_iconst (z := 0) jd_91_8 rfl
theorem jk_91_9 : jx_Snd 91 9 (js_c 0 1) := jo_iconst (z := 0) jd_91_9 rfl
theorem jk_91_10 : jx_Snd 91 10 (js_ast) := jo_ast jd_91_10
theorem jk_91_11 : jx_Snd 91 11 (js_al 0 1) := jo_aload_n (i := 0) (w := 0) rfl jd_91_11
theorem jk_91_12 : jx_Snd 91 12 (js_getf 8 49) := jo_getf rfl jf_8_101 jd_91_12
theorem jk_91_15 : jx_Snd 91 15 (js_c 0 1) := jo_iconst (z := 0) jd_91_15 rfl
theorem jk_91_16 : jx_Snd 91 16 (js_c 0 1) := jo_iconst (z := 0) jd_91_16 rfl
theorem jk_91_17 : jx_Snd 91 17 (js_ast) := jo_ast jd_91_17
theorem jk_91_18 : jx_Snd 91 18 (js_il 1 1) := jo_iload_n (i := 1) (w := 1) rfl jd_91_18
theorem jk_91_19 : jx_Snd 91 19 (js_ifle 267) := jo_ifle (o := 248) rfl jd_91_19
theorem jk_91_22 : jx_Snd 91 22 (js_inc 1 (-1)) := jo_iinc (w := (-1)) rfl (Nat.le_of_ble_eq_true rfl) jd_91_22
theorem jk_91_25 : jx_Snd 91 25 (js_al 0 1) := jo_aload_n (i := 0) (w := 0) rfl jd_91_25
theorem jk_91_26 : jx_Snd 91 26 (js_getf 8 48) := jo_getf rfl jf_8_98 jd_91_26
theorem jk_91_29 : jx_Snd 91 29 (js_il 1 1) := jo_iload_n (i := 1) (w := 1) rfl jd_91_29
theorem jk_91_30 : jx_Snd 91 30 (js_ald) := jo_ald jd_91_30
theorem jk_91_31 : jx_Snd 91 31 (js_is 3 1) := jo_istore_n (i := 3) (w := 3) rfl (Nat.le_of_ble_eq_true rfl) jd_91_31
theorem jk_91_32 : jx_Snd 91 32 (js_al 0 1) := jo_aload_n (i := 0) (w := 0) rfl jd_91_32
theorem jk_91_33 : jx_Snd 91 33 (js_getf 8 49) := jo_getf rfl jf_8_101 jd_91_33
theorem jk_91_36 : jx_Snd 91 36 (js_il 1 1) := jo_iload_n (i := 1) (w := 1) rfl jd_91_36
theorem jk_91_37 : jx_Snd 91 37 (js_ald) := jo_ald jd_91_37
theorem jk_91_38 : jx_Snd 91 38 (js_is 4 2) := jo_istore (i := 4) (Nat.le_of_ble_eq_true rfl) jd_91_38
theorem jk_91_40 : jx_Snd 91 40 (js_il 2 1) := jo_iload_n (i := 2) (w := 2) rfl jd_91_40
theorem jk_91_41 : jx_Snd 91 41 (js_al 0 1) := jo_aload_n (i := 0) (w := 0) rfl jd_91_41
theorem jk_91_42 : jx_Snd 91 42 (js_getf 8 3) := jo_getf rfl jf_8_107 jd_91_42
theorem jk_91_45 : jx_Snd 91 45 (js_cge 57) := jo_cge (o := 12) rfl jd_91_45
theorem jk_91_48 : jx_Snd 91 48 (js_al 0 1) := jo_aload_n (i := 0) (w := 0) rfl jd_91_48
theorem jk_91_49 : jx_Snd 91 49 (js_getf 8 4) := jo_getf rfl jf_8_16 jd_91_49
theorem jk_91_52 : jx_Snd 91 52 (js_il 2 1) := jo_iload_n (i := 2) (w := 2) rfl jd_91_52
theorem jk_91_53 : jx_Snd 91 53 (js_ald) := jo_ald jd_91_53
theorem jk_91_54 : jx_Snd 91 54 (js_go 59) := jo_goto (o := 5) rfl jd_91_54
theorem jk_91_57 : jx_Snd 91 57 (js_c 99 2) := jo_bipush (z := 99) jd_91_57 (by decide +kernel)
theorem jk_91_59 : jx_Snd 91 59 (js_is 5 2) := jo_istore (i := 5) (Nat.le_of_ble_eq_true rfl) jd_91_59
theorem jk_91_61 : jx_Snd 91 61 (js_il 5 2) := jo_iload (i := 5) jd_91_61
theorem jk_91_63 : jx_Snd 91 63 (js_ifeq 78) := jo_ifeq (o := 15) rfl jd_91_63
theorem jk_91_66 : jx_Snd 91 66 (js_il 5 2) := jo_iload (i := 5) jd_91_66
theorem jk_91_68 : jx_Snd 91 68 (js_c 3 1) := jo_iconst (z := 3) jd_91_68 rfl
theorem jk_91_69 : jx_Snd 91 69 (js_ceq 78) := jo_ceq (o := 9) rfl jd_91_69
theorem jk_91_72 : jx_Snd 91 72 (js_il 5 2) := jo_iload (i := 5) jd_91_72
theorem jk_91_74 : jx_Snd 91 74 (js_c 4 1) := jo_iconst (z := 4) jd_91_74 rfl
theorem jk_91_75 : jx_Snd 91 75 (js_cne 82) := jo_cne (o := 7) rfl jd_91_75
theorem jk_91_78 : jx_Snd 91 78 (js_c 1 1) := jo_iconst (z := 1) jd_91_78 rfl
theorem jk_91_79 : jx_Snd 91 79 (js_go 83) := jo_goto (o := 4) rfl jd_91_79
theorem jk_91_82 : jx_Snd 91 82 (js_c 0 1) := jo_iconst (z := 0) jd_91_82 rfl
theorem jk_91_83 : jx_Snd 91 83 (js_is 6 2) := jo_istore (i := 6) (Nat.le_of_ble_eq_true rfl) jd_91_83
theorem jk_91_85 : jx_Snd 91 85 (js_il 2 1) := jo_iload_n (i := 2) (w := 2) rfl jd_91_85
theorem jk_91_86 : jx_Snd 91 86 (js_c 1 1) := jo_iconst (z := 1) jd_91_86 rfl
theorem jk_91_87 : jx_Snd 91 87 (js_iadd) := jo_iadd jd_91_87
theorem jk_91_88 : jx_Snd 91 88 (js_al 0 1) := jo_aload_n (i := 0) (w := 0) rfl jd_91_88
theorem jk_91_89 : jx_Snd 91 89 (js_getf 8 3) := jo_getf rfl jf_8_107 jd_91_89
theorem jk_91_92 : jx_Snd 91 92 (js_cge 106) := jo_cge (o := 14) rfl jd_91_92
theorem jk_91_95 : jx_Snd 91 95 (js_al 0 1) := jo_aload_n (i := 0) (w := 0) rfl jd_91_95
theorem jk_91_96 : jx_Snd 91 96 (js_getf 8 4) := jo_getf rfl jf_8_16 jd_91_96
theorem jk_91_99 : jx_Snd 91 99 (js_il 2 1) := jo_iload_n (i := 2) (w := 2) rfl jd_91_99
theorem jk_91_100 : jx_Snd 91 100 (js_c 1 1) := jo_iconst (z := 1) jd_91_100 rfl
theorem jk_91_101 : jx_Snd 91 101 (js_iadd) := jo_iadd jd_91_101
theorem jk_91_102 : jx_Snd 91 102 (js_ald) := jo_ald jd_91_102
theorem jk_91_103 : jx_Snd 91 103 (js_go 109) := jo_goto (o := 6) rfl jd_91_103
theorem jk_91_106 : jx_Snd 91 106 (js_c 999 3) := jo_sipush (z := 999) jd_91_106 (by decide +kernel)
theorem jk_91_109 : jx_Snd 91 109 (js_is 7 2) := jo_istore (i := 7) (Nat.le_of_ble_eq_true rfl) jd_91_109
theorem jk_91_111 : jx_Snd 91 111 (js_il 5 2) := jo_iload (i := 5) jd_91_111
theorem jk_91_113 : jx_Snd 91 113 (js_c 8 2) := jo_bipush (z := 8) jd_91_113 (by decide +kernel)
theorem jk_91_115 : jx_Snd 91 115 (js_cgt 162) := jo_cgt (o := 47) rfl jd_91_115
theorem jk_91_118 : jx_Snd 91 118 (js_il 3 1) := jo_iload_n (i := 3) (w := 3) rfl jd_91_118
theorem jk_91_119 : jx_Snd 91 119 (js_c 20 2) := jo_bipush (z := 20) jd_91_119 (by decide +kernel)
theorem jk_91_121 : jx_Snd 91 121 (js_cgt 162) := jo_cgt (o := 41) rfl jd_91_121
theorem jk_91_124 : jx_Snd 91 124 (js_il 6 2) := jo_iload (i := 6) jd_91_124
theorem jk_91_126 : jx_Snd 91 126 (js_ifeq 137) := jo_ifeq (o := 11) rfl jd_91_126
theorem jk_91_129 : jx_Snd 91 129 (js_il 7 2) := jo_iload (i := 7) jd_91_129
theorem jk_91_131 : jx_Snd 91 131 (js_c 999 3) := jo_sipush (z := 999) jd_91_131 (by decide +kernel)
theorem jk_91_134 : jx_Snd 91 134 (js_ceq 162) := jo_ceq (o := 28) rfl jd_91_134
theorem jk_91_137 : jx_Snd 91 137 (js_il 5 2) := jo_iload (i := 5) jd_91_137
theorem jk_91_139 : jx_Snd 91 139 (js_ifne 149) := jo_ifne (o := 10) rfl jd_91_139
theorem jk_91_142 : jx_Snd 91 142 (js_il 7 2) := jo_iload (i := 7) jd_91_142
theorem jk_91_144 : jx_Snd 91 144 (js_il 4 2) := jo_iload (i := 4) jd_91_144
theorem jk_91_146 : jx_Snd 91 146 (js_cge 162) := jo_cge (o := 16) rfl jd_91_146
theorem jk_91_149 : jx_Snd 91 149 (js_il 5 2) := jo_iload (i := 5) jd_91_149
theorem jk_91_151 : jx_Snd 91 151 (js_c 4 1) := jo_iconst (z := 4) jd_91_151 rfl
theorem jk_91_152 : jx_Snd 91 152 (js_cne 164) := jo_cne (o := 12) rfl jd_91_152
theorem jk_91_155 : jx_Snd 91 155 (js_il 7 2) := jo_iload (i := 7) jd_91_155
theorem jk_91_157 : jx_Snd 91 157 (js_c 10 2) := jo_bipush (z := 10) jd_91_157 (by decide +kernel)
theorem jk_91_159 : jx_Snd 91 159 (js_cle 164) := jo_cle (o := 5) rfl jd_91_159
theorem jk_91_162 : jx_Snd 91 162 (js_c 0 1) := jo_iconst (z := 0) jd_91_162 rfl
theorem jk_91_163 : jx_Snd 91 163 (js_zr) := jo_zr rfl jd_91_163
theorem jk_91_164 : jx_Snd 91 164 (js_il 6 2) := jo_iload (i := 6) jd_91_164
theorem jk_91_166 : jx_Snd 91 166 (js_ifeq 175) := jo_ifeq (o := 9) rfl jd_91_166
theorem jk_91_169 : jx_Snd 91 169 (js_il 2 1) := jo_iload_n (i := 2) (w := 2) rfl jd_91_169
theorem jk_91_170 : jx_Snd 91 170 (js_c 2 1) := jo_iconst (z := 2) jd_91_170 rfl
theorem jk_91_171 : jx_Snd 91 171 (js_iadd) := jo_iadd jd_91_171
theorem jk_91_172 : jx_Snd 91 172 (js_go 178) := jo_goto (o := 6) rfl jd_91_172
theorem jk_91_175 : jx_Snd 91 175 (js_il 2 1) := jo_iload_n (i := 2) (w := 2) rfl jd_91_175
theorem jk_91_176 : jx_Snd 91 176 (js_c 1 1) := jo_iconst (z := 1) jd_91_176 rfl
theorem jk_91_177 : jx_Snd 91 177 (js_iadd) := jo_iadd jd_91_177
theorem jk_91_178 : jx_Snd 91 178 (js_is 2 1) := jo_istore_n (i := 2) (w := 2) rfl (Nat.le_of_ble_eq_true rfl) jd_91_178
theorem jk_91_179 : jx_Snd 91 179 (js_il 5 2) := jo_iload (i := 5) jd_91_179
theorem jk_91_181 : jx_Snd 91 181 (js_c 2 1) := jo_iconst (z := 2) jd_91_181 rfl
theorem jk_91_182 : jx_Snd 91 182 (js_cne 189) := jo_cne (o := 7) rfl jd_91_182
theorem jk_91_185 : jx_Snd 91 185 (js_c 2 1) := jo_iconst (z := 2) jd_91_185 rfl
theorem jk_91_186 : jx_Snd 91 186 (js_go 213) := jo_goto (o := 27) rfl jd_91_186
theorem jk_91_189 : jx_Snd 91 189 (js_il 5 2) := jo_iload (i := 5) jd_91_189
theorem jk_91_191 : jx_Snd 91 191 (js_c 1 1) := jo_iconst (z := 1) jd_91_191 rfl
theorem jk_91_192 : jx_Snd 91 192 (js_ceq 208) := jo_ceq (o := 16) rfl jd_91_192
theorem jk_91_195 : jx_Snd 91 195 (js_il 5 2) := jo_iload (i := 5) jd_91_195
theorem jk_91_197 : jx_Snd 91 197 (js_c 5 1) := jo_iconst (z := 5) jd_91_197 rfl
theorem jk_91_198 : jx_Snd 91 198 (js_ceq 208) := jo_ceq (o := 10) rfl jd_91_198
theorem jk_91_201 : jx_Snd 91 201 (js_il 5 2) := jo_iload (i := 5) jd_91_201
theorem jk_91_203 : jx_Snd 91 203 (js_c 6 2) := jo_bipush (z := 6) jd_91_203 (by decide +kernel)
theorem jk_91_205 : jx_Snd 91 205 (js_cne 212) := jo_cne (o := 7) rfl jd_91_205
theorem jk_91_208 : jx_Snd 91 208 (js_c 1 1) := jo_iconst (z := 1) jd_91_208 rfl
theorem jk_91_209 : jx_Snd 91 209 (js_go 213) := jo_goto (o := 4) rfl jd_91_209
theorem jk_91_212 : jx_Snd 91 212 (js_c 0 1) := jo_iconst (z := 0) jd_91_212 rfl
theorem jk_91_213 : jx_Snd 91 213 (js_is 8 2) := jo_istore (i := 8) (Nat.le_of_ble_eq_true rfl) jd_91_213
theorem jk_91_215 : jx_Snd 91 215 (js_c 0 1) := jo_iconst (z := 0) jd_91_215 rfl
theorem jk_91_216 : jx_Snd 91 216 (js_is 9 2) := jo_istore (i := 9) (Nat.le_of_ble_eq_true rfl) jd_91_216
theorem jk_91_218 : jx_Snd 91 218 (js_il 9 2) := jo_iload (i := 9) jd_91_218
theorem jk_91_220 : jx_Snd 91 220 (js_il 8 2) := jo_iload (i := 8) jd_91_220
theorem jk_91_222 : jx_Snd 91 222 (js_cge 264) := jo_cge (o := 42) rfl jd_91_222
theorem jk_91_225 : jx_Snd 91 225 (js_al 0 1) := jo_aload_n (i := 0) (w := 0) rfl jd_91_225
theorem jk_91_226 : jx_Snd 91 226 (js_getf 8 48) := jo_getf rfl jf_8_98 jd_91_226
theorem jk_91_229 : jx_Snd 91 229 (js_il 1 1) := jo_iload_n (i := 1) (w := 1) rfl jd_91_229
theorem jk_91_230 : jx_Snd 91 230 (js_il 3 1) := jo_iload_n (i := 3) (w := 3) rfl jd_91_230
theorem jk_91_231 : jx_Snd 91 231 (js_c 1 1) := jo_iconst (z := 1) jd_91_231 rfl
theorem jk_91_232 : jx_Snd 91 232 (js_iadd) := jo_iadd jd_91_232
theorem jk_91_233 : jx_Snd 91 233 (js_ast) := jo_ast jd_91_233
theorem jk_91_234 : jx_Snd 91 234 (js_al 0 1) := jo_aload_n (i := 0) (w := 0) rfl jd_91_234
theorem jk_91_235 : jx_Snd 91 235 (js_getf 8 49) := jo_getf rfl jf_8_101 jd_91_235
theorem jk_91_238 : jx_Snd 91 238 (js_il 1 1) := jo_iload_n (i := 1) (w := 1) rfl jd_91_238
theorem jk_91_239 : jx_Snd 91 239 (js_il 5 2) := jo_iload (i := 5) jd_91_239
theorem jk_91_241 : jx_Snd 91 241 (js_c 1 1) := jo_iconst (z := 1) jd_91_241 rfl
theorem jk_91_242 : jx_Snd 91 242 (js_cne 252) := jo_cne (o := 10) rfl jd_91_242
theorem jk_91_245 : jx_Snd 91 245 (js_il 4 2) := jo_iload (i := 4) jd_91_245
theorem jk_91_247 : jx_Snd 91 247 (js_c 1 1) := jo_iconst (z := 1) jd_91_247 rfl
theorem jk_91_248 : jx_Snd 91 248 (js_iadd) := jo_iadd jd_91_248
theorem jk_91_249 : jx_Snd 91 249 (js_go 254) := jo_goto (o := 5) rfl jd_91_249
theorem jk_91_252 : jx_Snd 91 252 (js_il 4 2) := jo_iload (i := 4) jd_91_252
theorem jk_91_254 : jx_Snd 91 254 (js_ast) := jo_ast jd_91_254
theorem jk_91_255 : jx_Snd 91 255 (js_inc 1 1) := jo_iinc (w := 1) rfl (Nat.le_of_ble_eq_true rfl) jd_91_255
theorem jk_91_258 : jx_Snd 91 258 (js_inc 9 1) := jo_iinc (w := 1) rfl (Nat.le_of_ble_eq_true rfl) jd_91_258
theorem jk_91_261 : jx_Snd 91 261 (js_go 218) := jo_goto (o := (-43)) rfl jd_91_261
theorem jk_91_264 : jx_Snd 91 264 (js_go 18) := jo_goto (o := (-246)) rfl jd_91_264
theorem jk_91_267 : jx_Snd 91 267 (js_il 2 1) := jo_iload_n (i := 2) (w := 2) rfl jd_91_267
theorem jk_91_268 : jx_Snd 91 268 (js_al 0 1) := jo_aload_n (i := 0) (w := 0) rfl jd_91_268
theorem jk_91_269 : jx_Snd 91 269 (js_getf 8 3) := jo_getf rfl jf_8_107 jd_91_269
theorem jk_91_272 : jx_Snd 91 272 (js_cne 279) := jo_cne (o := 7) rfl jd_91_272
theorem jk_91_275 : jx_Snd 91 275 (js_c 1 1) := jo_iconst (z := 1) jd_91_275 rfl
theorem jk_91_276 : jx_Snd 91 276 (js_go 280) := jo_goto (o := 4) rfl jd_91_276
theorem jk_91_279 : jx_Snd 91 279 (js_c 0 1) := jo_iconst (z := 0) jd_91_279 rfl
theorem jk_91_280 : jx_Snd 91 280 (js_zr) := jo_zr rfl jd_91_280
theorem jk_91 : jx_So 91 jt_91 := fun pc => jo_le (jo_le (jo_le (jo_le (jo_le (jo_le (jo_le (jo_le (jo_at (jk_91_0)) (jo_at (jk_91_1))) (jo_at (jk_91_2))) (jo_le (jo_at (jk_91_3)) (jo_at (jk_91_4)))) (jo_le (jo_le (jo_le (jo_at (jk_91_5)) (jo_at (jk_91_8))) (jo_at (jk_91_9))) (jo_le (jo_at (jk_91_10)) (jo_at (jk_91_11))))) (jo_le (jo_le (jo_le (jo_le (jo_at (jk_91_12)) (jo_at (jk_91_15))) (jo_at (jk_91_16))) (jo_le (jo_at (jk_91_17)) (jo_at (jk_91_18)))) (jo_le (jo_le (jo_le (jo_at (jk_91_19)) (jo_at (jk_91_22))) (jo_at (jk_91_25))) (jo_le (jo_at (jk_91_26)) (jo_at (jk_91_29)))))) (jo_le (jo_le (jo_le (jo_le (jo_le (jo_at (jk_91_30)) (jo_at (jk_91_31))) (jo_at (jk_91_32))) (jo_le (jo_at (jk_91_33)) (jo_at (jk_91_36)))) (jo_le (jo_le (jo_le (jo_at (jk_91_37)) (jo_at (jk_91_38))) (jo_at (jk_91_40))) (jo_le (jo_at (jk_91_41)) (jo_at (jk_91_42))))) (jo_le (jo_le (jo_le (jo_le (jo_at (jk_91_45)) (jo_at (jk_91_48))) (jo_at (jk_91_49))) (jo_le (jo_at (jk_91_52)) (jo_at (jk_91_53)))) (jo_le (jo_le (jo_at (jk_91_54)) (jo_at (jk_91_57))) (jo_le (jo_at (jk_91_59)) (jo_at (jk_91_61))))))) (jo_le (jo_le (jo_le (jo_le (jo_le (jo_le (jo_at (jk_91_63)) (jo_at (jk_91_66))) (jo_at (jk_91_68))) (jo_le (jo_at (jk_91_69)) (jo_at (jk_91_72)))) (jo_le (jo_le (jo_le (jo_at (jk_91_74)) (jo_at (jk_91_75))) (jo_at (jk_91_78))) (jo_le (jo_at (jk_91_79)) (jo_at (jk_91_82))))) (jo_le (jo_le (jo_le (jo_le (jo_at (jk_91_83)) (jo_at (jk_91_85))) (jo_at (jk_91_86))) (jo_le (jo_at (jk_91_87)) (jo_at (jk_91_88)))) (jo_le (jo_le (jo_at (jk_91_89)) (jo_at (jk_91_92))) (jo_le (jo_at (jk_91_95)) (jo_at (jk_91_96)))))) (jo_le (jo_le (jo_le (jo_le (jo_le (jo_at (jk_91_99)) (jo_at (jk_91_100))) (jo_at (jk_91_101))) (jo_le (jo_at (jk_91_102)) (jo_at (jk_91_103)))) (jo_le (jo_le (jo_le (jo_at (jk_91_106)) (jo_at (jk_91_109))) (jo_at (jk_91_111))) (jo_le (jo_at (jk_91_113)) (jo_at (jk_91_115))))) (jo_le (jo_le (jo_le (jo_le (jo_at (jk_91_118)) (jo_at (jk_91_119))) (jo_at (jk_91_121))) (jo_le (jo_at (jk_91_124)) (jo_at (jk_91_126)))) (jo_le (jo_le (jo_at (jk_91_129)) (jo_at (jk_91_131))) (jo_le (jo_at (jk_91_134)) (jo_at (jk_91_137)))))))) (jo_le (jo_le (jo_le (jo_le (jo_le (jo_le (jo_le (jo_at (jk_91_139)) (jo_at (jk_91_142))) (jo_at (jk_91_144))) (jo_le (jo_at (jk_91_146)) (jo_at (jk_91_149)))) (jo_le (jo_le (jo_le (jo_at (jk_91_151)) (jo_at (jk_91_152))) (jo_at (jk_91_155))) (jo_le (jo_at (jk_91_157)) (jo_at (jk_91_159))))) (jo_le (jo_le (jo_le (jo_le (jo_at (jk_91_162)) (jo_at (jk_91_163))) (jo_at (jk_91_164))) (jo_le (jo_at (jk_91_166)) (jo_at (jk_91_169)))) (jo_le (jo_le (jo_at (jk_91_170)) (jo_at (jk_91_171))) (jo_le (jo_at (jk_91_172)) (jo_at (jk_91_175)))))) (jo_le (jo_le (jo_le (jo_le (jo_le (jo_at (jk_91_176)) (jo_at (jk_91_177))) (jo_at (jk_91_178))) (jo_le (jo_at (jk_91_179)) (jo_at (jk_91_181)))) (jo_le (jo_le (jo_le (jo_at (jk_91_182)) (jo_at (jk_91_185))) (jo_at (jk_91_186))) (jo_le (jo_at (jk_91_189)) (jo_at (jk_91_191))))) (jo_le (jo_le (jo_le (jo_le (jo_at (jk_91_192)) (jo_at (jk_91_195))) (jo_at (jk_91_197))) (jo_le (jo_at (jk_91_198)) (jo_at (jk_91_201)))) (jo_le (jo_le (jo_at (jk_91_203)) (jo_at (jk_91_205))) (jo_le (jo_at (jk_91_208)) (jo_at (jk_91_209))))))) (jo_le (jo_le (jo_le (jo_le (jo_le (jo_le (jo_at (jk_91_212)) (jo_at (jk_91_213))) (jo_at (jk_91_215))) (jo_le (jo_at (jk_91_216)) (jo_at (jk_91_218)))) (jo_le (jo_le (jo_le (jo_at (jk_91_220)) (jo_at (jk_91_222))) (jo_at (jk_91_225))) (jo_le (jo_at (jk_91_226)) (jo_at (jk_91_229))))) (jo_le (jo_le (jo_le (jo_le (jo_at (jk_91_230)) (jo_at (jk_91_231))) (jo_at (jk_91_232))) (jo_le (jo_at (jk_91_233)) (jo_at (jk_91_234)))) (jo_le (jo_le (jo_at (jk_91_235)) (jo_at (jk_91_238))) (jo_le (jo_at (jk_91_239)) (jo_at (jk_91_241)))))) (jo_le (jo_le (jo_le (jo_le (jo_le (jo_at (jk_91_242)) (jo_at (jk_91_245))) (jo_at (jk_91_247))) (jo_le (jo_at (jk_91_248)) (jo_at (jk_91_249)))) (jo_le (jo_le (jo_le (jo_at (jk_91_252)) (jo_at (jk_91_254))) (jo_at (jk_91_255))) (jo_le (jo_at (jk_91_258)) (jo_at (jk_91_261))))) (jo_le (jo_le (jo_le (jo_le (jo_at (jk_91_264)) (jo_at (jk_91_267))) (jo_at (jk_91_268))) (jo_le (jo_at (jk_91_269)) (jo_at (jk_91_272)))) (jo_le (jo_le (jo_at (jk_91_275)) (jo_at (jk_91_276))) (jo_le (jo_at (jk_91_279)) (jo_at (jk_91_280))))))))
theorem ji_91 {l : Launch} {D : va_G} {cA : ClassId} {ρ : Nat → Nat} {Λ : List jx_Lc} {d : Nat} {Q : Option Value → jx_St → Prop} {σ : jx_St} {z0 : Nat} (h : jt_91 0 Λ jx_tb0 (jx_rn Λ jx_tb0 jt_91 (fun k' as σ K => jx_C l D cA ρ Λ d k' as σ K) Q (jx_J l D cA ρ Λ (jx_A ρ Λ) jx_tb0 (d + 1) 91 Q) [] 400) (fun k' as σ K => jx_C l D cA ρ Λ d k' as σ K) Q 0 [(0, .ref z0)] [] σ) : jx_C l D cA ρ Λ (d + 1) 91 [.ref z0] σ Q := jx_in jk_91 400 [] rfl (Nat.le_of_ble_eq_true rfl) h
/-! ScriptLedgerModel.define()I -/
theorem jd_92_0 : decode prog_10_method_5_code 0 = .ok (.aload_n 0, 1) := by decide +kernel
theorem jd_92_1 : decode prog_10_method_5_code 1 = .ok (.invokevirtual 112, 3) := by decide +kernel
theorem jd_92_4 : decode prog_10_method_5_code 4 = .ok (.istore_n 1, 1) := by decide +kernel
theorem jd_92_5 : decode prog_10_method_5_code 5 = .ok (.aload_n 0, 1) := by decide +kernel
theorem jd_92_6 : decode prog_10_method_5_code 6 = .ok (.getfield 107, 3) := by decide +kernel
theorem jd_92_9 : decode prog_10_method_5_code 9 = .ok (.istore_n 2, 1) := by decide +kernel
theorem jd_92_10 : decode prog_10_method_5_code 10 = .ok (.aload_n 0, 1) := by decide +kernel
theorem jd_92_11 : decode prog_10_method_5_code 11 = .ok (.iconst 0, 1) := by decide +kernel
theorem jd_92_12 : decode prog_10_method_5_code 12 = .ok (.putfield 107, 3) := by decide +kernel
theorem jd_92_15 : decode prog_10_method_5_code 15 = .ok (.aload_n 0, 1) := by decide +kernel
theorem jd_92_16 : decode prog_10_method_5_code 16 = .ok (.getfield 116, 3) := by decide +kernel
theorem jd_92_19 : decode prog_10_method_5_code 19 = .ok (.bipush 6, 2) := by decide +kernel
theorem jd_92_21 : decode prog_10_method_5_code 21 = .ok (.if_icmp .ne 5, 3) := by decide +kernel
theorem jd_92_24 : decode prog_10_method_5_code 24 = .ok (.iconst (-1), 1) := by decide +kernel
theorem jd_92_25 : decode prog_10_method_5_code 25 = .ok (.ireturn, 1) := by decide +kernel
theorem jd_92_26 : decode prog_10_method_5_code 26 = .ok (.iload_n 1, 1) := by decide +kernel
theorem jd_92_27 : decode prog_10_method_5_code 27 = .ok (.ifCond .ne 6, 3) := by decide +kernel
theorem jd_92_30 : decode prog_10_method_5_code 30 = .ok (.bipush (-2), 2) := by decide +kernel
theorem jd_92_32 : decode prog_10_method_5_code 32 = .ok (.ireturn, 1) := by decide +kernel
theorem jd_92_33 : decode prog_10_method_5_code 33 = .ok (.iconst 0, 1) := by decide +kernel
theorem jd_92_34 : decode prog_10_method_5_code 34 = .ok (.istore_n 3, 1) := by decide +kernel
theorem jd_92_35 : decode prog_10_method_5_code 35 = .ok (.iload_n 3, 1) := by decide +kernel
theorem jd_92_36 : decode prog_10_method_5_code 36 = .ok (.iload_n 2, 1) := by decide +kernel
theorem jd_92_37 : decode prog_10_method_5_code 37 = .ok (.if_icmp .ge 29, 3) := by decide +kernel
theorem jd_92_40 : decode prog_10_method_5_code 40 = .ok (.aload_n 0, 1) := by decide +kernel
theorem jd_92_41 : decode prog_10_method_5_code 41 = .ok (.getfield 7, 3) := by decide +kernel
theorem jd_92_44 : decode prog_10_method_5_code 44 = .ok (.bipush 48, 2) := by decide +kernel
theorem jd_92_46 : decode prog_10_method_5_code 46 = .ok (.aload_n 0, 1) := by decide +kernel
theorem jd_92_47 : decode prog_10_method_5_code 47 = .ok (.getfield 116, 3) := by decide +kernel
theorem jd_92_50 : decode prog_10_method_5_code 50 = .ok (.imul, 1) := by decide +kernel
theorem jd_92_51 : decode prog_10_method_5_code 51 = .ok (.iload_n 3, 1) := by decide +kernel
theorem jd_92_52 : decode prog_10_method_5_code 52 = .ok (.iadd, 1) := by decide +kernel
theorem jd_92_53 : decode prog_10_method_5_code 53 = .ok (.aload_n 0, 1) := by decide +kernel
theorem jd_92_54 : decode prog_10_method_5_code 54 = .ok (.getfield 16, 3) := by decide +kernel
theorem jd_92_57 : decode prog_10_method_5_code 57 = .ok (.iload_n 3, 1) := by decide +kernel
theorem jd_92_58 : decode prog_10_method_5_code 58 = .ok (.iaload, 1) := by decide +kernel
theorem jd_92_59 : decode prog_10_method_5_code 59 = .ok (.iastore, 1) := by decide +kernel
theorem jd_92_60 : decode prog_10_method_5_code 60 = .ok (.iinc 3 1, 3) := by decide +kernel
theorem jd_92_63 : decode prog_10_method_5_code 63 = .ok (.goto (-28), 3) := by decide +kernel
theorem jd_92_66 : decode prog_10_method_5_code 66 = .ok (.aload_n 0, 1) := by decide +kernel
theorem jd_92_67 : decode prog_10_method_5_code 67 = .ok (.getfield 13, 3) := by decide +kernel
theorem jd_92_70 : decode prog_10_method_5_code 70 = .ok (.aload_n 0, 1) := by decide +kernel
theorem jd_92_71 : decode prog_10_method_5_code 71 = .ok (.getfield 116, 3) := by decide +kernel
theorem jd_92_74 : decode prog_10_method_5_code 74 = .ok (.iload_n 2, 1) := by decide +kernel
theorem jd_92_75 : decode prog_10_method_5_code 75 = .ok (.iastore, 1) := by decide +kernel
theorem jd_92_76 : decode prog_10_method_5_code 76 = .ok (.aload_n 0, 1) := by decide +kernel
theorem jd_92_77 : decode prog_10_method_5_code 77 = .ok (.dup, 1) := by decide +kernel
theorem jd_92_78 : decode prog_10_method_5_code 78 = .ok (.getfield 116, 3) := by decide +kernel
theorem jd_92_81 : decode prog_10_method_5_code 81 = .ok (.iconst 1, 1) := by decide +kernel
theorem jd_92_82 : decode prog_10_method_5_code 82 = .ok (.iadd, 1) := by decide +kernel
theorem jd_92_83 : decode prog_10_method_5_code 83 = .ok (.putfield 116, 3) := by decide +kernel
theorem jd_92_86 : decode prog_10_method_5_code 86 = .ok (.aload_n 0, 1) := by decide +kernel
theorem jd_92_87 : decode prog_10_method_5_code 87 = .ok (.getfield 116, 3) := by decide +kernel
theorem jd_92_90 : decode prog_10_method_5_code 90 = .ok (.iconst 1, 1) := by decide +kernel
theorem jd_92_91 : decode prog_10_method_5_code 91 = .ok (.isub, 1) := by decide +kernel
theorem jd_92_92 : decode prog_10_method_5_code 92 = .ok (.ireturn, 1) := by decide +kernel
def jt_92 (pc : Nat) : jx_Sp := bif Nat.ble pc 46 then (bif Nat.ble pc 24 then (bif Nat.ble pc 10 then (bif Nat.ble pc 5 then (bif Nat.ble pc 1 then (bif Nat.ble pc 0 then (bif Nat.beq pc 0 then js_al 0 1 else js_none) else (bif Nat.beq pc 1 then js_v0 8 91 else js_none)) else (bif Nat.ble pc 4 then (bif Nat.beq pc 4 then js_is 1 1 else js_none) else (bif Nat.beq pc 5 then js_al 0 1 else js_none))) else (bif Nat.ble pc 9 then (bif Nat.ble pc 6 then (bif Nat.beq pc 6 then js_getf 8 3 else js_none) else (bif Nat.beq pc 9 then js_is 2 1 else js_none)) else (bif Nat.beq pc 10 then js_al 0 1 else js_none))) else (bif Nat.ble pc 16 then (bif Nat.ble pc 12 then (bif Nat.ble pc 11 then (bif Nat.beq pc 11 then js_c 0 1 else js_none) else (bif Nat.beq pc 12 then js_putf 8 3 false else js_none)) else (bif Nat.ble pc 15 then (bif Nat.beq pc 15 then js_al 0 1 else js_none) else (bif Nat.beq pc 16 then js_getf 8 0 else js_none))) else (bif Nat.ble pc 21 then (bif Nat.ble pc 19 then (bif Nat.beq pc 19 then js_c 6 2 else js_none) else (bif Nat.beq pc 21 then js_cne 26 else js_none)) else (bif Nat.beq pc 24 then js_c (-1) 1 else js_none)))) else (bif Nat.ble pc 34 then (bif Nat.ble pc 30 then (bif Nat.ble pc 26 then (bif Nat.ble pc 25 then (bif Nat.beq pc 25 then js_ir else js_none) else (bif Nat.beq pc 26 then js_il 1 1 else js_none)) else (bif Nat.ble pc 27 then (bif Nat.beq pc 27 then js_ifne 33 else js_none) else (bif Nat.beq pc 30 then js_c (-2) 2 else js_none))) else (bif Nat.ble pc 33 then (bif Nat.ble pc 32 then (bif Nat.beq pc 32 then js_ir else js_none) else (bif Nat.beq pc 33 then js_c 0 1 else js_none)) else (bif Nat.beq pc 34 then js_is 3 1 else js_none))) else (bif Nat.ble pc 40 then (bif Nat.ble pc 36 then (bif Nat.ble pc 35 then (bif Nat.beq pc 35 then js_il 3 1 else js_none) else (bif Nat.beq pc 36 then js_il 2 1 else js_none)) else (bif Nat.ble pc 37 then (bif Nat.beq pc 37 then js_cge 66 else js_none) else (bif Nat.beq pc 40 then js_al 0 1 else js_none))) else (bif Nat.ble pc 44 then (bif Nat.ble pc 41 then (bif Nat.beq pc 41 then js_getf 8 1 else js_none) else (bif Nat.beq pc 44 then js_c 48 2 else js_none)) else (bif Nat.beq pc 46 then js_al 0 1 else js_none))))) else (bif Nat.ble pc 70 then (bif Nat.ble pc 57 then (bif Nat.ble pc 52 then (bif Nat.ble pc 50 then (bif Nat.ble pc 47 then (bif Nat.beq pc 47 then js_getf 8 0 else js_none) else (bif Nat.beq pc 50 then js_imul else js_none)) else (bif Nat.ble pc 51 then (bif Nat.beq pc 51 then js_il 3 1 else js_none) else (bif Nat.beq pc 52 then js_iadd else js_none))) else (bif Nat.ble pc 54 then (bif Nat.ble pc 53 then (bif Nat.beq pc 53 then js_al 0 1 else js_none) else (bif Nat.beq pc 54 then js_getf 8 4 else js_none)) else (bif Nat.beq pc 57 then js_il 3 1 else js_none))) else (bif Nat.ble pc 63 then (bif Nat.ble pc 59 then (bif Nat.ble pc 58 then (bif Nat.beq pc 58 then js_ald else js_none) else (bif Nat.beq pc 59 then js_ast else js_none)) else (bif Nat.ble pc 60 then (bif Nat.beq pc 60 then js_inc 3 1 else js_none) else (bif Nat.beq pc 63 then js_go 35 else js_none))) else (bif Nat.ble pc 67 then (bif Nat.ble pc 66 then (bif Nat.beq pc 66 then js_al 0 1 else js_none) else (bif Nat.beq pc 67 then js_getf 8 2 else js_none)) else (bif Nat.beq pc 70 then js_al 0 1 else js_none)))) else (bif Nat.ble pc 81 then (bif Nat.ble pc 76 then (bif Nat.ble pc 74 then (bif Nat.ble pc 71 then (bif Nat.beq pc 71 then js_getf 8 0 else js_none) else (bif Nat.beq pc 74 then js_il 2 1 else js_none)) else (bif Nat.ble pc 75 then (bif Nat.beq pc 75 then js_ast else js_none) else (bif Nat.beq pc 76 then js_al 0 1 else js_none))) else (bif Nat.ble pc 78 then (bif Nat.ble pc 77 then (bif Nat.beq pc 77 then js_dup else js_none) else (bif Nat.beq pc 78 then js_getf 8 0 else js_none)) else (bif Nat.beq pc 81 then js_c 1 1 else js_none))) else (bif Nat.ble pc 87 then (bif Nat.ble pc 83 then (bif Nat.ble pc 82 then (bif Nat.beq pc 82 then js_iadd else js_none) else (bif Nat.beq pc 83 then js_putf 8 0 false else js_none)) else (bif Nat.ble pc 86 then (bif Nat.beq pc 86 then js_al 0 1 else js_none) else (bif Nat.beq pc 87 then js_getf 8 0 else js_none))) else (bif Nat.ble pc 91 then (bif Nat.ble pc 90 then (bif Nat.beq pc 90 then js_c 1 1 else js_none) else (bif Nat.beq pc 91 then js_isub else js_none)) else (bif Nat.beq pc 92 then js_ir else js_none)))))
theorem jk_92_0 : jx_Snd 92 0 (js_al 0 1) := jo_aload_n (i := 0) (w := 0) rfl jd_92_0
theorem jk_92_1 : jx_Snd 92 1 (js_v0 8 91) := jo_v0 rfl jok_91 (Or.inl jw_525) jw_526 jw_714 rfl jd_92_1
theorem jk_92_4 : jx_Snd 92 4 (js_is 1 1) := jo_istore_n (i := 1) (w := 1) rfl (Nat.le_of_ble_eq_true rfl) jd_92_4
theorem jk_92_5 : jx_Snd 92 5 (js_al 0 1) := jo_aload_n (i := 0) (w := 0) rfl jd_92_5
theorem jk_92_6 : jx_Snd 92 6 (js_getf 8 3) := jo_getf rfl jf_8_107 jd_92_6
theorem jk_92_9 : jx_Snd 92 9 (js_is 2 1) := jo_istore_n (i := 2) (w := 2) rfl (Nat.le_of_ble_eq_true rfl) jd_92_9
theorem jk_92_10 : jx_Snd 92 10 (js_al 0 1) := jo_aload_n (i := 0) (w := 0) rfl jd_92_10
theorem jk_92_11 : jx_Snd 92 11 (js_c 0 1) := jo_iconst (z := 0) jd_92_11 rfl
theorem jk_92_12 : jx_Snd 92 12 (js_putf 8 3 false) := jo_putf (z := false) rfl jf_8_107 (fun C T N h => by cases h; rfl) jd_92_12
theorem jk_92_15 : jx_Snd 92 15 (js_al 0 1) := jo_aload_n (i := 0) (w := 0) rfl jd_92_15
theorem jk_92_16 : jx_Snd 92 16 (js_getf 8 0) := jo_getf rfl jf_8_116 jd_92_16
theorem jk_92_19 : jx_Snd 92 19 (js_c 6 2) := jo_bipush (z := 6) jd_92_19 (by decide +kernel)
theorem jk_92_21 : jx_Snd 92 21 (js_cne 26) := jo_cne (o := 5) rfl jd_92_21
theorem jk_92_24 : jx_Snd 92 24 (js_c (-1) 1) := jo_iconst (z := (-1)) jd_92_24 rfl
theorem jk_92_25 : jx_Snd 92 25 (js_ir) := jo_ir rfl jd_92_25
theorem jk_92_26 : jx_Snd 92 26 (js_il 1 1) := jo_iload_n (i := 1) (w := 1) rfl jd_92_26
theorem jk_92_27 : jx_Snd 92 27 (js_ifne 33) := jo_ifne (o := 6) rfl jd_92_27
theorem jk_92_30 : jx_Snd 92 30 (js_c (-2) 2) := jo_bipush (z := (-2)) jd_92_30 (by decide +kernel)
theorem jk_92_32 : jx_Snd 92 32 (js_ir) := jo_ir rfl jd_92_32
theorem jk_92_33 : jx_Snd 92 33 (js_c 0 1) := jo_iconst (z := 0) jd_92_33 rfl
theorem jk_92_34 : jx_Snd 92 34 (js_is 3 1) := jo_istore_n (i := 3) (w := 3) rfl (Nat.le_of_ble_eq_true rfl) jd_92_34
theorem jk_92_35 : jx_Snd 92 35 (js_il 3 1) := jo_iload_n (i := 3) (w := 3) rfl jd_92_35
theorem jk_92_36 : jx_Snd 92 36 (js_il 2 1) := jo_iload_n (i := 2) (w := 2) rfl jd_92_36
theorem jk_92_37 : jx_Snd 92 37 (js_cge 66) := jo_cge (o := 29) rfl jd_92_37
theorem jk_92_40 : jx_Snd 92 40 (js_al 0 1) := jo_aload_n (i := 0) (w := 0) rfl jd_92_40
theorem jk_92_41 : jx_Snd 92 41 (js_getf 8 1) := jo_getf rfl jf_8_7 jd_92_41
theorem jk_92_44 : jx_Snd 92 44 (js_c 48 2) := jo_bipush (z := 48) jd_92_44 (by decide +kernel)
theorem jk_92_46 : jx_Snd 92 46 (js_al 0 1) := jo_aload_n (i := 0) (w := 0) rfl jd_92_46
theorem jk_92_47 : jx_Snd 92 47 (js_getf 8 0) := jo_getf rfl jf_8_116 jd_92_47
theorem jk_92_50 : jx_Snd 92 50 (js_imul) := jo_imul jd_92_50
theorem jk_92_51 : jx_Snd 92 51 (js_il 3 1) := jo_iload_n (i := 3) (w := 3) rfl jd_92_51
theorem jk_92_52 : jx_Snd 92 52 (js_iadd) := jo_iadd jd_92_52
theorem jk_92_53 : jx_Snd 92 53 (js_al 0 1) := jo_aload_n (i := 0) (w := 0) rfl jd_92_53
theorem jk_92_54 : jx_Snd 92 54 (js_getf 8 4) := jo_getf rfl jf_8_16 jd_92_54
theorem jk_92_57 : jx_Snd 92 57 (js_il 3 1) := jo_iload_n (i := 3) (w := 3) rfl jd_92_57
theorem jk_92_58 : jx_Snd 92 58 (js_ald) := jo_ald jd_92_58
theorem jk_92_59 : jx_Snd 92 59 (js_ast) := jo_ast jd_92_59
theorem jk_92_60 : jx_Snd 92 60 (js_inc 3 1) := jo_iinc (w := 1) rfl (Nat.le_of_ble_eq_true rfl) jd_92_60
theorem jk_92_63 : jx_Snd 92 63 (js_go 35) := jo_goto (o := (-28)) rfl jd_92_63
theorem jk_92_66 : jx_Snd 92 66 (js_al 0 1) := jo_aload_n (i := 0) (w := 0) rfl jd_92_66
theorem jk_92_67 : jx_Snd 92 67 (js_getf 8 2) := jo_getf rfl jf_8_13 jd_92_67
theorem jk_92_70 : jx_Snd 92 70 (js_al 0 1) := jo_aload_n (i := 0) (w := 0) rfl jd_92_70
theorem jk_92_71 : jx_Snd 92 71 (js_getf 8 0) := jo_getf rfl jf_8_116 jd_92_71
theorem jk_92_74 : jx_Snd 92 74 (js_il 2 1) := jo_iload_n (i := 2) (w := 2) rfl jd_92_74
theorem jk_92_75 : jx_Snd 92 75 (js_ast) := jo_ast jd_92_75
theorem jk_92_76 : jx_Snd 92 76 (js_al 0 1) := jo_aload_n (i := 0) (w := 0) rfl jd_92_76
theorem jk_92_77 : jx_Snd 92 77 (js_dup) := jo_dup jd_92_77
theorem jk_92_78 : jx_Snd 92 78 (js_getf 8 0) := jo_getf rfl jf_8_116 jd_92_78
theorem jk_92_81 : jx_Snd 92 81 (js_c 1 1) := jo_iconst (z := 1) jd_92_81 rfl
theorem jk_92_82 : jx_Snd 92 82 (js_iadd) := jo_iadd jd_92_82
theorem jk_92_83 : jx_Snd 92 83 (js_putf 8 0 false) := jo_putf (z := false) rfl jf_8_116 (fun C T N h => by cases h; rfl) jd_92_83
theorem jk_92_86 : jx_Snd 92 86 (js_al 0 1) := jo_aload_n (i := 0) (w := 0) rfl jd_92_86
theorem jk_92_87 : jx_Snd 92 87 (js_getf 8 0) := jo_getf rfl jf_8_116 jd_92_87
theorem jk_92_90 : jx_Snd 92 90 (js_c 1 1) := jo_iconst (z := 1) jd_92_90 rfl
theorem jk_92_91 : jx_Snd 92 91 (js_isub) := jo_isub jd_92_91
theorem jk_92_92 : jx_Snd 92 92 (js_ir) := jo_ir rfl jd_92_92
theorem jk_92 : jx_So 92 jt_92 := fun pc => jo_le (jo_le (jo_le (jo_le (jo_le (jo_le (jo_at (jk_92_0)) (jo_at (jk_92_1))) (jo_le (jo_at (jk_92_4)) (jo_at (jk_92_5)))) (jo_le (jo_le (jo_at (jk_92_6)) (jo_at (jk_92_9))) (jo_at (jk_92_10)))) (jo_le (jo_le (jo_le (jo_at (jk_92_11)) (jo_at (jk_92_12))) (jo_le (jo_at (jk_92_15)) (jo_at (jk_92_16)))) (jo_le (jo_le (jo_at (jk_92_19)) (jo_at (jk_92_21))) (jo_at (jk_92_24))))) (jo_le (jo_le (jo_le (jo_le (jo_at (jk_92_25)) (jo_at (jk_92_26))) (jo_le (jo_at (jk_92_27)) (jo_at (jk_92_30)))) (jo_le (jo_le (jo_at (jk_92_32)) (jo_at (jk_92_33))) (jo_at (jk_92_34)))) (jo_le (jo_le (jo_le (jo_at (jk_92_35)) (jo_at (jk_92_36))) (jo_le (jo_at (jk_92_37)) (jo_at (jk_92_40)))) (jo_le (jo_le (jo_at (jk_92_41)) (jo_at (jk_92_44))) (jo_at (jk_92_46)))))) (jo_le (jo_le (jo_le (jo_le (jo_le (jo_at (jk_92_47)) (jo_at (jk_92_50))) (jo_le (jo_at (jk_92_51)) (jo_at (jk_92_52)))) (jo_le (jo_le (jo_at (jk_92_53)) (jo_at (jk_92_54))) (jo_at (jk_92_57)))) (jo_le (jo_le (jo_le (jo_at (jk_92_58)) (jo_at (jk_92_59))) (jo_le (jo_at (jk_92_60)) (jo_at (jk_92_63)))) (jo_le (jo_le (jo_at (jk_92_66)) (jo_at (jk_92_67))) (jo_at (jk_92_70))))) (jo_le (jo_le (jo_le (jo_le (jo_at (jk_92_71)) (jo_at (jk_92_74))) (jo_le (jo_at (jk_92_75)) (jo_at (jk_92_76)))) (jo_le (jo_le (jo_at (jk_92_77)) (jo_at (jk_92_78))) (jo_at (jk_92_81)))) (jo_le (jo_le (jo_le (jo_at (jk_92_82)) (jo_at (jk_92_83))) (jo_le (jo_at (jk_92_86)) (jo_at (jk_92_87)))) (jo_le (jo_le (jo_at (jk_92_90)) (jo_at (jk_92_91))) (jo_at (jk_92_92))))))
theorem ji_92 {l : Launch} {D : va_G} {cA : ClassId} {ρ : Nat → Nat} {Λ : List jx_Lc} {d : Nat} {Q : Option Value → jx_St → Prop} {σ : jx_St} {z0 : Nat} (h : jt_92 0 Λ jx_tb0 (jx_rn Λ jx_tb0 jt_92 (fun k' as σ K => jx_C l D cA ρ Λ d k' as σ K) Q (jx_J l D cA ρ Λ (jx_A ρ Λ) jx_tb0 (d + 1) 92 Q) [] 400) (fun k' as σ K => jx_C l D cA ρ Λ d k' as σ K) Q 0 [(0, .ref z0)] [] σ) : jx_C l D cA ρ Λ (d + 1) 92 [.ref z0] σ Q := jx_in jk_92 400 [] rfl (Nat.le_of_ble_eq_true rfl) h
/-! ScriptLedgerModel.behindTerm(I)I -/
theorem jd_93_0 : decode prog_10_method_6_code 0 = .ok (.iconst 1, 1) := by decide +kernel
theorem jd_93_1 : decode prog_10_method_6_code 1 = .ok (.istore_n 2, 1) := by decide +kernel
theorem jd_93_2 : decode prog_10_method_6_code 2 = .ok (.iload_n 1, 1) := by decide +kernel
theorem jd_93_3 : decode prog_10_method_6_code 3 = .ok (.istore_n 3, 1) := by decide +kernel
theorem jd_93_4 : decode prog_10_method_6_code 4 = .ok (.iload_n 2, 1) := by decide +kernel
theorem jd_93_5 : decode prog_10_method_6_code 5 = .ok (.ifCond .le 80, 3) := by decide +kernel
theorem jd_93_8 : decode prog_10_method_6_code 8 = .ok (.aload_n 0, 1) := by decide +kernel
theorem jd_93_9 : decode prog_10_method_6_code 9 = .ok (.getfield 7, 3) := by decide +kernel
theorem jd_93_12 : decode prog_10_method_6_code 12 = .ok (.iload_n 3, 1) := by decide +kernel
theorem jd_93_13 : decode prog_10_method_6_code 13 = .ok (.iaload, 1) := by decide +kernel
theorem jd_93_14 : decode prog_10_method_6_code 14 = .ok (.istore 4, 2) := by decide +kernel
theorem jd_93_16 : decode prog_10_method_6_code 16 = .ok (.iload 4, 2) := by decide +kernel
theorem jd_93_18 : decode prog_10_method_6_code 18 = .ok (.iconst 2, 1) := by decide +kernel
theorem jd_93_19 : decode prog_10_method_6_code 19 = .ok (.if_icmp .ne 9, 3) := by decide +kernel
theorem jd_93_22 : decode prog_10_method_6_code 22 = .ok (.iload_n 2, 1) := by decide +kernel
theorem jd_93_23 : decode prog_10_method_6_code 23 = .ok (.iconst 1, 1) := by decide +kernel
theorem jd_93_24 : decode prog_10_method_6_code 24 = .ok (.iadd, 1) := by decide +kernel
theorem jd_93_25 : decode prog_10_method_6_code 25 = .ok (.goto 29, 3) := by decide +kernel
theorem jd_93_28 : decode prog_10_method_6_code 28 = .ok (.iload 4, 2) := by decide +kernel
theorem jd_93_30 : decode prog_10_method_6_code 30 = .ok (.iconst 1, 1) := by decide +kernel
theorem jd_93_31 : decode prog_10_method_6_code 31 = .ok (.if_icmp .eq 16, 3) := by decide +kernel
theorem jd_93_34 : decode prog_10_method_6_code 34 = .ok (.iload 4, 2) := by decide +kernel
theorem jd_93_36 : decode prog_10_method_6_code 36 = .ok (.iconst 5, 1) := by decide +kernel
theorem jd_93_37 : decode prog_10_method_6_code 37 = .ok (.if_icmp .eq 10, 3) := by decide +kernel
theorem jd_93_40 : decode prog_10_method_6_code 40 = .ok (.iload 4, 2) := by decide +kernel
theorem jd_93_42 : decode prog_10_method_6_code 42 = .ok (.bipush 6, 2) := by decide +kernel
theorem jd_93_44 : decode prog_10_method_6_code 44 = .ok (.if_icmp .ne 7, 3) := by decide +kernel
theorem jd_93_47 : decode prog_10_method_6_code 47 = .ok (.iload_n 2, 1) := by decide +kernel
theorem jd_93_48 : decode prog_10_method_6_code 48 = .ok (.goto 6, 3) := by decide +kernel
theorem jd_93_51 : decode prog_10_method_6_code 51 = .ok (.iload_n 2, 1) := by decide +kernel
theorem jd_93_52 : decode prog_10_method_6_code 52 = .ok (.iconst 1, 1) := by decide +kernel
theorem jd_93_53 : decode prog_10_method_6_code 53 = .ok (.isub, 1) := by decide +kernel
theorem jd_93_54 : decode prog_10_method_6_code 54 = .ok (.istore_n 2, 1) := by decide +kernel
theorem jd_93_55 : decode prog_10_method_6_code 55 = .ok (.iload 4, 2) := by decide +kernel
theorem jd_93_57 : decode prog_10_method_6_code 57 = .ok (.ifCond .eq 15, 3) := by decide +kernel
theorem jd_93_60 : decode prog_10_method_6_code 60 = .ok (.iload 4, 2) := by decide +kernel
theorem jd_93_62 : decode prog_10_method_6_code 62 = .ok (.iconst 3, 1) := by decide +kernel
theorem jd_93_63 : decode prog_10_method_6_code 63 = .ok (.if_icmp .eq 9, 3) := by decide +kernel
theorem jd_93_66 : decode prog_10_method_6_code 66 = .ok (.iload 4, 2) := by decide +kernel
theorem jd_93_68 : decode prog_10_method_6_code 68 = .ok (.iconst 4, 1) := by decide +kernel
theorem jd_93_69 : decode prog_10_method_6_code 69 = .ok (.if_icmp .ne 9, 3) := by decide +kernel
theorem jd_93_72 : decode prog_10_method_6_code 72 = .ok (.iload_n 3, 1) := by decide +kernel
theorem jd_93_73 : decode prog_10_method_6_code 73 = .ok (.iconst 2, 1) := by decide +kernel
theorem jd_93_74 : decode prog_10_method_6_code 74 = .ok (.iadd, 1) := by decide +kernel
theorem jd_93_75 : decode prog_10_method_6_code 75 = .ok (.goto 6, 3) := by decide +kernel
theorem jd_93_78 : decode prog_10_method_6_code 78 = .ok (.iload_n 3, 1) := by decide +kernel
theorem jd_93_79 : decode prog_10_method_6_code 79 = .ok (.iconst 1, 1) := by decide +kernel
theorem jd_93_80 : decode prog_10_method_6_code 80 = .ok (.iadd, 1) := by decide +kernel
theorem jd_93_81 : decode prog_10_method_6_code 81 = .ok (.istore_n 3, 1) := by decide +kernel
theorem jd_93_82 : decode prog_10_method_6_code 82 = .ok (.goto (-78), 3) := by decide +kernel
theorem jd_93_85 : decode prog_10_method_6_code 85 = .ok (.iload_n 3, 1) := by decide +kernel
theorem jd_93_86 : decode prog_10_method_6_code 86 = .ok (.ireturn, 1) := by decide +kernel
def jt_93 (pc : Nat) : jx_Sp := bif Nat.ble pc 42 then (bif Nat.ble pc 18 then (bif Nat.ble pc 8 then (bif Nat.ble pc 3 then (bif Nat.ble pc 1 then (bif Nat.ble pc 0 then (bif Nat.beq pc 0 then js_c 1 1 else js_none) else (bif Nat.beq pc 1 then js_is 2 1 else js_none)) else (bif Nat.ble pc 2 then (bif Nat.beq pc 2 then js_il 1 1 else js_none) else (bif Nat.beq pc 3 then js_is 3 1 else js_none))) else (bif Nat.ble pc 5 then (bif Nat.ble pc 4 then (bif Nat.beq pc 4 then js_il 2 1 else js_none) else (bif Nat.beq pc 5 then js_ifle 85 else js_none)) else (bif Nat.beq pc 8 then js_al 0 1 else js_none))) else (bif Nat.ble pc 13 then (bif Nat.ble pc 12 then (bif Nat.ble pc 9 then (bif Nat.beq pc 9 then js_getf 8 1 else js_none) else (bif Nat.beq pc 12 then js_il 3 1 else js_none)) else (bif Nat.beq pc 13 then js_ald else js_none)) else (bif Nat.ble pc 16 then (bif Nat.ble pc 14 then (bif Nat.beq pc 14 then js_is 4 2 else js_none) else (bif Nat.beq pc 16 then js_il 4 2 else js_none)) else (bif Nat.beq pc 18 then js_c 2 1 else js_none)))) else (bif Nat.ble pc 30 then (bif Nat.ble pc 24 then (bif Nat.ble pc 22 then (bif Nat.ble pc 19 then (bif Nat.beq pc 19 then js_cne 28 else js_none) else (bif Nat.beq pc 22 then js_il 2 1 else js_none)) else (bif Nat.ble pc 23 then (bif Nat.beq pc 23 then js_c 1 1 else js_none) else (bif Nat.beq pc 24 then js_iadd else js_none))) else (bif Nat.ble pc 28 then (bif Nat.ble pc 25 then (bif Nat.beq pc 25 then js_go 54 else js_none) else (bif Nat.beq pc 28 then js_il 4 2 else js_none)) else (bif Nat.beq pc 30 then js_c 1 1 else js_none))) else (bif Nat.ble pc 36 then (bif Nat.ble pc 34 then (bif Nat.ble pc 31 then (bif Nat.beq pc 31 then js_ceq 47 else js_none) else (bif Nat.beq pc 34 then js_il 4 2 else js_none)) else (bif Nat.beq pc 36 then js_c 5 1 else js_none)) else (bif Nat.ble pc 40 then (bif Nat.ble pc 37 then (bif Nat.beq pc 37 then js_ceq 47 else js_none) else (bif Nat.beq pc 40 then js_il 4 2 else js_none)) else (bif Nat.beq pc 42 then js_c 6 2 else js_none))))) else (bif Nat.ble pc 66 then (bif Nat.ble pc 54 then (bif Nat.ble pc 51 then (bif Nat.ble pc 47 then (bif Nat.ble pc 44 then (bif Nat.beq pc 44 then js_cne 51 else js_none) else (bif Nat.beq pc 47 then js_il 2 1 else js_none)) else (bif Nat.ble pc 48 then (bif Nat.beq pc 48 then js_go 54 else js_none) else (bif Nat.beq pc 51 then js_il 2 1 else js_none))) else (bif Nat.ble pc 53 then (bif Nat.ble pc 52 then (bif Nat.beq pc 52 then js_c 1 1 else js_none) else (bif Nat.beq pc 53 then js_isub else js_none)) else (bif Nat.beq pc 54 then js_is 2 1 else js_none))) else (bif Nat.ble pc 60 then (bif Nat.ble pc 57 then (bif Nat.ble pc 55 then (bif Nat.beq pc 55 then js_il 4 2 else js_none) else (bif Nat.beq pc 57 then js_ifeq 72 else js_none)) else (bif Nat.beq pc 60 then js_il 4 2 else js_none)) else (bif Nat.ble pc 63 then (bif Nat.ble pc 62 then (bif Nat.beq pc 62 then js_c 3 1 else js_none) else (bif Nat.beq pc 63 then js_ceq 72 else js_none)) else (bif Nat.beq pc 66 then js_il 4 2 else js_none)))) else (bif Nat.ble pc 78 then (bif Nat.ble pc 73 then (bif Nat.ble pc 69 then (bif Nat.ble pc 68 then (bif Nat.beq pc 68 then js_c 4 1 else js_none) else (bif Nat.beq pc 69 then js_cne 78 else js_none)) else (bif Nat.ble pc 72 then (bif Nat.beq pc 72 then js_il 3 1 else js_none) else (bif Nat.beq pc 73 then js_c 2 1 else js_none))) else (bif Nat.ble pc 75 then (bif Nat.ble pc 74 then (bif Nat.beq pc 74 then js_iadd else js_none) else (bif Nat.beq pc 75 then js_go 81 else js_none)) else (bif Nat.beq pc 78 then js_il 3 1 else js_none))) else (bif Nat.ble pc 81 then (bif Nat.ble pc 80 then (bif Nat.ble pc 79 then (bif Nat.beq pc 79 then js_c 1 1 else js_none) else (bif Nat.beq pc 80 then js_iadd else js_none)) else (bif Nat.beq pc 81 then js_is 3 1 else js_none)) else (bif Nat.ble pc 85 then (bif Nat.ble pc 82 then (bif Nat.beq pc 82 then js_go 4 else js_none) else (bif Nat.beq pc 85 then js_il 3 1 else js_none)) else (bif Nat.beq pc 86 then js_ir else js_none)))))
theorem jk_93_0 : jx_Snd 93 0 (js_c 1 1) := jo_iconst (z := 1) jd_93_0 rfl
theorem jk_93_1 : jx_Snd 93 1 (js_is 2 1) := jo_istore_n (i := 2) (w := 2) rfl (Nat.le_of_ble_eq_true rfl) jd_93_1
theorem jk_93_2 : jx_Snd 93 2 (js_il 1 1) := jo_iload_n (i := 1) (w := 1) rfl jd_93_2
theorem jk_93_3 : jx_Snd 93 3 (js_is 3 1) := jo_istore_n (i := 3) (w := 3) rfl (Nat.le_of_ble_eq_true rfl) jd_93_3
theorem jk_93_4 : jx_Snd 93 4 (js_il 2 1) := jo_iload_n (i := 2) (w := 2) rfl jd_93_4
theorem jk_93_5 : jx_Snd 93 5 (js_ifle 85) := jo_ifle (o := 80) rfl jd_93_5
theorem jk_93_8 : jx_Snd 93 8 (js_al 0 1) := jo_aload_n (i := 0) (w := 0) rfl jd_93_8
theorem jk_93_9 : jx_Snd 93 9 (js_getf 8 1) := jo_getf rfl jf_8_7 jd_93_9
theorem jk_93_12 : jx_Snd 93 12 (js_il 3 1) := jo_iload_n (i := 3) (w := 3) rfl jd_93_12
theorem jk_93_13 : jx_Snd 93 13 (js_ald) := jo_ald jd_93_13
theorem jk_93_14 : jx_Snd 93 14 (js_is 4 2) := jo_istore (i := 4) (Nat.le_of_ble_eq_true rfl) jd_93_14
theorem jk_93_16 : jx_Snd 93 16 (js_il 4 2) := jo_iload (i := 4) jd_93_16
theorem jk_93_18 : jx_Snd 93 18 (js_c 2 1) := jo_iconst (z := 2) jd_93_18 rfl
theorem jk_93_19 : jx_Snd 93 19 (js_cne 28) := jo_cne (o := 9) rfl jd_93_19
theorem jk_93_22 : jx_Snd 93 22 (js_il 2 1) := jo_iload_n (i := 2) (w := 2) rfl jd_93_22
theorem jk_93_23 : jx_Snd 93 23 (js_c 1 1) := jo_iconst (z := 1) jd_93_23 rfl
theorem jk_93_24 : jx_Snd 93 24 (js_iadd) := jo_iadd jd_93_24
theorem jk_93_25 : jx_Snd 93 25 (js_go 54) := jo_goto (o := 29) rfl jd_93_25
theorem jk_93_28 : jx_Snd 93 28 (js_il 4 2) := jo_iload (i := 4) jd_93_28
theorem jk_93_30 : jx_Snd 93 30 (js_c 1 1) := jo_iconst (z := 1) jd_93_30 rfl
theorem jk_93_31 : jx_Snd 93 31 (js_ceq 47) := jo_ceq (o := 16) rfl jd_93_31
theorem jk_93_34 : jx_Snd 93 34 (js_il 4 2) := jo_iload (i := 4) jd_93_34
theorem jk_93_36 : jx_Snd 93 36 (js_c 5 1) := jo_iconst (z := 5) jd_93_36 rfl
theorem jk_93_37 : jx_Snd 93 37 (js_ceq 47) := jo_ceq (o := 10) rfl jd_93_37
theorem jk_93_40 : jx_Snd 93 40 (js_il 4 2) := jo_iload (i := 4) jd_93_40
theorem jk_93_42 : jx_Snd 93 42 (js_c 6 2) := jo_bipush (z := 6) jd_93_42 (by decide +kernel)
theorem jk_93_44 : jx_Snd 93 44 (js_cne 51) := jo_cne (o := 7) rfl jd_93_44
theorem jk_93_47 : jx_Snd 93 47 (js_il 2 1) := jo_iload_n (i := 2) (w := 2) rfl jd_93_47
theorem jk_93_48 : jx_Snd 93 48 (js_go 54) := jo_goto (o := 6) rfl jd_93_48
theorem jk_93_51 : jx_Snd 93 51 (js_il 2 1) := jo_iload_n (i := 2) (w := 2) rfl jd_93_51
theorem jk_93_52 : jx_Snd 93 52 (js_c 1 1) := jo_iconst (z := 1) jd_93_52 rfl
theorem jk_93_53 : jx_Snd 93 53 (js_isub) := jo_isub jd_93_53
theorem jk_93_54 : jx_Snd 93 54 (js_is 2 1) := jo_istore_n (i := 2) (w := 2) rfl (Nat.le_of_ble_eq_true rfl) jd_93_54
theorem jk_93_55 : jx_Snd 93 55 (js_il 4 2) := jo_iload (i := 4) jd_93_55
theorem jk_93_57 : jx_Snd 93 57 (js_ifeq 72) := jo_ifeq (o := 15) rfl jd_93_57
theorem jk_93_60 : jx_Snd 93 60 (js_il 4 2) := jo_iload (i := 4) jd_93_60
theorem jk_93_62 : jx_Snd 93 62 (js_c 3 1) := jo_iconst (z := 3) jd_93_62 rfl
theorem jk_93_63 : jx_Snd 93 63 (js_ceq 72) := jo_ceq (o := 9) rfl jd_93_63
theorem jk_93_66 : jx_Snd 93 66 (js_il 4 2) := jo_iload (i := 4) jd_93_66
theorem jk_93_68 : jx_Snd 93 68 (js_c 4 1) := jo_iconst (z := 4) jd_93_68 rfl
theorem jk_93_69 : jx_Snd 93 69 (js_cne 78) := jo_cne (o := 9) rfl jd_93_69
theorem jk_93_72 : jx_Snd 93 72 (js_il 3 1) := jo_iload_n (i := 3) (w := 3) rfl jd_93_72
theorem jk_93_73 : jx_Snd 93 73 (js_c 2 1) := jo_iconst (z := 2) jd_93_73 rfl
theorem jk_93_74 : jx_Snd 93 74 (js_iadd) := jo_iadd jd_93_74
theorem jk_93_75 : jx_Snd 93 75 (js_go 81) := jo_goto (o := 6) rfl jd_93_75
theorem jk_93_78 : jx_Snd 93 78 (js_il 3 1) := jo_iload_n (i := 3) (w := 3) rfl jd_93_78
theorem jk_93_79 : jx_Snd 93 79 (js_c 1 1) := jo_iconst (z := 1) jd_93_79 rfl
theorem jk_93_80 : jx_Snd 93 80 (js_iadd) := jo_iadd jd_93_80
theorem jk_93_81 : jx_Snd 93 81 (js_is 3 1) := jo_istore_n (i := 3) (w := 3) rfl (Nat.le_of_ble_eq_true rfl) jd_93_81
theorem jk_93_82 : jx_Snd 93 82 (js_go 4) := jo_goto (o := (-78)) rfl jd_93_82
theorem jk_93_85 : jx_Snd 93 85 (js_il 3 1) := jo_iload_n (i := 3) (w := 3) rfl jd_93_85
theorem jk_93_86 : jx_Snd 93 86 (js_ir) := jo_ir rfl jd_93_86
theorem jk_93 : jx_So 93 jt_93 := fun pc => jo_le (jo_le (jo_le (jo_le (jo_le (jo_le (jo_at (jk_93_0)) (jo_at (jk_93_1))) (jo_le (jo_at (jk_93_2)) (jo_at (jk_93_3)))) (jo_le (jo_le (jo_at (jk_93_4)) (jo_at (jk_93_5))) (jo_at (jk_93_8)))) (jo_le (jo_le (jo_le (jo_at (jk_93_9)) (jo_at (jk_93_12))) (jo_at (jk_93_13))) (jo_le (jo_le (jo_at (jk_93_14)) (jo_at (jk_93_16))) (jo_at (jk_93_18))))) (jo_le (jo_le (jo_le (jo_le (jo_at (jk_93_19)) (jo_at (jk_93_22))) (jo_le (jo_at (jk_93_23)) (jo_at (jk_93_24)))) (jo_le (jo_le (jo_at (jk_93_25)) (jo_at (jk_93_28))) (jo_at (jk_93_30)))) (jo_le (jo_le (jo_le (jo_at (jk_93_31)) (jo_at (jk_93_34))) (jo_at (jk_93_36))) (jo_le (jo_le (jo_at (jk_93_37)) (jo_at (jk_93_40))) (jo_at (jk_93_42)))))) (jo_le (jo_le (jo_le (jo_le (jo_le (jo_at (jk_93_44)) (jo_at (jk_93_47))) (jo_le (jo_at (jk_93_48)) (jo_at (jk_93_51)))) (jo_le (jo_le (jo_at (jk_93_52)) (jo_at (jk_93_53))) (jo_at (jk_93_54)))) (jo_le (jo_le (jo_le (jo_at (jk_93_55)) (jo_at (jk_93_57))) (jo_at (jk_93_60))) (jo_le (jo_le (jo_at (jk_93_62)) (jo_at (jk_93_63))) (jo_at (jk_93_66))))) (jo_le (jo_le (jo_le (jo_le (jo_at (jk_93_68)) (jo_at (jk_93_69))) (jo_le (jo_at (jk_93_72)) (jo_at (jk_93_73)))) (jo_le (jo_le (jo_at (jk_93_74)) (jo_at (jk_93_75))) (jo_at (jk_93_78)))) (jo_le (jo_le (jo_le (jo_at (jk_93_79)) (jo_at (jk_93_80))) (jo_at (jk_93_81))) (jo_le (jo_le (jo_at (jk_93_82)) (jo_at (jk_93_85))) (jo_at (jk_93_86))))))
theorem ji_93 {l : Launch} {D : va_G} {cA : ClassId} {ρ : Nat → Nat} {Λ : List jx_Lc} {d : Nat} {Q : Option Value → jx_St → Prop} {σ : jx_St} {z0 : Nat} {a1 : Int32} (h : jt_93 0 Λ jx_tb0 (jx_rn Λ jx_tb0 jt_93 (fun k' as σ K => jx_C l D cA ρ Λ d k' as σ K) Q (jx_J l D cA ρ Λ (jx_A ρ Λ) jx_tb0 (d + 1) 93 Q) [] 400) (fun k' as σ K => jx_C l D cA ρ Λ d k' as σ K) Q 0 [(0, .ref z0), (1, .int a1)] [] σ) : jx_C l D cA ρ Λ (d + 1) 93 [.ref z0, .int a1] σ Q := jx_in jk_93 400 [] rfl (Nat.le_of_ble_eq_true rfl) h
/-! ScriptLedgerModel.make(IIIII)I -/
theorem jd_94_0 : decode prog_10_method_7_code 0 = .ok (.aload_n 0, 1) := by decide +kernel
theorem jd_94_1 : decode prog_10_method_7_code 1 = .ok (.getfield 19, 3) := by decide +kernel
theorem jd_94_4 : decode prog_10_method_7_code 4 = .ok (.aload_n 0, 1) := by decide +kernel
theorem jd_94_5 : decode prog_10_method_7_code 5 = .ok (.getfield 119, 3) := by decide +kernel
theorem jd_94_8 : decode prog_10_method_7_code 8 = .ok (.iload_n 1, 1) := by decide +kernel
theorem jd_94_9 : decode prog_10_method_7_code 9 = .ok (.iastore, 1) := by decide +kernel
theorem jd_94_10 : decode prog_10_method_7_code 10 = .ok (.aload_n 0, 1) := by decide +kernel
theorem jd_94_11 : decode prog_10_method_7_code 11 = .ok (.getfield 22, 3) := by decide +kernel
theorem jd_94_14 : decode prog_10_method_7_code 14 = .ok (.aload_n 0, 1) := by decide +kernel
theorem jd_94_15 : decode prog_10_method_7_code 15 = .ok (.getfield 119, 3) := by decide +kernel
theorem jd_94_18 : decode prog_10_method_7_code 18 = .ok (.iload_n 2, 1) := by decide +kernel
theorem jd_94_19 : decode prog_10_method_7_code 19 = .ok (.iastore, 1) := by decide +kernel
theorem jd_94_20 : decode prog_10_method_7_code 20 = .ok (.aload_n 0, 1) := by decide +kernel
theorem jd_94_21 : decode prog_10_method_7_code 21 = .ok (.getfield 25, 3) := by decide +kernel
theorem jd_94_24 : decode prog_10_method_7_code 24 = .ok (.aload_n 0, 1) := by decide +kernel
theorem jd_94_25 : decode prog_10_method_7_code 25 = .ok (.getfield 119, 3) := by decide +kernel
theorem jd_94_28 : decode prog_10_method_7_code 28 = .ok (.iload_n 3, 1) := by decide +kernel
theorem jd_94_29 : decode prog_10_method_7_code 29 = .ok (.iastore, 1) := by decide +kernel
theorem jd_94_30 : decode prog_10_method_7_code 30 = .ok (.aload_n 0, 1) := by decide +kernel
theorem jd_94_31 : decode prog_10_method_7_code 31 = .ok (.getfield 28, 3) := by decide +kernel
theorem jd_94_34 : decode prog_10_method_7_code 34 = .ok (.aload_n 0, 1) := by decide +kernel
theorem jd_94_35 : decode prog_10_method_7_code 35 = .ok (.getfield 119, 3) := by decide +kernel
theorem jd_94_38 : decode prog_10_method_7_code 38 = .ok (.iload 4, 2) := by decide +kernel
theorem jd_94_40 : decode prog_10_method_7_code 40 = .ok (.iastore, 1) := by decide +kernel
theorem jd_94_41 : decode prog_10_method_7_code 41 = .ok (.aload_n 0, 1) := by decide +kernel
theorem jd_94_42 : decode prog_10_method_7_code 42 = .ok (.getfield 31, 3) := by decide +kernel
theorem jd_94_45 : decode prog_10_method_7_code 45 = .ok (.aload_n 0, 1) := by decide +kernel
theorem jd_94_46 : decode prog_10_method_7_code 46 = .ok (.getfield 119, 3) := by decide +kernel
theorem jd_94_49 : decode prog_10_method_7_code 49 = .ok (.iload 5, 2) := by decide +kernel
theorem jd_94_51 : decode prog_10_method_7_code 51 = .ok (.iastore, 1) := by decide +kernel
theorem jd_94_52 : decode prog_10_method_7_code 52 = .ok (.aload_n 0, 1) := by decide +kernel
theorem jd_94_53 : decode prog_10_method_7_code 53 = .ok (.dup, 1) := by decide +kernel
theorem jd_94_54 : decode prog_10_method_7_code 54 = .ok (.getfield 119, 3) := by decide +kernel
theorem jd_94_57 : decode prog_10_method_7_code 57 = .ok (.iconst 1, 1) := by decide +kernel
theorem jd_94_58 : decode prog_10_method_7_code 58 = .ok (.iadd, 1) := by decide +kernel
theorem jd_94_59 : decode prog_10_method_7_code 59 = .ok (.putfield 119, 3) := by decide +kernel
theorem jd_94_62 : decode prog_10_method_7_code 62 = .ok (.aload_n 0, 1) := by decide +kernel
theorem jd_94_63 : decode prog_10_method_7_code 63 = .ok (.getfield 119, 3) := by decide +kernel
theorem jd_94_66 : decode prog_10_method_7_code 66 = .ok (.iconst 1, 1) := by decide +kernel
theorem jd_94_67 : decode prog_10_method_7_code 67 = .ok (.isub, 1) := by decide +kernel
theorem jd_94_68 : decode prog_10_method_7_code 68 = .ok (.ireturn, 1) := by decide +kernel
def jt_94 (pc : Nat) : jx_Sp := bif Nat.ble pc 34 then (bif Nat.ble pc 18 then (bif Nat.ble pc 9 then (bif Nat.ble pc 4 then (bif Nat.ble pc 1 then (bif Nat.ble pc 0 then (bif Nat.beq pc 0 then js_al 0 1 else js_none) else (bif Nat.beq pc 1 then js_getf 8 6 else js_none)) else (bif Nat.beq pc 4 then js_al 0 1 else js_none)) else (bif Nat.ble pc 8 then (bif Nat.ble pc 5 then (bif Nat.beq pc 5 then js_getf 8 5 else js_none) else (bif Nat.beq pc 8 then js_il 1 1 else js_none)) else (bif Nat.beq pc 9 then js_ast else js_none))) else (bif Nat.ble pc 14 then (bif Nat.ble pc 11 then (bif Nat.ble pc 10 then (bif Nat.beq pc 10 then js_al 0 1 else js_none) else (bif Nat.beq pc 11 then js_getf 8 7 else js_none)) else (bif Nat.beq pc 14 then js_al 0 1 else js_none)) else (bif Nat.ble pc 15 then (bif Nat.beq pc 15 then js_getf 8 5 else js_none) else (bif Nat.beq pc 18 then js_il 2 1 else js_none)))) else (bif Nat.ble pc 25 then (bif Nat.ble pc 21 then (bif Nat.ble pc 20 then (bif Nat.ble pc 19 then (bif Nat.beq pc 19 then js_ast else js_none) else (bif Nat.beq pc 20 then js_al 0 1 else js_none)) else (bif Nat.beq pc 21 then js_getf 8 8 else js_none)) else (bif Nat.ble pc 24 then (bif Nat.beq pc 24 then js_al 0 1 else js_none) else (bif Nat.beq pc 25 then js_getf 8 5 else js_none))) else (bif Nat.ble pc 30 then (bif Nat.ble pc 29 then (bif Nat.ble pc 28 then (bif Nat.beq pc 28 then js_il 3 1 else js_none) else (bif Nat.beq pc 29 then js_ast else js_none)) else (bif Nat.beq pc 30 then js_al 0 1 else js_none)) else (bif Nat.ble pc 31 then (bif Nat.beq pc 31 then js_getf 8 9 else js_none) else (bif Nat.beq pc 34 then js_al 0 1 else js_none))))) else (bif Nat.ble pc 52 then (bif Nat.ble pc 42 then (bif Nat.ble pc 40 then (bif Nat.ble pc 38 then (bif Nat.ble pc 35 then (bif Nat.beq pc 35 then js_getf 8 5 else js_none) else (bif Nat.beq pc 38 then js_il 4 2 else js_none)) else (bif Nat.beq pc 40 then js_ast else js_none)) else (bif Nat.ble pc 41 then (bif Nat.beq pc 41 then js_al 0 1 else js_none) else (bif Nat.beq pc 42 then js_getf 8 10 else js_none))) else (bif Nat.ble pc 49 then (bif Nat.ble pc 46 then (bif Nat.ble pc 45 then (bif Nat.beq pc 45 then js_al 0 1 else js_none) else (bif Nat.beq pc 46 then js_getf 8 5 else js_none)) else (bif Nat.beq pc 49 then js_il 5 2 else js_none)) else (bif Nat.ble pc 51 then (bif Nat.beq pc 51 then js_ast else js_none) else (bif Nat.beq pc 52 then js_al 0 1 else js_none)))) else (bif Nat.ble pc 59 then (bif Nat.ble pc 57 then (bif Nat.ble pc 54 then (bif Nat.ble pc 53 then (bif Nat.beq pc 53 then js_dup else js_none) else (bif Nat.beq pc 54 then js_getf 8 5 else js_none)) else (bif Nat.beq pc 57 then js_c 1 1 else js_none)) else (bif Nat.ble pc 58 then (bif Nat.beq pc 58 then js_iadd else js_none) else (bif Nat.beq pc 59 then js_putf 8 5 false else js_none))) else (bif Nat.ble pc 66 then (bif Nat.ble pc 63 then (bif Nat.ble pc 62 then (bif Nat.beq pc 62 then js_al 0 1 else js_none) else (bif Nat.beq pc 63 then js_getf 8 5 else js_none)) else (bif Nat.beq pc 66 then js_c 1 1 else js_none)) else (bif Nat.ble pc 67 then (bif Nat.beq pc 67 then js_isub else js_none) else (bif Nat.beq pc 68 then js_ir else js_none)))))
theorem jk_94_0 : jx_Snd 94 0 (js_al 0 1) := jo_aload_n (i := 0) (w := 0) rfl jd_94_0
theorem jk_94_1 : jx_Snd 94 1 (js_getf 8 6) := jo_getf rfl jf_8_19 jd_94_1
theorem jk_94_4 : jx_Snd 94 4 (js_al 0 1) := jo_aload_n (i := 0) (w := 0) rfl jd_94_4
theorem jk_94_5 : jx_Snd 94 5 (js_getf 8 5) := jo_getf rfl jf_8_119 jd_94_5
theorem jk_94_8 : jx_Snd 94 8 (js_il 1 1) := jo_iload_n (i := 1) (w := 1) rfl jd_94_8
theorem jk_94_9 : jx_Snd 94 9 (js_ast) := jo_ast jd_94_9
theorem jk_94_10 : jx_Snd 94 10 (js_al 0 1) := jo_aload_n (i := 0) (w := 0) rfl jd_94_10
theorem jk_94_11 : jx_Snd 94 11 (js_getf 8 7) := jo_getf rfl jf_8_22 jd_94_11
theorem jk_94_14 : jx_Snd 94 14 (js_al 0 1) := jo_aload_n (i := 0) (w := 0) rfl jd_94_14
theorem jk_94_15 : jx_Snd 94 15 (js_getf 8 5) := jo_getf rfl jf_8_119 jd_94_15
theorem jk_94_18 : jx_Snd 94 18 (js_il 2 1) := jo_iload_n (i := 2) (w := 2) rfl jd_94_18
theorem jk_94_19 : jx_Snd 94 19 (js_ast) := jo_ast jd_94_19
theorem jk_94_20 : jx_Snd 94 20 (js_al 0 1) := jo_aload_n (i := 0) (w := 0) rfl jd_94_20
theorem jk_94_21 : jx_Snd 94 21 (js_getf 8 8) := jo_getf rfl jf_8_25 jd_94_21
theorem jk_94_24 : jx_Snd 94 24 (js_al 0 1) := jo_aload_n (i := 0) (w := 0) rfl jd_94_24
theorem jk_94_25 : jx_Snd 94 25 (js_getf 8 5) := jo_getf rfl jf_8_119 jd_94_25
theorem jk_94_28 : jx_Snd 94 28 (js_il 3 1) := jo_iload_n (i := 3) (w := 3) rfl jd_94_28
theorem jk_94_29 : jx_Snd 94 29 (js_ast) := jo_ast jd_94_29
theorem jk_94_30 : jx_Snd 94 30 (js_al 0 1) := jo_aload_n (i := 0) (w := 0) rfl jd_94_30
theorem jk_94_31 : jx_Snd 94 31 (js_getf 8 9) := jo_getf rfl jf_8_28 jd_94_31
theorem jk_94_34 : jx_Snd 94 34 (js_al 0 1) := jo_aload_n (i := 0) (w := 0) rfl jd_94_34
theorem jk_94_35 : jx_Snd 94 35 (js_getf 8 5) := jo_getf rfl jf_8_119 jd_94_35
theorem jk_94_38 : jx_Snd 94 38 (js_il 4 2) := jo_iload (i := 4) jd_94_38
theorem jk_94_40 : jx_Snd 94 40 (js_ast) := jo_ast jd_94_40
theorem jk_94_41 : jx_Snd 94 41 (js_al 0 1) := jo_aload_n (i := 0) (w := 0) rfl jd_94_41
theorem jk_94_42 : jx_Snd 94 42 (js_getf 8 10) := jo_getf rfl jf_8_31 jd_94_42
theorem jk_94_45 : jx_Snd 94 45 (js_al 0 1) := jo_aload_n (i := 0) (w := 0) rfl jd_94_45
theorem jk_94_46 : jx_Snd 94 46 (js_getf 8 5) := jo_getf rfl jf_8_119 jd_94_46
theorem jk_94_49 : jx_Snd 94 49 (js_il 5 2) := jo_iload (i := 5) jd_94_49
theorem jk_94_51 : jx_Snd 94 51 (js_ast) := jo_ast jd_94_51
theorem jk_94_52 : jx_Snd 94 52 (js_al 0 1) := jo_aload_n (i := 0) (w := 0) rfl jd_94_52
theorem jk_94_53 : jx_Snd 94 53 (js_dup) := jo_dup jd_94_53
theorem jk_94_54 : jx_Snd 94 54 (js_getf 8 5) := jo_getf rfl jf_8_119 jd_94_54
theorem jk_94_57 : jx_Snd 94 57 (js_c 1 1) := jo_iconst (z := 1) jd_94_57 rfl
theorem jk_94_58 : jx_Snd 94 58 (js_iadd) := jo_iadd jd_94_58
theorem jk_94_59 : jx_Snd 94 59 (js_putf 8 5 false) := jo_putf (z := false) rfl jf_8_119 (fun C T N h => by cases h; rfl) jd_94_59
theorem jk_94_62 : jx_Snd 94 62 (js_al 0 1) := jo_aload_n (i := 0) (w := 0) rfl jd_94_62
theorem jk_94_63 : jx_Snd 94 63 (js_getf 8 5) := jo_getf rfl jf_8_119 jd_94_63
theorem jk_94_66 : jx_Snd 94 66 (js_c 1 1) := jo_iconst (z := 1) jd_94_66 rfl
theorem jk_94_67 : jx_Snd 94 67 (js_isub) := jo_isub jd_94_67
theorem jk_94_68 : jx_Snd 94 68 (js_ir) := jo_ir rfl jd_94_68
theorem jk_94 : jx_So 94 jt_94 := fun pc => jo_le (jo_le (jo_le (jo_le (jo_le (jo_le (jo_at (jk_94_0)) (jo_at (jk_94_1))) (jo_at (jk_94_4))) (jo_le (jo_le (jo_at (jk_94_5)) (jo_at (jk_94_8))) (jo_at (jk_94_9)))) (jo_le (jo_le (jo_le (jo_at (jk_94_10)) (jo_at (jk_94_11))) (jo_at (jk_94_14))) (jo_le (jo_at (jk_94_15)) (jo_at (jk_94_18))))) (jo_le (jo_le (jo_le (jo_le (jo_at (jk_94_19)) (jo_at (jk_94_20))) (jo_at (jk_94_21))) (jo_le (jo_at (jk_94_24)) (jo_at (jk_94_25)))) (jo_le (jo_le (jo_le (jo_at (jk_94_28)) (jo_at (jk_94_29))) (jo_at (jk_94_30))) (jo_le (jo_at (jk_94_31)) (jo_at (jk_94_34)))))) (jo_le (jo_le (jo_le (jo_le (jo_le (jo_at (jk_94_35)) (jo_at (jk_94_38))) (jo_at (jk_94_40))) (jo_le (jo_at (jk_94_41)) (jo_at (jk_94_42)))) (jo_le (jo_le (jo_le (jo_at (jk_94_45)) (jo_at (jk_94_46))) (jo_at (jk_94_49))) (jo_le (jo_at (jk_94_51)) (jo_at (jk_94_52))))) (jo_le (jo_le (jo_le (jo_le (jo_at (jk_94_53)) (jo_at (jk_94_54))) (jo_at (jk_94_57))) (jo_le (jo_at (jk_94_58)) (jo_at (jk_94_59)))) (jo_le (jo_le (jo_le (jo_at (jk_94_62)) (jo_at (jk_94_63))) (jo_at (jk_94_66))) (jo_le (jo_at (jk_94_67)) (jo_at (jk_94_68))))))
theorem ji_94 {l : Launch} {D : va_G} {cA : ClassId} {ρ : Nat → Nat} {Λ : List jx_Lc} {d : Nat} {Q : Option Value → jx_St → Prop} {σ : jx_St} {z0 : Nat} {a1 : Int32} {a2 : Int32} {a3 : Int32} {a4 : Int32} {a5 : Int32} (h : jt_94 0 Λ jx_tb0 (jx_rn Λ jx_tb0 jt_94 (fun k' as σ K => jx_C l D cA ρ Λ d k' as σ K) Q (jx_J l D cA ρ Λ (jx_A ρ Λ) jx_tb0 (d + 1) 94 Q) [] 400) (fun k' as σ K => jx_C l D cA ρ Λ d k' as σ K) Q 0 [(0, .ref z0), (1, .int a1), (2, .int a2), (3, .int a3), (4, .int a4), (5, .int a5)] [] σ) : jx_C l D cA ρ Λ (d + 1) 94 [.ref z0, .int a1, .int a2, .int a3, .int a4, .int a5] σ Q := jx_in jk_94 400 [] rfl (Nat.le_of_ble_eq_true rfl) h
/-! ScriptLedgerModel.whole(I)I -/
theorem jd_95_0 : decode prog_10_method_8_code 0 = .ok (.aload_n 0, 1) := by decide +kernel
theorem jd_95_1 : decode prog_10_method_8_code 1 = .ok (.iconst 0, 1) := by decide +kernel
theorem jd_95_2 : decode prog_10_method_8_code 2 = .ok (.iload_n 1, 1) := by decide +kernel
theorem jd_95_3 : decode prog_10_method_8_code 3 = .ok (.iconst 0, 1) := by decide +kernel
theorem jd_95_4 : decode prog_10_method_8_code 4 = .ok (.iconst 0, 1) := by decide +kernel
theorem jd_95_5 : decode prog_10_method_8_code 5 = .ok (.iconst 0, 1) := by decide +kernel
theorem jd_95_6 : decode prog_10_method_8_code 6 = .ok (.invokevirtual 122, 3) := by decide +kernel
theorem jd_95_9 : decode prog_10_method_8_code 9 = .ok (.ireturn, 1) := by decide +kernel
def jt_95 (pc : Nat) : jx_Sp := bif Nat.ble pc 3 then (bif Nat.ble pc 1 then (bif Nat.ble pc 0 then (bif Nat.beq pc 0 then js_al 0 1 else js_none) else (bif Nat.beq pc 1 then js_c 0 1 else js_none)) else (bif Nat.ble pc 2 then (bif Nat.beq pc 2 then js_il 1 1 else js_none) else (bif Nat.beq pc 3 then js_c 0 1 else js_none))) else (bif Nat.ble pc 5 then (bif Nat.ble pc 4 then (bif Nat.beq pc 4 then js_c 0 1 else js_none) else (bif Nat.beq pc 5 then js_c 0 1 else js_none)) else (bif Nat.ble pc 6 then (bif Nat.beq pc 6 then js_v5 8 94 else js_none) else (bif Nat.beq pc 9 then js_ir else js_none)))
theorem jk_95_0 : jx_Snd 95 0 (js_al 0 1) := jo_aload_n (i := 0) (w := 0) rfl jd_95_0
theorem jk_95_1 : jx_Snd 95 1 (js_c 0 1) := jo_iconst (z := 0) jd_95_1 rfl
theorem jk_95_2 : jx_Snd 95 2 (js_il 1 1) := jo_iload_n (i := 1) (w := 1) rfl jd_95_2
theorem jk_95_3 : jx_Snd 95 3 (js_c 0 1) := jo_iconst (z := 0) jd_95_3 rfl
theorem jk_95_4 : jx_Snd 95 4 (js_c 0 1) := jo_iconst (z := 0) jd_95_4 rfl
theorem jk_95_5 : jx_Snd 95 5 (js_c 0 1) := jo_iconst (z := 0) jd_95_5 rfl
theorem jk_95_6 : jx_Snd 95 6 (js_v5 8 94) := jo_v5 rfl jok_94 (Or.inl jw_538) jw_539 jw_716 rfl jd_95_6
theorem jk_95_9 : jx_Snd 95 9 (js_ir) := jo_ir rfl jd_95_9
theorem jk_95 : jx_So 95 jt_95 := fun pc => jo_le (jo_le (jo_le (jo_at (jk_95_0)) (jo_at (jk_95_1))) (jo_le (jo_at (jk_95_2)) (jo_at (jk_95_3)))) (jo_le (jo_le (jo_at (jk_95_4)) (jo_at (jk_95_5))) (jo_le (jo_at (jk_95_6)) (jo_at (jk_95_9))))
theorem ji_95 {l : Launch} {D : va_G} {cA : ClassId} {ρ : Nat → Nat} {Λ : List jx_Lc} {d : Nat} {Q : Option Value → jx_St → Prop} {σ : jx_St} {z0 : Nat} {a1 : Int32} (h : jt_95 0 Λ jx_tb0 (jx_rn Λ jx_tb0 jt_95 (fun k' as σ K => jx_C l D cA ρ Λ d k' as σ K) Q (jx_J l D cA ρ Λ (jx_A ρ Λ) jx_tb0 (d + 1) 95 Q) [] 400) (fun k' as σ K => jx_C l D cA ρ Λ d k' as σ K) Q 0 [(0, .ref z0), (1, .int a1)] [] σ) : jx_C l D cA ρ Λ (d + 1) 95 [.ref z0, .int a1] σ Q := jx_in jk_95 400 [] rfl (Nat.le_of_ble_eq_true rfl) h
/-! ScriptLedgerModel.cons(II)I -/
theorem jd_96_0 : decode prog_10_method_9_code 0 = .ok (.aload_n 0, 1) := by decide +kernel
theorem jd_96_1 : decode prog_10_method_9_code 1 = .ok (.iconst 2, 1) := by decide +kernel
theorem jd_96_2 : decode prog_10_method_9_code 2 = .ok (.iload_n 1, 1) := by decide +kernel
theorem jd_96_3 : decode prog_10_method_9_code 3 = .ok (.iload_n 2, 1) := by decide +kernel
theorem jd_96_4 : decode prog_10_method_9_code 4 = .ok (.iconst 1, 1) := by decide +kernel
theorem jd_96_5 : decode prog_10_method_9_code 5 = .ok (.aload_n 0, 1) := by decide +kernel
theorem jd_96_6 : decode prog_10_method_9_code 6 = .ok (.getfield 28, 3) := by decide +kernel
theorem jd_96_9 : decode prog_10_method_9_code 9 = .ok (.iload_n 2, 1) := by decide +kernel
theorem jd_96_10 : decode prog_10_method_9_code 10 = .ok (.iaload, 1) := by decide +kernel
theorem jd_96_11 : decode prog_10_method_9_code 11 = .ok (.iadd, 1) := by decide +kernel
theorem jd_96_12 : decode prog_10_method_9_code 12 = .ok (.iconst 0, 1) := by decide +kernel
theorem jd_96_13 : decode prog_10_method_9_code 13 = .ok (.invokevirtual 122, 3) := by decide +kernel
theorem jd_96_16 : decode prog_10_method_9_code 16 = .ok (.ireturn, 1) := by decide +kernel
def jt_96 (pc : Nat) : jx_Sp := bif Nat.ble pc 6 then (bif Nat.ble pc 3 then (bif Nat.ble pc 1 then (bif Nat.ble pc 0 then (bif Nat.beq pc 0 then js_al 0 1 else js_none) else (bif Nat.beq pc 1 then js_c 2 1 else js_none)) else (bif Nat.ble pc 2 then (bif Nat.beq pc 2 then js_il 1 1 else js_none) else (bif Nat.beq pc 3 then js_il 2 1 else js_none))) else (bif Nat.ble pc 5 then (bif Nat.ble pc 4 then (bif Nat.beq pc 4 then js_c 1 1 else js_none) else (bif Nat.beq pc 5 then js_al 0 1 else js_none)) else (bif Nat.beq pc 6 then js_getf 8 9 else js_none))) else (bif Nat.ble pc 11 then (bif Nat.ble pc 10 then (bif Nat.ble pc 9 then (bif Nat.beq pc 9 then js_il 2 1 else js_none) else (bif Nat.beq pc 10 then js_ald else js_none)) else (bif Nat.beq pc 11 then js_iadd else js_none)) else (bif Nat.ble pc 13 then (bif Nat.ble pc 12 then (bif Nat.beq pc 12 then js_c 0 1 else js_none) else (bif Nat.beq pc 13 then js_v5 8 94 else js_none)) else (bif Nat.beq pc 16 then js_ir else js_none)))
theorem jk_96_0 : jx_Snd 96 0 (js_al 0 1) := jo_aload_n (i := 0) (w := 0) rfl jd_96_0
theorem jk_96_1 : jx_Snd 96 1 (js_c 2 1) := jo_iconst (z := 2) jd_96_1 rfl
theorem jk_96_2 : jx_Snd 96 2 (js_il 1 1) := jo_iload_n (i := 1) (w := 1) rfl jd_96_2
theorem jk_96_3 : jx_Snd 96 3 (js_il 2 1) := jo_iload_n (i := 2) (w := 2) rfl jd_96_3
theorem jk_96_4 : jx_Snd 96 4 (js_c 1 1) := jo_iconst (z := 1) jd_96_4 rfl
theorem jk_96_5 : jx_Snd 96 5 (js_al 0 1) := jo_aload_n (i := 0) (w := 0) rfl jd_96_5
theorem jk_96_6 : jx_Snd 96 6 (js_getf 8 9) := jo_getf rfl jf_8_28 jd_96_6
theorem jk_96_9 : jx_Snd 96 9 (js_il 2 1) := jo_iload_n (i := 2) (w := 2) rfl jd_96_9
theorem jk_96_10 : jx_Snd 96 10 (js_ald) := jo_ald jd_96_10
theorem jk_96_11 : jx_Snd 96 11 (js_iadd) := jo_iadd jd_96_11
theorem jk_96_12 : jx_Snd 96 12 (js_c 0 1) := jo_iconst (z := 0) jd_96_12 rfl
theorem jk_96_13 : jx_Snd 96 13 (js_v5 8 94) := jo_v5 rfl jok_94 (Or.inl jw_538) jw_539 jw_716 rfl jd_96_13
theorem jk_96_16 : jx_Snd 96 16 (js_ir) := jo_ir rfl jd_96_16
theorem jk_96 : jx_So 96 jt_96 := fun pc => jo_le (jo_le (jo_le (jo_le (jo_at (jk_96_0)) (jo_at (jk_96_1))) (jo_le (jo_at (jk_96_2)) (jo_at (jk_96_3)))) (jo_le (jo_le (jo_at (jk_96_4)) (jo_at (jk_96_5))) (jo_at (jk_96_6)))) (jo_le (jo_le (jo_le (jo_at (jk_96_9)) (jo_at (jk_96_10))) (jo_at (jk_96_11))) (jo_le (jo_le (jo_at (jk_96_12)) (jo_at (jk_96_13))) (jo_at (jk_96_16))))
theorem ji_96 {l : Launch} {D : va_G} {cA : ClassId} {ρ : Nat → Nat} {Λ : List jx_Lc} {d : Nat} {Q : Option Value → jx_St → Prop} {σ : jx_St} {z0 : Nat} {a1 : Int32} {a2 : Int32} (h : jt_96 0 Λ jx_tb0 (jx_rn Λ jx_tb0 jt_96 (fun k' as σ K => jx_C l D cA ρ Λ d k' as σ K) Q (jx_J l D cA ρ Λ (jx_A ρ Λ) jx_tb0 (d + 1) 96 Q) [] 400) (fun k' as σ K => jx_C l D cA ρ Λ d k' as σ K) Q 0 [(0, .ref z0), (1, .int a1), (2, .int a2)] [] σ) : jx_C l D cA ρ Λ (d + 1) 96 [.ref z0, .int a1, .int a2] σ Q := jx_in jk_96 400 [] rfl (Nat.le_of_ble_eq_true rfl) h
/-! ScriptLedgerModel.arguments(I)I -/
theorem jd_97_0 : decode prog_10_method_10_code 0 = .ok (.iload_n 0, 1) := by decide +kernel
theorem jd_97_1 : decode prog_10_method_10_code 1 = .ok (.bipush 6, 2) := by decide +kernel
theorem jd_97_3 : decode prog_10_method_10_code 3 = .ok (.if_icmp .ne 7, 3) := by decide +kernel
theorem jd_97_6 : decode prog_10_method_10_code 6 = .ok (.iconst 3, 1) := by decide +kernel
theorem jd_97_7 : decode prog_10_method_10_code 7 = .ok (.goto 14, 3) := by decide +kernel
theorem jd_97_10 : decode prog_10_method_10_code 10 = .ok (.iload_n 0, 1) := by decide +kernel
theorem jd_97_11 : decode prog_10_method_10_code 11 = .ok (.bipush 8, 2) := by decide +kernel
theorem jd_97_13 : decode prog_10_method_10_code 13 = .ok (.if_icmp .lt 7, 3) := by decide +kernel
theorem jd_97_16 : decode prog_10_method_10_code 16 = .ok (.iconst 1, 1) := by decide +kernel
theorem jd_97_17 : decode prog_10_method_10_code 17 = .ok (.goto 4, 3) := by decide +kernel
theorem jd_97_20 : decode prog_10_method_10_code 20 = .ok (.iconst 2, 1) := by decide +kernel
theorem jd_97_21 : decode prog_10_method_10_code 21 = .ok (.ireturn, 1) := by decide +kernel
def jt_97 (pc : Nat) : jx_Sp := bif Nat.ble pc 10 then (bif Nat.ble pc 3 then (bif Nat.ble pc 1 then (bif Nat.ble pc 0 then (bif Nat.beq pc 0 then js_il 0 1 else js_none) else (bif Nat.beq pc 1 then js_c 6 2 else js_none)) else (bif Nat.beq pc 3 then js_cne 10 else js_none)) else (bif Nat.ble pc 7 then (bif Nat.ble pc 6 then (bif Nat.beq pc 6 then js_c 3 1 else js_none) else (bif Nat.beq pc 7 then js_go 21 else js_none)) else (bif Nat.beq pc 10 then js_il 0 1 else js_none))) else (bif Nat.ble pc 16 then (bif Nat.ble pc 13 then (bif Nat.ble pc 11 then (bif Nat.beq pc 11 then js_c 8 2 else js_none) else (bif Nat.beq pc 13 then js_clt 20 else js_none)) else (bif Nat.beq pc 16 then js_c 1 1 else js_none)) else (bif Nat.ble pc 20 then (bif Nat.ble pc 17 then (bif Nat.beq pc 17 then js_go 21 else js_none) else (bif Nat.beq pc 20 then js_c 2 1 else js_none)) else (bif Nat.beq pc 21 then js_ir else js_none)))
theorem jk_97_0 : jx_Snd 97 0 (js_il 0 1) := jo_iload_n (i := 0) (w := 0) rfl jd_97_0
theorem jk_97_1 : jx_Snd 97 1 (js_c 6 2) := jo_bipush (z := 6) jd_97_1 (by decide +kernel)
theorem jk_97_3 : jx_Snd 97 3 (js_cne 10) := jo_cne (o := 7) rfl jd_97_3
theorem jk_97_6 : jx_Snd 97 6 (js_c 3 1) := jo_iconst (z := 3) jd_97_6 rfl
theorem jk_97_7 : jx_Snd 97 7 (js_go 21) := jo_goto (o := 14) rfl jd_97_7
theorem jk_97_10 : jx_Snd 97 10 (js_il 0 1) := jo_iload_n (i := 0) (w := 0) rfl jd_97_10
theorem jk_97_11 : jx_Snd 97 11 (js_c 8 2) := jo_bipush (z := 8) jd_97_11 (by decide +kernel)
theorem jk_97_13 : jx_Snd 97 13 (js_clt 20) := jo_clt (o := 7) rfl jd_97_13
theorem jk_97_16 : jx_Snd 97 16 (js_c 1 1) := jo_iconst (z := 1) jd_97_16 rfl
theorem jk_97_17 : jx_Snd 97 17 (js_go 21) := jo_goto (o := 4) rfl jd_97_17
theorem jk_97_20 : jx_Snd 97 20 (js_c 2 1) := jo_iconst (z := 2) jd_97_20 rfl
theorem jk_97_21 : jx_Snd 97 21 (js_ir) := jo_ir rfl jd_97_21
theorem jk_97 : jx_So 97 jt_97 := fun pc => jo_le (jo_le (jo_le (jo_le (jo_at (jk_97_0)) (jo_at (jk_97_1))) (jo_at (jk_97_3))) (jo_le (jo_le (jo_at (jk_97_6)) (jo_at (jk_97_7))) (jo_at (jk_97_10)))) (jo_le (jo_le (jo_le (jo_at (jk_97_11)) (jo_at (jk_97_13))) (jo_at (jk_97_16))) (jo_le (jo_le (jo_at (jk_97_17)) (jo_at (jk_97_20))) (jo_at (jk_97_21))))
theorem ji_97 {l : Launch} {D : va_G} {cA : ClassId} {ρ : Nat → Nat} {Λ : List jx_Lc} {d : Nat} {Q : Option Value → jx_St → Prop} {σ : jx_St} {a1 : Int32} (h : jt_97 0 Λ jx_tb0 (jx_rn Λ jx_tb0 jt_97 (fun k' as σ K => jx_C l D cA ρ Λ d k' as σ K) Q (jx_J l D cA ρ Λ (jx_A ρ Λ) jx_tb0 (d + 1) 97 Q) [] 400) (fun k' as σ K => jx_C l D cA ρ Λ d k' as σ K) Q 0 [(0, .int a1)] [] σ) : jx_C l D cA ρ Λ (d + 1) 97 [.int a1] σ Q := jx_in jk_97 400 [] rfl (Nat.le_of_ble_eq_true rfl) h
/-! ScriptLedgerModel.pay(I)Z -/
theorem jd_98_0 : decode prog_10_method_11_code 0 = .ok (.aload_n 0, 1) := by decide +kernel
theorem jd_98_1 : decode prog_10_method_11_code 1 = .ok (.getfield 126, 3) := by decide +kernel
theorem jd_98_4 : decode prog_10_method_11_code 4 = .ok (.iload_n 1, 1) := by decide +kernel
theorem jd_98_5 : decode prog_10_method_11_code 5 = .ok (.iadd, 1) := by decide +kernel
theorem jd_98_6 : decode prog_10_method_11_code 6 = .ok (.aload_n 0, 1) := by decide +kernel
theorem jd_98_7 : decode prog_10_method_11_code 7 = .ok (.getfield 129, 3) := by decide +kernel
theorem jd_98_10 : decode prog_10_method_11_code 10 = .ok (.if_icmp .le 18, 3) := by decide +kernel
theorem jd_98_13 : decode prog_10_method_11_code 13 = .ok (.aload_n 0, 1) := by decide +kernel
theorem jd_98_14 : decode prog_10_method_11_code 14 = .ok (.aload_n 0, 1) := by decide +kernel
theorem jd_98_15 : decode prog_10_method_11_code 15 = .ok (.getfield 129, 3) := by decide +kernel
theorem jd_98_18 : decode prog_10_method_11_code 18 = .ok (.putfield 126, 3) := by decide +kernel
theorem jd_98_21 : decode prog_10_method_11_code 21 = .ok (.aload_n 0, 1) := by decide +kernel
theorem jd_98_22 : decode prog_10_method_11_code 22 = .ok (.iconst 3, 1) := by decide +kernel
theorem jd_98_23 : decode prog_10_method_11_code 23 = .ok (.putfield 49, 3) := by decide +kernel
theorem jd_98_26 : decode prog_10_method_11_code 26 = .ok (.iconst 0, 1) := by decide +kernel
theorem jd_98_27 : decode prog_10_method_11_code 27 = .ok (.ireturn, 1) := by decide +kernel
theorem jd_98_28 : decode prog_10_method_11_code 28 = .ok (.aload_n 0, 1) := by decide +kernel
theorem jd_98_29 : decode prog_10_method_11_code 29 = .ok (.aload_n 0, 1) := by decide +kernel
theorem jd_98_30 : decode prog_10_method_11_code 30 = .ok (.getfield 126, 3) := by decide +kernel
theorem jd_98_33 : decode prog_10_method_11_code 33 = .ok (.iload_n 1, 1) := by decide +kernel
theorem jd_98_34 : decode prog_10_method_11_code 34 = .ok (.iadd, 1) := by decide +kernel
theorem jd_98_35 : decode prog_10_method_11_code 35 = .ok (.putfield 126, 3) := by decide +kernel
theorem jd_98_38 : decode prog_10_method_11_code 38 = .ok (.iconst 1, 1) := by decide +kernel
theorem jd_98_39 : decode prog_10_method_11_code 39 = .ok (.ireturn, 1) := by decide +kernel
def jt_98 (pc : Nat) : jx_Sp := bif Nat.ble pc 21 then (bif Nat.ble pc 7 then (bif Nat.ble pc 4 then (bif Nat.ble pc 1 then (bif Nat.ble pc 0 then (bif Nat.beq pc 0 then js_al 0 1 else js_none) else (bif Nat.beq pc 1 then js_getf 8 21 else js_none)) else (bif Nat.beq pc 4 then js_il 1 1 else js_none)) else (bif Nat.ble pc 6 then (bif Nat.ble pc 5 then (bif Nat.beq pc 5 then js_iadd else js_none) else (bif Nat.beq pc 6 then js_al 0 1 else js_none)) else (bif Nat.beq pc 7 then js_getf 8 22 else js_none))) else (bif Nat.ble pc 14 then (bif Nat.ble pc 13 then (bif Nat.ble pc 10 then (bif Nat.beq pc 10 then js_cle 28 else js_none) else (bif Nat.beq pc 13 then js_al 0 1 else js_none)) else (bif Nat.beq pc 14 then js_al 0 1 else js_none)) else (bif Nat.ble pc 18 then (bif Nat.ble pc 15 then (bif Nat.beq pc 15 then js_getf 8 22 else js_none) else (bif Nat.beq pc 18 then js_putf 8 21 false else js_none)) else (bif Nat.beq pc 21 then js_al 0 1 else js_none)))) else (bif Nat.ble pc 29 then (bif Nat.ble pc 26 then (bif Nat.ble pc 23 then (bif Nat.ble pc 22 then (bif Nat.beq pc 22 then js_c 3 1 else js_none) else (bif Nat.beq pc 23 then js_putf 8 23 false else js_none)) else (bif Nat.beq pc 26 then js_c 0 1 else js_none)) else (bif Nat.ble pc 28 then (bif Nat.ble pc 27 then (bif Nat.beq pc 27 then js_zr else js_none) else (bif Nat.beq pc 28 then js_al 0 1 else js_none)) else (bif Nat.beq pc 29 then js_al 0 1 else js_none))) else (bif Nat.ble pc 34 then (bif Nat.ble pc 33 then (bif Nat.ble pc 30 then (bif Nat.beq pc 30 then js_getf 8 21 else js_none) else (bif Nat.beq pc 33 then js_il 1 1 else js_none)) else (bif Nat.beq pc 34 then js_iadd else js_none)) else (bif Nat.ble pc 38 then (bif Nat.ble pc 35 then (bif Nat.beq pc 35 then js_putf 8 21 false else js_none) else (bif Nat.beq pc 38 then js_c 1 1 else js_none)) else (bif Nat.beq pc 39 then js_zr else js_none))))
theorem jk_98_0 : jx_Snd 98 0 (js_al 0 1) := jo_aload_n (i := 0) (w := 0) rfl jd_98_0
theorem jk_98_1 : jx_Snd 98 1 (js_getf 8 21) := jo_getf rfl jf_8_126 jd_98_1
theorem jk_98_4 : jx_Snd 98 4 (js_il 1 1) := jo_iload_n (i := 1) (w := 1) rfl jd_98_4
theorem jk_98_5 : jx_Snd 98 5 (js_iadd) := jo_iadd jd_98_5
theorem jk_98_6 : jx_Snd 98 6 (js_al 0 1) := jo_aload_n (i := 0) (w := 0) rfl jd_98_6
theorem jk_98_7 : jx_Snd 98 7 (js_getf 8 22) := jo_getf rfl jf_8_129 jd_98_7
theorem jk_98_10 : jx_Snd 98 10 (js_cle 28) := jo_cle (o := 18) rfl jd_98_10
theorem jk_98_13 : jx_Snd 98 13 (js_al 0 1) := jo_aload_n (i := 0) (w := 0) rfl jd_98_13
theorem jk_98_14 : jx_Snd 98 14 (js_al 0 1) := jo_aload_n (i := 0) (w := 0) rfl jd_98_14
theorem jk_98_15 : jx_Snd 98 15 (js_getf 8 22) := jo_getf rfl jf_8_129 jd_98_15
theorem jk_98_18 : jx_Snd 98 18 (js_putf 8 21 false) := jo_putf (z := false) rfl jf_8_126 (fun C T N h => by cases h; rfl) jd_98_18
theorem jk_98_21 : jx_Snd 98 21 (js_al 0 1) := jo_aload_n (i := 0) (w := 0) rfl jd_98_21
theorem jk_98_22 : jx_Snd 98 22 (js_c 3 1) := jo_iconst (z := 3) jd_98_22 rfl
theorem jk_98_23 : jx_Snd 98 23 (js_putf 8 23 false) := jo_putf (z := false) rfl jf_8_49 (fun C T N h => by cases h; rfl) jd_98_23
theorem jk_98_26 : jx_Snd 98 26 (js_c 0 1) := jo_iconst (z := 0) jd_98_26 rfl
theorem jk_98_27 : jx_Snd 98 27 (js_zr) := jo_zr rfl jd_98_27
theorem jk_98_28 : jx_Snd 98 28 (js_al 0 1) := jo_aload_n (i := 0) (w := 0) rfl jd_98_28
theorem jk_98_29 : jx_Snd 98 29 (js_al 0 1) := jo_aload_n (i := 0) (w := 0) rfl jd_98_29
theorem jk_98_30 : jx_Snd 98 30 (js_getf 8 21) := jo_getf rfl jf_8_126 jd_98_30
theorem jk_98_33 : jx_Snd 98 33 (js_il 1 1) := jo_iload_n (i := 1) (w := 1) rfl jd_98_33
theorem jk_98_34 : jx_Snd 98 34 (js_iadd) := jo_iadd jd_98_34
theorem jk_98_35 : jx_Snd 98 35 (js_putf 8 21 false) := jo_putf (z := false) rfl jf_8_126 (fun C T N h => by cases h; rfl) jd_98_35
theorem jk_98_38 : jx_Snd 98 38 (js_c 1 1) := jo_iconst (z := 1) jd_98_38 rfl
theorem jk_98_39 : jx_Snd 98 39 (js_zr) := jo_zr rfl jd_98_39
theorem jk_98 : jx_So 98 jt_98 := fun pc => jo_le (jo_le (jo_le (jo_le (jo_le (jo_at (jk_98_0)) (jo_at (jk_98_1))) (jo_at (jk_98_4))) (jo_le (jo_le (jo_at (jk_98_5)) (jo_at (jk_98_6))) (jo_at (jk_98_7)))) (jo_le (jo_le (jo_le (jo_at (jk_98_10)) (jo_at (jk_98_13))) (jo_at (jk_98_14))) (jo_le (jo_le (jo_at (jk_98_15)) (jo_at (jk_98_18))) (jo_at (jk_98_21))))) (jo_le (jo_le (jo_le (jo_le (jo_at (jk_98_22)) (jo_at (jk_98_23))) (jo_at (jk_98_26))) (jo_le (jo_le (jo_at (jk_98_27)) (jo_at (jk_98_28))) (jo_at (jk_98_29)))) (jo_le (jo_le (jo_le (jo_at (jk_98_30)) (jo_at (jk_98_33))) (jo_at (jk_98_34))) (jo_le (jo_le (jo_at (jk_98_35)) (jo_at (jk_98_38))) (jo_at (jk_98_39)))))
theorem ji_98 {l : Launch} {D : va_G} {cA : ClassId} {ρ : Nat → Nat} {Λ : List jx_Lc} {d : Nat} {Q : Option Value → jx_St → Prop} {σ : jx_St} {z0 : Nat} {a1 : Int32} (h : jt_98 0 Λ jx_tb0 (jx_rn Λ jx_tb0 jt_98 (fun k' as σ K => jx_C l D cA ρ Λ d k' as σ K) Q (jx_J l D cA ρ Λ (jx_A ρ Λ) jx_tb0 (d + 1) 98 Q) [] 400) (fun k' as σ K => jx_C l D cA ρ Λ d k' as σ K) Q 0 [(0, .ref z0), (1, .int a1)] [] σ) : jx_C l D cA ρ Λ (d + 1) 98 [.ref z0, .int a1] σ Q := jx_in jk_98 400 [] rfl (Nat.le_of_ble_eq_true rfl) h
/-! ScriptLedgerModel.fail()Z -/
theorem jd_99_0 : decode prog_10_method_12_code 0 = .ok (.aload_n 0, 1) := by decide +kernel
theorem jd_99_1 : decode prog_10_method_12_code 1 = .ok (.iconst 2, 1) := by decide +kernel
theorem jd_99_2 : decode prog_10_method_12_code 2 = .ok (.putfield 49, 3) := by decide +kernel
theorem jd_99_5 : decode prog_10_method_12_code 5 = .ok (.iconst 0, 1) := by decide +kernel
theorem jd_99_6 : decode prog_10_method_12_code 6 = .ok (.ireturn, 1) := by decide +kernel
def jt_99 (pc : Nat) : jx_Sp := bif Nat.ble pc 2 then (bif Nat.ble pc 1 then (bif Nat.ble pc 0 then (bif Nat.beq pc 0 then js_al 0 1 else js_none) else (bif Nat.beq pc 1 then js_c 2 1 else js_none)) else (bif Nat.beq pc 2 then js_putf 8 23 false else js_none)) else (bif Nat.ble pc 5 then (bif Nat.beq pc 5 then js_c 0 1 else js_none) else (bif Nat.beq pc 6 then js_zr else js_none))
theorem jk_99_0 : jx_Snd 99 0 (js_al 0 1) := jo_aload_n (i := 0) (w := 0) rfl jd_99_0
theorem jk_99_1 : jx_Snd 99 1 (js_c 2 1) := jo_iconst (z := 2) jd_99_1 rfl
theorem jk_99_2 : jx_Snd 99 2 (js_putf 8 23 false) := jo_putf (z := false) rfl jf_8_49 (fun C T N h => by cases h; rfl) jd_99_2
theorem jk_99_5 : jx_Snd 99 5 (js_c 0 1) := jo_iconst (z := 0) jd_99_5 rfl
theorem jk_99_6 : jx_Snd 99 6 (js_zr) := jo_zr rfl jd_99_6
theorem jk_99 : jx_So 99 jt_99 := fun pc => jo_le (jo_le (jo_le (jo_at (jk_99_0)) (jo_at (jk_99_1))) (jo_at (jk_99_2))) (jo_le (jo_at (jk_99_5)) (jo_at (jk_99_6)))
theorem ji_99 {l : Launch} {D : va_G} {cA : ClassId} {ρ : Nat → Nat} {Λ : List jx_Lc} {d : Nat} {Q : Option Value → jx_St → Prop} {σ : jx_St} {z0 : Nat} (h : jt_99 0 Λ jx_tb0 (jx_rn Λ jx_tb0 jt_99 (fun k' as σ K => jx_C l D cA ρ Λ d k' as σ K) Q (jx_J l D cA ρ Λ (jx_A ρ Λ) jx_tb0 (d + 1) 99 Q) [] 400) (fun k' as σ K => jx_C l D cA ρ Λ d k' as σ K) Q 0 [(0, .ref z0)] [] σ) : jx_C l D cA ρ Λ (d + 1) 99 [.ref z0] σ Q := jx_in jk_99 400 [] rfl (Nat.le_of_ble_eq_true rfl) h
/-! ScriptLedgerModel.later(III)V -/
theorem jd_100_0 : decode prog_10_method_13_code 0 = .ok (.aload_n 0, 1) := by decide +kernel
theorem jd_100_1 : decode prog_10_method_13_code 1 = .ok (.getfield 40, 3) := by decide +kernel
theorem jd_100_4 : decode prog_10_method_13_code 4 = .ok (.aload_n 0, 1) := by decide +kernel
theorem jd_100_5 : decode prog_10_method_13_code 5 = .ok (.getfield 132, 3) := by decide +kernel
theorem jd_100_8 : decode prog_10_method_13_code 8 = .ok (.iload_n 1, 1) := by decide +kernel
theorem jd_100_9 : decode prog_10_method_13_code 9 = .ok (.iastore, 1) := by decide +kernel
theorem jd_100_10 : decode prog_10_method_13_code 10 = .ok (.aload_n 0, 1) := by decide +kernel
theorem jd_100_11 : decode prog_10_method_13_code 11 = .ok (.getfield 43, 3) := by decide +kernel
theorem jd_100_14 : decode prog_10_method_13_code 14 = .ok (.aload_n 0, 1) := by decide +kernel
theorem jd_100_15 : decode prog_10_method_13_code 15 = .ok (.getfield 132, 3) := by decide +kernel
theorem jd_100_18 : decode prog_10_method_13_code 18 = .ok (.iload_n 2, 1) := by decide +kernel
theorem jd_100_19 : decode prog_10_method_13_code 19 = .ok (.iastore, 1) := by decide +kernel
theorem jd_100_20 : decode prog_10_method_13_code 20 = .ok (.aload_n 0, 1) := by decide +kernel
theorem jd_100_21 : decode prog_10_method_13_code 21 = .ok (.getfield 46, 3) := by decide +kernel
theorem jd_100_24 : decode prog_10_method_13_code 24 = .ok (.aload_n 0, 1) := by decide +kernel
theorem jd_100_25 : decode prog_10_method_13_code 25 = .ok (.getfield 132, 3) := by decide +kernel
theorem jd_100_28 : decode prog_10_method_13_code 28 = .ok (.iload_n 3, 1) := by decide +kernel
theorem jd_100_29 : decode prog_10_method_13_code 29 = .ok (.iastore, 1) := by decide +kernel
theorem jd_100_30 : decode prog_10_method_13_code 30 = .ok (.aload_n 0, 1) := by decide +kernel
theorem jd_100_31 : decode prog_10_method_13_code 31 = .ok (.dup, 1) := by decide +kernel
theorem jd_100_32 : decode prog_10_method_13_code 32 = .ok (.getfield 132, 3) := by decide +kernel
theorem jd_100_35 : decode prog_10_method_13_code 35 = .ok (.iconst 1, 1) := by decide +kernel
theorem jd_100_36 : decode prog_10_method_13_code 36 = .ok (.iadd, 1) := by decide +kernel
theorem jd_100_37 : decode prog_10_method_13_code 37 = .ok (.putfield 132, 3) := by decide +kernel
theorem jd_100_40 : decode prog_10_method_13_code 40 = .ok (.return_, 1) := by decide +kernel
def jt_100 (pc : Nat) : jx_Sp := bif Nat.ble pc 20 then (bif Nat.ble pc 10 then (bif Nat.ble pc 5 then (bif Nat.ble pc 1 then (bif Nat.ble pc 0 then (bif Nat.beq pc 0 then js_al 0 1 else js_none) else (bif Nat.beq pc 1 then js_getf 8 15 else js_none)) else (bif Nat.ble pc 4 then (bif Nat.beq pc 4 then js_al 0 1 else js_none) else (bif Nat.beq pc 5 then js_getf 8 14 else js_none))) else (bif Nat.ble pc 9 then (bif Nat.ble pc 8 then (bif Nat.beq pc 8 then js_il 1 1 else js_none) else (bif Nat.beq pc 9 then js_ast else js_none)) else (bif Nat.beq pc 10 then js_al 0 1 else js_none))) else (bif Nat.ble pc 15 then (bif Nat.ble pc 14 then (bif Nat.ble pc 11 then (bif Nat.beq pc 11 then js_getf 8 16 else js_none) else (bif Nat.beq pc 14 then js_al 0 1 else js_none)) else (bif Nat.beq pc 15 then js_getf 8 14 else js_none)) else (bif Nat.ble pc 19 then (bif Nat.ble pc 18 then (bif Nat.beq pc 18 then js_il 2 1 else js_none) else (bif Nat.beq pc 19 then js_ast else js_none)) else (bif Nat.beq pc 20 then js_al 0 1 else js_none)))) else (bif Nat.ble pc 30 then (bif Nat.ble pc 25 then (bif Nat.ble pc 24 then (bif Nat.ble pc 21 then (bif Nat.beq pc 21 then js_getf 8 17 else js_none) else (bif Nat.beq pc 24 then js_al 0 1 else js_none)) else (bif Nat.beq pc 25 then js_getf 8 14 else js_none)) else (bif Nat.ble pc 29 then (bif Nat.ble pc 28 then (bif Nat.beq pc 28 then js_il 3 1 else js_none) else (bif Nat.beq pc 29 then js_ast else js_none)) else (bif Nat.beq pc 30 then js_al 0 1 else js_none))) else (bif Nat.ble pc 35 then (bif Nat.ble pc 32 then (bif Nat.ble pc 31 then (bif Nat.beq pc 31 then js_dup else js_none) else (bif Nat.beq pc 32 then js_getf 8 14 else js_none)) else (bif Nat.beq pc 35 then js_c 1 1 else js_none)) else (bif Nat.ble pc 37 then (bif Nat.ble pc 36 then (bif Nat.beq pc 36 then js_iadd else js_none) else (bif Nat.beq pc 37 then js_putf 8 14 false else js_none)) else (bif Nat.beq pc 40 then js_vr else js_none))))
theorem jk_100_0 : jx_Snd 100 0 (js_al 0 1) := jo_aload_n (i := 0) (w := 0) rfl jd_100_0
theorem jk_100_1 : jx_Snd 100 1 (js_getf 8 15) := jo_getf rfl jf_8_40 jd_100_1
theorem jk_100_4 : jx_Snd 100 4 (js_al 0 1) := jo_aload_n (i := 0) (w := 0) rfl jd_100_4
theorem jk_100_5 : jx_Snd 100 5 (js_getf 8 14) := jo_getf rfl jf_8_132 jd_100_5
theorem jk_100_8 : jx_Snd 100 8 (js_il 1 1) := jo_iload_n (i := 1) (w := 1) rfl jd_100_8
theorem jk_100_9 : jx_Snd 100 9 (js_ast) := jo_ast jd_100_9
theorem jk_100_10 : jx_Snd 100 10 (js_al 0 1) := jo_aload_n (i := 0) (w := 0) rfl jd_100_10
theorem jk_100_11 : jx_Snd 100 11 (js_getf 8 16) := jo_getf rfl jf_8_43 jd_100_11
theorem jk_100_14 : jx_Snd 100 14 (js_al 0 1) := jo_aload_n (i := 0) (w := 0) rfl jd_100_14
theorem jk_100_15 : jx_Snd 100 15 (js_getf 8 14) := jo_getf rfl jf_8_132 jd_100_15
theorem jk_100_18 : jx_Snd 100 18 (js_il 2 1) := jo_iload_n (i := 2) (w := 2) rfl jd_100_18
theorem jk_100_19 : jx_Snd 100 19 (js_ast) := jo_ast jd_100_19
theorem jk_100_20 : jx_Snd 100 20 (js_al 0 1) := jo_aload_n (i := 0) (w := 0) rfl jd_100_20
theorem jk_100_21 : jx_Snd 100 21 (js_getf 8 17) := jo_getf rfl jf_8_46 jd_100_21
theorem jk_100_24 : jx_Snd 100 24 (js_al 0 1) := jo_aload_n (i := 0) (w := 0) rfl jd_100_24
theorem jk_100_25 : jx_Snd 100 25 (js_getf 8 14) := jo_getf rfl jf_8_132 jd_100_25
theorem jk_100_28 : jx_Snd 100 28 (js_il 3 1) := jo_iload_n (i := 3) (w := 3) rfl jd_100_28
theorem jk_100_29 : jx_Snd 100 29 (js_ast) := jo_ast jd_100_29
theorem jk_100_30 : jx_Snd 100 30 (js_al 0 1) := jo_aload_n (i := 0) (w := 0) rfl jd_100_30
theorem jk_100_31 : jx_Snd 100 31 (js_dup) := jo_dup jd_100_31
theorem jk_100_32 : jx_Snd 100 32 (js_getf 8 14) := jo_getf rfl jf_8_132 jd_100_32
theorem jk_100_35 : jx_Snd 100 35 (js_c 1 1) := jo_iconst (z := 1) jd_100_35 rfl
theorem jk_100_36 : jx_Snd 100 36 (js_iadd) := jo_iadd jd_100_36
theorem jk_100_37 : jx_Snd 100 37 (js_putf 8 14 false) := jo_putf (z := false) rfl jf_8_132 (fun C T N h => by cases h; rfl) jd_100_37
theorem jk_100_40 : jx_Snd 100 40 (js_vr) := jo_vr rfl jd_100_40
theorem jk_100 : jx_So 100 jt_100 := fun pc => jo_le (jo_le (jo_le (jo_le (jo_le (jo_at (jk_100_0)) (jo_at (jk_100_1))) (jo_le (jo_at (jk_100_4)) (jo_at (jk_100_5)))) (jo_le (jo_le (jo_at (jk_100_8)) (jo_at (jk_100_9))) (jo_at (jk_100_10)))) (jo_le (jo_le (jo_le (jo_at (jk_100_11)) (jo_at (jk_100_14))) (jo_at (jk_100_15))) (jo_le (jo_le (jo_at (jk_100_18)) (jo_at (jk_100_19))) (jo_at (jk_100_20))))) (jo_le (jo_le (jo_le (jo_le (jo_at (jk_100_21)) (jo_at (jk_100_24))) (jo_at (jk_100_25))) (jo_le (jo_le (jo_at (jk_100_28)) (jo_at (jk_100_29))) (jo_at (jk_100_30)))) (jo_le (jo_le (jo_le (jo_at (jk_100_31)) (jo_at (jk_100_32))) (jo_at (jk_100_35))) (jo_le (jo_le (jo_at (jk_100_36)) (jo_at (jk_100_37))) (jo_at (jk_100_40)))))
theorem ji_100 {l : Launch} {D : va_G} {cA : ClassId} {ρ : Nat → Nat} {Λ : List jx_Lc} {d : Nat} {Q : Option Value → jx_St → Prop} {σ : jx_St} {z0 : Nat} {a1 : Int32} {a2 : Int32} {a3 : Int32} (h : jt_100 0 Λ jx_tb0 (jx_rn Λ jx_tb0 jt_100 (fun k' as σ K => jx_C l D cA ρ Λ d k' as σ K) Q (jx_J l D cA ρ Λ (jx_A ρ Λ) jx_tb0 (d + 1) 100 Q) [] 400) (fun k' as σ K => jx_C l D cA ρ Λ d k' as σ K) Q 0 [(0, .ref z0), (1, .int a1), (2, .int a2), (3, .int a3)] [] σ) : jx_C l D cA ρ Λ (d + 1) 100 [.ref z0, .int a1, .int a2, .int a3] σ Q := jx_in jk_100 400 [] rfl (Nat.le_of_ble_eq_true rfl) h

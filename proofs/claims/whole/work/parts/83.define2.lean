/-! define: the copying loops -/
theorem jp_58 {l : Launch} {D : va_G} {cA : ClassId} {ρ : Nat → Nat} {d : Nat} {Q : Option Value → jx_St → Prop} {σ : jx_St} {s n : Nat} {E : Int32} (hs : s + n ≤ 288) (hn : n ≤ 48) (hx : jx_J l D cA ρ jx_XM (jx_A ρ jx_XM) jx_tb0 (d + 1) 58 Q 53 [(5, .int (nI n)), (4, .int E), (3, .int (nI s)), (0, .ref 4), (1, .ref 2), (2, .int (nI n))] [] (jd_cp σ 5 2 s n)) : ∀ (c i : Nat), i + c = n → jx_J l D cA ρ jx_XM (jx_A ρ jx_XM) jx_tb0 (d + 1) 58 Q 28 [(5, .int (nI i)), (4, .int E), (3, .int (nI s)), (0, .ref 4), (1, .ref 2), (2, .int (nI n))] [] (jd_cp σ 5 2 s i)
  | 0, i, hi => by
    have e1 : i = n := by omega
    subst e1
    refine jx_go jk_58 (fun _ _ _ z => z) 40 [28, 53] ?_
    exact ⟨fun _ => hx, fun q => absurd (Int32.le_refl _) q⟩
  | c + 1, i, hi => by
    have g : ¬ nI n ≤ nI i := nI_ge (by omega) (by omega)
    have v1 : vp_in (nI i) 48 := vp_in_nI (by omega) (by decide)
    have v2 : vp_in (nI s + nI i) 288 := by rw [nI_add]; exact vp_in_nI (by omega) (by decide)
    have e1 : (nI i).toNatClampNeg = i := nI_clamp (by omega)
    have e2 : (nI s + nI i).toNatClampNeg = s + i := by rw [nI_add]; exact nI_clamp (by omega)
    have ih := jp_58 hs hn hx c (i + 1) (by omega)
    rw [← nI_1 i, ← jd_cps σ, ← e2] at ih
    have ih2 : jx_J l D cA ρ jx_XM (jx_A ρ jx_XM) jx_tb0 (d + 1) 58 Q 28 [(5, .int (nI i + 1)), (4, .int E), (3, .int (nI s)), (0, .ref 4), (1, .ref 2), (2, .int (nI n))] [] (jx_su (jd_cp σ 5 2 s i) 5 (nI s + nI i).toNatClampNeg (jd_cp σ 5 2 s i 2 (nI i).toNatClampNeg)) := by
      rw [e1, jd_cpo (by decide)]
      exact ih
    refine jx_go jk_58 (fun _ _ _ z => z) 40 [28, 53] ?_
    exact ⟨fun q => absurd q g, fun _ => ⟨v1, v2, ih2⟩⟩
theorem jp_92 {l : Launch} {D : va_G} {cA : ClassId} {ρ : Nat → Nat} {d : Nat} {Q : Option Value → jx_St → Prop} {σ : jx_St} {c n : Nat} {G : Int32} (hc : c < 6) (hn : n ≤ 48) (ec : σ 34 0 = nI c) (hx : jx_J l D cA ρ jx_XM (jx_A ρ jx_XM) jx_tb0 (d + 1) 92 Q 66 [(3, .int (nI n)), (2, .int (nI n)), (1, .int G), (0, .ref 34)] [] (jd_cp σ 35 37 (48 * c) n)) : ∀ (k i : Nat), i + k = n → jx_J l D cA ρ jx_XM (jx_A ρ jx_XM) jx_tb0 (d + 1) 92 Q 35 [(3, .int (nI i)), (2, .int (nI n)), (1, .int G), (0, .ref 34)] [] (jd_cp σ 35 37 (48 * c) i)
  | 0, i, hi => by
    have e1 : i = n := by omega
    subst e1
    refine jx_go jk_92 (fun _ _ _ z => z) 40 [35, 66] ?_
    exact ⟨fun _ => hx, fun q => absurd (Int32.le_refl _) q⟩
  | k + 1, i, hi => by
    have g : ¬ nI n ≤ nI i := nI_ge (by omega) (by omega)
    have v1 : vp_in (nI i) 48 := vp_in_nI (by omega) (by decide)
    have e1 : (nI i).toNatClampNeg = i := nI_clamp (by omega)
    have e0 : 48 * jd_cp σ 35 37 (48 * c) i 34 0 + nI i = nI (48 * c + i) := by
      rw [jd_cpo (by decide), ec, show (48 : Int32) = nI 48 from rfl, pk_mul, nI_add]
    have v2 : vp_in (48 * jd_cp σ 35 37 (48 * c) i 34 0 + nI i) 288 := by rw [e0]; exact vp_in_nI (by omega) (by decide)
    have e2 : (48 * jd_cp σ 35 37 (48 * c) i 34 0 + nI i).toNatClampNeg = 48 * c + i := by rw [e0]; exact nI_clamp (by omega)
    have ih := jp_92 hc hn ec hx k (i + 1) (by omega)
    rw [← nI_1 i, ← jd_cps σ, ← e2] at ih
    have ih2 : jx_J l D cA ρ jx_XM (jx_A ρ jx_XM) jx_tb0 (d + 1) 92 Q 35 [(3, .int (nI i + 1)), (2, .int (nI n)), (1, .int G), (0, .ref 34)] [] (jx_su (jd_cp σ 35 37 (48 * c) i) 35 (48 * jd_cp σ 35 37 (48 * c) i 34 0 + nI i).toNatClampNeg (jd_cp σ 35 37 (48 * c) i 37 (nI i).toNatClampNeg)) := by
      rw [e1, jd_cpo (p := 37) (by decide)]
      exact ih
    refine jx_go jk_92 (fun _ _ _ z => z) 40 [35, 66] ?_
    exact ⟨fun q => absurd q g, fun _ => ⟨v1, v2, ih2⟩⟩

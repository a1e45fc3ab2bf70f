/-- the model's pot: the sum of the income up to the height -/
theorem jp_135 {l : Launch} {D : va_G} {cA : ClassId} {ρ : Nat → Nat} {d : Nat} {Q : Option Value → jx_St → Prop} {σ : jx_St} {h : Nat} (hh : h ≤ 40) (eh : σ 34 31 = nI h) (hQ : Q (some (.int (iv_sum (σ 53) (h + 1)))) σ) : ∀ (c j : Nat), j + c = h + 1 → jx_J l D cA ρ jx_XM (jx_A ρ jx_XM) jx_tb0 (d + 1) 135 Q 4 [(2, .int (nI j)), (1, .int (iv_sum (σ 53) j)), (0, .ref 34)] [] σ
  | 0, j, hj => by
    have e : j = h + 1 := by omega
    subst e
    have g : σ 34 31 < nI (h + 1) := by rw [eh]; exact nI_lt (by omega) (by omega)
    refine jx_go jk_135 (fun _ _ _ z => z) 30 [4] ?_
    exact ⟨fun _ => hQ, fun q => absurd g q⟩
  | c + 1, j, hj => by
    have g : ¬ σ 34 31 < nI j := by rw [eh]; exact nI_nlt (by omega) (by omega)
    have v : vp_in (nI j) 41 := vp_in_nI (by omega) (by decide)
    have ih := jp_135 (l := l) (D := D) (cA := cA) (ρ := ρ) (d := d) hh eh hQ c (j + 1) (by omega)
    rw [← nI_1 j] at ih
    have e2 : (nI j).toNatClampNeg = j := nI_clamp (by omega)
    have ih2 : jx_J l D cA ρ jx_XM (jx_A ρ jx_XM) jx_tb0 (d + 1) 135 Q 4 [(2, .int (nI j + 1)), (1, .int (iv_sum (σ 53) j + σ 53 (nI j).toNatClampNeg)), (0, .ref 34)] [] σ := by rw [e2]; exact ih
    refine jx_go jk_135 (fun _ _ _ z => z) 30 [4] ?_
    exact ⟨fun q => absurd q g, fun _ => ⟨v, ih2⟩⟩
theorem jv_pot {l : Launch} {D : va_G} {cA : ClassId} {ρ : Nat → Nat} {d : Nat} : jq_pot l D cA ρ (d + 3) iv_V iv_V := by
  intro σ hI
  obtain ⟨iD, iS, iR, iI, iG, iM, iT, ⟨m, h, hm2, hm, hh, em1, em2, eh1, eh2, hO, hz, hp, hpa, hz0⟩⟩ := id hI
  refine ⟨σ 15 4, fun σ1 => σ1 = σ, fun Q hQ => ji_17 (hQ _ rfl), fun σ1 hT Q hQ => ?_⟩
  subst hT
  rw [hp] at hQ
  refine jx_in jk_135 30 [4] rfl (Nat.le_of_ble_eq_true rfl) ?_
  exact jp_135 hh eh2 (hQ _ hI) (h + 1) 0 (by omega)
def iv_tot (σ : jx_St) (t : Nat) : Nat → Int32
  | 0 => 0
  | k + 1 => if σ 52 k < 0 then iv_tot σ t k + σ 48 (3 * k + t) else iv_tot σ t k
theorem iv_tot_p {σ : jx_St} {t k : Nat} (h : σ 52 k < 0) : iv_tot σ t (k + 1) = iv_tot σ t k + σ 48 (3 * k + t) := by rw [iv_tot, if_pos h]
theorem iv_tot_n {σ : jx_St} {t k : Nat} (h : ¬ σ 52 k < 0) : iv_tot σ t (k + 1) = iv_tot σ t k := by rw [iv_tot, if_neg h]
theorem jp_134 {l : Launch} {D : va_G} {cA : ClassId} {ρ : Nat → Nat} {d : Nat} {Q : Option Value → jx_St → Prop} {σ : jx_St} {m t : Nat} (hm : m ≤ 48) (ht : t < 3) (em : σ 34 25 = nI m) (hQ : Q (some (.int (iv_tot σ t m))) σ) : ∀ (c k : Nat), k + c = m → jx_J l D cA ρ jx_XM (jx_A ρ jx_XM) jx_tb0 (d + 1) 134 Q 14 [(3, .int (nI k)), (2, .int (iv_tot σ t k)), (0, .ref 34), (1, .int (nI t))] [] σ
  | 0, k, hk => by
    have e : k = m := by omega
    subst e
    have g : σ 34 25 ≤ nI k := by rw [em]; exact Int32.le_refl _
    refine jx_go jk_134 (fun _ _ _ z => z) 40 [14] ?_
    exact ⟨fun _ => hQ, fun q => absurd g q⟩
  | c + 1, k, hk => by
    have g : ¬ σ 34 25 ≤ nI k := by rw [em]; exact nI_ge (by omega) (by omega)
    have v : vp_in (nI k) 48 := vp_in_nI (by omega) (by decide)
    have v2 : vp_in (3 * nI k + nI t) 144 := by rw [jl_m3 t (by omega) ht]; exact vp_in_nI (by omega) (by decide)
    have ih := jp_134 (l := l) (D := D) (cA := cA) (ρ := ρ) (d := d) hm ht em hQ c (k + 1) (by omega)
    rw [← nI_1 k] at ih
    have e2 : (nI k).toNatClampNeg = k := nI_clamp (by omega)
    have e3 : (3 * nI k + nI t).toNatClampNeg = 3 * k + t := by rw [jl_m3 t (by omega) ht]; exact nI_clamp (by omega)
    by_cases hs : σ 52 k < 0
    · rw [iv_tot_p hs, ← e3] at ih
      have hs2 : ¬ 0 ≤ σ 52 (nI k).toNatClampNeg := by rw [e2]; exact Int32.not_le.mpr hs
      refine jx_go jk_134 (fun _ _ _ z => z) 40 [14] ?_
      exact ⟨fun q => absurd q g, fun _ => ⟨v, fun q => absurd q hs2, fun _ => ⟨v2, ih⟩⟩⟩
    · rw [iv_tot_n hs] at ih
      have hs2 : 0 ≤ σ 52 (nI k).toNatClampNeg := by rw [e2]; exact Int32.not_lt.mp hs
      refine jx_go jk_134 (fun _ _ _ z => z) 40 [14] ?_
      exact ⟨fun q => absurd q g, fun _ => ⟨v, fun _ => ih, fun q => absurd hs2 q⟩⟩
theorem jp_73 {l : Launch} {D : va_G} {cA : ClassId} {ρ : Nat → Nat} {d : Nat} {Q : Option Value → jx_St → Prop} {σ : jx_St} {m t h : Nat} (hm : m ≤ 48) (ht : t < 3) (hh : h ≤ 40) (em : σ 16 3 = nI m) (hO : ∀ o, o < m → iv_O σ o h) (hQ : Q (some (.int (iv_tot σ t m))) σ) : ∀ (c k : Nat), k + c = m → jx_J l D cA ρ jx_XM (jx_A ρ jx_XM) jx_tb0 (d + 3) 73 Q 4 [(3, .int (nI k)), (2, .int (iv_tot σ t k)), (0, .ref 15), (1, .int (nI t))] [] σ
  | 0, k, hk => by
    have e : k = m := by omega
    subst e
    have g : σ 16 3 ≤ nI k := by rw [em]; exact Int32.le_refl _
    refine jx_go jk_73 (fun _ _ _ z => z) 40 [4] ?_
    exact ⟨fun _ => hQ, fun q => absurd g q⟩
  | c + 1, k, hk => by
    have g : ¬ σ 16 3 ≤ nI k := by rw [em]; exact nI_ge (by omega) (by omega)
    have g0 : ¬ nI k < 0 := nI_pos (by omega)
    have v : vp_in (nI k) 48 := vp_in_nI (by omega) (by decide)
    have v2 : vp_in (nI k * 3 + nI t) 144 := by rw [jl_x3 t (by omega) ht]; exact vp_in_nI (by omega) (by decide)
    have ih := jp_73 (l := l) (D := D) (cA := cA) (ρ := ρ) (d := d) hm ht hh em hO hQ c (k + 1) (by omega)
    rw [← nI_1 k] at ih
    have e2 : (nI k).toNatClampNeg = k := nI_clamp (by omega)
    have e3 : (nI k * 3 + nI t).toNatClampNeg = 3 * k + t := by rw [jl_x3 t (by omega) ht]; exact nI_clamp (by omega)
    obtain ⟨o1, o2, o3, o4, o5, o6, o7⟩ := hO k (by omega)
    rcases o5 with s1 | ⟨z, hz1, s1⟩
    · have hs : σ 52 k < 0 := by rw [s1]; decide
      rw [iv_tot_p hs, ← (o6 t ht).1, ← e3] at ih
      have xs : σ 20 (nI k).toNatClampNeg = -1 := by rw [e2, o3]; exact s1
      refine jx_go jk_73 (fun _ _ _ z => z) 40 [4] ?_
      refine ⟨fun q => absurd q g, fun _ => ?_⟩
      refine ji_69 (ji_68 ?_)
      refine ⟨fun q => absurd q g0, fun _ => ⟨fun q => absurd q g, fun _ => ⟨Or.inr rfl, ?_⟩⟩⟩
      refine ⟨fun q => absurd q (by decide), fun _ => ⟨v, fun q => absurd xs q, fun _ => ⟨Or.inr rfl, ?_⟩⟩⟩
      refine ⟨fun q => absurd q (by decide), fun _ => ji_79 ⟨v2, ih⟩⟩
    · have hs : ¬ σ 52 k < 0 := by rw [s1]; exact nI_pos (by omega)
      rw [iv_tot_n hs] at ih
      have xs : ¬ σ 20 (nI k).toNatClampNeg = -1 := by
        rw [e2, o3, s1]
        intro q9
        have := congrArg Int32.toInt q9
        rw [nI_toInt (by omega)] at this
        exact absurd this (by show ¬ (z : Int) = -1; omega)
      refine jx_go jk_73 (fun _ _ _ z => z) 40 [4] ?_
      refine ⟨fun q => absurd q g, fun _ => ?_⟩
      refine ji_69 (ji_68 ?_)
      refine ⟨fun q => absurd q g0, fun _ => ⟨fun q => absurd q g, fun _ => ⟨Or.inr rfl, ?_⟩⟩⟩
      refine ⟨fun q => absurd q (by decide), fun _ => ⟨v, fun _ => ⟨Or.inl rfl, ?_⟩, fun q => absurd q xs⟩⟩
      exact ⟨fun _ => ih, fun q => absurd rfl q⟩
theorem jl_c3 (a : Int32) : a < 0 ∨ (∃ j : Nat, j < 3 ∧ a = nI j) ∨ (¬ a < 0 ∧ ¬ a < 3) := by
  by_cases h : a < 0
  · exact Or.inl h
  · by_cases h3 : a < 3
    · obtain ⟨j, hj, rfl⟩ := nI_of h
      exact Or.inr (Or.inl ⟨j, (nI_ltI hj (by decide)).mp h3, rfl⟩)
    · exact Or.inr (Or.inr ⟨h, h3⟩)
theorem jv_total {l : Launch} {D : va_G} {cA : ClassId} {ρ : Nat → Nat} {d : Nat} : jq_total l D cA ρ (d + 4) iv_V iv_V := by
  intro σ hI a1
  obtain ⟨iD, iS, iR, iI, iG, iM, iT, ⟨m, h, hm2, hm, hh, em1, em2, eh1, eh2, hO, hz, hp, hpa, hz0⟩⟩ := id hI
  rcases jl_c3 a1 with l1 | ⟨t, ht, rfl⟩ | ⟨l1, l2⟩
  · refine ⟨-1, fun σ1 => σ1 = σ, fun Q hQ => ji_16 ⟨fun _ => hQ _ rfl, fun q => absurd l1 q⟩, fun σ1 hT Q hQ => ?_⟩
    subst hT
    exact ji_134 (ji_89 ⟨fun _ => ⟨Or.inr rfl, fun q => absurd q (by decide), fun _ => hQ _ hI⟩, fun q => absurd l1 q⟩)
  · have l1 : ¬ nI t < 0 := nI_pos (by omega)
    have l2 : nI t < 3 := nI_lt (b := 3) ht (by decide)
    refine ⟨iv_tot σ t m, fun σ1 => σ1 = σ, fun Q hQ => ji_16 ⟨fun q => absurd q l1, fun _ => ⟨fun _ => ?_, fun q => absurd l2 q⟩⟩, fun σ1 hT Q hQ => ?_⟩
    · refine jx_in jk_73 40 [4] rfl (Nat.le_of_ble_eq_true rfl) ?_
      refine jp_73 (t := t) hm ht hh em1 hO ?_ m 0 (by omega)
      exact hQ _ rfl
    · subst hT
      refine jx_in jk_134 40 [14] rfl (Nat.le_of_ble_eq_true rfl) ?_
      refine ji_89 ⟨fun q => absurd q l1, fun _ => ⟨fun _ => ⟨Or.inl rfl, fun _ => ?_, fun q => absurd rfl q⟩, fun q => absurd l2 q⟩⟩
      exact jp_134 (t := t) hm ht em2 (hQ _ hI) m 0 (by omega)
  · refine ⟨-1, fun σ1 => σ1 = σ, fun Q hQ => ji_16 ⟨fun q => absurd q l1, fun _ => ⟨fun q => absurd q l2, fun _ => hQ _ rfl⟩⟩, fun σ1 hT Q hQ => ?_⟩
    subst hT
    exact ji_134 (ji_89 ⟨fun q => absurd q l1, fun _ => ⟨fun q => absurd q l2, fun _ => ⟨Or.inr rfl, fun q => absurd q (by decide), fun _ => hQ _ hI⟩⟩⟩)

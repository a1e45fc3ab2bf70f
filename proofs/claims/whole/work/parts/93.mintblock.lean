theorem jl_c12 (a : Int32) : (a ≤ 0 ∧ a < 1) ∨ a = 1 ∨ a = 2 ∨ (3 ≤ a ∧ 2 < a ∧ ¬ a ≤ 0 ∧ ¬ a < 1) := by
  by_cases h : a < 1
  · refine Or.inl ⟨?_, h⟩
    rw [Int32.lt_iff_toInt_lt, show (1 : Int32).toInt = 1 from rfl] at h
    rw [Int32.le_iff_toInt_le, show (0 : Int32).toInt = 0 from rfl]
    omega
  · have h0 : ¬ a < 0 := fun q => h (by rw [Int32.lt_iff_toInt_lt] at q ⊢; rw [show (0 : Int32).toInt = 0 from rfl] at q; rw [show (1 : Int32).toInt = 1 from rfl]; omega)
    obtain ⟨j, hj, rfl⟩ := nI_of h0
    have hz : j ≠ 0 := fun q => by subst q; exact h (by decide)
    rcases (by omega : j = 1 ∨ j = 2 ∨ 3 ≤ j) with rfl | rfl | h3
    · exact Or.inr (Or.inl rfl)
    · exact Or.inr (Or.inr (Or.inl rfl))
    · exact Or.inr (Or.inr (Or.inr ⟨nI_le h3 hj, nI_lt (a := 2) (by omega) hj, nI_nle (by omega) hj, h⟩))
set_option maxHeartbeats 4000000 in
theorem jv_mint {l : Launch} {D : va_G} {cA : ClassId} {ρ : Nat → Nat} {d : Nat} : jq_mint l D cA ρ (d + 3) iv_V iv_V := by
  intro σ hI a1 a2 a3
  rcases jl_c12 a1 with ⟨c1, c2⟩ | rfl | rfl | ⟨c1, c2, c3, c4⟩
  · skip
    refine ⟨0, fun σ1 => σ1 = σ, fun Q hQ => ji_8 ?_, fun σ1 hT Q hQ => ?_⟩
    · skip
      repeat first
        | refine ⟨Or.inr rfl, ?_⟩
        | refine ⟨Or.inl rfl, ?_⟩
        | refine ⟨fun q => absurd q c1, fun _ => ?_⟩
        | refine ⟨fun _ => ?_, fun q => absurd c1 q⟩
        | refine ⟨fun q => absurd c1 q, fun _ => ?_⟩
        | refine ⟨fun _ => ?_, fun q => absurd q c1⟩
        | refine ⟨fun q => absurd q c2, fun _ => ?_⟩
        | refine ⟨fun _ => ?_, fun q => absurd c2 q⟩
        | refine ⟨fun q => absurd c2 q, fun _ => ?_⟩
        | refine ⟨fun _ => ?_, fun q => absurd q c2⟩
        | refine ⟨fun q => absurd q (of_decide_eq_true rfl), fun _ => ?_⟩
        | refine ⟨fun _ => ?_, fun q => absurd q (of_decide_eq_true rfl)⟩
        | refine ⟨jx_vin rfl, ?_⟩
      exact hQ _ rfl
    · subst hT
      refine ji_114 ?_
      repeat first
        | refine ⟨Or.inr rfl, ?_⟩
        | refine ⟨Or.inl rfl, ?_⟩
        | refine ⟨fun q => absurd q c2, fun _ => ?_⟩
        | refine ⟨fun _ => ?_, fun q => absurd c2 q⟩
        | refine ⟨fun q => absurd c2 q, fun _ => ?_⟩
        | refine ⟨fun _ => ?_, fun q => absurd q c2⟩
        | refine ⟨fun q => absurd q (of_decide_eq_true rfl), fun _ => ?_⟩
        | refine ⟨fun _ => ?_, fun q => absurd q (of_decide_eq_true rfl)⟩
        | refine ⟨jx_vin rfl, ?_⟩
      refine hQ _ ?_
      exact hI

  · by_cases b1 : a2 < -1000000
    · skip
      refine ⟨0, fun σ1 => σ1 = σ, fun Q hQ => ji_8 ?_, fun σ1 hT Q hQ => ?_⟩
      · skip
        repeat first
          | refine ⟨Or.inr rfl, ?_⟩
          | refine ⟨Or.inl rfl, ?_⟩
          | refine ⟨fun q => absurd q b1, fun _ => ?_⟩
          | refine ⟨fun _ => ?_, fun q => absurd b1 q⟩
          | refine ⟨fun q => absurd b1 q, fun _ => ?_⟩
          | refine ⟨fun _ => ?_, fun q => absurd q b1⟩
          | refine ⟨fun q => absurd q (of_decide_eq_true rfl), fun _ => ?_⟩
          | refine ⟨fun _ => ?_, fun q => absurd q (of_decide_eq_true rfl)⟩
          | refine ⟨jx_vin rfl, ?_⟩
        exact hQ _ rfl
      · subst hT
        refine ji_114 ?_
        repeat first
          | refine ⟨Or.inr rfl, ?_⟩
          | refine ⟨Or.inl rfl, ?_⟩
          | refine ⟨fun q => absurd q b1, fun _ => ?_⟩
          | refine ⟨fun _ => ?_, fun q => absurd b1 q⟩
          | refine ⟨fun q => absurd b1 q, fun _ => ?_⟩
          | refine ⟨fun _ => ?_, fun q => absurd q b1⟩
          | refine ⟨fun q => absurd q (of_decide_eq_true rfl), fun _ => ?_⟩
          | refine ⟨fun _ => ?_, fun q => absurd q (of_decide_eq_true rfl)⟩
          | refine ⟨jx_vin rfl, ?_⟩
        refine hQ _ ?_
        exact hI

    by_cases b2 : a2 ≤ 1000000
    · skip
      refine ⟨1, fun σ1 => σ1 = jx_su (jx_su σ 30 1 a2) 31 1 a3, fun Q hQ => ji_8 ?_, fun σ1 hT Q hQ => ?_⟩
      · skip
        repeat first
          | refine ⟨Or.inr rfl, ?_⟩
          | refine ⟨Or.inl rfl, ?_⟩
          | refine ⟨fun q => absurd q b1, fun _ => ?_⟩
          | refine ⟨fun _ => ?_, fun q => absurd b1 q⟩
          | refine ⟨fun q => absurd b1 q, fun _ => ?_⟩
          | refine ⟨fun _ => ?_, fun q => absurd q b1⟩
          | refine ⟨fun q => absurd q b2, fun _ => ?_⟩
          | refine ⟨fun _ => ?_, fun q => absurd b2 q⟩
          | refine ⟨fun q => absurd b2 q, fun _ => ?_⟩
          | refine ⟨fun _ => ?_, fun q => absurd q b2⟩
          | refine ⟨fun q => absurd q (of_decide_eq_true rfl), fun _ => ?_⟩
          | refine ⟨fun _ => ?_, fun q => absurd q (of_decide_eq_true rfl)⟩
          | refine ⟨jx_vin rfl, ?_⟩
        exact hQ _ rfl
      · subst hT
        refine ji_114 ?_
        repeat first
          | refine ⟨Or.inr rfl, ?_⟩
          | refine ⟨Or.inl rfl, ?_⟩
          | refine ⟨fun q => absurd q b1, fun _ => ?_⟩
          | refine ⟨fun _ => ?_, fun q => absurd b1 q⟩
          | refine ⟨fun q => absurd b1 q, fun _ => ?_⟩
          | refine ⟨fun _ => ?_, fun q => absurd q b1⟩
          | refine ⟨fun q => absurd q b2, fun _ => ?_⟩
          | refine ⟨fun _ => ?_, fun q => absurd b2 q⟩
          | refine ⟨fun q => absurd b2 q, fun _ => ?_⟩
          | refine ⟨fun _ => ?_, fun q => absurd q b2⟩
          | refine ⟨fun q => absurd q (of_decide_eq_true rfl), fun _ => ?_⟩
          | refine ⟨fun _ => ?_, fun q => absurd q (of_decide_eq_true rfl)⟩
          | refine ⟨jx_vin rfl, ?_⟩
        refine hQ _ ?_
        obtain ⟨iD, iS, iR, iI, iG, ⟨z0, iM⟩, iT, iL⟩ := hI
        refine ⟨iD, iS, iR, iI, iG, ⟨z0, fun t ht => ?_⟩, iT, iL⟩
        match t, ht with
        | 0, _ => exact iM 0 (by decide)
        | 1, _ => exact ⟨rfl, rfl, Int32.not_lt.mp b1, b2⟩
        | 2, _ => exact iM 2 (by decide)

    · skip
      refine ⟨0, fun σ1 => σ1 = σ, fun Q hQ => ji_8 ?_, fun σ1 hT Q hQ => ?_⟩
      · skip
        repeat first
          | refine ⟨Or.inr rfl, ?_⟩
          | refine ⟨Or.inl rfl, ?_⟩
          | refine ⟨fun q => absurd q b1, fun _ => ?_⟩
          | refine ⟨fun _ => ?_, fun q => absurd b1 q⟩
          | refine ⟨fun q => absurd b1 q, fun _ => ?_⟩
          | refine ⟨fun _ => ?_, fun q => absurd q b1⟩
          | refine ⟨fun q => absurd q b2, fun _ => ?_⟩
          | refine ⟨fun _ => ?_, fun q => absurd b2 q⟩
          | refine ⟨fun q => absurd b2 q, fun _ => ?_⟩
          | refine ⟨fun _ => ?_, fun q => absurd q b2⟩
          | refine ⟨fun q => absurd q (of_decide_eq_true rfl), fun _ => ?_⟩
          | refine ⟨fun _ => ?_, fun q => absurd q (of_decide_eq_true rfl)⟩
          | refine ⟨jx_vin rfl, ?_⟩
        exact hQ _ rfl
      · subst hT
        refine ji_114 ?_
        repeat first
          | refine ⟨Or.inr rfl, ?_⟩
          | refine ⟨Or.inl rfl, ?_⟩
          | refine ⟨fun q => absurd q b1, fun _ => ?_⟩
          | refine ⟨fun _ => ?_, fun q => absurd b1 q⟩
          | refine ⟨fun q => absurd b1 q, fun _ => ?_⟩
          | refine ⟨fun _ => ?_, fun q => absurd q b1⟩
          | refine ⟨fun q => absurd q b2, fun _ => ?_⟩
          | refine ⟨fun _ => ?_, fun q => absurd b2 q⟩
          | refine ⟨fun q => absurd b2 q, fun _ => ?_⟩
          | refine ⟨fun _ => ?_, fun q => absurd q b2⟩
          | refine ⟨fun q => absurd q (of_decide_eq_true rfl), fun _ => ?_⟩
          | refine ⟨fun _ => ?_, fun q => absurd q (of_decide_eq_true rfl)⟩
          | refine ⟨jx_vin rfl, ?_⟩
        refine hQ _ ?_
        exact hI

  · by_cases b1 : a2 < -1000000
    · skip
      refine ⟨0, fun σ1 => σ1 = σ, fun Q hQ => ji_8 ?_, fun σ1 hT Q hQ => ?_⟩
      · skip
        repeat first
          | refine ⟨Or.inr rfl, ?_⟩
          | refine ⟨Or.inl rfl, ?_⟩
          | refine ⟨fun q => absurd q b1, fun _ => ?_⟩
          | refine ⟨fun _ => ?_, fun q => absurd b1 q⟩
          | refine ⟨fun q => absurd b1 q, fun _ => ?_⟩
          | refine ⟨fun _ => ?_, fun q => absurd q b1⟩
          | refine ⟨fun q => absurd q (of_decide_eq_true rfl), fun _ => ?_⟩
          | refine ⟨fun _ => ?_, fun q => absurd q (of_decide_eq_true rfl)⟩
          | refine ⟨jx_vin rfl, ?_⟩
        exact hQ _ rfl
      · subst hT
        refine ji_114 ?_
        repeat first
          | refine ⟨Or.inr rfl, ?_⟩
          | refine ⟨Or.inl rfl, ?_⟩
          | refine ⟨fun q => absurd q b1, fun _ => ?_⟩
          | refine ⟨fun _ => ?_, fun q => absurd b1 q⟩
          | refine ⟨fun q => absurd b1 q, fun _ => ?_⟩
          | refine ⟨fun _ => ?_, fun q => absurd q b1⟩
          | refine ⟨fun q => absurd q (of_decide_eq_true rfl), fun _ => ?_⟩
          | refine ⟨fun _ => ?_, fun q => absurd q (of_decide_eq_true rfl)⟩
          | refine ⟨jx_vin rfl, ?_⟩
        refine hQ _ ?_
        exact hI

    by_cases b2 : a2 ≤ 1000000
    · skip
      refine ⟨1, fun σ1 => σ1 = jx_su (jx_su σ 30 2 a2) 31 2 a3, fun Q hQ => ji_8 ?_, fun σ1 hT Q hQ => ?_⟩
      · skip
        repeat first
          | refine ⟨Or.inr rfl, ?_⟩
          | refine ⟨Or.inl rfl, ?_⟩
          | refine ⟨fun q => absurd q b1, fun _ => ?_⟩
          | refine ⟨fun _ => ?_, fun q => absurd b1 q⟩
          | refine ⟨fun q => absurd b1 q, fun _ => ?_⟩
          | refine ⟨fun _ => ?_, fun q => absurd q b1⟩
          | refine ⟨fun q => absurd q b2, fun _ => ?_⟩
          | refine ⟨fun _ => ?_, fun q => absurd b2 q⟩
          | refine ⟨fun q => absurd b2 q, fun _ => ?_⟩
          | refine ⟨fun _ => ?_, fun q => absurd q b2⟩
          | refine ⟨fun q => absurd q (of_decide_eq_true rfl), fun _ => ?_⟩
          | refine ⟨fun _ => ?_, fun q => absurd q (of_decide_eq_true rfl)⟩
          | refine ⟨jx_vin rfl, ?_⟩
        exact hQ _ rfl
      · subst hT
        refine ji_114 ?_
        repeat first
          | refine ⟨Or.inr rfl, ?_⟩
          | refine ⟨Or.inl rfl, ?_⟩
          | refine ⟨fun q => absurd q b1, fun _ => ?_⟩
          | refine ⟨fun _ => ?_, fun q => absurd b1 q⟩
          | refine ⟨fun q => absurd b1 q, fun _ => ?_⟩
          | refine ⟨fun _ => ?_, fun q => absurd q b1⟩
          | refine ⟨fun q => absurd q b2, fun _ => ?_⟩
          | refine ⟨fun _ => ?_, fun q => absurd b2 q⟩
          | refine ⟨fun q => absurd b2 q, fun _ => ?_⟩
          | refine ⟨fun _ => ?_, fun q => absurd q b2⟩
          | refine ⟨fun q => absurd q (of_decide_eq_true rfl), fun _ => ?_⟩
          | refine ⟨fun _ => ?_, fun q => absurd q (of_decide_eq_true rfl)⟩
          | refine ⟨jx_vin rfl, ?_⟩
        refine hQ _ ?_
        obtain ⟨iD, iS, iR, iI, iG, ⟨z0, iM⟩, iT, iL⟩ := hI
        refine ⟨iD, iS, iR, iI, iG, ⟨z0, fun t ht => ?_⟩, iT, iL⟩
        match t, ht with
        | 0, _ => exact iM 0 (by decide)
        | 1, _ => exact iM 1 (by decide)
        | 2, _ => exact ⟨rfl, rfl, Int32.not_lt.mp b1, b2⟩

    · skip
      refine ⟨0, fun σ1 => σ1 = σ, fun Q hQ => ji_8 ?_, fun σ1 hT Q hQ => ?_⟩
      · skip
        repeat first
          | refine ⟨Or.inr rfl, ?_⟩
          | refine ⟨Or.inl rfl, ?_⟩
          | refine ⟨fun q => absurd q b1, fun _ => ?_⟩
          | refine ⟨fun _ => ?_, fun q => absurd b1 q⟩
          | refine ⟨fun q => absurd b1 q, fun _ => ?_⟩
          | refine ⟨fun _ => ?_, fun q => absurd q b1⟩
          | refine ⟨fun q => absurd q b2, fun _ => ?_⟩
          | refine ⟨fun _ => ?_, fun q => absurd b2 q⟩
          | refine ⟨fun q => absurd b2 q, fun _ => ?_⟩
          | refine ⟨fun _ => ?_, fun q => absurd q b2⟩
          | refine ⟨fun q => absurd q (of_decide_eq_true rfl), fun _ => ?_⟩
          | refine ⟨fun _ => ?_, fun q => absurd q (of_decide_eq_true rfl)⟩
          | refine ⟨jx_vin rfl, ?_⟩
        exact hQ _ rfl
      · subst hT
        refine ji_114 ?_
        repeat first
          | refine ⟨Or.inr rfl, ?_⟩
          | refine ⟨Or.inl rfl, ?_⟩
          | refine ⟨fun q => absurd q b1, fun _ => ?_⟩
          | refine ⟨fun _ => ?_, fun q => absurd b1 q⟩
          | refine ⟨fun q => absurd b1 q, fun _ => ?_⟩
          | refine ⟨fun _ => ?_, fun q => absurd q b1⟩
          | refine ⟨fun q => absurd q b2, fun _ => ?_⟩
          | refine ⟨fun _ => ?_, fun q => absurd b2 q⟩
          | refine ⟨fun q => absurd b2 q, fun _ => ?_⟩
          | refine ⟨fun _ => ?_, fun q => absurd q b2⟩
          | refine ⟨fun q => absurd q (of_decide_eq_true rfl), fun _ => ?_⟩
          | refine ⟨fun _ => ?_, fun q => absurd q (of_decide_eq_true rfl)⟩
          | refine ⟨jx_vin rfl, ?_⟩
        refine hQ _ ?_
        exact hI

  · skip
    refine ⟨0, fun σ1 => σ1 = σ, fun Q hQ => ji_8 ?_, fun σ1 hT Q hQ => ?_⟩
    · skip
      repeat first
        | refine ⟨Or.inr rfl, ?_⟩
        | refine ⟨Or.inl rfl, ?_⟩
        | refine ⟨fun q => absurd q c3, fun _ => ?_⟩
        | refine ⟨fun _ => ?_, fun q => absurd c3 q⟩
        | refine ⟨fun q => absurd c3 q, fun _ => ?_⟩
        | refine ⟨fun _ => ?_, fun q => absurd q c3⟩
        | refine ⟨fun q => absurd q c1, fun _ => ?_⟩
        | refine ⟨fun _ => ?_, fun q => absurd c1 q⟩
        | refine ⟨fun q => absurd c1 q, fun _ => ?_⟩
        | refine ⟨fun _ => ?_, fun q => absurd q c1⟩
        | refine ⟨fun q => absurd q (of_decide_eq_true rfl), fun _ => ?_⟩
        | refine ⟨fun _ => ?_, fun q => absurd q (of_decide_eq_true rfl)⟩
        | refine ⟨jx_vin rfl, ?_⟩
      exact hQ _ rfl
    · subst hT
      refine ji_114 ?_
      repeat first
        | refine ⟨Or.inr rfl, ?_⟩
        | refine ⟨Or.inl rfl, ?_⟩
        | refine ⟨fun q => absurd q c4, fun _ => ?_⟩
        | refine ⟨fun _ => ?_, fun q => absurd c4 q⟩
        | refine ⟨fun q => absurd c4 q, fun _ => ?_⟩
        | refine ⟨fun _ => ?_, fun q => absurd q c4⟩
        | refine ⟨fun q => absurd q c2, fun _ => ?_⟩
        | refine ⟨fun _ => ?_, fun q => absurd c2 q⟩
        | refine ⟨fun q => absurd c2 q, fun _ => ?_⟩
        | refine ⟨fun _ => ?_, fun q => absurd q c2⟩
        | refine ⟨fun q => absurd q (of_decide_eq_true rfl), fun _ => ?_⟩
        | refine ⟨fun _ => ?_, fun q => absurd q (of_decide_eq_true rfl)⟩
        | refine ⟨jx_vin rfl, ?_⟩
      refine hQ _ ?_
      exact hI

set_option maxHeartbeats 4000000 in
theorem jv_block {l : Launch} {D : va_G} {cA : ClassId} {ρ : Nat → Nat} {d : Nat} : jq_block l D cA ρ (d + 3) iv_V iv_V := by
  intro σ hI
  obtain ⟨iD, iS, iR, iI, iG, iM, iT, ⟨m, h, hm2, hm, hh, em1, em2, eh1, eh2, hO, hz, hp, hpa, hz0⟩⟩ := id hI
  by_cases h4 : h = 40
  · subst h4
    have x1 : ¬ σ 15 5 < 40 := by rw [eh1]; decide
    have m1 : σ 34 31 = 40 := eh2

    refine ⟨(-1), fun σ1 => σ1 = σ, fun Q hQ => ji_12 ?_, fun σ1 hT Q hQ => ?_⟩
    · skip
      repeat first
        | refine ⟨Or.inr rfl, ?_⟩
        | refine ⟨Or.inl rfl, ?_⟩
        | refine ⟨fun q => absurd q x1, fun _ => ?_⟩
        | refine ⟨fun _ => ?_, fun q => absurd x1 q⟩
        | refine ⟨fun q => absurd x1 q, fun _ => ?_⟩
        | refine ⟨fun _ => ?_, fun q => absurd q x1⟩
        | refine ⟨fun q => absurd q (of_decide_eq_true rfl), fun _ => ?_⟩
        | refine ⟨fun _ => ?_, fun q => absurd q (of_decide_eq_true rfl)⟩
        | refine ⟨jx_vin rfl, ?_⟩
      exact hQ _ rfl
    · subst hT
      refine ji_130 ?_
      repeat first
        | refine ⟨Or.inr rfl, ?_⟩
        | refine ⟨Or.inl rfl, ?_⟩
        | refine ⟨fun q => absurd q m1, fun _ => ?_⟩
        | refine ⟨fun _ => ?_, fun q => absurd m1 q⟩
        | refine ⟨fun q => absurd m1 q, fun _ => ?_⟩
        | refine ⟨fun _ => ?_, fun q => absurd q m1⟩
        | refine ⟨fun q => absurd q (of_decide_eq_true rfl), fun _ => ?_⟩
        | refine ⟨fun _ => ?_, fun q => absurd q (of_decide_eq_true rfl)⟩
        | refine ⟨jx_vin rfl, ?_⟩
      refine hQ _ ?_
      exact hI

  · have x1 : σ 15 5 < 40 := by rw [eh1]; exact nI_lt (b := 40) (by omega) (by decide)
    have m1 : ¬ σ 34 31 = 40 := by rw [eh2]; exact fun q => h4 ((nI_eq (b := 40) (by omega) (by decide)).mp q)
    have e1 : σ 15 5 + 1 = nI (h + 1) := by rw [eh1, nI_1]
    have e2 : σ 34 31 + 1 = nI (h + 1) := by rw [eh2, nI_1]
    have ei : (σ 15 5 + 1).toNatClampNeg = h + 1 := by rw [e1]; exact nI_clamp (by omega)
    have vx : vp_in (σ 15 5 + 1) 41 := by rw [e1]; exact vp_in_nI (by omega) (by decide)
    refine ⟨nI (h + 1), fun σ1 => σ1 = jx_su (jx_su (jx_su σ 15 5 (σ 15 5 + 1)) 21 (σ 15 5 + 1).toNatClampNeg (σ 16 3)) 22 (σ 15 5 + 1).toNatClampNeg (σ 15 4), fun Q hQ => ji_12 ?_, fun σ1 hT Q hQ => ?_⟩
    · rw [← e1] at hQ
      repeat first
        | refine ⟨Or.inr rfl, ?_⟩
        | refine ⟨Or.inl rfl, ?_⟩
        | refine ⟨fun q => absurd q x1, fun _ => ?_⟩
        | refine ⟨fun _ => ?_, fun q => absurd x1 q⟩
        | refine ⟨fun q => absurd x1 q, fun _ => ?_⟩
        | refine ⟨fun _ => ?_, fun q => absurd q x1⟩
        | refine ⟨fun q => absurd q (of_decide_eq_true rfl), fun _ => ?_⟩
        | refine ⟨fun _ => ?_, fun q => absurd q (of_decide_eq_true rfl)⟩
        | refine ⟨jx_vin rfl, ?_⟩
        | refine ⟨vx, ?_⟩
        | refine ji_74 ?_
      exact hQ _ rfl
    · subst hT
      rw [← e2] at hQ
      refine ji_130 ?_
      repeat first
        | refine ⟨Or.inr rfl, ?_⟩
        | refine ⟨Or.inl rfl, ?_⟩
        | refine ⟨fun q => absurd q m1, fun _ => ?_⟩
        | refine ⟨fun _ => ?_, fun q => absurd m1 q⟩
        | refine ⟨fun q => absurd m1 q, fun _ => ?_⟩
        | refine ⟨fun _ => ?_, fun q => absurd q m1⟩
        | refine ⟨fun q => absurd q (of_decide_eq_true rfl), fun _ => ?_⟩
        | refine ⟨fun _ => ?_, fun q => absurd q (of_decide_eq_true rfl)⟩
        | refine ⟨jx_vin rfl, ?_⟩
      refine hQ _ ?_
      rw [ei]
      refine ⟨iD, iS, iR, iI, iG, iM, iT, ⟨m, h + 1, hm2, hm, by omega, em1, em2, e1, e2, fun o ho => ?_, fun j hj => ?_, ?_, fun j hj => ?_, fun j h1 h2 => hz0 j (by omega) h2⟩⟩
      · obtain ⟨o1, o2, o3, o4, o5, o6, o7⟩ := hO o ho
        exact ⟨o1, o2, o3, o4, o5.imp_right (fun ⟨j, h1, h2⟩ => ⟨j, by omega, h2⟩), o6, o7.imp_right (fun ⟨j, h1, h2⟩ => ⟨j, by omega, h2⟩)⟩
      · by_cases hj2 : j = h + 1
        · subst hj2
          refine ⟨m, hm2, Nat.le_refl _, ?_, fun o ho => ⟨fun _ => ?_, fun _ => ho⟩⟩
          · show upd (σ 21) (h + 1) (σ 16 3) (h + 1) = nI m
            rw [pk_us, em1]
          · show σ 51 o < nI (h + 1)
            rcases (hO o ho).2.2.2.2.2.2 with e | ⟨j, h1, e⟩
            · rw [e, Int32.lt_iff_toInt_lt, nI_toInt (by omega)]; show (-1 : Int) < _; omega
            · rw [e]; exact nI_lt (by omega) (by omega)
        · obtain ⟨z, z1, z2, z3, z4⟩ := hz j (by omega)
          refine ⟨z, z1, z2, ?_, z4⟩
          show upd (σ 21) (h + 1) (σ 16 3) j = nI z
          rw [pk_un hj2, z3]
      · show σ 15 4 = iv_sum (σ 53) (h + 1) + σ 53 (h + 1)
        rw [hz0 (h + 1) (by omega) (by omega), hp]
        exact (Int32.add_zero _).symm
      · show upd (σ 22) (h + 1) (σ 15 4) j = iv_sum (σ 53) j
        by_cases hj2 : j = h + 1
        · subst hj2
          rw [pk_us, hp]
        · rw [pk_un hj2]
          exact hpa j (by omega)

set_option maxHeartbeats 4000000 in
theorem jl_c03 (a : Int32) : (a < 0 ∧ ¬ a = 0 ∧ ¬ a = 1 ∧ ¬ a = 2 ∧ ¬ a = 3) ∨ a = 0 ∨ a = 1 ∨ a = 2 ∨ a = 3 ∨ (¬ a < 0 ∧ ¬ a < 4 ∧ ¬ a = 0 ∧ ¬ a = 1 ∧ ¬ a = 2 ∧ ¬ a = 3) := by
  by_cases h : a < 0
  · exact Or.inl ⟨h, fun q => by subst q; exact absurd h (by decide), fun q => by subst q; exact absurd h (by decide), fun q => by subst q; exact absurd h (by decide), fun q => by subst q; exact absurd h (by decide)⟩
  · by_cases h4 : a < 4
    · obtain ⟨j, hj, rfl⟩ := nI_of h
      have : j < 4 := (nI_ltI hj (by decide)).mp h4
      rcases (by omega : j = 0 ∨ j = 1 ∨ j = 2 ∨ j = 3) with rfl | rfl | rfl | rfl
      · exact Or.inr (Or.inl rfl)
      · exact Or.inr (Or.inr (Or.inl rfl))
      · exact Or.inr (Or.inr (Or.inr (Or.inl rfl)))
      · exact Or.inr (Or.inr (Or.inr (Or.inr (Or.inl rfl))))
    · exact Or.inr (Or.inr (Or.inr (Or.inr (Or.inr ⟨h, h4, fun q => by subst q; exact absurd (by decide) h4, fun q => by subst q; exact absurd (by decide) h4, fun q => by subst q; exact absurd (by decide) h4, fun q => by subst q; exact absurd (by decide) h4⟩))))
set_option maxHeartbeats 4000000 in
theorem jv_result {l : Launch} {D : va_G} {cA : ClassId} {ρ : Nat → Nat} {d : Nat} : jq_result l D cA ρ (d + 3) iv_V iv_V := by
  intro σ hI a1
  rcases hI.2.2.1 with ⟨r1, r2⟩ | ⟨r1, r2, r3, ⟨k, hk, r4⟩, r5, r6⟩
  · skip
    refine ⟨(-1), fun σ1 => σ1 = σ, fun Q hQ => ji_4 ?_, fun σ1 hT Q hQ => ?_⟩
    · skip
      repeat first
        | refine ⟨Or.inr rfl, ?_⟩
        | refine ⟨Or.inl rfl, ?_⟩
        | refine ⟨fun q => absurd q r2, fun _ => ?_⟩
        | refine ⟨fun _ => ?_, fun q => absurd r2 q⟩
        | refine ⟨fun q => absurd r2 q, fun _ => ?_⟩
        | refine ⟨fun _ => ?_, fun q => absurd q r2⟩
        | refine ⟨fun q => absurd q (of_decide_eq_true rfl), fun _ => ?_⟩
        | refine ⟨fun _ => ?_, fun q => absurd q (of_decide_eq_true rfl)⟩
        | refine ⟨jx_vin rfl, ?_⟩
      exact hQ _ rfl
    · subst hT
      refine ji_109 ?_
      repeat first
        | refine ⟨Or.inr rfl, ?_⟩
        | refine ⟨Or.inl rfl, ?_⟩
        | refine ⟨fun q => absurd q r1, fun _ => ?_⟩
        | refine ⟨fun _ => ?_, fun q => absurd r1 q⟩
        | refine ⟨fun q => absurd r1 q, fun _ => ?_⟩
        | refine ⟨fun _ => ?_, fun q => absurd q r1⟩
        | refine ⟨fun q => absurd q (of_decide_eq_true rfl), fun _ => ?_⟩
        | refine ⟨fun _ => ?_, fun q => absurd q (of_decide_eq_true rfl)⟩
        | refine ⟨jx_vin rfl, ?_⟩
      refine hQ _ ?_
      exact hI

  · have x1 : ¬ σ 3 13 = -1 := by rw [r2, r4]; exact fun q => absurd q (by rcases (by omega : k = 0 ∨ k = 1 ∨ k = 2 ∨ k = 3) with rfl | rfl | rfl | rfl <;> decide)
    have m1 : ¬ σ 34 24 = 0 := by rw [r1]; decide
    rcases jl_c03 a1 with ⟨c1, c2, c3, c4, c5⟩ | rfl | rfl | rfl | rfl | ⟨c1, c2, c3, c4, c5, c6⟩
    · skip
      refine ⟨(-1), fun σ1 => σ1 = σ, fun Q hQ => ji_4 ?_, fun σ1 hT Q hQ => ?_⟩
      · skip
        repeat first
          | refine ⟨Or.inr rfl, ?_⟩
          | refine ⟨Or.inl rfl, ?_⟩
          | refine ⟨fun q => absurd q x1, fun _ => ?_⟩
          | refine ⟨fun _ => ?_, fun q => absurd x1 q⟩
          | refine ⟨fun q => absurd x1 q, fun _ => ?_⟩
          | refine ⟨fun _ => ?_, fun q => absurd q x1⟩
          | refine ⟨fun q => absurd q c2, fun _ => ?_⟩
          | refine ⟨fun _ => ?_, fun q => absurd c2 q⟩
          | refine ⟨fun q => absurd c2 q, fun _ => ?_⟩
          | refine ⟨fun _ => ?_, fun q => absurd q c2⟩
          | refine ⟨fun q => absurd q c3, fun _ => ?_⟩
          | refine ⟨fun _ => ?_, fun q => absurd c3 q⟩
          | refine ⟨fun q => absurd c3 q, fun _ => ?_⟩
          | refine ⟨fun _ => ?_, fun q => absurd q c3⟩
          | refine ⟨fun q => absurd q c4, fun _ => ?_⟩
          | refine ⟨fun _ => ?_, fun q => absurd c4 q⟩
          | refine ⟨fun q => absurd c4 q, fun _ => ?_⟩
          | refine ⟨fun _ => ?_, fun q => absurd q c4⟩
          | refine ⟨fun q => absurd q c5, fun _ => ?_⟩
          | refine ⟨fun _ => ?_, fun q => absurd c5 q⟩
          | refine ⟨fun q => absurd c5 q, fun _ => ?_⟩
          | refine ⟨fun _ => ?_, fun q => absurd q c5⟩
          | refine ⟨fun q => absurd q (of_decide_eq_true rfl), fun _ => ?_⟩
          | refine ⟨fun _ => ?_, fun q => absurd q (of_decide_eq_true rfl)⟩
          | refine ⟨jx_vin rfl, ?_⟩
        exact hQ _ rfl
      · subst hT
        refine ji_109 ?_
        repeat first
          | refine ⟨Or.inr rfl, ?_⟩
          | refine ⟨Or.inl rfl, ?_⟩
          | refine ⟨fun q => absurd q m1, fun _ => ?_⟩
          | refine ⟨fun _ => ?_, fun q => absurd m1 q⟩
          | refine ⟨fun q => absurd m1 q, fun _ => ?_⟩
          | refine ⟨fun _ => ?_, fun q => absurd q m1⟩
          | refine ⟨fun q => absurd q c1, fun _ => ?_⟩
          | refine ⟨fun _ => ?_, fun q => absurd c1 q⟩
          | refine ⟨fun q => absurd c1 q, fun _ => ?_⟩
          | refine ⟨fun _ => ?_, fun q => absurd q c1⟩
          | refine ⟨fun q => absurd q (of_decide_eq_true rfl), fun _ => ?_⟩
          | refine ⟨fun _ => ?_, fun q => absurd q (of_decide_eq_true rfl)⟩
          | refine ⟨jx_vin rfl, ?_⟩
          | refine ji_89 ?_
        refine hQ _ ?_
        exact hI

    · skip
      refine ⟨σ 3 13, fun σ1 => σ1 = σ, fun Q hQ => ji_4 ?_, fun σ1 hT Q hQ => ?_⟩
      · skip
        repeat first
          | refine ⟨Or.inr rfl, ?_⟩
          | refine ⟨Or.inl rfl, ?_⟩
          | refine ⟨fun q => absurd q x1, fun _ => ?_⟩
          | refine ⟨fun _ => ?_, fun q => absurd x1 q⟩
          | refine ⟨fun q => absurd x1 q, fun _ => ?_⟩
          | refine ⟨fun _ => ?_, fun q => absurd q x1⟩
          | refine ⟨fun q => absurd q (of_decide_eq_true rfl), fun _ => ?_⟩
          | refine ⟨fun _ => ?_, fun q => absurd q (of_decide_eq_true rfl)⟩
          | refine ⟨jx_vin rfl, ?_⟩
        exact hQ _ rfl
      · subst hT
        rw [r2] at hQ
        refine ji_109 ?_
        repeat first
          | refine ⟨Or.inr rfl, ?_⟩
          | refine ⟨Or.inl rfl, ?_⟩
          | refine ⟨fun q => absurd q m1, fun _ => ?_⟩
          | refine ⟨fun _ => ?_, fun q => absurd m1 q⟩
          | refine ⟨fun q => absurd m1 q, fun _ => ?_⟩
          | refine ⟨fun _ => ?_, fun q => absurd q m1⟩
          | refine ⟨fun q => absurd q (of_decide_eq_true rfl), fun _ => ?_⟩
          | refine ⟨fun _ => ?_, fun q => absurd q (of_decide_eq_true rfl)⟩
          | refine ⟨jx_vin rfl, ?_⟩
          | refine ji_89 ?_
        exact hQ _ hI

    · skip
      refine ⟨σ 3 12, fun σ1 => σ1 = σ, fun Q hQ => ji_4 ?_, fun σ1 hT Q hQ => ?_⟩
      · skip
        repeat first
          | refine ⟨Or.inr rfl, ?_⟩
          | refine ⟨Or.inl rfl, ?_⟩
          | refine ⟨fun q => absurd q x1, fun _ => ?_⟩
          | refine ⟨fun _ => ?_, fun q => absurd x1 q⟩
          | refine ⟨fun q => absurd x1 q, fun _ => ?_⟩
          | refine ⟨fun _ => ?_, fun q => absurd q x1⟩
          | refine ⟨fun q => absurd q (of_decide_eq_true rfl), fun _ => ?_⟩
          | refine ⟨fun _ => ?_, fun q => absurd q (of_decide_eq_true rfl)⟩
          | refine ⟨jx_vin rfl, ?_⟩
        exact hQ _ rfl
      · subst hT
        rw [r3] at hQ
        refine ji_109 ?_
        repeat first
          | refine ⟨Or.inr rfl, ?_⟩
          | refine ⟨Or.inl rfl, ?_⟩
          | refine ⟨fun q => absurd q m1, fun _ => ?_⟩
          | refine ⟨fun _ => ?_, fun q => absurd m1 q⟩
          | refine ⟨fun q => absurd m1 q, fun _ => ?_⟩
          | refine ⟨fun _ => ?_, fun q => absurd q m1⟩
          | refine ⟨fun q => absurd q (of_decide_eq_true rfl), fun _ => ?_⟩
          | refine ⟨fun _ => ?_, fun q => absurd q (of_decide_eq_true rfl)⟩
          | refine ⟨jx_vin rfl, ?_⟩
          | refine ji_89 ?_
        exact hQ _ hI

    · by_cases b1 : σ 34 23 ≤ 1
      · obtain ⟨v, kd, hv, hkd, ev, ekd, e14, e15⟩ := r6 b1
        have vm : vp_in (σ 34 20) 260 := by rw [ev]; exact vp_in_nI hv (by decide)
        have ecl : (σ 34 20).toNatClampNeg = v := by rw [ev]; exact nI_clamp (by omega)
        have ek : σ 38 (σ 34 20).toNatClampNeg = nI kd := by rw [ecl]; exact ekd
        rw [← ecl] at e15
        rcases (by omega : kd = 0 ∨ kd = 1 ∨ kd = 2 ∨ kd = 3 ∨ kd = 4 ∨ kd = 5) with rfl | rfl | rfl | rfl | rfl | rfl
        · have k1 : σ 38 (σ 34 20).toNatClampNeg ≤ 2 := by rw [ek]; decide
          have k2 : ¬ σ 38 (σ 34 20).toNatClampNeg = 2 := by rw [ek]; decide
          have ef : σ 3 14 = σ 38 (σ 34 20).toNatClampNeg := by rw [e14, ek]; rfl
          refine ⟨σ 3 14, fun σ1 => σ1 = σ, fun Q hQ => ji_4 ?_, fun σ1 hT Q hQ => ?_⟩
          · skip
            repeat first
              | refine ⟨Or.inr rfl, ?_⟩
              | refine ⟨Or.inl rfl, ?_⟩
              | refine ⟨fun q => absurd q x1, fun _ => ?_⟩
              | refine ⟨fun _ => ?_, fun q => absurd x1 q⟩
              | refine ⟨fun q => absurd x1 q, fun _ => ?_⟩
              | refine ⟨fun _ => ?_, fun q => absurd q x1⟩
              | refine ⟨fun q => absurd q (of_decide_eq_true rfl), fun _ => ?_⟩
              | refine ⟨fun _ => ?_, fun q => absurd q (of_decide_eq_true rfl)⟩
              | refine ⟨jx_vin rfl, ?_⟩
            exact hQ _ rfl
          · subst hT
            rw [ef] at hQ
            refine ji_109 ?_
            repeat first
              | refine ⟨Or.inr rfl, ?_⟩
              | refine ⟨Or.inl rfl, ?_⟩
              | refine ⟨fun q => absurd q m1, fun _ => ?_⟩
              | refine ⟨fun _ => ?_, fun q => absurd m1 q⟩
              | refine ⟨fun q => absurd m1 q, fun _ => ?_⟩
              | refine ⟨fun _ => ?_, fun q => absurd q m1⟩
              | refine ⟨fun q => absurd q b1, fun _ => ?_⟩
              | refine ⟨fun _ => ?_, fun q => absurd b1 q⟩
              | refine ⟨fun q => absurd b1 q, fun _ => ?_⟩
              | refine ⟨fun _ => ?_, fun q => absurd q b1⟩
              | refine ⟨fun q => absurd q k1, fun _ => ?_⟩
              | refine ⟨fun _ => ?_, fun q => absurd k1 q⟩
              | refine ⟨fun q => absurd k1 q, fun _ => ?_⟩
              | refine ⟨fun _ => ?_, fun q => absurd q k1⟩
              | refine ⟨fun q => absurd q k2, fun _ => ?_⟩
              | refine ⟨fun _ => ?_, fun q => absurd k2 q⟩
              | refine ⟨fun q => absurd k2 q, fun _ => ?_⟩
              | refine ⟨fun _ => ?_, fun q => absurd q k2⟩
              | refine ⟨fun q => absurd q (of_decide_eq_true rfl), fun _ => ?_⟩
              | refine ⟨fun _ => ?_, fun q => absurd q (of_decide_eq_true rfl)⟩
              | refine ⟨jx_vin rfl, ?_⟩
              | refine ⟨vm, ?_⟩
              | refine ji_89 ?_
            exact hQ _ hI
        · have k1 : σ 38 (σ 34 20).toNatClampNeg ≤ 2 := by rw [ek]; decide
          have k2 : ¬ σ 38 (σ 34 20).toNatClampNeg = 2 := by rw [ek]; decide
          have ef : σ 3 14 = σ 38 (σ 34 20).toNatClampNeg := by rw [e14, ek]; rfl
          refine ⟨σ 3 14, fun σ1 => σ1 = σ, fun Q hQ => ji_4 ?_, fun σ1 hT Q hQ => ?_⟩
          · skip
            repeat first
              | refine ⟨Or.inr rfl, ?_⟩
              | refine ⟨Or.inl rfl, ?_⟩
              | refine ⟨fun q => absurd q x1, fun _ => ?_⟩
              | refine ⟨fun _ => ?_, fun q => absurd x1 q⟩
              | refine ⟨fun q => absurd x1 q, fun _ => ?_⟩
              | refine ⟨fun _ => ?_, fun q => absurd q x1⟩
              | refine ⟨fun q => absurd q (of_decide_eq_true rfl), fun _ => ?_⟩
              | refine ⟨fun _ => ?_, fun q => absurd q (of_decide_eq_true rfl)⟩
              | refine ⟨jx_vin rfl, ?_⟩
            exact hQ _ rfl
          · subst hT
            rw [ef] at hQ
            refine ji_109 ?_
            repeat first
              | refine ⟨Or.inr rfl, ?_⟩
              | refine ⟨Or.inl rfl, ?_⟩
              | refine ⟨fun q => absurd q m1, fun _ => ?_⟩
              | refine ⟨fun _ => ?_, fun q => absurd m1 q⟩
              | refine ⟨fun q => absurd m1 q, fun _ => ?_⟩
              | refine ⟨fun _ => ?_, fun q => absurd q m1⟩
              | refine ⟨fun q => absurd q b1, fun _ => ?_⟩
              | refine ⟨fun _ => ?_, fun q => absurd b1 q⟩
              | refine ⟨fun q => absurd b1 q, fun _ => ?_⟩
              | refine ⟨fun _ => ?_, fun q => absurd q b1⟩
              | refine ⟨fun q => absurd q k1, fun _ => ?_⟩
              | refine ⟨fun _ => ?_, fun q => absurd k1 q⟩
              | refine ⟨fun q => absurd k1 q, fun _ => ?_⟩
              | refine ⟨fun _ => ?_, fun q => absurd q k1⟩
              | refine ⟨fun q => absurd q k2, fun _ => ?_⟩
              | refine ⟨fun _ => ?_, fun q => absurd k2 q⟩
              | refine ⟨fun q => absurd k2 q, fun _ => ?_⟩
              | refine ⟨fun _ => ?_, fun q => absurd q k2⟩
              | refine ⟨fun q => absurd q (of_decide_eq_true rfl), fun _ => ?_⟩
              | refine ⟨fun _ => ?_, fun q => absurd q (of_decide_eq_true rfl)⟩
              | refine ⟨jx_vin rfl, ?_⟩
              | refine ⟨vm, ?_⟩
              | refine ji_89 ?_
            exact hQ _ hI
        · have k1 : σ 38 (σ 34 20).toNatClampNeg ≤ 2 := by rw [ek]; decide
          have k2 : σ 38 (σ 34 20).toNatClampNeg = 2 := by rw [ek]; decide
          have ef : σ 3 14 = σ 38 (σ 34 20).toNatClampNeg := by rw [e14, ek]; rfl
          refine ⟨σ 3 14, fun σ1 => σ1 = σ, fun Q hQ => ji_4 ?_, fun σ1 hT Q hQ => ?_⟩
          · skip
            repeat first
              | refine ⟨Or.inr rfl, ?_⟩
              | refine ⟨Or.inl rfl, ?_⟩
              | refine ⟨fun q => absurd q x1, fun _ => ?_⟩
              | refine ⟨fun _ => ?_, fun q => absurd x1 q⟩
              | refine ⟨fun q => absurd x1 q, fun _ => ?_⟩
              | refine ⟨fun _ => ?_, fun q => absurd q x1⟩
              | refine ⟨fun q => absurd q (of_decide_eq_true rfl), fun _ => ?_⟩
              | refine ⟨fun _ => ?_, fun q => absurd q (of_decide_eq_true rfl)⟩
              | refine ⟨jx_vin rfl, ?_⟩
            exact hQ _ rfl
          · subst hT
            rw [ef] at hQ
            refine ji_109 ?_
            repeat first
              | refine ⟨Or.inr rfl, ?_⟩
              | refine ⟨Or.inl rfl, ?_⟩
              | refine ⟨fun q => absurd q m1, fun _ => ?_⟩
              | refine ⟨fun _ => ?_, fun q => absurd m1 q⟩
              | refine ⟨fun q => absurd m1 q, fun _ => ?_⟩
              | refine ⟨fun _ => ?_, fun q => absurd q m1⟩
              | refine ⟨fun q => absurd q b1, fun _ => ?_⟩
              | refine ⟨fun _ => ?_, fun q => absurd b1 q⟩
              | refine ⟨fun q => absurd b1 q, fun _ => ?_⟩
              | refine ⟨fun _ => ?_, fun q => absurd q b1⟩
              | refine ⟨fun q => absurd q k1, fun _ => ?_⟩
              | refine ⟨fun _ => ?_, fun q => absurd k1 q⟩
              | refine ⟨fun q => absurd k1 q, fun _ => ?_⟩
              | refine ⟨fun _ => ?_, fun q => absurd q k1⟩
              | refine ⟨fun q => absurd q k2, fun _ => ?_⟩
              | refine ⟨fun _ => ?_, fun q => absurd k2 q⟩
              | refine ⟨fun q => absurd k2 q, fun _ => ?_⟩
              | refine ⟨fun _ => ?_, fun q => absurd q k2⟩
              | refine ⟨fun q => absurd q (of_decide_eq_true rfl), fun _ => ?_⟩
              | refine ⟨fun _ => ?_, fun q => absurd q (of_decide_eq_true rfl)⟩
              | refine ⟨jx_vin rfl, ?_⟩
              | refine ⟨vm, ?_⟩
              | refine ji_89 ?_
            exact hQ _ hI
        · have k1 : ¬ σ 38 (σ 34 20).toNatClampNeg ≤ 2 := by rw [ek]; decide
          have k2 : ¬ σ 38 (σ 34 20).toNatClampNeg = 2 := by rw [ek]; decide
          have ef : σ 3 14 = 3 := by rw [e14]; rfl
          refine ⟨σ 3 14, fun σ1 => σ1 = σ, fun Q hQ => ji_4 ?_, fun σ1 hT Q hQ => ?_⟩
          · skip
            repeat first
              | refine ⟨Or.inr rfl, ?_⟩
              | refine ⟨Or.inl rfl, ?_⟩
              | refine ⟨fun q => absurd q x1, fun _ => ?_⟩
              | refine ⟨fun _ => ?_, fun q => absurd x1 q⟩
              | refine ⟨fun q => absurd x1 q, fun _ => ?_⟩
              | refine ⟨fun _ => ?_, fun q => absurd q x1⟩
              | refine ⟨fun q => absurd q (of_decide_eq_true rfl), fun _ => ?_⟩
              | refine ⟨fun _ => ?_, fun q => absurd q (of_decide_eq_true rfl)⟩
              | refine ⟨jx_vin rfl, ?_⟩
            exact hQ _ rfl
          · subst hT
            rw [ef] at hQ
            refine ji_109 ?_
            repeat first
              | refine ⟨Or.inr rfl, ?_⟩
              | refine ⟨Or.inl rfl, ?_⟩
              | refine ⟨fun q => absurd q m1, fun _ => ?_⟩
              | refine ⟨fun _ => ?_, fun q => absurd m1 q⟩
              | refine ⟨fun q => absurd m1 q, fun _ => ?_⟩
              | refine ⟨fun _ => ?_, fun q => absurd q m1⟩
              | refine ⟨fun q => absurd q b1, fun _ => ?_⟩
              | refine ⟨fun _ => ?_, fun q => absurd b1 q⟩
              | refine ⟨fun q => absurd b1 q, fun _ => ?_⟩
              | refine ⟨fun _ => ?_, fun q => absurd q b1⟩
              | refine ⟨fun q => absurd q k1, fun _ => ?_⟩
              | refine ⟨fun _ => ?_, fun q => absurd k1 q⟩
              | refine ⟨fun q => absurd k1 q, fun _ => ?_⟩
              | refine ⟨fun _ => ?_, fun q => absurd q k1⟩
              | refine ⟨fun q => absurd q k2, fun _ => ?_⟩
              | refine ⟨fun _ => ?_, fun q => absurd k2 q⟩
              | refine ⟨fun q => absurd k2 q, fun _ => ?_⟩
              | refine ⟨fun _ => ?_, fun q => absurd q k2⟩
              | refine ⟨fun q => absurd q (of_decide_eq_true rfl), fun _ => ?_⟩
              | refine ⟨fun _ => ?_, fun q => absurd q (of_decide_eq_true rfl)⟩
              | refine ⟨jx_vin rfl, ?_⟩
              | refine ⟨vm, ?_⟩
              | refine ji_89 ?_
            exact hQ _ hI
        · have k1 : ¬ σ 38 (σ 34 20).toNatClampNeg ≤ 2 := by rw [ek]; decide
          have k2 : ¬ σ 38 (σ 34 20).toNatClampNeg = 2 := by rw [ek]; decide
          have ef : σ 3 14 = 3 := by rw [e14]; rfl
          refine ⟨σ 3 14, fun σ1 => σ1 = σ, fun Q hQ => ji_4 ?_, fun σ1 hT Q hQ => ?_⟩
          · skip
            repeat first
              | refine ⟨Or.inr rfl, ?_⟩
              | refine ⟨Or.inl rfl, ?_⟩
              | refine ⟨fun q => absurd q x1, fun _ => ?_⟩
              | refine ⟨fun _ => ?_, fun q => absurd x1 q⟩
              | refine ⟨fun q => absurd x1 q, fun _ => ?_⟩
              | refine ⟨fun _ => ?_, fun q => absurd q x1⟩
              | refine ⟨fun q => absurd q (of_decide_eq_true rfl), fun _ => ?_⟩
              | refine ⟨fun _ => ?_, fun q => absurd q (of_decide_eq_true rfl)⟩
              | refine ⟨jx_vin rfl, ?_⟩
            exact hQ _ rfl
          · subst hT
            rw [ef] at hQ
            refine ji_109 ?_
            repeat first
              | refine ⟨Or.inr rfl, ?_⟩
              | refine ⟨Or.inl rfl, ?_⟩
              | refine ⟨fun q => absurd q m1, fun _ => ?_⟩
              | refine ⟨fun _ => ?_, fun q => absurd m1 q⟩
              | refine ⟨fun q => absurd m1 q, fun _ => ?_⟩
              | refine ⟨fun _ => ?_, fun q => absurd q m1⟩
              | refine ⟨fun q => absurd q b1, fun _ => ?_⟩
              | refine ⟨fun _ => ?_, fun q => absurd b1 q⟩
              | refine ⟨fun q => absurd b1 q, fun _ => ?_⟩
              | refine ⟨fun _ => ?_, fun q => absurd q b1⟩
              | refine ⟨fun q => absurd q k1, fun _ => ?_⟩
              | refine ⟨fun _ => ?_, fun q => absurd k1 q⟩
              | refine ⟨fun q => absurd k1 q, fun _ => ?_⟩
              | refine ⟨fun _ => ?_, fun q => absurd q k1⟩
              | refine ⟨fun q => absurd q k2, fun _ => ?_⟩
              | refine ⟨fun _ => ?_, fun q => absurd k2 q⟩
              | refine ⟨fun q => absurd k2 q, fun _ => ?_⟩
              | refine ⟨fun _ => ?_, fun q => absurd q k2⟩
              | refine ⟨fun q => absurd q (of_decide_eq_true rfl), fun _ => ?_⟩
              | refine ⟨fun _ => ?_, fun q => absurd q (of_decide_eq_true rfl)⟩
              | refine ⟨jx_vin rfl, ?_⟩
              | refine ⟨vm, ?_⟩
              | refine ji_89 ?_
            exact hQ _ hI
        · have k1 : ¬ σ 38 (σ 34 20).toNatClampNeg ≤ 2 := by rw [ek]; decide
          have k2 : ¬ σ 38 (σ 34 20).toNatClampNeg = 2 := by rw [ek]; decide
          have ef : σ 3 14 = 3 := by rw [e14]; rfl
          refine ⟨σ 3 14, fun σ1 => σ1 = σ, fun Q hQ => ji_4 ?_, fun σ1 hT Q hQ => ?_⟩
          · skip
            repeat first
              | refine ⟨Or.inr rfl, ?_⟩
              | refine ⟨Or.inl rfl, ?_⟩
              | refine ⟨fun q => absurd q x1, fun _ => ?_⟩
              | refine ⟨fun _ => ?_, fun q => absurd x1 q⟩
              | refine ⟨fun q => absurd x1 q, fun _ => ?_⟩
              | refine ⟨fun _ => ?_, fun q => absurd q x1⟩
              | refine ⟨fun q => absurd q (of_decide_eq_true rfl), fun _ => ?_⟩
              | refine ⟨fun _ => ?_, fun q => absurd q (of_decide_eq_true rfl)⟩
              | refine ⟨jx_vin rfl, ?_⟩
            exact hQ _ rfl
          · subst hT
            rw [ef] at hQ
            refine ji_109 ?_
            repeat first
              | refine ⟨Or.inr rfl, ?_⟩
              | refine ⟨Or.inl rfl, ?_⟩
              | refine ⟨fun q => absurd q m1, fun _ => ?_⟩
              | refine ⟨fun _ => ?_, fun q => absurd m1 q⟩
              | refine ⟨fun q => absurd m1 q, fun _ => ?_⟩
              | refine ⟨fun _ => ?_, fun q => absurd q m1⟩
              | refine ⟨fun q => absurd q b1, fun _ => ?_⟩
              | refine ⟨fun _ => ?_, fun q => absurd b1 q⟩
              | refine ⟨fun q => absurd b1 q, fun _ => ?_⟩
              | refine ⟨fun _ => ?_, fun q => absurd q b1⟩
              | refine ⟨fun q => absurd q k1, fun _ => ?_⟩
              | refine ⟨fun _ => ?_, fun q => absurd k1 q⟩
              | refine ⟨fun q => absurd k1 q, fun _ => ?_⟩
              | refine ⟨fun _ => ?_, fun q => absurd q k1⟩
              | refine ⟨fun q => absurd q k2, fun _ => ?_⟩
              | refine ⟨fun _ => ?_, fun q => absurd k2 q⟩
              | refine ⟨fun q => absurd k2 q, fun _ => ?_⟩
              | refine ⟨fun _ => ?_, fun q => absurd q k2⟩
              | refine ⟨fun q => absurd q (of_decide_eq_true rfl), fun _ => ?_⟩
              | refine ⟨fun _ => ?_, fun q => absurd q (of_decide_eq_true rfl)⟩
              | refine ⟨jx_vin rfl, ?_⟩
              | refine ⟨vm, ?_⟩
              | refine ji_89 ?_
            exact hQ _ hI
      · have ef : σ 3 14 = (-1) := (r5 (Int32.not_le.mp b1)).1
        refine ⟨σ 3 14, fun σ1 => σ1 = σ, fun Q hQ => ji_4 ?_, fun σ1 hT Q hQ => ?_⟩
        · skip
          repeat first
            | refine ⟨Or.inr rfl, ?_⟩
            | refine ⟨Or.inl rfl, ?_⟩
            | refine ⟨fun q => absurd q x1, fun _ => ?_⟩
            | refine ⟨fun _ => ?_, fun q => absurd x1 q⟩
            | refine ⟨fun q => absurd x1 q, fun _ => ?_⟩
            | refine ⟨fun _ => ?_, fun q => absurd q x1⟩
            | refine ⟨fun q => absurd q (of_decide_eq_true rfl), fun _ => ?_⟩
            | refine ⟨fun _ => ?_, fun q => absurd q (of_decide_eq_true rfl)⟩
            | refine ⟨jx_vin rfl, ?_⟩
          exact hQ _ rfl
        · subst hT
          rw [ef] at hQ
          refine ji_109 ?_
          repeat first
            | refine ⟨Or.inr rfl, ?_⟩
            | refine ⟨Or.inl rfl, ?_⟩
            | refine ⟨fun q => absurd q m1, fun _ => ?_⟩
            | refine ⟨fun _ => ?_, fun q => absurd m1 q⟩
            | refine ⟨fun q => absurd m1 q, fun _ => ?_⟩
            | refine ⟨fun _ => ?_, fun q => absurd q m1⟩
            | refine ⟨fun q => absurd q b1, fun _ => ?_⟩
            | refine ⟨fun _ => ?_, fun q => absurd b1 q⟩
            | refine ⟨fun q => absurd b1 q, fun _ => ?_⟩
            | refine ⟨fun _ => ?_, fun q => absurd q b1⟩
            | refine ⟨fun q => absurd q (of_decide_eq_true rfl), fun _ => ?_⟩
            | refine ⟨fun _ => ?_, fun q => absurd q (of_decide_eq_true rfl)⟩
            | refine ⟨jx_vin rfl, ?_⟩
            | refine ji_89 ?_
          exact hQ _ hI
    · by_cases b1 : σ 34 23 ≤ 1
      · obtain ⟨v, kd, hv, hkd, ev, ekd, e14, e15⟩ := r6 b1
        have vm : vp_in (σ 34 20) 260 := by rw [ev]; exact vp_in_nI hv (by decide)
        have ecl : (σ 34 20).toNatClampNeg = v := by rw [ev]; exact nI_clamp (by omega)
        have ek : σ 38 (σ 34 20).toNatClampNeg = nI kd := by rw [ecl]; exact ekd
        rw [← ecl] at e15
        rcases (by omega : kd = 0 ∨ kd = 1 ∨ kd = 2 ∨ kd = 3 ∨ kd = 4 ∨ kd = 5) with rfl | rfl | rfl | rfl | rfl | rfl
        · have k1 : σ 38 (σ 34 20).toNatClampNeg ≤ 2 := by rw [ek]; decide
          have k2 : ¬ σ 38 (σ 34 20).toNatClampNeg = 2 := by rw [ek]; decide
          have ef : σ 3 15 = σ 39 (σ 34 20).toNatClampNeg := by rw [e15]; rfl
          refine ⟨σ 3 15, fun σ1 => σ1 = σ, fun Q hQ => ji_4 ?_, fun σ1 hT Q hQ => ?_⟩
          · skip
            repeat first
              | refine ⟨Or.inr rfl, ?_⟩
              | refine ⟨Or.inl rfl, ?_⟩
              | refine ⟨fun q => absurd q x1, fun _ => ?_⟩
              | refine ⟨fun _ => ?_, fun q => absurd x1 q⟩
              | refine ⟨fun q => absurd x1 q, fun _ => ?_⟩
              | refine ⟨fun _ => ?_, fun q => absurd q x1⟩
              | refine ⟨fun q => absurd q (of_decide_eq_true rfl), fun _ => ?_⟩
              | refine ⟨fun _ => ?_, fun q => absurd q (of_decide_eq_true rfl)⟩
              | refine ⟨jx_vin rfl, ?_⟩
            exact hQ _ rfl
          · subst hT
            rw [ef] at hQ
            refine ji_109 ?_
            repeat first
              | refine ⟨Or.inr rfl, ?_⟩
              | refine ⟨Or.inl rfl, ?_⟩
              | refine ⟨fun q => absurd q m1, fun _ => ?_⟩
              | refine ⟨fun _ => ?_, fun q => absurd m1 q⟩
              | refine ⟨fun q => absurd m1 q, fun _ => ?_⟩
              | refine ⟨fun _ => ?_, fun q => absurd q m1⟩
              | refine ⟨fun q => absurd q b1, fun _ => ?_⟩
              | refine ⟨fun _ => ?_, fun q => absurd b1 q⟩
              | refine ⟨fun q => absurd b1 q, fun _ => ?_⟩
              | refine ⟨fun _ => ?_, fun q => absurd q b1⟩
              | refine ⟨fun q => absurd q k1, fun _ => ?_⟩
              | refine ⟨fun _ => ?_, fun q => absurd k1 q⟩
              | refine ⟨fun q => absurd k1 q, fun _ => ?_⟩
              | refine ⟨fun _ => ?_, fun q => absurd q k1⟩
              | refine ⟨fun q => absurd q k2, fun _ => ?_⟩
              | refine ⟨fun _ => ?_, fun q => absurd k2 q⟩
              | refine ⟨fun q => absurd k2 q, fun _ => ?_⟩
              | refine ⟨fun _ => ?_, fun q => absurd q k2⟩
              | refine ⟨fun q => absurd q (of_decide_eq_true rfl), fun _ => ?_⟩
              | refine ⟨fun _ => ?_, fun q => absurd q (of_decide_eq_true rfl)⟩
              | refine ⟨jx_vin rfl, ?_⟩
              | refine ⟨vm, ?_⟩
              | refine ji_89 ?_
            exact hQ _ hI
        · have k1 : σ 38 (σ 34 20).toNatClampNeg ≤ 2 := by rw [ek]; decide
          have k2 : ¬ σ 38 (σ 34 20).toNatClampNeg = 2 := by rw [ek]; decide
          have ef : σ 3 15 = σ 39 (σ 34 20).toNatClampNeg := by rw [e15]; rfl
          refine ⟨σ 3 15, fun σ1 => σ1 = σ, fun Q hQ => ji_4 ?_, fun σ1 hT Q hQ => ?_⟩
          · skip
            repeat first
              | refine ⟨Or.inr rfl, ?_⟩
              | refine ⟨Or.inl rfl, ?_⟩
              | refine ⟨fun q => absurd q x1, fun _ => ?_⟩
              | refine ⟨fun _ => ?_, fun q => absurd x1 q⟩
              | refine ⟨fun q => absurd x1 q, fun _ => ?_⟩
              | refine ⟨fun _ => ?_, fun q => absurd q x1⟩
              | refine ⟨fun q => absurd q (of_decide_eq_true rfl), fun _ => ?_⟩
              | refine ⟨fun _ => ?_, fun q => absurd q (of_decide_eq_true rfl)⟩
              | refine ⟨jx_vin rfl, ?_⟩
            exact hQ _ rfl
          · subst hT
            rw [ef] at hQ
            refine ji_109 ?_
            repeat first
              | refine ⟨Or.inr rfl, ?_⟩
              | refine ⟨Or.inl rfl, ?_⟩
              | refine ⟨fun q => absurd q m1, fun _ => ?_⟩
              | refine ⟨fun _ => ?_, fun q => absurd m1 q⟩
              | refine ⟨fun q => absurd m1 q, fun _ => ?_⟩
              | refine ⟨fun _ => ?_, fun q => absurd q m1⟩
              | refine ⟨fun q => absurd q b1, fun _ => ?_⟩
              | refine ⟨fun _ => ?_, fun q => absurd b1 q⟩
              | refine ⟨fun q => absurd b1 q, fun _ => ?_⟩
              | refine ⟨fun _ => ?_, fun q => absurd q b1⟩
              | refine ⟨fun q => absurd q k1, fun _ => ?_⟩
              | refine ⟨fun _ => ?_, fun q => absurd k1 q⟩
              | refine ⟨fun q => absurd k1 q, fun _ => ?_⟩
              | refine ⟨fun _ => ?_, fun q => absurd q k1⟩
              | refine ⟨fun q => absurd q k2, fun _ => ?_⟩
              | refine ⟨fun _ => ?_, fun q => absurd k2 q⟩
              | refine ⟨fun q => absurd k2 q, fun _ => ?_⟩
              | refine ⟨fun _ => ?_, fun q => absurd q k2⟩
              | refine ⟨fun q => absurd q (of_decide_eq_true rfl), fun _ => ?_⟩
              | refine ⟨fun _ => ?_, fun q => absurd q (of_decide_eq_true rfl)⟩
              | refine ⟨jx_vin rfl, ?_⟩
              | refine ⟨vm, ?_⟩
              | refine ji_89 ?_
            exact hQ _ hI
        · have k1 : σ 38 (σ 34 20).toNatClampNeg ≤ 2 := by rw [ek]; decide
          have k2 : σ 38 (σ 34 20).toNatClampNeg = 2 := by rw [ek]; decide
          have ef : σ 3 15 = σ 41 (σ 34 20).toNatClampNeg := by rw [e15]; rfl
          refine ⟨σ 3 15, fun σ1 => σ1 = σ, fun Q hQ => ji_4 ?_, fun σ1 hT Q hQ => ?_⟩
          · skip
            repeat first
              | refine ⟨Or.inr rfl, ?_⟩
              | refine ⟨Or.inl rfl, ?_⟩
              | refine ⟨fun q => absurd q x1, fun _ => ?_⟩
              | refine ⟨fun _ => ?_, fun q => absurd x1 q⟩
              | refine ⟨fun q => absurd x1 q, fun _ => ?_⟩
              | refine ⟨fun _ => ?_, fun q => absurd q x1⟩
              | refine ⟨fun q => absurd q (of_decide_eq_true rfl), fun _ => ?_⟩
              | refine ⟨fun _ => ?_, fun q => absurd q (of_decide_eq_true rfl)⟩
              | refine ⟨jx_vin rfl, ?_⟩
            exact hQ _ rfl
          · subst hT
            rw [ef] at hQ
            refine ji_109 ?_
            repeat first
              | refine ⟨Or.inr rfl, ?_⟩
              | refine ⟨Or.inl rfl, ?_⟩
              | refine ⟨fun q => absurd q m1, fun _ => ?_⟩
              | refine ⟨fun _ => ?_, fun q => absurd m1 q⟩
              | refine ⟨fun q => absurd m1 q, fun _ => ?_⟩
              | refine ⟨fun _ => ?_, fun q => absurd q m1⟩
              | refine ⟨fun q => absurd q b1, fun _ => ?_⟩
              | refine ⟨fun _ => ?_, fun q => absurd b1 q⟩
              | refine ⟨fun q => absurd b1 q, fun _ => ?_⟩
              | refine ⟨fun _ => ?_, fun q => absurd q b1⟩
              | refine ⟨fun q => absurd q k1, fun _ => ?_⟩
              | refine ⟨fun _ => ?_, fun q => absurd k1 q⟩
              | refine ⟨fun q => absurd k1 q, fun _ => ?_⟩
              | refine ⟨fun _ => ?_, fun q => absurd q k1⟩
              | refine ⟨fun q => absurd q k2, fun _ => ?_⟩
              | refine ⟨fun _ => ?_, fun q => absurd k2 q⟩
              | refine ⟨fun q => absurd k2 q, fun _ => ?_⟩
              | refine ⟨fun _ => ?_, fun q => absurd q k2⟩
              | refine ⟨fun q => absurd q (of_decide_eq_true rfl), fun _ => ?_⟩
              | refine ⟨fun _ => ?_, fun q => absurd q (of_decide_eq_true rfl)⟩
              | refine ⟨jx_vin rfl, ?_⟩
              | refine ⟨vm, ?_⟩
              | refine ji_89 ?_
            exact hQ _ hI
        · have k1 : ¬ σ 38 (σ 34 20).toNatClampNeg ≤ 2 := by rw [ek]; decide
          have k2 : ¬ σ 38 (σ 34 20).toNatClampNeg = 2 := by rw [ek]; decide
          have ef : σ 3 15 = 0 := by rw [e15]; rfl
          refine ⟨σ 3 15, fun σ1 => σ1 = σ, fun Q hQ => ji_4 ?_, fun σ1 hT Q hQ => ?_⟩
          · skip
            repeat first
              | refine ⟨Or.inr rfl, ?_⟩
              | refine ⟨Or.inl rfl, ?_⟩
              | refine ⟨fun q => absurd q x1, fun _ => ?_⟩
              | refine ⟨fun _ => ?_, fun q => absurd x1 q⟩
              | refine ⟨fun q => absurd x1 q, fun _ => ?_⟩
              | refine ⟨fun _ => ?_, fun q => absurd q x1⟩
              | refine ⟨fun q => absurd q (of_decide_eq_true rfl), fun _ => ?_⟩
              | refine ⟨fun _ => ?_, fun q => absurd q (of_decide_eq_true rfl)⟩
              | refine ⟨jx_vin rfl, ?_⟩
            exact hQ _ rfl
          · subst hT
            rw [ef] at hQ
            refine ji_109 ?_
            repeat first
              | refine ⟨Or.inr rfl, ?_⟩
              | refine ⟨Or.inl rfl, ?_⟩
              | refine ⟨fun q => absurd q m1, fun _ => ?_⟩
              | refine ⟨fun _ => ?_, fun q => absurd m1 q⟩
              | refine ⟨fun q => absurd m1 q, fun _ => ?_⟩
              | refine ⟨fun _ => ?_, fun q => absurd q m1⟩
              | refine ⟨fun q => absurd q b1, fun _ => ?_⟩
              | refine ⟨fun _ => ?_, fun q => absurd b1 q⟩
              | refine ⟨fun q => absurd b1 q, fun _ => ?_⟩
              | refine ⟨fun _ => ?_, fun q => absurd q b1⟩
              | refine ⟨fun q => absurd q k1, fun _ => ?_⟩
              | refine ⟨fun _ => ?_, fun q => absurd k1 q⟩
              | refine ⟨fun q => absurd k1 q, fun _ => ?_⟩
              | refine ⟨fun _ => ?_, fun q => absurd q k1⟩
              | refine ⟨fun q => absurd q k2, fun _ => ?_⟩
              | refine ⟨fun _ => ?_, fun q => absurd k2 q⟩
              | refine ⟨fun q => absurd k2 q, fun _ => ?_⟩
              | refine ⟨fun _ => ?_, fun q => absurd q k2⟩
              | refine ⟨fun q => absurd q (of_decide_eq_true rfl), fun _ => ?_⟩
              | refine ⟨fun _ => ?_, fun q => absurd q (of_decide_eq_true rfl)⟩
              | refine ⟨jx_vin rfl, ?_⟩
              | refine ⟨vm, ?_⟩
              | refine ji_89 ?_
            exact hQ _ hI
        · have k1 : ¬ σ 38 (σ 34 20).toNatClampNeg ≤ 2 := by rw [ek]; decide
          have k2 : ¬ σ 38 (σ 34 20).toNatClampNeg = 2 := by rw [ek]; decide
          have ef : σ 3 15 = 0 := by rw [e15]; rfl
          refine ⟨σ 3 15, fun σ1 => σ1 = σ, fun Q hQ => ji_4 ?_, fun σ1 hT Q hQ => ?_⟩
          · skip
            repeat first
              | refine ⟨Or.inr rfl, ?_⟩
              | refine ⟨Or.inl rfl, ?_⟩
              | refine ⟨fun q => absurd q x1, fun _ => ?_⟩
              | refine ⟨fun _ => ?_, fun q => absurd x1 q⟩
              | refine ⟨fun q => absurd x1 q, fun _ => ?_⟩
              | refine ⟨fun _ => ?_, fun q => absurd q x1⟩
              | refine ⟨fun q => absurd q (of_decide_eq_true rfl), fun _ => ?_⟩
              | refine ⟨fun _ => ?_, fun q => absurd q (of_decide_eq_true rfl)⟩
              | refine ⟨jx_vin rfl, ?_⟩
            exact hQ _ rfl
          · subst hT
            rw [ef] at hQ
            refine ji_109 ?_
            repeat first
              | refine ⟨Or.inr rfl, ?_⟩
              | refine ⟨Or.inl rfl, ?_⟩
              | refine ⟨fun q => absurd q m1, fun _ => ?_⟩
              | refine ⟨fun _ => ?_, fun q => absurd m1 q⟩
              | refine ⟨fun q => absurd m1 q, fun _ => ?_⟩
              | refine ⟨fun _ => ?_, fun q => absurd q m1⟩
              | refine ⟨fun q => absurd q b1, fun _ => ?_⟩
              | refine ⟨fun _ => ?_, fun q => absurd b1 q⟩
              | refine ⟨fun q => absurd b1 q, fun _ => ?_⟩
              | refine ⟨fun _ => ?_, fun q => absurd q b1⟩
              | refine ⟨fun q => absurd q k1, fun _ => ?_⟩
              | refine ⟨fun _ => ?_, fun q => absurd k1 q⟩
              | refine ⟨fun q => absurd k1 q, fun _ => ?_⟩
              | refine ⟨fun _ => ?_, fun q => absurd q k1⟩
              | refine ⟨fun q => absurd q k2, fun _ => ?_⟩
              | refine ⟨fun _ => ?_, fun q => absurd k2 q⟩
              | refine ⟨fun q => absurd k2 q, fun _ => ?_⟩
              | refine ⟨fun _ => ?_, fun q => absurd q k2⟩
              | refine ⟨fun q => absurd q (of_decide_eq_true rfl), fun _ => ?_⟩
              | refine ⟨fun _ => ?_, fun q => absurd q (of_decide_eq_true rfl)⟩
              | refine ⟨jx_vin rfl, ?_⟩
              | refine ⟨vm, ?_⟩
              | refine ji_89 ?_
            exact hQ _ hI
        · have k1 : ¬ σ 38 (σ 34 20).toNatClampNeg ≤ 2 := by rw [ek]; decide
          have k2 : ¬ σ 38 (σ 34 20).toNatClampNeg = 2 := by rw [ek]; decide
          have ef : σ 3 15 = 0 := by rw [e15]; rfl
          refine ⟨σ 3 15, fun σ1 => σ1 = σ, fun Q hQ => ji_4 ?_, fun σ1 hT Q hQ => ?_⟩
          · skip
            repeat first
              | refine ⟨Or.inr rfl, ?_⟩
              | refine ⟨Or.inl rfl, ?_⟩
              | refine ⟨fun q => absurd q x1, fun _ => ?_⟩
              | refine ⟨fun _ => ?_, fun q => absurd x1 q⟩
              | refine ⟨fun q => absurd x1 q, fun _ => ?_⟩
              | refine ⟨fun _ => ?_, fun q => absurd q x1⟩
              | refine ⟨fun q => absurd q (of_decide_eq_true rfl), fun _ => ?_⟩
              | refine ⟨fun _ => ?_, fun q => absurd q (of_decide_eq_true rfl)⟩
              | refine ⟨jx_vin rfl, ?_⟩
            exact hQ _ rfl
          · subst hT
            rw [ef] at hQ
            refine ji_109 ?_
            repeat first
              | refine ⟨Or.inr rfl, ?_⟩
              | refine ⟨Or.inl rfl, ?_⟩
              | refine ⟨fun q => absurd q m1, fun _ => ?_⟩
              | refine ⟨fun _ => ?_, fun q => absurd m1 q⟩
              | refine ⟨fun q => absurd m1 q, fun _ => ?_⟩
              | refine ⟨fun _ => ?_, fun q => absurd q m1⟩
              | refine ⟨fun q => absurd q b1, fun _ => ?_⟩
              | refine ⟨fun _ => ?_, fun q => absurd b1 q⟩
              | refine ⟨fun q => absurd b1 q, fun _ => ?_⟩
              | refine ⟨fun _ => ?_, fun q => absurd q b1⟩
              | refine ⟨fun q => absurd q k1, fun _ => ?_⟩
              | refine ⟨fun _ => ?_, fun q => absurd k1 q⟩
              | refine ⟨fun q => absurd k1 q, fun _ => ?_⟩
              | refine ⟨fun _ => ?_, fun q => absurd q k1⟩
              | refine ⟨fun q => absurd q k2, fun _ => ?_⟩
              | refine ⟨fun _ => ?_, fun q => absurd k2 q⟩
              | refine ⟨fun q => absurd k2 q, fun _ => ?_⟩
              | refine ⟨fun _ => ?_, fun q => absurd q k2⟩
              | refine ⟨fun q => absurd q (of_decide_eq_true rfl), fun _ => ?_⟩
              | refine ⟨fun _ => ?_, fun q => absurd q (of_decide_eq_true rfl)⟩
              | refine ⟨jx_vin rfl, ?_⟩
              | refine ⟨vm, ?_⟩
              | refine ji_89 ?_
            exact hQ _ hI
      · have ef : σ 3 15 = 0 := (r5 (Int32.not_le.mp b1)).2
        refine ⟨σ 3 15, fun σ1 => σ1 = σ, fun Q hQ => ji_4 ?_, fun σ1 hT Q hQ => ?_⟩
        · skip
          repeat first
            | refine ⟨Or.inr rfl, ?_⟩
            | refine ⟨Or.inl rfl, ?_⟩
            | refine ⟨fun q => absurd q x1, fun _ => ?_⟩
            | refine ⟨fun _ => ?_, fun q => absurd x1 q⟩
            | refine ⟨fun q => absurd x1 q, fun _ => ?_⟩
            | refine ⟨fun _ => ?_, fun q => absurd q x1⟩
            | refine ⟨fun q => absurd q (of_decide_eq_true rfl), fun _ => ?_⟩
            | refine ⟨fun _ => ?_, fun q => absurd q (of_decide_eq_true rfl)⟩
            | refine ⟨jx_vin rfl, ?_⟩
          exact hQ _ rfl
        · subst hT
          rw [ef] at hQ
          refine ji_109 ?_
          repeat first
            | refine ⟨Or.inr rfl, ?_⟩
            | refine ⟨Or.inl rfl, ?_⟩
            | refine ⟨fun q => absurd q m1, fun _ => ?_⟩
            | refine ⟨fun _ => ?_, fun q => absurd m1 q⟩
            | refine ⟨fun q => absurd m1 q, fun _ => ?_⟩
            | refine ⟨fun _ => ?_, fun q => absurd q m1⟩
            | refine ⟨fun q => absurd q b1, fun _ => ?_⟩
            | refine ⟨fun _ => ?_, fun q => absurd b1 q⟩
            | refine ⟨fun q => absurd b1 q, fun _ => ?_⟩
            | refine ⟨fun _ => ?_, fun q => absurd q b1⟩
            | refine ⟨fun q => absurd q (of_decide_eq_true rfl), fun _ => ?_⟩
            | refine ⟨fun _ => ?_, fun q => absurd q (of_decide_eq_true rfl)⟩
            | refine ⟨jx_vin rfl, ?_⟩
            | refine ji_89 ?_
          exact hQ _ hI
    · skip
      refine ⟨(-1), fun σ1 => σ1 = σ, fun Q hQ => ji_4 ?_, fun σ1 hT Q hQ => ?_⟩
      · skip
        repeat first
          | refine ⟨Or.inr rfl, ?_⟩
          | refine ⟨Or.inl rfl, ?_⟩
          | refine ⟨fun q => absurd q x1, fun _ => ?_⟩
          | refine ⟨fun _ => ?_, fun q => absurd x1 q⟩
          | refine ⟨fun q => absurd x1 q, fun _ => ?_⟩
          | refine ⟨fun _ => ?_, fun q => absurd q x1⟩
          | refine ⟨fun q => absurd q c3, fun _ => ?_⟩
          | refine ⟨fun _ => ?_, fun q => absurd c3 q⟩
          | refine ⟨fun q => absurd c3 q, fun _ => ?_⟩
          | refine ⟨fun _ => ?_, fun q => absurd q c3⟩
          | refine ⟨fun q => absurd q c4, fun _ => ?_⟩
          | refine ⟨fun _ => ?_, fun q => absurd c4 q⟩
          | refine ⟨fun q => absurd c4 q, fun _ => ?_⟩
          | refine ⟨fun _ => ?_, fun q => absurd q c4⟩
          | refine ⟨fun q => absurd q c5, fun _ => ?_⟩
          | refine ⟨fun _ => ?_, fun q => absurd c5 q⟩
          | refine ⟨fun q => absurd c5 q, fun _ => ?_⟩
          | refine ⟨fun _ => ?_, fun q => absurd q c5⟩
          | refine ⟨fun q => absurd q c6, fun _ => ?_⟩
          | refine ⟨fun _ => ?_, fun q => absurd c6 q⟩
          | refine ⟨fun q => absurd c6 q, fun _ => ?_⟩
          | refine ⟨fun _ => ?_, fun q => absurd q c6⟩
          | refine ⟨fun q => absurd q (of_decide_eq_true rfl), fun _ => ?_⟩
          | refine ⟨fun _ => ?_, fun q => absurd q (of_decide_eq_true rfl)⟩
          | refine ⟨jx_vin rfl, ?_⟩
        exact hQ _ rfl
      · subst hT
        refine ji_109 ?_
        repeat first
          | refine ⟨Or.inr rfl, ?_⟩
          | refine ⟨Or.inl rfl, ?_⟩
          | refine ⟨fun q => absurd q m1, fun _ => ?_⟩
          | refine ⟨fun _ => ?_, fun q => absurd m1 q⟩
          | refine ⟨fun q => absurd m1 q, fun _ => ?_⟩
          | refine ⟨fun _ => ?_, fun q => absurd q m1⟩
          | refine ⟨fun q => absurd q c1, fun _ => ?_⟩
          | refine ⟨fun _ => ?_, fun q => absurd c1 q⟩
          | refine ⟨fun q => absurd c1 q, fun _ => ?_⟩
          | refine ⟨fun _ => ?_, fun q => absurd q c1⟩
          | refine ⟨fun q => absurd q c2, fun _ => ?_⟩
          | refine ⟨fun _ => ?_, fun q => absurd c2 q⟩
          | refine ⟨fun q => absurd c2 q, fun _ => ?_⟩
          | refine ⟨fun _ => ?_, fun q => absurd q c2⟩
          | refine ⟨fun q => absurd q (of_decide_eq_true rfl), fun _ => ?_⟩
          | refine ⟨fun _ => ?_, fun q => absurd q (of_decide_eq_true rfl)⟩
          | refine ⟨jx_vin rfl, ?_⟩
          | refine ji_89 ?_
        refine hQ _ ?_
        exact hI


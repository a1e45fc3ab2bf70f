theorem jl_lt1 {a : Int32} {n : Nat} (hn : n < 2 ^ 30) (h : ¬ nI n < a) : a < nI (n + 1) := by
  rw [Int32.lt_iff_toInt_lt, nI_toInt (by omega)] at h
  rw [Int32.lt_iff_toInt_lt, nI_toInt (by omega)]
  omega
theorem jl_nlt1 {a : Int32} {n : Nat} (hn : n < 2 ^ 30) (h : nI n < a) : ¬ a < nI (n + 1) := by
  rw [Int32.lt_iff_toInt_lt, nI_toInt (by omega)] at h
  rw [Int32.lt_iff_toInt_lt, nI_toInt (by omega)]
  omega
theorem jl_le0 {a : Int32} {n : Nat} (h : ¬ nI n < a) : a ≤ nI n := Int32.not_lt.mp h
theorem jl_nle0 {a : Int32} {n : Nat} (h : nI n < a) : ¬ a ≤ nI n := fun q => absurd h (Int32.not_lt.mpr q)
theorem jl_nat {a : Int32} {n : Nat} (hn : n < 2 ^ 30) (h0 : ¬ a < 0) (h : ¬ nI n < a) : ∃ k : Nat, k ≤ n ∧ a = nI k := by
  obtain ⟨j, hj, rfl⟩ := nI_of h0
  exact ⟨j, by rw [nI_ltI (by omega) hj] at h; omega, rfl⟩
theorem jv_guarantee {l : Launch} {D : va_G} {cA : ClassId} {ρ : Nat → Nat} {d : Nat} : jq_guarantee l D cA ρ (d + 3) iv_V iv_V := by
  intro σ hI a1
  by_cases h0 : 0 ≤ a1
  · have h0' : ¬ a1 < 0 := Int32.not_lt.mpr h0
    refine ⟨1, fun σ1 => σ1 = jx_su σ 23 11 a1, fun Q hQ => ji_10 ?_, fun σ1 hT Q hQ => ?_⟩
    · skip
      repeat first
        | refine ⟨Or.inr rfl, ?_⟩
        | refine ⟨Or.inl rfl, ?_⟩
        | refine ⟨fun q => absurd q (by assumption), fun _ => ?_⟩
        | refine ⟨fun _ => ?_, fun q => absurd (by assumption) q⟩
        | refine ⟨fun q => absurd q (of_decide_eq_true rfl), fun _ => ?_⟩
        | refine ⟨fun _ => ?_, fun q => absurd q (of_decide_eq_true rfl)⟩
        | refine ⟨jx_vin rfl, ?_⟩
        | refine ⟨by assumption, ?_⟩
        | refine ji_19 ?_
        | refine ji_89 ?_
        | refine ji_83 ?_
        | refine ji_82 ?_
        | refine ji_74 ?_
        | refine ji_68 ?_
        | refine ji_69 ?_
        | refine ji_77 ?_
        | refine ji_78 ?_
        | refine ji_79 ?_
      exact hQ _ rfl
    · subst hT
      refine ji_116 ?_
      repeat first
        | refine ⟨Or.inr rfl, ?_⟩
        | refine ⟨Or.inl rfl, ?_⟩
        | refine ⟨fun q => absurd q (by assumption), fun _ => ?_⟩
        | refine ⟨fun _ => ?_, fun q => absurd (by assumption) q⟩
        | refine ⟨fun q => absurd q (of_decide_eq_true rfl), fun _ => ?_⟩
        | refine ⟨fun _ => ?_, fun q => absurd q (of_decide_eq_true rfl)⟩
        | refine ⟨jx_vin rfl, ?_⟩
        | refine ⟨by assumption, ?_⟩
        | refine ji_19 ?_
        | refine ji_89 ?_
        | refine ji_83 ?_
        | refine ji_82 ?_
        | refine ji_74 ?_
        | refine ji_68 ?_
        | refine ji_69 ?_
        | refine ji_77 ?_
        | refine ji_78 ?_
        | refine ji_79 ?_
      refine hQ _ ?_
      obtain ⟨iD, iS, iR, iI, iG, iM, ⟨t1, t2, t3, t4, t5, t6, t7⟩, iL⟩ := hI
      exact ⟨iD, iS, iR, iI, iG, iM, ⟨t1, t2, t3, t4, t5, rfl, t7⟩, iL⟩

  · have h0' : a1 < 0 := Int32.not_le.mp h0
    refine ⟨0, fun σ1 => σ1 = σ, fun Q hQ => ji_10 ?_, fun σ1 hT Q hQ => ?_⟩
    · skip
      repeat first
        | refine ⟨Or.inr rfl, ?_⟩
        | refine ⟨Or.inl rfl, ?_⟩
        | refine ⟨fun q => absurd q (by assumption), fun _ => ?_⟩
        | refine ⟨fun _ => ?_, fun q => absurd (by assumption) q⟩
        | refine ⟨fun q => absurd q (of_decide_eq_true rfl), fun _ => ?_⟩
        | refine ⟨fun _ => ?_, fun q => absurd q (of_decide_eq_true rfl)⟩
        | refine ⟨jx_vin rfl, ?_⟩
        | refine ⟨by assumption, ?_⟩
        | refine ji_19 ?_
        | refine ji_89 ?_
        | refine ji_83 ?_
        | refine ji_82 ?_
        | refine ji_74 ?_
        | refine ji_68 ?_
        | refine ji_69 ?_
        | refine ji_77 ?_
        | refine ji_78 ?_
        | refine ji_79 ?_
      exact hQ _ rfl
    · subst hT
      refine ji_116 ?_
      repeat first
        | refine ⟨Or.inr rfl, ?_⟩
        | refine ⟨Or.inl rfl, ?_⟩
        | refine ⟨fun q => absurd q (by assumption), fun _ => ?_⟩
        | refine ⟨fun _ => ?_, fun q => absurd (by assumption) q⟩
        | refine ⟨fun q => absurd q (of_decide_eq_true rfl), fun _ => ?_⟩
        | refine ⟨fun _ => ?_, fun q => absurd q (of_decide_eq_true rfl)⟩
        | refine ⟨jx_vin rfl, ?_⟩
        | refine ⟨by assumption, ?_⟩
        | refine ji_19 ?_
        | refine ji_89 ?_
        | refine ji_83 ?_
        | refine ji_82 ?_
        | refine ji_74 ?_
        | refine ji_68 ?_
        | refine ji_69 ?_
        | refine ji_77 ?_
        | refine ji_78 ?_
        | refine ji_79 ?_
      refine hQ _ ?_
      exact hI

theorem jv_outputs {l : Launch} {D : va_G} {cA : ClassId} {ρ : Nat → Nat} {d : Nat} : jq_outputs l D cA ρ (d + 3) iv_V iv_V := by
  intro σ hI
  have e : σ 16 3 = σ 34 25 := by
    obtain ⟨-, -, -, -, -, -, -, m, h, -, -, -, e1, e2, -⟩ := hI
    rw [e1, e2]
  refine ⟨σ 16 3, fun σ1 => σ1 = σ, fun Q hQ => ji_14 (hQ _ rfl), fun σ1 hT Q hQ => ?_⟩
  subst hT
  rw [e] at hQ
  exact ji_132 (hQ _ hI)
theorem jv_height {l : Launch} {D : va_G} {cA : ClassId} {ρ : Nat → Nat} {d : Nat} : jq_height l D cA ρ (d + 3) iv_V iv_V := by
  intro σ hI
  have e : σ 15 5 = σ 34 31 := by
    obtain ⟨-, -, -, -, -, -, -, m, h, -, -, -, e1, e2, e3, e4, -⟩ := hI
    rw [e3, e4]
  refine ⟨σ 15 5, fun σ1 => σ1 = σ, fun Q hQ => ji_18 (hQ _ rfl), fun σ1 hT Q hQ => ?_⟩
  subst hT
  rw [e] at hQ
  exact ji_136 (hQ _ hI)
set_option maxHeartbeats 2000000 in
theorem jv_terms {l : Launch} {D : va_G} {cA : ClassId} {ρ : Nat → Nat} {d : Nat} : jq_terms l D cA ρ (d + 3) iv_V iv_V := by
  intro σ hI a1 a2 a3 a4 a5
  by_cases la1 : a1 < 0
  · skip
    refine ⟨0, fun σ1 => σ1 = σ, fun Q hQ => ji_9 ?_, fun σ1 hT Q hQ => ?_⟩
    · skip
      repeat first
        | refine ⟨Or.inr rfl, ?_⟩
        | refine ⟨Or.inl rfl, ?_⟩
        | refine ⟨fun q => absurd q (by assumption), fun _ => ?_⟩
        | refine ⟨fun _ => ?_, fun q => absurd (by assumption) q⟩
        | refine ⟨fun q => absurd q (of_decide_eq_true rfl), fun _ => ?_⟩
        | refine ⟨fun _ => ?_, fun q => absurd q (of_decide_eq_true rfl)⟩
        | refine ⟨jx_vin rfl, ?_⟩
        | refine ⟨by assumption, ?_⟩
        | refine ji_19 ?_
        | refine ji_89 ?_
        | refine ji_83 ?_
        | refine ji_82 ?_
        | refine ji_74 ?_
        | refine ji_68 ?_
        | refine ji_69 ?_
        | refine ji_77 ?_
        | refine ji_78 ?_
        | refine ji_79 ?_
      exact hQ _ rfl
    · subst hT
      refine ji_115 ?_
      repeat first
        | refine ⟨Or.inr rfl, ?_⟩
        | refine ⟨Or.inl rfl, ?_⟩
        | refine ⟨fun q => absurd q (by assumption), fun _ => ?_⟩
        | refine ⟨fun _ => ?_, fun q => absurd (by assumption) q⟩
        | refine ⟨fun q => absurd q (of_decide_eq_true rfl), fun _ => ?_⟩
        | refine ⟨fun _ => ?_, fun q => absurd q (of_decide_eq_true rfl)⟩
        | refine ⟨jx_vin rfl, ?_⟩
        | refine ⟨by assumption, ?_⟩
        | refine ji_19 ?_
        | refine ji_89 ?_
        | refine ji_83 ?_
        | refine ji_82 ?_
        | refine ji_74 ?_
        | refine ji_68 ?_
        | refine ji_69 ?_
        | refine ji_77 ?_
        | refine ji_78 ?_
        | refine ji_79 ?_
      refine hQ _ ?_
      exact hI
  by_cases ga1 : 1000000 < a1
  · have ga11 : ¬ a1 < 1000001 := jl_nlt1 (n := 1000000) (by decide) ga1
    have ga12 : ¬ a1 ≤ 1000000 := jl_nle0 (n := 1000000) ga1
    refine ⟨0, fun σ1 => σ1 = σ, fun Q hQ => ji_9 ?_, fun σ1 hT Q hQ => ?_⟩
    · skip
      repeat first
        | refine ⟨Or.inr rfl, ?_⟩
        | refine ⟨Or.inl rfl, ?_⟩
        | refine ⟨fun q => absurd q (by assumption), fun _ => ?_⟩
        | refine ⟨fun _ => ?_, fun q => absurd (by assumption) q⟩
        | refine ⟨fun q => absurd q (of_decide_eq_true rfl), fun _ => ?_⟩
        | refine ⟨fun _ => ?_, fun q => absurd q (of_decide_eq_true rfl)⟩
        | refine ⟨jx_vin rfl, ?_⟩
        | refine ⟨by assumption, ?_⟩
        | refine ji_19 ?_
        | refine ji_89 ?_
        | refine ji_83 ?_
        | refine ji_82 ?_
        | refine ji_74 ?_
        | refine ji_68 ?_
        | refine ji_69 ?_
        | refine ji_77 ?_
        | refine ji_78 ?_
        | refine ji_79 ?_
      exact hQ _ rfl
    · subst hT
      refine ji_115 ?_
      repeat first
        | refine ⟨Or.inr rfl, ?_⟩
        | refine ⟨Or.inl rfl, ?_⟩
        | refine ⟨fun q => absurd q (by assumption), fun _ => ?_⟩
        | refine ⟨fun _ => ?_, fun q => absurd (by assumption) q⟩
        | refine ⟨fun q => absurd q (of_decide_eq_true rfl), fun _ => ?_⟩
        | refine ⟨fun _ => ?_, fun q => absurd q (of_decide_eq_true rfl)⟩
        | refine ⟨jx_vin rfl, ?_⟩
        | refine ⟨by assumption, ?_⟩
        | refine ji_19 ?_
        | refine ji_89 ?_
        | refine ji_83 ?_
        | refine ji_82 ?_
        | refine ji_74 ?_
        | refine ji_68 ?_
        | refine ji_69 ?_
        | refine ji_77 ?_
        | refine ji_78 ?_
        | refine ji_79 ?_
      refine hQ _ ?_
      exact hI
  have ga11 : a1 < 1000001 := jl_lt1 (n := 1000000) (by decide) ga1
  have ga12 : a1 ≤ 1000000 := jl_le0 (n := 1000000) ga1
  by_cases la4 : a4 < 0
  · skip
    refine ⟨0, fun σ1 => σ1 = σ, fun Q hQ => ji_9 ?_, fun σ1 hT Q hQ => ?_⟩
    · skip
      repeat first
        | refine ⟨Or.inr rfl, ?_⟩
        | refine ⟨Or.inl rfl, ?_⟩
        | refine ⟨fun q => absurd q (by assumption), fun _ => ?_⟩
        | refine ⟨fun _ => ?_, fun q => absurd (by assumption) q⟩
        | refine ⟨fun q => absurd q (of_decide_eq_true rfl), fun _ => ?_⟩
        | refine ⟨fun _ => ?_, fun q => absurd q (of_decide_eq_true rfl)⟩
        | refine ⟨jx_vin rfl, ?_⟩
        | refine ⟨by assumption, ?_⟩
        | refine ji_19 ?_
        | refine ji_89 ?_
        | refine ji_83 ?_
        | refine ji_82 ?_
        | refine ji_74 ?_
        | refine ji_68 ?_
        | refine ji_69 ?_
        | refine ji_77 ?_
        | refine ji_78 ?_
        | refine ji_79 ?_
      exact hQ _ rfl
    · subst hT
      refine ji_115 ?_
      repeat first
        | refine ⟨Or.inr rfl, ?_⟩
        | refine ⟨Or.inl rfl, ?_⟩
        | refine ⟨fun q => absurd q (by assumption), fun _ => ?_⟩
        | refine ⟨fun _ => ?_, fun q => absurd (by assumption) q⟩
        | refine ⟨fun q => absurd q (of_decide_eq_true rfl), fun _ => ?_⟩
        | refine ⟨fun _ => ?_, fun q => absurd q (of_decide_eq_true rfl)⟩
        | refine ⟨jx_vin rfl, ?_⟩
        | refine ⟨by assumption, ?_⟩
        | refine ji_19 ?_
        | refine ji_89 ?_
        | refine ji_83 ?_
        | refine ji_82 ?_
        | refine ji_74 ?_
        | refine ji_68 ?_
        | refine ji_69 ?_
        | refine ji_77 ?_
        | refine ji_78 ?_
        | refine ji_79 ?_
      refine hQ _ ?_
      exact hI
  by_cases ga4 : 15 < a4
  · have ga41 : ¬ a4 < 16 := jl_nlt1 (n := 15) (by decide) ga4
    have ga42 : ¬ a4 ≤ 15 := jl_nle0 (n := 15) ga4
    refine ⟨0, fun σ1 => σ1 = σ, fun Q hQ => ji_9 ?_, fun σ1 hT Q hQ => ?_⟩
    · skip
      repeat first
        | refine ⟨Or.inr rfl, ?_⟩
        | refine ⟨Or.inl rfl, ?_⟩
        | refine ⟨fun q => absurd q (by assumption), fun _ => ?_⟩
        | refine ⟨fun _ => ?_, fun q => absurd (by assumption) q⟩
        | refine ⟨fun q => absurd q (of_decide_eq_true rfl), fun _ => ?_⟩
        | refine ⟨fun _ => ?_, fun q => absurd q (of_decide_eq_true rfl)⟩
        | refine ⟨jx_vin rfl, ?_⟩
        | refine ⟨by assumption, ?_⟩
        | refine ji_19 ?_
        | refine ji_89 ?_
        | refine ji_83 ?_
        | refine ji_82 ?_
        | refine ji_74 ?_
        | refine ji_68 ?_
        | refine ji_69 ?_
        | refine ji_77 ?_
        | refine ji_78 ?_
        | refine ji_79 ?_
      exact hQ _ rfl
    · subst hT
      refine ji_115 ?_
      repeat first
        | refine ⟨Or.inr rfl, ?_⟩
        | refine ⟨Or.inl rfl, ?_⟩
        | refine ⟨fun q => absurd q (by assumption), fun _ => ?_⟩
        | refine ⟨fun _ => ?_, fun q => absurd (by assumption) q⟩
        | refine ⟨fun q => absurd q (of_decide_eq_true rfl), fun _ => ?_⟩
        | refine ⟨fun _ => ?_, fun q => absurd q (of_decide_eq_true rfl)⟩
        | refine ⟨jx_vin rfl, ?_⟩
        | refine ⟨by assumption, ?_⟩
        | refine ji_19 ?_
        | refine ji_89 ?_
        | refine ji_83 ?_
        | refine ji_82 ?_
        | refine ji_74 ?_
        | refine ji_68 ?_
        | refine ji_69 ?_
        | refine ji_77 ?_
        | refine ji_78 ?_
        | refine ji_79 ?_
      refine hQ _ ?_
      exact hI
  have ga41 : a4 < 16 := jl_lt1 (n := 15) (by decide) ga4
  have ga42 : a4 ≤ 15 := jl_le0 (n := 15) ga4
  by_cases la5 : a5 < 0
  · skip
    refine ⟨0, fun σ1 => σ1 = σ, fun Q hQ => ji_9 ?_, fun σ1 hT Q hQ => ?_⟩
    · skip
      repeat first
        | refine ⟨Or.inr rfl, ?_⟩
        | refine ⟨Or.inl rfl, ?_⟩
        | refine ⟨fun q => absurd q (by assumption), fun _ => ?_⟩
        | refine ⟨fun _ => ?_, fun q => absurd (by assumption) q⟩
        | refine ⟨fun q => absurd q (of_decide_eq_true rfl), fun _ => ?_⟩
        | refine ⟨fun _ => ?_, fun q => absurd q (of_decide_eq_true rfl)⟩
        | refine ⟨jx_vin rfl, ?_⟩
        | refine ⟨by assumption, ?_⟩
        | refine ji_19 ?_
        | refine ji_89 ?_
        | refine ji_83 ?_
        | refine ji_82 ?_
        | refine ji_74 ?_
        | refine ji_68 ?_
        | refine ji_69 ?_
        | refine ji_77 ?_
        | refine ji_78 ?_
        | refine ji_79 ?_
      exact hQ _ rfl
    · subst hT
      refine ji_115 ?_
      repeat first
        | refine ⟨Or.inr rfl, ?_⟩
        | refine ⟨Or.inl rfl, ?_⟩
        | refine ⟨fun q => absurd q (by assumption), fun _ => ?_⟩
        | refine ⟨fun _ => ?_, fun q => absurd (by assumption) q⟩
        | refine ⟨fun q => absurd q (of_decide_eq_true rfl), fun _ => ?_⟩
        | refine ⟨fun _ => ?_, fun q => absurd q (of_decide_eq_true rfl)⟩
        | refine ⟨jx_vin rfl, ?_⟩
        | refine ⟨by assumption, ?_⟩
        | refine ji_19 ?_
        | refine ji_89 ?_
        | refine ji_83 ?_
        | refine ji_82 ?_
        | refine ji_74 ?_
        | refine ji_68 ?_
        | refine ji_69 ?_
        | refine ji_77 ?_
        | refine ji_78 ?_
        | refine ji_79 ?_
      refine hQ _ ?_
      exact hI
  by_cases ga5 : 99 < a5
  · have ga51 : ¬ a5 < 100 := jl_nlt1 (n := 99) (by decide) ga5
    have ga52 : ¬ a5 ≤ 99 := jl_nle0 (n := 99) ga5
    refine ⟨0, fun σ1 => σ1 = σ, fun Q hQ => ji_9 ?_, fun σ1 hT Q hQ => ?_⟩
    · skip
      repeat first
        | refine ⟨Or.inr rfl, ?_⟩
        | refine ⟨Or.inl rfl, ?_⟩
        | refine ⟨fun q => absurd q (by assumption), fun _ => ?_⟩
        | refine ⟨fun _ => ?_, fun q => absurd (by assumption) q⟩
        | refine ⟨fun q => absurd q (of_decide_eq_true rfl), fun _ => ?_⟩
        | refine ⟨fun _ => ?_, fun q => absurd q (of_decide_eq_true rfl)⟩
        | refine ⟨jx_vin rfl, ?_⟩
        | refine ⟨by assumption, ?_⟩
        | refine ji_19 ?_
        | refine ji_89 ?_
        | refine ji_83 ?_
        | refine ji_82 ?_
        | refine ji_74 ?_
        | refine ji_68 ?_
        | refine ji_69 ?_
        | refine ji_77 ?_
        | refine ji_78 ?_
        | refine ji_79 ?_
      exact hQ _ rfl
    · subst hT
      refine ji_115 ?_
      repeat first
        | refine ⟨Or.inr rfl, ?_⟩
        | refine ⟨Or.inl rfl, ?_⟩
        | refine ⟨fun q => absurd q (by assumption), fun _ => ?_⟩
        | refine ⟨fun _ => ?_, fun q => absurd (by assumption) q⟩
        | refine ⟨fun q => absurd q (of_decide_eq_true rfl), fun _ => ?_⟩
        | refine ⟨fun _ => ?_, fun q => absurd q (of_decide_eq_true rfl)⟩
        | refine ⟨jx_vin rfl, ?_⟩
        | refine ⟨by assumption, ?_⟩
        | refine ji_19 ?_
        | refine ji_89 ?_
        | refine ji_83 ?_
        | refine ji_82 ?_
        | refine ji_74 ?_
        | refine ji_68 ?_
        | refine ji_69 ?_
        | refine ji_77 ?_
        | refine ji_78 ?_
        | refine ji_79 ?_
      refine hQ _ ?_
      exact hI
  have ga51 : a5 < 100 := jl_lt1 (n := 99) (by decide) ga5
  have ga52 : a5 ≤ 99 := jl_le0 (n := 99) ga5
  refine ⟨1, fun σ1 => σ1 = jx_su (jx_su (jx_su (jx_su (jx_su σ 23 6 a1) 23 7 a2) 23 8 a3) 23 9 a4) 23 10 a5, fun Q hQ => ji_9 ?_, fun σ1 hT Q hQ => ?_⟩
  · skip
    repeat first
      | refine ⟨Or.inr rfl, ?_⟩
      | refine ⟨Or.inl rfl, ?_⟩
      | refine ⟨fun q => absurd q (by assumption), fun _ => ?_⟩
      | refine ⟨fun _ => ?_, fun q => absurd (by assumption) q⟩
      | refine ⟨fun q => absurd q (of_decide_eq_true rfl), fun _ => ?_⟩
      | refine ⟨fun _ => ?_, fun q => absurd q (of_decide_eq_true rfl)⟩
      | refine ⟨jx_vin rfl, ?_⟩
      | refine ⟨by assumption, ?_⟩
      | refine ji_19 ?_
      | refine ji_89 ?_
      | refine ji_83 ?_
      | refine ji_82 ?_
      | refine ji_74 ?_
      | refine ji_68 ?_
      | refine ji_69 ?_
      | refine ji_77 ?_
      | refine ji_78 ?_
      | refine ji_79 ?_
    exact hQ _ rfl
  · subst hT
    refine ji_115 ?_
    repeat first
      | refine ⟨Or.inr rfl, ?_⟩
      | refine ⟨Or.inl rfl, ?_⟩
      | refine ⟨fun q => absurd q (by assumption), fun _ => ?_⟩
      | refine ⟨fun _ => ?_, fun q => absurd (by assumption) q⟩
      | refine ⟨fun q => absurd q (of_decide_eq_true rfl), fun _ => ?_⟩
      | refine ⟨fun _ => ?_, fun q => absurd q (of_decide_eq_true rfl)⟩
      | refine ⟨jx_vin rfl, ?_⟩
      | refine ⟨by assumption, ?_⟩
      | refine ji_19 ?_
      | refine ji_89 ?_
      | refine ji_83 ?_
      | refine ji_82 ?_
      | refine ji_74 ?_
      | refine ji_68 ?_
      | refine ji_69 ?_
      | refine ji_77 ?_
      | refine ji_78 ?_
      | refine ji_79 ?_
    refine hQ _ ?_
    obtain ⟨iD, iS, iR, iI, iG, iM, ⟨t1, t2, t3, t4, t5, t6, t7⟩, iL⟩ := hI
    exact ⟨iD, iS, iR, iI, iG, iM, ⟨rfl, rfl, rfl, rfl, rfl, t6, jl_nat (n := 1000000) (by decide) la1 ga1, (jl_nat (n := 15) (by decide) la4 ga4).imp (fun k h => ⟨by omega, h.2⟩), (jl_nat (n := 99) (by decide) la5 ga5).imp (fun k h => ⟨by omega, h.2⟩)⟩, iL⟩

set_option maxHeartbeats 2000000 in
theorem jv_begin {l : Launch} {D : va_G} {cA : ClassId} {ρ : Nat → Nat} {d : Nat} : jq_begin l D cA ρ (d + 3) iv_V iv_V := by
  intro σ hI
  refine ⟨fun σ1 => σ1 = jx_su (jx_su (jx_su (jx_su (jx_su (jx_su (jx_su (jx_su (jx_su (jx_su (jx_su (jx_su (jx_su (jx_su σ 23 2 0) 26 3 0) 30 0 0) 31 0 0) 30 1 0) 31 1 0) 30 2 0) 31 2 0) 23 6 0) 23 7 0) 23 8 40) 23 9 0) 23 10 0) 23 11 (-1), fun Q hQ => ji_5 ?_, fun σ1 hT Q hQ => ?_⟩
  · skip
    repeat first
      | refine ⟨Or.inr rfl, ?_⟩
      | refine ⟨Or.inl rfl, ?_⟩
      | refine ⟨fun q => absurd q (by assumption), fun _ => ?_⟩
      | refine ⟨fun _ => ?_, fun q => absurd (by assumption) q⟩
      | refine ⟨fun q => absurd q (of_decide_eq_true rfl), fun _ => ?_⟩
      | refine ⟨fun _ => ?_, fun q => absurd q (of_decide_eq_true rfl)⟩
      | refine ⟨jx_vin rfl, ?_⟩
      | refine ⟨by assumption, ?_⟩
      | refine ji_19 ?_
      | refine ji_89 ?_
      | refine ji_83 ?_
      | refine ji_82 ?_
      | refine ji_74 ?_
      | refine ji_68 ?_
      | refine ji_69 ?_
      | refine ji_77 ?_
      | refine ji_78 ?_
      | refine ji_79 ?_
    exact hQ _ rfl
  · subst hT
    refine ji_110 ?_
    repeat first
      | refine ⟨Or.inr rfl, ?_⟩
      | refine ⟨Or.inl rfl, ?_⟩
      | refine ⟨fun q => absurd q (by assumption), fun _ => ?_⟩
      | refine ⟨fun _ => ?_, fun q => absurd (by assumption) q⟩
      | refine ⟨fun q => absurd q (of_decide_eq_true rfl), fun _ => ?_⟩
      | refine ⟨fun _ => ?_, fun q => absurd q (of_decide_eq_true rfl)⟩
      | refine ⟨jx_vin rfl, ?_⟩
      | refine ⟨by assumption, ?_⟩
      | refine ji_19 ?_
      | refine ji_89 ?_
      | refine ji_83 ?_
      | refine ji_82 ?_
      | refine ji_74 ?_
      | refine ji_68 ?_
      | refine ji_69 ?_
      | refine ji_77 ?_
      | refine ji_78 ?_
      | refine ji_79 ?_
    refine hQ _ ?_
    obtain ⟨iD, iS, iR, iI, iG, iM, iT, iL⟩ := hI
    refine ⟨iD, iS, iR, ⟨0, by decide, rfl, rfl, fun i hi => absurd hi (Nat.not_lt_zero _)⟩, ⟨0, by decide, rfl, rfl, fun i hi => absurd hi (Nat.not_lt_zero _)⟩, ⟨rfl, fun t ht => ?_⟩, ⟨rfl, rfl, rfl, rfl, rfl, rfl, ⟨0, by decide, rfl⟩, ⟨0, by decide, rfl⟩, ⟨0, by decide, rfl⟩⟩, iL⟩
    match t, ht with
    | 0, _ => exact ⟨rfl, rfl, of_decide_eq_true rfl, of_decide_eq_true rfl⟩
    | 1, _ => exact ⟨rfl, rfl, of_decide_eq_true rfl, of_decide_eq_true rfl⟩
    | 2, _ => exact ⟨rfl, rfl, of_decide_eq_true rfl, of_decide_eq_true rfl⟩

theorem jx_coin_le {a1 : Int32} (h : a1 - a1 / 1000 * 1000 ≤ 0) : jx_coin a1 = 500 + 0 := by
  unfold jx_coin
  by_cases h1 : a1 - a1 / 1000 * 1000 < 0
  · rw [if_pos h1]
  · rw [if_neg h1]
    have e : a1 - a1 / 1000 * 1000 = 0 := Int32.le_antisymm h (Int32.not_lt.mp h1)
    rw [e]
theorem jx_coin_gt {a1 : Int32} (h : ¬ a1 - a1 / 1000 * 1000 ≤ 0) : jx_coin a1 = 500 + (a1 - a1 / 1000 * 1000) := by
  unfold jx_coin
  rw [if_neg (fun h1 => h (Int32.le_of_lt h1))]
def jx_FM (a1 : Int32) (σ : jx_St) : Prop := σ 34 0 = 0 ∧ σ 34 3 = 0 ∧ σ 34 23 = -1 ∧ σ 34 24 = 0 ∧ σ 34 25 = 2 ∧ σ 34 31 = 0 ∧ σ 34 33 = 0 ∧ σ 34 36 = 0 ∧ σ 34 42 = 0 ∧ σ 34 43 = 0 ∧ σ 34 44 = 40 ∧ σ 34 45 = 0 ∧ σ 34 46 = 0 ∧ σ 34 47 = -1 ∧ σ 48 0 = jx_coin a1 ∧ σ 48 1 = 0 ∧ σ 48 2 = 0 ∧ σ 48 3 = jx_coin a1 ∧ σ 48 4 = 0 ∧ σ 48 5 = 0 ∧ σ 49 0 = 0 ∧ σ 49 1 = 1 ∧ σ 50 0 = 0 ∧ σ 50 1 = 0 ∧ σ 51 0 = -1 ∧ σ 51 1 = -1 ∧ σ 52 0 = -1 ∧ σ 52 1 = -1 ∧ σ 53 = (fun _ => 0) ∧ σ 59 0 = 0 ∧ σ 59 1 = 0 ∧ σ 59 2 = 0 ∧ σ 60 0 = 0 ∧ σ 60 1 = 0 ∧ σ 60 2 = 0 ∧ σ 43 0 = 0 ∧ σ 44 0 = 0
set_option maxHeartbeats 8000000 in
set_option maxRecDepth 100000 in
theorem jcm_88 {l : Launch} {D : va_G} {cA : ClassId} {d : Nat} {σ : jx_St} {Q : List jx_Lc → jx_St → Prop} {a1 : Int32} (hz : ∀ i, σ 34 i = 0) (h : ∀ σ', (∀ p, p < 34 → σ' p = σ p) → jx_FM a1 σ' → Q jx_XM σ') : jn_C l D cA (d + 1) 88 28 2942 [.ref 34, .int a1] (jx_LX ++ [.inl (8, [none, some none, some none, none, some none, none, some none, some none, some none, some none, some none, none, some none, some none, none, some none, some none, some none, none, none, none, none, none, none, none, none, some none, some none, some none, some none, some none, none, some none, none, some none, some none, none, some none, some none, some none, some none, some none, none, none, none, none, none, none, some none, some none])]) σ Q := by
  refine jnc_88 ?_
  by_cases hc : a1 - a1 / 1000 * 1000 ≤ 0
  · skip
    repeat first
      | refine ⟨by decide, by decide, ?_⟩
      | refine ⟨jx_vin rfl, ?_⟩
      | refine ⟨fun _ => ?_, fun q => absurd hc q⟩
      | refine ⟨fun q => absurd q (of_decide_eq_true rfl), fun _ => ?_⟩
      | refine ⟨fun _ => ?_, fun q => absurd q (of_decide_eq_true rfl)⟩
      | refine ⟨of_decide_eq_true rfl, ?_⟩
    exact h _ (fun p hp => match p, hp with
      | 0, _ => rfl
      | 1, _ => rfl
      | 2, _ => rfl
      | 3, _ => rfl
      | 4, _ => rfl
      | 5, _ => rfl
      | 6, _ => rfl
      | 7, _ => rfl
      | 8, _ => rfl
      | 9, _ => rfl
      | 10, _ => rfl
      | 11, _ => rfl
      | 12, _ => rfl
      | 13, _ => rfl
      | 14, _ => rfl
      | 15, _ => rfl
      | 16, _ => rfl
      | 17, _ => rfl
      | 18, _ => rfl
      | 19, _ => rfl
      | 20, _ => rfl
      | 21, _ => rfl
      | 22, _ => rfl
      | 23, _ => rfl
      | 24, _ => rfl
      | 25, _ => rfl
      | 26, _ => rfl
      | 27, _ => rfl
      | 28, _ => rfl
      | 29, _ => rfl
      | 30, _ => rfl
      | 31, _ => rfl
      | 32, _ => rfl
      | 33, _ => rfl
      | n + 34, hp => absurd hp (by omega)) ⟨hz 0, hz 3, rfl, hz 24, rfl, hz 31, hz 33, hz 36, hz 42, hz 43, rfl, hz 45, hz 46, rfl, (jx_coin_le hc).symm, rfl, rfl, (jx_coin_le hc).symm, rfl, rfl, rfl, rfl, rfl, rfl, rfl, rfl, rfl, rfl, rfl, rfl, rfl, rfl, rfl, rfl, rfl, rfl, rfl⟩
  · skip
    repeat first
      | refine ⟨by decide, by decide, ?_⟩
      | refine ⟨jx_vin rfl, ?_⟩
      | refine ⟨fun q => absurd q hc, fun _ => ?_⟩
      | refine ⟨fun q => absurd q (of_decide_eq_true rfl), fun _ => ?_⟩
      | refine ⟨fun _ => ?_, fun q => absurd q (of_decide_eq_true rfl)⟩
      | refine ⟨of_decide_eq_true rfl, ?_⟩
    exact h _ (fun p hp => match p, hp with
      | 0, _ => rfl
      | 1, _ => rfl
      | 2, _ => rfl
      | 3, _ => rfl
      | 4, _ => rfl
      | 5, _ => rfl
      | 6, _ => rfl
      | 7, _ => rfl
      | 8, _ => rfl
      | 9, _ => rfl
      | 10, _ => rfl
      | 11, _ => rfl
      | 12, _ => rfl
      | 13, _ => rfl
      | 14, _ => rfl
      | 15, _ => rfl
      | 16, _ => rfl
      | 17, _ => rfl
      | 18, _ => rfl
      | 19, _ => rfl
      | 20, _ => rfl
      | 21, _ => rfl
      | 22, _ => rfl
      | 23, _ => rfl
      | 24, _ => rfl
      | 25, _ => rfl
      | 26, _ => rfl
      | 27, _ => rfl
      | 28, _ => rfl
      | 29, _ => rfl
      | 30, _ => rfl
      | 31, _ => rfl
      | 32, _ => rfl
      | 33, _ => rfl
      | n + 34, hp => absurd hp (by omega)) ⟨hz 0, hz 3, rfl, hz 24, rfl, hz 31, hz 33, hz 36, hz 42, hz 43, rfl, hz 45, hz 46, rfl, (jx_coin_gt hc).symm, rfl, rfl, (jx_coin_gt hc).symm, rfl, rfl, rfl, rfl, rfl, rfl, rfl, rfl, rfl, rfl, rfl, rfl, rfl, rfl, rfl, rfl, rfl, rfl, rfl⟩


theorem jx_vin {i : Int32} {n : Nat} (h : (decide (i < 0) || Nat.ble n i.toNatClampNeg) = false) : vp_in i n := by
  rw [Bool.or_eq_false_iff] at h
  intro q
  rcases q with q | q
  · exact absurd q (of_decide_eq_false h.1)
  · rw [Nat.ble_eq_true_of_le q] at h
    exact absurd h.2 (by decide)
def jx_coin (a1 : Int32) : Int32 := 500 + (if a1 - a1 / 1000 * 1000 < 0 then 0 else a1 - a1 / 1000 * 1000)
def jx_LX : List jx_Lc := [.inl (0, [some (some 1), some (some 3), some (some 15), some (some 23), some (some 32), some (some 33)]), .inl (1, [some (some 2), none]), .inr 48, .inl (2, [some (some 4), some (some 7), some (some 12), some (some 13), some (some 14), none, none, none, none, none, none, none, none, none, none, none]), .inl (3, [some (some 5), some (some 6), none]), .inr 288, .inr 288, .inl (4, [some (some 8), some (some 9), some (some 10), some (some 11), none]), .inr 512, .inr 512, .inr 512, .inr 512, .inr 128, .inr 128, .inr 128, .inl (5, [some (some 16), some (some 20), some (some 21), some (some 22), none, none]), .inl (6, [some (some 17), some (some 18), some (some 19), none]), .inr 48, .inr 48, .inr 144, .inr 48, .inr 41, .inr 41, .inl (7, [some (some 24), some (some 25), none, some (some 26), some (some 30), some (some 31), none, none, none, none, none, none]), .inr 3, .inr 3, .inl (6, [some (some 27), some (some 28), some (some 29), none]), .inr 3, .inr 3, .inr 9, .inr 3, .inr 3, .inr 10, .inr 0]
def jx_FX (a1 : Int32) (σ : jx_St) : Prop := σ 1 1 = 0 ∧ σ 3 13 = -1 ∧ σ 4 2 = 0 ∧ σ 15 4 = 0 ∧ σ 15 5 = 0 ∧ σ 16 3 = 2 ∧ σ 23 2 = 0 ∧ σ 26 3 = 0 ∧ σ 23 6 = 0 ∧ σ 23 7 = 0 ∧ σ 23 8 = 40 ∧ σ 23 9 = 0 ∧ σ 23 10 = 0 ∧ σ 23 11 = -1 ∧ σ 30 0 = 0 ∧ σ 30 1 = 0 ∧ σ 30 2 = 0 ∧ σ 31 0 = 0 ∧ σ 31 1 = 0 ∧ σ 31 2 = 0 ∧ σ 17 0 = 0 ∧ σ 17 1 = 1 ∧ σ 18 0 = 0 ∧ σ 18 1 = 0 ∧ σ 19 0 = jx_coin a1 ∧ σ 19 1 = 0 ∧ σ 19 2 = 0 ∧ σ 19 3 = jx_coin a1 ∧ σ 19 4 = 0 ∧ σ 19 5 = 0 ∧ σ 20 0 = -1 ∧ σ 20 1 = -1 ∧ σ 21 0 = 2 ∧ σ 22 0 = 0
set_option maxHeartbeats 4000000 in
set_option maxRecDepth 100000 in
theorem jcx_0 {l : Launch} {D : va_G} {cA : ClassId} {d : Nat} {σ : jx_St} {Q : List jx_Lc → jx_St → Prop} {a1 : Int32} (h : ∀ σ', jx_FX a1 σ' → Q jx_LX σ') : jn_C l D cA (d + 5) 0 33 3740 [.ref 0, .int a1] [.inl (0, [some none, some none, some none, some none, some none, some none])] σ Q := by
  refine jnc_0 ?_
  repeat first
    | refine ⟨by decide, by decide, ?_⟩
    | refine ⟨jx_vin rfl, ?_⟩
    | refine ⟨Or.inr rfl, ?_⟩
    | refine ⟨Or.inl rfl, ?_⟩
    | refine ⟨fun q => absurd q (of_decide_eq_true rfl), fun _ => ?_⟩
    | refine ⟨fun _ => ?_, fun q => absurd q (of_decide_eq_true rfl)⟩
    | refine ⟨of_decide_eq_true rfl, ?_⟩
    | refine jnc_32 ?_
    | refine jnc_34 ?_
    | refine jnc_55 ?_
    | refine jnc_61 ?_
    | refine jnc_67 ?_
    | refine jnc_76 ?_
    | refine jnc_81 ?_
    | refine fun (ρ : Nat → Nat) => ji_78 ?_
    | refine fun (ρ : Nat → Nat) => ji_82 ?_
    | refine ji_77 ?_
    | refine ji_83 ?_
  exact h _ ⟨rfl, rfl, rfl, rfl, rfl, rfl, rfl, rfl, rfl, rfl, rfl, rfl, rfl, rfl, rfl, rfl, rfl, rfl, rfl, rfl, rfl, rfl, rfl, rfl, rfl, rfl, rfl, rfl, rfl, rfl, rfl, rfl, rfl, rfl⟩

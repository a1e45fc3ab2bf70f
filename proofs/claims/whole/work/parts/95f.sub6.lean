/-! submit: the guarantee -/
def su_gu (σ : jx_St) (m n : Nat) : Prop := ∃ o : Nat, o < m ∧ σ 34 47 = nI o ∧ σ 52 o = -1 ∧ (∀ i, i < n → σ 54 i ≠ nI o) ∧ su_sg σ (σ 49 o) ∧ σ 48 (3 * o + 1) = 0 ∧ σ 48 (3 * o + 2) = 0 ∧ 2 * σ 34 42 ≤ σ 48 (3 * o)
section SG
variable {l : Launch} {D : va_G} {cA : ClassId} {ρ : Nat → Nat} {d : Nat} {Q : Option Value → jx_St → Prop} {σ : jx_St} {m h n g c : Nat}
theorem su_84 {x : Int32} (hn : n ≤ 3) (en : σ 23 2 = nI n) (h1 : (¬ ∀ i, i < n → σ 24 i ≠ x) → Q (some (.int 1)) σ) (h0 : (∀ i, i < n → σ 24 i ≠ x) → Q (some (.int 0)) σ) : jx_C l D cA ρ jx_XM (d + 1) 84 [.ref 23, .int x] σ Q := by
  have loop : ∀ k i, i + k = n → (∀ j, j < i → σ 24 j ≠ x) → jx_J l D cA ρ jx_XM (jx_A ρ jx_XM) jx_tb0 (d + 1) 84 Q 2 [(2, .int (nI i)), (0, .ref 23), (1, .int x)] [] σ := by
    intro k
    induction k with
    | zero =>
      intro i hi hp
      have e : i = n := by omega
      subst e
      have c : σ 23 2 ≤ nI i := by rw [en]; exact Int32.le_refl _
      refine jx_go jk_84 (fun _ _ _ z => z) 60 [2] ?_
      exact ⟨fun _ => ⟨Or.inl rfl, h0 hp⟩, fun q => absurd c q⟩
    | succ k ih =>
      intro i hi hp
      have c : ¬ σ 23 2 ≤ nI i := by rw [en]; exact nI_ge (by omega) (by omega)
      have v : vp_in (nI i) 3 := vp_in_nI (by omega) (by decide)
      have ec : (nI i).toNatClampNeg = i := nI_clamp (by omega)
      refine jx_go jk_84 (fun _ _ _ z => z) 60 [2] ?_
      refine ⟨fun q => absurd q c, fun _ => ⟨v, ?_⟩⟩
      rw [ec]
      by_cases hx : σ 24 i = x
      · exact ⟨fun q => absurd hx q, fun _ => ⟨Or.inr rfl, h1 (fun z => z i (by omega) hx)⟩⟩
      · have h9 := ih (i + 1) (by omega) (fun j hj => by
          by_cases e : j = i
          · rw [e]; exact hx
          · exact hp j (by omega))
        rw [← nI_1] at h9
        exact ⟨fun _ => h9, fun q => absurd q hx⟩
  refine jx_in jk_84 40 [2] rfl (Nat.le_of_ble_eq_true rfl) ?_
  exact loop n 0 (by omega) (fun j hj => absurd hj (Nat.not_lt_zero _))
theorem su_111 {x : Int32} (hn : n ≤ 3) (en : σ 34 33 = nI n) (h1 : (¬ ∀ i, i < n → σ 54 i ≠ x) → Q (some (.int 1)) σ) (h0 : (∀ i, i < n → σ 54 i ≠ x) → Q (some (.int 0)) σ) : jx_C l D cA ρ jx_XM (d + 1) 111 [.ref 34, .int x] σ Q := by
  have loop : ∀ k i (b : Int32), i + k = n → ((b = 0 ∧ ∀ j, j < i → σ 54 j ≠ x) ∨ (b = 1 ∧ ¬ ∀ j, j < n → σ 54 j ≠ x)) → jx_J l D cA ρ jx_XM (jx_A ρ jx_XM) jx_tb0 (d + 1) 111 Q 4 [(3, .int (nI i)), (2, .int b), (0, .ref 34), (1, .int x)] [] σ := by
    intro k
    induction k with
    | zero =>
      intro i b hi hp
      have e : i = n := by omega
      subst e
      have c : σ 34 33 ≤ nI i := by rw [en]; exact Int32.le_refl _
      refine jx_go jk_111 (fun _ _ _ z => z) 60 [4] ?_
      rcases hp with ⟨rfl, hp⟩ | ⟨rfl, hp⟩
      · exact ⟨fun _ => ⟨Or.inl rfl, h0 hp⟩, fun q => absurd c q⟩
      · exact ⟨fun _ => ⟨Or.inr rfl, h1 hp⟩, fun q => absurd c q⟩
    | succ k ih =>
      intro i b hi hp
      have c : ¬ σ 34 33 ≤ nI i := by rw [en]; exact nI_ge (by omega) (by omega)
      have v : vp_in (nI i) 3 := vp_in_nI (by omega) (by decide)
      have ec : (nI i).toNatClampNeg = i := nI_clamp (by omega)
      refine jx_go jk_111 (fun _ _ _ z => z) 60 [4] ?_
      rcases hp with ⟨rfl, hp⟩ | ⟨rfl, hp⟩
      · refine ⟨fun q => absurd q c, fun _ => ⟨fun q => absurd rfl q, fun _ => ⟨v, ?_⟩⟩⟩
        rw [ec]
        by_cases hx : σ 54 i = x
        · have h9 := ih (i + 1) 1 (by omega) (Or.inr ⟨rfl, fun z => z i (by omega) hx⟩)
          rw [← nI_1] at h9
          exact ⟨fun q => absurd hx q, fun _ => h9⟩
        · have h9 := ih (i + 1) 0 (by omega) (Or.inl ⟨rfl, fun j hj => by
            by_cases e : j = i
            · rw [e]; exact hx
            · exact hp j (by omega)⟩)
          rw [← nI_1] at h9
          exact ⟨fun _ => h9, fun q => absurd q hx⟩
      · have h9 := ih (i + 1) 1 (by omega) (Or.inr ⟨rfl, hp⟩)
        rw [← nI_1] at h9
        exact ⟨fun q => absurd q c, fun _ => ⟨fun _ => h9, fun q => absurd q (by decide)⟩⟩
  refine jx_in jk_111 40 [4] rfl (Nat.le_of_ble_eq_true rfl) ?_
  exact loop n 0 0 (by omega) (Or.inl ⟨rfl, fun j hj => absurd hj (Nat.not_lt_zero _)⟩)
theorem su_28 (hm : m ≤ 48) (em : σ 16 3 = nI m) (hh : h ≤ 40) (hO : ∀ o, o < m → iv_O σ o h) (hn : n ≤ 3) (en : σ 23 2 = nI n) (e24 : ∀ i, i < n → σ 24 i = σ 54 i) (e9 : σ 23 9 = σ 34 45) (e11 : σ 23 11 = σ 34 47) (e6 : σ 23 6 = σ 34 42) (h1 : su_gu σ m n → Q (some (.int 1)) σ) (h0 : ¬ su_gu σ m n → Q (some (.int 0)) σ) : jx_C l D cA ρ jx_XM (d + 3) 28 [.ref 0] σ Q := by
  refine ji_28 ?_
  refine su_69 hm em hh hO (fun ht => ?_) (fun ht => ?_)
  · obtain ⟨o, ho, eo, es⟩ := ht
    have eo4 : σ 34 47 = nI o := e11.symm.trans eo
    obtain ⟨o1, -, -, -, -, o6, -⟩ := hO o ho
    have ecl : (σ 23 11).toNatClampNeg = o := by rw [eo]; exact nI_clamp (by omega)
    have v : vp_in (σ 23 11) 48 := by rw [eo]; exact vp_in_nI (by omega) (by decide)
    have uniq : ∀ {P : Nat → Prop}, (∃ o' : Nat, o' < m ∧ σ 34 47 = nI o' ∧ P o') → P o := fun ⟨o', a, b, p⟩ => by
      rw [eo4] at b
      rw [(nI_eq (by omega) (by omega)).mp b]
      exact p
    refine ⟨fun q => absurd q (by decide), fun _ => ?_⟩
    refine su_84 hn en (fun hi => ?_) (fun hi => ?_)
    · refine ⟨fun q => absurd q (by decide), fun _ => ⟨Or.inl rfl, h0 (fun z => hi (fun i hin => ?_))⟩⟩
      have := uniq z
      rw [e24 i hin, eo]
      exact this.2.1 i hin
    · have hi2 : ∀ i, i < n → σ 54 i ≠ nI o := fun i hin => by rw [← e24 i hin, ← eo]; exact hi i hin
      refine ⟨fun _ => ⟨v, ?_⟩, fun q => absurd rfl q⟩
      rw [ecl, o1]
      refine su_87 e9 (fun hs => ?_) (fun hs => ?_)
      · refine ⟨fun _ => ?_, fun q => absurd q (by decide)⟩
        have ix1 : σ 23 11 * 3 + 1 = nI (3 * o + 1) := by rw [eo]; exact jl_x3 1 (by omega) (by decide)
        have ix2 : σ 23 11 * 3 + (1 + 1) = nI (3 * o + 2) := by rw [eo]; exact jl_x3 2 (by omega) (by decide)
        have ix0 : σ 23 11 * 3 + 0 = nI (3 * o + 0) := by rw [eo]; exact jl_x3 0 (by omega) (by decide)
        have v1 : vp_in (σ 23 11 * 3 + 1) 144 := by rw [ix1]; exact vp_in_nI (by omega) (by decide)
        have v2 : vp_in (σ 23 11 * 3 + (1 + 1)) 144 := by rw [ix2]; exact vp_in_nI (by omega) (by decide)
        have v0 : vp_in (σ 23 11 * 3 + 0) 144 := by rw [ix0]; exact vp_in_nI (by omega) (by decide)
        have r1 : σ 19 (σ 23 11 * 3 + 1).toNatClampNeg = σ 48 (3 * o + 1) := by rw [ix1, nI_clamp (by omega)]; exact (o6 1 (by decide)).1
        have r2 : σ 19 (σ 23 11 * 3 + (1 + 1)).toNatClampNeg = σ 48 (3 * o + 2) := by rw [ix2, nI_clamp (by omega)]; exact (o6 2 (by decide)).1
        have r0 : σ 19 (σ 23 11 * 3 + 0).toNatClampNeg = σ 48 (3 * o) := by rw [ix0, nI_clamp (by omega)]; exact (o6 0 (by decide)).1
        refine ⟨fun q => absurd q (by decide), fun _ => ji_79 ⟨v1, ?_⟩⟩
        by_cases z1 : σ 48 (3 * o + 1) = 0
        · refine ⟨fun _ => ⟨fun q => absurd q (by decide), fun _ => ji_79 ⟨v2, ?_⟩⟩, fun q => absurd (r1.trans z1) q⟩
          by_cases z2 : σ 48 (3 * o + 2) = 0
          · refine ⟨fun _ => ⟨fun _ => ji_79 ⟨v0, ?_⟩, fun q => absurd (by decide) q⟩, fun q => absurd (r2.trans z2) q⟩
            by_cases z0 : 2 * σ 34 42 ≤ σ 48 (3 * o)
            · have z0' : ¬ σ 19 (σ 23 11 * 3 + 0).toNatClampNeg < 2 * σ 23 6 := by rw [r0, e6]; exact Int32.not_lt.mpr z0
              exact ⟨fun q => absurd q z0', fun _ => ⟨Or.inr rfl, h1 ⟨o, ho, eo4, es, hi2, hs, z1, z2, z0⟩⟩⟩
            · have z0' : σ 19 (σ 23 11 * 3 + 0).toNatClampNeg < 2 * σ 23 6 := by rw [r0, e6]; exact Int32.not_le.mp z0
              exact ⟨fun _ => ⟨Or.inl rfl, h0 (fun z => z0 (uniq z).2.2.2.2.2)⟩, fun q => absurd z0' q⟩
          · exact ⟨fun q => absurd (r2.symm.trans q) z2, fun _ => ⟨Or.inl rfl, h0 (fun z => z2 (uniq z).2.2.2.2.1)⟩⟩
        · exact ⟨fun q => absurd (r1.symm.trans q) z1, fun _ => ⟨Or.inl rfl, h0 (fun z => z1 (uniq z).2.2.2.1)⟩⟩
      · exact ⟨fun q => absurd rfl q, fun _ => ⟨Or.inl rfl, h0 (fun z => hs (uniq z).2.2.1)⟩⟩
  · exact ⟨fun _ => ⟨Or.inl rfl, h0 (fun ⟨o, a, b, c, _⟩ => ht ⟨o, a, e11.trans b, c⟩)⟩, fun q => absurd rfl q⟩
theorem lg_cmplt {x y : Int64} : lg_cmp x y < 0 ↔ x < y := by
  unfold lg_cmp
  by_cases h1 : x > y
  · rw [if_pos h1]
    exact ⟨fun z => absurd z (by decide), fun z => absurd h1 (Int64.not_lt.mpr (Int64.le_of_lt z))⟩
  · rw [if_neg h1]
    by_cases h2 : x = y
    · rw [if_pos h2]
      refine ⟨fun z => absurd z (by decide), fun z => ?_⟩
      rw [h2] at z
      exact absurd z (Int64.lt_irrefl)
    · rw [if_neg h2]
      refine ⟨fun _ => ?_, fun _ => by decide⟩
      rcases Int64.lt_or_le x y with z | z
      · exact z
      · exact absurd (Int64.lt_of_le_of_ne z (fun e => h2 e.symm)) h1
theorem su_2f {f a : Nat} (hf : f ≤ 1000000) (ha : a ≤ 1000000) : (nI a).toInt64 < 2 * (nI f).toInt64 ↔ ¬ 2 * nI f ≤ nI a := by
  have e1 : (2 * nI f : Int32) = nI (2 * f) := pk_mul 2 f
  have e2 : (2 * (nI f).toInt64 : Int64).toInt = 2 * (f : Int) := by
    rw [Int64.toInt_mul, Int32.toInt_toInt64, nI_toInt (by omega), show (2 : Int64).toInt = 2 from rfl]
    exact Int.bmod_eq_of_le (by omega) (by omega)
  rw [e1, Int64.lt_iff_toInt_lt, e2, Int32.toInt_toInt64, nI_toInt (by omega), nI_leI (by omega) (by omega)]
  omega
theorem su_123 (hm : m ≤ 48) (em : σ 34 25 = nI m) (hh : h ≤ 40) (hO : im_O σ m h) (hn : n ≤ 3) (en : σ 34 33 = nI n) (hf : ∃ k : Nat, k ≤ 1000000 ∧ σ 34 42 = nI k) (h1 : su_gu σ m n → Q (some (.int 1)) σ) (h0 : ¬ su_gu σ m n → Q (some (.int 0)) σ) : jx_C l D cA ρ jx_XM (d + 3) 123 [.ref 34] σ Q := by
  by_cases hneg : σ 34 47 < 0
  · refine ji_123 ⟨fun _ => ⟨Or.inl rfl, h0 (fun ⟨o, a, b, _⟩ => ?_)⟩, fun q => absurd hneg q⟩
    rw [b] at hneg
    exact absurd hneg (nI_pos (by omega))
  refine ji_123 ⟨fun q => absurd q hneg, fun _ => ?_⟩
  refine su_117 hm em hh hO (fun ht => ?_) (fun ht => ?_)
  · obtain ⟨o, ho, eo, es⟩ := ht
    obtain ⟨-, -, o6⟩ := hO o ho
    have ecl : (σ 34 47).toNatClampNeg = o := by rw [eo]; exact nI_clamp (by omega)
    have v : vp_in (σ 34 47) 48 := by rw [eo]; exact vp_in_nI (by omega) (by decide)
    have uniq : ∀ {P : Nat → Prop}, (∃ o' : Nat, o' < m ∧ σ 34 47 = nI o' ∧ P o') → P o := fun ⟨o', a, b, p⟩ => by
      rw [eo] at b
      rw [(nI_eq (by omega) (by omega)).mp b]
      exact p
    refine ⟨fun q => absurd q (by decide), fun _ => ?_⟩
    refine su_111 hn en (fun hi => ?_) (fun hi => ?_)
    · refine ⟨fun q => absurd q (by decide), fun _ => ⟨Or.inl rfl, h0 (fun z => hi (fun i hin => ?_))⟩⟩
      have := uniq z
      rw [eo]
      exact this.2.1 i hin
    · have hi2 : ∀ i, i < n → σ 54 i ≠ nI o := fun i hin => by rw [← eo]; exact hi i hin
      refine ⟨fun _ => ⟨v, ?_⟩, fun q => absurd rfl q⟩
      rw [ecl]
      refine su_120 (fun hs => ?_) (fun hs => ?_)
      · have ix1 : 3 * σ 34 47 + 1 = nI (3 * o + 1) := by rw [eo]; exact jl_m3 1 (by omega) (by decide)
        have ix2 : 3 * σ 34 47 + 2 = nI (3 * o + 2) := by rw [eo]; exact jl_m3 2 (by omega) (by decide)
        have ix0 : 3 * σ 34 47 = nI (3 * o) := by rw [eo]; exact jl_m30
        have v1 : vp_in (3 * σ 34 47 + 1) 144 := by rw [ix1]; exact vp_in_nI (by omega) (by decide)
        have v2 : vp_in (3 * σ 34 47 + 2) 144 := by rw [ix2]; exact vp_in_nI (by omega) (by decide)
        have v0 : vp_in (3 * σ 34 47) 144 := by rw [ix0]; exact vp_in_nI (by omega) (by decide)
        have r1 : σ 48 (3 * σ 34 47 + 1).toNatClampNeg = σ 48 (3 * o + 1) := by rw [ix1, nI_clamp (by omega)]
        have r2 : σ 48 (3 * σ 34 47 + 2).toNatClampNeg = σ 48 (3 * o + 2) := by rw [ix2, nI_clamp (by omega)]
        have r0 : σ 48 (3 * σ 34 47).toNatClampNeg = σ 48 (3 * o) := by rw [ix0, nI_clamp (by omega)]
        obtain ⟨ka, hka, eka⟩ := o6 0 (by decide)
        obtain ⟨kf, hkf, ekf⟩ := hf
        have eka : σ 48 (3 * o) = nI ka := eka
        have cmp : lg_cmp (σ 48 (3 * σ 34 47).toNatClampNeg).toInt64 (2 * (σ 34 42).toInt64) < 0 ↔ ¬ 2 * σ 34 42 ≤ σ 48 (3 * o) := by
          rw [lg_cmplt, r0, eka, ekf]
          exact su_2f hkf hka
        refine ⟨fun q => absurd q (by decide), fun _ => ⟨v1, ?_⟩⟩
        by_cases z1 : σ 48 (3 * o + 1) = 0
        · refine ⟨fun q => absurd (r1.trans z1) q, fun _ => ⟨v2, ?_⟩⟩
          by_cases z2 : σ 48 (3 * o + 2) = 0
          · refine ⟨fun q => absurd (r2.trans z2) q, fun _ => ⟨v0, ?_⟩⟩
            by_cases z0 : 2 * σ 34 42 ≤ σ 48 (3 * o)
            · exact ⟨fun q => absurd z0 (cmp.mp q), fun _ => ⟨Or.inr rfl, h1 ⟨o, ho, eo, es, hi2, hs, z1, z2, z0⟩⟩⟩
            · exact ⟨fun _ => ⟨Or.inl rfl, h0 (fun z => z0 (uniq z).2.2.2.2.2)⟩, fun q => absurd (cmp.mpr z0) q⟩
          · exact ⟨fun _ => ⟨Or.inl rfl, h0 (fun z => z2 (uniq z).2.2.2.2.1)⟩, fun q => absurd (r2.symm.trans q) z2⟩
        · exact ⟨fun _ => ⟨Or.inl rfl, h0 (fun z => z1 (uniq z).2.2.2.1)⟩, fun q => absurd (r1.symm.trans q) z1⟩
      · exact ⟨fun _ => ⟨Or.inl rfl, h0 (fun z => hs (uniq z).2.2.1)⟩, fun q => absurd rfl q⟩
  · exact ⟨fun _ => ⟨Or.inl rfl, h0 (fun ⟨o, a, b, c, _⟩ => ht ⟨o, a, b, c⟩)⟩, fun q => absurd rfl q⟩
end SG

/-! submit: what the first phase asks -/
def su_th (σ : jx_St) (m : Nat) (x : Int32) : Prop := ∃ o : Nat, o < m ∧ x = nI o ∧ σ 52 o = -1
/-- what the model alone says of its outputs -/
def im_O (σ : jx_St) (m h : Nat) : Prop := ∀ o, o < m → (∃ k : Nat, k < 10 ∧ σ 49 o = nI k) ∧ (σ 52 o = -1 ∨ ∃ j : Nat, j ≤ h ∧ σ 52 o = nI j) ∧ ∀ t, t < 3 → ∃ k : Nat, k ≤ 1000000 ∧ σ 48 (3 * o + t) = nI k
theorem im_of {σ : jx_St} {m h : Nat} (hO : ∀ o, o < m → iv_O σ o h) : im_O σ m h := fun o ho => ⟨(hO o ho).2.2.2.1, (hO o ho).2.2.2.2.1, fun t ht => ((hO o ho).2.2.2.2.2.1 t ht).2⟩
section SU
variable {l : Launch} {D : va_G} {cA : ClassId} {ρ : Nat → Nat} {d : Nat} {Q : Option Value → jx_St → Prop} {σ : jx_St} {m h n g : Nat}
theorem su_69 {x : Int32} (hm : m ≤ 48) (em : σ 16 3 = nI m) (hh : h ≤ 40) (hO : ∀ o, o < m → iv_O σ o h) (h1 : su_th σ m x → Q (some (.int 1)) σ) (h0 : ¬ su_th σ m x → Q (some (.int 0)) σ) : jx_C l D cA ρ jx_XM (d + 2) 69 [.ref 15, .int x] σ Q := by
  rcases pk_ix x (n := m) (by omega) with hx | hx | ⟨o, ho, rfl⟩
  · have h9 := h0 (fun ⟨o, a, b, c⟩ => absurd (show nI o < 0 by rw [← b]; exact hx) (nI_pos (by omega)))
    exact ji_69 (ji_68 ⟨fun _ => ⟨Or.inl rfl, fun _ => ⟨Or.inl rfl, h9⟩, fun q => absurd rfl q⟩, fun q => absurd hx q⟩)
  · have hx' : σ 16 3 ≤ x := by rw [em]; exact hx
    have h9 := h0 (fun ⟨o, a, b, c⟩ => absurd (show nI m ≤ nI o by rw [← b]; exact hx) (nI_ge a (by omega)))
    by_cases hx0 : x < 0
    · exact ji_69 (ji_68 ⟨fun _ => ⟨Or.inl rfl, fun _ => ⟨Or.inl rfl, h9⟩, fun q => absurd rfl q⟩, fun q => absurd hx0 q⟩)
    · exact ji_69 (ji_68 ⟨fun q => absurd q hx0, fun _ => ⟨fun _ => ⟨Or.inl rfl, fun _ => ⟨Or.inl rfl, h9⟩, fun q => absurd rfl q⟩, fun q => absurd hx' q⟩⟩)
  · obtain ⟨-, -, o3, -, o5, -⟩ := hO o ho
    have g0 : ¬ nI o < 0 := nI_pos (by omega)
    have g1 : ¬ σ 16 3 ≤ nI o := by rw [em]; exact nI_ge ho (by omega)
    have v : vp_in (nI o) 48 := vp_in_nI (by omega) (by decide)
    have ec : (nI o).toNatClampNeg = o := nI_clamp (by omega)
    by_cases hs : σ 52 o = -1
    · have hs' : σ 20 (nI o).toNatClampNeg = -1 := by rw [ec, o3]; exact hs
      have h9 := h1 ⟨o, ho, rfl, hs⟩
      exact ji_69 (ji_68 ⟨fun q => absurd q g0, fun _ => ⟨fun q => absurd q g1, fun _ => ⟨Or.inr rfl, fun q => absurd q (by decide), fun _ => ⟨v, fun q => absurd hs' q, fun _ => ⟨Or.inr rfl, h9⟩⟩⟩⟩⟩)
    · have hs' : ¬ σ 20 (nI o).toNatClampNeg = -1 := by rw [ec, o3]; exact hs
      have h9 := h0 (fun ⟨o', a, b, c⟩ => hs (by rw [(nI_eq (by omega) (by omega)).mp b]; exact c))
      exact ji_69 (ji_68 ⟨fun q => absurd q g0, fun _ => ⟨fun q => absurd q g1, fun _ => ⟨Or.inr rfl, fun q => absurd q (by decide), fun _ => ⟨v, fun _ => ⟨Or.inl rfl, h9⟩, fun q => absurd q hs'⟩⟩⟩⟩)
theorem su_117 {x : Int32} (hm : m ≤ 48) (em : σ 34 25 = nI m) (hh : h ≤ 40) (hO : im_O σ m h) (h1 : su_th σ m x → Q (some (.int 1)) σ) (h0 : ¬ su_th σ m x → Q (some (.int 0)) σ) : jx_C l D cA ρ jx_XM (d + 2) 117 [.ref 34, .int x] σ Q := by
  rcases pk_ix x (n := m) (by omega) with hx | hx | ⟨o, ho, rfl⟩
  · have h9 := h0 (fun ⟨o, a, b, c⟩ => absurd (show nI o < 0 by rw [← b]; exact hx) (nI_pos (by omega)))
    exact ji_117 (ji_89 ⟨fun _ => ⟨Or.inr rfl, fun _ => ⟨Or.inl rfl, h9⟩, fun q => absurd q (by decide)⟩, fun q => absurd hx q⟩)
  · have hx' : ¬ x < σ 34 25 := by rw [em]; exact Int32.not_lt.mpr hx
    have h9 := h0 (fun ⟨o, a, b, c⟩ => absurd (show nI m ≤ nI o by rw [← b]; exact hx) (nI_ge a (by omega)))
    by_cases hx0 : x < 0
    · exact ji_117 (ji_89 ⟨fun _ => ⟨Or.inr rfl, fun _ => ⟨Or.inl rfl, h9⟩, fun q => absurd q (by decide)⟩, fun q => absurd hx0 q⟩)
    · exact ji_117 (ji_89 ⟨fun q => absurd q hx0, fun _ => ⟨fun q => absurd q hx', fun _ => ⟨Or.inr rfl, fun _ => ⟨Or.inl rfl, h9⟩, fun q => absurd q (by decide)⟩⟩⟩)
  · obtain ⟨-, o5, -⟩ := hO o ho
    have g0 : ¬ nI o < 0 := nI_pos (by omega)
    have g1 : nI o < σ 34 25 := by rw [em]; exact nI_lt ho (by omega)
    have v : vp_in (nI o) 48 := vp_in_nI (by omega) (by decide)
    have ec : (nI o).toNatClampNeg = o := nI_clamp (by omega)
    rcases o5 with hs | ⟨j, hj, hs⟩
    · have hs' : ¬ 0 ≤ σ 52 (nI o).toNatClampNeg := by rw [ec, hs]; decide
      have h9 := h1 ⟨o, ho, rfl, hs⟩
      exact ji_117 (ji_89 ⟨fun q => absurd q g0, fun _ => ⟨fun _ => ⟨Or.inl rfl, fun q => absurd rfl q, fun _ => ⟨v, fun q => absurd q hs', fun _ => ⟨Or.inr rfl, h9⟩⟩⟩, fun q => absurd g1 q⟩⟩)
    · have hs' : 0 ≤ σ 52 (nI o).toNatClampNeg := by rw [ec, hs]; exact nI_pos' (by omega)
      have h9 := h0 (fun ⟨o', a, b, c⟩ => by
        have e1 := (nI_eq (by omega) (by omega)).mp b
        rw [← e1, hs] at c
        exact absurd (show nI j < 0 by rw [c]; decide) (nI_pos (by omega)))
      exact ji_117 (ji_89 ⟨fun q => absurd q g0, fun _ => ⟨fun _ => ⟨Or.inl rfl, fun q => absurd rfl q, fun _ => ⟨v, fun _ => ⟨Or.inl rfl, h9⟩, fun q => absurd hs' q⟩⟩, fun q => absurd g1 q⟩⟩)
/-- are all the inputs there -/
theorem su_21 (hm : m ≤ 48) (em : σ 16 3 = nI m) (hh : h ≤ 40) (hO : ∀ o, o < m → iv_O σ o h) (hn : n ≤ 3) (en : σ 23 2 = nI n) (h1 : (∀ i, i < n → su_th σ m (σ 24 i)) → Q (some (.int 1)) σ) (h0 : (¬ ∀ i, i < n → su_th σ m (σ 24 i)) → Q (some (.int 0)) σ) : jx_C l D cA ρ jx_XM (d + 3) 21 [.ref 0] σ Q := by
  have loop : ∀ k i, i + k = n → (∀ j, j < i → su_th σ m (σ 24 j)) → jx_J l D cA ρ jx_XM (jx_A ρ jx_XM) jx_tb0 (d + 3) 21 Q 2 [(1, .int (nI i)), (0, .ref 0)] [] σ := by
    intro k
    induction k with
    | zero =>
      intro i hi hp
      have e : i = n := by omega
      subst e
      have c : σ 23 2 ≤ nI i := by rw [en]; exact Int32.le_refl _
      refine jx_go jk_21 (fun _ _ _ z => z) 60 [2] ?_
      exact ⟨fun _ => ⟨Or.inr rfl, h1 hp⟩, fun q => absurd c q⟩
    | succ k ih =>
      intro i hi hp
      have c : ¬ σ 23 2 ≤ nI i := by rw [en]; exact nI_ge (by omega) (by omega)
      have v : vp_in (nI i) 3 := vp_in_nI (by omega) (by decide)
      have ec : (nI i).toNatClampNeg = i := nI_clamp (by omega)
      refine jx_go jk_21 (fun _ _ _ z => z) 60 [2] ?_
      refine ⟨fun q => absurd q c, fun _ => ⟨v, ?_⟩⟩
      refine su_69 hm em hh hO (fun ht => ?_) (fun ht => ?_)
      · rw [ec] at ht
        refine ⟨fun _ => ?_, fun q => absurd q (by decide)⟩
        have h9 := ih (i + 1) (by omega) (fun j hj => by
          by_cases e : j = i
          · rw [e]; exact ht
          · exact hp j (by omega))
        rw [← nI_1] at h9
        exact h9
      · rw [ec] at ht
        exact ⟨fun q => absurd rfl q, fun _ => ⟨Or.inl rfl, h0 (fun z => ht (z i (by omega)))⟩⟩
  refine jx_in jk_21 40 [2] rfl (Nat.le_of_ble_eq_true rfl) ?_
  exact loop n 0 (by omega) (fun j hj => absurd hj (Nat.not_lt_zero _))
theorem su_118 (hm : m ≤ 48) (em : σ 34 25 = nI m) (hh : h ≤ 40) (hO : im_O σ m h) (hn : n ≤ 3) (en : σ 34 33 = nI n) (h1 : (∀ i, i < n → su_th σ m (σ 54 i)) → Q (some (.int 1)) σ) (h0 : (¬ ∀ i, i < n → su_th σ m (σ 54 i)) → Q (some (.int 0)) σ) : jx_C l D cA ρ jx_XM (d + 3) 118 [.ref 34] σ Q := by
  have loop : ∀ k i (b : Int32), i + k = n → ((b = 1 ∧ ∀ j, j < i → su_th σ m (σ 54 j)) ∨ (b = 0 ∧ ¬ ∀ j, j < n → su_th σ m (σ 54 j))) → jx_J l D cA ρ jx_XM (jx_A ρ jx_XM) jx_tb0 (d + 3) 118 Q 4 [(2, .int (nI i)), (1, .int b), (0, .ref 34)] [] σ := by
    intro k
    induction k with
    | zero =>
      intro i b hi hp
      have e : i = n := by omega
      subst e
      have c : σ 34 33 ≤ nI i := by rw [en]; exact Int32.le_refl _
      refine jx_go jk_118 (fun _ _ _ z => z) 60 [4] ?_
      rcases hp with ⟨rfl, hp⟩ | ⟨rfl, hp⟩
      · exact ⟨fun _ => ⟨Or.inr rfl, h1 hp⟩, fun q => absurd c q⟩
      · exact ⟨fun _ => ⟨Or.inl rfl, h0 hp⟩, fun q => absurd c q⟩
    | succ k ih =>
      intro i b hi hp
      have c : ¬ σ 34 33 ≤ nI i := by rw [en]; exact nI_ge (by omega) (by omega)
      have v : vp_in (nI i) 3 := vp_in_nI (by omega) (by decide)
      have ec : (nI i).toNatClampNeg = i := nI_clamp (by omega)
      refine jx_go jk_118 (fun _ _ _ z => z) 60 [4] ?_
      rcases hp with ⟨rfl, hp⟩ | ⟨rfl, hp⟩
      · refine ⟨fun q => absurd q c, fun _ => ⟨fun q => absurd q (by decide), fun _ => ⟨v, ?_⟩⟩⟩
        refine su_117 hm em hh hO (fun ht => ?_) (fun ht => ?_)
        · rw [ec] at ht
          refine ⟨fun q => absurd q (by decide), fun _ => ?_⟩
          have h9 := ih (i + 1) 1 (by omega) (Or.inl ⟨rfl, fun j hj => by
            by_cases e : j = i
            · rw [e]; exact ht
            · exact hp j (by omega)⟩)
          rw [← nI_1] at h9
          exact h9
        · rw [ec] at ht
          refine ⟨fun _ => ?_, fun q => absurd rfl q⟩
          have h9 := ih (i + 1) 0 (by omega) (Or.inr ⟨rfl, fun z => ht (z i (by omega))⟩)
          rw [← nI_1] at h9
          exact h9
      · refine ⟨fun q => absurd q c, fun _ => ⟨fun _ => ?_, fun q => absurd rfl q⟩⟩
        have h9 := ih (i + 1) 0 (by omega) (Or.inr ⟨rfl, hp⟩)
        rw [← nI_1] at h9
        exact h9
  refine jx_in jk_118 40 [4] rfl (Nat.le_of_ble_eq_true rfl) ?_
  exact loop n 0 1 (by omega) (Or.inl ⟨rfl, fun j hj => absurd hj (Nat.not_lt_zero _)⟩)
end SU

/-! submit: signatures and scripts -/
def su_sg (σ : jx_St) (x : Int32) : Prop := ¬ 4 ≤ x ∧ (σ 34 45 >>> (x &&& 31)) &&& 1 = 1
/-- the lock of an input -/
def su_L (σ : jx_St) (i : Nat) : Int32 := σ 49 (σ 54 i).toNatClampNeg
def su_A (kf : Nat → Nat) : Nat → Nat
  | 0 => 0
  | n + 1 => max (su_A kf n) (kf n - 3)
theorem su_Ale {kf : Nat → Nat} {c : Nat} : ∀ {n : Nat}, su_A kf n ≤ c ↔ ∀ i, i < n → kf i - 3 ≤ c
  | 0 => ⟨fun _ i hi => absurd hi (Nat.not_lt_zero _), fun _ => Nat.zero_le _⟩
  | n + 1 => by
    have ih := su_Ale (kf := kf) (c := c) (n := n)
    show max (su_A kf n) (kf n - 3) ≤ c ↔ _
    rw [Nat.max_le, ih]
    constructor
    · intro h i hi
      by_cases e : i = n
      · rw [e]; exact h.2
      · exact h.1 i (by omega)
    · intro h
      exact ⟨fun i hi => h i (by omega), h n (by omega)⟩
def su_k (σ : jx_St) (i : Nat) : Nat := (su_L σ i).toNatClampNeg
def su_A1 (σ : jx_St) (n : Nat) : Nat := if σ 59 1 = 0 then su_A (su_k σ) n else max (su_A (su_k σ) n) 1
def su_A2 (σ : jx_St) (n : Nat) : Nat := if σ 59 2 = 0 then su_A1 σ n else max (su_A1 σ n) 2
section SD
variable {l : Launch} {D : va_G} {cA : ClassId} {ρ : Nat → Nat} {d : Nat} {Q : Option Value → jx_St → Prop} {σ : jx_St} {m h n g c : Nat}
theorem su_87 {x : Int32} (e9 : σ 23 9 = σ 34 45) (h1 : su_sg σ x → Q (some (.int 1)) σ) (h0 : ¬ su_sg σ x → Q (some (.int 0)) σ) : jx_C l D cA ρ jx_XM (d + 1) 87 [.ref 23, .int x] σ Q := by
  by_cases c4 : 4 ≤ x
  · exact ji_87 ⟨fun _ => ⟨Or.inl rfl, h0 (fun z => z.1 c4)⟩, fun q => absurd c4 q⟩
  · by_cases cs : (σ 34 45 >>> (x &&& 31)) &&& 1 = 1
    · have cs' : (σ 23 9 >>> (x &&& 31)) &&& 1 = 1 := by rw [e9]; exact cs
      exact ji_87 ⟨fun q => absurd q c4, fun _ => ⟨fun q => absurd cs' q, fun _ => ⟨Or.inr rfl, h1 ⟨c4, cs⟩⟩⟩⟩
    · have cs' : ¬ (σ 23 9 >>> (x &&& 31)) &&& 1 = 1 := by rw [e9]; exact cs
      exact ji_87 ⟨fun q => absurd q c4, fun _ => ⟨fun _ => ⟨Or.inl rfl, h0 (fun z => cs z.2)⟩, fun q => absurd q cs'⟩⟩
theorem su_120 {x : Int32} (h1 : su_sg σ x → Q (some (.int 1)) σ) (h0 : ¬ su_sg σ x → Q (some (.int 0)) σ) : jx_C l D cA ρ jx_XM (d + 1) 120 [.ref 34, .int x] σ Q := by
  by_cases c4 : 4 ≤ x
  · exact ji_120 ⟨fun _ => ⟨Or.inl rfl, h0 (fun z => z.1 c4)⟩, fun q => absurd c4 q⟩
  · by_cases cs : (σ 34 45 >>> (x &&& 31)) &&& 1 = 1
    · exact ji_120 ⟨fun q => absurd q c4, fun _ => ⟨fun q => absurd cs q, fun _ => ⟨Or.inr rfl, h1 ⟨c4, cs⟩⟩⟩⟩
    · exact ji_120 ⟨fun q => absurd q c4, fun _ => ⟨fun _ => ⟨Or.inl rfl, h0 (fun z => cs z.2)⟩, fun q => absurd q cs⟩⟩
/-- the locks of the inputs -/
def su_LK (σ : jx_St) (m n : Nat) : Prop := ∀ i, i < n → ∃ o k : Nat, o < m ∧ k < 10 ∧ σ 24 i = nI o ∧ σ 54 i = nI o ∧ σ 17 o = nI k ∧ σ 49 o = nI k ∧ su_L σ i = nI k ∧ su_k σ i = k
theorem su_LKof (hm : m ≤ 48) (hO : ∀ o, o < m → iv_O σ o h) (hin : ∀ i, i < n → ∃ o, o < m ∧ σ 54 i = nI o) (e24 : ∀ i, i < n → σ 24 i = σ 54 i) : su_LK σ m n := fun i hi => by
  obtain ⟨o, ho, eo⟩ := hin i hi
  obtain ⟨o1, -, -, ⟨k, hk, ek⟩, -⟩ := hO o ho
  have el : su_L σ i = nI k := by unfold su_L; rw [eo, nI_clamp (by omega)]; exact ek
  exact ⟨o, k, ho, hk, by rw [e24 i hi]; exact eo, eo, o1.trans ek, ek, el, by unfold su_k; rw [el]; exact nI_clamp (by omega)⟩
/-- the same of the model alone -/
def su_LM (σ : jx_St) (m n : Nat) : Prop := ∀ i, i < n → ∃ o k : Nat, o < m ∧ k < 10 ∧ σ 54 i = nI o ∧ σ 49 o = nI k ∧ su_L σ i = nI k ∧ su_k σ i = k
theorem su_LMof (hL : su_LK σ m n) : su_LM σ m n := fun i hi => by
  obtain ⟨o, k, ho, hk, a1, a2, a3, a4, a5, a6⟩ := hL i hi
  exact ⟨o, k, ho, hk, a2, a4, a5, a6⟩
theorem su_24 (hm : m ≤ 48) (hn : n ≤ 3) (en : σ 23 2 = nI n) (e9 : σ 23 9 = σ 34 45) (hL : su_LK σ m n) (h1 : (∀ i, i < n → 4 ≤ su_L σ i ∨ su_sg σ (su_L σ i)) → Q (some (.int 1)) σ) (h0 : (¬ ∀ i, i < n → 4 ≤ su_L σ i ∨ su_sg σ (su_L σ i)) → Q (some (.int 0)) σ) : jx_C l D cA ρ jx_XM (d + 2) 24 [.ref 0] σ Q := by
  have loop : ∀ k i, i + k = n → (∀ j, j < i → 4 ≤ su_L σ j ∨ su_sg σ (su_L σ j)) → jx_J l D cA ρ jx_XM (jx_A ρ jx_XM) jx_tb0 (d + 2) 24 Q 2 [(1, .int (nI i)), (0, .ref 0)] [] σ := by
    intro k
    induction k with
    | zero =>
      intro i hi hp
      have e : i = n := by omega
      subst e
      have c : σ 23 2 ≤ nI i := by rw [en]; exact Int32.le_refl _
      refine jx_go jk_24 (fun _ _ _ z => z) 60 [2] ?_
      exact ⟨fun _ => ⟨Or.inr rfl, h1 hp⟩, fun q => absurd c q⟩
    | succ k ih =>
      intro i hi hp
      have c : ¬ σ 23 2 ≤ nI i := by rw [en]; exact nI_ge (by omega) (by omega)
      have v : vp_in (nI i) 3 := vp_in_nI (by omega) (by decide)
      have ec : (nI i).toNatClampNeg = i := nI_clamp (by omega)
      obtain ⟨o, kk, ho, hk, a1, a2, a3, a4, a5, a6⟩ := hL i (by omega)
      have v2 : vp_in (σ 24 (nI i).toNatClampNeg) 48 := by rw [ec, a1]; exact vp_in_nI (by omega) (by decide)
      have e2 : σ 17 (σ 24 (nI i).toNatClampNeg).toNatClampNeg = su_L σ i := by rw [ec, a1, nI_clamp (by omega), a3, a5]
      have goOn : 4 ≤ su_L σ i ∨ su_sg σ (su_L σ i) → jx_J l D cA ρ jx_XM (jx_A ρ jx_XM) jx_tb0 (d + 2) 24 Q 2 [(1, .int (nI i + 1)), (0, .ref 0)] [] σ := fun hb => by
        rw [nI_1]
        refine ih (i + 1) (by omega) (fun j hj => ?_)
        by_cases e : j = i
        · rw [e]; exact hb
        · exact hp j (by omega)
      refine jx_go jk_24 (fun _ _ _ z => z) 60 [2] ?_
      refine ⟨fun q => absurd q c, fun _ => ⟨v, v2, ?_⟩⟩
      rw [e2]
      by_cases c4 : 4 ≤ su_L σ i
      · exact ⟨fun _ => jx_Jsubh (goOn (Or.inl c4)) ⟨rfl, rfl, trivial⟩, fun q => absurd c4 q⟩
      · refine ⟨fun q => absurd q c4, fun _ => ?_⟩
        refine su_87 e9 (fun hs => ?_) (fun hs => ?_)
        · exact ⟨fun _ => jx_Jsubh (goOn (Or.inr hs)) ⟨rfl, rfl, trivial⟩, fun q => absurd q (by decide)⟩
        · exact ⟨fun q => absurd rfl q, fun _ => ⟨Or.inl rfl, h0 (fun z => (z i (by omega)).elim c4 hs)⟩⟩
  refine jx_in jk_24 40 [2] rfl (Nat.le_of_ble_eq_true rfl) ?_
  exact loop n 0 (by omega) (fun j hj => absurd hj (Nat.not_lt_zero _))
theorem su_121 (hm : m ≤ 48) (hn : n ≤ 3) (en : σ 34 33 = nI n) (hL : su_LM σ m n) (h1 : (∀ i, i < n → 4 ≤ su_L σ i ∨ su_sg σ (su_L σ i)) → Q (some (.int 1)) σ) (h0 : (¬ ∀ i, i < n → 4 ≤ su_L σ i ∨ su_sg σ (su_L σ i)) → Q (some (.int 0)) σ) : jx_C l D cA ρ jx_XM (d + 2) 121 [.ref 34] σ Q := by
  have loop : ∀ k i (b : Int32), i + k = n → ((b = 1 ∧ ∀ j, j < i → 4 ≤ su_L σ j ∨ su_sg σ (su_L σ j)) ∨ (b = 0 ∧ ¬ ∀ j, j < n → 4 ≤ su_L σ j ∨ su_sg σ (su_L σ j))) → jx_J l D cA ρ jx_XM (jx_A ρ jx_XM) jx_tb0 (d + 2) 121 Q 4 [(2, .int (nI i)), (1, .int b), (0, .ref 34)] [] σ := by
    intro k
    induction k with
    | zero =>
      intro i b hi hp
      have e : i = n := by omega
      subst e
      have c : σ 34 33 ≤ nI i := by rw [en]; exact Int32.le_refl _
      refine jx_go jk_121 (fun _ _ _ z => z) 60 [4] ?_
      rcases hp with ⟨rfl, hp⟩ | ⟨rfl, hp⟩
      · exact ⟨fun _ => ⟨Or.inr rfl, h1 hp⟩, fun q => absurd c q⟩
      · exact ⟨fun _ => ⟨Or.inl rfl, h0 hp⟩, fun q => absurd c q⟩
    | succ k ih =>
      intro i b hi hp
      have c : ¬ σ 34 33 ≤ nI i := by rw [en]; exact nI_ge (by omega) (by omega)
      have v : vp_in (nI i) 3 := vp_in_nI (by omega) (by decide)
      have ec : (nI i).toNatClampNeg = i := nI_clamp (by omega)
      obtain ⟨o, kk, ho, hk, a2, a4, a5, a6⟩ := hL i (by omega)
      have v2 : vp_in (σ 54 (nI i).toNatClampNeg) 48 := by rw [ec, a2]; exact vp_in_nI (by omega) (by decide)
      have e2 : σ 49 (σ 54 (nI i).toNatClampNeg).toNatClampNeg = su_L σ i := by rw [ec]; rfl
      have i3 : (3 : Int32) < su_L σ i ↔ 4 ≤ su_L σ i := by
        rw [a5, show (3 : Int32) = nI 3 from rfl, show (4 : Int32) = nI 4 from rfl, nI_ltI (by omega) (by omega), nI_leI (by omega) (by omega)]
        omega
      refine jx_go jk_121 (fun _ _ _ z => z) 60 [4] ?_
      rcases hp with ⟨rfl, hp⟩ | ⟨rfl, hp⟩
      · have goOn : 4 ≤ su_L σ i ∨ su_sg σ (su_L σ i) → jx_J l D cA ρ jx_XM (jx_A ρ jx_XM) jx_tb0 (d + 2) 121 Q 4 [(2, .int (nI i + 1)), (1, .int 1), (0, .ref 34)] [] σ := fun hb => by
          rw [nI_1]
          refine ih (i + 1) 1 (by omega) (Or.inl ⟨rfl, fun j hj => ?_⟩)
          by_cases e : j = i
          · rw [e]; exact hb
          · exact hp j (by omega)
        refine ⟨fun q => absurd q c, fun _ => ⟨fun q => absurd q (by decide), fun _ => ⟨v, v2, ?_⟩⟩⟩
        rw [e2]
        by_cases c4 : 4 ≤ su_L σ i
        · exact ⟨fun _ => goOn (Or.inl c4), fun q => absurd (i3.mpr c4) q⟩
        · refine ⟨fun q => absurd (i3.mp q) c4, fun _ => ⟨v, v2, ?_⟩⟩
          rw [e2]
          refine su_120 (fun hs => ?_) (fun hs => ?_)
          · exact ⟨fun q => absurd q (by decide), fun _ => goOn (Or.inr hs)⟩
          · refine ⟨fun _ => ?_, fun q => absurd rfl q⟩
            have h9 := ih (i + 1) 0 (by omega) (Or.inr ⟨rfl, fun z => (z i (by omega)).elim c4 hs⟩)
            rw [← nI_1] at h9
            exact h9
      · refine ⟨fun q => absurd q c, fun _ => ⟨fun _ => ?_, fun q => absurd rfl q⟩⟩
        have h9 := ih (i + 1) 0 (by omega) (Or.inr ⟨rfl, hp⟩)
        rw [← nI_1] at h9
        exact h9
  refine jx_in jk_121 40 [4] rfl (Nat.le_of_ble_eq_true rfl) ?_
  exact loop n 0 1 (by omega) (Or.inl ⟨rfl, fun j hj => absurd hj (Nat.not_lt_zero _)⟩)
/-- has a script -/
theorem su_56 {k : Nat} (hc : c ≤ 6) (ec : σ 4 2 = nI c) (hk : k < 100) (h1 : k < c → Q (some (.int 1)) σ) (h0 : ¬ k < c → Q (some (.int 0)) σ) : jx_C l D cA ρ jx_XM (d + 1) 56 [.ref 4, .int (nI k)] σ Q := by
  have g0 : ¬ nI k < 0 := nI_pos (by omega)
  by_cases h : k < c
  · have g1 : ¬ σ 4 2 ≤ nI k := by rw [ec]; exact nI_ge h (by omega)
    exact ji_56 ⟨fun q => absurd q g0, fun _ => ⟨fun q => absurd q g1, fun _ => ⟨Or.inr rfl, h1 h⟩⟩⟩
  · have g1 : σ 4 2 ≤ nI k := by rw [ec]; exact nI_le (by omega) (by omega)
    exact ji_56 ⟨fun q => absurd q g0, fun _ => ⟨fun _ => ⟨Or.inl rfl, h0 h⟩, fun q => absurd g1 q⟩⟩
theorem su_25 (hm : m ≤ 48) (hn : n ≤ 3) (en : σ 23 2 = nI n) (hc : c ≤ 6) (ec : σ 4 2 = nI c) (hL : su_LK σ m n) (e1 : σ 30 1 = σ 59 1) (e2 : σ 30 2 = σ 59 2) (h1 : su_A2 σ n ≤ c → Q (some (.int 1)) σ) (h0 : ¬ su_A2 σ n ≤ c → Q (some (.int 0)) σ) : jx_C l D cA ρ jx_XM (d + 2) 25 [.ref 0] σ Q := by
  have tail2 : su_A1 σ n ≤ c → jx_J l D cA ρ jx_XM (jx_A ρ jx_XM) jx_tb0 (d + 2) 25 Q 65 [(1, .int (nI 2)), (0, .ref 0)] [] σ := fun ha => by
    have v : vp_in (nI 2) 3 := vp_in_nI (by decide) (by decide)
    refine jx_go jk_25 (fun _ _ _ z => z) 100 [] ?_
    refine ⟨fun q => absurd q (by decide), fun _ => ⟨v, ?_⟩⟩
    by_cases z2 : σ 59 2 = 0
    · have z2' : σ 30 2 = 0 := by rw [e2]; exact z2
      refine ⟨fun _ => ⟨fun _ => ⟨Or.inr rfl, h1 (by unfold su_A2; rw [if_pos z2]; exact ha)⟩, fun q => absurd (by decide) q⟩, fun q => absurd z2' q⟩
    · have z2' : ¬ σ 30 2 = 0 := by rw [e2]; exact z2
      have ea : su_A2 σ n = max (su_A1 σ n) 2 := if_neg z2
      refine ⟨fun q => absurd q z2', fun _ => ji_27 (su_56 (k := 1) hc ec (by decide) (fun hk => ?_) (fun hk => ?_))⟩
      · exact ⟨fun _ => ⟨fun _ => ⟨Or.inr rfl, h1 (by rw [ea]; exact Nat.max_le.mpr ⟨ha, hk⟩)⟩, fun q => absurd (by decide) q⟩, fun q => absurd q (by decide)⟩
      · exact ⟨fun q => absurd rfl q, fun _ => ⟨Or.inl rfl, h0 (by rw [ea]; exact fun z => hk (Nat.max_le.mp z).2)⟩⟩
  have tail1 : su_A (su_k σ) n ≤ c → jx_J l D cA ρ jx_XM (jx_A ρ jx_XM) jx_tb0 (d + 2) 25 Q 65 [(1, .int 1), (0, .ref 0)] [] σ := fun ha => by
    have v : vp_in 1 3 := vp_in_nI (n := 1) (by decide) (by decide)
    refine jx_go jk_25 (fun _ _ _ z => z) 100 [65] ?_
    refine ⟨fun q => absurd q (by decide), fun _ => ⟨v, ?_⟩⟩
    by_cases z1 : σ 59 1 = 0
    · have z1' : σ 30 1 = 0 := by rw [e1]; exact z1
      exact ⟨fun _ => tail2 (by unfold su_A1; rw [if_pos z1]; exact ha), fun q => absurd z1' q⟩
    · have z1' : ¬ σ 30 1 = 0 := by rw [e1]; exact z1
      have ea : su_A1 σ n = max (su_A (su_k σ) n) 1 := if_neg z1
      refine ⟨fun q => absurd q z1', fun _ => ji_27 (su_56 (k := 0) hc ec (by decide) (fun hk => ?_) (fun hk => ?_))⟩
      · exact ⟨fun _ => tail2 (by rw [ea]; exact Nat.max_le.mpr ⟨ha, hk⟩), fun q => absurd q (by decide)⟩
      · refine ⟨fun q => absurd rfl q, fun _ => ⟨Or.inl rfl, h0 (fun z => hk ?_)⟩⟩
        have : 1 ≤ su_A2 σ n := by
          unfold su_A2
          rw [ea]
          split
          · exact Nat.le_max_right _ _
          · exact Nat.le_trans (Nat.le_max_right _ _) (Nat.le_max_left _ _)
        omega
  have big : ∀ i, i < n → ¬ su_k σ i - 3 ≤ c → ¬ su_A2 σ n ≤ c := fun i hi hk z => by
    have h2 : su_A (su_k σ) n ≤ su_A2 σ n := by
      unfold su_A2 su_A1
      split <;> split <;> omega
    exact hk (su_Ale.mp (Nat.le_trans h2 z) i hi)
  have loop : ∀ k i, i + k = n → (∀ j, j < i → su_k σ j - 3 ≤ c) → jx_J l D cA ρ jx_XM (jx_A ρ jx_XM) jx_tb0 (d + 2) 25 Q 2 [(1, .int (nI i)), (0, .ref 0)] [] σ := by
    intro k
    induction k with
    | zero =>
      intro i hi hp
      have e : i = n := by omega
      subst e
      have c : σ 23 2 ≤ nI i := by rw [en]; exact Int32.le_refl _
      refine jx_go jk_25 (fun _ _ _ z => z) 60 [2, 65] ?_
      exact ⟨fun _ => tail1 (su_Ale.mpr hp), fun q => absurd c q⟩
    | succ k ih =>
      intro i hi hp
      have cc : ¬ σ 23 2 ≤ nI i := by rw [en]; exact nI_ge (by omega) (by omega)
      have v : vp_in (nI i) 3 := vp_in_nI (by omega) (by decide)
      have ei : (nI i).toNatClampNeg = i := nI_clamp (by omega)
      obtain ⟨o, kk, ho, hk, a1, a2, a3, a4, a5, a6⟩ := hL i (by omega)
      have v2 : vp_in (σ 24 (nI i).toNatClampNeg) 48 := by rw [ei, a1]; exact vp_in_nI (by omega) (by decide)
      have e2 : σ 17 (σ 24 (nI i).toNatClampNeg).toNatClampNeg = nI kk := by rw [ei, a1, nI_clamp (by omega), a3]
      have goOn : su_k σ i - 3 ≤ c → jx_J l D cA ρ jx_XM (jx_A ρ jx_XM) jx_tb0 (d + 2) 25 Q 2 [(1, .int (nI i + 1)), (0, .ref 0)] [] σ := fun hb => by
        rw [nI_1]
        refine ih (i + 1) (by omega) (fun j hj => ?_)
        by_cases e : j = i
        · rw [e]; exact hb
        · exact hp j (by omega)
      refine jx_go jk_25 (fun _ _ _ z => z) 60 [2] ?_
      refine ⟨fun q => absurd q cc, fun _ => ⟨v, v2, ?_⟩⟩
      rw [e2]
      by_cases c4 : kk < 4
      · exact ⟨fun _ => jx_Jsubh (goOn (by omega)) ⟨rfl, rfl, trivial⟩, fun q => absurd (nI_lt (b := 4) c4 (by decide)) q⟩
      · have e4 : nI kk - 4 = nI (kk - 4) := pk_sub (b := 4) (by omega)
        refine ⟨fun q => absurd q (nI_nlt (b := 4) (by omega) (by omega)), fun _ => ?_⟩
        have h56 := fun K2 k1 k0 => su_56 (l := l) (D := D) (cA := cA) (ρ := ρ) (d := d) (Q := K2) (σ := σ) (k := kk - 4) hc ec (by omega) k1 k0
        rw [← e4] at h56
        refine h56 _ (fun hk' => ?_) (fun hk' => ?_)
        · exact ⟨fun _ => jx_Jsubh (goOn (by omega)) ⟨rfl, rfl, trivial⟩, fun q => absurd q (by decide)⟩
        · exact ⟨fun q => absurd rfl q, fun _ => ⟨Or.inl rfl, h0 (big i (by omega) (by omega))⟩⟩
  refine jx_in jk_25 40 [2] rfl (Nat.le_of_ble_eq_true rfl) ?_
  exact loop n 0 (by omega) (fun j hj => absurd hj (Nat.not_lt_zero _))
theorem su_26 (hm : m ≤ 48) (hn : n ≤ 3) (en : σ 23 2 = nI n) (hL : su_LK σ m n) (e1 : σ 30 1 = σ 59 1) (e2 : σ 30 2 = σ 59 2) (h1 : 1 ≤ su_A2 σ n → Q (some (.int 1)) σ) (h0 : ¬ 1 ≤ su_A2 σ n → Q (some (.int 0)) σ) : jx_C l D cA ρ jx_XM (d + 2) 26 [.ref 0] σ Q := by
  have tail1 : su_A (su_k σ) n = 0 → jx_J l D cA ρ jx_XM (jx_A ρ jx_XM) jx_tb0 (d + 2) 26 Q 47 [(1, .int 1), (0, .ref 0)] [] σ := fun ha => by
    have v : vp_in 1 3 := vp_in_nI (n := 1) (by decide) (by decide)
    have v2 : vp_in (1 + 1) 3 := vp_in_nI (n := 2) (by decide) (by decide)
    refine jx_go jk_26 (fun _ _ _ z => z) 100 [] ?_
    refine ⟨fun q => absurd q (by decide), fun _ => ⟨v, ?_⟩⟩
    by_cases z1 : σ 59 1 = 0
    · have z1' : σ 30 1 = 0 := by rw [e1]; exact z1
      have ea : su_A1 σ n = 0 := by unfold su_A1; rw [if_pos z1]; exact ha
      refine ⟨fun _ => ⟨fun q => absurd q (by decide), fun _ => ⟨v2, ?_⟩⟩, fun q => absurd z1' q⟩
      by_cases z2 : σ 59 2 = 0
      · have z2' : σ 30 2 = 0 := by rw [e2]; exact z2
        exact ⟨fun _ => ⟨fun _ => ⟨Or.inl rfl, h0 (by unfold su_A2; rw [if_pos z2, ea]; decide)⟩, fun q => absurd (by decide) q⟩, fun q => absurd z2' q⟩
      · have z2' : ¬ σ 30 2 = 0 := by rw [e2]; exact z2
        exact ⟨fun q => absurd q z2', fun _ => ⟨Or.inr rfl, h1 (by unfold su_A2; rw [if_neg z2]; omega)⟩⟩
    · have z1' : ¬ σ 30 1 = 0 := by rw [e1]; exact z1
      exact ⟨fun q => absurd q z1', fun _ => ⟨Or.inr rfl, h1 (by unfold su_A2 su_A1; rw [if_neg z1]; split <;> omega)⟩⟩
  have loop : ∀ k i, i + k = n → (∀ j, j < i → su_k σ j - 3 ≤ 0) → jx_J l D cA ρ jx_XM (jx_A ρ jx_XM) jx_tb0 (d + 2) 26 Q 2 [(1, .int (nI i)), (0, .ref 0)] [] σ := by
    intro k
    induction k with
    | zero =>
      intro i hi hp
      have e : i = n := by omega
      subst e
      have c : σ 23 2 ≤ nI i := by rw [en]; exact Int32.le_refl _
      refine jx_go jk_26 (fun _ _ _ z => z) 60 [2, 47] ?_
      exact ⟨fun _ => tail1 (Nat.le_zero.mp (su_Ale.mpr hp)), fun q => absurd c q⟩
    | succ k ih =>
      intro i hi hp
      have cc : ¬ σ 23 2 ≤ nI i := by rw [en]; exact nI_ge (by omega) (by omega)
      have v : vp_in (nI i) 3 := vp_in_nI (by omega) (by decide)
      have ei : (nI i).toNatClampNeg = i := nI_clamp (by omega)
      obtain ⟨o, kk, ho, hk, a1, a2, a3, a4, a5, a6⟩ := hL i (by omega)
      have v2 : vp_in (σ 24 (nI i).toNatClampNeg) 48 := by rw [ei, a1]; exact vp_in_nI (by omega) (by decide)
      have e2 : σ 17 (σ 24 (nI i).toNatClampNeg).toNatClampNeg = nI kk := by rw [ei, a1, nI_clamp (by omega), a3]
      refine jx_go jk_26 (fun _ _ _ z => z) 60 [2] ?_
      refine ⟨fun q => absurd q cc, fun _ => ⟨v, v2, ?_⟩⟩
      rw [e2]
      by_cases c4 : kk < 4
      · have h9 := ih (i + 1) (by omega) (fun j hj => by
          by_cases e : j = i
          · rw [e]; omega
          · exact hp j (by omega))
        rw [← nI_1] at h9
        exact ⟨fun _ => h9, fun q => absurd (nI_lt (b := 4) c4 (by decide)) q⟩
      · refine ⟨fun q => absurd q (nI_nlt (b := 4) (by omega) (by omega)), fun _ => ⟨Or.inr rfl, h1 ?_⟩⟩
        have h2 : su_A (su_k σ) n ≤ su_A2 σ n := by
          unfold su_A2 su_A1
          split <;> split <;> omega
        have h3 : ¬ su_A (su_k σ) n ≤ 0 := fun z => by
          have := su_Ale.mp z i (by omega)
          omega
        omega
  refine jx_in jk_26 40 [2] rfl (Nat.le_of_ble_eq_true rfl) ?_
  exact loop n 0 (by omega) (fun j hj => absurd hj (Nat.not_lt_zero _))
theorem su_122c {k a : Nat} (hk : k < 10) (ha : a < 100) : nI k - 4 ≤ nI a - 1 ↔ k - 3 ≤ a := by
  have e1 : (nI k - 4).toInt = (k : Int) - 4 := pk_sub_toInt (a := k) (b := 4) (by omega) (by decide)
  have e2 : (nI a - 1).toInt = (a : Int) - 1 := pk_sub_toInt (a := a) (b := 1) (by omega) (by decide)
  rw [Int32.le_iff_toInt_le, e1, e2]
  omega
theorem su_122d {k : Nat} (h : 4 ≤ k) : nI k - 4 = nI (k - 3) - 1 := by
  rw [show (4 : Int32) = nI 4 from rfl, pk_sub h, show (1 : Int32) = nI 1 from rfl, pk_sub (by omega)]
  exact congrArg nI (by omega)
theorem su_Alt {kf : Nat → Nat} : ∀ {n : Nat}, (∀ i, i < n → kf i < 10) → su_A kf n < 10
  | 0, _ => Nat.le_of_ble_eq_true rfl
  | n + 1, h => by
    have a := su_Alt (kf := kf) (n := n) (fun i hi => h i (by omega))
    have b := h n (by omega)
    show max (su_A kf n) (kf n - 3) < 10
    omega
theorem su_122 (hm : m ≤ 48) (hn : n ≤ 3) (en : σ 34 33 = nI n) (hL : su_LM σ m n) (hQ : Q (some (.int (nI (su_A2 σ n) - 1))) σ) : jx_C l D cA ρ jx_XM (d + 1) 122 [.ref 34] σ Q := by
  have hk10 : ∀ i, i < n → su_k σ i < 10 := fun i hi => by
    obtain ⟨o, kk, ho, hk, a2, a4, a5, a6⟩ := hL i hi
    rw [a6]; exact hk
  have hA := su_Alt hk10
  have hA1 : su_A1 σ n < 10 := by unfold su_A1; split <;> omega
  have tail2 : jx_J l D cA ρ jx_XM (jx_A ρ jx_XM) jx_tb0 (d + 1) 122 Q 55 [(2, .int (nI 2)), (1, .int (nI (su_A1 σ n) - 1)), (0, .ref 34)] [] σ := by
    have v : vp_in (nI 2) 3 := vp_in_nI (by decide) (by decide)
    have e2 : (nI 2 - 1 : Int32) = nI 2 - 1 := rfl
    refine jx_go jk_122 (fun _ _ _ z => z) 100 [] ?_
    refine ⟨fun q => absurd q (by decide), fun _ => ⟨v, ?_⟩⟩
    by_cases z2 : σ 59 2 = 0
    · have ea : su_A2 σ n = su_A1 σ n := if_pos z2
      rw [ea] at hQ
      exact ⟨fun _ => ⟨fun _ => hQ, fun q => absurd (by decide) q⟩, fun q => absurd z2 q⟩
    · have ea : su_A2 σ n = max (su_A1 σ n) 2 := if_neg z2
      rw [ea] at hQ
      have cmp : nI 2 - 1 ≤ nI (su_A1 σ n) - 1 ↔ 2 ≤ su_A1 σ n := by
        have e1 : (nI 2 - 1).toInt = ((2 : Nat) : Int) - 1 := pk_sub_toInt (a := 2) (b := 1) (by decide) (by decide)
        have e3 : (nI (su_A1 σ n) - 1).toInt = (su_A1 σ n : Int) - 1 := pk_sub_toInt (a := su_A1 σ n) (b := 1) (by omega) (by decide)
        rw [Int32.le_iff_toInt_le, e1, e3]
        omega
      refine ⟨fun q => absurd q z2, fun _ => ?_⟩
      by_cases c2 : 2 ≤ su_A1 σ n
      · rw [Nat.max_eq_left c2] at hQ
        exact ⟨fun _ => ⟨fun _ => hQ, fun q => absurd (by decide) q⟩, fun q => absurd (cmp.mpr c2) q⟩
      · rw [Nat.max_eq_right (by omega)] at hQ
        exact ⟨fun q => absurd (cmp.mp q) c2, fun _ => ⟨fun _ => hQ, fun q => absurd (by decide) q⟩⟩
  have tail1 : jx_J l D cA ρ jx_XM (jx_A ρ jx_XM) jx_tb0 (d + 1) 122 Q 55 [(2, .int 1), (1, .int (nI (su_A (su_k σ) n) - 1)), (0, .ref 34)] [] σ := by
    have v : vp_in 1 3 := vp_in_nI (n := 1) (by decide) (by decide)
    refine jx_go jk_122 (fun _ _ _ z => z) 100 [55] ?_
    refine ⟨fun q => absurd q (by decide), fun _ => ⟨v, ?_⟩⟩
    by_cases z1 : σ 59 1 = 0
    · have ea : su_A1 σ n = su_A (su_k σ) n := if_pos z1
      rw [ea] at tail2
      exact ⟨fun _ => tail2, fun q => absurd z1 q⟩
    · have ea : su_A1 σ n = max (su_A (su_k σ) n) 1 := if_neg z1
      rw [ea] at tail2
      have cmp : (1 - 1 : Int32) ≤ nI (su_A (su_k σ) n) - 1 ↔ 1 ≤ su_A (su_k σ) n := by
        have e3 : (nI (su_A (su_k σ) n) - 1).toInt = (su_A (su_k σ) n : Int) - 1 := pk_sub_toInt (a := su_A (su_k σ) n) (b := 1) (by omega) (by decide)
        rw [Int32.le_iff_toInt_le, e3, show (1 - 1 : Int32).toInt = 0 from rfl]
        omega
      refine ⟨fun q => absurd q z1, fun _ => ?_⟩
      by_cases c1 : 1 ≤ su_A (su_k σ) n
      · rw [Nat.max_eq_left c1] at tail2
        exact ⟨fun _ => tail2, fun q => absurd (cmp.mpr c1) q⟩
      · rw [Nat.max_eq_right (by omega)] at tail2
        exact ⟨fun q => absurd (cmp.mp q) c1, fun _ => tail2⟩
  have loop : ∀ k i, i + k = n → jx_J l D cA ρ jx_XM (jx_A ρ jx_XM) jx_tb0 (d + 1) 122 Q 4 [(2, .int (nI i)), (1, .int (nI (su_A (su_k σ) i) - 1)), (0, .ref 34)] [] σ := by
    intro k
    induction k with
    | zero =>
      intro i hi
      have e : i = n := by omega
      subst e
      have c : σ 34 33 ≤ nI i := by rw [en]; exact Int32.le_refl _
      refine jx_go jk_122 (fun _ _ _ z => z) 60 [4, 55] ?_
      exact ⟨fun _ => tail1, fun q => absurd c q⟩
    | succ k ih =>
      intro i hi
      have cc : ¬ σ 34 33 ≤ nI i := by rw [en]; exact nI_ge (by omega) (by omega)
      have v : vp_in (nI i) 3 := vp_in_nI (by omega) (by decide)
      have ei : (nI i).toNatClampNeg = i := nI_clamp (by omega)
      obtain ⟨o, kk, ho, hk, a2, a4, a5, a6⟩ := hL i (by omega)
      have v2 : vp_in (σ 54 (nI i).toNatClampNeg) 48 := by rw [ei, a2]; exact vp_in_nI (by omega) (by decide)
      have e2 : σ 49 (σ 54 (nI i).toNatClampNeg).toNatClampNeg = nI kk := by rw [ei]; exact a5
      have hAi : su_A (su_k σ) i < 10 := su_Alt (fun j hj => hk10 j (by omega))
      have ih := ih (i + 1) (by omega)
      have es : su_A (su_k σ) (i + 1) = max (su_A (su_k σ) i) (kk - 3) := by show max (su_A (su_k σ) i) (su_k σ i - 3) = _; rw [a6]
      rw [es, ← nI_1] at ih
      have cmp := su_122c hk (show su_A (su_k σ) i < 100 by omega)
      refine jx_go jk_122 (fun _ _ _ z => z) 60 [4] ?_
      refine ⟨fun q => absurd q cc, fun _ => ⟨v, v2, ?_⟩⟩
      rw [e2]
      by_cases c3 : kk - 3 ≤ su_A (su_k σ) i
      · rw [Nat.max_eq_left c3] at ih
        exact ⟨fun _ => ih, fun q => absurd (cmp.mpr c3) q⟩
      · rw [Nat.max_eq_right (by omega), ← su_122d (by omega)] at ih
        refine ⟨fun q => absurd (cmp.mp q) c3, fun _ => ⟨v, v2, ?_⟩⟩
        rw [e2]
        exact ih
  refine jx_in jk_122 40 [4] rfl (Nat.le_of_ble_eq_true rfl) ?_
  exact loop n 0 (by omega)
end SD

/-! submit -/
theorem su_c8 {σ : jx_St} {n c : Nat} (h8 : su_A2 σ n ≤ c) : (∀ i, i < n → 4 ≤ su_k σ i → su_k σ i - 4 < c) ∧ (σ 59 1 ≠ 0 → 0 < c) ∧ (σ 59 2 ≠ 0 → 1 < c) := by
  have h1 : su_A (su_k σ) n ≤ su_A1 σ n := by unfold su_A1; split <;> omega
  have h2 : su_A1 σ n ≤ su_A2 σ n := by unfold su_A2; split <;> omega
  refine ⟨fun i hi h4 => ?_, fun z => ?_, fun z => ?_⟩
  · have := su_Ale.mp (show su_A (su_k σ) n ≤ c by omega) i hi
    omega
  · have e : su_A1 σ n = max (su_A (su_k σ) n) 1 := if_neg z
    omega
  · have e : su_A2 σ n = max (su_A1 σ n) 2 := if_neg z
    omega
theorem su_noj {σ : jx_St} {n : Nat} (h0 : su_A2 σ n = 0) : ∀ k i, i + k = n → su_ji σ k i = [] := by
  have h1 : su_A (su_k σ) n ≤ su_A1 σ n := by unfold su_A1; split <;> omega
  have h2 : su_A1 σ n ≤ su_A2 σ n := by unfold su_A2; split <;> omega
  have z1 : σ 59 1 = 0 := by
    by_cases z : σ 59 1 = 0
    · exact z
    · have e : su_A1 σ n = max (su_A (su_k σ) n) 1 := if_neg z
      omega
  have z2 : σ 59 2 = 0 := by
    by_cases z : σ 59 2 = 0
    · exact z
    · have e : su_A2 σ n = max (su_A1 σ n) 2 := if_neg z
      omega
  intro k
  induction k with
  | zero =>
    intro i hi
    show su_j1 σ = []
    unfold su_j1 su_j2
    rw [if_pos z1, if_pos z2]
  | succ k ih =>
    intro i hi
    have hk := su_Ale.mp (show su_A (su_k σ) n ≤ 0 by omega) i (by omega)
    rw [su_ji, if_pos (by omega)]
    exact ih (i + 1) (by omega)
theorem ev_R2 {ω : jx_St} {r : Nat × Nat × ez_V} (hr : r.1 ≤ 3) (c1 : ω 3 13 = nI r.1) (c2 : ω 3 12 = nI r.2.1) (c3 : 1 < r.1 → ω 3 14 = -1 ∧ ω 3 15 = 0) (c4 : r.1 ≤ 1 → ω 3 14 = ez_k r.2.2 ∧ ω 3 15 = ez_n r.2.2) (m1 : ω 34 23 = nI r.1) (m2 : ω 34 21 = nI r.2.1) (m3 : ω 34 24 = 1) (m4 : r.1 ≤ 1 → ∃ i u w : Nat, ω 34 20 = nI i ∧ u ≤ 260 ∧ em_r ω u w r.2.2 0 i) : iv_R ω := by
  have lt1 : 1 < ω 34 23 → 1 < r.1 := fun z => by
    rw [m1] at z
    exact (nI_ltI (a := 1) (by decide) (by omega)).mp z
  have le1 : ω 34 23 ≤ 1 → r.1 ≤ 1 := fun z => by
    rw [m1] at z
    exact (nI_leI (b := 1) (by omega) (by decide)).mp z
  refine Or.inr ⟨m3, by rw [c1, m1], by rw [c2, m2], ⟨r.1, by omega, m1⟩, fun z => c3 (lt1 z), fun z => ?_⟩
  obtain ⟨i, u, w, ei, hu, hv⟩ := m4 (le1 z)
  obtain ⟨k1, k2⟩ := c4 (le1 z)
  rw [k1, k2]
  generalize r.2.2 = v at hv
  unfold em_r at hv
  cases v with
  | nil => exact ⟨i, 2, by have := hv.1; omega, by decide, ei, hv.2.1, rfl, by rw [if_neg (by decide), if_pos rfl, hv.2.2]; rfl⟩
  | append x t => exact ⟨i, 2, by have := hv.1; omega, by decide, ei, hv.2.1, rfl, by rw [if_neg (by decide), if_pos rfl, hv.2.2.1]; rfl⟩
  | nest j x => exact ⟨i, 0, by have := hv.1; omega, by decide, ei, hv.2.1, rfl, by rw [if_neg (by decide), if_neg (by decide), hv.2.2]; rfl⟩
  | align b => exact ⟨i, 1, by have := hv.1; omega, by decide, ei, hv.2.1, rfl, by rw [if_neg (by decide), if_neg (by decide), hv.2.2]; rfl⟩
  | tag n e => exact ⟨i, 3 + n % 3, by have := hv.1; omega, by omega, ei, hv.2.1, by rw [if_pos (by omega)]; rfl, by rw [if_pos (by omega)]; rfl⟩
  | line => exact hv.elim
  | text x => exact hv.elim
  | group x y => exact hv.elim
/-- the last run of the second phase: no more than 3 is its outcome -/
theorem su_j3 {σ : jx_St} {g : Nat → Int32} {n : Nat} : ∀ (L : List su_J) (B : Nat) (last : su_O), (∀ r, last = some r → r.1 ≤ 3) → ∀ r, (su_jb σ g n L B last).2 = some r → r.1 ≤ 3
  | [], _, last, h, r, hr => h r hr
  | j :: t, B, last, h, r, hr => by
    rw [su_jb] at hr
    by_cases hz : (su_R σ g n j B).1 = 0
    · rw [if_pos hz] at hr
      exact su_j3 t _ _ (fun r' e => by cases e; exact ez_le3 _ _ _ _) r hr
    · rw [if_neg hz] at hr
      cases hr
      exact ez_le3 _ _ _ _
/-- all but the ledger, at the end -/
theorem su_fin {σ τ X1 τm X2 : jx_St} {n : Nat} {last : su_O} (hI : iv_V σ) (hC : sx_C σ τ n last) (hX1 : ∀ q, q < 15 ∨ 20 < q → X1 q = τ q) (hM : sx_M (su_cl X1) τm last) (hX2 : ∀ q, q ≠ 34 → q < 48 ∨ 53 < q → X2 q = τm q) (hX34 : ∀ i, i ≠ 25 → X2 34 i = τm 34 i) (hr : ∀ r, last = some r → r.1 ≤ 3) (hL : iv_L (su_cm X2)) : iv_V (su_cm X2) := by
  obtain ⟨iD, iS, iR, -⟩ := hI
  have hsm := sx_Ms hM
  have low : ∀ q, su_cin q = false → em_in q = false → (q < 15 ∨ 20 < q) → sx_in q = false → q ≠ 34 → q < 48 ∨ 53 < q → X2 q = σ q := fun q h1 h2 h3 h4 h5 h6 => by
    rw [hX2 q h5 h6, hsm.1 q h2, su_clq h1, hX1 q h3, hC.1 q h4]
  have e34 : su_cl X1 34 = σ 34 := by rw [su_clq rfl, hX1 34 (by omega), hC.1 34 rfl]
  have fld : ∀ i, em_if i = false → i ≠ 25 → X2 34 i = σ 34 i := fun i h1 h2 => by rw [hX34 i h2, hsm.2 i h1, e34]
  refine ⟨?_, ?_, ?_, ⟨0, by decide, ?_, rfl, fun i hi => absurd hi (Nat.not_lt_zero _)⟩, ⟨0, by decide, ?_, rfl, fun i hi => absurd hi (Nat.not_lt_zero _)⟩, ⟨rfl, fun t ht => ?_⟩, ⟨?_, ?_, ?_, ?_, ?_, ?_, ⟨0, by decide, rfl⟩, ⟨0, by decide, rfl⟩, ⟨0, by decide, rfl⟩⟩, hL⟩
  · unfold iv_D at iD ⊢
    have e1 : su_cm X2 1 = σ 1 := low 1 rfl rfl (by omega) rfl (by decide) (by omega)
    have e2 : su_cm X2 2 = σ 2 := low 2 rfl rfl (by omega) rfl (by decide) (by omega)
    have e37 : su_cm X2 37 = σ 37 := low 37 rfl rfl (by omega) rfl (by decide) (by omega)
    have e3 : su_cm X2 34 3 = σ 34 3 := fld 3 rfl (by decide)
    rw [e1, e2, e37, e3]
    exact iD
  · unfold iv_S at iS ⊢
    have e1 : su_cm X2 4 = σ 4 := low 4 rfl rfl (by omega) rfl (by decide) (by omega)
    have e2 : su_cm X2 5 = σ 5 := low 5 rfl rfl (by omega) rfl (by decide) (by omega)
    have e37 : su_cm X2 6 = σ 6 := low 6 rfl rfl (by omega) rfl (by decide) (by omega)
    have e35 : su_cm X2 35 = σ 35 := low 35 rfl rfl (by omega) rfl (by decide) (by omega)
    have e3 : su_cm X2 34 0 = σ 34 0 := fld 0 rfl (by decide)
    rw [e1, e2, e37, e35, e3]
    exact iS
  · have w3 : su_cm X2 3 = τ 3 := by
      show X2 3 = τ 3
      rw [hX2 3 (by decide) (by omega), hsm.1 3 rfl, su_clq rfl, hX1 3 (by omega)]
    have wf : ∀ i, i ≠ 25 → i ≠ 33 → i ≠ 36 → i < 42 → su_cm X2 34 i = τm 34 i := fun i h1 h2 h3 h4 => by
      have : su_cm X2 34 i = X2 34 i := by
        unfold su_cm
        rw [jx_su_eq, pk_un (by omega), jx_su_eq, pk_un (by omega), jx_su_eq, pk_un (by omega), jx_su_eq, pk_un (by omega), jx_su_eq, pk_un (by omega), jx_su_eq, pk_un (by omega), jx_su_ne _ _ _ (by decide), jx_su_ne _ _ _ (by decide), jx_su_ne _ _ _ (by decide), jx_su_ne _ _ _ (by decide), jx_su_ne _ _ _ (by decide), jx_su_ne _ _ _ (by decide), jx_su_eq, pk_un h3, jx_su_eq, pk_un h2]
      rw [this, hX34 i h1]
    have w38 : ∀ q, 38 ≤ q → q ≤ 47 → su_cm X2 q = τm q := fun q h1 h2 => by
      have : su_cm X2 q = X2 q := by
        unfold su_cm
        rw [jx_su_ne _ _ _ (by omega), jx_su_ne _ _ _ (by omega), jx_su_ne _ _ _ (by omega), jx_su_ne _ _ _ (by omega), jx_su_ne _ _ _ (by omega), jx_su_ne _ _ _ (by omega), jx_su_ne _ _ _ (by omega), jx_su_ne _ _ _ (by omega), jx_su_ne _ _ _ (by omega), jx_su_ne _ _ _ (by omega), jx_su_ne _ _ _ (by omega), jx_su_ne _ _ _ (by omega), jx_su_ne _ _ _ (by omega), jx_su_ne _ _ _ (by omega)]
      rw [this, hX2 q (by omega) (by omega)]
    cases last with
    | none =>
      have et : τm = su_cl X1 := hM
      have e3 : τ 3 = σ 3 := hC.2.2
      have wq : ∀ q, 38 ≤ q → q ≤ 47 → sx_in q = false → su_cin q = false → su_cm X2 q = σ q := fun q h1 h2 h3 h4 => by
        rw [w38 q h1 h2, et, su_clq h4, hX1 q (by omega), hC.1 q h3]
      have wg : ∀ i, i ≠ 25 → i ≠ 33 → i ≠ 36 → i < 42 → su_cm X2 34 i = σ 34 i := fun i h1 h2 h3 h4 => by
        rw [wf i h1 h2 h3 h4, et, e34]
      unfold iv_R at iR ⊢
      rw [w3, e3, wg 24 (by decide) (by decide) (by decide) (by decide), wg 23 (by decide) (by decide) (by decide) (by decide), wg 21 (by decide) (by decide) (by decide) (by decide), wg 20 (by decide) (by decide) (by decide) (by decide), wq 38 (by decide) (by decide) rfl rfl, wq 39 (by decide) (by decide) rfl rfl, wq 41 (by decide) (by decide) rfl rfl]
      exact iR
    | some r =>
      obtain ⟨c1, c2, c3, c4⟩ := hC.2.2
      obtain ⟨-, m1, m2, m3, m4⟩ := hM
      refine ev_R2 (r := r) (hr r rfl) (by rw [w3]; exact c1) (by rw [w3]; exact c2) (by rw [w3]; exact c3) (by rw [w3]; exact c4) (by rw [wf 23 (by decide) (by decide) (by decide) (by decide)]; exact m1) (by rw [wf 21 (by decide) (by decide) (by decide) (by decide)]; exact m2) (by rw [wf 24 (by decide) (by decide) (by decide) (by decide)]; exact m3) (fun z => ?_)
      obtain ⟨i, u, w, ei, hu, hv⟩ := m4 z
      refine ⟨i, u, w, by rw [wf 20 (by decide) (by decide) (by decide) (by decide)]; exact ei, hu, ?_⟩
      unfold em_r at hv ⊢
      rw [w38 38 (by decide) (by decide), w38 39 (by decide) (by decide), w38 40 (by decide) (by decide), w38 41 (by decide) (by decide), w38 42 (by decide) (by decide), w38 43 (by decide) (by decide), w38 44 (by decide) (by decide)]
      exact hv
  · show X2 23 2 = 0
    rw [hX2 23 (by decide) (by omega), hsm.1 23 rfl]; rfl
  · show X2 26 3 = 0
    rw [hX2 26 (by decide) (by omega), hsm.1 26 rfl]; rfl
  · have e30 : su_cm X2 30 = su_cl X1 30 := by
      show X2 30 = _
      rw [hX2 30 (by decide) (by omega), hsm.1 30 rfl]
    have e31 : su_cm X2 31 = su_cl X1 31 := by
      show X2 31 = _
      rw [hX2 31 (by decide) (by omega), hsm.1 31 rfl]
    rw [e30, e31]
    match t, ht with
    | 0, _ => exact ⟨rfl, rfl, of_decide_eq_true rfl, of_decide_eq_true rfl⟩
    | 1, _ => exact ⟨rfl, rfl, of_decide_eq_true rfl, of_decide_eq_true rfl⟩
    | 2, _ => exact ⟨rfl, rfl, of_decide_eq_true rfl, of_decide_eq_true rfl⟩
  all_goals (show X2 23 _ = _; rw [hX2 23 (by decide) (by omega), hsm.1 23 rfl]; rfl)

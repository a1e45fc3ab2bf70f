/-! define -/
theorem pz_shift {f g : Nat → Int32} {s e : Nat} (h : ∀ i, i < e → f (s + i) = g i) : ∀ (r p lam : Nat), pz_t f (s + e) r (s + p) lam = (pz_t g e r p lam).map (fun q => s + q)
  | 0, _, _ => rfl
  | r + 1, p, lam => by
    by_cases hp : p < e
    · have hp2 : s + p < s + e := by omega
      have e0 := h p hp
      rw [pz_t, pz_t, if_pos hp, if_pos hp2, e0]
      have hi : (s + p + 1 < s + e ∧ f (s + p + 1) < nI lam) ↔ (p + 1 < e ∧ g (p + 1) < nI lam) := by
        constructor
        · intro q; have q1 : p + 1 < e := by omega
          exact ⟨q1, by rw [← h (p + 1) q1]; exact q.2⟩
        · intro q; exact ⟨by omega, by have := h (p + 1) q.1; rw [show s + p + 1 = s + (p + 1) by omega, this]; exact q.2⟩
      have hj : (s + p + 1 < s + e ∧ f (s + p + 1) ≤ 10) ↔ (p + 1 < e ∧ g (p + 1) ≤ 10) := by
        constructor
        · intro q; have q1 : p + 1 < e := by omega
          exact ⟨q1, by rw [← h (p + 1) q1]; exact q.2⟩
        · intro q; exact ⟨by omega, by have := h (p + 1) q.1; rw [show s + p + 1 = s + (p + 1) by omega, this]; exact q.2⟩
      have hk : s + p + 1 < s + e ↔ p + 1 < e := by omega
      have i1 := pz_shift h r (p + 1) (lam + 1)
      have i2 := pz_shift h r (p + 1) lam
      rw [show s + p + 1 = s + (p + 1) by omega] at *
      by_cases c0 : g p = 0
      · rw [if_pos c0, if_pos c0]
        by_cases c : p + 1 < e ∧ g (p + 1) < nI lam
        · rw [if_pos c, if_pos (hi.mpr c)]; rfl
        · rw [if_neg c, if_neg (fun q => c (hi.mp q))]; rfl
      rw [if_neg c0, if_neg c0]
      by_cases c1 : g p = 1
      · rw [if_pos c1, if_pos c1]; exact i1
      rw [if_neg c1, if_neg c1]
      by_cases c2 : g p = 2
      · rw [if_pos c2, if_pos c2, i2]
        cases hz : pz_t g e r (p + 1) lam with
        | none => rfl
        | some q => exact pz_shift h r q lam
      rw [if_neg c2, if_neg c2]
      by_cases c3 : g p = 3
      · rw [if_pos c3, if_pos c3]
        by_cases c : p + 1 < e
        · rw [if_pos c, if_pos (hk.mpr c)]; rfl
        · rw [if_neg c, if_neg (fun q => c (hk.mp q))]; rfl
      rw [if_neg c3, if_neg c3]
      by_cases c4 : g p = 4
      · rw [if_pos c4, if_pos c4]
        by_cases c : p + 1 < e ∧ g (p + 1) ≤ 10
        · rw [if_pos c, if_pos (hj.mpr c)]; rfl
        · rw [if_neg c, if_neg (fun q => c (hj.mp q))]; rfl
      rw [if_neg c4, if_neg c4]
      by_cases c5 : g p = 5 ∨ g p = 6
      · rw [if_pos c5, if_pos c5]; exact i2
      rw [if_neg c5, if_neg c5]
      by_cases c7 : g p = 7 ∨ g p = 8
      · rw [if_pos c7, if_pos c7]; rfl
      · rw [if_neg c7, if_neg c7]; rfl
    · rw [pz_end hp, pz_end (by omega)]; rfl
/-- iw_t only looks at f within the term -/
theorem iw_f {f f' g : Nat → Int32} {e s0 : Nat} (h : ∀ j, s0 ≤ j → j < e → f' j = f j) : ∀ {r p lam q : Nat}, s0 ≤ p → iw_t f g e r p lam q → iw_t f' g e r p lam q
  | 0, _, _, _, _, z => z.elim
  | r + 1, p, lam, q, hs, z => by
    obtain ⟨hp, z⟩ := z
    have e0 := h p hs hp
    refine ⟨hp, ?_⟩
    rw [e0]
    rcases z with z | z | z | z | z | z | z
    · exact Or.inl ⟨z.1, z.2.1, by rw [h (p + 1) (by omega) z.2.1]; exact z.2.2.1, z.2.2.2⟩
    · exact Or.inr (Or.inl ⟨z.1, iw_f h (by omega) z.2⟩)
    · obtain ⟨z0, q1, z1, z2, z3⟩ := z
      have := iw_le z1
      exact Or.inr (Or.inr (Or.inl ⟨z0, q1, iw_f h (by omega) z1, iw_f h (by omega) z2, z3⟩))
    · exact Or.inr (Or.inr (Or.inr (Or.inl z)))
    · exact Or.inr (Or.inr (Or.inr (Or.inr (Or.inl ⟨z.1, z.2.1, by rw [h (p + 1) (by omega) z.2.1]; exact z.2.2.1, z.2.2.2⟩))))
    · exact Or.inr (Or.inr (Or.inr (Or.inr (Or.inr (Or.inl ⟨z.1, iw_f h (by omega) z.2⟩)))))
    · exact Or.inr (Or.inr (Or.inr (Or.inr (Or.inr (Or.inr z)))))
/-- c ints copied from place src to place dst at base -/
def jd_cp (σ : jx_St) (dst src base c : Nat) : jx_St := fun q => bif Nat.beq q dst then (fun j => if base ≤ j ∧ j < base + c then σ src (j - base) else σ dst j) else σ q
theorem jd_cp0 (σ : jx_St) (dst src base : Nat) : jd_cp σ dst src base 0 = σ := by
  funext q i
  unfold jd_cp
  cases h : Nat.beq q dst with
  | false => rfl
  | true =>
    have e1 := Nat.eq_of_beq_eq_true h
    subst e1
    show (if base ≤ i ∧ i < base + 0 then σ src (i - base) else σ q i) = σ q i
    rw [if_neg (by omega)]
theorem jd_cps (σ : jx_St) {dst src base c : Nat} : jx_su (jd_cp σ dst src base c) dst (base + c) (σ src c) = jd_cp σ dst src base (c + 1) := by
  funext q i
  by_cases hq : q = dst
  · subst hq
    rw [jx_su_eq]
    unfold jd_cp
    rw [show Nat.beq q q = true by simp]
    show upd (fun j => if base ≤ j ∧ j < base + c then σ src (j - base) else σ q j) (base + c) (σ src c) i = if base ≤ i ∧ i < base + (c + 1) then σ src (i - base) else σ q i
    by_cases hi : i = base + c
    · subst hi
      rw [pk_us, if_pos ⟨by omega, by omega⟩]
      congr 1
      omega
    · rw [pk_un hi]
      by_cases h2 : base ≤ i ∧ i < base + c
      · rw [if_pos h2, if_pos ⟨h2.1, by omega⟩]
      · rw [if_neg h2, if_neg (fun z => h2 ⟨z.1, by omega⟩)]
  · rw [jx_su_ne _ _ _ hq]
    unfold jd_cp
    rw [jx_bne hq]
    rfl
theorem jd_cpo {σ : jx_St} {dst src base c p : Nat} (h : p ≠ dst) : jd_cp σ dst src base c p = σ p := by
  unfold jd_cp
  rw [jx_bne h]
  rfl

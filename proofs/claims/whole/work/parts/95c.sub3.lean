/-! submit: balance in the model -/
def su_mb (σ : jx_St) (n g t : Nat) : Prop := su_ls (fun k => σ 48 (3 * (σ 54 k).toNatClampNeg + t)) (σ 59 t).toInt64 n = su_ls (fun k => σ 58 (3 * k + t)) (if t = 0 then (σ 34 42).toInt64 else 0) g
theorem lg_cmp0 {x y : Int64} : lg_cmp x y = 0 ↔ x = y := by
  unfold lg_cmp
  by_cases h1 : x > y
  · rw [if_pos h1]
    refine ⟨fun z => absurd z (by decide), fun z => ?_⟩
    rw [z] at h1
    exact absurd h1 (Int64.lt_irrefl)
  · rw [if_neg h1]
    by_cases h2 : x = y
    · rw [if_pos h2]; exact ⟨fun _ => h2, fun _ => rfl⟩
    · rw [if_neg h2]; exact ⟨fun z => absurd z (by decide), fun z => absurd z h2⟩
section SC
variable {l : Launch} {D : va_G} {cA : ClassId} {ρ : Nat → Nat} {d : Nat} {Q : Option Value → jx_St → Prop} {σ : jx_St} {m h n g : Nat}
theorem su_119a {t : Nat} {x G : Int64} {b : Int32} (ht : t < 3) (hm : m ≤ 48) (hn : n ≤ 3) (en : σ 34 33 = nI n) (hin : ∀ i, i < n → ∃ o, o < m ∧ σ 54 i = nI o) (hx : jx_J l D cA ρ jx_XM (jx_A ρ jx_XM) jx_tb0 (d + 1) 119 Q 70 [(7, .int (nI n)), (3, .long (su_ls (fun k => σ 48 (3 * (σ 54 k).toNatClampNeg + t)) x n)), (5, .long G), (2, .int (nI t)), (1, .int b), (0, .ref 34)] [] σ) :
    ∀ k i, i + k = n → jx_J l D cA ρ jx_XM (jx_A ρ jx_XM) jx_tb0 (d + 1) 119 Q 35 [(7, .int (nI i)), (3, .long (su_ls (fun k => σ 48 (3 * (σ 54 k).toNatClampNeg + t)) x i)), (5, .long G), (2, .int (nI t)), (1, .int b), (0, .ref 34)] [] σ := by
  intro k
  induction k with
  | zero =>
    intro i hi
    have e : i = n := by omega
    subst e
    have c : σ 34 33 ≤ nI i := by rw [en]; exact Int32.le_refl _
    refine jx_go jk_119 (fun _ _ _ z => z) 60 [35, 70] ?_
    exact ⟨fun _ => hx, fun q => absurd c q⟩
  | succ k ih =>
    intro i hi
    have c : ¬ σ 34 33 ≤ nI i := by rw [en]; exact nI_ge (by omega) (by omega)
    have v : vp_in (nI i) 3 := vp_in_nI (by omega) (by decide)
    have ec : (nI i).toNatClampNeg = i := nI_clamp (by omega)
    obtain ⟨o, ho, eo⟩ := hin i (by omega)
    have e1 : 3 * σ 54 i + nI t = nI (3 * o + t) := by rw [eo]; exact jl_m3 t (by omega) ht
    have eo2 : (σ 54 i).toNatClampNeg = o := by rw [eo]; exact nI_clamp (by omega)
    have v2 : vp_in (3 * σ 54 (nI i).toNatClampNeg + nI t) 144 := by rw [ec, e1]; exact vp_in_nI (by omega) (by decide)
    have e2 : (3 * σ 54 (nI i).toNatClampNeg + nI t).toNatClampNeg = 3 * (σ 54 i).toNatClampNeg + t := by rw [ec, e1, eo2]; exact nI_clamp (by omega)
    have h9 := ih (i + 1) (by omega)
    rw [← nI_1] at h9
    refine jx_go jk_119 (fun _ _ _ z => z) 60 [35, 70] ?_
    refine ⟨fun q => absurd q c, fun _ => ⟨v, v2, ?_⟩⟩
    rw [e2]
    exact h9
theorem su_119b {t : Nat} {x G : Int64} {b : Int32} (ht : t < 3) (hg : g ≤ 3) (eg : σ 34 36 = nI g) (hx : jx_J l D cA ρ jx_XM (jx_A ρ jx_XM) jx_tb0 (d + 1) 119 Q 105 [(7, .int (nI g)), (5, .long (su_ls (fun k => σ 58 (3 * k + t)) x g)), (3, .long G), (2, .int (nI t)), (1, .int b), (0, .ref 34)] [] σ) :
    ∀ k i, i + k = g → jx_J l D cA ρ jx_XM (jx_A ρ jx_XM) jx_tb0 (d + 1) 119 Q 73 [(7, .int (nI i)), (5, .long (su_ls (fun k => σ 58 (3 * k + t)) x i)), (3, .long G), (2, .int (nI t)), (1, .int b), (0, .ref 34)] [] σ := by
  intro k
  induction k with
  | zero =>
    intro i hi
    have e : i = g := by omega
    subst e
    have c : σ 34 36 ≤ nI i := by rw [eg]; exact Int32.le_refl _
    refine jx_go jk_119 (fun _ _ _ z => z) 60 [73, 105] ?_
    exact ⟨fun _ => hx, fun q => absurd c q⟩
  | succ k ih =>
    intro i hi
    have c : ¬ σ 34 36 ≤ nI i := by rw [eg]; exact nI_ge (by omega) (by omega)
    have e1 : 3 * nI i + nI t = nI (3 * i + t) := jl_m3 t (by omega) ht
    have v2 : vp_in (3 * nI i + nI t) 9 := by rw [e1]; exact vp_in_nI (by omega) (by decide)
    have e2 : (3 * nI i + nI t).toNatClampNeg = 3 * i + t := by rw [e1]; exact nI_clamp (by omega)
    have h9 := ih (i + 1) (by omega)
    rw [← nI_1] at h9
    refine jx_go jk_119 (fun _ _ _ z => z) 60 [73, 105] ?_
    refine ⟨fun q => absurd q c, fun _ => ⟨v2, ?_⟩⟩
    rw [e2]
    exact h9
theorem su_119 (hm : m ≤ 48) (hn : n ≤ 3) (en : σ 34 33 = nI n) (hg : g ≤ 3) (eg : σ 34 36 = nI g) (hin : ∀ i, i < n → ∃ o, o < m ∧ σ 54 i = nI o) (h1 : (∀ t, t < 3 → su_mb σ n g t) → Q (some (.int 1)) σ) (h0 : (¬ ∀ t, t < 3 → su_mb σ n g t) → Q (some (.int 0)) σ) : jx_C l D cA ρ jx_XM (d + 1) 119 [.ref 34] σ Q := by
  have loop : ∀ k i (b : Int32), i + k = 3 → ((b = 1 ∧ ∀ t, t < i → su_mb σ n g t) ∨ (b = 0 ∧ ¬ ∀ t, t < 3 → su_mb σ n g t)) → jx_J l D cA ρ jx_XM (jx_A ρ jx_XM) jx_tb0 (d + 1) 119 Q 4 [(2, .int (nI i)), (1, .int b), (0, .ref 34)] [] σ := by
    intro k
    induction k with
    | zero =>
      intro i b hi hp
      have e : i = 3 := by omega
      subst e
      refine jx_go jk_119 (fun _ _ _ z => z) 60 [4] ?_
      rcases hp with ⟨rfl, hp⟩ | ⟨rfl, hp⟩
      · exact ⟨fun _ => ⟨Or.inr rfl, h1 hp⟩, fun q => absurd (by decide) q⟩
      · exact ⟨fun _ => ⟨Or.inl rfl, h0 hp⟩, fun q => absurd (by decide) q⟩
    | succ k ih =>
      intro i b hi hp
      have c : ¬ (3 : Int32) ≤ nI i := nI_ge (b := 3) (by omega) (by decide)
      have v : vp_in (nI i) 3 := vp_in_nI (by omega) (by decide)
      have ec : (nI i).toNatClampNeg = i := nI_clamp (by omega)
      have key : jx_J l D cA ρ jx_XM (jx_A ρ jx_XM) jx_tb0 (d + 1) 119 Q 105 [(7, .int (nI g)), (5, .long (su_ls (fun k => σ 58 (3 * k + i)) (if i = 0 then (σ 34 42).toInt64 else 0) g)), (3, .long (su_ls (fun k => σ 48 (3 * (σ 54 k).toNatClampNeg + i)) (σ 59 i).toInt64 n)), (2, .int (nI i)), (1, .int b), (0, .ref 34)] [] σ := by
        refine jx_go jk_119 (fun _ _ _ z => z) 60 [4] ?_
        rcases hp with ⟨rfl, hp⟩ | ⟨rfl, hp⟩
        · refine ⟨fun q => absurd q (by decide), fun _ => ?_⟩
          by_cases hb : su_mb σ n g i
          · refine ⟨fun q => absurd (lg_cmp0.mpr hb) q, fun _ => ?_⟩
            have h9 := ih (i + 1) 1 (by omega) (Or.inl ⟨rfl, fun t ht => by
              by_cases e : t = i
              · rw [e]; exact hb
              · exact hp t (by omega)⟩)
            rw [← nI_1] at h9
            exact jx_Jsubh h9 ⟨rfl, rfl, rfl, trivial⟩
          · refine ⟨fun _ => ?_, fun q => absurd (lg_cmp0.mp q) hb⟩
            have h9 := ih (i + 1) 0 (by omega) (Or.inr ⟨rfl, fun z => hb (z i (by omega))⟩)
            rw [← nI_1] at h9
            exact jx_Jsubh h9 ⟨rfl, rfl, rfl, trivial⟩
        · refine ⟨fun _ => ?_, fun q => absurd rfl q⟩
          have h9 := ih (i + 1) 0 (by omega) (Or.inr ⟨rfl, hp⟩)
          rw [← nI_1] at h9
          exact jx_Jsubh h9 ⟨rfl, rfl, rfl, trivial⟩
      have key2 := su_119b (l := l) (D := D) (cA := cA) (ρ := ρ) (d := d) (Q := Q) (t := i) (by omega) hg eg key g 0 (by omega)
      have key3 := su_119a (l := l) (D := D) (cA := cA) (ρ := ρ) (d := d) (Q := Q) (t := i) (x := (σ 59 i).toInt64) (G := if i = 0 then (σ 34 42).toInt64 else 0) (b := b) (by omega) hm hn en hin (by
        refine jx_go jk_119 (fun _ _ _ z => z) 60 [73] ?_
        exact jx_Jsubh key2 ⟨rfl, rfl, rfl, rfl, rfl, rfl, trivial⟩) n 0 (by omega)
      refine jx_go jk_119 (fun _ _ _ z => z) 60 [35] ?_
      refine ⟨fun q => absurd q c, fun _ => ⟨v, ?_⟩⟩
      rw [ec]
      by_cases e0 : i = 0
      · subst e0
        refine ⟨fun q => absurd rfl q, fun _ => ?_⟩
        exact jx_Jsubh key3 ⟨rfl, rfl, rfl, rfl, rfl, rfl, trivial⟩
      · have n0 : ¬ nI i = 0 := nI_ne0 (by omega) (by omega)
        rw [if_neg e0] at key3
        refine ⟨fun _ => ?_, fun q => absurd q n0⟩
        exact jx_Jsubh key3 ⟨rfl, rfl, rfl, rfl, rfl, rfl, trivial⟩
  refine jx_in jk_119 40 [4] rfl (Nat.le_of_ble_eq_true rfl) ?_
  exact loop 3 0 1 (by omega) (Or.inl ⟨rfl, fun t ht => absurd ht (Nat.not_lt_zero _)⟩)
end SC

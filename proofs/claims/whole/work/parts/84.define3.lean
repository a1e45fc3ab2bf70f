/-! define -/
theorem jd_fz {f : Nat → Int32} {n : Nat} : fz_t f n [(21, 0)] 0 = true ↔ pz_t f n 21 0 0 = some n := by
  cases h : pz_t f n 21 0 0 with
  | none => rw [fz_no h]; simp
  | some q => rw [fz_yes h]; simp [fz_t]
theorem jx_s2i (σ : jx_St) : jx_s2 σ (σ 61) (σ 62) = σ := by
  funext q
  unfold jx_s2
  cases h : Nat.beq q 61 with
  | true => rw [Nat.eq_of_beq_eq_true h]; rfl
  | false =>
    cases h2 : Nat.beq q 62 with
    | true => rw [Nat.eq_of_beq_eq_true h2]; rfl
    | false => rfl
theorem jd_formed {l : Launch} {D : va_G} {cA : ClassId} {ρ : Nat → Nat} {d n : Nat} {σ : jx_St} {Q : Option Value → jx_St → Prop} (hn : n ≤ 48) (en : σ 34 3 = nI n) (hb : ∀ i, i < n → ∃ b : Nat, b < 256 ∧ σ 37 i = nI b)
    (hQ : ∀ d' l', Q (some (.int (if pz_t (σ 37) n 21 0 0 = some n then 1 else 0))) (jx_s2 σ d' l')) : jx_C l D cA ρ jx_XM (d + 1) 91 [.ref 34] σ Q := by
  refine jx_in jk_91 200 [18] rfl (Nat.le_of_ble_eq_true rfl) ?_
  have v : vp_in 0 48 := vp_in_nI (n := 0) (by decide) (by decide)
  refine ⟨v, v, ?_⟩
  have h := jp_91 (l := l) (D := D) (cA := cA) (ρ := ρ) (d := d) (Q := Q) hn en hb n 0 [(21, 0)] (upd (σ 61) 0 0) (upd (σ 62) 0 0) (by omega) ⟨rfl, rfl, by decide, by decide, trivial⟩ ⟨by decide, trivial⟩ (fun d' l' => by
    have h9 := hQ d' l'
    by_cases hg : pz_t (σ 37) n 21 0 0 = some n
    · rw [if_pos hg] at h9; rw [if_pos (jd_fz.mpr hg)]; exact h9
    · rw [if_neg hg] at h9; rw [if_neg (fun q => hg (jd_fz.mp q))]; exact h9)
  rw [← jx_s2b, ← jx_s2a, jx_s2i] at h
  exact h
section JVD
variable {l : Launch} {D : va_G} {cA : ClassId} {ρ : Nat → Nat} {d : Nat}
theorem jd_28 {Q : Option Value → jx_St → Prop} {σ : jx_St} {c n : Nat} (hc : c < 6) (hn : n ≤ 48) (c1 : σ 4 2 = nI c) (n1 : σ 1 1 = nI n)
    (hx : jx_J l D cA ρ jx_XM (jx_A ρ jx_XM) jx_tb0 (d + 2) 58 Q 53 [(5, .int (nI n)), (4, .int (nI (48 * c + n))), (3, .int (nI (48 * c))), (0, .ref 4), (1, .ref 2), (2, .int (nI n))] [] (jd_cp σ 5 2 (48 * c) n)) :
    jx_C l D cA ρ jx_XM (d + 2) 58 [.ref 4, .ref 2, .int (σ 1 1)] σ Q := by
  have g : σ 4 2 < 6 := by rw [c1]; exact nI_lt (b := 6) hc (by decide)
  have h := jp_58 (l := l) (D := D) (cA := cA) (ρ := ρ) (d := d + 1) (Q := Q) (σ := σ) (s := 48 * c) (n := n) (E := nI (48 * c + n)) (by omega) hn hx n 0 (by omega)
  rw [jd_cp0] at h
  have e1 : σ 4 2 * 48 = nI (48 * c) := by rw [c1, show (48 : Int32) = nI 48 from rfl, pk_mul, Nat.mul_comm]
  have e2 : nI (48 * c) + nI n = nI (48 * c + n) := nI_add _ _
  rw [← e2, ← e1, ← n1] at h
  refine jx_in jk_58 60 [28] rfl (Nat.le_of_ble_eq_true rfl) ?_
  refine ⟨fun _ => ?_, fun q => absurd g q⟩
  exact ji_57 h
end JVD
section JVE
variable {l : Launch} {D : va_G} {cA : ClassId} {ρ : Nat → Nat} {d : Nat}
theorem jd_cpi {σ : jx_St} {dst src base c j : Nat} (h1 : base ≤ j) (h2 : j < base + c) : jd_cp σ dst src base c dst j = σ src (j - base) := by
  unfold jd_cp
  rw [show Nat.beq dst dst = true by simp]
  exact if_pos ⟨h1, h2⟩
theorem jd_cpx {σ : jx_St} {dst src base c j : Nat} (h : j < base ∨ base + c ≤ j) : jd_cp σ dst src base c dst j = σ dst j := by
  unfold jd_cp
  rw [show Nat.beq dst dst = true by simp]
  exact if_neg (fun q => by omega)
/-- what the class's define leaves behind when the term was read: the notes of second terms -/
def jd_g (σ : jx_St) (c n : Nat) (g : Nat → Int32) : Prop := ∀ j, j < 48 * c ∨ 48 * c + n ≤ j → g j = σ 6 j
set_option maxHeartbeats 4000000 in
theorem jd_X {Q : Option Value → jx_St → Prop} {σ : jx_St} {c n : Nat} (hc : c < 6) (hn : n ≤ 48) (c1 : σ 4 2 = nI c) (n1 : σ 1 1 = nI n) (hD : ∀ i, i < n → σ 2 i = σ 37 i ∧ ∃ b : Nat, b < 256 ∧ σ 37 i = nI b)
    (hy : pz_t (σ 37) n 21 0 0 = some n → ∀ g, jd_g σ c n g → iw_t (jd_cp σ 5 2 (48 * c) n 5) g (48 * c + n) 21 (48 * c) 0 (48 * c + n) → Q (some (.int (nI c))) (jx_su (jx_su (jx_s6 (jd_cp σ 5 2 (48 * c) n) g) 4 2 (nI c + 1)) 1 1 0))
    (hno : pz_t (σ 37) n 21 0 0 ≠ some n → ∀ g, jd_g σ c n g → Q (some (.int (-2))) (jx_su (jx_s6 (jd_cp σ 5 2 (48 * c) n) g) 1 1 0)) :
    jx_C l D cA ρ jx_XM (d + 26) 2 [.ref 0] σ Q := by
  refine ji_2 ?_
  refine jd_28 (d := d + 23) hc hn c1 n1 ?_
  refine jx_go jk_58 (fun _ _ _ z => z) 60 [] ?_
  have hsh := pz_shift (f := jd_cp σ 5 2 (48 * c) n 5) (g := σ 37) (s := 48 * c) (e := n) (fun i hi => by rw [jd_cpi (by omega) (by omega), Nat.add_sub_cancel_left]; exact (hD i hi).1) 21 0 0
  rw [Nat.add_zero] at hsh
  refine jp_59 (d := d + 1) (e := 48 * c + n) (s0 := 48 * c) (by omega) 21 (48 * c) 0 (jd_cp σ 5 2 (48 * c) n) _ (by decide) (by decide) (by omega) (Nat.le_refl _) (fun j h1 h2 => ?_) (fun g res hP => ?_)
  · rw [jd_cpi h1 h2, (hD (j - 48 * c) (by omega)).1]
    exact (hD (j - 48 * c) (by omega)).2
  · rcases hP with ⟨q, q1, q2, q3, q4, q5, q6⟩ | ⟨q1, q2, q3⟩
    · by_cases hq : q = 48 * c + n
      · subst hq
        subst q2
        have hg : pz_t (σ 37) n 21 0 0 = some n := by
          rw [hsh] at q1
          cases hz : pz_t (σ 37) n 21 0 0 with
          | none => rw [hz] at q1; cases q1
          | some w =>
            rw [hz] at q1
            have : 48 * c + w = 48 * c + n := Option.some.inj q1
            exact congrArg some (by omega)
        have h9 := hy hg g (fun j hj => q6 j hj) q5
        refine ⟨fun _ => ?_, fun z => absurd rfl z⟩
        have e1 : jx_s6 (jd_cp σ 5 2 (48 * c) n) g 4 2 + 1 - 1 = nI c := by
          show σ 4 2 + 1 - 1 = nI c
          rw [c1]
          exact Int32.add_sub_cancel _ _
        have e2 : nI c + 1 = jx_s6 (jd_cp σ 5 2 (48 * c) n) g 4 2 + 1 := by
          show nI c + 1 = σ 4 2 + 1
          rw [c1]
        rw [e2, ← e1] at h9
        exact h9
      · subst q2
        have hg : pz_t (σ 37) n 21 0 0 ≠ some n := by
          intro hz
          rw [hsh, hz] at q1
          exact hq (Option.some.inj q1).symm
        have h9 := hno hg g (fun j hj => q6 j (by omega))
        refine ⟨fun z => absurd ((nI_eq (by omega) (by omega)).mp z) hq, fun _ => h9⟩
    · subst q2
      have hg : pz_t (σ 37) n 21 0 0 ≠ some n := by
        intro hz
        rw [hsh, hz] at q1
        cases q1
      have h9 := hno hg g (fun j hj => q3 j hj)
      refine ⟨fun z => absurd (show nI (48 * c + n) < 0 by rw [← z]; decide) (nI_pos (by omega)), fun _ => h9⟩
end JVE
section JVF
variable {l : Launch} {D : va_G} {cA : ClassId} {ρ : Nat → Nat} {d : Nat}
/-- the model's define on a state with c < 6 scripts -/
theorem jd_M {Q : Option Value → jx_St → Prop} {σ : jx_St} {c n : Nat} (hc : c < 6) (hn : n ≤ 48) (c1 : σ 34 0 = nI c) (n1 : σ 34 3 = nI n) (hb : ∀ i, i < n → ∃ b : Nat, b < 256 ∧ σ 37 i = nI b)
    (hy : pz_t (σ 37) n 21 0 0 = some n → ∀ d' l', Q (some (.int (nI c))) (jx_su (jx_su (jd_cp (jx_su (jx_s2 σ d' l') 34 3 0) 35 37 (48 * c) n) 36 c (nI n)) 34 0 (nI c + 1)))
    (hno : pz_t (σ 37) n 21 0 0 ≠ some n → ∀ d' l', Q (some (.int (-2))) (jx_su (jx_s2 σ d' l') 34 3 0)) :
    jx_C l D cA ρ jx_XM (d + 2) 92 [.ref 34] σ Q := by
  refine jx_in jk_92 60 [35] rfl (Nat.le_of_ble_eq_true rfl) ?_
  refine jd_formed hn n1 hb (fun d' l' => ?_)
  have g6 : ¬ σ 34 0 = 6 := by rw [c1]; exact fun q => absurd ((nI_eq (b := 6) (by omega) (by decide)).mp q) (by omega)
  refine ⟨fun _ => ?_, fun q => absurd q g6⟩
  by_cases hg : pz_t (σ 37) n 21 0 0 = some n
  · rw [if_pos hg]
    refine ⟨fun _ => ?_, fun q => absurd q (by decide)⟩
    have h9 := hy hg d' l'
    have hh := jp_92 (l := l) (D := D) (cA := cA) (ρ := ρ) (d := d + 1) (Q := Q) (σ := jx_su (jx_s2 σ d' l') 34 3 0) (c := c) (n := n) (G := 1) hc hn c1 (by
      have ec : σ 34 0 = nI c := c1
      have v : vp_in (σ 34 0) 6 := by rw [ec]; exact vp_in_nI hc (by decide)
      have e0 : (σ 34 0).toNatClampNeg = c := by rw [ec]; exact nI_clamp (by omega)
      have e1 : σ 34 0 + 1 - 1 = nI c := by rw [ec]; exact Int32.add_sub_cancel _ _
      refine jx_go jk_92 (fun _ _ _ z => z) 60 [] ?_
      refine ⟨v, ?_⟩
      have h10 : Q (some (.int (σ 34 0 + 1 - 1))) (jx_su (jx_su (jd_cp (jx_su (jx_s2 σ d' l') 34 3 0) 35 37 (48 * c) n) 36 (σ 34 0).toNatClampNeg (nI n)) 34 0 (σ 34 0 + 1)) := by
        rw [e1, e0, ec]; exact h9
      exact h10) n 0 (by omega)
    rw [jd_cp0] at hh
    rw [← n1] at hh
    exact hh
  · rw [if_neg hg]
    exact ⟨fun q => absurd rfl q, fun _ => hno hg d' l'⟩
end JVF
section JVG
variable {l : Launch} {D : va_G} {cA : ClassId} {ρ : Nat → Nat} {d : Nat}
/-- the scripts that were there stay -/
theorem jd_old {f5 f6 f35 g5 g6 g35 : Nat → Int32} {c : Nat} (hS : ∀ s, s < c → ∃ len : Nat, len ≤ 48 ∧ (∀ i, i < len → f5 (48 * s + i) = f35 (48 * s + i) ∧ ∃ b : Nat, b < 256 ∧ f35 (48 * s + i) = nI b) ∧ iw_t f35 f6 (48 * s + len) 21 (48 * s) 0 (48 * s + len))
    (h5 : ∀ j, j < 48 * c → g5 j = f5 j) (h6 : ∀ j, j < 48 * c → g6 j = f6 j) (h35 : ∀ j, j < 48 * c → g35 j = f35 j) : ∀ s, s < c → ∃ len : Nat, len ≤ 48 ∧ (∀ i, i < len → g5 (48 * s + i) = g35 (48 * s + i) ∧ ∃ b : Nat, b < 256 ∧ g35 (48 * s + i) = nI b) ∧ iw_t g35 g6 (48 * s + len) 21 (48 * s) 0 (48 * s + len) := by
  intro s hs
  obtain ⟨len, h1, h2, h3⟩ := hS s hs
  refine ⟨len, h1, fun i hi => ?_, ?_⟩
  · rw [h5 _ (by omega), h35 _ (by omega)]; exact h2 i hi
  · exact iw_f (s0 := 48 * s) (fun j _ hj => h35 j (by omega)) (Nat.le_refl _) (iw_keep h3 (fun j _ hj => h6 j (by omega)))
set_option maxHeartbeats 4000000 in
theorem jv_define : jq_define l D cA ρ (d + 26) iv_V iv_V := by
  intro σ hI
  obtain ⟨⟨n, hn, n1, n2, hD⟩, ⟨c, hc, c1, c2, hS⟩, iR, iI, iG, iM, iT, iL⟩ := hI
  have hb : ∀ i, i < n → ∃ b : Nat, b < 256 ∧ σ 37 i = nI b := fun i hi => (hD i hi).2
  by_cases h6 : c = 6
  · subst h6
    have x1 : ¬ σ 4 2 < 6 := by rw [c1]; decide
    have m1 : σ 34 0 = 6 := c2
    refine ⟨-1, fun σ1 => σ1 = jx_su σ 1 1 0, fun Q hQ => ji_2 (ji_58 ⟨fun q => absurd q x1, fun _ => hQ _ rfl⟩), fun σ1 hT Q hQ => ?_⟩
    subst hT
    refine jx_in jk_92 60 [35] rfl (Nat.le_of_ble_eq_true rfl) ?_
    refine jd_formed (σ := jx_su σ 1 1 0) hn n2 hb (fun d' l' => ?_)
    refine ⟨fun q => absurd m1 q, fun _ => hQ _ ?_⟩
    exact ⟨⟨0, by decide, rfl, rfl, fun i hi => absurd hi (Nat.not_lt_zero _)⟩, ⟨6, by decide, c1, c2, hS⟩, iR, iI, iG, iM, iT, iL⟩
  · have hc6 : c < 6 := by omega
    by_cases hg : pz_t (σ 37) n 21 0 0 = some n
    · refine ⟨nI c, fun σ1 => ∃ g, jd_g σ c n g ∧ iw_t (jd_cp σ 5 2 (48 * c) n 5) g (48 * c + n) 21 (48 * c) 0 (48 * c + n) ∧ σ1 = jx_su (jx_su (jx_s6 (jd_cp σ 5 2 (48 * c) n) g) 4 2 (nI c + 1)) 1 1 0, fun Q hQ => ?_, fun σ1 hT Q hQ => ?_⟩
      · exact jd_X hc6 hn c1 n1 hD (fun _ g h1 h2 => hQ _ ⟨g, h1, h2, rfl⟩) (fun h => absurd hg h)
      · obtain ⟨g, h1, h2, rfl⟩ := hT
        refine jd_M (d := d + 24) (c := c) (n := n) hc6 hn c2 n2 hb (fun _ d' l' => hQ _ ?_) (fun h => absurd hg h)
        refine ⟨⟨0, by decide, rfl, rfl, fun i hi => absurd hi (Nat.not_lt_zero _)⟩, ⟨c + 1, hc6, ?_, ?_, fun s hs => ?_⟩, iR, iI, iG, iM, iT, iL⟩
        · exact nI_1 c
        · exact nI_1 c
        · by_cases hsc : s = c
          · subst hsc
            refine ⟨n, hn, fun i hi => ?_, ?_⟩
            · show jd_cp σ 5 2 (48 * s) n 5 (48 * s + i) = jd_cp σ 35 37 (48 * s) n 35 (48 * s + i) ∧ ∃ b : Nat, b < 256 ∧ jd_cp σ 35 37 (48 * s) n 35 (48 * s + i) = nI b
              rw [jd_cpi (by omega) (by omega), jd_cpi (by omega) (by omega), Nat.add_sub_cancel_left]
              exact hD i hi
            · show iw_t (jd_cp σ 35 37 (48 * s) n 35) g (48 * s + n) 21 (48 * s) 0 (48 * s + n)
              refine iw_f (s0 := 48 * s) (fun j a1 a2 => ?_) (Nat.le_refl _) h2
              rw [jd_cpi a1 a2, jd_cpi a1 a2]
              exact (hD _ (by omega)).1.symm
          · exact jd_old (c := c) (f5 := σ 5) (f6 := σ 6) (f35 := σ 35) (g5 := jd_cp σ 5 2 (48 * c) n 5) (g6 := g) (g35 := jd_cp σ 35 37 (48 * c) n 35) hS (fun j hj => jd_cpx (Or.inl hj)) (fun j hj => h1 j (Or.inl hj)) (fun j hj => jd_cpx (Or.inl hj)) s (by omega)
    · refine ⟨-2, fun σ1 => ∃ g, jd_g σ c n g ∧ σ1 = jx_su (jx_s6 (jd_cp σ 5 2 (48 * c) n) g) 1 1 0, fun Q hQ => ?_, fun σ1 hT Q hQ => ?_⟩
      · exact jd_X hc6 hn c1 n1 hD (fun h => absurd h hg) (fun _ g h1 => hQ _ ⟨g, h1, rfl⟩)
      · obtain ⟨g, h1, rfl⟩ := hT
        refine jd_M (d := d + 24) (c := c) (n := n) hc6 hn c2 n2 hb (fun h => absurd h hg) (fun _ d' l' => hQ _ ?_)
        refine ⟨⟨0, by decide, rfl, rfl, fun i hi => absurd hi (Nat.not_lt_zero _)⟩, ⟨c, hc, c1, c2, ?_⟩, iR, iI, iG, iM, iT, iL⟩
        exact jd_old (c := c) (f5 := σ 5) (f6 := σ 6) (f35 := σ 35) (g5 := jd_cp σ 5 2 (48 * c) n 5) (g6 := g) (g35 := σ 35) hS (fun j hj => jd_cpx (Or.inl hj)) (fun j hj => h1 j (Or.inl hj)) (fun j hj => rfl)
end JVG

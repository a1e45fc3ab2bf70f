/-! the class's reader of scripts -/
def pz_t (f : Nat → Int32) (e : Nat) : Nat → Nat → Nat → Option Nat
  | 0, _, _ => none
  | r + 1, p, lam => if p < e then (if f p = 0 then (if p + 1 < e ∧ f (p + 1) < nI lam then some (p + 2) else none)
      else if f p = 1 then pz_t f e r (p + 1) (lam + 1)
      else if f p = 2 then (match pz_t f e r (p + 1) lam with
        | none => none
        | some q => pz_t f e r q lam)
      else if f p = 3 then (if p + 1 < e then some (p + 2) else none)
      else if f p = 4 then (if p + 1 < e ∧ f (p + 1) ≤ 10 then some (p + 2) else none)
      else if f p = 5 ∨ f p = 6 then pz_t f e r (p + 1) lam
      else if f p = 7 ∨ f p = 8 then some (p + 1) else none) else none
section PZ
variable {f : Nat → Int32} {e r p lam : Nat}
theorem pz_end (h : ¬ p < e) : pz_t f e (r + 1) p lam = none := by rw [pz_t, if_neg h]
theorem pz_0 (hp : p < e) (h : f p = 0) : pz_t f e (r + 1) p lam = if p + 1 < e ∧ f (p + 1) < nI lam then some (p + 2) else none := by rw [pz_t, if_pos hp, if_pos h]
theorem pz_1 (hp : p < e) (h : f p = 1) : pz_t f e (r + 1) p lam = pz_t f e r (p + 1) (lam + 1) := by rw [pz_t, if_pos hp, h]; rfl
theorem pz_2n (hp : p < e) (h : f p = 2) (h1 : pz_t f e r (p + 1) lam = none) : pz_t f e (r + 1) p lam = none := by rw [pz_t, if_pos hp, h, h1]; rfl
theorem pz_2s {q : Nat} (hp : p < e) (h : f p = 2) (h1 : pz_t f e r (p + 1) lam = some q) : pz_t f e (r + 1) p lam = pz_t f e r q lam := by rw [pz_t, if_pos hp, h, h1]; rfl
theorem pz_3 (hp : p < e) (h : f p = 3) : pz_t f e (r + 1) p lam = if p + 1 < e then some (p + 2) else none := by rw [pz_t, if_pos hp, h]; rfl
theorem pz_4 (hp : p < e) (h : f p = 4) : pz_t f e (r + 1) p lam = if p + 1 < e ∧ f (p + 1) ≤ 10 then some (p + 2) else none := by rw [pz_t, if_pos hp, h]; rfl
theorem pz_56 (hp : p < e) (h : f p = 5 ∨ f p = 6) : pz_t f e (r + 1) p lam = pz_t f e r (p + 1) lam := by
  rcases h with h | h <;> (rw [pz_t, if_pos hp, h]; rfl)
theorem pz_78 (hp : p < e) (h : f p = 7 ∨ f p = 8) : pz_t f e (r + 1) p lam = some (p + 1) := by
  rcases h with h | h <;> (rw [pz_t, if_pos hp, h]; rfl)
theorem pz_o {b : Nat} (hp : p < e) (hb : b < 256) (h9 : 9 ≤ b) (h : f p = nI b) : pz_t f e (r + 1) p lam = none := by
  have ne : ∀ k : Nat, k < 9 → ¬ f p = nI k := fun k hk q => by
    rw [h] at q
    have := (nI_eq (by omega) (by omega)).mp q
    omega
  rw [pz_t, if_pos hp, if_neg (show ¬ f p = 0 from ne 0 (by decide)), if_neg (show ¬ f p = 1 from ne 1 (by decide)), if_neg (show ¬ f p = 2 from ne 2 (by decide)), if_neg (show ¬ f p = 3 from ne 3 (by decide)), if_neg (show ¬ f p = 4 from ne 4 (by decide)), if_neg (show ¬ (f p = 5 ∨ f p = 6) from fun q => q.elim (ne 5 (by decide)) (ne 6 (by decide))), if_neg (show ¬ (f p = 7 ∨ f p = 8) from fun q => q.elim (ne 7 (by decide)) (ne 8 (by decide)))]
end PZ
/-- iw_t only looks at g within the term -/
theorem iw_le {f g : Nat → Int32} {e : Nat} : ∀ {r p lam q : Nat}, iw_t f g e r p lam q → p < q
  | 0, _, _, _, h => h.elim
  | r + 1, p, lam, q, h => by
    obtain ⟨hp, h | h | h | h | h | h | h⟩ := h
    · omega
    · have := iw_le h.2; omega
    · obtain ⟨-, q1, h1, h2, -⟩ := h
      have a := iw_le h1
      have b := iw_le h2
      omega
    · omega
    · omega
    · have := iw_le h.2; omega
    · omega
theorem iw_keep {f g g' : Nat → Int32} {e : Nat} : ∀ {r p lam q : Nat}, iw_t f g e r p lam q → (∀ j, p ≤ j → j < q → g' j = g j) → iw_t f g' e r p lam q
  | 0, _, _, _, h, _ => h.elim
  | r + 1, p, lam, q, h, hk => by
    obtain ⟨hp, h | h | h | h | h | h | h⟩ := h
    · exact ⟨hp, Or.inl h⟩
    · exact ⟨hp, Or.inr (Or.inl ⟨h.1, iw_keep h.2 (fun j h1 h2 => hk j (by omega) h2)⟩)⟩
    · obtain ⟨h0, q1, h1, h2, h3⟩ := h
      have a := iw_le h1
      have b := iw_le h2
      exact ⟨hp, Or.inr (Or.inr (Or.inl ⟨h0, q1, iw_keep h1 (fun j a1 a2 => hk j (by omega) (by omega)), iw_keep h2 (fun j a1 a2 => hk j (by omega) a2), by rw [hk p (Nat.le_refl _) (by omega)]; exact h3⟩))⟩
    · exact ⟨hp, Or.inr (Or.inr (Or.inr (Or.inl h)))⟩
    · exact ⟨hp, Or.inr (Or.inr (Or.inr (Or.inr (Or.inl h))))⟩
    · exact ⟨hp, Or.inr (Or.inr (Or.inr (Or.inr (Or.inr (Or.inl ⟨h.1, iw_keep h.2 (fun j h1 h2 => hk j (by omega) h2)⟩)))))⟩
    · exact ⟨hp, Or.inr (Or.inr (Or.inr (Or.inr (Or.inr (Or.inr h)))))⟩
def pz_P (f g g' : Nat → Int32) (e r p lam : Nat) (res : Int32) : Prop := (∃ q, pz_t f e r p lam = some q ∧ res = nI q ∧ p < q ∧ q ≤ e ∧ iw_t f g' e r p lam q ∧ ∀ j, j < p ∨ q ≤ j → g' j = g j) ∨ (pz_t f e r p lam = none ∧ res = -2 ∧ ∀ j, j < p ∨ e ≤ j → g' j = g j)
def jx_s6 (σ : jx_St) (g : Nat → Int32) : jx_St := fun q => bif Nat.beq q 6 then g else σ q
theorem jx_s6i (σ : jx_St) : jx_s6 σ (σ 6) = σ := by
  funext q
  unfold jx_s6
  cases h : Nat.beq q 6 with
  | false => rfl
  | true =>
    have e1 := Nat.eq_of_beq_eq_true h
    subst e1
    rfl
theorem jx_s6s (σ : jx_St) (g : Nat → Int32) (i : Nat) (v : Int32) : jx_su (jx_s6 σ g) 6 i v = jx_s6 σ (upd g i v) := by
  funext q
  by_cases hq : q = 6
  · subst hq; rw [jx_su_eq]; rfl
  · rw [jx_su_ne _ _ _ hq]
    unfold jx_s6
    rw [jx_bne hq]
    rfl
theorem jx_s66 (σ : jx_St) (g g' : Nat → Int32) : jx_s6 (jx_s6 σ g) g' = jx_s6 σ g' := by
  funext q
  unfold jx_s6
  cases h : Nat.beq q 6 <;> rfl
theorem jl_m1 {lam b : Nat} (hl : lam < 1000) (hb : b < 256) : nI lam - 1 < nI b ↔ ¬ nI b < nI lam := by
  have e : (nI lam - 1).toInt = (lam : Int) - 1 := pk_sub_toInt (a := lam) (b := 1) (by omega) (by decide)
  rw [Int32.lt_iff_toInt_lt, Int32.lt_iff_toInt_lt, e, nI_toInt (by omega), nI_toInt (by omega)]
  omega
set_option maxHeartbeats 4000000 in
theorem jp_59 {l : Launch} {D : va_G} {cA : ClassId} {ρ : Nat → Nat} {d e s0 : Nat} (he : e ≤ 288) : ∀ (r p lam : Nat) (σ : jx_St) (Q : Option Value → jx_St → Prop), r ≤ 21 → lam + r ≤ 21 → p ≤ e → s0 ≤ p → (∀ j, s0 ≤ j → j < e → ∃ b : Nat, b < 256 ∧ σ 5 j = nI b) → (∀ g' res, pz_P (σ 5) (σ 6) g' e r p lam res → Q (some (.int res)) (jx_s6 σ g')) →
    jx_C l D cA ρ jx_XM (d + r + 2) 59 [.ref 5, .ref 6, .int (nI p), .int (nI e), .int (nI lam), .int (nI (21 - r))] σ Q
  | 0, p, lam, σ, Q, hr, hlr, hp, hs0, hb, hQ => by
    have h9 := hQ (σ 6) (-2) (Or.inr ⟨rfl, rfl, fun _ _ => rfl⟩)
    rw [jx_s6i] at h9
    refine ji_59 ⟨fun q => absurd q (nI_pos (by omega)), fun _ => ⟨fun _ => h9, fun _ => ⟨fun q => absurd q (by decide), fun _ => h9⟩⟩⟩
  | r + 1, p, lam, σ, Q, hr, hlr, hp, hs0, hb, hQ => by
    have hQ0 : ∀ res, pz_P (σ 5) (σ 6) (σ 6) e (r + 1) p lam res → Q (some (.int res)) σ := fun res h => by
      have h9 := hQ (σ 6) res h
      rw [jx_s6i] at h9
      exact h9
    have g0 : ¬ nI p < 0 := nI_pos (by omega)
    by_cases hpe : p < e
    · have g1 : ¬ nI e ≤ nI p := nI_ge hpe (by omega)
      have g2 : nI (21 - (r + 1)) ≤ 20 := nI_le (b := 20) (by omega) (by decide)
      have v : vp_in (nI p) 288 := vp_in_nI (by omega) (by decide)
      have ecl : (nI p).toNatClampNeg = p := nI_clamp (by omega)
      obtain ⟨b, hb256, eb⟩ := hb p hs0 hpe
      have eb' : σ 5 (nI p).toNatClampNeg = nI b := by rw [ecl]; exact eb
      have elev : nI (21 - (r + 1)) + 1 = nI (21 - r) := by rw [nI_1]; congr 1; omega
      have ecl1 : (nI p + 1).toNatClampNeg = p + 1 := by rw [nI_1]; exact nI_clamp (by omega)
      refine ji_59 ⟨fun q => absurd q g0, fun _ => ⟨fun q => absurd q g1, fun _ => ⟨fun _ => ⟨v, ?_⟩, fun q => absurd g2 q⟩⟩⟩
      rcases (by omega : b = 0 ∨ b = 1 ∨ b = 2 ∨ b = 3 ∨ b = 4 ∨ b = 5 ∨ b = 6 ∨ b = 7 ∨ b = 8 ∨ 9 ≤ b) with rfl | rfl | rfl | rfl | rfl | rfl | rfl | rfl | rfl | h9
      · refine ⟨fun _ => ?_, fun q => absurd eb' q⟩
        by_cases h1 : p + 1 < e
        · obtain ⟨b1, hb1, eb1⟩ := hb (p + 1) (by omega) h1
          have eb1' : σ 5 (nI p + 1).toNatClampNeg = nI b1 := by rw [ecl1]; exact eb1
          have v1 : vp_in (nI p + 1) 288 := by rw [nI_1]; exact vp_in_nI (by omega) (by decide)
          have n1 : ¬ nI e ≤ nI p + 1 := by rw [nI_1]; exact nI_ge h1 (by omega)
          by_cases hlt : nI b1 < nI lam
          · have n2 : ¬ nI lam - 1 < σ 5 (nI p + 1).toNatClampNeg := by rw [eb1', jl_m1 (by omega) hb1]; exact fun q => q hlt
            have h9 := hQ0 (nI p + 1 + 1) (Or.inl ⟨p + 2, by rw [pz_0 hpe eb, if_pos ⟨h1, by rw [eb1]; exact hlt⟩], by rw [nI_1, nI_1], by omega, by omega, ⟨hpe, Or.inl ⟨eb, h1, by rw [eb1]; exact hlt, rfl⟩⟩, fun _ _ => rfl⟩)
            exact ji_60 ⟨fun q => absurd q n1, fun _ => ⟨v1, fun q => absurd q n2, fun _ => h9⟩⟩
          · have n2 : nI lam - 1 < σ 5 (nI p + 1).toNatClampNeg := by rw [eb1', jl_m1 (by omega) hb1]; exact hlt
            have h9 := hQ0 (-2) (Or.inr ⟨by rw [pz_0 hpe eb, if_neg (fun q => hlt (by rw [← eb1]; exact q.2))], rfl, fun _ _ => rfl⟩)
            exact ji_60 ⟨fun q => absurd q n1, fun _ => ⟨v1, fun _ => h9, fun q => absurd n2 q⟩⟩
        · have n1 : nI e ≤ nI p + 1 := by rw [nI_1]; exact nI_le (by omega) (by omega)
          have h9 := hQ0 (-2) (Or.inr ⟨by rw [pz_0 hpe eb, if_neg (fun q => h1 q.1)], rfl, fun _ _ => rfl⟩)
          exact ji_60 ⟨fun _ => h9, fun q => absurd n1 q⟩
      · refine ⟨fun q => absurd (eb'.symm.trans q) (by decide), fun _ => ⟨fun _ => ?_, fun q => absurd eb' q⟩⟩
        have ih := fun K hK => jp_59 (l := l) (D := D) (cA := cA) (ρ := ρ) (d := d) (s0 := s0) he r (p + 1) (lam + 1) σ K (by omega) (by omega) (by omega) (by omega) hb hK
        rw [← nI_1 p, ← nI_1 lam, ← elev] at ih
        refine ih _ (fun g' res hP => hQ g' res ?_)
        · rcases hP with ⟨q, q1, q2, q3, q4, q5, q6⟩ | ⟨q1, q2, q3⟩
          · exact Or.inl ⟨q, by rw [pz_1 hpe eb]; exact q1, q2, by omega, q4, ⟨hpe, Or.inr (Or.inl ⟨eb, q5⟩)⟩, fun j hj => q6 j (by omega)⟩
          · exact Or.inr ⟨by rw [pz_1 hpe eb]; exact q1, q2, fun j hj => q3 j (by omega)⟩
      · refine ⟨fun q => absurd (eb'.symm.trans q) (by decide), fun _ => ⟨fun q => absurd (eb'.symm.trans q) (by decide), fun _ => ⟨fun _ => ?_, fun q => absurd eb' q⟩⟩⟩
        have ih := fun K hK => jp_59 (l := l) (D := D) (cA := cA) (ρ := ρ) (d := d) (s0 := s0) he r (p + 1) lam σ K (by omega) (by omega) (by omega) (by omega) hb hK
        rw [← nI_1 p, ← elev] at ih
        refine ih _ (fun g1 r1 hP => ?_)
        refine ⟨v, ?_⟩
        refine ⟨v, ?_⟩
        rcases hP with ⟨q, q1, q2, q3, q4, q5, q6⟩ | ⟨q1, q2, q3⟩
        · subst q2
          have eτ : jx_su (jx_s6 σ g1) 6 (nI p).toNatClampNeg (nI q) = jx_s6 σ (upd g1 p (nI q)) := by rw [ecl, jx_s6s]
          have er : jx_su (jx_s6 σ g1) 6 (nI p).toNatClampNeg (nI q) 6 (nI p).toNatClampNeg = nI q := by rw [eτ, ecl]; exact pk_us
          have ih2 := fun K hK => jp_59 (l := l) (D := D) (cA := cA) (ρ := ρ) (d := d) (s0 := s0) he r q lam (jx_su (jx_s6 σ g1) 6 (nI p).toNatClampNeg (nI q)) K (by omega) (by omega) q4 (by omega) hb hK
          rw [← elev] at ih2
          have ih3 : ∀ K : Option Value → jx_St → Prop, (∀ g' res, pz_P (jx_su (jx_s6 σ g1) 6 (nI p).toNatClampNeg (nI q) 5) (jx_su (jx_s6 σ g1) 6 (nI p).toNatClampNeg (nI q) 6) g' e r q lam res → K (some (.int res)) (jx_s6 (jx_su (jx_s6 σ g1) 6 (nI p).toNatClampNeg (nI q)) g')) → jx_C l D cA ρ jx_XM (d + r + 2) 59 [.ref 5, .ref 6, .int (jx_su (jx_s6 σ g1) 6 (nI p).toNatClampNeg (nI q) 6 (nI p).toNatClampNeg), .int (nI e), .int (nI lam), .int (nI (21 - (r + 1)) + 1)] (jx_su (jx_s6 σ g1) 6 (nI p).toNatClampNeg (nI q)) K := by rw [er]; exact ih2
          refine ih3 _ (fun g2 res hP2 => ?_)
          show Q (some (.int res)) (jx_s6 (jx_su (jx_s6 σ g1) 6 (nI p).toNatClampNeg (nI q)) g2)
          · rw [eτ] at hP2 ⊢
            rw [jx_s66]
            refine hQ g2 res ?_
            rcases hP2 with ⟨qq, a1, a2, a3, a4, a5, a6⟩ | ⟨a1, a2, a3⟩
            · refine Or.inl ⟨qq, by rw [pz_2s hpe eb q1]; exact a1, a2, by omega, a4, ⟨hpe, Or.inr (Or.inr (Or.inl ⟨eb, q, ?_, a5, ?_⟩))⟩, fun j hj => ?_⟩
              · refine iw_keep q5 (fun j h1 h2 => ?_)
                rw [a6 j (by omega)]
                exact pk_un (by omega)
              · rw [a6 p (by omega)]
                exact pk_us
              · rw [a6 j (by omega)]
                show upd g1 p (nI q) j = σ 6 j
                rw [pk_un (by omega)]
                exact q6 j (by omega)
            · refine Or.inr ⟨by rw [pz_2s hpe eb q1]; exact a1, a2, fun j hj => ?_⟩
              rw [a3 j (by omega)]
              show upd g1 p (nI q) j = σ 6 j
              rw [pk_un (by omega)]
              exact q6 j (by omega)
        · subst q2
          have eτ : jx_su (jx_s6 σ g1) 6 (nI p).toNatClampNeg (-2) = jx_s6 σ (upd g1 p (-2)) := by rw [ecl, jx_s6s]
          have er : jx_su (jx_s6 σ g1) 6 (nI p).toNatClampNeg (-2) 6 (nI p).toNatClampNeg < 0 := by rw [eτ, ecl]; show upd g1 p (-2) p < 0; rw [pk_us]; decide
          refine ji_59 ⟨fun _ => ?_, fun q => absurd er q⟩
          have h9 := hQ (upd g1 p (-2)) (-2) (Or.inr ⟨pz_2n hpe eb q1, rfl, fun j hj => by rw [pk_un (by omega)]; exact q3 j (by omega)⟩)
          rw [← eτ] at h9
          exact h9
      · refine ⟨fun q => absurd (eb'.symm.trans q) (by decide), fun _ => ⟨fun q => absurd (eb'.symm.trans q) (by decide), fun _ => ⟨fun q => absurd (eb'.symm.trans q) (by decide), fun _ => ⟨fun _ => ?_, fun q => absurd eb' q⟩⟩⟩⟩
        by_cases h1 : p + 1 < e
        · obtain ⟨b1, hb1, eb1⟩ := hb (p + 1) (by omega) h1
          have v1 : vp_in (nI p + 1) 288 := by rw [nI_1]; exact vp_in_nI (by omega) (by decide)
          have n1 : ¬ nI e ≤ nI p + 1 := by rw [nI_1]; exact nI_ge h1 (by omega)
          have n2 : ¬ 255 < σ 5 (nI p + 1).toNatClampNeg := by rw [ecl1, eb1]; exact nI_nlt (a := 255) (by omega) (by decide)
          have h9 := hQ0 (nI p + 1 + 1) (Or.inl ⟨p + 2, by rw [pz_3 hpe eb, if_pos h1], by rw [nI_1, nI_1], by omega, by omega, ⟨hpe, Or.inr (Or.inr (Or.inr (Or.inl ⟨eb, h1, rfl⟩)))⟩, fun _ _ => rfl⟩)
          exact ji_60 ⟨fun q => absurd q n1, fun _ => ⟨v1, fun q => absurd q n2, fun _ => h9⟩⟩
        · have n1 : nI e ≤ nI p + 1 := by rw [nI_1]; exact nI_le (by omega) (by omega)
          have h9 := hQ0 (-2) (Or.inr ⟨by rw [pz_3 hpe eb, if_neg h1], rfl, fun _ _ => rfl⟩)
          exact ji_60 ⟨fun _ => h9, fun q => absurd n1 q⟩
      · refine ⟨fun q => absurd (eb'.symm.trans q) (by decide), fun _ => ⟨fun q => absurd (eb'.symm.trans q) (by decide), fun _ => ⟨fun q => absurd (eb'.symm.trans q) (by decide), fun _ => ⟨fun q => absurd (eb'.symm.trans q) (by decide), fun _ => ⟨fun _ => ?_, fun q => absurd eb' q⟩⟩⟩⟩⟩
        by_cases h1 : p + 1 < e
        · obtain ⟨b1, hb1, eb1⟩ := hb (p + 1) (by omega) h1
          have v1 : vp_in (nI p + 1) 288 := by rw [nI_1]; exact vp_in_nI (by omega) (by decide)
          have n1 : ¬ nI e ≤ nI p + 1 := by rw [nI_1]; exact nI_ge h1 (by omega)
          by_cases hlt : σ 5 (p + 1) ≤ 10
          · have n2 : ¬ 10 < σ 5 (nI p + 1).toNatClampNeg := by rw [ecl1]; exact Int32.not_lt.mpr hlt
            have h9 := hQ0 (nI p + 1 + 1) (Or.inl ⟨p + 2, by rw [pz_4 hpe eb, if_pos ⟨h1, hlt⟩], by rw [nI_1, nI_1], by omega, by omega, ⟨hpe, Or.inr (Or.inr (Or.inr (Or.inr (Or.inl ⟨eb, h1, hlt, rfl⟩))))⟩, fun _ _ => rfl⟩)
            exact ji_60 ⟨fun q => absurd q n1, fun _ => ⟨v1, fun q => absurd q n2, fun _ => h9⟩⟩
          · have n2 : 10 < σ 5 (nI p + 1).toNatClampNeg := by rw [ecl1]; exact Int32.not_le.mp hlt
            have h9 := hQ0 (-2) (Or.inr ⟨by rw [pz_4 hpe eb, if_neg (fun q => hlt q.2)], rfl, fun _ _ => rfl⟩)
            exact ji_60 ⟨fun q => absurd q n1, fun _ => ⟨v1, fun _ => h9, fun q => absurd n2 q⟩⟩
        · have n1 : nI e ≤ nI p + 1 := by rw [nI_1]; exact nI_le (by omega) (by omega)
          have h9 := hQ0 (-2) (Or.inr ⟨by rw [pz_4 hpe eb, if_neg (fun q => h1 q.1)], rfl, fun _ _ => rfl⟩)
          exact ji_60 ⟨fun _ => h9, fun q => absurd n1 q⟩
      · refine ⟨fun q => absurd (eb'.symm.trans q) (by decide), fun _ => ⟨fun q => absurd (eb'.symm.trans q) (by decide), fun _ => ⟨fun q => absurd (eb'.symm.trans q) (by decide), fun _ => ⟨fun q => absurd (eb'.symm.trans q) (by decide), fun _ => ⟨fun q => absurd (eb'.symm.trans q) (by decide), fun _ => ⟨fun _ => ?_, fun q => absurd eb' q⟩⟩⟩⟩⟩⟩
        have ih := fun K hK => jp_59 (l := l) (D := D) (cA := cA) (ρ := ρ) (d := d) (s0 := s0) he r (p + 1) lam σ K (by omega) (by omega) (by omega) (by omega) hb hK
        rw [← nI_1 p, ← elev] at ih
        refine ih _ (fun g' res hP => hQ g' res ?_)
        · rcases hP with ⟨q, q1, q2, q3, q4, q5, q6⟩ | ⟨q1, q2, q3⟩
          · exact Or.inl ⟨q, by rw [pz_56 hpe (Or.inl eb)]; exact q1, q2, by omega, q4, ⟨hpe, Or.inr (Or.inr (Or.inr (Or.inr (Or.inr (Or.inl ⟨Or.inl eb, q5⟩)))))⟩, fun j hj => q6 j (by omega)⟩
          · exact Or.inr ⟨by rw [pz_56 hpe (Or.inl eb)]; exact q1, q2, fun j hj => q3 j (by omega)⟩
      · refine ⟨fun q => absurd (eb'.symm.trans q) (by decide), fun _ => ⟨fun q => absurd (eb'.symm.trans q) (by decide), fun _ => ⟨fun q => absurd (eb'.symm.trans q) (by decide), fun _ => ⟨fun q => absurd (eb'.symm.trans q) (by decide), fun _ => ⟨fun q => absurd (eb'.symm.trans q) (by decide), fun _ => ⟨fun q => absurd (eb'.symm.trans q) (by decide), fun _ => ⟨fun _ => ?_, fun q => absurd eb' q⟩⟩⟩⟩⟩⟩⟩
        have ih := fun K hK => jp_59 (l := l) (D := D) (cA := cA) (ρ := ρ) (d := d) (s0 := s0) he r (p + 1) lam σ K (by omega) (by omega) (by omega) (by omega) hb hK
        rw [← nI_1 p, ← elev] at ih
        refine ih _ (fun g' res hP => hQ g' res ?_)
        · rcases hP with ⟨q, q1, q2, q3, q4, q5, q6⟩ | ⟨q1, q2, q3⟩
          · exact Or.inl ⟨q, by rw [pz_56 hpe (Or.inr eb)]; exact q1, q2, by omega, q4, ⟨hpe, Or.inr (Or.inr (Or.inr (Or.inr (Or.inr (Or.inl ⟨Or.inr eb, q5⟩)))))⟩, fun j hj => q6 j (by omega)⟩
          · exact Or.inr ⟨by rw [pz_56 hpe (Or.inr eb)]; exact q1, q2, fun j hj => q3 j (by omega)⟩
      · refine ⟨fun q => absurd (eb'.symm.trans q) (by decide), fun _ => ⟨fun q => absurd (eb'.symm.trans q) (by decide), fun _ => ⟨fun q => absurd (eb'.symm.trans q) (by decide), fun _ => ⟨fun q => absurd (eb'.symm.trans q) (by decide), fun _ => ⟨fun q => absurd (eb'.symm.trans q) (by decide), fun _ => ⟨fun q => absurd (eb'.symm.trans q) (by decide), fun _ => ⟨fun q => absurd (eb'.symm.trans q) (by decide), fun _ => ⟨fun _ => ?_, fun q => absurd eb' q⟩⟩⟩⟩⟩⟩⟩⟩
        exact hQ0 (nI p + 1) (Or.inl ⟨p + 1, pz_78 hpe (Or.inl eb), nI_1 p, by omega, by omega, ⟨hpe, Or.inr (Or.inr (Or.inr (Or.inr (Or.inr (Or.inr ⟨Or.inl eb, rfl⟩)))))⟩, fun _ _ => rfl⟩)
      · refine ⟨fun q => absurd (eb'.symm.trans q) (by decide), fun _ => ⟨fun q => absurd (eb'.symm.trans q) (by decide), fun _ => ⟨fun q => absurd (eb'.symm.trans q) (by decide), fun _ => ⟨fun q => absurd (eb'.symm.trans q) (by decide), fun _ => ⟨fun q => absurd (eb'.symm.trans q) (by decide), fun _ => ⟨fun q => absurd (eb'.symm.trans q) (by decide), fun _ => ⟨fun q => absurd (eb'.symm.trans q) (by decide), fun _ => ⟨fun q => absurd (eb'.symm.trans q) (by decide), fun _ => ⟨fun _ => ?_, fun q => absurd eb' q⟩⟩⟩⟩⟩⟩⟩⟩⟩
        exact hQ0 (nI p + 1) (Or.inl ⟨p + 1, pz_78 hpe (Or.inr eb), nI_1 p, by omega, by omega, ⟨hpe, Or.inr (Or.inr (Or.inr (Or.inr (Or.inr (Or.inr ⟨Or.inr eb, rfl⟩)))))⟩, fun _ _ => rfl⟩)
      · have ne : ∀ k : Nat, k < 9 → ¬ σ 5 (nI p).toNatClampNeg = nI k := fun k hk q => by
          rw [eb'] at q
          have := (nI_eq (by omega) (by omega)).mp q
          omega
        refine ⟨fun q => absurd q (ne 0 (by decide)), fun _ => ⟨fun q => absurd q (ne 1 (by decide)), fun _ => ⟨fun q => absurd q (ne 2 (by decide)), fun _ => ⟨fun q => absurd q (ne 3 (by decide)), fun _ => ⟨fun q => absurd q (ne 4 (by decide)), fun _ => ⟨fun q => absurd q (ne 5 (by decide)), fun _ => ⟨fun q => absurd q (ne 6 (by decide)), fun _ => ⟨fun q => absurd q (ne 7 (by decide)), fun _ => ⟨fun q => absurd q (ne 8 (by decide)), fun _ => ?_⟩⟩⟩⟩⟩⟩⟩⟩⟩
        exact hQ0 (-2) (Or.inr ⟨pz_o hpe hb256 h9 eb, rfl, fun _ _ => rfl⟩)
    · have g1 : nI e ≤ nI p := nI_le (by omega) (by omega)
      have h9 := hQ0 (-2) (Or.inr ⟨pz_end hpe, rfl, fun _ _ => rfl⟩)
      exact ji_59 ⟨fun q => absurd q g0, fun _ => ⟨fun _ => h9, fun q => absurd g1 q⟩⟩

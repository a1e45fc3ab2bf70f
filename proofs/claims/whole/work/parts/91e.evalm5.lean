/-! the model hands a value on; its loop -/
def ez_fw (k : Nat) : Nat := if k = 0 then 3 else if k = 2 then 1 else 2
def ez_kw : List ez_F → Nat
  | [] => 0
  | F :: t => ez_fw F.1 + ez_kw t
def ez_pt (S : ez_S) (K : List ez_F) (s : Nat) : Nat := 4 * (99 - s) + ez_kw K + (if S.1 = 2 then 1 else 0) + 1
theorem ez_pot {f g : Nat → Int32} {B : Nat} {S : ez_S} {K : List ez_F} {s : Nat} {r : ez_S × List ez_F × Nat} (hB : B ≤ 99) (hS : S.1 ≤ 3) (hK : ∀ F t, K = F :: t → F.1 ≤ 3) (hs : s ≤ B) (h : ez_st f g B S K s = .inl r) : ez_pt r.1 r.2.1 r.2.2 + 1 ≤ ez_pt S K s ∧ r.2.2 ≤ B := by
  obtain ⟨m, p, a, x⟩ := S
  have hS : m ≤ 3 := hS
  rcases (by omega : m = 0 ∨ m = 1 ∨ m = 2 ∨ m = 3) with rfl | rfl | rfl | rfl
  · rw [ez_st0] at h
    by_cases c : B < s + 1
    · rw [if_pos c] at h; cases h
    · rw [if_neg c] at h
      unfold ez_tm at h
      split at h
      · cases h; exact ⟨by show 4 * (99 - (s + 1)) + ez_kw K + 0 + 1 + 1 ≤ 4 * (99 - s) + ez_kw K + 0 + 1; omega, by show s + 1 ≤ B; omega⟩
      split at h
      · cases h; exact ⟨by show 4 * (99 - (s + 1)) + ez_kw K + 0 + 1 + 1 ≤ 4 * (99 - s) + ez_kw K + 0 + 1; omega, by show s + 1 ≤ B; omega⟩
      split at h
      · cases h; exact ⟨by show 4 * (99 - (s + 1)) + (3 + ez_kw K) + 0 + 1 + 1 ≤ 4 * (99 - s) + ez_kw K + 0 + 1; omega, by show s + 1 ≤ B; omega⟩
      split at h
      · cases h; exact ⟨by show 4 * (99 - (s + 1)) + ez_kw K + 0 + 1 + 1 ≤ 4 * (99 - s) + ez_kw K + 0 + 1; omega, by show s + 1 ≤ B; omega⟩
      split at h
      · cases h; exact ⟨by show 4 * (99 - (s + 1)) + ez_kw K + 0 + 1 + 1 ≤ 4 * (99 - s) + ez_kw K + 0 + 1; omega, by show s + 1 ≤ B; omega⟩
      split at h
      · cases h; exact ⟨by show 4 * (99 - (s + 1)) + ez_kw K + 0 + 1 + 1 ≤ 4 * (99 - s) + ez_kw K + 0 + 1; omega, by show s + 1 ≤ B; omega⟩
      split at h
      · cases h; exact ⟨by show 4 * (99 - (s + 1)) + (1 + ez_kw K) + 0 + 1 + 1 ≤ 4 * (99 - s) + ez_kw K + 0 + 1; omega, by show s + 1 ≤ B; omega⟩
      split at h
      · cases h
      · cases h; exact ⟨by show 4 * (99 - (s + 1)) + ez_kw K + 0 + 1 + 1 ≤ 4 * (99 - s) + ez_kw K + 0 + 1; omega, by show s + 1 ≤ B; omega⟩
  · cases K with
    | nil => cases h
    | cons F t =>
      rw [ez_st1] at h
      have hF := hK F t rfl
      have hkw : ez_kw (F :: t) = ez_fw F.1 + ez_kw t := rfl
      unfold ez_vl at h
      unfold ez_pt
      rw [hkw]
      split at h
      · rename_i c
        cases h
        rw [c]
        exact ⟨by show 4 * (99 - s) + (2 + ez_kw t) + 0 + 1 + 1 ≤ 4 * (99 - s) + (3 + ez_kw t) + 0 + 1; omega, hs⟩
      split at h
      · rename_i c
        cases h
        rw [c]
        exact ⟨by show 4 * (99 - s) + ez_kw t + 1 + 1 + 1 ≤ 4 * (99 - s) + (2 + ez_kw t) + 0 + 1; omega, hs⟩
      split at h
      · rename_i c
        cases h
        rw [c]
        exact ⟨by show 4 * (99 - s) + ez_kw t + 1 + 1 + 1 ≤ 4 * (99 - s) + (2 + ez_kw t) + 0 + 1; omega, hs⟩
      · rename_i c0 c1 c3
        have c : F.1 = 2 := by omega
        rw [c]
        split at h
        · split at h
          · cases h
            exact ⟨by show 4 * (99 - s) + ez_kw t + 0 + 1 + 1 ≤ 4 * (99 - s) + (1 + ez_kw t) + 0 + 1; omega, hs⟩
          · cases h
        · cases h
  · rw [ez_st2] at h
    unfold ez_ap at h
    split at h
    · split at h
      · cases h; exact ⟨by show 4 * (99 - s) + ez_kw K + 0 + 1 + 1 ≤ 4 * (99 - s) + ez_kw K + 1 + 1; omega, hs⟩
      · split at h
        · split at h
          · cases h; exact ⟨by show 4 * (99 - s) + ez_kw K + 0 + 1 + 1 ≤ 4 * (99 - s) + ez_kw K + 1 + 1; omega, hs⟩
          · cases h; exact ⟨by show 4 * (99 - s) + ez_kw K + 0 + 1 + 1 ≤ 4 * (99 - s) + ez_kw K + 1 + 1; omega, hs⟩
        · cases h
    · cases h
  · rw [ez_st3] at h
    have hco := ez_co3 p
    by_cases c : B < s + ez_co p
    · rw [if_pos c] at h; cases h
    · rw [if_neg c] at h
      unfold ez_bu at h
      split at h
      · cases h; exact ⟨by show 4 * (99 - (s + ez_co p)) + ez_kw K + 0 + 1 + 1 ≤ 4 * (99 - s) + ez_kw K + 0 + 1; omega, by show s + ez_co p ≤ B; omega⟩
      · cases h
section EM5
variable {l : Launch} {D : va_G} {cA : ClassId} {ρ : Nat → Nat} {d : Nat} {Q : Option Value → jx_St → Prop} {σ τ : jx_St} {f g : Nat → Int32} {s0 E B : Nat}
set_option maxHeartbeats 4000000 in
theorem em_102 {p s : Nat} {v x : ez_V} {F : ez_F} {t : List ez_F} (hwk : ez_wk f g s0 E (F :: t)) (hwv : ez_w f g s0 E v) (hR : em_R σ τ B (1, p, v, x) (F :: t) s) (hQ : ∀ b τ', em_P σ τ' B b (ez_vl2 f g B F.1 F.2.1 F.2.2 v t s) → Q (some (.int b)) τ') : jx_C l D cA ρ jx_XM (d + 6) 102 [.ref 34] τ Q := by
  obtain ⟨u, w, hB, p1, p2, hcu⟩ := hR
  obtain ⟨e18, a, ea, hv⟩ : em_c1 τ u w v := hcu.2.2 rfl
  obtain ⟨k, pp, y⟩ := F
  have hB' := hB
  obtain ⟨hsame, hsB, hB99, eB, es, er, eK, eu, ew, hfr⟩ := hB'
  have p1 : u + w + (t.length + 1) ≤ 26 + s := p1
  have p2 : w + (t.length + 1) ≤ 3 + s := p2
  have eK : τ 34 14 = nI (t.length + 1) := eK
  obtain ⟨f1, f2, f3, f4⟩ := hfr
  have w1 : k ≤ 3 := hwk.1
  have w3 : ez_w f g s0 E y := hwk.2.2.1
  have f1 : τ 45 t.length = nI (em_fk k) := f1
  have f2 : k = 0 → τ 46 t.length = nI pp ∧ ∃ j : Nat, τ 47 t.length = nI j ∧ em_r τ u w y 1 j := f2
  have f3 : k = 1 ∨ k = 3 → ∃ i : Nat, τ 46 t.length = nI i ∧ em_r τ u w y 0 i := f3
  have ei : τ 34 14 - 1 = nI t.length := by rw [eK]; exact nI_pred _
  have vi : vp_in (τ 34 14 - 1) 120 := by rw [ei]; exact vp_in_nI (by omega) (by decide)
  have ec : (τ 34 14 - 1).toNatClampNeg = t.length := by rw [ei]; exact nI_clamp (by omega)
  have hlt := em_lt hv
  have va : vp_in (τ 34 20) 260 := by rw [ea]; exact vp_in_nI (by omega) (by decide)
  have ecl : (τ 34 20).toNatClampNeg = a := by rw [ea]; exact nI_clamp (by omega)
  have hB1 : em_B σ (jx_su τ 34 14 (τ 34 14 - 1)) B u w s t := by rw [ei]; exact em_B14 hB
  have hQ : ∀ b τ', em_P σ τ' B b (ez_vl2 f g B k pp y v t s) → Q (some (.int b)) τ' := hQ
  unfold ez_vl2 at hQ
  refine ji_102 ⟨vi, vi, vi, ?_⟩
  rcases (by omega : k = 0 ∨ k = 1 ∨ k = 2 ∨ k = 3) with rfl | rfl | rfl | rfl
  · have k1 : τ 45 (τ 34 14 - 1).toNatClampNeg = 1 := by rw [ec]; exact f1
    obtain ⟨g1, j, g2, g3⟩ := f2 rfl
    have r1 : τ 46 (τ 34 14 - 1).toNatClampNeg = nI pp := by rw [ec]; exact g1
    have r2 : τ 47 (τ 34 14 - 1).toNatClampNeg = nI j := by rw [ec]; exact g2
    refine ⟨fun _ => ⟨fun q => absurd k1 q, fun _ => ?_⟩, fun q => absurd (k1.symm.trans q) (by decide)⟩
    refine em_later (k := t.length) ei (by omega) ?_
    refine ⟨Or.inr rfl, hQ _ _ (em_Pl rfl ?_)⟩
    refine ⟨u, w, em_B19 (em_B18 ⟨em_pus hB1.1, hsB, hB99, eB, es, er, rfl, eu, ew, ⟨pk_us, fun z => absurd (show (1 : Nat) = 0 from z) (by decide), fun _ => ⟨a, pk_us.trans ea, hv⟩, ?_⟩⟩), p1, p2, Nat.zero_le _, fun _ => ⟨r1, j, r2, g3⟩, fun z => absurd (show (0 : Nat) = 1 from z) (by decide)⟩
    exact em_frm (τ := τ) (τ' := em_pu (jx_su τ 34 14 (τ 34 14 - 1)) t.length _ _ _) (fun _ _ _ z => z) (fun i hi => ⟨pk_un (by omega), pk_un (by omega), pk_un (by omega)⟩) f4
  · have k1 : τ 45 (τ 34 14 - 1).toNatClampNeg = 2 := by rw [ec]; exact f1
    obtain ⟨c, g1, g2⟩ := f3 (Or.inl rfl)
    have r1 : τ 46 (τ 34 14 - 1).toNatClampNeg = nI c := by rw [ec]; exact g1
    refine ⟨fun _ => ⟨fun _ => ⟨fun q => absurd k1 q, fun _ => ?_⟩, fun q => absurd (k1.symm.trans q) (by decide)⟩, fun q => absurd (k1.symm.trans q) (by decide)⟩
    have h103 := fun K2 hK => em_103 (l := l) (D := D) (cA := cA) (ρ := ρ) (d := d) (Q := K2) (f := f) (g := g) (s0 := s0) (E := E) (cw := c) (cx := a) (W := y) (X := v) hB1 e18 (by omega) (by omega) (em_r34 g2) (em_r34 hv) w3 hK
    rw [← r1, ← ea] at h103
    exact h103 _ (fun b τ' hP => ⟨em_Pb hP, hQ b τ' hP⟩)
  · have k1 : τ 45 (τ 34 14 - 1).toNatClampNeg = 0 := by rw [ec]; exact f1
    refine ⟨fun q => absurd k1 q, fun _ => ⟨va, ?_⟩⟩
    rcases em_kd hv with ⟨n, e, rfl, hk⟩ | ⟨hn, kd, hk1, hk⟩
    · have hk' : τ 38 (τ 34 20).toNatClampNeg = nI (3 + n % 3) := by rw [ecl]; exact hk
      by_cases c : n % 3 = 1
      · rw [c] at hk'
        obtain ⟨q1, q2, q3, q4, q5⟩ := hv
        obtain ⟨j, j1, j2⟩ := q4 (by omega)
        have r1 : τ 39 (τ 34 20).toNatClampNeg = nI (n / 3) := by rw [ecl]; exact q3
        have r2 : τ 40 (τ 34 20).toNatClampNeg = nI j := by rw [ecl]; exact j1
        have hst : ez_vl 2 pp y (.tag n e) t s = .inl ((0, n / 3, e, .nil), t, s) := if_pos c
        rw [hst] at hQ
        refine ⟨fun _ => ⟨va, va, Or.inr rfl, hQ _ _ (em_Pl rfl ?_)⟩, fun q => absurd hk' q⟩
        exact ⟨u, w, em_B19 (em_B18 hB1), by omega, by omega, Nat.zero_le _, fun _ => ⟨r1, j, r2, j2⟩, fun z => absurd (show (0 : Nat) = 1 from z) (by decide)⟩
      · have hne : ¬ τ 38 (τ 34 20).toNatClampNeg = 4 := by
          rw [hk']
          exact fun q => absurd ((nI_eq (b := 4) (by omega) (by decide)).mp q) (by omega)
        have hst : ez_vl 2 pp y (.tag n e) t s = .inr (2, s, .nil) := if_neg c
        rw [hst] at hQ
        exact ⟨fun q => absurd q hne, fun _ => em_fail ⟨Or.inl rfl, hQ _ _ ⟨rfl, em_Bx hB1⟩⟩⟩
    · have hne : ¬ τ 38 (τ 34 20).toNatClampNeg = 4 := by
        rw [ecl, hk]
        exact fun q => absurd ((nI_eq (b := 4) (by omega) (by decide)).mp q) (by omega)
      rw [ez_vln hn] at hQ
      exact ⟨fun q => absurd q hne, fun _ => em_fail ⟨Or.inl rfl, hQ _ _ ⟨rfl, em_Bx hB1⟩⟩⟩
  · have k1 : τ 45 (τ 34 14 - 1).toNatClampNeg = 3 := by rw [ec]; exact f1
    obtain ⟨c, g1, g2⟩ := f3 (Or.inr rfl)
    have r1 : τ 46 (τ 34 14 - 1).toNatClampNeg = nI c := by rw [ec]; exact g1
    refine ⟨fun _ => ⟨fun _ => ⟨fun _ => ?_, fun q => absurd (k1.symm.trans q) (by decide)⟩, fun q => absurd (k1.symm.trans q) (by decide)⟩, fun q => absurd (k1.symm.trans q) (by decide)⟩
    have h103 := fun K2 hK => em_103 (l := l) (D := D) (cA := cA) (ρ := ρ) (d := d) (Q := K2) (f := f) (g := g) (s0 := s0) (E := E) (cw := a) (cx := c) (W := v) (X := y) hB1 e18 (by omega) (by omega) (em_r34 hv) (em_r34 g2) hwv hK
    rw [← r1, ← ea] at h103
    exact h103 _ (fun b τ' hP => ⟨em_Pb hP, hQ b τ' hP⟩)
end EM5

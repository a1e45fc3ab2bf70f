/-! run -/
section EM7
variable {l : Launch} {D : va_G} {cA : ClassId} {ρ : Nat → Nat} {d : Nat} {Q : Option Value → jx_St → Prop} {σ τ : jx_St} {g : Nat → Int32} {s0 E B : Nat}
set_option maxHeartbeats 4000000 in
theorem em_107 {c u cx cy cz : Nat} {X Y Z : ez_V} (hB : B ≤ 99) (hE : E ≤ 288) (hb : ∀ j, 48 * c ≤ j → j < E → ∃ b : Nat, b < 256 ∧ σ 35 j = nI b) (ht : ez_t (σ 35) g (48 * c) E (48 * c) 0) (hwX : ez_w (σ 35) g (48 * c) E X) (hwY : ez_w (σ 35) g (48 * c) E Y) (hwZ : ez_w (σ 35) g (48 * c) E Z) (hs : em_same σ τ) (eu : τ 34 5 = nI u) (hu : u ≤ 23) (hX : em_r τ u 0 X 0 cx) (hY : em_r τ u 0 Y 0 cy) (hZ : em_r τ u 0 Z 0 cz)
    (hQ : ∀ τ', em_E σ τ' (ez (σ 35) g B 2000 (0, 48 * c, .nil, .nil) [(3, 0, X), (3, 0, Y), (3, 0, Z)] 0) → Q none τ') : jx_C l D cA ρ jx_XM (d + 7) 107 [.ref 34, .int (nI c), .int (nI cx), .int (nI cy), .int (nI cz), .int (nI B)] τ Q := by
  have e48 : 48 * nI c = nI (48 * c) := pk_mul 48 c
  refine jx_in jk_107 80 [69] rfl (Nat.le_of_ble_eq_true rfl) ?_
  refine ⟨Or.inr rfl, ?_⟩
  refine em_later (k := 0) rfl (by decide) ?_
  refine em_later (k := 1) rfl (by decide) ?_
  refine em_later (k := 2) rfl (by decide) ?_
  refine em_loop (s0 := 48 * c) hE hb 2000 2000 (0, 48 * c, .nil, .nil) [(3, 0, X), (3, 0, Y), (3, 0, Z)] 0 _ (by show 403 ≤ 2000; decide) (by show 403 ≤ 2000; decide) (Or.inl ⟨rfl, ht, trivial⟩) ?_ ?_ hQ
  · exact ⟨Nat.le_refl 3, fun z => absurd (show (3 : Nat) = 0 from z) (by decide), hwX, Nat.le_refl 3, fun z => absurd (show (3 : Nat) = 0 from z) (by decide), hwY, Nat.le_refl 3, fun z => absurd (show (3 : Nat) = 0 from z) (by decide), hwZ, trivial⟩
  · refine ⟨u, 0, ⟨em_sf (em_sf (em_pus (em_pus (em_pus (em_sf (em_sf (em_sf (em_sf (em_sf (em_sf hs)))))))))), Nat.zero_le _, hB, rfl, rfl, rfl, rfl, eu, rfl, ⟨rfl, fun z => absurd (show (3 : Nat) = 0 from z) (by decide), fun _ => ⟨cx, rfl, hX⟩, rfl, fun z => absurd (show (3 : Nat) = 0 from z) (by decide), fun _ => ⟨cy, rfl, hY⟩, rfl, fun z => absurd (show (3 : Nat) = 0 from z) (by decide), fun _ => ⟨cz, rfl, hZ⟩, trivial⟩⟩, by show u + 0 + 3 ≤ 26 + 0; omega, by show 0 + 3 ≤ 3 + 0; decide, Nat.zero_le _, fun _ => ⟨e48, 0, rfl, trivial⟩, fun z => absurd (show (0 : Nat) = 1 from z) (by decide)⟩
end EM7

theorem ez_le3 {f g : Nat → Int32} {B : Nat} : ∀ (n : Nat) (S : ez_S) (K : List ez_F) (s : Nat), (ez f g B n S K s).1 ≤ 3
  | 0, _, _, _ => Nat.le_refl 3
  | n + 1, S, K, s => by
    rw [ez_fins]
    cases hO : ez_st f g B S K s with
    | inl r => exact ez_le3 n _ _ _
    | inr r =>
      show r.1 ≤ 3
      unfold ez_st at hO
      split at hO
      · split at hO
        · cases hO; exact Nat.le_of_ble_eq_true rfl
        · unfold ez_tm at hO
          repeat (split at hO; · cases hO)
          split at hO
          · cases hO; exact Nat.le_of_ble_eq_true rfl
          · cases hO
      · split at hO
        · split at hO
          · cases hO
            show ez_oc _ ≤ 3
            unfold ez_oc
            split <;> decide
          · unfold ez_vl at hO
            repeat (split at hO; · cases hO)
            split at hO
            · split at hO
              · cases hO
              · cases hO; exact Nat.le_of_ble_eq_true rfl
            · cases hO; exact Nat.le_of_ble_eq_true rfl
        · split at hO
          · unfold ez_ap at hO
            split at hO
            · split at hO
              · cases hO
              · split at hO
                · split at hO <;> cases hO
                · cases hO; exact Nat.le_of_ble_eq_true rfl
            · cases hO; exact Nat.le_of_ble_eq_true rfl
          · split at hO
            · cases hO; exact Nat.le_of_ble_eq_true rfl
            · unfold ez_bu at hO
              split at hO
              · cases hO
              · cases hO; exact Nat.le_of_ble_eq_true rfl
def ek_in (p : Nat) : Bool := ec_in p || em_in p
def ek_same (σ τ : jx_St) : Prop := (∀ q, ek_in q = false → τ q = σ q) ∧ ∀ i, em_if i = false → τ 34 i = σ 34 i
theorem ek_of {σ σ1 τ : jx_St} (h1 : ec_same σ σ1) (h2 : em_same σ1 τ) : ek_same σ τ := by
  refine ⟨fun q hq => ?_, fun i hi => ?_⟩
  · have hq := Bool.or_eq_false_iff.mp hq
    rw [h2.1 q hq.2, h1 q hq.1]
  · rw [h2.2 i hi, h1 34 rfl]
section EK
variable {σ τ : jx_St}
theorem ek_D (h : ek_same σ τ) (hi : iv_D σ) : iv_D τ := by
  unfold iv_D at hi ⊢
  rw [h.1 1 rfl, h.1 2 rfl, h.1 37 rfl, h.2 3 rfl]
  exact hi
theorem ek_S (h : ek_same σ τ) (hi : iv_S σ) : iv_S τ := by
  unfold iv_S at hi ⊢
  rw [h.1 4 rfl, h.1 5 rfl, h.1 6 rfl, h.1 35 rfl, h.2 0 rfl]
  exact hi
theorem ek_I (h : ek_same σ τ) (hi : iv_I σ) : iv_I τ := by
  unfold iv_I at hi ⊢
  rw [h.1 23 rfl, h.1 24 rfl, h.1 25 rfl, h.1 54 rfl, h.1 55 rfl, h.2 33 rfl]
  exact hi
theorem ek_G (h : ek_same σ τ) (hi : iv_G σ) : iv_G τ := by
  unfold iv_G at hi ⊢
  rw [h.1 26 rfl, h.1 27 rfl, h.1 28 rfl, h.1 29 rfl, h.1 56 rfl, h.1 57 rfl, h.1 58 rfl, h.2 36 rfl]
  exact hi
theorem ek_M (h : ek_same σ τ) (hi : iv_M σ) : iv_M τ := by
  unfold iv_M at hi ⊢
  rw [h.1 59 rfl, h.1 60 rfl, h.1 30 rfl, h.1 31 rfl]
  exact hi
theorem ek_T (h : ek_same σ τ) (hi : iv_T σ) : iv_T τ := by
  unfold iv_T at hi ⊢
  rw [h.1 23 rfl, h.2 42 rfl, h.2 43 rfl, h.2 44 rfl, h.2 45 rfl, h.2 46 rfl, h.2 47 rfl]
  exact hi
theorem ek_L (h : ek_same σ τ) (hi : iv_L σ) : iv_L τ := by
  unfold iv_L iv_O at hi ⊢
  rw [h.1 15 rfl, h.1 16 rfl, h.1 17 rfl, h.1 18 rfl, h.1 19 rfl, h.1 20 rfl, h.1 21 rfl, h.1 22 rfl, h.1 48 rfl, h.1 49 rfl, h.1 50 rfl, h.1 51 rfl, h.1 52 rfl, h.1 53 rfl, h.2 25 rfl, h.2 31 rfl]
  exact hi
/-- what result tells after an evaluation -/
theorem ev_R {σ1 : jx_St} {r : Nat × Nat × ez_V} (h1 : ec_E σ σ1 r) (h2 : em_E σ1 τ r) (hr : r.1 ≤ 3) : iv_R τ := by
  obtain ⟨-, -, c1, c2, c3, c4⟩ := h1
  obtain ⟨m0, m1, m2, m3, m4⟩ := h2
  have e3 : τ 3 = σ1 3 := m0.1 3 rfl
  have lt1 : 1 < τ 34 23 → 1 < r.1 := fun z => by
    rw [m1] at z
    exact (nI_ltI (a := 1) (by decide) (by omega)).mp z
  have le1 : τ 34 23 ≤ 1 → r.1 ≤ 1 := fun z => by
    rw [m1] at z
    exact (nI_leI (b := 1) (by omega) (by decide)).mp z
  refine Or.inr ⟨m3, by rw [e3, c1, m1], by rw [e3, c2, m2], ⟨r.1, by omega, m1⟩, fun z => by rw [e3]; exact c3 (lt1 z), fun z => ?_⟩
  obtain ⟨i, u, w, ei, hu, hv⟩ := m4 (le1 z)
  obtain ⟨k1, k2⟩ := c4 (le1 z)
  rw [e3, k1, k2]
  generalize r.2.2 = v at hv
  unfold em_r at hv
  cases v with
  | nil => exact ⟨i, 2, by have := hv.1; omega, by decide, ei, hv.2.1, rfl, by rw [if_neg (by decide), if_pos rfl, hv.2.2]; rfl⟩
  | append x t => exact ⟨i, 2, by have := hv.1; omega, by decide, ei, hv.2.1, rfl, by rw [if_neg (by decide), if_pos rfl, hv.2.2.1]; rfl⟩
  | nest j x => exact ⟨i, 0, by have := hv.1; omega, by decide, ei, hv.2.1, rfl, by rw [if_neg (by decide), if_neg (by decide), hv.2.2]; rfl⟩
  | align b => exact ⟨i, 1, by have := hv.1; omega, by decide, ei, hv.2.1, rfl, by rw [if_neg (by decide), if_neg (by decide), hv.2.2]; rfl⟩
  | tag n e => exact ⟨i, 3 + n % 3, by have := hv.1; omega, by omega, ei, hv.2.1, by rw [if_pos (by omega)]; rfl, by rw [if_pos (by omega)]; rfl⟩
  | line => exact hv.elim
  | text x => exact hv.elim
  | group x y => exact hv.elim
end EK
section EV
variable {l : Launch} {D : va_G} {cA : ClassId} {ρ : Nat → Nat} {d : Nat}
/-- a script that is there -/
theorem ev_S {σ : jx_St} {n c : Nat} (hn : n ≤ 6) (hc : c < n) (hS : ∀ s, s < n → ∃ len : Nat, len ≤ 48 ∧ (∀ i, i < len → σ 5 (48 * s + i) = σ 35 (48 * s + i) ∧ ∃ b : Nat, b < 256 ∧ σ 35 (48 * s + i) = nI b) ∧ iw_t (σ 35) (σ 6) (48 * s + len) 21 (48 * s) 0 (48 * s + len)) :
    ∃ E, E ≤ 288 ∧ (∀ j, 48 * c ≤ j → j < E → σ 5 j = σ 35 j ∧ ∃ b : Nat, b < 256 ∧ σ 35 j = nI b) ∧ ez_t (σ 35) (σ 6) (48 * c) E (48 * c) 0 := by
  obtain ⟨len, h1, h2, h3⟩ := hS c hc
  refine ⟨48 * c + len, by omega, fun j a b => ?_, ⟨Nat.le_refl _, 21, _, h3⟩⟩
  have h := h2 (j - 48 * c) (by omega)
  rw [show 48 * c + (j - 48 * c) = j by omega] at h
  exact h
set_option maxHeartbeats 4000000 in
theorem jv_run : jq_run l D cA ρ (d + 8) iv_V iv_V := by
  intro σ hI a1 a2 a3 a4
  have hI' := hI
  obtain ⟨iD, ⟨n, hn, n1, n2, hS⟩, iR, iI, iG, iM, iT, iL⟩ := hI'
  have no : (a1 < 0 ∨ nI n ≤ a1) ∨ (a4 < 0 ∨ nI 100 ≤ a4) → jx_pi l D cA ρ (d + 8) 3 108 [.int a1, .int a2, .int a3, .int a4] σ iv_V := by
    intro hbad
    refine ⟨-1, fun σ1 => σ1 = σ, fun Q hQ => ?_, fun σ1 hT Q hQ => ?_⟩
    · have h9 := hQ σ rfl
      by_cases y1 : a1 < 0
      · exact ji_3 (ji_56 ⟨fun _ => ⟨Or.inl rfl, fun _ => h9, fun q => absurd rfl q⟩, fun q => absurd y1 q⟩)
      by_cases y2 : σ 4 2 ≤ a1
      · exact ji_3 (ji_56 ⟨fun q => absurd q y1, fun _ => ⟨fun _ => ⟨Or.inl rfl, fun _ => h9, fun q => absurd rfl q⟩, fun q => absurd y2 q⟩⟩)
      by_cases y3 : a4 < 0
      · exact ji_3 (ji_56 ⟨fun q => absurd q y1, fun _ => ⟨fun q => absurd q y2, fun _ => ⟨Or.inr rfl, fun q => absurd q (by decide), fun _ => ⟨fun _ => h9, fun q => absurd y3 q⟩⟩⟩⟩)
      have y4 : ¬ a4 ≤ 99 := by
        rcases hbad with (h | h) | (h | h)
        · exact absurd h y1
        · exact absurd (by rw [n1]; exact h) y2
        · exact absurd h y3
        · intro z
          have := Int32.le_trans h z
          exact absurd this (by decide)
      exact ji_3 (ji_56 ⟨fun q => absurd q y1, fun _ => ⟨fun q => absurd q y2, fun _ => ⟨Or.inr rfl, fun q => absurd q (by decide), fun _ => ⟨fun q => absurd q y3, fun _ => ⟨fun q => absurd q y4, fun _ => h9⟩⟩⟩⟩⟩)
    · subst hT
      have h9 := hQ _ hI
      by_cases y1 : a1 < 0
      · exact ji_108 (ji_89 ⟨fun _ => ⟨Or.inr rfl, fun _ => h9, fun q => absurd q (by decide)⟩, fun q => absurd y1 q⟩)
      by_cases y2 : a1 < σ1 34 0
      · by_cases y3 : a4 < 0
        · exact ji_108 (ji_89 ⟨fun q => absurd q y1, fun _ => ⟨fun _ => ⟨Or.inl rfl, fun q => absurd rfl q, fun _ => ji_89 ⟨fun _ => ⟨Or.inr rfl, fun q => absurd q (by decide), fun _ => h9⟩, fun q => absurd y3 q⟩⟩, fun q => absurd y2 q⟩⟩)
        have y4 : ¬ a4 < 100 := by
          rcases hbad with (h | h) | (h | h)
          · exact absurd h y1
          · rw [n2] at y2
            exact absurd y2 (Int32.not_lt.mpr h)
          · exact absurd h y3
          · exact Int32.not_lt.mpr h
        exact ji_108 (ji_89 ⟨fun q => absurd q y1, fun _ => ⟨fun _ => ⟨Or.inl rfl, fun q => absurd rfl q, fun _ => ji_89 ⟨fun q => absurd q y3, fun _ => ⟨fun q => absurd q y4, fun _ => ⟨Or.inr rfl, fun q => absurd q (by decide), fun _ => h9⟩⟩⟩⟩, fun q => absurd y2 q⟩⟩)
      · exact ji_108 (ji_89 ⟨fun q => absurd q y1, fun _ => ⟨fun q => absurd q y2, fun _ => ⟨Or.inr rfl, fun _ => h9, fun q => absurd q (by decide)⟩⟩⟩)
  rcases pk_ix a1 (n := n) (by omega) with h | h | ⟨c, hc, rfl⟩
  · exact no (Or.inl (Or.inl h))
  · exact no (Or.inl (Or.inr h))
  rcases pk_ix a4 (n := 100) (by omega) with h | h | ⟨B, hB, rfl⟩
  · exact no (Or.inr (Or.inl h))
  · exact no (Or.inr (Or.inr h))
  obtain ⟨E, hE, h5, ht⟩ := ev_S hn hc hS
  have x1 : ¬ nI c < 0 := nI_pos (by omega)
  have x2 : ¬ σ 4 2 ≤ nI c := by rw [n1]; exact nI_ge hc (by omega)
  have x3 : ¬ nI B < 0 := nI_pos (by omega)
  have x4 : nI B ≤ 99 := nI_le (b := 99) (by omega) (by decide)
  have m2 : nI c < σ 34 0 := by rw [n2]; exact nI_lt hc (by omega)
  have m4 : nI B < 100 := nI_lt (b := 100) hB (by decide)
  refine ⟨nI (ez (σ 35) (σ 6) B 2000 (0, 48 * c, .nil, .nil) [(3, 0, ez_i a2), (3, 0, ez_i a3), (3, 0, .nil)] 0).1, fun σ1 => ec_E σ σ1 (ez (σ 35) (σ 6) B 2000 (0, 48 * c, .nil, .nil) [(3, 0, ez_i a2), (3, 0, ez_i a3), (3, 0, .nil)] 0), fun Q hQ => ?_, fun σ1 hT Q hQ => ?_⟩
  · refine ji_3 (ji_56 ⟨fun q => absurd q x1, fun _ => ⟨fun q => absurd q x2, fun _ => ⟨Or.inr rfl, fun q => absurd q (by decide), fun _ => ⟨fun q => absurd q x3, fun _ => ⟨fun _ => ?_, fun q => absurd x4 q⟩⟩⟩⟩⟩)
    refine ec_35a (d := d + 2) (by omega) (by omega) hE h5 ht (fun τ' hP => ?_)
    have h9 := hQ τ' hP
    rw [← hP.2.2.1] at h9
    exact h9
  · have e34 : σ1 34 = σ 34 := hT.1 34 rfl
    have e35 : σ1 35 = σ 35 := hT.1 35 rfl
    have m2' : nI c < σ1 34 0 := by rw [e34]; exact m2
    refine ji_108 (ji_89 ⟨fun q => absurd q x1, fun _ => ⟨fun _ => ⟨Or.inl rfl, fun q => absurd rfl q, fun _ => ji_89 ⟨fun q => absurd q x3, fun _ => ⟨fun _ => ⟨Or.inl rfl, fun _ => ?_, fun q => absurd rfl q⟩, fun q => absurd m4 q⟩⟩⟩, fun q => absurd m2' q⟩⟩)
    refine em_whole (u := 0) rfl (by decide) ?_
    refine em_whole (u := 1) rfl (by decide) ?_
    refine em_make (u := 2) rfl (by decide) ?_
    refine em_107 (d := d) (σ := σ1) (g := σ 6) (c := c) (E := E) (u := 3) (X := ez_i a2) (Y := ez_i a3) (Z := .nil) (by omega) hE (fun j a b => by rw [e35]; exact (h5 j a b).2) (by rw [e35]; exact ht) trivial trivial trivial (em_mks (em_mks (em_mks (em_sf ⟨fun _ _ => rfl, fun _ _ => rfl⟩)))) rfl (by decide) ⟨by decide, rfl, ?_⟩ ⟨by decide, rfl, ?_⟩ ⟨by decide, rfl, rfl⟩ (fun τ' hP => ?_)
    · show a2 = Int32.ofInt a2.toInt
      rw [Int32.ofInt_toInt]
    · show a3 = Int32.ofInt a3.toInt
      rw [Int32.ofInt_toInt]
    · rw [e35] at hP
      have hk := ek_of hT.1 hP.1
      have h9 := hQ τ' ⟨ek_D hk iD, ek_S hk ⟨n, hn, n1, n2, hS⟩, ev_R hT hP (ez_le3 _ _ _ _), ek_I hk iI, ek_G hk iG, ek_M hk iM, ek_T hk iT, ek_L hk iL⟩
      rw [← hP.2.1] at h9
      exact h9
end EV

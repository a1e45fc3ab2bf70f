/-! a value is handed on -/
section EC3
variable {l : Launch} {D : va_G} {cA : ClassId} {ρ : Nat → Nat} {d : Nat} {Q : Option Value → jx_St → Prop} {σ τ : jx_St} {f g : Nat → Int32} {s0 E B : Nat}
theorem ec_lt {u c : Nat} {v : ez_V} (h : ec_r τ u v false c) : c < u := by
  unfold ec_r at h
  cases v <;> first | exact h.1 | exact h.elim
/-- the kind that a cell holds -/
theorem ec_kd {u c : Nat} {v : ez_V} (h : ec_r τ u v false c) : (∃ n e, v = .tag n e ∧ τ 8 c = nI (3 + n % 3)) ∨ ((∀ n e, v ≠ .tag n e) ∧ ∃ k : Nat, k < 3 ∧ τ 8 c = nI k) := by
  unfold ec_r at h
  cases v with
  | nil => exact Or.inr ⟨fun _ _ z => (by cases z), 2, by decide, h.2.1⟩
  | append x y => exact Or.inr ⟨fun _ _ z => (by cases z), 2, by decide, h.2.1⟩
  | nest i x => exact Or.inr ⟨fun _ _ z => (by cases z), 0, by decide, h.2.1⟩
  | align x => exact Or.inr ⟨fun _ _ z => (by cases z), 1, by decide, h.2.1⟩
  | tag n e => exact Or.inl ⟨n, e, rfl, h.2.1⟩
  | line => exact h.elim
  | text x => exact h.elim
  | group x y => exact h.elim
theorem ez_vln {p s : Nat} {w v : ez_V} {K : List ez_F} (h : ∀ n e, v ≠ .tag n e) : ez_vl 2 p w v K s = .inr (2, s, .nil) := by
  cases v with
  | tag n e => exact absurd rfl (h n e)
  | _ => rfl
theorem ez_apn {s : Nat} {w x : ez_V} {K : List ez_F} (h : ∀ n e, w ≠ .tag n e) : ez_ap w x K s = .inr (2, s, .nil) := by
  cases w with
  | tag n e => exact absurd rfl (h n e)
  | _ => rfl
set_option maxHeartbeats 4000000 in
theorem ec_54 {p s : Nat} {v x : ez_V} (hB : B ≤ 99) (hR : ec_R σ τ B (1, p, v, x) [] s) (hQ : ∀ τ', ec_E σ τ' (ez_oc v, s, v) → Q none τ') : jx_C l D cA ρ jx_XM (d + 1) 54 [.ref 3] τ Q := by
  obtain ⟨hsame, hsB, eB, es, eK, hK, u, eu, hpot, hcu, hfr, hz⟩ := hR
  obtain ⟨m1, a, ea, hv⟩ : ec_c1 τ u v := hcu.2.1 rfl
  have hpot : u + 0 ≤ 30 + 3 * s := hpot
  have ha := ec_lt hv
  have va : vp_in (τ 3 9) 512 := by rw [ea]; exact vp_in_nI (by omega) (by decide)
  have ecl : (τ 3 9).toNatClampNeg = a := by rw [ea]; exact nI_clamp (by omega)
  unfold ec_r at hv
  cases v with
  | nil =>
    have k : τ 8 (τ 3 9).toNatClampNeg = 2 := by rw [ecl]; exact hv.2.1
    have n : τ 11 (τ 3 9).toNatClampNeg = 0 := by rw [ecl]; exact hv.2.2
    refine ji_54 ⟨va, ?_⟩
    rw [k]
    refine ⟨fun _ => ⟨fun _ => ⟨fun q => absurd q (by decide), fun _ => ⟨fun _ => ⟨fun q => absurd rfl q, fun _ => ?_⟩, fun q => absurd q (by decide)⟩⟩, fun q => absurd rfl q⟩, fun q => absurd q (by decide)⟩
    refine ⟨va, hQ _ ?_⟩
    exact ⟨ec_su (ec_su (ec_su (ec_su (ec_su hsame)))), rfl, rfl, es, fun z => absurd (show 1 < 1 from z) (by decide), fun _ => ⟨rfl, n⟩⟩
  | append y t =>
    have k : τ 8 (τ 3 9).toNatClampNeg = 2 := by rw [ecl]; exact hv.2.1
    have n : τ 11 (τ 3 9).toNatClampNeg = nI (ez_len t + 1) := by rw [ecl]; exact hv.2.2.1
    refine ji_54 ⟨va, ?_⟩
    rw [k]
    refine ⟨fun _ => ⟨fun _ => ⟨fun q => absurd q (by decide), fun _ => ⟨fun _ => ⟨fun q => absurd rfl q, fun _ => ?_⟩, fun q => absurd q (by decide)⟩⟩, fun q => absurd rfl q⟩, fun q => absurd q (by decide)⟩
    refine ⟨va, hQ _ ?_⟩
    exact ⟨ec_su (ec_su (ec_su (ec_su (ec_su hsame)))), rfl, rfl, es, fun z => absurd (show 1 < 1 from z) (by decide), fun _ => ⟨rfl, n⟩⟩
  | nest i y =>
    have k : τ 8 (τ 3 9).toNatClampNeg = 0 := by rw [ecl]; exact hv.2.1
    have n : τ 9 (τ 3 9).toNatClampNeg = Int32.ofInt i := by rw [ecl]; exact hv.2.2
    refine ji_54 ⟨va, ?_⟩
    rw [k]
    refine ⟨fun _ => ⟨fun _ => ⟨fun _ => ⟨va, hQ _ ?_⟩, fun q => absurd rfl q⟩, fun q => absurd rfl q⟩, fun q => absurd q (by decide)⟩
    exact ⟨ec_su (ec_su (ec_su (ec_su (ec_su hsame)))), rfl, rfl, es, fun z => absurd (show 1 < 1 from z) (by decide), fun _ => ⟨rfl, n⟩⟩
  | align y =>
    have k : τ 8 (τ 3 9).toNatClampNeg = 1 := by rw [ecl]; exact hv.2.1
    cases y with
    | true =>
      have n : τ 9 (τ 3 9).toNatClampNeg = 1 := by rw [ecl]; exact hv.2.2
      refine ji_54 ⟨va, ?_⟩
      rw [k]
      refine ⟨fun q => absurd rfl q, fun _ => ⟨va, ⟨fun q => absurd n q, fun _ => ⟨fun q => absurd q (by decide), fun _ => ⟨fun q => absurd q (by decide), fun _ => ⟨fun q => absurd rfl q, fun _ => ⟨va, hQ _ ?_⟩⟩⟩⟩⟩⟩⟩
      exact ⟨ec_su (ec_su (ec_su (ec_su (ec_su hsame)))), rfl, rfl, es, fun z => absurd (show 1 < 0 from z) (by decide), fun _ => ⟨rfl, n⟩⟩
    | false =>
      have n : τ 9 (τ 3 9).toNatClampNeg = 0 := by rw [ecl]; exact hv.2.2
      refine ji_54 ⟨va, ?_⟩
      rw [k]
      refine ⟨fun q => absurd rfl q, fun _ => ⟨va, ⟨fun _ => ⟨fun _ => ⟨fun q => absurd q (by decide), fun _ => ⟨fun q => absurd rfl q, fun _ => ⟨va, hQ _ ?_⟩⟩⟩, fun q => absurd rfl q⟩, fun q => absurd (n.symm.trans q) (by decide)⟩⟩⟩
      exact ⟨ec_su (ec_su (ec_su (ec_su (ec_su hsame)))), rfl, rfl, es, fun z => absurd (show 1 < 1 from z) (by decide), fun _ => ⟨rfl, n⟩⟩
  | tag n e =>
    have hk : τ 8 (τ 3 9).toNatClampNeg = nI (3 + n % 3) := by rw [ecl]; exact hv.2.1
    rcases (by omega : n % 3 = 0 ∨ n % 3 = 1 ∨ n % 3 = 2) with c | c | c
    · have k : τ 8 (τ 3 9).toNatClampNeg = 3 := by rw [hk, c]; rfl
      refine ji_54 ⟨va, ?_⟩
      rw [k]
      refine ⟨fun _ => ⟨fun _ => ⟨fun q => absurd q (by decide), fun _ => ⟨fun _ => ⟨fun _ => hQ _ ?_, fun q => absurd q (by decide)⟩, fun q => absurd q (by decide)⟩⟩, fun q => absurd rfl q⟩, fun q => absurd q (by decide)⟩
      exact ⟨ec_su (ec_su (ec_su (ec_su hsame))), rfl, rfl, es, fun z => absurd (show 1 < 1 from z) (by decide), fun _ => ⟨rfl, rfl⟩⟩
    · have k : τ 8 (τ 3 9).toNatClampNeg = 4 := by rw [hk, c]; rfl
      refine ji_54 ⟨va, ?_⟩
      rw [k]
      refine ⟨fun _ => ⟨fun _ => ⟨fun q => absurd q (by decide), fun _ => ⟨fun _ => ⟨fun _ => hQ _ ?_, fun q => absurd q (by decide)⟩, fun q => absurd q (by decide)⟩⟩, fun q => absurd rfl q⟩, fun q => absurd q (by decide)⟩
      exact ⟨ec_su (ec_su (ec_su (ec_su hsame))), rfl, rfl, es, fun z => absurd (show 1 < 1 from z) (by decide), fun _ => ⟨rfl, rfl⟩⟩
    · have k : τ 8 (τ 3 9).toNatClampNeg = 5 := by rw [hk, c]; rfl
      refine ji_54 ⟨va, ?_⟩
      rw [k]
      refine ⟨fun _ => ⟨fun _ => ⟨fun q => absurd q (by decide), fun _ => ⟨fun _ => ⟨fun _ => hQ _ ?_, fun q => absurd q (by decide)⟩, fun q => absurd q (by decide)⟩⟩, fun q => absurd rfl q⟩, fun q => absurd q (by decide)⟩
      exact ⟨ec_su (ec_su (ec_su (ec_su hsame))), rfl, rfl, es, fun z => absurd (show 1 < 1 from z) (by decide), fun _ => ⟨rfl, rfl⟩⟩
  | line => exact hv.elim
  | text y => exact hv.elim
  | group y z => exact hv.elim
theorem ec_st3 {u i : Nat} {v : Int32} {x : ez_V} {b : Bool} {c : Nat} (h : ec_r τ u x b c) : ec_r (jx_su τ 3 i v) u x b c := h
set_option maxHeartbeats 4000000 in
theorem ec_39 {p s : Nat} {v x : ez_V} {K : List ez_F} (hB : B ≤ 99) (hw : ez_wk f g s0 E K) (hR : ec_R σ τ B (1, p, v, x) K s) (hQ : ∀ τ', ec_P σ τ' B (ez_st f g B (1, p, v, x) K s) → Q none τ') : jx_C l D cA ρ jx_XM (d + 3) 39 [.ref 3] τ Q := by
  cases K with
  | nil =>
    have e0 : τ 3 5 = 0 := hR.2.2.2.2.1
    rw [ez_st1n] at hQ
    exact ji_39 ⟨fun q => absurd e0 q, fun _ => ec_54 hB hR hQ⟩
  | cons F t =>
  obtain ⟨hsame, hsB, eB, es, eK, hK, u, eu, hpot, hcu, hfr, hz⟩ := hR
  obtain ⟨m1, a, ea, hv⟩ : ec_c1 τ u v := hcu.2.1 rfl
  have hpot : u + 2 * (t.length + 1) ≤ 30 + 3 * s := hpot
  have eK : τ 3 5 = nI (t.length + 1) := eK
  have hK : t.length + 1 ≤ 3 + s := hK
  obtain ⟨k, p', w⟩ := F
  obtain ⟨f1, f2, f3, f4⟩ := hfr
  have w1 : k ≤ 3 := hw.1
  have f1 : τ 12 t.length = nI k := f1
  have f2 : k = 0 → τ 13 t.length = nI p' ∧ ∃ b : Nat, τ 14 t.length = nI b ∧ ec_r τ u w true b := f2
  have f3 : k = 1 ∨ k = 3 → ∃ a : Nat, τ 13 t.length = nI a ∧ ec_r τ u w false a := f3
  rw [ez_st1] at hQ
  have n0 : ¬ τ 3 5 = 0 := by rw [eK]; exact nI_ne0 (n := t.length + 1) (by omega) (by omega)
  have ei : τ 3 5 - 1 = nI t.length := by rw [eK]; exact nI_pred _
  have vi : vp_in (τ 3 5 - 1) 128 := by rw [ei]; exact vp_in_nI (by omega) (by decide)
  have ec : (τ 3 5 - 1).toNatClampNeg = t.length := by rw [ei]; exact nI_clamp (by omega)
  have k1 : τ 12 (τ 3 5 - 1).toNatClampNeg = nI k := by rw [ec]; exact f1
  have hsame1 : ec_same σ (jx_su τ 3 5 (τ 3 5 - 1)) := ec_su hsame
  refine ji_39 ⟨fun _ => ⟨vi, ?_⟩, fun q => absurd q n0⟩
  rcases (by omega : k = 0 ∨ k = 1 ∨ k = 2 ∨ k = 3) with rfl | rfl | rfl | rfl
  · obtain ⟨g1, b, g2, g3⟩ := f2 rfl
    have r1 : τ 13 (τ 3 5 - 1).toNatClampNeg = nI p' := by rw [ec]; exact g1
    have r2 : τ 14 (τ 3 5 - 1).toNatClampNeg = nI b := by rw [ec]; exact g2
    refine ⟨fun _ => ⟨vi, vi, ?_⟩, fun q => absurd k1 q⟩
    refine ec_goto ?_
    refine ec_push (k := t.length) ei (by omega) (hQ _ (ec_Pl ?_))
    refine ⟨ec_pus (ec_su (ec_su (ec_su hsame1))), hsB, eB, es, rfl, hK, u, eu, hpot, ec_cu0 ⟨rfl, r1, b, r2, g3⟩, ⟨pk_us, fun z => absurd (show (1 : Nat) = 0 from z) (by decide), fun _ => ⟨a, pk_us.trans ea, hv⟩, ?_⟩, hz⟩
    exact ec_frm (τ := τ) (τ' := ec_pu (ec_go (jx_su τ 3 5 (τ 3 5 - 1)) _ _) t.length _ _ _) (fun _ _ _ z => z) (fun i hi => ⟨pk_un (by omega), pk_un (by omega), pk_un (by omega)⟩) f4
  · obtain ⟨a1, g1, g2⟩ := f3 (Or.inl rfl)
    have r1 : τ 13 (τ 3 5 - 1).toNatClampNeg = nI a1 := by rw [ec]; exact g1
    refine ⟨fun q => absurd (k1.symm.trans q) (by decide), fun _ => ⟨fun _ => ⟨vi, hQ _ (ec_Pl ?_)⟩, fun q => absurd k1 q⟩⟩
    refine ⟨ec_su (ec_su (ec_su hsame1)), hsB, eB, es, ei, by omega, u, eu, ?_, ec_cu2 ⟨rfl, a1, a, r1, ea, g2, hv⟩, ?_, hz⟩
    · show u + 2 * t.length + 2 ≤ 30 + 3 * s; omega
    · exact ec_fr3 (ec_fr3 (ec_fr3 (ec_fr3 f4)))
  · refine ⟨fun q => absurd (k1.symm.trans q) (by decide), fun _ => ⟨fun q => absurd (k1.symm.trans q) (by decide), fun _ => ⟨fun _ => ?_, fun q => absurd k1 q⟩⟩⟩
    have hlt := ec_lt hv
    have va : vp_in (τ 3 9) 512 := by rw [ea]; exact vp_in_nI (by omega) (by decide)
    have ecl : (τ 3 9).toNatClampNeg = a := by rw [ea]; exact nI_clamp (by omega)
    rcases ec_kd hv with ⟨n, e, rfl, hk⟩ | ⟨hn, kd, hk1, hk⟩
    · have hk' : τ 8 (τ 3 9).toNatClampNeg = nI (3 + n % 3) := by rw [ecl]; exact hk
      by_cases c : n % 3 = 1
      · rw [c] at hk'
        obtain ⟨q1, q2, q3, q4, b, q5, q6⟩ := hv
        have r1 : τ 9 (τ 3 9).toNatClampNeg = nI (n / 3) := by rw [ecl]; exact q3
        have r2 : τ 10 (τ 3 9).toNatClampNeg = nI b := by rw [ecl]; exact q5
        have hst : ez_vl 2 p' w (.tag n e) t s = .inl ((0, n / 3, e, .nil), t, s) := if_pos c
        have hQ : ∀ τ', ec_P σ τ' B (ez_vl 2 p' w (.tag n e) t s) → Q none τ' := hQ
        rw [hst] at hQ
        refine ji_40 ⟨va, ⟨fun q => absurd hk' q, fun _ => ⟨va, va, ?_⟩⟩⟩
        refine ec_goto (hQ _ (ec_Pl ?_))
        refine ⟨ec_su (ec_su (ec_su hsame1)), hsB, eB, es, ei, by omega, u, eu, by show u + 2 * t.length + 0 ≤ _; omega, ec_cu0 ⟨rfl, r1, b, r2, q6⟩, ec_fr3 (ec_fr3 (ec_fr3 (ec_fr3 f4))), hz⟩
      · have hne : ¬ τ 8 (τ 3 9).toNatClampNeg = 4 := by
          rw [hk']
          exact fun q => absurd ((nI_eq (b := 4) (by omega) (by decide)).mp q) (by omega)
        have hst : ez_vl 2 p' w (.tag n e) t s = .inr (2, s, .nil) := if_neg c
        have hQ : ∀ τ', ec_P σ τ' B (ez_vl 2 p' w (.tag n e) t s) → Q none τ' := hQ
        rw [hst] at hQ
        refine ji_40 ⟨va, ⟨fun _ => ec_stop (hQ _ ?_), fun q => absurd q hne⟩⟩
        exact ec_Ex (oc := 2) (by decide) hsame1 es
    · have hk' : ¬ τ 8 (τ 3 9).toNatClampNeg = 4 := by
        rw [ecl, hk]
        exact fun q => absurd ((nI_eq (b := 4) (by omega) (by decide)).mp q) (by omega)
      have hQ : ∀ τ', ec_P σ τ' B (ez_vl 2 p' w v t s) → Q none τ' := hQ
      rw [ez_vln hn] at hQ
      refine ji_40 ⟨va, ⟨fun _ => ec_stop (hQ _ ?_), fun q => absurd q hk'⟩⟩
      exact ec_Ex (oc := 2) (by decide) hsame1 es
  · obtain ⟨a1, g1, g2⟩ := f3 (Or.inr rfl)
    have r1 : τ 13 (τ 3 5 - 1).toNatClampNeg = nI a1 := by rw [ec]; exact g1
    refine ⟨fun q => absurd (k1.symm.trans q) (by decide), fun _ => ⟨fun q => absurd (k1.symm.trans q) (by decide), fun _ => ⟨fun q => absurd (k1.symm.trans q) (by decide), fun _ => ⟨fun _ => ⟨vi, hQ _ (ec_Pl ?_)⟩, fun q => absurd k1 q⟩⟩⟩⟩
    refine ⟨ec_su (ec_su hsame1), hsB, eB, es, ei, by omega, u, eu, ?_, ec_cu2 ⟨rfl, a, a1, ea, r1, hv, g2⟩, ?_, hz⟩
    · show u + 2 * t.length + 2 ≤ 30 + 3 * s; omega
    · exact ec_fr3 (ec_fr3 (ec_fr3 f4))
end EC3

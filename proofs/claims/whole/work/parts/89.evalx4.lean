/-! an application -/
theorem ez_f900 {k : Nat} (h : k ≤ 10) : jx_f900 k = nI (ez_ar k) := by
  rcases (by omega : k = 0 ∨ k = 1 ∨ k = 2 ∨ k = 3 ∨ k = 4 ∨ k = 5 ∨ k = 6 ∨ k = 7 ∨ k = 8 ∨ k = 9 ∨ k = 10) with rfl | rfl | rfl | rfl | rfl | rfl | rfl | rfl | rfl | rfl | rfl <;> rfl
theorem ez_f901 {k : Nat} (h : k ≤ 10) : jx_f901 k = nI (ez_co k) := by
  rcases (by omega : k = 0 ∨ k = 1 ∨ k = 2 ∨ k = 3 ∨ k = 4 ∨ k = 5 ∨ k = 6 ∨ k = 7 ∨ k = 8 ∨ k = 9 ∨ k = 10) with rfl | rfl | rfl | rfl | rfl | rfl | rfl | rfl | rfl | rfl | rfl <;> rfl
theorem ez_ar3 (k : Nat) : ez_ar k ≤ 3 := by
  unfold ez_ar
  split <;> (try split) <;> decide
theorem ez_co3 (k : Nat) : 1 ≤ ez_co k ∧ ez_co k ≤ 3 := by
  unfold ez_co
  split <;> decide
section EC4
variable {l : Launch} {D : va_G} {cA : ClassId} {ρ : Nat → Nat} {d : Nat} {Q : Option Value → jx_St → Prop} {σ τ : jx_St} {f g : Nat → Int32} {s0 E B : Nat}
set_option maxHeartbeats 4000000 in
theorem ec_41 {p s : Nat} {w x : ez_V} {K : List ez_F} (hB : B ≤ 99) (hw : ez_w f g s0 E w) (hR : ec_R σ τ B (2, p, w, x) K s) (hQ : ∀ τ', ec_P σ τ' B (ez_st f g B (2, p, w, x) K s) → Q none τ') : jx_C l D cA ρ jx_XM (d + 3) 41 [.ref 3] τ Q := by
  obtain ⟨hsame, hsB, eB, es, eK, hK, u, eu, hpot, hcu, hfr, hz⟩ := hR
  obtain ⟨m2, a, b, ea, eb, hwa, hxb⟩ : ec_c2 τ u w x := hcu.2.2.1 rfl
  have hpot : u + 2 * K.length + 2 ≤ 30 + 3 * s := hpot
  rw [ez_st2] at hQ
  have hlt := ec_lt hwa
  have va : vp_in (τ 3 9) 512 := by rw [ea]; exact vp_in_nI (by omega) (by decide)
  have ecl : (τ 3 9).toNatClampNeg = a := by rw [ea]; exact nI_clamp (by omega)
  rcases ec_kd hwa with ⟨n, e, rfl, hk⟩ | ⟨hn, kd, hk1, hk⟩
  · obtain ⟨q1, q2, q3, q4, b2, q5, q6⟩ := hwa
    have q6 : ec_r τ u e true b2 := q6
    have r1 : τ 9 (τ 3 9).toNatClampNeg = nI (n / 3) := by rw [ecl]; exact q3
    have r2 : τ 10 (τ 3 9).toNatClampNeg = nI b2 := by rw [ecl]; exact q5
    have hk' : τ 8 (τ 3 9).toNatClampNeg = nI (3 + n % 3) := by rw [ecl]; exact hk
    rcases (by omega : n % 3 = 0 ∨ n % 3 = 1 ∨ n % 3 = 2) with c | c | c
    · rw [c] at hk'
      have hst : ez_ap (.tag n e) x K s = .inl ((0, n / 3, .append x e, .nil), K, s) := if_pos c
      rw [hst] at hQ
      refine ji_41 ⟨va, ⟨fun q => absurd hk' q, fun _ => ⟨va, va, ?_⟩⟩⟩
      refine ec_make (u := u) eu (by omega) ?_
      refine ec_goto (hQ _ (ec_Pl ?_))
      refine ⟨ec_su (ec_su (ec_su (ec_mks hsame))), hsB, eB, es, eK, hK, u + 1, rfl, by show u + 1 + 2 * K.length + 0 ≤ _; omega, ec_cu0 ⟨rfl, r1, u, rfl, ?_⟩, ec_fr3 (ec_fr3 (ec_fr3 (ec_frmk hfr))), ec_mkr hz⟩
      exact ⟨by omega, b, b2, pk_us.trans eb, pk_us.trans r2, ec_mkr hxb, ec_mkr q6⟩
    · rw [c] at hk'
      have hst : ez_ap (.tag n e) x K s = .inr (2, s, .nil) := by unfold ez_ap; simp only [c]; rfl
      rw [hst] at hQ
      refine ji_41 ⟨va, ⟨fun _ => ⟨va, ⟨fun _ => ec_stop (hQ _ ?_), fun q => absurd (hk'.symm.trans q) (by decide)⟩⟩, fun q => absurd (hk'.symm.trans q) (by decide)⟩⟩
      exact ec_Ex (oc := 2) (by decide) hsame es
    · rw [c] at hk'
      obtain ⟨w1, w2, w3, w4⟩ := hw
      obtain ⟨w5, w6⟩ := w4 c
      have h3 := ez_ar3 (n / 3)
      have r3 : τ 11 (τ 3 9).toNatClampNeg + 1 = nI (ez_len e + 1) := by rw [ecl, q4 c, nI_1]
      have v9 : vp_in (τ 9 (τ 3 9).toNatClampNeg) 11 := by rw [r1]; exact vp_in_nI (by omega) (by decide)
      have r9 : jx_f900 (τ 9 (τ 3 9).toNatClampNeg).toNatClampNeg = nI (ez_ar (n / 3)) := by rw [r1, nI_clamp (by omega)]; exact ez_f900 w5
      refine ji_41 ⟨va, ⟨fun _ => ⟨va, ⟨fun q => absurd hk' q, fun _ => ?_⟩⟩, fun q => absurd (hk'.symm.trans q) (by decide)⟩⟩
      have hch : ec_r (ec_mk τ u 6 (τ 3 10) (τ 10 (τ 3 9).toNatClampNeg) 0) (u + 1) (.append x e) true u := ⟨by omega, b, b2, pk_us.trans eb, pk_us.trans r2, ec_mkr hxb, ec_mkr q6⟩
      refine ji_42 ⟨va, va, va, ?_⟩
      refine ec_make (u := u) eu (by omega) ?_
      refine ec_make (u := u + 1) rfl (by omega) ?_
      refine ⟨v9, ?_⟩
      by_cases hc : ez_len e + 1 < ez_ar (n / 3)
      · have hst : ez_ap (.tag n e) x K s = .inl ((1, 0, .tag n (.append x e), .nil), K, s) := by unfold ez_ap; simp only [c, hc]; rfl
        rw [hst] at hQ
        have hlt2 : ¬ jx_f900 (τ 9 (τ 3 9).toNatClampNeg).toNatClampNeg ≤ τ 11 (τ 3 9).toNatClampNeg + 1 := by rw [r9, r3]; exact nI_ge hc (by omega)
        refine ⟨fun q => absurd q hlt2, fun _ => hQ _ (ec_Pl ?_)⟩
        refine ⟨ec_su (ec_su (ec_mks (ec_mks hsame))), hsB, eB, es, eK, hK, u + 2, rfl, by show u + 2 + 2 * K.length + 0 ≤ _; omega, ec_cu1 ⟨rfl, u + 1, rfl, ?_⟩, ec_fr3 (ec_fr3 (ec_frmk (ec_frmk hfr))), ec_mkr (a1 := 5) (a2 := τ 9 (τ 3 9).toNatClampNeg) (a3 := nI u) (a4 := τ 11 (τ 3 9).toNatClampNeg + 1) (ec_mkr (a1 := 6) (a2 := τ 3 10) (a3 := τ 10 (τ 3 9).toNatClampNeg) (a4 := 0) hz)⟩
        refine ⟨by omega, pk_us.trans (by rw [c]; rfl), pk_us.trans r1, fun _ => pk_us.trans r3, u, pk_us, ?_⟩
        exact ec_mkr hch
      · have hst : ez_ap (.tag n e) x K s = .inl ((3, n / 3, .append x e, .nil), K, s) := by unfold ez_ap; simp only [c, hc]; rfl
        rw [hst] at hQ
        have hlt2 : jx_f900 (τ 9 (τ 3 9).toNatClampNeg).toNatClampNeg ≤ τ 11 (τ 3 9).toNatClampNeg + 1 := by rw [r9, r3]; exact nI_le (by omega) (by omega)
        refine ⟨fun _ => hQ _ (ec_Pl ?_), fun q => absurd hlt2 q⟩
        refine ⟨ec_su (ec_su (ec_mks (ec_mks hsame))), hsB, eB, es, eK, hK, u + 2, rfl, by show u + 2 + 2 * K.length + 0 ≤ _; omega, ec_cu3 ⟨rfl, u + 1, u, rfl, by omega, pk_us.trans r1, pk_us, ?_⟩, ec_fr3 (ec_fr3 (ec_frmk (ec_frmk hfr))), ec_mkr (a1 := 5) (a2 := τ 9 (τ 3 9).toNatClampNeg) (a3 := nI u) (a4 := τ 11 (τ 3 9).toNatClampNeg + 1) (ec_mkr (a1 := 6) (a2 := τ 3 10) (a3 := τ 10 (τ 3 9).toNatClampNeg) (a4 := 0) hz)⟩
        exact ec_mkr hch
  · have hk3 : ¬ τ 8 (τ 3 9).toNatClampNeg = 3 := by
      rw [ecl, hk]
      exact fun q => absurd ((nI_eq (b := 3) (by omega) (by decide)).mp q) (by omega)
    have hk5 : ¬ τ 8 (τ 3 9).toNatClampNeg = 5 := by
      rw [ecl, hk]
      exact fun q => absurd ((nI_eq (b := 5) (by omega) (by decide)).mp q) (by omega)
    rw [ez_apn hn] at hQ
    refine ji_41 ⟨va, ⟨fun _ => ⟨va, ⟨fun _ => ec_stop (hQ _ ?_), fun q => absurd q hk5⟩⟩, fun q => absurd q hk3⟩⟩
    exact ec_Ex (oc := 2) (by decide) hsame es
end EC4

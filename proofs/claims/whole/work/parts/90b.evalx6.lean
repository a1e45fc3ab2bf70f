/-! the program's evaluator: builtins, the loop -/
section EC6
variable {l : Launch} {D : va_G} {cA : ClassId} {ρ : Nat → Nat} {d : Nat} {Q : Option Value → jx_St → Prop} {σ τ : jx_St} {f g : Nat → Int32} {s0 E B : Nat}
set_option maxHeartbeats 4000000 in
theorem ec_43 {k s : Nat} {a x : ez_V} {K : List ez_F} (hB : B ≤ 99) (hk10 : k ≤ 10) (hla : ez_len a = ez_ar k) (hR : ec_R σ τ B (3, k, a, x) K s) (hQ : ∀ τ', ec_P σ τ' B (ez_st f g B (3, k, a, x) K s) → Q none τ') : jx_C l D cA ρ jx_XM (d + 4) 43 [.ref 3] τ Q := by
  obtain ⟨hsame, hsB, eB, es, eK, hK, u, eu, hpot, hcu, hfr, hz⟩ := hR
  obtain ⟨m3, c, b, ec, hc, e9, e10, hch⟩ : ec_c3 τ u k a := hcu.2.2.2 rfl
  have hpot : u + 2 * K.length + 0 ≤ 30 + 3 * s := hpot
  have hco := ez_co3 k
  have va : vp_in (τ 3 9) 512 := by rw [ec]; exact vp_in_nI (by omega) (by decide)
  have ecl : (τ 3 9).toNatClampNeg = c := by rw [ec]; exact nI_clamp (by omega)
  have r1 : τ 9 (τ 3 9).toNatClampNeg = nI k := by rw [ecl]; exact e9
  have r2 : τ 10 (τ 3 9).toNatClampNeg = nI b := by rw [ecl]; exact e10
  have v11 : vp_in (τ 9 (τ 3 9).toNatClampNeg) 11 := by rw [r1]; exact vp_in_nI (by omega) (by decide)
  have r3 : jx_f901 (nI k).toNatClampNeg = nI (ez_co k) := by rw [nI_clamp (by omega)]; exact ez_f901 hk10
  rw [ez_st3] at hQ
  refine ji_43 ⟨va, va, v11, ?_⟩
  rw [r1, r2, r3]
  refine ec_pay (c := ez_co k) es eB (by omega) hB hco.2 (fun h => ?_) (fun h => ?_)
  · rw [if_pos h] at hQ
    refine ⟨fun q => absurd rfl q, fun _ => hQ _ ?_⟩
    exact ec_Ex (oc := 3) (by decide) (ec_su hsame) rfl
  · rw [if_neg h] at hQ
    have hb : ec_B σ (jx_su τ 3 12 (nI (s + ez_co k))) B u (s + ez_co k) K := ⟨ec_su hsame, by omega, eB, rfl, eK, by omega, eu, by omega, hB, ec_fr3 hfr, hz⟩
    have hch1 : ec_r (jx_su τ 3 12 (nI (s + ez_co k))) u a true b := hch
    refine ⟨fun _ => ?_, fun q => absurd q (by decide)⟩
    have har : 1 ≤ ez_ar k := by unfold ez_ar; split <;> (try split) <;> decide
    refine ec_chain (n := 0) (by decide) (show u ≤ 512 by omega) (by omega) hch1 (fun c0 h0 => ?_)
    by_cases k5 : k ≤ 5
    · have n5 : ¬ (5 : Int32) < nI k := by
        exact nI_nlt (b := k) (a := 5) k5 (by decide)
      have ar2 : ez_ar k = 2 := by unfold ez_ar; rw [if_neg (by omega), if_neg (by omega)]
      refine ⟨fun q => absurd q n5, fun _ => ?_⟩
      refine ec_chain (n := 1) (by decide) (show u ≤ 512 by omega) (by omega) hch1 (fun c1 h1 => ?_)
      exact ec_44 k5 hb h1 h0 hQ
    · have n5 : (5 : Int32) < nI k := nI_lt (a := 5) (by omega) (by omega)
      by_cases k6 : k = 6
      · subst k6
        refine ⟨fun _ => ⟨fun q => absurd rfl q, fun _ => ?_⟩, fun q => absurd n5 q⟩
        have ar3 : ez_ar 6 = 3 := rfl
        refine ec_chain (n := 2) (by decide) (show u ≤ 512 by omega) (by omega) hch1 (fun c2 h2 => ?_)
        refine ec_chain (n := 1) (by decide) (show u ≤ 512 by omega) (by omega) hch1 (fun c1 h1 => ?_)
        exact ec_46 hb h2 h1 h0 hQ
      · have n6 : ¬ nI k = 6 := fun q => k6 ((nI_eq (b := 6) (by omega) (by decide)).mp q)
        by_cases k7 : k = 7
        · subst k7
          refine ⟨fun _ => ⟨fun _ => ⟨fun q => absurd rfl q, fun _ => ?_⟩, fun q => absurd q n6⟩, fun q => absurd n5 q⟩
          have ar2 : ez_ar 7 = 2 := rfl
          refine ec_chain (n := 1) (by decide) (show u ≤ 512 by omega) (by omega) hch1 (fun c1 h1 => ?_)
          exact ec_47 hb h1 h0 hQ
        · have n7 : ¬ nI k = 7 := fun q => k7 ((nI_eq (b := 7) (by omega) (by decide)).mp q)
          refine ⟨fun _ => ⟨fun _ => ⟨fun _ => ?_, fun q => absurd q n7⟩, fun q => absurd q n6⟩, fun q => absurd n5 q⟩
          exact ec_48 (by omega) hk10 hb h0 hQ
/-- the loop, with n moves left -/
theorem ec_loop (hB : B ≤ 99) (hE : E ≤ 288) (h5 : ∀ j, s0 ≤ j → j < E → σ 5 j = f j ∧ ∃ b : Nat, b < 256 ∧ f j = nI b) {a1 a2 a3 a5 : Int32} {a4 : Nat} : ∀ (n i : Nat) (S : ez_S) (K : List ez_F) (s : Nat) (τ : jx_St), i + n = 2000 → ez_ws f (σ 6) s0 E S → ez_wk f (σ 6) s0 E K → ec_R σ τ B S K s → (∀ τ', ec_E σ τ' (ez f (σ 6) B n S K s) → Q none τ') →
    jx_J l D cA ρ jx_XM (jx_A ρ jx_XM) jx_tb0 (d + 5) 35 Q 59 [(6, .int (nI i)), (0, .ref 3), (1, .int a1), (2, .int a2), (3, .int a3), (4, .ref a4), (5, .int a5)] [] τ
  | 0, i, S, K, s, τ, hi, hS, hK, hR, hQ => by
    have e1 : i = 2000 := by omega
    subst e1
    have m4 : ¬ τ 3 6 = 4 := by
      obtain ⟨-, -, -, -, -, -, u, -, -, hcu, -⟩ := hR
      rcases hS with ⟨h, -⟩ | ⟨h, -⟩ | ⟨h, -⟩ | ⟨h, -⟩
      · rw [(hcu.1 h).1]; decide
      · rw [(hcu.2.1 h).1]; decide
      · rw [(hcu.2.2.1 h).1]; decide
      · rw [(hcu.2.2.2 h).1]; decide
    refine jx_go jk_35 (fun _ _ _ z => z) 60 [59] ?_
    refine ⟨fun _ => ⟨fun q => absurd q m4, fun _ => ?_⟩, fun q => absurd (by decide) q⟩
    exact ec_stop (hQ _ (ec_Ex (oc := 3) (by decide) hR.1 hR.2.2.2.1))
  | n + 1, i, S, K, s, τ, hi, hS, hK, hR, hQ => by
    have g1 : ¬ (2000 : Int32) ≤ nI i := nI_ge (b := 2000) (by omega) (by decide)
    have hst := ez_wst (B := B) (s := s) hE (fun j a b => (h5 j a b).2) hS hK
    have key : ∀ τ', ec_P σ τ' B (ez_st f (σ 6) B S K s) → jx_J l D cA ρ jx_XM (jx_A ρ jx_XM) jx_tb0 (d + 5) 35 Q 59 [(6, .int (nI i + 1)), (0, .ref 3), (1, .int a1), (2, .int a2), (3, .int a3), (4, .ref a4), (5, .int a5)] [] τ' := by
      intro τ' hP
      rw [nI_1]
      cases hO : ez_st f (σ 6) B S K s with
      | inl r =>
        rw [hO] at hP hst
        refine ec_loop hB hE h5 n (i + 1) r.1 r.2.1 r.2.2 τ' (by omega) hst.1 hst.2 hP (fun τ2 h2 => hQ τ2 ?_)
        rw [ez, hO]
        exact h2
      | inr r =>
        rw [hO] at hP
        have h9 := hQ τ' (by rw [ez, hO]; exact hP)
        have m4 : τ' 3 6 = 4 := hP.2.1
        refine jx_go jk_35 (fun _ _ _ z => z) 60 [59] ?_
        exact ⟨fun _ => ⟨fun _ => h9, fun q => absurd m4 q⟩, fun _ => ⟨fun _ => ⟨fun _ => h9, fun q => absurd m4 q⟩, fun q => absurd m4 q⟩⟩
    obtain ⟨m, p, v, x⟩ := S
    refine jx_go jk_35 (fun _ _ _ z => z) 60 [59] ?_
    have hcu := hR.2.2.2.2.2.2
    obtain ⟨u, -, -, hcu, -⟩ := hcu
    rcases hS with ⟨h, h1, h2⟩ | ⟨h, h1⟩ | ⟨h, h1, h2⟩ | ⟨h, h1, h2, h3⟩
    · have h : m = 0 := h
      subst h
      have md : τ 3 6 = 0 := (hcu.1 rfl).1
      refine ⟨fun q => absurd q g1, fun _ => ⟨fun q => absurd (md.symm.trans q) (by decide), fun _ => ⟨fun _ => ?_, fun q => absurd md q⟩⟩⟩
      exact ec_38 (d := d + 1) hB hE h5 h1 hR key
    · have h : m = 1 := h
      subst h
      have md : τ 3 6 = 1 := (hcu.2.1 rfl).1
      refine ⟨fun q => absurd q g1, fun _ => ⟨fun q => absurd (md.symm.trans q) (by decide), fun _ => ⟨fun q => absurd (md.symm.trans q) (by decide), fun _ => ⟨fun _ => ?_, fun q => absurd md q⟩⟩⟩⟩
      exact ec_39 (d := d + 1) hB hK hR key
    · have h : m = 2 := h
      subst h
      have md : τ 3 6 = 2 := (hcu.2.2.1 rfl).1
      refine ⟨fun q => absurd q g1, fun _ => ⟨fun q => absurd (md.symm.trans q) (by decide), fun _ => ⟨fun q => absurd (md.symm.trans q) (by decide), fun _ => ⟨fun q => absurd (md.symm.trans q) (by decide), fun _ => ⟨fun _ => ?_, fun q => absurd md q⟩⟩⟩⟩⟩
      exact ec_41 (d := d + 1) hB h1 hR key
    · have h : m = 3 := h
      subst h
      have md : τ 3 6 = 3 := (hcu.2.2.2 rfl).1
      refine ⟨fun q => absurd q g1, fun _ => ⟨fun q => absurd (md.symm.trans q) (by decide), fun _ => ⟨fun q => absurd (md.symm.trans q) (by decide), fun _ => ⟨fun q => absurd (md.symm.trans q) (by decide), fun _ => ⟨fun q => absurd (md.symm.trans q) (by decide), fun _ => ?_⟩⟩⟩⟩⟩
      exact ec_43 hB h1 h2 hR key
end EC6

/-! one step of the program's evaluator -/
def ec_c0 (τ : jx_St) (u p : Nat) (e : ez_V) : Prop := τ 3 6 = 0 ∧ τ 3 7 = nI p ∧ ∃ b : Nat, τ 3 8 = nI b ∧ ec_r τ u e true b
def ec_c1 (τ : jx_St) (u : Nat) (v : ez_V) : Prop := τ 3 6 = 1 ∧ ∃ a : Nat, τ 3 9 = nI a ∧ ec_r τ u v false a
def ec_c2 (τ : jx_St) (u : Nat) (w x : ez_V) : Prop := τ 3 6 = 2 ∧ ∃ a b : Nat, τ 3 9 = nI a ∧ τ 3 10 = nI b ∧ ec_r τ u w false a ∧ ec_r τ u x false b
def ec_c3 (τ : jx_St) (u k : Nat) (as : ez_V) : Prop := τ 3 6 = 3 ∧ ∃ a b : Nat, τ 3 9 = nI a ∧ a < u ∧ τ 9 a = nI k ∧ τ 10 a = nI b ∧ ec_r τ u as true b
def ec_cu (τ : jx_St) (u : Nat) (S : ez_S) : Prop := (S.1 = 0 → ec_c0 τ u S.2.1 S.2.2.1) ∧ (S.1 = 1 → ec_c1 τ u S.2.2.1) ∧ (S.1 = 2 → ec_c2 τ u S.2.2.1 S.2.2.2) ∧ (S.1 = 3 → ec_c3 τ u S.2.1 S.2.2.1)
def ec_fr (τ : jx_St) (u : Nat) : List ez_F → Prop
  | [] => True
  | F :: t => τ 12 t.length = nI F.1 ∧ (F.1 = 0 → τ 13 t.length = nI F.2.1 ∧ ∃ b : Nat, τ 14 t.length = nI b ∧ ec_r τ u F.2.2 true b) ∧ (F.1 = 1 ∨ F.1 = 3 → ∃ a : Nat, τ 13 t.length = nI a ∧ ec_r τ u F.2.2 false a) ∧ ec_fr τ u t
theorem ec_frm {τ τ' : jx_St} {u u' : Nat} (hr : ∀ v b c, ec_r τ u v b c → ec_r τ' u' v b c) : ∀ {K : List ez_F}, (∀ i, i < K.length → τ' 12 i = τ 12 i ∧ τ' 13 i = τ 13 i ∧ τ' 14 i = τ 14 i) → ec_fr τ u K → ec_fr τ' u' K
  | [], _, _ => trivial
  | F :: t, hi, h => by
    obtain ⟨h1, h2, h3, h4⟩ := h
    have k := hi t.length (by simp)
    refine ⟨by rw [k.1]; exact h1, fun z => ?_, fun z => ?_, ec_frm hr (fun i h => hi i (by simp; omega)) h4⟩
    · obtain ⟨a1, b, a2, a3⟩ := h2 z
      exact ⟨by rw [k.2.1]; exact a1, b, by rw [k.2.2]; exact a2, hr _ _ _ a3⟩
    · obtain ⟨a, a1, a2⟩ := h3 z
      exact ⟨a, by rw [k.2.1]; exact a1, hr _ _ _ a2⟩
def ec_R (σ τ : jx_St) (B : Nat) (S : ez_S) (K : List ez_F) (s : Nat) : Prop := ec_same σ τ ∧ s ≤ B ∧ τ 3 11 = nI B ∧ τ 3 12 = nI s ∧ τ 3 5 = nI K.length ∧ K.length ≤ 3 + s ∧ ∃ u : Nat, τ 7 4 = nI u ∧ u + 2 * K.length + (if S.1 = 2 then 2 else 0) ≤ 30 + 3 * s ∧ ec_cu τ u S ∧ ec_fr τ u K ∧ ec_r τ u .nil false 0
def ez_k : ez_V → Int32
  | .nest _ _ => 0
  | .align _ => 1
  | .tag _ _ => 3
  | _ => 2
def ez_n : ez_V → Int32
  | .nest i _ => Int32.ofInt i
  | .align b => if b then 1 else 0
  | .append _ t => nI (ez_len t + 1)
  | _ => 0
def ec_E (σ τ : jx_St) (r : Nat × Nat × ez_V) : Prop := ec_same σ τ ∧ τ 3 6 = 4 ∧ τ 3 13 = nI r.1 ∧ τ 3 12 = nI r.2.1 ∧ (1 < r.1 → τ 3 14 = -1 ∧ τ 3 15 = 0) ∧ (r.1 ≤ 1 → τ 3 14 = ez_k r.2.2 ∧ τ 3 15 = ez_n r.2.2)
def ec_P (σ τ : jx_St) (B : Nat) : ez_O → Prop
  | .inl r => ec_R σ τ B r.1 r.2.1 r.2.2
  | .inr r => ec_E σ τ r
theorem ec_cu0 {τ : jx_St} {u p : Nat} {e x : ez_V} (h : ec_c0 τ u p e) : ec_cu τ u (0, p, e, x) := ⟨fun _ => h, fun z => absurd (show (0 : Nat) = 1 from z) (by decide), fun z => absurd (show (0 : Nat) = 2 from z) (by decide), fun z => absurd (show (0 : Nat) = 3 from z) (by decide)⟩
theorem ec_cu1 {τ : jx_St} {u p : Nat} {e x : ez_V} (h : ec_c1 τ u e) : ec_cu τ u (1, p, e, x) := ⟨fun z => absurd (show (1 : Nat) = 0 from z) (by decide), fun _ => h, fun z => absurd (show (1 : Nat) = 2 from z) (by decide), fun z => absurd (show (1 : Nat) = 3 from z) (by decide)⟩
theorem ec_cu2 {τ : jx_St} {u p : Nat} {e x : ez_V} (h : ec_c2 τ u e x) : ec_cu τ u (2, p, e, x) := ⟨fun z => absurd (show (2 : Nat) = 0 from z) (by decide), fun z => absurd (show (2 : Nat) = 1 from z) (by decide), fun _ => h, fun z => absurd (show (2 : Nat) = 3 from z) (by decide)⟩
theorem ec_cu3 {τ : jx_St} {u p : Nat} {e x : ez_V} (h : ec_c3 τ u p e) : ec_cu τ u (3, p, e, x) := ⟨fun z => absurd (show (3 : Nat) = 0 from z) (by decide), fun z => absurd (show (3 : Nat) = 1 from z) (by decide), fun z => absurd (show (3 : Nat) = 2 from z) (by decide), fun _ => h⟩
theorem ec_Pl {σ τ : jx_St} {B s : Nat} {S : ez_S} {K : List ez_F} (h : ec_R σ τ B S K s) : ec_P σ τ B (.inl (S, K, s)) := h
theorem ec_fr3 {τ : jx_St} {u i : Nat} {v : Int32} {K : List ez_F} (h : ec_fr τ u K) : ec_fr (jx_su τ 3 i v) u K := ec_frm (τ := τ) (τ' := jx_su τ 3 i v) (fun _ _ _ z => z) (fun _ _ => ⟨rfl, rfl, rfl⟩) h
/-- the end of a step that failed -/
theorem ec_Ex {σ τ : jx_St} {oc s : Nat} {v : ez_V} (h : 1 < oc) (hs : ec_same σ τ) (es : τ 3 12 = nI s) : ec_E σ (ec_sp τ (nI oc)) (oc, s, v) := ⟨ec_su (ec_su (ec_su (ec_su hs))), rfl, rfl, es, fun _ => ⟨rfl, rfl⟩, fun z => absurd z (Nat.not_le.mpr h)⟩
/-- a step that found a value which stands in a cell -/
theorem ec_Rv {σ τ : jx_St} {B s u a : Nat} {v : ez_V} {K : List ez_F} (hs : ec_same σ τ) (h1 : s ≤ B) (h2 : τ 3 11 = nI B) (h3 : τ 3 12 = nI s) (h4 : τ 3 5 = nI K.length) (h5 : K.length ≤ 3 + s) (h6 : τ 7 4 = nI u) (h7 : u + 2 * K.length ≤ 30 + 3 * s) (h8 : ec_r τ u v false a) (h9 : ec_fr τ u K) (h10 : ec_r τ u .nil false 0) : ec_R σ (ec_fo τ (nI a)) B (1, 0, v, .nil) K s :=
  ⟨ec_su (ec_su hs), h1, h2, h3, h4, h5, u, h6, by simpa using h7, ec_cu1 ⟨rfl, a, rfl, h8⟩, ec_frm (τ := τ) (τ' := ec_fo τ (nI a)) (fun _ _ _ z => z) (fun _ _ => ⟨rfl, rfl, rfl⟩) h9, h10⟩
theorem ec_frmk {τ : jx_St} {u : Nat} {a1 a2 a3 a4 : Int32} {K : List ez_F} (h : ec_fr τ u K) : ec_fr (ec_mk τ u a1 a2 a3 a4) (u + 1) K := ec_frm (τ := τ) (fun _ _ _ z => ec_mkr z) (fun _ _ => ⟨rfl, rfl, rfl⟩) h
section EC2
variable {l : Launch} {D : va_G} {cA : ClassId} {ρ : Nat → Nat} {d : Nat} {Q : Option Value → jx_St → Prop} {σ τ : jx_St} {f : Nat → Int32} {s0 E B : Nat}

set_option maxHeartbeats 4000000 in
theorem ec_38 {p s : Nat} {e x : ez_V} {K : List ez_F} (hB : B ≤ 99) (hE : E ≤ 288) (h5 : ∀ j, s0 ≤ j → j < E → σ 5 j = f j ∧ ∃ b : Nat, b < 256 ∧ f j = nI b) (ht : ez_t f (σ 6) s0 E p (ez_len e)) (hR : ec_R σ τ B (0, p, e, x) K s) (hQ : ∀ τ', ec_P σ τ' B (ez_st f (σ 6) B (0, p, e, x) K s) → Q none τ') : jx_C l D cA ρ jx_XM (d + 3) 38 [.ref 3] τ Q := by
  obtain ⟨hsame, hsB, eB, es, eK, hK, u, eu, hpot, hcu, hfr, hz⟩ := hR
  obtain ⟨m0, ep, b, eb, hb⟩ : ec_c0 τ u p e := hcu.1 rfl
  have hpot : u + 2 * K.length ≤ 30 + 3 * s := hpot
  have e5 : τ 5 = σ 5 := hsame 5 rfl
  have e6 : τ 6 = σ 6 := hsame 6 rfl
  refine ji_38 ?_
  refine ec_pay (c := 1) es eB (by omega) hB (by decide) (fun h => ?_) (fun h => ?_)
  · rw [ez_st0, if_pos h] at hQ
    refine ⟨fun q => absurd rfl q, fun _ => hQ _ ?_⟩
    exact ec_Ex (oc := 3) (by decide) (ec_su hsame) rfl
  · rw [ez_st0, if_neg h] at hQ
    refine ⟨fun _ => ?_, fun q => absurd q (by decide)⟩
    obtain ⟨h0, r, q, ht⟩ := ht
    have hlt := iw_le ht
    have hsame1 : ec_same σ (jx_su τ 3 12 (nI (s + 1))) := ec_su hsame
    cases r with
    | zero => exact ht.elim
    | succ r =>
    obtain ⟨hp, ht⟩ := ht
    have vp : vp_in (τ 3 7) 288 := by rw [ep]; exact vp_in_nI (by omega) (by decide)
    have ecl : (τ 3 7).toNatClampNeg = p := by rw [ep]; exact nI_clamp (by omega)
    have ecl1 : (τ 3 7 + 1).toNatClampNeg = p + 1 := by rw [ep, nI_1]; exact nI_clamp (by omega)
    have vp1 : p + 1 < E → vp_in (τ 3 7 + 1) 288 := fun z => by rw [ep, nI_1]; exact vp_in_nI (by omega) (by decide)
    have ex0 : τ 5 (τ 3 7).toNatClampNeg = f p := by rw [ecl, e5]; exact (h5 p h0 hp).1
    have ex1 : p + 1 < E → τ 5 (τ 3 7 + 1).toNatClampNeg = f (p + 1) := fun z => by rw [ecl1, e5]; exact (h5 (p + 1) (by omega) z).1
    have ep1 : τ 3 7 + 1 = nI (p + 1) := by rw [ep, nI_1]
    refine ⟨vp, ?_⟩
    rcases ht with h | h | h | h | h | h | h
    · -- a variable
      obtain ⟨hf, h1, h2, -⟩ := h
      have ex : τ 5 (τ 3 7).toNatClampNeg = 0 := ex0.trans hf
      obtain ⟨k, k1, k2⟩ := (h5 (p + 1) (by omega) h1).2
      have hk : k < ez_len e := by
        apply Nat.not_le.mp
        intro z
        rw [k2] at h2
        exact absurd h2 (nI_nlt z (by omega))
      have ekk : τ 5 (τ 3 7 + 1).toNatClampNeg = nI k := (ex1 h1).trans k2
      have eb' : nI b = τ 3 8 := eb.symm
      unfold ez_tm at hQ
      rw [if_pos hf, k2, nI_clamp (show k < 2 ^ 31 by omega)] at hQ
      refine ⟨fun _ => ?_, fun q => absurd ex q⟩
      refine ⟨vp1 h1, ?_⟩
      have h9 := fun K hK => ec_chain (l := l) (D := D) (cA := cA) (ρ := ρ) (d := d + 1) (τ := jx_su τ 3 12 (nI (s + 1))) (Q := K) (u := u) (n := k) (c := b) (v := e) k1 (by omega) hk hb hK
      rw [eb', ← ekk] at h9
      refine h9 _ (fun a ha => ?_)
      refine ec_found (hQ _ (ec_Pl ?_))
      exact ec_Rv (u := u) hsame1 (by omega) eB rfl eK (by omega) eu (by omega) ha (ec_fr3 hfr) hz
    · -- a lambda
      have ex : τ 5 (τ 3 7).toNatClampNeg = 1 := ex0.trans h.1
      unfold ez_tm at hQ
      rw [h.1] at hQ
      refine ⟨fun q => absurd (ex.symm.trans q) (by decide), fun _ => ⟨fun _ => ?_, fun q => absurd ex q⟩⟩
      refine ec_make (u := u) eu (by omega) ?_
      refine ec_found (hQ _ (ec_Pl ?_))
      refine ec_Rv (u := u + 1) (ec_mks hsame1) (by omega) eB rfl eK (by omega) rfl (by omega) ?_ (ec_frmk (ec_fr3 hfr)) (ec_mkr hz)
      refine ⟨by omega, pk_us.trans (by rw [Nat.mul_mod_right]; rfl), pk_us.trans (by rw [Nat.mul_div_cancel_left _ (by decide)]; exact ep1), fun z => absurd z (by omega), b, pk_us.trans eb, ec_mkr hb⟩
    · -- an application
      obtain ⟨hf, q1, h1, h2, h3⟩ := h
      have ex : τ 5 (τ 3 7).toNatClampNeg = 2 := ex0.trans hf
      have ex6 : τ 6 (τ 3 7).toNatClampNeg = nI q1 := by rw [ecl, e6]; exact h3
      have l2 : q1 < E := by
        cases r with
        | zero => exact h2.elim
        | succ r => exact h2.1
      unfold ez_tm at hQ
      rw [hf, h3, nI_clamp (show q1 < 2 ^ 31 by omega)] at hQ
      refine ⟨fun q => absurd (ex.symm.trans q) (by decide), fun _ => ⟨fun q => absurd (ex.symm.trans q) (by decide), fun _ => ⟨fun _ => ?_, fun q => absurd ex q⟩⟩⟩
      refine ⟨vp, ?_⟩
      refine ec_push (k := K.length) eK (by omega) ?_
      refine ec_goto (hQ _ (ec_Pl ?_))
      refine ⟨ec_su (ec_su (ec_su (ec_pus hsame1))), by show s + 1 ≤ B; omega, eB, rfl, rfl, ?_, u, eu, ?_, ec_cu0 ⟨rfl, ep1, b, eb, hb⟩, ⟨?_, fun _ => ⟨?_, b, ?_, hb⟩, fun z => z.elim (fun z => absurd (show (0 : Nat) = 1 from z) (by decide)) (fun z => absurd (show (0 : Nat) = 3 from z) (by decide)), ?_⟩, hz⟩
      · show K.length + 1 ≤ 3 + (s + 1); omega
      · show u + 2 * (K.length + 1) + 0 ≤ 30 + 3 * (s + 1); omega
      · exact pk_us
      · exact pk_us.trans ex6
      · exact pk_us.trans eb
      · exact ec_frm (τ := τ) (τ' := ec_go (ec_pu (jx_su τ 3 12 (nI (s + 1))) K.length _ _ _) _ _) (fun _ _ _ z => z) (fun i hi => ⟨pk_un (by omega), pk_un (by omega), pk_un (by omega)⟩) hfr
    · -- an integer
      have ex : τ 5 (τ 3 7).toNatClampNeg = 3 := ex0.trans h.1
      unfold ez_tm at hQ
      rw [h.1] at hQ
      refine ⟨fun q => absurd (ex.symm.trans q) (by decide), fun _ => ⟨fun q => absurd (ex.symm.trans q) (by decide), fun _ => ⟨fun q => absurd (ex.symm.trans q) (by decide), fun _ => ⟨fun _ => ?_, fun q => absurd ex q⟩⟩⟩⟩
      refine ⟨vp1 h.2.1, ?_⟩
      refine ec_plain (u := u) eu (by omega) ?_
      refine ec_found (hQ _ (ec_Pl ?_))
      refine ec_Rv (u := u + 1) (ec_mks hsame1) (by omega) eB rfl eK (by omega) rfl (by omega) ?_ (ec_frmk (ec_fr3 hfr)) (ec_mkr hz)
      refine ⟨by omega, pk_us, pk_us.trans ?_⟩
      show τ 5 (τ 3 7 + 1).toNatClampNeg - 128 = Int32.ofInt (f (p + 1) - 128).toInt
      rw [ex1 h.2.1, Int32.ofInt_toInt]
    · -- a builtin
      have ex : τ 5 (τ 3 7).toNatClampNeg = 4 := ex0.trans h.1
      obtain ⟨k, k1, k2⟩ := (h5 (p + 1) (by omega) h.2.1).2
      have ekk : τ 5 (τ 3 7 + 1).toNatClampNeg = nI k := (ex1 h.2.1).trans k2
      unfold ez_tm at hQ
      rw [h.1, k2, nI_clamp (show k < 2 ^ 31 by omega)] at hQ
      refine ⟨fun q => absurd (ex.symm.trans q) (by decide), fun _ => ⟨fun q => absurd (ex.symm.trans q) (by decide), fun _ => ⟨fun q => absurd (ex.symm.trans q) (by decide), fun _ => ⟨fun q => absurd (ex.symm.trans q) (by decide), fun _ => ⟨fun _ => ?_, fun q => absurd ex q⟩⟩⟩⟩⟩
      refine ⟨vp1 h.2.1, ?_⟩
      refine ec_plain (u := u) eu (by omega) ?_
      refine ec_found (hQ _ (ec_Pl ?_))
      refine ec_Rv (u := u + 1) (ec_mks hsame1) (by omega) eB rfl eK (by omega) rfl (by omega) ?_ (ec_frmk (ec_fr3 hfr)) (ec_mkr hz)
      refine ⟨by omega, pk_us.trans (by rw [show (3 * k + 2) % 3 = 2 by omega]; rfl), pk_us.trans (by rw [show (3 * k + 2) / 3 = k by omega]; exact ekk), fun z => pk_us, 0, pk_us, trivial⟩
    · rcases h with ⟨hf | hf, h⟩
      · -- a delay
        have ex : τ 5 (τ 3 7).toNatClampNeg = 5 := ex0.trans hf
        unfold ez_tm at hQ
        rw [hf] at hQ
        refine ⟨fun q => absurd (ex.symm.trans q) (by decide), fun _ => ⟨fun q => absurd (ex.symm.trans q) (by decide), fun _ => ⟨fun q => absurd (ex.symm.trans q) (by decide), fun _ => ⟨fun q => absurd (ex.symm.trans q) (by decide), fun _ => ⟨fun q => absurd (ex.symm.trans q) (by decide), fun _ => ⟨fun _ => ?_, fun q => absurd ex q⟩⟩⟩⟩⟩⟩
        refine ec_make (u := u) eu (by omega) ?_
        refine ec_found (hQ _ (ec_Pl ?_))
        refine ec_Rv (u := u + 1) (ec_mks hsame1) (by omega) eB rfl eK (by omega) rfl (by omega) ?_ (ec_frmk (ec_fr3 hfr)) (ec_mkr hz)
        refine ⟨by omega, pk_us.trans (by rw [show (3 * (p + 1) + 1) % 3 = 1 by omega]; rfl), pk_us.trans (by rw [show (3 * (p + 1) + 1) / 3 = p + 1 by omega]; exact ep1), fun z => absurd z (by omega), b, pk_us.trans eb, ec_mkr hb⟩
      · -- a force
        have ex : τ 5 (τ 3 7).toNatClampNeg = 6 := ex0.trans hf
        unfold ez_tm at hQ
        rw [hf] at hQ
        refine ⟨fun q => absurd (ex.symm.trans q) (by decide), fun _ => ⟨fun q => absurd (ex.symm.trans q) (by decide), fun _ => ⟨fun q => absurd (ex.symm.trans q) (by decide), fun _ => ⟨fun q => absurd (ex.symm.trans q) (by decide), fun _ => ⟨fun q => absurd (ex.symm.trans q) (by decide), fun _ => ⟨fun q => absurd (ex.symm.trans q) (by decide), fun _ => ⟨fun _ => ?_, fun q => absurd ex q⟩⟩⟩⟩⟩⟩⟩
        refine ec_push (k := K.length) eK (by omega) ?_
        refine ec_goto (hQ _ (ec_Pl ?_))
        refine ⟨ec_su (ec_su (ec_su (ec_pus hsame1))), by show s + 1 ≤ B; omega, eB, rfl, rfl, ?_, u, eu, ?_, ec_cu0 ⟨rfl, ep1, b, eb, hb⟩, ⟨?_, fun z => absurd z (by decide), fun z => z.elim (fun z => absurd z (by decide)) (fun z => absurd z (by decide)), ?_⟩, hz⟩
        · show K.length + 1 ≤ 3 + (s + 1); omega
        · show u + 2 * (K.length + 1) + 0 ≤ 30 + 3 * (s + 1); omega
        · exact pk_us
        · exact ec_frm (τ := τ) (τ' := ec_go (ec_pu (jx_su τ 3 12 (nI (s + 1))) K.length _ _ _) _ _) (fun _ _ _ z => z) (fun i hi => ⟨pk_un (by omega), pk_un (by omega), pk_un (by omega)⟩) hfr
    · rcases h with ⟨hf | hf, h⟩
      · -- an error
        have ex : τ 5 (τ 3 7).toNatClampNeg = 7 := ex0.trans hf
        unfold ez_tm at hQ
        rw [hf] at hQ
        refine ⟨fun q => absurd (ex.symm.trans q) (by decide), fun _ => ⟨fun q => absurd (ex.symm.trans q) (by decide), fun _ => ⟨fun q => absurd (ex.symm.trans q) (by decide), fun _ => ⟨fun q => absurd (ex.symm.trans q) (by decide), fun _ => ⟨fun q => absurd (ex.symm.trans q) (by decide), fun _ => ⟨fun q => absurd (ex.symm.trans q) (by decide), fun _ => ⟨fun q => absurd (ex.symm.trans q) (by decide), fun _ => ⟨fun _ => ?_, fun q => absurd ex q⟩⟩⟩⟩⟩⟩⟩⟩
        refine ec_stop (hQ _ ?_)
        exact ec_Ex (oc := 2) (by decide) hsame1 rfl
      · -- an empty list
        have ex : τ 5 (τ 3 7).toNatClampNeg = 8 := ex0.trans hf
        unfold ez_tm at hQ
        rw [hf] at hQ
        refine ⟨fun q => absurd (ex.symm.trans q) (by decide), fun _ => ⟨fun q => absurd (ex.symm.trans q) (by decide), fun _ => ⟨fun q => absurd (ex.symm.trans q) (by decide), fun _ => ⟨fun q => absurd (ex.symm.trans q) (by decide), fun _ => ⟨fun q => absurd (ex.symm.trans q) (by decide), fun _ => ⟨fun q => absurd (ex.symm.trans q) (by decide), fun _ => ⟨fun q => absurd (ex.symm.trans q) (by decide), fun _ => ⟨fun q => absurd (ex.symm.trans q) (by decide), fun _ => ⟨fun _ => ?_, fun q => absurd ex q⟩⟩⟩⟩⟩⟩⟩⟩⟩
        refine ec_found (hQ _ (ec_Pl ?_))
        exact ec_Rv (u := u) hsame1 (by omega) eB rfl eK (by omega) eu (by omega) hz (ec_fr3 hfr) hz

end EC2
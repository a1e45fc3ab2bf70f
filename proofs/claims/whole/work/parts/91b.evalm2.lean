/-! one step of the model's evaluator -/
def em_c0 (τ : jx_St) (u w p : Nat) (e : ez_V) : Prop := τ 34 18 = nI p ∧ ∃ j : Nat, τ 34 19 = nI j ∧ em_r τ u w e 1 j
def em_c1 (τ : jx_St) (u w : Nat) (v : ez_V) : Prop := τ 34 18 = -1 ∧ ∃ i : Nat, τ 34 20 = nI i ∧ em_r τ u w v 0 i
def em_cu (τ : jx_St) (u w : Nat) (S : ez_S) : Prop := S.1 ≤ 1 ∧ (S.1 = 0 → em_c0 τ u w S.2.1 S.2.2.1) ∧ (S.1 = 1 → em_c1 τ u w S.2.2.1)
def em_fk (k : Nat) : Nat := if k = 0 then 1 else if k = 1 then 2 else if k = 2 then 0 else 3
def em_fr (τ : jx_St) (u w : Nat) : List ez_F → Prop
  | [] => True
  | F :: t => τ 45 t.length = nI (em_fk F.1) ∧ (F.1 = 0 → τ 46 t.length = nI F.2.1 ∧ ∃ j : Nat, τ 47 t.length = nI j ∧ em_r τ u w F.2.2 1 j) ∧ (F.1 = 1 ∨ F.1 = 3 → ∃ i : Nat, τ 46 t.length = nI i ∧ em_r τ u w F.2.2 0 i) ∧ em_fr τ u w t
theorem em_frm {τ τ' : jx_St} {u w u' w' : Nat} (hr : ∀ v m p, em_r τ u w v m p → em_r τ' u' w' v m p) : ∀ {K : List ez_F}, (∀ i, i < K.length → τ' 45 i = τ 45 i ∧ τ' 46 i = τ 46 i ∧ τ' 47 i = τ 47 i) → em_fr τ u w K → em_fr τ' u' w' K
  | [], _, _ => trivial
  | F :: t, hi, h => by
    obtain ⟨h1, h2, h3, h4⟩ := h
    have k := hi t.length (by simp)
    refine ⟨by rw [k.1]; exact h1, fun z => ?_, fun z => ?_, em_frm hr (fun i h => hi i (by simp; omega)) h4⟩
    · obtain ⟨a1, b, a2, a3⟩ := h2 z
      exact ⟨by rw [k.2.1]; exact a1, b, by rw [k.2.2]; exact a2, hr _ _ _ a3⟩
    · obtain ⟨a, a1, a2⟩ := h3 z
      exact ⟨a, by rw [k.2.1]; exact a1, hr _ _ _ a2⟩
/-- all of a state but where it stands -/
def em_B (σ τ : jx_St) (B u w s : Nat) (K : List ez_F) : Prop := em_same σ τ ∧ s ≤ B ∧ B ≤ 99 ∧ τ 34 22 = nI B ∧ τ 34 21 = nI s ∧ τ 34 24 = 1 ∧ τ 34 14 = nI K.length ∧ τ 34 5 = nI u ∧ τ 34 11 = nI w ∧ em_fr τ u w K
def em_R (σ τ : jx_St) (B : Nat) (S : ez_S) (K : List ez_F) (s : Nat) : Prop := ∃ u w : Nat, em_B σ τ B u w s K ∧ u + w + K.length ≤ 26 + s ∧ w + K.length ≤ 3 + s ∧ em_cu τ u w S
def em_X (σ τ : jx_St) (r : Nat × Nat × ez_V) : Prop := em_same σ τ ∧ τ 34 23 = nI r.1 ∧ τ 34 21 = nI r.2.1 ∧ τ 34 24 = 1 ∧ 1 < r.1
def em_P (σ τ : jx_St) (B : Nat) (b : Int32) : ez_O → Prop
  | .inl r => b = 1 ∧ em_R σ τ B r.1 r.2.1 r.2.2
  | .inr r => b = 0 ∧ em_X σ τ r
theorem em_fr34 {τ : jx_St} {u w i : Nat} {v : Int32} {K : List ez_F} (h : em_fr τ u w K) : em_fr (jx_su τ 34 i v) u w K := em_frm (τ := τ) (τ' := jx_su τ 34 i v) (fun _ _ _ z => z) (fun _ _ => ⟨rfl, rfl, rfl⟩) h
theorem em_frmk {τ : jx_St} {u w : Nat} {a1 a2 a3 a4 a5 : Int32} {K : List ez_F} (h : em_fr τ u w K) : em_fr (em_mk τ u a1 a2 a3 a4 a5) (u + 1) w K := em_frm (τ := τ) (τ' := em_mk τ u a1 a2 a3 a4 a5) (fun _ _ _ z => em_mkr z) (fun _ _ => ⟨rfl, rfl, rfl⟩) h
section EM2
variable {l : Launch} {D : va_G} {cA : ClassId} {ρ : Nat → Nat} {d : Nat} {Q : Option Value → jx_St → Prop} {σ τ : jx_St} {f g : Nat → Int32} {s0 E B : Nat}
theorem em_Bm {u w s : Nat} {K : List ez_F} {a1 a2 a3 a4 a5 : Int32} (h : em_B σ τ B u w s K) : em_B σ (em_mk τ u a1 a2 a3 a4 a5) B (u + 1) w s K := by
  obtain ⟨h1, h2, h3, h4, h5, h6, h7, h8, h9, h10⟩ := h
  exact ⟨em_mks h1, h2, h3, h4, h5, h6, h7, rfl, h9, em_frmk h10⟩
theorem em_B20 {u w s : Nat} {K : List ez_F} {z : Int32} (h : em_B σ τ B u w s K) : em_B σ (jx_su τ 34 20 z) B u w s K := by
  obtain ⟨h1, h2, h3, h4, h5, h6, h7, h8, h9, h10⟩ := h
  exact ⟨em_sf h1, h2, h3, h4, h5, h6, h7, h8, h9, em_fr34 h10⟩
theorem em_B18 {u w s : Nat} {K : List ez_F} {z : Int32} (h : em_B σ τ B u w s K) : em_B σ (jx_su τ 34 18 z) B u w s K := by
  obtain ⟨h1, h2, h3, h4, h5, h6, h7, h8, h9, h10⟩ := h
  exact ⟨em_sf h1, h2, h3, h4, h5, h6, h7, h8, h9, em_fr34 h10⟩
theorem em_B19 {u w s : Nat} {K : List ez_F} {z : Int32} (h : em_B σ τ B u w s K) : em_B σ (jx_su τ 34 19 z) B u w s K := by
  obtain ⟨h1, h2, h3, h4, h5, h6, h7, h8, h9, h10⟩ := h
  exact ⟨em_sf h1, h2, h3, h4, h5, h6, h7, h8, h9, em_fr34 h10⟩
theorem em_B21 {u w s s' : Nat} {K : List ez_F} (h : em_B σ τ B u w s K) (hs : s' ≤ B) : em_B σ (jx_su τ 34 21 (nI s')) B u w s' K := by
  obtain ⟨h1, h2, h3, h4, h5, h6, h7, h8, h9, h10⟩ := h
  exact ⟨em_sf h1, hs, h3, h4, rfl, h6, h7, h8, h9, em_fr34 h10⟩
/-- one frame less -/
theorem em_B14 {u w s : Nat} {F : ez_F} {K : List ez_F} (h : em_B σ τ B u w s (F :: K)) : em_B σ (jx_su τ 34 14 (nI K.length)) B u w s K := by
  obtain ⟨h1, h2, h3, h4, h5, h6, h7, h8, h9, h10⟩ := h
  exact ⟨em_sf h1, h2, h3, h4, h5, h6, rfl, h8, h9, em_fr34 h10.2.2.2⟩
theorem em_Bx {u w s : Nat} {K : List ez_F} (h : em_B σ τ B u w s K) : em_X σ (jx_su τ 34 23 2) (2, s, .nil) := ⟨em_sf h.1, rfl, h.2.2.2.2.1, h.2.2.2.2.2.1, Nat.le_of_ble_eq_true rfl⟩
theorem em_Bx3 {u w s : Nat} {K : List ez_F} (h : em_B σ τ B u w s K) : em_X σ (jx_su (jx_su τ 34 21 (nI B)) 34 23 3) (3, B, .nil) := ⟨em_sf (em_sf h.1), rfl, rfl, h.2.2.2.2.2.1, Nat.le_of_ble_eq_true rfl⟩
/-- a value that stands in a cell -/
theorem em_Bv {u w s i : Nat} {K : List ez_F} {v : ez_V} (h : em_B σ τ B u w s K) (h18 : τ 34 18 = -1) (h1 : u + w + K.length ≤ 26 + s) (h2 : w + K.length ≤ 3 + s) (hv : em_r τ u w v 0 i) : em_R σ (jx_su τ 34 20 (nI i)) B (1, 0, v, .nil) K s :=
  ⟨u, w, em_B20 h, h1, h2, Nat.le_refl 1, fun z => absurd (show (1 : Nat) = 0 from z) (by decide), fun _ => ⟨h18, i, rfl, hv⟩⟩
/-- a value in a new cell -/
theorem em_Bn {u w s : Nat} {K : List ez_F} {v : ez_V} {a1 a2 a3 a4 a5 : Int32} (h : em_B σ τ B u w s K) (h18 : τ 34 18 = -1) (h1 : u + 1 + w + K.length ≤ 26 + s) (h2 : w + K.length ≤ 3 + s) (hv : em_r (em_mk τ u a1 a2 a3 a4 a5) (u + 1) w v 0 u) : em_R σ (jx_su (em_mk τ u a1 a2 a3 a4 a5) 34 20 (nI u)) B (1, 0, v, .nil) K s :=
  em_Bv (em_Bm h) h18 (by omega) h2 hv
theorem em_Pl {b : Int32} {S : ez_S} {K : List ez_F} {s : Nat} (hb : b = 1) (h : em_R σ τ B S K s) : em_P σ τ B b (.inl (S, K, s)) := ⟨hb, h⟩
theorem em_l46 {u w : Nat} {O P : Int32} (hw : w < 120) : ∀ (k : Nat) (v : ez_V) (c : Nat), k < 256 → k < ez_len v → em_r τ u w v 1 c → (∀ a, em_r τ u w (ez_look v k) 0 a → Q (some (.int 1)) (jx_su τ 34 20 (nI a))) →
    jx_J l D cA ρ jx_XM (jx_A ρ jx_XM) jx_tb0 (d + 1) 101 Q 46 [(4, .int (nI k)), (3, .int (nI c)), (2, .int O), (1, .int P), (0, .ref 34)] [] τ
  | 0, v, c, _, hk, hr, hQ => by
    cases v with
    | append x t =>
      obtain ⟨h1, a, b, h2, h3, h4, h5⟩ := hr
      have vv : vp_in (nI c) 120 := vp_in_nI (by omega) (by decide)
      have ec : (nI c).toNatClampNeg = c := nI_clamp (by omega)
      have h9 := hQ a h4
      rw [← h2, ← ec] at h9
      refine jx_go jk_101 (fun _ _ _ z => z) 40 [46] ?_
      exact ⟨fun _ => ⟨vv, Or.inr rfl, h9⟩, fun q => absurd (by decide) q⟩
    | _ => exact absurd hk (Nat.not_lt_zero _)
  | k + 1, v, c, hk2, hk, hr, hQ => by
    cases v with
    | append x t =>
      obtain ⟨h1, a, b, h2, h3, h4, h5⟩ := hr
      have vv : vp_in (nI c) 120 := vp_in_nI (by omega) (by decide)
      have ec : (nI c).toNatClampNeg = c := nI_clamp (by omega)
      have ih := em_l46 (O := O) (P := P) hw k t b (by omega) (Nat.lt_of_succ_lt_succ hk) h5 hQ
      rw [← h3, ← ec, ← pk_m1 k] at ih
      have g : ¬ nI (k + 1) ≤ 0 := nI_nle (by omega) (by omega)
      refine jx_go jk_101 (fun _ _ _ z => z) 40 [46] ?_
      exact ⟨fun q => absurd q g, fun _ => ⟨vv, ih⟩⟩
    | _ => exact absurd hk (Nat.not_lt_zero _)
set_option maxHeartbeats 4000000 in
theorem em_101 {p s : Nat} {e x : ez_V} {K : List ez_F} (hE : E ≤ 288) (hb : ∀ j, s0 ≤ j → j < E → ∃ b : Nat, b < 256 ∧ σ 35 j = nI b) (ht : ez_t (σ 35) g s0 E p (ez_len e)) (hR : em_R σ τ B (0, p, e, x) K s) (hQ : ∀ b τ', em_P σ τ' B b (ez_st (σ 35) g B (0, p, e, x) K s) → Q (some (.int b)) τ') : jx_C l D cA ρ jx_XM (d + 3) 101 [.ref 34] τ Q := by
  obtain ⟨u, w, hB, p1, p2, hcu⟩ := hR
  obtain ⟨ep, j, ej, hj⟩ : em_c0 τ u w p e := hcu.2.1 rfl
  have hB' := hB
  obtain ⟨hsame, hsB, hB99, eB, es, er, eK, eu, ew, hfr⟩ := hB'
  have e35 : τ 35 = σ 35 := hsame.1 35 rfl
  have hlt : p < E := by
    obtain ⟨-, r, q, ht⟩ := ht
    cases r with
    | zero => exact ht.elim
    | succ r => exact ht.1
  have vp : vp_in (τ 34 18) 288 := by rw [ep]; exact vp_in_nI (by omega) (by decide)
  have ecl : (τ 34 18).toNatClampNeg = p := by rw [ep]; exact nI_clamp (by omega)
  have ecl1 : (τ 34 18 + 1).toNatClampNeg = p + 1 := by rw [ep, nI_1]; exact nI_clamp (by omega)
  have vp1 : p + 1 < E → vp_in (τ 34 18 + 1) 288 := fun z => by rw [ep, nI_1]; exact vp_in_nI (by omega) (by decide)
  have ex0 : τ 35 (τ 34 18).toNatClampNeg = σ 35 p := by rw [ecl, e35]
  have ex1 : τ 35 (τ 34 18 + 1).toNatClampNeg = σ 35 (p + 1) := by rw [ecl1, e35]
  have ep1 : τ 34 18 + 1 = nI (p + 1) := by rw [ep, nI_1]
  refine jx_in jk_101 100 [46] rfl (Nat.le_of_ble_eq_true rfl) ⟨vp, ?_⟩
  refine em_pay (c := 1) es eB (by omega) hB99 (by decide) (fun h => ?_) (fun h => ?_)
  · rw [ez_st0, if_pos h] at hQ
    refine ⟨fun q => absurd rfl q, fun _ => ⟨Or.inl rfl, hQ _ _ ⟨rfl, em_Bx3 hB⟩⟩⟩
  · rw [ez_st0, if_neg h] at hQ
    have hB1 : em_B σ (jx_su (jx_su τ 34 21 (nI (s + 1))) 34 18 (-1)) B u w (s + 1) K := em_B18 (em_B21 hB (by omega))
    refine ⟨fun _ => ?_, fun q => absurd q (by decide)⟩
    obtain ⟨h0, r, q, ht⟩ := ht
    cases r with
    | zero => exact ht.elim
    | succ r =>
    obtain ⟨hp, ht⟩ := ht
    rcases ht with h | h | h | h | h | h | h
    · have ex : τ 35 (τ 34 18).toNatClampNeg = 0 := ex0.trans h.1
      unfold ez_tm at hQ
      obtain ⟨k, k1, k2⟩ := hb (p + 1) (by omega) h.2.1
      have hk : k < ez_len e := by
        apply Nat.not_le.mp
        intro z
        have h2 := h.2.2.1
        rw [k2] at h2
        exact absurd h2 (nI_nlt z (by omega))
      rw [if_pos h.1, k2, nI_clamp (show k < 2 ^ 31 by omega)] at hQ
      have h9 := em_l46 (l := l) (D := D) (cA := cA) (ρ := ρ) (d := d + 2) (Q := Q) (τ := jx_su (jx_su τ 34 21 (nI (s + 1))) 34 18 (-1)) (u := u) (w := w) (O := τ 35 (τ 34 18).toNatClampNeg) (P := τ 34 18) (by omega) k e j k1 hk hj (fun a ha => hQ _ _ (em_Pl rfl (em_Bv hB1 rfl (by omega) (by omega) ha)))
      rw [← k2, ← ex1, ← ej] at h9
      refine ⟨fun q => absurd ex q, fun _ => ?_⟩
      exact ⟨vp1 h.2.1, h9⟩
    · have ex : τ 35 (τ 34 18).toNatClampNeg = 1 := ex0.trans h.1
      unfold ez_tm at hQ
      rw [h.1] at hQ
      refine ⟨fun _ => ?_, fun q => absurd (ex.symm.trans q) (by decide)⟩
      refine ⟨fun q => absurd ex q, fun _ => ?_⟩
      refine em_make (u := u) eu (by omega) ?_
      refine ⟨Or.inr rfl, hQ _ _ (em_Pl rfl (em_Bn hB1 rfl (by omega) (by omega) ?_))⟩
      exact ⟨by omega, pk_us.trans (by rw [Nat.mul_mod_right]; rfl), pk_us.trans (by rw [Nat.mul_div_cancel_left _ (by decide)]; exact ep1), fun _ => ⟨j, pk_us.trans ej, em_mkr hj⟩, fun z => absurd z (by omega)⟩
    · have ex : τ 35 (τ 34 18).toNatClampNeg = 2 := ex0.trans h.1
      unfold ez_tm at hQ
      obtain ⟨hf, q1, h1, h2, h3⟩ := h
      have l2 : q1 < E := by
        cases r with
        | zero => exact h2.elim
        | succ r => exact h2.1
      rw [hf, h3, nI_clamp (show q1 < 2 ^ 31 by omega)] at hQ
      have h93 := fun K hK => em_93 (l := l) (D := D) (cA := cA) (ρ := ρ) (d := d + 1) (Q := K) (τ := jx_su (jx_su τ 34 21 (nI (s + 1))) 34 18 (-1)) (f := σ 35) hE (fun z => congrFun e35 z) h1 hK
      rw [← ep1] at h93
      refine ⟨fun _ => ?_, fun q => absurd (ex.symm.trans q) (by decide)⟩
      refine ⟨fun _ => ?_, fun q => absurd (ex.symm.trans q) (by decide)⟩
      refine ⟨fun q => absurd ex q, fun _ => ?_⟩
      refine h93 _ ?_
      refine em_later (k := K.length) eK (by omega) ?_
      refine ⟨Or.inr rfl, hQ _ _ (em_Pl rfl ?_)⟩
      refine ⟨u, w, em_B18 ⟨em_pus hB1.1, hB1.2.1, hB99, eB, rfl, er, rfl, eu, ew, ⟨pk_us, fun _ => ⟨pk_us, j, pk_us.trans ej, hj⟩, fun z => z.elim (fun z => absurd (show (0 : Nat) = 1 from z) (by decide)) (fun z => absurd (show (0 : Nat) = 3 from z) (by decide)), ?_⟩⟩, ?_, ?_, Nat.zero_le _, fun _ => ⟨ep1, j, ej, hj⟩, fun z => absurd (show (0 : Nat) = 1 from z) (by decide)⟩
      · exact em_frm (τ := τ) (τ' := em_pu (jx_su (jx_su τ 34 21 (nI (s + 1))) 34 18 (-1)) K.length _ _ _) (fun _ _ _ z => z) (fun i hi => ⟨pk_un (by omega), pk_un (by omega), pk_un (by omega)⟩) hfr
      · show u + w + (K.length + 1) ≤ 26 + (s + 1); omega
      · show w + (K.length + 1) ≤ 3 + (s + 1); omega
    · have ex : τ 35 (τ 34 18).toNatClampNeg = 3 := ex0.trans h.1
      unfold ez_tm at hQ
      rw [h.1] at hQ
      refine ⟨fun _ => ?_, fun q => absurd (ex.symm.trans q) (by decide)⟩
      refine ⟨fun _ => ?_, fun q => absurd (ex.symm.trans q) (by decide)⟩
      refine ⟨fun _ => ?_, fun q => absurd (ex.symm.trans q) (by decide)⟩
      refine ⟨fun q => absurd ex q, fun _ => ?_⟩
      refine ⟨vp1 h.2.1, ?_⟩
      refine em_whole (u := u) eu (by omega) ?_
      refine ⟨Or.inr rfl, hQ _ _ (em_Pl rfl (em_Bn hB1 rfl (by omega) (by omega) ?_))⟩
      refine ⟨by omega, pk_us, pk_us.trans ?_⟩
      show τ 35 (τ 34 18 + 1).toNatClampNeg - 128 = Int32.ofInt (σ 35 (p + 1) - 128).toInt
      rw [ex1, Int32.ofInt_toInt]
    · have ex : τ 35 (τ 34 18).toNatClampNeg = 4 := ex0.trans h.1
      unfold ez_tm at hQ
      obtain ⟨k, k1, k2⟩ := hb (p + 1) (by omega) h.2.1
      rw [h.1, k2, nI_clamp (show k < 2 ^ 31 by omega)] at hQ
      refine ⟨fun _ => ?_, fun q => absurd (ex.symm.trans q) (by decide)⟩
      refine ⟨fun _ => ?_, fun q => absurd (ex.symm.trans q) (by decide)⟩
      refine ⟨fun _ => ?_, fun q => absurd (ex.symm.trans q) (by decide)⟩
      refine ⟨fun _ => ?_, fun q => absurd (ex.symm.trans q) (by decide)⟩
      refine ⟨fun q => absurd ex q, fun _ => ?_⟩
      refine ⟨vp1 h.2.1, ?_⟩
      refine em_make (u := u) eu (by omega) ?_
      refine ⟨Or.inr rfl, hQ _ _ (em_Pl rfl (em_Bn hB1 rfl (by omega) (by omega) ?_))⟩
      refine ⟨by omega, pk_us.trans (by rw [show (3 * k + 2) % 3 = 2 by omega]; rfl), pk_us.trans (by rw [show (3 * k + 2) / 3 = k by omega]; exact ex1.trans k2), fun z => absurd (show (3 * k + 2) % 3 = 2 by omega) z, fun _ => ⟨pk_us, trivial⟩⟩
    · rcases h with ⟨hf | hf, h⟩
      · have ex : τ 35 (τ 34 18).toNatClampNeg = 5 := ex0.trans hf
        unfold ez_tm at hQ
        rw [hf] at hQ
        refine ⟨fun _ => ?_, fun q => absurd (ex.symm.trans q) (by decide)⟩
        refine ⟨fun _ => ?_, fun q => absurd (ex.symm.trans q) (by decide)⟩
        refine ⟨fun _ => ?_, fun q => absurd (ex.symm.trans q) (by decide)⟩
        refine ⟨fun _ => ?_, fun q => absurd (ex.symm.trans q) (by decide)⟩
        refine ⟨fun _ => ?_, fun q => absurd (ex.symm.trans q) (by decide)⟩
        refine ⟨fun q => absurd ex q, fun _ => ?_⟩
        refine em_make (u := u) eu (by omega) ?_
        refine ⟨Or.inr rfl, hQ _ _ (em_Pl rfl (em_Bn hB1 rfl (by omega) (by omega) ?_))⟩
        exact ⟨by omega, pk_us.trans (by rw [show (3 * (p + 1) + 1) % 3 = 1 by omega]; rfl), pk_us.trans (by rw [show (3 * (p + 1) + 1) / 3 = p + 1 by omega]; exact ep1), fun _ => ⟨j, pk_us.trans ej, em_mkr hj⟩, fun z => absurd z (by omega)⟩
      · have ex : τ 35 (τ 34 18).toNatClampNeg = 6 := ex0.trans hf
        unfold ez_tm at hQ
        rw [hf] at hQ
        refine ⟨fun _ => ?_, fun q => absurd (ex.symm.trans q) (by decide)⟩
        refine ⟨fun _ => ?_, fun q => absurd (ex.symm.trans q) (by decide)⟩
        refine ⟨fun _ => ?_, fun q => absurd (ex.symm.trans q) (by decide)⟩
        refine ⟨fun _ => ?_, fun q => absurd (ex.symm.trans q) (by decide)⟩
        refine ⟨fun _ => ?_, fun q => absurd (ex.symm.trans q) (by decide)⟩
        refine ⟨fun _ => ?_, fun q => absurd (ex.symm.trans q) (by decide)⟩
        refine ⟨fun q => absurd ex q, fun _ => ?_⟩
        refine em_later (k := K.length) eK (by omega) ?_
        refine ⟨Or.inr rfl, hQ _ _ (em_Pl rfl ?_)⟩
        refine ⟨u, w, em_B18 ⟨em_pus hB1.1, hB1.2.1, hB99, eB, rfl, er, rfl, eu, ew, ⟨pk_us, fun z => absurd z (by decide), fun z => z.elim (fun z => absurd z (by decide)) (fun z => absurd z (by decide)), ?_⟩⟩, ?_, ?_, Nat.zero_le _, fun _ => ⟨ep1, j, ej, hj⟩, fun z => absurd (show (0 : Nat) = 1 from z) (by decide)⟩
        · exact em_frm (τ := τ) (τ' := em_pu (jx_su (jx_su τ 34 21 (nI (s + 1))) 34 18 (-1)) K.length _ _ _) (fun _ _ _ z => z) (fun i hi => ⟨pk_un (by omega), pk_un (by omega), pk_un (by omega)⟩) hfr
        · show u + w + (K.length + 1) ≤ 26 + (s + 1); omega
        · show w + (K.length + 1) ≤ 3 + (s + 1); omega
    · rcases h with ⟨hf | hf, h⟩
      · have ex : τ 35 (τ 34 18).toNatClampNeg = 7 := ex0.trans hf
        unfold ez_tm at hQ
        rw [hf] at hQ
        refine ⟨fun _ => ?_, fun q => absurd (ex.symm.trans q) (by decide)⟩
        refine ⟨fun _ => ?_, fun q => absurd (ex.symm.trans q) (by decide)⟩
        refine ⟨fun _ => ?_, fun q => absurd (ex.symm.trans q) (by decide)⟩
        refine ⟨fun _ => ?_, fun q => absurd (ex.symm.trans q) (by decide)⟩
        refine ⟨fun _ => ?_, fun q => absurd (ex.symm.trans q) (by decide)⟩
        refine ⟨fun _ => ?_, fun q => absurd (ex.symm.trans q) (by decide)⟩
        refine ⟨fun _ => ?_, fun q => absurd (ex.symm.trans q) (by decide)⟩
        refine ⟨fun q => absurd ex q, fun _ => ?_⟩
        refine em_fail ?_
        exact ⟨Or.inl rfl, hQ _ _ ⟨rfl, em_Bx hB1⟩⟩
      · have ex : τ 35 (τ 34 18).toNatClampNeg = 8 := ex0.trans hf
        unfold ez_tm at hQ
        rw [hf] at hQ
        refine ⟨fun _ => ?_, fun q => absurd (ex.symm.trans q) (by decide)⟩
        refine ⟨fun _ => ?_, fun q => absurd (ex.symm.trans q) (by decide)⟩
        refine ⟨fun _ => ?_, fun q => absurd (ex.symm.trans q) (by decide)⟩
        refine ⟨fun _ => ?_, fun q => absurd (ex.symm.trans q) (by decide)⟩
        refine ⟨fun _ => ?_, fun q => absurd (ex.symm.trans q) (by decide)⟩
        refine ⟨fun _ => ?_, fun q => absurd (ex.symm.trans q) (by decide)⟩
        refine ⟨fun _ => ?_, fun q => absurd (ex.symm.trans q) (by decide)⟩
        refine ⟨fun _ => ?_, fun q => absurd (ex.symm.trans q) (by decide)⟩
        refine em_make (u := u) eu (by omega) ?_
        refine ⟨Or.inr rfl, hQ _ _ (em_Pl rfl (em_Bn hB1 rfl (by omega) (by omega) ?_))⟩
        exact ⟨by omega, pk_us, pk_us⟩
end EM2

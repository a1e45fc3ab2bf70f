/-! application and the loop of the model -/
def ez_ap2 (f g : Nat → Int32) (B : Nat) (w x : ez_V) (K : List ez_F) (s : Nat) : ez_O := match ez_ap w x K s with
  | .inl r => if r.1.1 = 3 then ez_st f g B r.1 r.2.1 r.2.2 else .inl r
  | .inr r => .inr r
def ez_vl2 (f g : Nat → Int32) (B k p : Nat) (w v : ez_V) (K : List ez_F) (s : Nat) : ez_O := match ez_vl k p w v K s with
  | .inl r => if r.1.1 = 2 then ez_ap2 f g B r.1.2.2.1 r.1.2.2.2 r.2.1 r.2.2 else .inl r
  | .inr r => .inr r
def em_ce (τ : jx_St) (w : Nat) (a b : Int32) : jx_St := jx_su (jx_su (jx_su τ 34 11 (nI (w + 1))) 43 (w + 1) a) 44 (w + 1) b
theorem em_cer {τ : jx_St} {u w : Nat} {a b : Int32} {v : ez_V} {m p : Nat} (h : em_r τ u w v m p) : em_r (em_ce τ w a b) u (w + 1) v m p :=
  em_mono (Nat.le_refl _) (Nat.le_succ _) (fun i hi => ⟨rfl, rfl, rfl, rfl, rfl⟩) (fun i hi => ⟨pk_un (by omega), pk_un (by omega)⟩) v m p h
section EM4
variable {l : Launch} {D : va_G} {cA : ClassId} {ρ : Nat → Nat} {d : Nat} {Q : Option Value → jx_St → Prop} {σ τ : jx_St} {f g : Nat → Int32} {s0 E B : Nat}
theorem em_Bce {u w s : Nat} {K : List ez_F} {a b : Int32} (h : em_B σ τ B u w s K) : em_B σ (em_ce τ w a b) B u (w + 1) s K := by
  obtain ⟨h1, h2, h3, h4, h5, h6, h7, h8, h9, h10⟩ := h
  exact ⟨em_su (em_su (em_sf h1)), h2, h3, h4, h5, h6, h7, h8, rfl, em_frm (τ := τ) (τ' := em_ce τ w a b) (fun _ _ _ z => em_cer z) (fun _ _ => ⟨rfl, rfl, rfl⟩) h10⟩
theorem em_a1 {u w c : Nat} {e : ez_V} (hl : ez_len e = 1) (h : em_r τ u w e 2 c) : ∃ i : Nat, τ 41 c = nI i ∧ em_r τ u w (ez_look e 0) 0 i := by
  cases e with
  | append x t =>
    have hl : ez_len t + 1 = 1 := hl
    obtain ⟨h1, ⟨i, h2, h3⟩, h4⟩ := h
    rw [if_pos (by omega)] at h2
    exact ⟨i, h2, h3⟩
  | _ => exact absurd (show (0 : Nat) = 1 from hl) (by decide)
theorem em_a2 {u w c : Nat} {e : ez_V} (hl : ez_len e = 2) (h : em_r τ u w e 2 c) : ∃ i j : Nat, τ 41 c = nI i ∧ τ 42 c = nI j ∧ em_r τ u w (ez_look e 1) 0 i ∧ em_r τ u w (ez_look e 0) 0 j := by
  cases e with
  | append x t =>
    have hl : ez_len t + 1 = 2 := hl
    obtain ⟨h1, ⟨j, h2, h3⟩, h4⟩ := h
    rw [if_neg (by omega)] at h2
    obtain ⟨i, h5, h6⟩ := em_a1 (by omega) h4
    exact ⟨i, j, h5, h2, h6, h3⟩
  | _ => exact absurd (show (0 : Nat) = 2 from hl) (by decide)
theorem ez_l0 {e : ez_V} {n : Nat} (hl : ez_len e = n + 1) : ∃ x t, e = .append x t ∧ ez_len t = n := by
  cases e with
  | append x t => exact ⟨x, t, rfl, Nat.succ.inj hl⟩
  | _ => exact absurd (show (0 : Nat) = n + 1 from hl) (by omega)
theorem em_r34 {u w i : Nat} {z : Int32} {v : ez_V} {m p : Nat} (h : em_r τ u w v m p) : em_r (jx_su τ 34 i z) u w v m p := h
set_option maxHeartbeats 4000000 in
theorem em_103t {cw cx u w s n pc : Nat} {e X : ez_V} {Y : Int32} {K : List ez_F} (hB : em_B σ τ B u w s K) (h18 : τ 34 18 = -1) (p1 : u + w + K.length + 1 ≤ 26 + s) (p2 : w + K.length + 1 ≤ 3 + s) (hcw : cw < u) (e39 : τ 39 cw = nI (n / 3)) (c : n % 3 = 2) (hk10 : n / 3 ≤ 10) (hlen : ez_len e < ez_ar (n / 3)) (hx : em_r τ u w X 0 cx)
    (hC : em_r τ u w (ez_look (.append X e) (ez_len e)) 0 pc) (hD : 1 ≤ ez_len e → ∃ q : Nat, Y = nI q ∧ em_r τ u w (ez_look (.append X e) (ez_len e - 1)) 0 q) (hargs : ez_len e ≤ 1 → em_r (em_mk τ u 5 (nI (n / 3)) (nI (ez_len e + 1)) (nI pc) Y) (u + 1) w (.append X e) 2 u)
    (hQ : ∀ b τ', em_P σ τ' B b (ez_ap2 f g B (.tag n e) X K s) → Q (some (.int b)) τ') :
    jx_J l D cA ρ jx_XM (jx_A ρ jx_XM) jx_tb0 (d + 5) 103 Q 131 [(3, .int (nI (ez_len e))), (0, .ref 34), (1, .int (nI cw)), (2, .int (nI cx))] [.int (nI u), .ref 34] (em_mk τ u 5 (nI (n / 3)) (nI (ez_len e + 1)) (nI pc) Y) := by
  have h3 := ez_ar3 (n / 3)
  have hB99 := hB.2.2.1
  have hsB := hB.2.1
  have va : vp_in (nI cw) 260 := vp_in_nI (by omega) (by decide)
  have ecl : (nI cw).toNatClampNeg = cw := nI_clamp (by omega)
  have vu : vp_in (nI u) 260 := vp_in_nI (by omega) (by decide)
  have ecu : (nI u).toNatClampNeg = u := nI_clamp (by omega)
  have r1 : upd (τ 39) u (nI (n / 3)) (nI cw).toNatClampNeg = nI (n / 3) := by rw [ecl, pk_un (by omega)]; exact e39
  have r2 : upd (τ 41) u (nI pc) (nI u).toNatClampNeg = nI pc := by rw [ecu]; exact pk_us
  have r3 : upd (τ 42) u Y (nI u).toNatClampNeg = Y := by rw [ecu]; exact pk_us
  refine jx_go jk_103 (fun _ _ _ z => z) 60 [] ?_
  refine ⟨va, ?_⟩
  have h97 : ∀ K2 : Option Value → jx_St → Prop, K2 (some (.int (nI (ez_ar (n / 3))))) (jx_su (em_mk τ u 5 (nI (n / 3)) (nI (ez_len e + 1)) (nI pc) Y) 34 20 (nI u)) → jx_C l D cA ρ jx_XM (d + 4) 97 [.int (upd (τ 39) u (nI (n / 3)) (nI cw).toNatClampNeg)] (jx_su (em_mk τ u 5 (nI (n / 3)) (nI (ez_len e + 1)) (nI pc) Y) 34 20 (nI u)) K2 := by
    rw [r1]
    exact fun K2 hK => em_args hk10 hK
  refine h97 _ ?_
  unfold ez_ap2 at hQ
  by_cases hc : ez_len e + 1 < ez_ar (n / 3)
  · have hst : ez_ap (.tag n e) X K s = .inl ((1, 0, .tag n (.append X e), .nil), K, s) := by unfold ez_ap; simp only [c, hc]; rfl
    rw [hst] at hQ
    have hlt : nI (ez_len e) + 1 < nI (ez_ar (n / 3)) := by rw [nI_1]; exact nI_lt hc (by omega)
    refine ⟨fun _ => ⟨Or.inr rfl, hQ _ _ (em_Pl rfl (em_Bn hB h18 (by omega) (by omega) ?_))⟩, fun q => absurd hlt q⟩
    exact ⟨by omega, pk_us.trans (by rw [c]; rfl), pk_us, fun z => absurd c z, fun _ => ⟨pk_us, hargs (by omega)⟩⟩
  · have hst : ez_ap (.tag n e) X K s = .inl ((3, n / 3, .append X e, .nil), K, s) := by unfold ez_ap; simp only [c, hc]; rfl
    rw [hst] at hQ
    have hQ : ∀ b τ', em_P σ τ' B b (ez_st f g B (3, n / 3, .append X e, .nil) K s) → Q (some (.int b)) τ' := hQ
    have hlt : ¬ nI (ez_len e) + 1 < nI (ez_ar (n / 3)) := by rw [nI_1]; exact nI_nlt (by omega) (by omega)
    have har : ez_ar (n / 3) = ez_len e + 1 := by omega
    refine ⟨fun q => absurd q hlt, fun _ => ⟨va, vu, vu, ?_⟩⟩
    have hB2 : em_B σ (jx_su (em_mk τ u 5 (nI (n / 3)) (nI (ez_len e + 1)) (nI pc) Y) 34 20 (nI u)) B (u + 1) w s K := em_B20 (em_Bm hB)
    have h105 := fun K2 hK => em_105 (l := l) (D := D) (cA := cA) (ρ := ρ) (d := d) (Q := K2) (f := f) (g := g) (k := n / 3) (p := pc) (x := cx) (Y := Y) (a := .append X e) hk10 hB2 h18 (by omega) (by omega) (by rw [har, Nat.add_sub_cancel]; exact em_r34 (em_mkr hC)) (fun z => by
      obtain ⟨q, q1, q2⟩ := hD (by omega)
      exact ⟨q, q1, by rw [har, show ez_len e + 1 - 2 = ez_len e - 1 by omega]; exact em_r34 (em_mkr q2)⟩) (em_r34 (em_mkr hx)) hK
    have h105' : ∀ K2 : Option Value → jx_St → Prop, (∀ b τ', em_P σ τ' B b (ez_st f g B (3, n / 3, .append X e, .nil) K s) → K2 (some (.int b)) τ') → jx_C l D cA ρ jx_XM (d + 4) 105 [.ref 34, .int (upd (τ 39) u (nI (n / 3)) (nI cw).toNatClampNeg), .int (upd (τ 41) u (nI pc) (nI u).toNatClampNeg), .int (upd (τ 42) u Y (nI u).toNatClampNeg), .int (nI cx)] (jx_su (em_mk τ u 5 (nI (n / 3)) (nI (ez_len e + 1)) (nI pc) Y) 34 20 (nI u)) K2 := by
      rw [r1, r2, r3]
      exact h105
    refine h105' _ (fun b τ' hP => ?_)
    have h9 := hQ b τ' hP
    rcases em_Pb hP with rfl | rfl
    · exact ⟨fun _ => ⟨Or.inl rfl, h9⟩, fun z => absurd rfl z⟩
    · exact ⟨fun z => absurd z (by decide), fun _ => ⟨Or.inr rfl, h9⟩⟩
set_option maxHeartbeats 4000000 in
theorem em_103 {cw cx u w s : Nat} {W X : ez_V} {K : List ez_F} (hB : em_B σ τ B u w s K) (h18 : τ 34 18 = -1) (p1 : u + w + K.length + 1 ≤ 26 + s) (p2 : w + K.length + 1 ≤ 3 + s) (hw : em_r τ u w W 0 cw) (hx : em_r τ u w X 0 cx) (hwf : ez_w f g s0 E W) (hQ : ∀ b τ', em_P σ τ' B b (ez_ap2 f g B W X K s) → Q (some (.int b)) τ') : jx_C l D cA ρ jx_XM (d + 5) 103 [.ref 34, .int (nI cw), .int (nI cx)] τ Q := by
  have hB' := hB
  obtain ⟨hsame, hsB, hB99, eB, es, er, eK, eu, ew, hfr⟩ := hB'
  have hlt := em_lt hw
  have va : vp_in (nI cw) 260 := vp_in_nI (by omega) (by decide)
  have ecl : (nI cw).toNatClampNeg = cw := nI_clamp (by omega)
  unfold ez_ap2 at hQ
  rcases em_kd hw with ⟨n, e, rfl, hk⟩ | ⟨hn, kd, hk1, hk⟩
  · obtain ⟨q1, q2, q3, q4, q5⟩ := hw
    have r1 : τ 39 (nI cw).toNatClampNeg = nI (n / 3) := by rw [ecl]; exact q3
    have hk' : τ 38 (nI cw).toNatClampNeg = nI (3 + n % 3) := by rw [ecl]; exact hk
    rcases (by omega : n % 3 = 0 ∨ n % 3 = 1 ∨ n % 3 = 2) with c | c | c
    · rw [c] at hk'
      obtain ⟨j, j1, j2⟩ := q4 (by omega)
      have j2 : em_r τ u w e 1 j := j2
      have r2 : τ 40 (nI cw).toNatClampNeg = nI j := by rw [ecl]; exact j1
      have hst : ez_ap (.tag n e) X K s = .inl ((0, n / 3, .append X e, .nil), K, s) := if_pos c
      rw [hst] at hQ
      have e11 : τ 34 11 + 1 = nI (w + 1) := by rw [ew, nI_1]
      have v11 : vp_in (τ 34 11 + 1) 120 := by rw [e11]; exact vp_in_nI (by omega) (by decide)
      have c11 : (τ 34 11 + 1).toNatClampNeg = w + 1 := by rw [e11]; exact nI_clamp (by omega)
      have h9 : Q (some (.int 1)) (jx_su (jx_su (jx_su (jx_su (jx_su τ 34 11 (τ 34 11 + 1)) 43 (τ 34 11 + 1).toNatClampNeg (nI cx)) 44 (τ 34 11 + 1).toNatClampNeg (τ 40 (nI cw).toNatClampNeg)) 34 19 (τ 34 11 + 1)) 34 18 (τ 39 (nI cw).toNatClampNeg)) := by
        rw [c11, e11, r1, r2]
        refine hQ _ _ (em_Pl rfl ⟨u, w + 1, em_B18 (em_B19 (em_Bce hB)), by omega, by omega, Nat.zero_le _, fun _ => ⟨rfl, w + 1, rfl, ?_⟩, fun z => absurd (show (0 : Nat) = 1 from z) (by decide)⟩)
        exact ⟨Nat.le_refl _, cx, j, pk_us, pk_us, em_cer hx, em_cer j2⟩
      exact ji_103 ⟨va, ⟨fun q => absurd hk' q, fun _ => ⟨v11, va, v11, va, Or.inr rfl, h9⟩⟩⟩
    · rw [c] at hk'
      have hst : ez_ap (.tag n e) X K s = .inr (2, s, .nil) := by unfold ez_ap; simp only [c]; rfl
      rw [hst] at hQ
      exact ji_103 ⟨va, ⟨fun _ => ⟨va, ⟨fun q => absurd (hk'.symm.trans q) (by decide), fun _ => em_fail ⟨Or.inl rfl, hQ _ _ ⟨rfl, em_Bx hB⟩⟩⟩⟩, fun q => absurd (hk'.symm.trans q) (by decide)⟩⟩
    · rw [c] at hk'
      obtain ⟨-, -, -, w4⟩ := hwf
      obtain ⟨w5, w6⟩ := w4 c
      have h3 := ez_ar3 (n / 3)
      obtain ⟨q6, q7⟩ := q5 c
      have q7 : em_r τ u w e 2 cw := q7
      have r2 : τ 40 (nI cw).toNatClampNeg = nI (ez_len e) := by rw [ecl]; exact q6
      refine jx_in jk_103 100 [131] rfl (Nat.le_of_ble_eq_true rfl) ?_
      refine ⟨va, ⟨fun _ => ⟨va, ⟨fun _ => ⟨va, va, ?_⟩, fun q => absurd hk' q⟩⟩, fun q => absurd (hk'.symm.trans q) (by decide)⟩⟩
      have tail := fun pc Y hC hD hargs => em_103t (l := l) (D := D) (cA := cA) (ρ := ρ) (d := d) (Q := Q) (cw := cw) (cx := cx) (n := n) (pc := pc) (Y := Y) hB h18 p1 p2 q1 q3 c w5 w6 hx hC hD hargs hQ
      have mk : ∀ pc Y, jx_J l D cA ρ jx_XM (jx_A ρ jx_XM) jx_tb0 (d + 5) 103 Q 131 [(3, .int (nI (ez_len e))), (0, .ref 34), (1, .int (nI cw)), (2, .int (nI cx))] [.int (nI u), .ref 34] (em_mk τ u 5 (nI (n / 3)) (nI (ez_len e + 1)) pc Y) → jx_C l D cA ρ jx_XM (d + 4) 94 [.ref 34, .int 5, .int (τ 39 (nI cw).toNatClampNeg), .int (τ 40 (nI cw).toNatClampNeg + 1), .int pc, .int Y] τ (fun r τ' => jx_J l D cA ρ jx_XM (jx_A ρ jx_XM) jx_tb0 (d + 5) 103 Q 131 [(3, .int (τ 40 (nI cw).toNatClampNeg)), (0, .ref 34), (1, .int (nI cw)), (2, .int (nI cx))] (r.toList ++ [.ref 34]) τ') := by
        intro pc Y h
        rw [r1, r2, nI_1]
        exact em_make eu (by omega) h
      rcases (by omega : ez_len e = 0 ∨ ez_len e = 1 ∨ ez_len e = 2) with h0 | h0 | h0
      · have z0 : τ 40 (nI cw).toNatClampNeg = 0 := by rw [r2, h0]; rfl
        refine ⟨fun z => absurd z0 z, fun _ => ⟨fun _ => ⟨va, ?_⟩, fun z => absurd (z0.symm.trans z) (by decide)⟩⟩
        refine mk _ _ (tail cx _ (by rw [h0]; exact hx) (fun z => absurd z (by omega)) (fun _ => ⟨by omega, ⟨cx, by rw [if_pos h0]; exact pk_us, em_mkr hx⟩, ?_⟩))
        cases e with
        | append y t => exact absurd (show ez_len t + 1 = 0 from h0) (by omega)
        | nil => trivial
        | _ => exact q7.elim
      · have z0 : τ 40 (nI cw).toNatClampNeg = 1 := by rw [r2, h0]; rfl
        obtain ⟨i, i1, i2⟩ := em_a1 h0 q7
        have i1' : τ 41 (nI cw).toNatClampNeg = nI i := by rw [ecl]; exact i1
        refine ⟨fun _ => ⟨va, ⟨fun z => absurd z0 z, fun _ => ?_⟩⟩, fun z => absurd (z0.symm.trans z) (by decide)⟩
        rw [i1']
        refine mk _ _ (tail i _ (by rw [h0]; exact i2) (fun _ => ⟨cx, rfl, by rw [h0]; exact hx⟩) (fun _ => ⟨by omega, ⟨cx, by rw [if_neg (by omega)]; exact pk_us, em_mkr hx⟩, ?_⟩))
        obtain ⟨y, t, rfl, ht⟩ := ez_l0 h0
        refine ⟨by omega, ⟨i, by rw [if_pos ht]; exact pk_us, em_mkr i2⟩, ?_⟩
        cases t with
        | append y t => exact absurd (show ez_len t + 1 = 0 from ht) (by omega)
        | nil => trivial
        | _ => exact q7.2.2.elim
      · have z0 : τ 40 (nI cw).toNatClampNeg = 2 := by rw [r2, h0]; rfl
        obtain ⟨i, j, i1, j1, i2, j2⟩ := em_a2 h0 q7
        have i1' : τ 41 (nI cw).toNatClampNeg = nI i := by rw [ecl]; exact i1
        have j1' : τ 42 (nI cw).toNatClampNeg = nI j := by rw [ecl]; exact j1
        refine ⟨fun _ => ⟨va, ⟨fun _ => ⟨va, ?_⟩, fun z => absurd (z0.symm.trans z) (by decide)⟩⟩, fun z => absurd (z0.symm.trans z) (by decide)⟩
        rw [i1', j1']
        exact mk _ _ (tail i _ (by rw [h0]; exact i2) (fun _ => ⟨j, rfl, by rw [h0]; exact j2⟩) (fun z => absurd z (by omega)))
  · have hk3 : ¬ τ 38 (nI cw).toNatClampNeg = 3 := by
      rw [ecl, hk]
      exact fun q => absurd ((nI_eq (b := 3) (by omega) (by decide)).mp q) (by omega)
    have hk5 : ¬ τ 38 (nI cw).toNatClampNeg = 5 := by
      rw [ecl, hk]
      exact fun q => absurd ((nI_eq (b := 5) (by omega) (by decide)).mp q) (by omega)
    rw [ez_apn hn] at hQ
    exact ji_103 ⟨va, ⟨fun _ => ⟨va, ⟨fun q => absurd q hk5, fun _ => em_fail ⟨Or.inl rfl, hQ _ _ ⟨rfl, em_Bx hB⟩⟩⟩⟩, fun q => absurd q hk3⟩⟩
end EM4

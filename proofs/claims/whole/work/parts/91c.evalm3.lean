/-! builtins of the model -/
section EM3
variable {l : Launch} {D : va_G} {cA : ClassId} {ρ : Nat → Nat} {d : Nat} {Q : Option Value → jx_St → Prop} {σ τ : jx_St} {f g : Nat → Int32} {s0 E B : Nat}
theorem em_lt {u w c : Nat} {v : ez_V} (h : em_r τ u w v 0 c) : c < u := by
  unfold em_r at h
  cases v <;> first | exact h.1 | exact h.elim
theorem em_kd {u w c : Nat} {v : ez_V} (h : em_r τ u w v 0 c) : (∃ n e, v = .tag n e ∧ τ 38 c = nI (3 + n % 3)) ∨ ((∀ n e, v ≠ .tag n e) ∧ ∃ k : Nat, k < 3 ∧ τ 38 c = nI k) := by
  unfold em_r at h
  cases v with
  | nil => exact Or.inr ⟨fun _ _ z => (by cases z), 2, by decide, h.2.1⟩
  | append x y => exact Or.inr ⟨fun _ _ z => (by cases z), 2, by decide, h.2.1⟩
  | nest i x => exact Or.inr ⟨fun _ _ z => (by cases z), 0, by decide, h.2.1⟩
  | align x => exact Or.inr ⟨fun _ _ z => (by cases z), 1, by decide, h.2.1⟩
  | tag n e => exact Or.inl ⟨n, e, rfl, h.2.1⟩
  | line => exact h.elim
  | text x => exact h.elim
  | group x y => exact h.elim
theorem em_isi {u w c : Nat} {x : ez_V} (h : em_r τ u w x 0 c) : (∃ i z, x = .nest i z ∧ τ 38 c = 0 ∧ τ 39 c = Int32.ofInt i) ∨ ((∀ i z, x ≠ .nest i z) ∧ ez_isi x = false ∧ ¬ τ 38 c = 0) := by
  unfold em_r at h
  cases x with
  | nil => exact Or.inr ⟨fun _ _ z => (by cases z), rfl, by rw [h.2.1]; decide⟩
  | append x y => exact Or.inr ⟨fun _ _ z => (by cases z), rfl, by rw [h.2.1]; decide⟩
  | nest i x => exact Or.inl ⟨i, x, rfl, h.2.1, h.2.2⟩
  | align x => exact Or.inr ⟨fun _ _ z => (by cases z), rfl, by rw [h.2.1]; decide⟩
  | tag n e => exact Or.inr ⟨fun _ _ z => (by cases z), rfl, by rw [h.2.1]; exact nI_ne0 (n := 3 + n % 3) (by omega) (by omega)⟩
  | line => exact h.elim
  | text x => exact h.elim
  | group x y => exact h.elim
theorem em_isb {u w c : Nat} {x : ez_V} (h : em_r τ u w x 0 c) : (∃ b, x = .align b ∧ τ 38 c = 1 ∧ τ 39 c = if b then 1 else 0) ∨ ((∀ b, x ≠ .align b) ∧ ¬ τ 38 c = 1) := by
  unfold em_r at h
  cases x with
  | nil => exact Or.inr ⟨fun _ z => (by cases z), by rw [h.2.1]; decide⟩
  | append x y => exact Or.inr ⟨fun _ z => (by cases z), by rw [h.2.1]; decide⟩
  | nest i x => exact Or.inr ⟨fun _ z => (by cases z), by rw [h.2.1]; decide⟩
  | align x => exact Or.inl ⟨x, rfl, h.2.1, h.2.2⟩
  | tag n e => exact Or.inr ⟨fun _ z => (by cases z), by rw [h.2.1]; exact fun q => absurd ((nI_eq (b := 1) (by omega) (by decide)).mp q) (by omega)⟩
  | line => exact h.elim
  | text x => exact h.elim
  | group x y => exact h.elim
theorem em_isl {u w c : Nat} {x : ez_V} (h : em_r τ u w x 0 c) : (ez_isl x = true ∧ τ 38 c = 2 ∧ τ 41 c = nI (ez_len x) ∧ ez_len x ≤ u) ∨ (ez_isl x = false ∧ ¬ τ 38 c = 2) := by
  unfold em_r at h
  cases x with
  | nil => exact Or.inl ⟨rfl, h.2.1, h.2.2, Nat.zero_le _⟩
  | append x y => exact Or.inl ⟨rfl, h.2.1, h.2.2.1, h.2.2.2.1⟩
  | nest i x => exact Or.inr ⟨rfl, by rw [h.2.1]; decide⟩
  | align x => exact Or.inr ⟨rfl, by rw [h.2.1]; decide⟩
  | tag n e => exact Or.inr ⟨rfl, by rw [h.2.1]; exact fun q => absurd ((nI_eq (b := 2) (by omega) (by decide)).mp q) (by omega)⟩
  | line => exact h.elim
  | text x => exact h.elim
  | group x y => exact h.elim
theorem em_Pb {b : Int32} {O : ez_O} (h : em_P σ τ B b O) : b = 0 ∨ b = 1 := by
  cases O with
  | inl r => exact Or.inr h.1
  | inr r => exact Or.inl h.1
/-- what holds when a builtin is done -/
def em_D (σ τ : jx_St) (B u w s : Nat) (K : List ez_F) : Prop := em_B σ τ B u w s K ∧ τ 34 18 = -1 ∧ u + 1 + w + K.length ≤ 26 + s ∧ w + K.length ≤ 3 + s
theorem em_ni {u w s : Nat} {K : List ez_F} {z : Int32} (h : em_D σ τ B u w s K) (hQ : ∀ b τ', em_P σ τ' B b (.inl ((1, 0, ez_i z, .nil), K, s)) → Q (some (.int b)) τ') : Q (some (.int 1)) (jx_su (em_mk τ u 0 z 0 0 0) 34 20 (nI u)) := by
  refine hQ _ _ (em_Pl rfl (em_Bn h.1 h.2.1 h.2.2.1 h.2.2.2 ⟨by omega, pk_us, pk_us.trans ?_⟩))
  rw [Int32.ofInt_toInt]
theorem em_nt {u w s : Nat} {K : List ez_F} {b : Bool} {z : Int32} (hz : z = if b then 1 else 0) (h : em_D σ τ B u w s K) (hQ : ∀ b' τ', em_P σ τ' B b' (.inl ((1, 0, .align b, .nil), K, s)) → Q (some (.int b')) τ') : Q (some (.int 1)) (jx_su (em_mk τ u 1 z 0 0 0) 34 20 (nI u)) :=
  hQ _ _ (em_Pl rfl (em_Bn h.1 h.2.1 h.2.2.1 h.2.2.2 ⟨by omega, pk_us, pk_us.trans hz⟩))
theorem em_fl {u w s : Nat} {K : List ez_F} (h : em_D σ τ B u w s K) (hQ : ∀ b τ', em_P σ τ' B b (.inr (2, s, .nil)) → Q (some (.int b)) τ') : Q (some (.int 0)) (jx_su τ 34 23 2) := hQ _ _ ⟨rfl, em_Bx h.1⟩
set_option maxHeartbeats 4000000 in
theorem em_106 {k s u w : Nat} {X Y : Int32} {a : ez_V} {K : List ez_F} (hk : k ≤ 5) (hD : em_D σ τ B u w s K) (hr : ez_bt k a = ez_rk k X Y) (hQ : ∀ b τ', em_P σ τ' B b (ez_bu k a K s) → Q (some (.int b)) τ') : jx_C l D cA ρ jx_XM (d + 3) 106 [.ref 34, .int (nI k), .int X, .int Y] τ Q := by
  have eu : τ 34 5 = nI u := hD.1.2.2.2.2.2.2.2.1
  have hu : u < 260 := by
    obtain ⟨⟨-, h1, h2, -⟩, -, h3, -⟩ := hD
    omega
  unfold ez_bu at hQ
  rw [hr] at hQ
  rcases (by omega : k = 0 ∨ k = 1 ∨ k = 2 ∨ k = 3 ∨ k = 4 ∨ k = 5) with rfl | rfl | rfl | rfl | rfl | rfl
  · refine ji_106 ⟨fun _ => ⟨fun q => absurd q (by decide), fun _ => ⟨fun _ => ⟨fun q => absurd rfl q, fun _ => ?_⟩, fun q => absurd q (by decide)⟩⟩, fun q => absurd q (by decide)⟩
    exact em_whole eu hu ⟨Or.inr rfl, em_ni hD hQ⟩
  · refine ji_106 ⟨fun _ => ⟨fun q => absurd q (by decide), fun _ => ⟨fun _ => ⟨fun _ => ⟨fun q => absurd rfl q, fun _ => ?_⟩, fun q => absurd q (by decide)⟩, fun q => absurd q (by decide)⟩⟩, fun q => absurd q (by decide)⟩
    exact em_whole eu hu ⟨Or.inr rfl, em_ni hD hQ⟩
  · refine ji_106 ⟨fun _ => ⟨fun q => absurd q (by decide), fun _ => ⟨fun _ => ⟨fun _ => ⟨fun _ => ⟨fun q => absurd rfl q, fun _ => ?_⟩, fun q => absurd q (by decide)⟩, fun q => absurd q (by decide)⟩, fun q => absurd q (by decide)⟩⟩, fun q => absurd q (by decide)⟩
    exact em_whole eu hu ⟨Or.inr rfl, em_ni hD hQ⟩
  · by_cases hY : Y = 0
    · have hr3 : ez_rk 3 X Y = none := if_pos ⟨rfl, hY⟩
      rw [hr3] at hQ
      exact ji_106 ⟨fun q => absurd rfl q, fun _ => ⟨fun q => absurd hY q, fun _ => em_fail ⟨Or.inl rfl, em_fl hD hQ⟩⟩⟩
    · have hr3 : ez_rk 3 X Y = some (ez_i (X / Y)) := by unfold ez_rk; rw [if_neg (fun z => hY z.2)]; rfl
      rw [hr3] at hQ
      refine ji_106 ⟨fun q => absurd rfl q, fun _ => ⟨fun _ => ⟨fun q => absurd q (by decide), fun _ => ⟨fun _ => ⟨fun _ => ⟨fun _ => ⟨fun _ => ⟨hY, ?_⟩, fun q => absurd q (by decide)⟩, fun q => absurd q (by decide)⟩, fun q => absurd q (by decide)⟩, fun q => absurd q (by decide)⟩⟩, fun q => absurd q hY⟩⟩
      exact em_whole eu hu ⟨Or.inr rfl, em_ni hD hQ⟩
  · have hr4 : ez_rk 4 X Y = some (.align (decide (X = Y))) := rfl
    rw [hr4] at hQ
    by_cases hc : X = Y
    · exact ji_106 ⟨fun _ => ⟨fun _ => ⟨fun q => absurd rfl q, fun _ => ⟨fun q => absurd hc q, fun _ => em_make eu hu ⟨Or.inr rfl, em_nt (by rw [if_pos (decide_eq_true hc)]) hD hQ⟩⟩⟩, fun q => absurd rfl q⟩, fun q => absurd q (by decide)⟩
    · exact ji_106 ⟨fun _ => ⟨fun _ => ⟨fun q => absurd rfl q, fun _ => ⟨fun _ => em_make eu hu ⟨Or.inr rfl, em_nt (by rw [if_neg (fun z => hc (of_decide_eq_true z))]) hD hQ⟩, fun q => absurd q hc⟩⟩, fun q => absurd rfl q⟩, fun q => absurd q (by decide)⟩
  · have hr4 : ez_rk 5 X Y = some (.align (decide (X < Y))) := rfl
    rw [hr4] at hQ
    by_cases hc : X < Y
    · exact ji_106 ⟨fun _ => ⟨fun q => absurd q (by decide), fun _ => ⟨fun q => absurd rfl q, fun _ => ⟨fun _ => ⟨fun q => absurd hc (Int32.not_lt.mpr q), fun _ => em_make eu hu ⟨Or.inr rfl, em_nt (by rw [if_pos (decide_eq_true hc)]) hD hQ⟩⟩, fun q => absurd q (by decide)⟩⟩⟩, fun q => absurd q (by decide)⟩
    · exact ji_106 ⟨fun _ => ⟨fun q => absurd q (by decide), fun _ => ⟨fun q => absurd rfl q, fun _ => ⟨fun _ => ⟨fun _ => em_make eu hu ⟨Or.inr rfl, em_nt (by rw [if_neg (fun z => hc (of_decide_eq_true z))]) hD hQ⟩, fun q => absurd (Int32.not_lt.mp hc) q⟩, fun q => absurd q (by decide)⟩⟩⟩, fun q => absurd q (by decide)⟩
theorem em_104 {u w c : Nat} {x : ez_V} (hu : u ≤ 260) (h : em_r τ u w x 0 c) (hQ : Q (some (.int (if ez_isi x then 1 else 0))) τ) : jx_C l D cA ρ jx_XM (d + 1) 104 [.ref 34, .int (nI c)] τ Q := by
  have hl := em_lt h
  have v : vp_in (nI c) 260 := vp_in_nI (by omega) (by decide)
  have e : (nI c).toNatClampNeg = c := nI_clamp (by omega)
  rcases em_isi h with ⟨i, z, rfl, h1, -⟩ | ⟨-, h2, h1⟩
  · have h1' : τ 38 (nI c).toNatClampNeg = 0 := by rw [e]; exact h1
    exact ji_104 ⟨v, fun q => absurd h1' q, fun _ => ⟨Or.inr rfl, hQ⟩⟩
  · have h1' : ¬ τ 38 (nI c).toNatClampNeg = 0 := by rw [e]; exact h1
    rw [h2] at hQ
    exact ji_104 ⟨v, fun _ => ⟨Or.inl rfl, hQ⟩, fun q => absurd q h1'⟩
set_option maxHeartbeats 4000000 in
theorem em_105 {k s u w p x : Nat} {Y : Int32} {a : ez_V} {K : List ez_F} (hk : k ≤ 10) (hB : em_B σ τ B u w s K) (h18 : τ 34 18 = -1) (p1 : u + w + K.length ≤ 26 + s) (p2 : w + K.length ≤ 3 + s) (hp : em_r τ u w (ez_look a (ez_ar k - 1)) 0 p) (hq : 2 ≤ ez_ar k → ∃ q : Nat, Y = nI q ∧ em_r τ u w (ez_look a (ez_ar k - 2)) 0 q) (hx : em_r τ u w (ez_look a 0) 0 x)
    (hQ : ∀ b τ', em_P σ τ' B b (ez_st f g B (3, k, a, .nil) K s) → Q (some (.int b)) τ') : jx_C l D cA ρ jx_XM (d + 4) 105 [.ref 34, .int (nI k), .int (nI p), .int Y, .int (nI x)] τ Q := by
  have hB' := hB
  obtain ⟨hsame, hsB, hB99, eB, es, er, eK, eu, ew, hfr⟩ := hB'
  have hco := ez_co3 k
  rw [ez_st3] at hQ
  have hlp := em_lt hp
  have hlx := em_lt hx
  have har := ez_ar3 k
  have vp : vp_in (nI p) 260 := vp_in_nI (by omega) (by decide)
  have cp : (nI p).toNatClampNeg = p := nI_clamp (by omega)
  have h0 : B < s + ez_co k → jx_J l D cA ρ jx_XM (jx_A ρ jx_XM) jx_tb0 (d + 4) 105 Q 19 [(0, .ref 34), (1, .int (nI k)), (2, .int (nI p)), (3, .int Y), (4, .int (nI x))] [.int 0] (jx_su (jx_su τ 34 21 (nI B)) 34 23 3) := fun h => by
    rw [if_pos h] at hQ
    refine jx_go jk_105 (fun _ _ _ z => z) 60 [] ?_
    exact ⟨fun q => absurd rfl q, fun _ => ⟨Or.inl rfl, hQ _ _ ⟨rfl, em_Bx3 hB⟩⟩⟩
  have h1 : ¬ B < s + ez_co k → jx_J l D cA ρ jx_XM (jx_A ρ jx_XM) jx_tb0 (d + 4) 105 Q 19 [(0, .ref 34), (1, .int (nI k)), (2, .int (nI p)), (3, .int Y), (4, .int (nI x))] [.int 1] (jx_su τ 34 21 (nI (s + ez_co k))) := fun h => by
    rw [if_neg h] at hQ
    have hD : em_D σ (jx_su τ 34 21 (nI (s + ez_co k))) B u w (s + ez_co k) K := ⟨em_B21 hB (by omega), h18, by omega, by omega⟩
    have hp1 : em_r (jx_su τ 34 21 (nI (s + ez_co k))) u w (ez_look a (ez_ar k - 1)) 0 p := hp
    refine jx_go jk_105 (fun _ _ _ z => z) 100 [] ?_
    refine ⟨fun _ => ?_, fun q => absurd q (by decide)⟩
    by_cases k5 : k ≤ 5
    · have n5 : ¬ (5 : Int32) < nI k := nI_nlt (b := k) (a := 5) k5 (by decide)
      have ar2 : ez_ar k = 2 := by unfold ez_ar; rw [if_neg (by omega), if_neg (by omega)]
      rw [ar2] at hp1 hq
      have hq2 := hq (by decide)
      clear hq
      obtain ⟨q, rfl, hq⟩ := hq2
      have hq1 : em_r (jx_su τ 34 21 (nI (s + ez_co k))) u w (ez_look a 0) 0 q := hq
      have hlq := em_lt hq
      have vq : vp_in (nI q) 260 := vp_in_nI (by omega) (by decide)
      have cq : (nI q).toNatClampNeg = q := nI_clamp (by omega)
      refine ⟨fun z => absurd z n5, fun _ => ?_⟩
      refine em_104 (by omega) hp1 ?_
      rcases em_isi hp1 with ⟨i, z1, ex, kx, fx⟩ | ⟨nx, ix, kx⟩
      · rw [show ez_isi (ez_look a (2 - 1)) = true by rw [ex]; rfl]
        refine ⟨fun z => absurd z (by decide), fun _ => ?_⟩
        refine em_104 (by omega) hq1 ?_
        rcases em_isi hq1 with ⟨j, z2, ey, ky, fy⟩ | ⟨ny, iy, ky⟩
        · rw [show ez_isi (ez_look a 0) = true by rw [ey]; rfl]
          refine ⟨fun z => absurd z (by decide), fun _ => ⟨vp, vq, ?_⟩⟩
          have fx' : τ 39 (nI p).toNatClampNeg = Int32.ofInt i := by rw [cp]; exact fx
          have fy' : τ 39 (nI q).toNatClampNeg = Int32.ofInt j := by rw [cq]; exact fy
          have hr := ez_b5 k5 (show ez_look a 1 = .nest i z1 from ex) ey
          rw [← fx', ← fy'] at hr
          refine em_106 k5 hD hr (fun b τ' hP => ⟨em_Pb hP, hQ b τ' hP⟩)
        · rw [iy]
          have hr := ez_b5n k5 (Or.inr ny)
          unfold ez_bu at hQ
          rw [hr] at hQ
          exact ⟨fun _ => em_fail ⟨Or.inl rfl, em_fl hD hQ⟩, fun z => absurd rfl z⟩
      · rw [ix]
        have hr := ez_b5n k5 (Or.inl nx)
        unfold ez_bu at hQ
        rw [hr] at hQ
        exact ⟨fun _ => em_fail ⟨Or.inl rfl, em_fl hD hQ⟩, fun z => absurd rfl z⟩
    · have n5 : (5 : Int32) < nI k := nI_lt (a := 5) (by omega) (by omega)
      refine ⟨fun _ => ?_, fun z => absurd n5 z⟩
      by_cases k6 : k = 6
      · subst k6
        have hq2 := hq (by decide)
        clear hq
        obtain ⟨q, rfl, hq⟩ := hq2
        have hq1 : em_r (jx_su τ 34 21 (nI (s + ez_co 6))) u w (ez_look a 1) 0 q := hq
        have hx1 : em_r (jx_su τ 34 21 (nI (s + ez_co 6))) u w (ez_look a 0) 0 x := hx
        have hp1 : em_r (jx_su τ 34 21 (nI (s + ez_co 6))) u w (ez_look a 2) 0 p := hp
        refine ⟨fun z => absurd rfl z, fun _ => ⟨vp, ?_⟩⟩
        unfold ez_bu at hQ
        rcases em_isb hp1 with ⟨b, ex, kx, fx⟩ | ⟨nx, kx⟩
        · have kx' : τ 38 (nI p).toNatClampNeg = 1 := by rw [cp]; exact kx
          have hr : ez_bt 6 a = some (if b then ez_look a 1 else ez_look a 0) := by
            unfold ez_bt
            rw [if_neg (by decide), if_pos rfl, ex]
          rw [hr] at hQ
          cases b with
          | true =>
            have fx' : τ 39 (nI p).toNatClampNeg = 1 := by rw [cp]; exact fx
            exact ⟨fun _ => ⟨vp, ⟨fun z => absurd fx' z, fun _ => ⟨Or.inr rfl, hQ _ _ (em_Pl rfl (em_Bv hD.1 h18 (by omega) (by omega) hq1))⟩⟩⟩, fun z => absurd kx' z⟩
          | false =>
            have fx' : τ 39 (nI p).toNatClampNeg = 0 := by rw [cp]; exact fx
            exact ⟨fun _ => ⟨vp, ⟨fun _ => ⟨Or.inr rfl, hQ _ _ (em_Pl rfl (em_Bv hD.1 h18 (by omega) (by omega) hx1))⟩, fun z => absurd (fx'.symm.trans z) (by decide)⟩⟩, fun z => absurd kx' z⟩
        · have kx' : ¬ τ 38 (nI p).toNatClampNeg = 1 := by rw [cp]; exact kx
          have hr : ez_bt 6 a = none := by
            unfold ez_bt
            rw [if_neg (by decide), if_pos rfl]
            split
            · rename_i e1
              exact absurd e1 (nx _)
            · rfl
          rw [hr] at hQ
          exact ⟨fun z => absurd z kx', fun _ => em_fail ⟨Or.inl rfl, em_fl hD hQ⟩⟩
      · have n6 : ¬ nI k = 6 := fun q => k6 ((nI_eq (b := 6) (by omega) (by decide)).mp q)
        refine ⟨fun _ => ?_, fun z => absurd z n6⟩
        by_cases k7 : k = 7
        · subst k7
          have hq2 := hq (by decide)
          clear hq
          obtain ⟨q, rfl, hq⟩ := hq2
          have hq1 : em_r (jx_su τ 34 21 (nI (s + ez_co 7))) u w (ez_look a 0) 0 q := hq
          have hp1 : em_r (jx_su τ 34 21 (nI (s + ez_co 7))) u w (ez_look a 1) 0 p := hp
          have hlq := em_lt hq
          have vq : vp_in (nI q) 260 := vp_in_nI (by omega) (by decide)
          have cq : (nI q).toNatClampNeg = q := nI_clamp (by omega)
          have hbt : ez_bt 7 a = if (ez_isi (ez_look a 1) || ez_isl (ez_look a 1)) && ez_isl (ez_look a 0) then some (.append (ez_look a 1) (ez_look a 0)) else none := rfl
          refine ⟨fun z => absurd rfl z, fun _ => ?_⟩
          unfold ez_bu at hQ
          refine em_104 (by omega) hp1 ?_
          have yes : ez_isl (ez_look a 0) = true → τ 41 q = nI (ez_len (ez_look a 0)) ∧ ez_len (ez_look a 0) ≤ u → (∀ b τ', em_P σ τ' B b (.inl ((1, 0, .append (ez_look a 1) (ez_look a 0), .nil), K, s + ez_co 7)) → Q (some (.int b)) τ') → Q (some (.int 1)) (jx_su (em_mk (jx_su τ 34 21 (nI (s + ez_co 7))) u 2 (nI p) (nI q) (1 + τ 41 q) 0) 34 20 (nI u)) := by
            intro i1 i2 hq'
            refine hq' _ _ (em_Pl rfl (em_Bn hD.1 h18 (by omega) (by omega) ?_))
            exact ⟨by omega, pk_us, pk_us.trans (by rw [i2.1]; exact (nI_add 1 _).trans (by rw [Nat.add_comm])), by omega, p, q, pk_us, pk_us, em_mkr hp1, em_mkr hq1⟩
          rcases em_isl hq1 with ⟨ly, ky, sy⟩ | ⟨ly, ky⟩
          · have ky' : τ 38 (nI q).toNatClampNeg = 2 := by rw [cq]; exact ky
            rcases em_isi hp1 with ⟨i, z1, ex, kx, fx⟩ | ⟨nx, ix, kx⟩
            · have hi : ez_isi (ez_look a 1) = true := by rw [ex]; rfl
              rw [hi]
              have hr : ez_bt 7 a = some (.append (ez_look a 1) (ez_look a 0)) := by rw [hbt, ly, hi]; rfl
              rw [hr] at hQ
              refine ⟨fun _ => ⟨vq, ⟨fun _ => ?_, fun z => absurd ky' z⟩⟩, fun z => absurd z (by decide)⟩
              exact em_cons eu (by omega) (by omega) ⟨Or.inr rfl, yes ly sy hQ⟩
            · rw [ix]
              refine ⟨fun z => absurd rfl z, fun _ => ⟨vp, ?_⟩⟩
              rcases em_isl hp1 with ⟨lx, kx2, sx⟩ | ⟨lx, kx2⟩
              · have kx2' : τ 38 (nI p).toNatClampNeg = 2 := by rw [cp]; exact kx2
                have hr : ez_bt 7 a = some (.append (ez_look a 1) (ez_look a 0)) := by rw [hbt, ly, ix, lx]; rfl
                rw [hr] at hQ
                refine ⟨fun z => absurd kx2' z, fun _ => ⟨vq, ⟨fun _ => ?_, fun z => absurd ky' z⟩⟩⟩
                exact em_cons eu (by omega) (by omega) ⟨Or.inr rfl, yes ly sy hQ⟩
              · have kx2' : ¬ τ 38 (nI p).toNatClampNeg = 2 := by rw [cp]; exact kx2
                have hr : ez_bt 7 a = none := by rw [hbt, ly, ix, lx]; rfl
                rw [hr] at hQ
                exact ⟨fun _ => em_fail ⟨Or.inl rfl, em_fl hD hQ⟩, fun z => absurd z kx2'⟩
          · have ky' : ¬ τ 38 (nI q).toNatClampNeg = 2 := by rw [cq]; exact ky
            have hr : ez_bt 7 a = none := by rw [hbt, ly, Bool.and_false]; rfl
            rw [hr] at hQ
            cases ez_isi (ez_look a 1) with
            | true => exact ⟨fun _ => ⟨vq, ⟨fun z => absurd z ky', fun _ => em_fail ⟨Or.inl rfl, em_fl hD hQ⟩⟩⟩, fun z => absurd z (by decide)⟩
            | false => exact ⟨fun z => absurd rfl z, fun _ => ⟨vp, ⟨fun _ => em_fail ⟨Or.inl rfl, em_fl hD hQ⟩, fun _ => ⟨vq, ⟨fun z => absurd z ky', fun _ => em_fail ⟨Or.inl rfl, em_fl hD hQ⟩⟩⟩⟩⟩⟩
        · have n7 : ¬ nI k = 7 := fun q => k7 ((nI_eq (b := 7) (by omega) (by decide)).mp q)
          refine ⟨fun _ => ⟨vp, ?_⟩, fun z => absurd z n7⟩
          have ar1 : ez_ar k = 1 := by unfold ez_ar; rw [if_neg (by omega), if_pos (by omega)]
          rw [ar1] at hp1
          have hp1 : em_r (jx_su τ 34 21 (nI (s + ez_co k))) u w (ez_look a 0) 0 p := hp1
          unfold ez_bu at hQ
          rcases em_isl hp1 with ⟨ly, ky, sy, -⟩ | ⟨ly, ky⟩
          · have ky' : τ 38 (nI p).toNatClampNeg = 2 := by rw [cp]; exact ky
            refine ⟨fun _ => ?_, fun z => absurd ky' z⟩
            cases hv : ez_look a 0 with
            | nil =>
              rw [ez_b8 (by omega) hv] at hQ
              rw [hv] at sy
              have sy' : τ 41 (nI p).toNatClampNeg = 0 := by rw [cp]; exact sy
              by_cases k10 : k = 10
              · subst k10
                exact ⟨fun z => absurd rfl z, fun _ => ⟨vp, ⟨fun z => absurd sy' z, fun _ => em_make eu (by omega) ⟨Or.inr rfl, em_nt (b := true) rfl hD hQ⟩⟩⟩⟩
              · have n10 : ¬ nI k = 10 := fun q => k10 ((nI_eq (b := 10) (by omega) (by decide)).mp q)
                rw [if_neg k10] at hQ
                exact ⟨fun _ => ⟨vp, ⟨fun z => absurd sy' z, fun _ => em_fail ⟨Or.inl rfl, em_fl hD hQ⟩⟩⟩, fun z => absurd z n10⟩
            | append y t =>
              rw [ez_b8c (by omega) hv] at hQ
              rw [hv] at hp1
              obtain ⟨y1, y2, y3, y8, c1, c2, y4, y5, y6, y7⟩ := hp1
              have sy' : ¬ τ 41 (nI p).toNatClampNeg = 0 := by rw [cp]; exact fun z => nI_ne0 (n := ez_len t + 1) (by omega) (by omega) (y3.symm.trans z)
              have fy : τ 39 (nI p).toNatClampNeg = nI c1 := by rw [cp]; exact y4
              have gy : τ 40 (nI p).toNatClampNeg = nI c2 := by rw [cp]; exact y5
              by_cases k10 : k = 10
              · subst k10
                exact ⟨fun z => absurd rfl z, fun _ => ⟨vp, ⟨fun _ => em_make eu (by omega) ⟨Or.inr rfl, em_nt (b := false) rfl hD hQ⟩, fun z => absurd z sy'⟩⟩⟩
              · have n10 : ¬ nI k = 10 := fun q => k10 ((nI_eq (b := 10) (by omega) (by decide)).mp q)
                rw [if_neg k10] at hQ
                refine ⟨fun _ => ⟨vp, ⟨fun _ => ?_, fun z => absurd z sy'⟩⟩, fun z => absurd z n10⟩
                by_cases k8 : k = 8
                · rw [if_pos k8] at hQ
                  have h12 := em_Bv (i := c1) (v := y) hD.1 h18 (by omega) (by omega) y6
                  rw [← fy] at h12
                  exact ⟨fun z => absurd (show nI k = 8 by rw [k8]; rfl) z, fun _ => ⟨vp, Or.inr rfl, hQ _ _ (em_Pl rfl h12)⟩⟩
                · rw [if_neg k8] at hQ
                  have n8 : ¬ nI k = 8 := fun q => k8 ((nI_eq (b := 8) (by omega) (by decide)).mp q)
                  have h12 := em_Bv (i := c2) (v := t) hD.1 h18 (by omega) (by omega) y7
                  rw [← gy] at h12
                  exact ⟨fun _ => ⟨vp, Or.inr rfl, hQ _ _ (em_Pl rfl h12)⟩, fun z => absurd z n8⟩
            | _ => rw [hv] at ly; cases ly
          · have ky' : ¬ τ 38 (nI p).toNatClampNeg = 2 := by rw [cp]; exact ky
            rw [ez_b8n (by omega) ly] at hQ
            exact ⟨fun z => absurd z ky', fun _ => em_fail ⟨Or.inl rfl, em_fl hD hQ⟩⟩
  refine jx_in jk_105 60 [19] rfl (Nat.le_of_ble_eq_true rfl) ?_
  by_cases k2 : k = 2
  · subst k2
    exact ⟨fun _ => em_pay (c := 3) es eB (by omega) hB99 (by decide) h0 h1, fun z => absurd rfl z⟩
  · have n2 : ¬ nI k = 2 := fun q => k2 ((nI_eq (b := 2) (by omega) (by decide)).mp q)
    refine ⟨fun z => absurd z n2, fun _ => ?_⟩
    by_cases k3 : k = 3
    · subst k3
      exact ⟨fun z => absurd rfl z, fun _ => em_pay (c := 3) es eB (by omega) hB99 (by decide) h0 h1⟩
    · have n3 : ¬ nI k = 3 := fun q => k3 ((nI_eq (b := 3) (by omega) (by decide)).mp q)
      have c1 : ez_co k = 1 := if_neg (fun z => z.elim k2 k3)
      rw [c1] at h0 h1
      exact ⟨fun _ => em_pay (c := 1) es eB (by omega) hB99 (by decide) h0 h1, fun z => absurd z n3⟩
end EM3

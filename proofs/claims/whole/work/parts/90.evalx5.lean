/-! a builtin of the program -/
section EC5
variable {l : Launch} {D : va_G} {cA : ClassId} {ρ : Nat → Nat} {d : Nat} {Q : Option Value → jx_St → Prop} {σ τ : jx_St} {f g : Nat → Int32} {s0 E B : Nat}
theorem ec_isi {u c : Nat} {x : ez_V} (h : ec_r τ u x false c) : (∃ i z, x = .nest i z ∧ τ 8 c = 0 ∧ τ 9 c = Int32.ofInt i) ∨ ((∀ i z, x ≠ .nest i z) ∧ ez_isi x = false ∧ ¬ τ 8 c = 0) := by
  unfold ec_r at h
  cases x with
  | nil => exact Or.inr ⟨fun _ _ z => (by cases z), rfl, by rw [h.2.1]; decide⟩
  | append x y => exact Or.inr ⟨fun _ _ z => (by cases z), rfl, by rw [h.2.1]; decide⟩
  | nest i x => exact Or.inl ⟨i, x, rfl, h.2.1, h.2.2⟩
  | align x => exact Or.inr ⟨fun _ _ z => (by cases z), rfl, by rw [h.2.1]; decide⟩
  | tag n e => exact Or.inr ⟨fun _ _ z => (by cases z), rfl, by rw [h.2.1]; exact nI_ne0 (n := 3 + n % 3) (by omega) (by omega)⟩
  | line => exact h.elim
  | text x => exact h.elim
  | group x y => exact h.elim
theorem ec_isb {u c : Nat} {x : ez_V} (h : ec_r τ u x false c) : (∃ b, x = .align b ∧ τ 8 c = 1 ∧ τ 9 c = if b then 1 else 0) ∨ ((∀ b, x ≠ .align b) ∧ ¬ τ 8 c = 1) := by
  unfold ec_r at h
  cases x with
  | nil => exact Or.inr ⟨fun _ z => (by cases z), by rw [h.2.1]; decide⟩
  | append x y => exact Or.inr ⟨fun _ z => (by cases z), by rw [h.2.1]; decide⟩
  | nest i x => exact Or.inr ⟨fun _ z => (by cases z), by rw [h.2.1]; decide⟩
  | align x => exact Or.inl ⟨x, rfl, h.2.1, h.2.2⟩
  | tag n e => exact Or.inr ⟨fun _ z => (by cases z), by rw [h.2.1]; exact fun q => absurd ((nI_eq (b := 1) (by omega) (by decide)).mp q) (by omega)⟩
  | line => exact h.elim
  | text x => exact h.elim
  | group x y => exact h.elim
theorem ec_isl {u c : Nat} {x : ez_V} (h : ec_r τ u x false c) : (ez_isl x = true ∧ τ 8 c = 2 ∧ τ 11 c = nI (ez_len x) ∧ ez_len x ≤ u) ∨ (ez_isl x = false ∧ ¬ τ 8 c = 2) := by
  unfold ec_r at h
  cases x with
  | nil => exact Or.inl ⟨rfl, h.2.1, h.2.2, Nat.zero_le _⟩
  | append x y => exact Or.inl ⟨rfl, h.2.1, h.2.2.1, h.2.2.2.1⟩
  | nest i x => exact Or.inr ⟨rfl, by rw [h.2.1]; decide⟩
  | align x => exact Or.inr ⟨rfl, by rw [h.2.1]; decide⟩
  | tag n e => exact Or.inr ⟨rfl, by rw [h.2.1]; exact fun q => absurd ((nI_eq (b := 2) (by omega) (by decide)).mp q) (by omega)⟩
  | line => exact h.elim
  | text x => exact h.elim
  | group x y => exact h.elim
theorem ez_b5 {k : Nat} {a x y : ez_V} {i j : Int} (h : k ≤ 5) (h1 : ez_look a 1 = .nest i x) (h2 : ez_look a 0 = .nest j y) : ez_bt k a = ez_rk k (Int32.ofInt i) (Int32.ofInt j) := by
  unfold ez_bt
  rw [if_pos h, h1, h2]
theorem ez_b5n {k : Nat} {a : ez_V} (h : k ≤ 5) (h1 : (∀ i x, ez_look a 1 ≠ .nest i x) ∨ (∀ i x, ez_look a 0 ≠ .nest i x)) : ez_bt k a = none := by
  unfold ez_bt
  rw [if_pos h]
  split
  · rename_i e1 e2
    rcases h1 with h1 | h1
    · exact absurd e1 (h1 _ _)
    · exact absurd e2 (h1 _ _)
  · rfl
/-- all that holds when a builtin has been paid -/
def ec_B (σ τ : jx_St) (B u s : Nat) (K : List ez_F) : Prop := ec_same σ τ ∧ s ≤ B ∧ τ 3 11 = nI B ∧ τ 3 12 = nI s ∧ τ 3 5 = nI K.length ∧ K.length ≤ 3 + s ∧ τ 7 4 = nI u ∧ u + 1 + 2 * K.length ≤ 30 + 3 * s ∧ B ≤ 99 ∧ ec_fr τ u K ∧ ec_r τ u .nil false 0
theorem ec_Bv {u s a : Nat} {K : List ez_F} {v : ez_V} (h : ec_B σ τ B u s K) (hv : ec_r τ u v false a) : ec_R σ (ec_fo τ (nI a)) B (1, 0, v, .nil) K s := by
  obtain ⟨h1, h2, h3, h4, h5, h6, h7, h8, h9, h10, h11⟩ := h
  exact ec_Rv h1 h2 h3 h4 h5 h6 h7 (by omega) hv h10 h11
theorem ec_Bn {u s : Nat} {K : List ez_F} {v : ez_V} {a1 a2 a3 a4 : Int32} (h : ec_B σ τ B u s K) (hv : ec_r (ec_mk τ u a1 a2 a3 a4) (u + 1) v false u) : ec_R σ (ec_fo (ec_mk τ u a1 a2 a3 a4) (nI u)) B (1, 0, v, .nil) K s := by
  obtain ⟨h1, h2, h3, h4, h5, h6, h7, h8, h9, h10, h11⟩ := h
  exact ec_Rv (ec_mks h1) h2 h3 h4 h5 h6 rfl (by omega) hv (ec_frmk h10) (ec_mkr h11)
theorem ec_fail {u s : Nat} {K : List ez_F} (h : ec_B σ τ B u s K) (hQ : ∀ τ', ec_P σ τ' B (.inr (2, s, .nil)) → Q none τ') : jx_C l D cA ρ jx_XM (d + 1) 53 [.ref 3, .int 2] τ Q := ec_stop (hQ _ (ec_Ex (oc := 2) (by decide) h.1 h.2.2.2.1))
/-- makes an integer or a truth and finds it -/
theorem ec_nb {u s : Nat} {K : List ez_F} {z : Int32} (h : ec_B σ τ B u s K) (hQ : ∀ τ', ec_P σ τ' B (.inl ((1, 0, ez_i z, .nil), K, s)) → Q none τ') : Q none (ec_fo (ec_mk τ u 0 z 0 0) (nI u)) := by
  refine hQ _ (ec_Pl (ec_Bn h ⟨by omega, pk_us, pk_us.trans ?_⟩))
  rw [Int32.ofInt_toInt]
theorem ec_nt {u s : Nat} {K : List ez_F} {b : Bool} {z : Int32} (hz : z = if b then 1 else 0) (h : ec_B σ τ B u s K) (hQ : ∀ τ', ec_P σ τ' B (.inl ((1, 0, .align b, .nil), K, s)) → Q none τ') : Q none (ec_fo (ec_mk τ u 1 z 0 0) (nI u)) :=
  hQ _ (ec_Pl (ec_Bn h ⟨by omega, pk_us, pk_us.trans hz⟩))
set_option maxHeartbeats 4000000 in
theorem ec_44 {k la lb s u : Nat} {a : ez_V} {K : List ez_F} (hk : k ≤ 5) (hb : ec_B σ τ B u s K) (hx : ec_r τ u (ez_look a 1) false la) (hy : ec_r τ u (ez_look a 0) false lb) (hQ : ∀ τ', ec_P σ τ' B (ez_bu k a K s) → Q none τ') : jx_C l D cA ρ jx_XM (d + 3) 44 [.ref 3, .int (nI k), .int (nI la), .int (nI lb)] τ Q := by
  have hlx := ec_lt hx
  have hly := ec_lt hy
  have hb' := hb
  obtain ⟨h1, h2, h3, h4, h5, h6, h7, h8, h9, h10, h11⟩ := hb'
  have vx : vp_in (nI la) 512 := vp_in_nI (by omega) (by decide)
  have vy : vp_in (nI lb) 512 := vp_in_nI (by omega) (by decide)
  have cx : (nI la).toNatClampNeg = la := nI_clamp (by omega)
  have cy : (nI lb).toNatClampNeg = lb := nI_clamp (by omega)
  unfold ez_bu at hQ
  rcases ec_isi hx with ⟨i, x', ex, kx, fx⟩ | ⟨nx, -, kx⟩
  · have kx' : τ 8 (nI la).toNatClampNeg = 0 := by rw [cx]; exact kx
    have fx' : τ 9 (nI la).toNatClampNeg = Int32.ofInt i := by rw [cx]; exact fx
    rcases ec_isi hy with ⟨j, y', ey, ky, fy⟩ | ⟨ny, -, ky⟩
    · have ky' : τ 8 (nI lb).toNatClampNeg = 0 := by rw [cy]; exact ky
      have fy' : τ 9 (nI lb).toNatClampNeg = Int32.ofInt j := by rw [cy]; exact fy
      rw [ez_b5 hk ex ey, ← fx', ← fy'] at hQ
      refine ji_44 ⟨vx, ⟨fun q => absurd kx' q, fun _ => ⟨vy, ⟨fun _ => ⟨vx, vy, ?_⟩, fun q => absurd ky' q⟩⟩⟩⟩
      generalize τ 9 (nI la).toNatClampNeg = X at hQ ⊢
      generalize τ 9 (nI lb).toNatClampNeg = Y at hQ ⊢
      rcases (by omega : k = 0 ∨ k = 1 ∨ k = 2 ∨ k = 3 ∨ k = 4 ∨ k = 5) with rfl | rfl | rfl | rfl | rfl | rfl
      · refine ⟨fun _ => ⟨fun _ => ⟨fun _ => ?_, fun q => absurd q (by decide)⟩, fun q => absurd q (by decide)⟩, fun q => absurd q (by decide)⟩
        refine ji_45 ⟨fun q => absurd q (by decide), fun _ => ⟨fun q => absurd q (by decide), fun _ => ⟨fun q => absurd q (by decide), fun _ => ?_⟩⟩⟩
        exact ec_plain h7 (by omega) (ec_found (ec_nb hb hQ))
      · refine ⟨fun _ => ⟨fun _ => ⟨fun _ => ?_, fun q => absurd q (by decide)⟩, fun q => absurd q (by decide)⟩, fun q => absurd q (by decide)⟩
        refine ji_45 ⟨fun _ => ?_, fun q => absurd rfl q⟩
        exact ec_plain h7 (by omega) (ec_found (ec_nb hb hQ))
      · refine ⟨fun _ => ⟨fun _ => ⟨fun _ => ?_, fun q => absurd q (by decide)⟩, fun q => absurd q (by decide)⟩, fun q => absurd q (by decide)⟩
        refine ji_45 ⟨fun q => absurd q (by decide), fun _ => ⟨fun _ => ?_, fun q => absurd rfl q⟩⟩
        exact ec_plain h7 (by omega) (ec_found (ec_nb hb hQ))
      · by_cases hY : Y = 0
        · have hr : ez_rk 3 X Y = none := if_pos ⟨rfl, hY⟩
          rw [hr] at hQ
          exact ⟨fun q => absurd rfl q, fun _ => ⟨fun q => absurd hY q, fun _ => ec_fail hb hQ⟩⟩
        · have hr : ez_rk 3 X Y = some (ez_i (X / Y)) := by unfold ez_rk; rw [if_neg (fun z => hY z.2)]; rfl
          rw [hr] at hQ
          refine ⟨fun q => absurd rfl q, fun _ => ⟨fun _ => ⟨fun _ => ⟨fun _ => ?_, fun q => absurd q (by decide)⟩, fun q => absurd q (by decide)⟩, fun q => absurd q hY⟩⟩
          refine ji_45 ⟨fun q => absurd q (by decide), fun _ => ⟨fun q => absurd q (by decide), fun _ => ⟨fun _ => ⟨fun _ => ?_, fun q => absurd q hY⟩, fun q => absurd rfl q⟩⟩⟩
          exact ⟨hY, ec_plain h7 (by omega) (ec_found (ec_nb hb hQ))⟩
      · refine ⟨fun _ => ⟨fun q => absurd rfl q, fun _ => ?_⟩, fun q => absurd q (by decide)⟩
        have hr : ez_rk 4 X Y = some (.align (decide (X = Y))) := rfl
        rw [hr] at hQ
        by_cases hc : X = Y
        · exact ⟨fun q => absurd hc q, fun _ => ec_plain h7 (by omega) (ec_found (ec_nt (by rw [if_pos (decide_eq_true hc)]) hb hQ))⟩
        · exact ⟨fun _ => ec_plain h7 (by omega) (ec_found (ec_nt (by rw [if_neg (fun z => hc (of_decide_eq_true z))]) hb hQ)), fun q => absurd q hc⟩
      · refine ⟨fun _ => ⟨fun _ => ⟨fun q => absurd rfl q, fun _ => ?_⟩, fun q => absurd q (by decide)⟩, fun q => absurd q (by decide)⟩
        have hr : ez_rk 5 X Y = some (.align (decide (X < Y))) := rfl
        rw [hr] at hQ
        by_cases hc : X < Y
        · exact ⟨fun q => absurd hc (Int32.not_lt.mpr q), fun _ => ec_plain h7 (by omega) (ec_found (ec_nt (by rw [if_pos (decide_eq_true hc)]) hb hQ))⟩
        · exact ⟨fun _ => ec_plain h7 (by omega) (ec_found (ec_nt (by rw [if_neg (fun z => hc (of_decide_eq_true z))]) hb hQ)), fun q => absurd (Int32.not_lt.mp hc) q⟩
    · have ky' : ¬ τ 8 (nI lb).toNatClampNeg = 0 := by rw [cy]; exact ky
      rw [ez_b5n hk (Or.inr ny)] at hQ
      exact ji_44 ⟨vx, ⟨fun q => absurd kx' q, fun _ => ⟨vy, ⟨fun q => absurd q ky', fun _ => ec_fail hb hQ⟩⟩⟩⟩
  · have kx' : ¬ τ 8 (nI la).toNatClampNeg = 0 := by rw [cx]; exact kx
    rw [ez_b5n hk (Or.inl nx)] at hQ
    exact ji_44 ⟨vx, ⟨fun _ => ec_fail hb hQ, fun q => absurd q kx'⟩⟩
set_option maxHeartbeats 4000000 in
theorem ec_46 {la lb lc s u : Nat} {a : ez_V} {K : List ez_F} (hb : ec_B σ τ B u s K) (hx : ec_r τ u (ez_look a 2) false la) (hy : ec_r τ u (ez_look a 1) false lb) (hz : ec_r τ u (ez_look a 0) false lc) (hQ : ∀ τ', ec_P σ τ' B (ez_bu 6 a K s) → Q none τ') : jx_C l D cA ρ jx_XM (d + 2) 46 [.ref 3, .int (nI la), .int (nI lb), .int (nI lc)] τ Q := by
  have hlx := ec_lt hx
  have hb' := hb
  obtain ⟨h1, h2, h3, h4, h5, h6, h7, h8, h9, h10, h11⟩ := hb'
  have vx : vp_in (nI la) 512 := vp_in_nI (by omega) (by decide)
  have cx : (nI la).toNatClampNeg = la := nI_clamp (by omega)
  unfold ez_bu at hQ
  rcases ec_isb hx with ⟨b, ex, kx, fx⟩ | ⟨nx, kx⟩
  · have kx' : τ 8 (nI la).toNatClampNeg = 1 := by rw [cx]; exact kx
    have hr : ez_bt 6 a = some (if b then ez_look a 1 else ez_look a 0) := by
      unfold ez_bt
      rw [if_neg (by decide), if_pos rfl, ex]
    rw [hr] at hQ
    cases b with
    | true =>
      have fx' : τ 9 (nI la).toNatClampNeg = 1 := by rw [cx]; exact fx
      exact ji_46 ⟨vx, ⟨fun _ => ⟨vx, ⟨fun q => absurd fx' q, fun _ => ec_found (hQ _ (ec_Pl (ec_Bv hb hy)))⟩⟩, fun q => absurd kx' q⟩⟩
    | false =>
      have fx' : τ 9 (nI la).toNatClampNeg = 0 := by rw [cx]; exact fx
      exact ji_46 ⟨vx, ⟨fun _ => ⟨vx, ⟨fun _ => ec_found (hQ _ (ec_Pl (ec_Bv hb hz))), fun q => absurd (fx'.symm.trans q) (by decide)⟩⟩, fun q => absurd kx' q⟩⟩
  · have kx' : ¬ τ 8 (nI la).toNatClampNeg = 1 := by rw [cx]; exact kx
    have hr : ez_bt 6 a = none := by
      unfold ez_bt
      rw [if_neg (by decide), if_pos rfl]
      split
      · rename_i e1
        exact absurd e1 (nx _)
      · rfl
    rw [hr] at hQ
    exact ji_46 ⟨vx, ⟨fun q => absurd q kx', fun _ => ec_fail hb hQ⟩⟩
set_option maxHeartbeats 4000000 in
theorem ec_47 {la lb s u : Nat} {a : ez_V} {K : List ez_F} (hb : ec_B σ τ B u s K) (hx : ec_r τ u (ez_look a 1) false la) (hy : ec_r τ u (ez_look a 0) false lb) (hQ : ∀ τ', ec_P σ τ' B (ez_bu 7 a K s) → Q none τ') : jx_C l D cA ρ jx_XM (d + 3) 47 [.ref 3, .int (nI la), .int (nI lb)] τ Q := by
  have hlx := ec_lt hx
  have hly := ec_lt hy
  have hb' := hb
  obtain ⟨h1, h2, h3, h4, h5, h6, h7, h8, h9, h10, h11⟩ := hb'
  have vx : vp_in (nI la) 512 := vp_in_nI (by omega) (by decide)
  have vy : vp_in (nI lb) 512 := vp_in_nI (by omega) (by decide)
  have cx : (nI la).toNatClampNeg = la := nI_clamp (by omega)
  have cy : (nI lb).toNatClampNeg = lb := nI_clamp (by omega)
  have hbt : ez_bt 7 a = if (ez_isi (ez_look a 1) || ez_isl (ez_look a 1)) && ez_isl (ez_look a 0) then some (.append (ez_look a 1) (ez_look a 0)) else none := rfl
  unfold ez_bu at hQ
  have yes : ez_isl (ez_look a 0) = true → τ 11 lb = nI (ez_len (ez_look a 0)) ∧ ez_len (ez_look a 0) ≤ u → (∀ τ', ec_P σ τ' B (.inl ((1, 0, .append (ez_look a 1) (ez_look a 0), .nil), K, s)) → Q none τ') → Q none (ec_fo (ec_mk τ u 2 (nI la) (nI lb) (τ 11 lb + 1)) (nI u)) := by
    intro i1 i2 hq
    refine hq _ (ec_Pl (ec_Bn hb ?_))
    exact ⟨by omega, pk_us, pk_us.trans (by rw [i2.1, nI_1]), by omega, la, lb, pk_us, pk_us, ec_mkr hx, ec_mkr hy⟩
  rcases ec_isl hy with ⟨ly, ky, sy⟩ | ⟨ly, ky⟩
  · have ky' : τ 8 (nI lb).toNatClampNeg = 2 := by rw [cy]; exact ky
    rcases ec_isi hx with ⟨i, x', ex, kx, fx⟩ | ⟨nx, ex, kx⟩
    · have kx' : τ 8 (nI la).toNatClampNeg = 0 := by rw [cx]; exact kx
      have hr : ez_bt 7 a = some (.append (ez_look a 1) (ez_look a 0)) := by rw [hbt, ly, ex]; rfl
      rw [hr] at hQ
      refine ji_47 ⟨vx, ⟨fun _ => ⟨vy, ⟨fun _ => ?_, fun q => absurd ky' q⟩⟩, fun q => absurd kx' q⟩⟩
      exact ec_list h7 (by omega) (by omega) (ec_found (yes ly sy hQ))
    · have kx' : ¬ τ 8 (nI la).toNatClampNeg = 0 := by rw [cx]; exact kx
      rcases ec_isl hx with ⟨lx, kx2, sx⟩ | ⟨lx, kx2⟩
      · have kx2' : τ 8 (nI la).toNatClampNeg = 2 := by rw [cx]; exact kx2
        have hr : ez_bt 7 a = some (.append (ez_look a 1) (ez_look a 0)) := by rw [hbt, ly, ex, lx]; rfl
        rw [hr] at hQ
        refine ji_47 ⟨vx, ⟨fun q => absurd q kx', fun _ => ⟨fun q => absurd kx2' q, fun _ => ⟨vy, ⟨fun _ => ?_, fun q => absurd ky' q⟩⟩⟩⟩⟩
        exact ec_list h7 (by omega) (by omega) (ec_found (yes ly sy hQ))
      · have kx2' : ¬ τ 8 (nI la).toNatClampNeg = 2 := by rw [cx]; exact kx2
        have hr : ez_bt 7 a = none := by rw [hbt, ly, ex, lx]; rfl
        rw [hr] at hQ
        exact ji_47 ⟨vx, ⟨fun q => absurd q kx', fun _ => ⟨fun _ => ec_fail hb hQ, fun q => absurd q kx2'⟩⟩⟩
  · have ky' : ¬ τ 8 (nI lb).toNatClampNeg = 2 := by rw [cy]; exact ky
    have hr : ez_bt 7 a = none := by rw [hbt, ly, Bool.and_false]; rfl
    rw [hr] at hQ
    refine ji_47 ⟨vx, ⟨fun _ => ⟨vy, ⟨fun q => absurd q ky', fun _ => ec_fail hb hQ⟩⟩, fun _ => ⟨fun _ => ec_fail hb hQ, fun _ => ⟨vy, ⟨fun q => absurd q ky', fun _ => ec_fail hb hQ⟩⟩⟩⟩⟩
theorem ez_b8n {k : Nat} {a : ez_V} (h : 8 ≤ k) (hl : ez_isl (ez_look a 0) = false) : ez_bt k a = none := by
  unfold ez_bt
  rw [if_neg (by omega), if_neg (by omega), if_neg (by omega)]
  split
  · rename_i e; rw [e] at hl; cases hl
  · rename_i e; rw [e] at hl; cases hl
  · rfl
theorem ez_b8 {k : Nat} {a : ez_V} (h : 8 ≤ k) (hl : ez_look a 0 = .nil) : ez_bt k a = if k = 10 then some (.align true) else none := by
  unfold ez_bt
  rw [if_neg (by omega), if_neg (by omega), if_neg (by omega), hl]
theorem ez_b8c {k : Nat} {a x t : ez_V} (h : 8 ≤ k) (hl : ez_look a 0 = .append x t) : ez_bt k a = if k = 10 then some (.align false) else if k = 8 then some x else some t := by
  unfold ez_bt
  rw [if_neg (by omega), if_neg (by omega), if_neg (by omega), hl]
set_option maxHeartbeats 4000000 in
theorem ec_48 {k lb s u : Nat} {a : ez_V} {K : List ez_F} (hk : 8 ≤ k) (hk10 : k ≤ 10) (hb : ec_B σ τ B u s K) (hy : ec_r τ u (ez_look a 0) false lb) (hQ : ∀ τ', ec_P σ τ' B (ez_bu k a K s) → Q none τ') : jx_C l D cA ρ jx_XM (d + 3) 48 [.ref 3, .int (nI k), .int (nI lb)] τ Q := by
  have hly := ec_lt hy
  have hb' := hb
  obtain ⟨h1, h2, h3, h4, h5, h6, h7, h8, h9, h10, h11⟩ := hb'
  have vy : vp_in (nI lb) 512 := vp_in_nI (by omega) (by decide)
  have cy : (nI lb).toNatClampNeg = lb := nI_clamp (by omega)
  unfold ez_bu at hQ
  cases hv : ez_look a 0 with
  | nil =>
    rw [ez_b8 hk hv] at hQ
    rw [hv] at hy
    have ky : τ 8 (nI lb).toNatClampNeg = 2 := by rw [cy]; exact hy.2.1
    have sy : τ 11 (nI lb).toNatClampNeg = 0 := by rw [cy]; exact hy.2.2
    rcases (by omega : k = 8 ∨ k = 9 ∨ k = 10) with rfl | rfl | rfl
    · refine ji_48 ⟨vy, ⟨fun q => absurd sy q, fun _ => ⟨fun _ => ⟨vy, ⟨fun q => absurd ky q, fun _ => ⟨fun q => absurd q (by decide), fun _ => ⟨fun q => absurd q (by decide), fun _ => ec_fail hb hQ⟩⟩⟩⟩, fun q => absurd rfl q⟩⟩⟩
    · refine ji_48 ⟨vy, ⟨fun q => absurd sy q, fun _ => ⟨fun q => absurd q (by decide), fun _ => ⟨fun q => absurd rfl q, fun _ => ⟨vy, ⟨fun q => absurd ky q, fun _ => ⟨fun q => absurd q (by decide), fun _ => ⟨fun q => absurd q (by decide), fun _ => ec_fail hb hQ⟩⟩⟩⟩⟩⟩⟩⟩
    · refine ji_48 ⟨vy, ⟨fun q => absurd sy q, fun _ => ⟨fun q => absurd q (by decide), fun _ => ⟨fun _ => ⟨vy, ⟨fun q => absurd ky q, fun _ => ⟨fun _ => ?_, fun q => absurd rfl q⟩⟩⟩, fun q => absurd q (by decide)⟩⟩⟩⟩
      refine ⟨fun _ => ⟨fun _ => ⟨fun q => absurd q (by decide), fun _ => ?_⟩, fun q => absurd q (by decide)⟩, fun q => absurd q (by decide)⟩
      exact ec_plain h7 (by omega) (ec_found (ec_nt (b := true) rfl hb hQ))
  | append x t =>
    rw [ez_b8c hk hv] at hQ
    rw [hv] at hy
    obtain ⟨y1, y2, y3, y8, c1, c2, y4, y5, y6, y7⟩ := hy
    have ky : τ 8 (nI lb).toNatClampNeg = 2 := by rw [cy]; exact y2
    have sy : ¬ τ 11 (nI lb).toNatClampNeg = 0 := by rw [cy, y3]; exact nI_ne0 (n := ez_len t + 1) (by omega) (by omega)
    have fy : τ 9 (nI lb).toNatClampNeg = nI c1 := by rw [cy]; exact y4
    have gy : τ 10 (nI lb).toNatClampNeg = nI c2 := by rw [cy]; exact y5
    rcases (by omega : k = 8 ∨ k = 9 ∨ k = 10) with rfl | rfl | rfl
    · refine ji_48 ⟨vy, ⟨fun _ => ⟨fun _ => ⟨vy, ⟨fun q => absurd ky q, fun _ => ⟨fun q => absurd q (by decide), fun _ => ⟨fun _ => ⟨fun q => absurd rfl q, fun _ => ⟨vy, ?_⟩⟩, fun q => absurd rfl q⟩⟩⟩⟩, fun q => absurd rfl q⟩, fun q => absurd q sy⟩⟩
      have h12 := ec_Bv (σ := σ) (B := B) (v := x) hb y6
      rw [← fy] at h12
      exact ec_found (hQ _ (ec_Pl h12))
    · refine ji_48 ⟨vy, ⟨fun _ => ⟨fun q => absurd q (by decide), fun _ => ⟨fun q => absurd rfl q, fun _ => ⟨vy, ⟨fun q => absurd ky q, fun _ => ⟨fun q => absurd q (by decide), fun _ => ⟨fun _ => ⟨fun _ => ⟨fun q => absurd rfl q, fun _ => ⟨vy, ?_⟩⟩, fun q => absurd q (by decide)⟩, fun q => absurd rfl q⟩⟩⟩⟩⟩⟩, fun q => absurd q sy⟩⟩
      have h12 := ec_Bv (σ := σ) (B := B) (v := t) hb y7
      rw [← gy] at h12
      exact ec_found (hQ _ (ec_Pl h12))
    · refine ji_48 ⟨vy, ⟨fun _ => ⟨fun q => absurd q (by decide), fun _ => ⟨fun _ => ⟨vy, ⟨fun q => absurd ky q, fun _ => ⟨fun _ => ?_, fun q => absurd rfl q⟩⟩⟩, fun q => absurd q (by decide)⟩⟩, fun q => absurd q sy⟩⟩
      refine ⟨fun _ => ⟨fun _ => ⟨fun _ => ?_, fun q => absurd rfl q⟩, fun q => absurd q (by decide)⟩, fun q => absurd q (by decide)⟩
      exact ec_plain h7 (by omega) (ec_found (ec_nt (b := false) rfl hb hQ))
  | _ =>
    have hl : ez_isl (ez_look a 0) = false := by rw [hv]; rfl
    rw [ez_b8n hk hl] at hQ
    rcases ec_isl hy with ⟨ly, ky, sy⟩ | ⟨ly, ky⟩
    · rw [hl] at ly; cases ly
    · have ky' : ¬ τ 8 (nI lb).toNatClampNeg = 2 := by rw [cy]; exact ky
      rcases (by omega : k = 8 ∨ k = 9 ∨ k = 10) with rfl | rfl | rfl
      · refine ji_48 ⟨vy, ⟨fun _ => ⟨fun _ => ⟨vy, ⟨fun _ => ec_fail hb hQ, fun q => absurd q ky'⟩⟩, fun q => absurd rfl q⟩, fun _ => ⟨fun _ => ⟨vy, ⟨fun _ => ec_fail hb hQ, fun q => absurd q ky'⟩⟩, fun q => absurd rfl q⟩⟩⟩
      · refine ji_48 ⟨vy, ⟨fun _ => ⟨fun q => absurd q (by decide), fun _ => ⟨fun q => absurd rfl q, fun _ => ⟨vy, ⟨fun _ => ec_fail hb hQ, fun q => absurd q ky'⟩⟩⟩⟩, fun _ => ⟨fun q => absurd q (by decide), fun _ => ⟨fun q => absurd rfl q, fun _ => ⟨vy, ⟨fun _ => ec_fail hb hQ, fun q => absurd q ky'⟩⟩⟩⟩⟩⟩
      · refine ji_48 ⟨vy, ⟨fun _ => ⟨fun q => absurd q (by decide), fun _ => ⟨fun _ => ⟨vy, ⟨fun _ => ec_fail hb hQ, fun q => absurd q ky'⟩⟩, fun q => absurd q (by decide)⟩⟩, fun _ => ⟨fun q => absurd q (by decide), fun _ => ⟨fun _ => ⟨vy, ⟨fun _ => ec_fail hb hQ, fun q => absurd q ky'⟩⟩, fun q => absurd q (by decide)⟩⟩⟩⟩
end EC5

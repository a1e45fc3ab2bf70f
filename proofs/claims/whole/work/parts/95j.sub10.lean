/-! submit: the second phase of the model -/
section SZ
variable {l : Launch} {D : va_G} {cA : ClassId} {ρ : Nat → Nat} {d : Nat} {Q : Option Value → jx_St → Prop} {σ τ : jx_St} {g : Nat → Int32} {m h n c B : Nat}
theorem em_lz {u w c : Nat} {x : ez_V} (hl : ez_isl x = true) (h : em_r τ u w x 0 c) : τ 41 c = nI (ez_len x) ∧ ez_len x ≤ u := by
  rcases em_isl h with ⟨-, -, h, h2⟩ | ⟨h, -⟩
  · exact ⟨h, h2⟩
  · rw [hl] at h; cases h
/-- one more integer in front of a list -/
theorem su_c1 {u c : Nat} {x : Int32} {L : ez_V} (hl : ez_isl L = true) (h : em_r τ u 0 L 0 c) : em_r (em_mk (em_mk τ u 0 x 0 0 0) (u + 1) 2 (nI u) (nI c) (1 + em_mk τ u 0 x 0 0 0 41 c) 0) (u + 2) 0 (.append (ez_i x) L) 0 (u + 1) := by
  have h1 := em_mkr (a1 := 0) (a2 := x) (a3 := 0) (a4 := 0) (a5 := 0) h
  have z := em_lz hl h1
  have hi : em_r (em_mk τ u 0 x 0 0 0) (u + 1) 0 (ez_i x) 0 u := ⟨by omega, pk_us, pk_us.trans (by rw [Int32.ofInt_toInt])⟩
  exact ⟨by omega, pk_us, pk_us.trans (by rw [z.1]; exact (nI_add 1 _).trans (by rw [Nat.add_comm])), by omega, u, c, pk_us, pk_us, em_mkr hi, em_mkr h1⟩
/-- the state after a list got one more -/
def su_cs (τ : jx_St) (u c : Nat) (x : Int32) : jx_St := em_mk (em_mk τ u 0 x 0 0 0) (u + 1) 2 (nI u) (nI c) (1 + em_mk τ u 0 x 0 0 0 41 c) 0
theorem su_css {u c : Nat} {x : Int32} (h : em_same σ τ) : em_same σ (su_cs τ u c x) := em_mks (em_mks h)
theorem su_csr {u c : Nat} {x : Int32} {v : ez_V} {k p : Nat} (h : em_r τ u 0 v k p) : em_r (su_cs τ u c x) (u + 2) 0 v k p := em_mkr (em_mkr h)
theorem su_cons {u c : Nat} {x : Int32} (eu : τ 34 5 = nI u) (hu : u + 2 ≤ 260) (hc : c < u) (K2 : Option Value → jx_St → Prop) (hQ : K2 (some (.int (nI (u + 1)))) (su_cs τ u c x)) : jx_C l D cA ρ jx_XM (d + 2) 95 [.ref 34, .int x] τ (fun r τ' => ∃ z, r = some (.int z) ∧ jx_C l D cA ρ jx_XM (d + 2) 96 [.ref 34, .int z, .int (nI c)] τ' K2) :=
  em_whole eu (by omega) ⟨_, rfl, em_cons (u := u + 1) rfl (by omega) (by omega) hQ⟩
/-- the list of the context -/
def su_p (σ τ0 τ : jx_St) (u : Nat) (L : ez_V) (c : Nat) : Prop := em_same σ τ ∧ τ 34 5 = nI u ∧ em_r τ u 0 L 0 c ∧ ez_isl L = true ∧ ∀ v k q, em_r τ0 2 0 v k q → em_r τ u 0 v k q
theorem su_cons2 {τ0 : jx_St} {u c : Nat} {x : Int32} {L : ez_V} (hp : su_p σ τ0 τ u L c) (hu : u ≤ 250) (hQ : ∀ τ', su_p σ τ0 τ' (u + 2) (.append (ez_i x) L) (u + 1) → Q (some (.int (nI (u + 1)))) τ') : jx_C l D cA ρ jx_XM (d + 2) 96 [.ref 34, .int (nI u), .int (nI c)] (em_mk τ u 0 x 0 0 0) Q := by
  obtain ⟨h1, h2, h3, h4, h5⟩ := hp
  have hc := em_lt h3
  refine em_cons (u := u + 1) (c := c) rfl (by omega) (by omega) (hQ _ ⟨em_mks (em_mks h1), rfl, su_c1 h4 h3, rfl, fun v k q z => em_mkr (em_mkr (h5 v k q z))⟩)
theorem su_125 {p : Int32} (hn : n ≤ 3) (hm : m ≤ 48) (en : σ 34 33 = nI n) (hL : su_LM σ m n) (hs : em_same σ τ) (eu : τ 34 5 = nI 2) (hQ : ∀ τ' c, em_same σ τ' → τ' 34 5 = nI 23 → em_r τ' 23 0 (ez_ls (su_cx σ n p) 10 0) 0 c → (∀ v k q, em_r τ 2 0 v k q → em_r τ' 23 0 v k q) → Q (some (.int (nI c))) τ') : jx_C l D cA ρ jx_XM (d + 3) 125 [.ref 34, .int p] τ Q := by
  have e48 : τ 48 = σ 48 := hs.1 48 rfl
  have e54 : τ 54 = σ 54 := hs.1 54 rfl
  have e33 : τ 34 33 = σ 34 33 := hs.2 33 rfl
  have v1 : vp_in 1 3 := vp_in_nI (n := 1) (by decide) (by decide)
  have v2 : vp_in 2 3 := vp_in_nI (n := 2) (by decide) (by decide)
  have tail : jx_J l D cA ρ jx_XM (jx_A ρ jx_XM) jx_tb0 (d + 3) 125 Q 34 [(3, .int (nI n)), (2, .int (iv_sum (fun i => σ 48 (3 * (σ 54 i).toNatClampNeg + 0)) n)), (0, .ref 34), (1, .int p)] [] τ := by
    refine jx_go jk_125 (fun _ _ _ z => z) 200 [] ?_
    refine em_make (u := 2) eu (by decide) ?_
    have p0 : su_p σ τ (em_mk τ 2 2 0 0 0 0) 3 .nil 2 := ⟨em_mks hs, rfl, ⟨by decide, rfl, rfl⟩, rfl, fun v k q z => em_mkr z⟩
    generalize em_mk τ 2 2 0 0 0 0 = t0 at p0 ⊢
    refine em_whole p0.2.1 (by decide) ?_
    refine su_cons2 p0 (by decide) (fun t1 p1 => ?_)
    refine ⟨v2, ?_⟩
    rw [p1.1.1 59 rfl]
    refine em_whole p1.2.1 (by decide) ?_
    refine su_cons2 p1 (by decide) (fun t2 p2 => ?_)
    refine ⟨v1, ?_⟩
    rw [p2.1.1 59 rfl]
    refine em_whole p2.2.1 (by decide) ?_
    refine su_cons2 p2 (by decide) (fun t3 p3 => ?_)
    refine em_whole p3.2.1 (by decide) ?_
    refine su_cons2 p3 (by decide) (fun t4 p4 => ?_)
    refine em_whole p4.2.1 (by decide) ?_
    refine su_cons2 p4 (by decide) (fun t5 p5 => ?_)
    refine em_whole p5.2.1 (by decide) ?_
    refine su_cons2 p5 (by decide) (fun t6 p6 => ?_)
    refine em_whole p6.2.1 (by decide) ?_
    refine su_cons2 p6 (by decide) (fun t7 p7 => ?_)
    refine em_whole p7.2.1 (by decide) ?_
    refine su_cons2 p7 (by decide) (fun t8 p8 => ?_)
    refine em_whole p8.2.1 (by decide) ?_
    refine su_cons2 p8 (by decide) (fun t9 p9 => ?_)
    refine em_whole p9.2.1 (by decide) ?_
    refine su_cons2 p9 (by decide) (fun t10 p10 => ?_)
    have hl := p10.2.2.1
    rw [p3.1.2 36 rfl, p4.1.2 33 rfl, p5.1.2 45 rfl, p6.1.2 42 rfl, p7.1.2 44 rfl, p8.1.2 43 rfl] at hl
    exact hQ t10 22 p10.1 p10.2.1 hl p10.2.2.2.2
  have loop : ∀ k i, i + k = n → jx_J l D cA ρ jx_XM (jx_A ρ jx_XM) jx_tb0 (d + 3) 125 Q 4 [(3, .int (nI i)), (2, .int (iv_sum (fun i => σ 48 (3 * (σ 54 i).toNatClampNeg + 0)) i)), (0, .ref 34), (1, .int p)] [] τ := by
    intro k
    induction k with
    | zero =>
      intro i hi
      have e : i = n := by omega
      subst e
      have c : τ 34 33 ≤ nI i := by rw [e33, en]; exact Int32.le_refl _
      refine jx_go jk_125 (fun _ _ _ z => z) 60 [4, 34] ?_
      exact ⟨fun _ => tail, fun q => absurd c q⟩
    | succ k ih =>
      intro i hi
      have c : ¬ τ 34 33 ≤ nI i := by rw [e33, en]; exact nI_ge (by omega) (by omega)
      have v : vp_in (nI i) 3 := vp_in_nI (by omega) (by decide)
      have ec : (nI i).toNatClampNeg = i := nI_clamp (by omega)
      obtain ⟨o, kk, ho, hk, a2, a4, a5, a6⟩ := hL i (by omega)
      have x54 : τ 54 (nI i).toNatClampNeg = nI o := by rw [e54, ec]; exact a2
      have ix : 3 * nI o = nI (3 * o) := jl_m30
      have v3 : vp_in (3 * nI o) 144 := by rw [ix]; exact vp_in_nI (by omega) (by decide)
      have h9 := ih (i + 1) (by omega)
      have x48 : τ 48 (3 * nI o).toNatClampNeg = σ 48 (3 * (σ 54 i).toNatClampNeg + 0) := by
        rw [ix, e48, nI_clamp (by omega), a2, nI_clamp (by omega)]
        rfl
      rw [← nI_1] at h9
      refine jx_go jk_125 (fun _ _ _ z => z) 60 [4] ?_
      refine ⟨fun q => absurd q c, fun _ => ⟨v, ?_⟩⟩
      rw [x54]
      refine ⟨v3, ?_⟩
      rw [x48]
      exact h9
  refine jx_in jk_125 40 [4] rfl (Nat.le_of_ble_eq_true rfl) ?_
  exact loop n 0 (by omega)
theorem su_126 {k : Nat} {x y p : Int32} (hn : n ≤ 3) (hm : m ≤ 48) (en : σ 34 33 = nI n) (hL : su_LM σ m n) (hs : em_same σ τ) (hB : B ≤ 99) {E : Nat} (hE : E ≤ 288) (hb : ∀ j, 48 * k ≤ j → j < E → ∃ b : Nat, b < 256 ∧ σ 35 j = nI b) (ht : ez_t (σ 35) g (48 * k) E (48 * k) 0) (hQ : ∀ τ', em_E σ τ' (su_R σ g n (k, x, y, p) B) → Q (some (.int (if (su_R σ g n (k, x, y, p) B).1 = 0 then 1 else 0))) τ') : jx_C l D cA ρ jx_XM (d + 8) 126 [.ref 34, .int (nI k), .int x, .int y, .int p, .int (nI B)] τ Q := by
  refine ji_126 ?_
  refine em_whole (u := 0) rfl (by decide) ?_
  refine em_whole (u := 1) rfl (by decide) ?_
  have hX : em_r (em_mk (em_mk (jx_su τ 34 5 0) 0 0 x 0 0 0) 1 0 y 0 0 0) 2 0 (ez_i x) 0 0 := ⟨by decide, rfl, by show x = Int32.ofInt x.toInt; rw [Int32.ofInt_toInt]⟩
  have hY : em_r (em_mk (em_mk (jx_su τ 34 5 0) 0 0 x 0 0 0) 1 0 y 0 0 0) 2 0 (ez_i y) 0 1 := ⟨by decide, rfl, by show y = Int32.ofInt y.toInt; rw [Int32.ofInt_toInt]⟩
  refine su_125 hn hm en hL (em_mks (em_mks (em_sf hs))) rfl (fun τ1 c h1 h2 h3 h4 => ?_)
  refine em_107 (σ := σ) (g := g) (c := k) (E := E) (u := 23) (X := ez_i x) (Y := ez_i y) (Z := ez_ls (su_cx σ n p) 10 0) hB hE hb ht trivial trivial (ec_lsw _ _ _) h1 h2 (by decide) (h4 _ _ _ hX) (h4 _ _ _ hY) h3 (fun τ' hP => ?_)
  have hP : em_E σ τ' (su_R σ g n (k, x, y, p) B) := hP
  have h9 := hQ τ' hP
  have hr : (su_R σ g n (k, x, y, p) B).1 ≤ 3 := ez_le3 _ _ _ _
  have e23 : τ' 34 23 = nI (su_R σ g n (k, x, y, p) B).1 := hP.2.1
  by_cases h0 : (su_R σ g n (k, x, y, p) B).1 = 0
  · rw [if_pos h0] at h9
    have g0 : τ' 34 23 = 0 := by rw [e23, h0]; rfl
    exact ⟨fun q => absurd g0 q, fun _ => ⟨Or.inr rfl, h9⟩⟩
  · rw [if_neg h0] at h9
    have g0 : ¬ τ' 34 23 = 0 := by rw [e23, su_0iff hr]; exact h0
    exact ⟨fun _ => ⟨Or.inl rfl, h9⟩, fun q => absurd q g0⟩
end SZ

/-! the program's evaluate: how it begins -/
def ez_ls (h : Nat → Int32) : Nat → Nat → ez_V
  | 0, _ => .nil
  | k + 1, i => .append (ez_i (h i)) (ez_ls h k (i + 1))
theorem ez_lsl (h : Nat → Int32) : ∀ k i, ez_len (ez_ls h k i) = k
  | 0, _ => rfl
  | k + 1, i => congrArg (· + 1) (ez_lsl h k (i + 1))
theorem ez_lsi (h : Nat → Int32) (k i : Nat) : ez_isl (ez_ls h k i) = true := by cases k <;> rfl
def ec_v7 (τ τ' : jx_St) : Prop := ∀ q, q < 7 ∨ 11 < q → τ' q = τ q
theorem ec_v7m {τ τ' : jx_St} {u : Nat} {a1 a2 a3 a4 : Int32} (h : ec_v7 τ τ') : ec_v7 τ (ec_mk τ' u a1 a2 a3 a4) := fun q hq => by
  unfold ec_mk
  rw [jx_su_ne _ _ _ (by omega), jx_su_ne _ _ _ (by omega), jx_su_ne _ _ _ (by omega), jx_su_ne _ _ _ (by omega), jx_su_ne _ _ _ (by omega)]
  exact h q hq
section EC7
variable {l : Launch} {D : va_G} {cA : ClassId} {ρ : Nat → Nat} {d : Nat} {Q : Option Value → jx_St → Prop} {σ τ : jx_St} {f g : Nat → Int32} {s0 E B : Nat}
/-- a list in a cell: how long it is said to be -/
theorem ec_lz {u c : Nat} {x : ez_V} (hl : ez_isl x = true) (h : ec_r τ u x false c) : τ 11 c = nI (ez_len x) := by
  rcases ec_isl h with ⟨-, -, h, -⟩ | ⟨h, -⟩
  · exact h
  · rw [hl] at h; cases h
theorem ec_37a (hQ : Q (some (.int 0)) τ) : jx_C l D cA ρ jx_XM (d + 1) 37 [.ref 3, .ref 33] τ Q :=
  jx_in jk_37 60 [] rfl (Nat.le_of_ble_eq_true rfl) ⟨fun _ => hQ, fun q => absurd (by decide) q⟩
set_option maxHeartbeats 4000000 in
theorem ec_37c {τ0 : jx_St} (hQ : ∀ τ' u c, ec_v7 τ0 τ' → τ' 7 4 = nI u → u ≤ 21 → ec_r τ' u .nil false 0 → ec_r τ' u (ez_ls (τ0 32) 10 0) false c → Q (some (.int (nI c))) τ') : ∀ (k : Nat) (τ : jx_St) (u c : Nat), k ≤ 10 → ec_v7 τ0 τ → τ 7 4 = nI u → u + 2 * k ≤ 21 → 11 ≤ u + k → ec_r τ u .nil false 0 → ec_r τ u (ez_ls (τ0 32) (10 - k) k) false c →
    jx_J l D cA ρ jx_XM (jx_A ρ jx_XM) jx_tb0 (d + 3) 37 Q 7 [(3, .int (nI k - 1)), (2, .int (nI c)), (0, .ref 3), (1, .ref 32)] [] τ
  | 0, τ, u, c, hk, hv, eu, hu, hu2, hz, hl => by
    refine jx_go jk_37 (fun _ _ _ z => z) 60 [7] ?_
    exact ⟨fun _ => hQ τ u c hv eu (by omega) hz hl, fun q => absurd (by decide) q⟩
  | k + 1, τ, u, c, hk, hv, eu, hu, hu2, hz, hl => by
    have e1 : nI (k + 1) - 1 = nI k := nI_pred k
    have hlt := ec_lt hl
    have e32 : τ 32 = τ0 32 := hv 32 (by omega)
    have vk : vp_in (nI (k + 1) - 1) 10 := by rw [e1]; exact vp_in_nI (by omega) (by decide)
    have ck : (nI (k + 1) - 1).toNatClampNeg = k := by rw [e1]; exact nI_clamp (by omega)
    have g0 : ¬ nI (k + 1) - 1 < 0 := by rw [e1]; exact nI_pos (by omega)
    have ih := fun τ' u' c' => ec_37c hQ k τ' u' c' (by omega)
    refine jx_go jk_37 (fun _ _ _ z => z) 60 [7] ?_
    refine ⟨fun q => absurd q g0, fun _ => ⟨vk, ?_⟩⟩
    refine ec_plain (u := u) eu (by omega) ?_
    have hl1 := ec_mkr (a1 := 0) (a2 := τ 32 (nI (k + 1) - 1).toNatClampNeg) (a3 := 0) (a4 := 0) hl
    have hz1 := ec_mkr (a1 := 0) (a2 := τ 32 (nI (k + 1) - 1).toNatClampNeg) (a3 := 0) (a4 := 0) hz
    refine ec_list (u := u + 1) (c := c) rfl (by omega) (by omega) ?_
    have z1 := ec_lz (ez_lsi _ _ _) hl1
    have h9 := ih (ec_mk (ec_mk τ u 0 (τ 32 (nI (k + 1) - 1).toNatClampNeg) 0 0) (u + 1) 2 (nI u) (nI c) (ec_mk τ u 0 (τ 32 (nI (k + 1) - 1).toNatClampNeg) 0 0 11 c + 1)) (u + 2) (u + 1) (ec_v7m (ec_v7m hv)) rfl (by omega) (by omega) (ec_mkr hz1) (by
      rw [show 10 - k = (10 - (k + 1)) + 1 by omega]
      refine ⟨by omega, pk_us, pk_us.trans ?_, ?_, u, c, pk_us, pk_us, ec_mkr (u := u + 1) ⟨by omega, pk_us, pk_us.trans ?_⟩, ec_mkr hl1⟩
      · rw [z1, nI_1]
      · rw [ez_lsl]; omega
      · rw [ck, e32, Int32.ofInt_toInt])
    have e2 : nI k - 1 = nI (k + 1) - 1 + (-1) := by rw [e1]; exact Int32.sub_eq_add_neg _ _
    rw [e2] at h9
    exact h9
theorem ec_37b (eu : τ 7 4 = nI 1) (hz : ec_r τ 1 .nil false 0) (hQ : ∀ τ' u c, ec_v7 τ τ' → τ' 7 4 = nI u → u ≤ 21 → ec_r τ' u .nil false 0 → ec_r τ' u (ez_ls (τ 32) 10 0) false c → Q (some (.int (nI c))) τ') : jx_C l D cA ρ jx_XM (d + 3) 37 [.ref 3, .ref 32] τ Q := by
  refine jx_in jk_37 60 [7] rfl (Nat.le_of_ble_eq_true rfl) ?_
  exact ec_37c hQ 10 τ 1 0 (by decide) (fun _ _ => rfl) eu (by decide) (by decide) hz hz
theorem ec_62 (hQ : Q none (ec_mk (jx_su τ 7 4 0) 0 2 0 0 0)) : jx_C l D cA ρ jx_XM (d + 2) 62 [.ref 7] τ Q :=
  ji_62 (ec_make (u := 0) rfl (by decide) hQ)
def ec_t0 (σ : jx_St) (p B : Nat) : jx_St := ec_go (jx_su (jx_su (jx_su (ec_mk (jx_su σ 7 4 0) 0 2 0 0 0) 3 5 0) 3 12 0) 3 11 (nI B)) (nI p) 0
theorem ec_t0s {p : Nat} : ec_same σ (ec_t0 σ p B) := ec_su (ec_su (ec_su (ec_su (ec_su (ec_su (ec_mks (ec_su (fun _ _ => rfl))))))))
theorem ec_36 {p : Nat} (hQ : Q none (ec_t0 σ p B)) : jx_C l D cA ρ jx_XM (d + 3) 36 [.ref 3, .int (nI p), .int (nI B)] σ Q :=
  ji_36 (ec_62 (ec_goto hQ))
/-- from the list on -/
theorem ec_tail {p u c : Nat} {x y : Int32} {z : Nat} {a1 : Int32} {lst : ez_V} (hB : B ≤ 99) (hE : E ≤ 288) (h5 : ∀ j, s0 ≤ j → j < E → σ 5 j = f j ∧ ∃ b : Nat, b < 256 ∧ f j = nI b) (ht : ez_t f (σ 6) s0 E p 0) (hw : ez_w f (σ 6) s0 E lst)
    (hv : ec_v7 (ec_t0 σ p B) τ) (eu : τ 7 4 = nI u) (hu : u ≤ 21) (hz : ec_r τ u .nil false 0) (hl : ec_r τ u lst false c) (hQ : ∀ τ', ec_E σ τ' (ez f (σ 6) B 2000 (0, p, .nil, .nil) [(3, 0, ez_i x), (3, 0, ez_i y), (3, 0, lst)] 0) → Q none τ') :
    jx_J l D cA ρ jx_XM (jx_A ρ jx_XM) jx_tb0 (d + 5) 35 Q 26 [(0, .ref 3), (1, .int a1), (2, .int x), (3, .int y), (4, .ref z), (5, .int (nI B))] [] (ec_pu τ 0 3 (nI c) 0) := by
  have h3 : τ 3 = ec_t0 σ p B 3 := hv 3 (by omega)
  have hsame : ec_same σ τ := fun q hq => by
    by_cases h : q < 7 ∨ 11 < q
    · rw [hv q h]; exact ec_t0s q hq
    · exfalso
      have : 7 ≤ q ∧ q ≤ 14 := by omega
      unfold ec_in at hq
      rw [Nat.ble_eq_true_of_le this.1, Nat.ble_eq_true_of_le this.2, Bool.and_true, Bool.or_true] at hq
      cases hq
  refine jx_go jk_35 (fun _ _ _ z => z) 60 [59] ?_
  refine ec_plain (u := u) eu (by omega) ?_
  refine ec_push (k := 1) rfl (by decide) ?_
  refine ec_plain (u := u + 1) rfl (by omega) ?_
  refine ec_push (k := 2) rfl (by decide) ?_
  refine ec_loop (E := E) (s0 := s0) (f := f) hB hE h5 2000 0 (0, p, .nil, .nil) _ 0 _ (by decide) (Or.inl ⟨rfl, ht, trivial⟩) ?_ ?_ hQ
  · exact ⟨Nat.le_refl 3, fun z => absurd (show (3 : Nat) = 0 from z) (by decide), trivial, Nat.le_refl 3, fun z => absurd (show (3 : Nat) = 0 from z) (by decide), trivial, Nat.le_refl 3, fun z => absurd (show (3 : Nat) = 0 from z) (by decide), hw, trivial⟩
  · have hl1 := ec_mkr (a1 := 0) (a2 := x) (a3 := 0) (a4 := 0) (ec_mkr (a1 := 0) (a2 := y) (a3 := 0) (a4 := 0) hl)
    have hz1 := ec_mkr (a1 := 0) (a2 := x) (a3 := 0) (a4 := 0) (ec_mkr (a1 := 0) (a2 := y) (a3 := 0) (a4 := 0) hz)
    have hy0 : ec_r (ec_mk τ u 0 y 0 0) (u + 1) (ez_i y) false u := ⟨by omega, pk_us, pk_us.trans (by rw [Int32.ofInt_toInt])⟩
    have hy1 := ec_mkr (a1 := 0) (a2 := x) (a3 := 0) (a4 := 0) hy0
    have hx1 : ec_r (ec_mk (ec_mk τ u 0 y 0 0) (u + 1) 0 x 0 0) (u + 2) (ez_i x) false (u + 1) := ⟨by omega, pk_us, pk_us.trans (by rw [Int32.ofInt_toInt])⟩
    refine ⟨ec_pus (ec_mks (ec_pus (ec_mks (ec_pus hsame)))), Nat.zero_le _, ?_, ?_, rfl, Nat.le_refl 3, u + 2, rfl, ?_, ec_cu0 ⟨?_, ?_, 0, ?_, trivial⟩, ⟨rfl, fun z => absurd (show (3 : Nat) = 0 from z) (by decide), fun _ => ⟨u + 1, rfl, hx1⟩, rfl, fun z => absurd (show (3 : Nat) = 0 from z) (by decide), fun _ => ⟨u, rfl, hy1⟩, rfl, fun z => absurd (show (3 : Nat) = 0 from z) (by decide), fun _ => ⟨c, rfl, hl1⟩, trivial⟩, hz1⟩
    · show τ 3 11 = nI B; rw [h3]; rfl
    · show τ 3 12 = nI 0; rw [h3]; rfl
    · show u + 2 + 2 * 3 + 0 ≤ 30 + 3 * 0; omega
    · show τ 3 6 = 0; rw [h3]; rfl
    · show τ 3 7 = nI p; rw [h3]; rfl
    · show τ 3 8 = nI 0; rw [h3]; rfl
theorem ec_lsw (h : Nat → Int32) : ∀ k i, ez_w f g s0 E (ez_ls h k i)
  | 0, _ => trivial
  | k + 1, i => ⟨trivial, ec_lsw h k (i + 1)⟩
theorem ec_57 {c : Nat} (hQ : Q (some (.int (nI (48 * c)))) τ) : jx_C l D cA ρ jx_XM (d + 1) 57 [.ref 4, .int (nI c)] τ Q := by
  have e1 : nI c * 48 = nI (48 * c) := by rw [show (48 : Int32) = nI 48 from rfl, pk_mul, Nat.mul_comm]
  rw [← e1] at hQ
  exact ji_57 hQ
/-- evaluate with an empty list, and with the context -/
theorem ec_35a {c : Nat} {x y : Int32} (hc : c < 6) (hB : B ≤ 99) (hE : E ≤ 288) (h5 : ∀ j, 48 * c ≤ j → j < E → σ 5 j = f j ∧ ∃ b : Nat, b < 256 ∧ f j = nI b) (ht : ez_t f (σ 6) (48 * c) E (48 * c) 0)
    (hQ : ∀ τ', ec_E σ τ' (ez f (σ 6) B 2000 (0, 48 * c, .nil, .nil) [(3, 0, ez_i x), (3, 0, ez_i y), (3, 0, .nil)] 0) → Q none τ') : jx_C l D cA ρ jx_XM (d + 5) 35 [.ref 3, .int (nI c), .int x, .int y, .ref 33, .int (nI B)] σ Q := by
  refine jx_in jk_35 60 [26, 59] rfl (Nat.le_of_ble_eq_true rfl) ?_
  refine ec_57 ?_
  refine ec_36 ?_
  refine ec_37a ?_
  refine ec_push (k := 0) rfl (by decide) ?_
  exact ec_tail (u := 1) (c := 0) (lst := .nil) hB hE h5 ht trivial (fun _ _ => rfl) rfl (by decide) ⟨by decide, rfl, rfl⟩ ⟨by decide, rfl, rfl⟩ hQ
theorem ec_35b {c : Nat} {x y : Int32} (hc : c < 6) (hB : B ≤ 99) (hE : E ≤ 288) (h5 : ∀ j, 48 * c ≤ j → j < E → σ 5 j = f j ∧ ∃ b : Nat, b < 256 ∧ f j = nI b) (ht : ez_t f (σ 6) (48 * c) E (48 * c) 0)
    (hQ : ∀ τ', ec_E σ τ' (ez f (σ 6) B 2000 (0, 48 * c, .nil, .nil) [(3, 0, ez_i x), (3, 0, ez_i y), (3, 0, ez_ls (σ 32) 10 0)] 0) → Q none τ') : jx_C l D cA ρ jx_XM (d + 5) 35 [.ref 3, .int (nI c), .int x, .int y, .ref 32, .int (nI B)] σ Q := by
  refine jx_in jk_35 60 [26, 59] rfl (Nat.le_of_ble_eq_true rfl) ?_
  refine ec_57 ?_
  refine ec_36 ?_
  refine ec_37b rfl ⟨by decide, rfl, rfl⟩ (fun τ' u c' h1 h2 h3 h4 h5' => ?_)
  refine ec_push (k := 0) (by rw [h1 3 (by omega)]; rfl) (by decide) ?_
  exact ec_tail (u := u) (c := c') hB hE h5 ht (ec_lsw _ _ _) h1 h2 h3 h4 h5' hQ
end EC7

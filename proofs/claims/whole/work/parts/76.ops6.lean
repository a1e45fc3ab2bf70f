/-! type: the bytes of a long, the highest first -/
def jz_b (b : Int64) (i : Int32) : Int32 := (b >>> ((8 * i).toInt64 &&& 63)).toInt32 &&& 255
theorem jz_bm (b : Int64) (i : Int32) : ((b >>> ((8 * i).toInt64 &&& 63)) &&& 255).toInt32 = jz_b b i := by
  rw [Int64.toInt32_and]
  rfl
theorem jz_bn (b : Int64) (i : Int32) : ∃ k : Nat, k < 256 ∧ jz_b b i = nI k := pk_andE _ 8 (by decide)
def jz_x (b : Int64) : Nat → jx_St → jx_St
  | 0, σ => σ
  | c + 1, σ => jz_x b c (jx_su (jx_su σ 2 (σ 1 1).toNatClampNeg (jz_b b (nI c))) 1 1 (σ 1 1 + 1))
def jz_m (b : Int64) : Nat → jx_St → jx_St
  | 0, σ => σ
  | c + 1, σ => jz_m b c (jx_su (jx_su σ 37 (σ 34 3).toNatClampNeg (jz_b b (nI c))) 34 3 (σ 34 3 + 1))
theorem jz_p1 (c : Nat) : nI (c + 1) - 1 + (-1) = nI c - 1 := by
  rw [nI_pred, Int32.sub_eq_add_neg]
theorem jp_33 {l : Launch} {D : va_G} {cA : ClassId} {ρ : Nat → Nat} {d : Nat} {Q : Option Value → jx_St → Prop} {b : Int64} {n : Int32} : ∀ (c m : Nat) (σ : jx_St), σ 1 1 = nI m → m + c ≤ 48 → Q none (jz_x b c σ) → jx_J l D cA ρ jx_XM (jx_A ρ jx_XM) jx_tb0 (d + 1) 33 Q 5 [(4, .int (nI c - 1)), (0, .ref 1), (1, .long b), (3, .int n)] [] σ
  | 0, m, σ, em, hm, hQ => by
    refine jx_go jk_33 (fun _ _ _ z => z) 60 [5] ?_
    exact ⟨fun _ => hQ, fun q => absurd (show nI 0 - 1 < 0 by decide) q⟩
  | c + 1, m, σ, em, hm, hQ => by
    have g : ¬ nI (c + 1) - 1 < 0 := by rw [nI_pred]; exact nI_pos (by omega)
    have g2 : ¬ 48 ≤ σ 1 1 := by rw [em]; exact nI_ge (b := 48) (by omega) (by decide)
    have v : vp_in (σ 1 1) 48 := by rw [em]; exact vp_in_nI (by omega) (by decide)
    have ih := jp_33 (l := l) (D := D) (cA := cA) (ρ := ρ) (d := d) (Q := Q) (b := b) (n := n) c (m + 1) (jx_su (jx_su σ 2 (σ 1 1).toNatClampNeg (jz_b b (nI c))) 1 1 (σ 1 1 + 1)) (show σ 1 1 + 1 = nI (m + 1) by rw [em, nI_1]) (by omega) hQ
    rw [← jz_p1 c, ← nI_pred c] at ih
    refine jx_go jk_33 (fun _ _ _ z => z) 60 [5] ?_
    exact ⟨fun q => absurd q g, fun _ => ⟨fun q => absurd q g2, fun _ => ⟨v, ih⟩⟩⟩
theorem jp_90 {l : Launch} {D : va_G} {cA : ClassId} {ρ : Nat → Nat} {d : Nat} {Q : Option Value → jx_St → Prop} {b : Int64} {n : Int32} : ∀ (c m : Nat) (σ : jx_St), σ 34 3 = nI m → m + c ≤ 48 → Q (some (.int 1)) (jz_m b c σ) → jx_J l D cA ρ jx_XM (jx_A ρ jx_XM) jx_tb0 (d + 1) 90 Q 29 [(4, .int (nI c - 1)), (0, .ref 34), (1, .long b), (3, .int n)] [] σ
  | 0, m, σ, em, hm, hQ => by
    refine jx_go jk_90 (fun _ _ _ z => z) 60 [29] ?_
    exact ⟨fun _ => ⟨Or.inr rfl, hQ⟩, fun q => absurd (show nI 0 - 1 < 0 by decide) q⟩
  | c + 1, m, σ, em, hm, hQ => by
    have g : ¬ nI (c + 1) - 1 < 0 := by rw [nI_pred]; exact nI_pos (by omega)
    have v : vp_in (σ 34 3) 48 := by rw [em]; exact vp_in_nI (by omega) (by decide)
    have ih := jp_90 (l := l) (D := D) (cA := cA) (ρ := ρ) (d := d) (Q := Q) (b := b) (n := n) c (m + 1) (jx_su (jx_su σ 37 (σ 34 3).toNatClampNeg (jz_b b (nI c))) 34 3 (σ 34 3 + 1)) (show σ 34 3 + 1 = nI (m + 1) by rw [em, nI_1]) (by omega) hQ
    rw [← jz_p1 c, ← nI_pred c, ← jz_bm] at ih
    refine jx_go jk_90 (fun _ _ _ z => z) 60 [29] ?_
    exact ⟨fun q => absurd q g, fun _ => ⟨v, ih⟩⟩
theorem jz_D {b : Int64} : ∀ (c m : Nat) (σ τ : jx_St), m + c ≤ 48 → σ 1 1 = nI m → τ 34 3 = nI m → (∀ i, i < m → σ 2 i = τ 37 i ∧ ∃ k : Nat, k < 256 ∧ τ 37 i = nI k) → jz_x b c σ 1 1 = nI (m + c) ∧ jz_m b c τ 34 3 = nI (m + c) ∧ ∀ i, i < m + c → jz_x b c σ 2 i = jz_m b c τ 37 i ∧ ∃ k : Nat, k < 256 ∧ jz_m b c τ 37 i = nI k
  | 0, m, σ, τ, hm, e1, e2, h => ⟨e1, e2, h⟩
  | c + 1, m, σ, τ, hm, e1, e2, h => by
    have h1 := jz_D (b := b) c (m + 1) (jx_su (jx_su σ 2 (σ 1 1).toNatClampNeg (jz_b b (nI c))) 1 1 (σ 1 1 + 1)) (jx_su (jx_su τ 37 (τ 34 3).toNatClampNeg (jz_b b (nI c))) 34 3 (τ 34 3 + 1)) (by omega) (show σ 1 1 + 1 = nI (m + 1) by rw [e1, nI_1]) (show τ 34 3 + 1 = nI (m + 1) by rw [e2, nI_1]) (fun i hi => ?_)
    · rw [show m + (c + 1) = m + 1 + c by omega]
      exact h1
    · show upd (σ 2) (σ 1 1).toNatClampNeg (jz_b b (nI c)) i = upd (τ 37) (τ 34 3).toNatClampNeg (jz_b b (nI c)) i ∧ ∃ k : Nat, k < 256 ∧ upd (τ 37) (τ 34 3).toNatClampNeg (jz_b b (nI c)) i = nI k
      rw [e1, e2, nI_clamp (by omega)]
      by_cases hh : i = m
      · subst hh; rw [pk_us, pk_us]; exact ⟨rfl, jz_bn b _⟩
      · rw [pk_un hh, pk_un hh]; exact h i (by omega)
theorem jz_xp {b : Int64} {p : Nat} (h1 : p ≠ 1) (h2 : p ≠ 2) : ∀ (c : Nat) (σ : jx_St), jz_x b c σ p = σ p
  | 0, _ => rfl
  | c + 1, σ => (jz_xp h1 h2 c _).trans ((jx_su_ne _ _ _ h1).trans (jx_su_ne _ _ _ h2))
theorem jz_mp {b : Int64} {p : Nat} (h1 : p ≠ 34) (h2 : p ≠ 37) : ∀ (c : Nat) (σ : jx_St), jz_m b c σ p = σ p
  | 0, _ => rfl
  | c + 1, σ => (jz_mp h1 h2 c _).trans ((jx_su_ne _ _ _ h1).trans (jx_su_ne _ _ _ h2))
theorem jz_mf {b : Int64} {f : Nat} (h : f ≠ 3) : ∀ (c : Nat) (σ : jx_St), jz_m b c σ 34 f = σ 34 f
  | 0, _ => rfl
  | c + 1, σ => by
    refine (jz_mf h c _).trans ?_
    show upd (σ 34) 3 (σ 34 3 + 1) f = σ 34 f
    exact pk_un h
theorem iv_keepD {σ σ' : jx_St} (h : ∀ p, p ≠ 1 → p ≠ 2 → p ≠ 37 → p ≠ 34 → σ' p = σ p) (hf : ∀ f, f ≠ 3 → σ' 34 f = σ 34 f) (hr : iv_S σ ∧ iv_R σ ∧ iv_I σ ∧ iv_G σ ∧ iv_M σ ∧ iv_T σ ∧ iv_L σ) : iv_S σ' ∧ iv_R σ' ∧ iv_I σ' ∧ iv_G σ' ∧ iv_M σ' ∧ iv_T σ' ∧ iv_L σ' := by
  have e3 := h 3 (by decide) (by decide) (by decide) (by decide)
  have e4 := h 4 (by decide) (by decide) (by decide) (by decide)
  have e5 := h 5 (by decide) (by decide) (by decide) (by decide)
  have e6 := h 6 (by decide) (by decide) (by decide) (by decide)
  have e15 := h 15 (by decide) (by decide) (by decide) (by decide)
  have e16 := h 16 (by decide) (by decide) (by decide) (by decide)
  have e17 := h 17 (by decide) (by decide) (by decide) (by decide)
  have e18 := h 18 (by decide) (by decide) (by decide) (by decide)
  have e19 := h 19 (by decide) (by decide) (by decide) (by decide)
  have e20 := h 20 (by decide) (by decide) (by decide) (by decide)
  have e21 := h 21 (by decide) (by decide) (by decide) (by decide)
  have e22 := h 22 (by decide) (by decide) (by decide) (by decide)
  have e23 := h 23 (by decide) (by decide) (by decide) (by decide)
  have e24 := h 24 (by decide) (by decide) (by decide) (by decide)
  have e25 := h 25 (by decide) (by decide) (by decide) (by decide)
  have e26 := h 26 (by decide) (by decide) (by decide) (by decide)
  have e27 := h 27 (by decide) (by decide) (by decide) (by decide)
  have e28 := h 28 (by decide) (by decide) (by decide) (by decide)
  have e29 := h 29 (by decide) (by decide) (by decide) (by decide)
  have e30 := h 30 (by decide) (by decide) (by decide) (by decide)
  have e31 := h 31 (by decide) (by decide) (by decide) (by decide)
  have e35 := h 35 (by decide) (by decide) (by decide) (by decide)
  have e38 := h 38 (by decide) (by decide) (by decide) (by decide)
  have e39 := h 39 (by decide) (by decide) (by decide) (by decide)
  have e41 := h 41 (by decide) (by decide) (by decide) (by decide)
  have e48 := h 48 (by decide) (by decide) (by decide) (by decide)
  have e49 := h 49 (by decide) (by decide) (by decide) (by decide)
  have e50 := h 50 (by decide) (by decide) (by decide) (by decide)
  have e51 := h 51 (by decide) (by decide) (by decide) (by decide)
  have e52 := h 52 (by decide) (by decide) (by decide) (by decide)
  have e53 := h 53 (by decide) (by decide) (by decide) (by decide)
  have e54 := h 54 (by decide) (by decide) (by decide) (by decide)
  have e55 := h 55 (by decide) (by decide) (by decide) (by decide)
  have e56 := h 56 (by decide) (by decide) (by decide) (by decide)
  have e57 := h 57 (by decide) (by decide) (by decide) (by decide)
  have e58 := h 58 (by decide) (by decide) (by decide) (by decide)
  have e59 := h 59 (by decide) (by decide) (by decide) (by decide)
  have e60 := h 60 (by decide) (by decide) (by decide) (by decide)
  have f0 := hf 0 (by decide)
  have f20 := hf 20 (by decide)
  have f21 := hf 21 (by decide)
  have f23 := hf 23 (by decide)
  have f24 := hf 24 (by decide)
  have f25 := hf 25 (by decide)
  have f31 := hf 31 (by decide)
  have f33 := hf 33 (by decide)
  have f36 := hf 36 (by decide)
  have f42 := hf 42 (by decide)
  have f43 := hf 43 (by decide)
  have f44 := hf 44 (by decide)
  have f45 := hf 45 (by decide)
  have f46 := hf 46 (by decide)
  have f47 := hf 47 (by decide)
  simp only [iv_S, iv_R, iv_I, iv_G, iv_M, iv_T, iv_L, iv_O, e3, e4, e5, e6, e15, e16, e17, e18, e19, e20, e21, e22, e23, e24, e25, e26, e27, e28, e29, e30, e31, e35, e38, e39, e41, e48, e49, e50, e51, e52, e53, e54, e55, e56, e57, e58, e59, e60, f0, f20, f21, f23, f24, f25, f31, f33, f36, f42, f43, f44, f45, f46, f47]
  exact hr
theorem jl_c18 (a : Int32) : (a < 1) ∨ (∃ j : Nat, 1 ≤ j ∧ j ≤ 8 ∧ a = nI j) ∨ (¬ a < 1 ∧ 8 < a) := by
  by_cases h : a < 1
  · exact Or.inl h
  · by_cases h8 : 8 < a
    · exact Or.inr (Or.inr ⟨h, h8⟩)
    · have h0 : ¬ a < 0 := fun q => h (by rw [Int32.lt_iff_toInt_lt] at q ⊢; rw [show (0 : Int32).toInt = 0 from rfl] at q; rw [show (1 : Int32).toInt = 1 from rfl]; omega)
      obtain ⟨j, hj, rfl⟩ := nI_of h0
      have a1 : ¬ j < 1 := fun q => h (nI_lt (b := 1) q (by decide))
      have a2 : ¬ 8 < j := fun q => h8 (nI_lt (a := 8) q hj)
      exact Or.inr (Or.inl ⟨j, by omega, by omega, rfl⟩)
set_option maxHeartbeats 4000000 in
theorem jv_type {l : Launch} {D : va_G} {cA : ClassId} {ρ : Nat → Nat} {d : Nat} : jq_type l D cA ρ (d + 3) iv_V iv_V := by
  intro σ hI a1 a2
  obtain ⟨⟨m, hm, e1, e2, hin⟩, iS, iR, iI, iG, iM, iT, iL⟩ := id hI
  rcases jl_c18 a2 with l1 | ⟨n, hn1, hn8, rfl⟩ | ⟨l1, l2⟩
  · refine ⟨0, fun σ1 => σ1 = σ, fun Q hQ => ji_1 ⟨fun _ => ⟨Or.inl rfl, hQ _ rfl⟩, fun q => absurd l1 q⟩, fun σ1 hT Q hQ => ?_⟩
    subst hT
    exact ji_90 ⟨fun _ => ⟨Or.inl rfl, hQ _ hI⟩, fun q => absurd l1 q⟩
  · have l1 : ¬ nI n < 1 := nI_nlt (b := 1) hn1 (by omega)
    have l2 : ¬ 8 < nI n := nI_nlt (a := 8) hn8 (by decide)
    by_cases h48 : m + n ≤ 48
    · have x3 : σ 1 1 + nI n ≤ 48 := by rw [e1, nI_add]; exact nI_le (b := 48) h48 (by decide)
      have m3 : σ 34 3 + nI n ≤ 48 := by rw [e2, nI_add]; exact nI_le (b := 48) h48 (by decide)
      have e2' : jz_x a1 n σ 34 3 = nI m := by rw [jz_xp (by decide) (by decide)]; exact e2
      have hD := jz_D (b := a1) n m σ (jz_x a1 n σ) h48 e1 e2' (fun i hi => by rw [jz_xp (p := 37) (by decide) (by decide)]; exact hin i hi)
      have m3' : jz_x a1 n σ 34 3 + nI n ≤ 48 := by rw [e2', ← e2]; exact m3
      refine ⟨1, fun σ1 => σ1 = jz_x a1 n σ, fun Q hQ => ji_1 ⟨fun q => absurd q l1, fun _ => ⟨fun q => absurd q l2, fun _ => ⟨fun _ => ?_, fun q => absurd x3 q⟩⟩⟩, fun σ1 hT Q hQ => ?_⟩
      · refine jx_in jk_33 60 [5] rfl (Nat.le_of_ble_eq_true rfl) ?_
        exact jp_33 n m σ e1 h48 ⟨Or.inr rfl, hQ _ rfl⟩
      · subst hT
        refine jx_in jk_90 60 [29] rfl (Nat.le_of_ble_eq_true rfl) ?_
        refine ⟨fun q => absurd q l1, fun _ => ⟨fun q => absurd q l2, fun _ => ⟨fun _ => ?_, fun q => absurd m3' q⟩⟩⟩
        refine jp_90 n m _ e2' h48 (hQ _ ?_)
        refine ⟨⟨m + n, h48, ?_, hD.2.1, fun i hi => ?_⟩, iv_keepD (σ := σ) (fun p h1 h2 h3 h4 => (jz_mp h4 h3 n _).trans (jz_xp h1 h2 n σ)) (fun f hf => (jz_mf hf n _).trans (by rw [jz_xp (by decide) (by decide)])) ⟨iS, iR, iI, iG, iM, iT, iL⟩⟩
        · rw [jz_mp (by decide) (by decide)]; exact hD.1
        · rw [jz_mp (p := 2) (by decide) (by decide)]; exact hD.2.2 i hi
    · have x3 : ¬ σ 1 1 + nI n ≤ 48 := by rw [e1, nI_add]; exact nI_ge (a := 48) (by omega) (by omega)
      have m3 : ¬ σ 34 3 + nI n ≤ 48 := by rw [e2, nI_add]; exact nI_ge (a := 48) (by omega) (by omega)
      refine ⟨0, fun σ1 => σ1 = σ, fun Q hQ => ji_1 ⟨fun q => absurd q l1, fun _ => ⟨fun q => absurd q l2, fun _ => ⟨fun q => absurd q x3, fun _ => ⟨Or.inl rfl, hQ _ rfl⟩⟩⟩⟩, fun σ1 hT Q hQ => ?_⟩
      subst hT
      exact ji_90 ⟨fun q => absurd q l1, fun _ => ⟨fun q => absurd q l2, fun _ => ⟨fun q => absurd q m3, fun _ => ⟨Or.inl rfl, hQ _ hI⟩⟩⟩⟩
  · refine ⟨0, fun σ1 => σ1 = σ, fun Q hQ => ji_1 ⟨fun q => absurd q l1, fun _ => ⟨fun _ => ⟨Or.inl rfl, hQ _ rfl⟩, fun q => absurd l2 q⟩⟩, fun σ1 hT Q hQ => ?_⟩
    subst hT
    exact ji_90 ⟨fun q => absurd q l1, fun _ => ⟨fun _ => ⟨Or.inl rfl, hQ _ hI⟩, fun q => absurd l2 q⟩⟩

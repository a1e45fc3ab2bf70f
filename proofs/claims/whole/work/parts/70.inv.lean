/-! The invariant between the class's places (0..33) and the model's (34..62) -/
def iv_sum (f : Nat → Int32) : Nat → Int32
  | 0 => 0
  | n + 1 => iv_sum f n + f n
/-- a term at p under lam lambdas, ends at q; g notes where second terms begin; r: how deep it may go -/
def iw_t (f g : Nat → Int32) (e : Nat) : Nat → Nat → Nat → Nat → Prop
  | 0, _, _, _ => False
  | r + 1, p, lam, q => p < e ∧ ((f p = 0 ∧ p + 1 < e ∧ f (p + 1) < nI lam ∧ q = p + 2) ∨ (f p = 1 ∧ iw_t f g e r (p + 1) (lam + 1) q) ∨ (f p = 2 ∧ ∃ q1, iw_t f g e r (p + 1) lam q1 ∧ iw_t f g e r q1 lam q ∧ g p = nI q1) ∨
      (f p = 3 ∧ p + 1 < e ∧ q = p + 2) ∨ (f p = 4 ∧ p + 1 < e ∧ f (p + 1) ≤ 10 ∧ q = p + 2) ∨ ((f p = 5 ∨ f p = 6) ∧ iw_t f g e r (p + 1) lam q) ∨ ((f p = 7 ∨ f p = 8) ∧ q = p + 1))
def iv_D (σ : jx_St) : Prop := ∃ n : Nat, n ≤ 48 ∧ σ 1 1 = nI n ∧ σ 34 3 = nI n ∧ ∀ i, i < n → σ 2 i = σ 37 i ∧ ∃ b : Nat, b < 256 ∧ σ 37 i = nI b
def iv_S (σ : jx_St) : Prop := ∃ c : Nat, c ≤ 6 ∧ σ 4 2 = nI c ∧ σ 34 0 = nI c ∧ ∀ s, s < c → ∃ len : Nat, len ≤ 48 ∧ (∀ i, i < len → σ 5 (48 * s + i) = σ 35 (48 * s + i) ∧ ∃ b : Nat, b < 256 ∧ σ 35 (48 * s + i) = nI b) ∧ iw_t (σ 35) (σ 6) (48 * s + len) 21 (48 * s) 0 (48 * s + len)
def iv_R (σ : jx_St) : Prop := (σ 34 24 = 0 ∧ σ 3 13 = -1) ∨ (σ 34 24 = 1 ∧ σ 3 13 = σ 34 23 ∧ σ 3 12 = σ 34 21 ∧ (∃ k : Nat, k < 4 ∧ σ 34 23 = nI k) ∧ (1 < σ 34 23 → σ 3 14 = -1 ∧ σ 3 15 = 0) ∧
  (σ 34 23 ≤ 1 → ∃ v kd : Nat, v < 260 ∧ kd < 6 ∧ σ 34 20 = nI v ∧ σ 38 v = nI kd ∧ σ 3 14 = (if 2 < kd then 3 else nI kd) ∧ σ 3 15 = (if 2 < kd then 0 else if kd = 2 then σ 41 v else σ 39 v)))
def iv_I (σ : jx_St) : Prop := ∃ n : Nat, n ≤ 3 ∧ σ 23 2 = nI n ∧ σ 34 33 = nI n ∧ ∀ i, i < n → σ 24 i = σ 54 i ∧ σ 25 i = σ 55 i
def iv_G (σ : jx_St) : Prop := ∃ g : Nat, g ≤ 3 ∧ σ 26 3 = nI g ∧ σ 34 36 = nI g ∧ ∀ i, i < g → σ 27 i = σ 56 i ∧ σ 28 i = σ 57 i ∧ (∃ k : Nat, k < 10 ∧ σ 56 i = nI k) ∧ ∀ t, t < 3 → σ 29 (3 * i + t) = σ 58 (3 * i + t) ∧ ∃ k : Nat, k ≤ 1000000 ∧ σ 58 (3 * i + t) = nI k
def iv_M (σ : jx_St) : Prop := σ 59 0 = 0 ∧ ∀ t, t < 3 → σ 30 t = σ 59 t ∧ σ 31 t = σ 60 t ∧ -1000000 ≤ σ 59 t ∧ σ 59 t ≤ 1000000
def iv_T (σ : jx_St) : Prop := σ 23 6 = σ 34 42 ∧ σ 23 7 = σ 34 43 ∧ σ 23 8 = σ 34 44 ∧ σ 23 9 = σ 34 45 ∧ σ 23 10 = σ 34 46 ∧ σ 23 11 = σ 34 47 ∧ (∃ k : Nat, k ≤ 1000000 ∧ σ 34 42 = nI k) ∧ (∃ k : Nat, k < 16 ∧ σ 34 45 = nI k) ∧ (∃ k : Nat, k < 100 ∧ σ 34 46 = nI k)
def iv_O (σ : jx_St) (o h : Nat) : Prop := σ 17 o = σ 49 o ∧ σ 18 o = σ 50 o ∧ σ 20 o = σ 52 o ∧ (∃ k : Nat, k < 10 ∧ σ 49 o = nI k) ∧ (σ 52 o = -1 ∨ ∃ j : Nat, j ≤ h ∧ σ 52 o = nI j) ∧ (∀ t, t < 3 → σ 19 (3 * o + t) = σ 48 (3 * o + t) ∧ ∃ k : Nat, k ≤ 1000000 ∧ σ 48 (3 * o + t) = nI k) ∧ (σ 51 o = -1 ∨ ∃ j : Nat, j ≤ h ∧ σ 51 o = nI j)
def iv_L (σ : jx_St) : Prop := ∃ m h : Nat, 2 ≤ m ∧ m ≤ 48 ∧ h ≤ 40 ∧ σ 16 3 = nI m ∧ σ 34 25 = nI m ∧ σ 15 5 = nI h ∧ σ 34 31 = nI h ∧ (∀ o, o < m → iv_O σ o h) ∧
  (∀ j, j ≤ h → ∃ z : Nat, 2 ≤ z ∧ z ≤ m ∧ σ 21 j = nI z ∧ ∀ o, o < m → (o < z ↔ σ 51 o < nI j)) ∧ σ 15 4 = iv_sum (σ 53) (h + 1) ∧ (∀ j, j ≤ h → σ 22 j = iv_sum (σ 53) j) ∧ ∀ j, h < j → j ≤ 40 → σ 53 j = 0
def iv_V (σ : jx_St) : Prop := iv_D σ ∧ iv_S σ ∧ iv_R σ ∧ iv_I σ ∧ iv_G σ ∧ iv_M σ ∧ iv_T σ ∧ iv_L σ
theorem jx_coin_in (a1 : Int32) : ∃ k : Nat, k ≤ 1000000 ∧ jx_coin a1 = nI k := by
  by_cases h : a1 < 0
  · have hz : a1.toInt < 0 := by
      rw [Int32.lt_iff_toInt_lt] at h
      exact h
    have hlo := Int32.le_toInt a1
    have hr : a1 - a1 / 1000 * 1000 ≤ 0 := by
      rw [Int32.le_iff_toInt_le, Int32.toInt_sub, Int32.toInt_mul, Int32.toInt_div_of_ne_right _ _ (by decide), show (1000 : Int32).toInt = 1000 from rfl, show (0 : Int32).toInt = 0 from rfl]
      obtain ⟨w, hw⟩ : ∃ w : Int, a1.toInt = -w := ⟨-a1.toInt, by omega⟩
      rw [hw, Int.neg_tdiv, Int.tdiv_eq_ediv_of_nonneg (by omega)]
      have e1 : Int.bmod (-(w / 1000) * 1000) (2 ^ 32) = -(w / 1000) * 1000 := Int.bmod_eq_of_le (by omega) (by omega)
      rw [e1]
      have e2 : Int.bmod (-w - -(w / 1000) * 1000) (2 ^ 32) = -w - -(w / 1000) * 1000 := Int.bmod_eq_of_le (by omega) (by omega)
      rw [e2]
      omega
    rw [jx_coin_le hr]
    exact ⟨500, by decide, rfl⟩
  · obtain ⟨j, hj, rfl⟩ := nI_of h
    have e : nI j - nI j / 1000 * 1000 = nI (j % 1000) := pk_rem (d := 1000) hj (by decide) (by decide)
    unfold jx_coin
    rw [e, if_neg (nI_pos (by omega))]
    exact ⟨500 + j % 1000, by omega, nI_add 500 _⟩
theorem iv_start {a1 : Int32} {σ : jx_St} (hX : jx_FX a1 σ) (hM : jx_FM a1 σ) : iv_V σ := by
  obtain ⟨x1, x2, x3, x4, x5, x6, x7, x8, x9, x10, x11, x12, x13, x14, x15, x16, x17, x18, x19, x20, x21, x22, x23, x24, x25, x26, x27, x28, x29, x30, x31, x32, x33, x34⟩ := hX
  obtain ⟨y1, y2, y3, y4, y5, y6, y7, y8, y9, y10, y11, y12, y13, y14, y15, y16, y17, y18, y19, y20, y21, y22, y23, y24, y25, y26, y27, y28, y29, y30, y31, y32, y33, y34, y35, y36, y37⟩ := hM
  obtain ⟨kc, hkc, ekc⟩ := jx_coin_in a1
  refine ⟨⟨0, by decide, x1, y2, fun i hi => absurd hi (Nat.not_lt_zero _)⟩, ⟨0, by decide, x3, y1, fun i hi => absurd hi (Nat.not_lt_zero _)⟩, Or.inl ⟨y4, x2⟩, ⟨0, by decide, x7, y7, fun i hi => absurd hi (Nat.not_lt_zero _)⟩, ⟨0, by decide, x8, y8, fun i hi => absurd hi (Nat.not_lt_zero _)⟩, ⟨y30, fun t ht => ?_⟩, ⟨?_, ?_, ?_, ?_, ?_, ?_, ⟨0, by decide, y9⟩, ⟨0, by decide, y12⟩, ⟨0, by decide, y13⟩⟩, ⟨2, 0, by decide, by decide, by decide, x6, y5, x5, y6, fun o ho => ?_, fun j hj => ?_, ?_, fun j hj => ?_, fun j _ _ => by rw [y29]⟩⟩
  · match t, ht with
    | 0, _ => exact ⟨by rw [x15, y30], by rw [x18, y33], by rw [y30]; decide, by rw [y30]; decide⟩
    | 1, _ => exact ⟨by rw [x16, y31], by rw [x19, y34], by rw [y31]; decide, by rw [y31]; decide⟩
    | 2, _ => exact ⟨by rw [x17, y32], by rw [x20, y35], by rw [y32]; decide, by rw [y32]; decide⟩
  · rw [x9, y9]
  · rw [x10, y10]
  · rw [x11, y11]
  · rw [x12, y12]
  · rw [x13, y13]
  · rw [x14, y14]
  · match o, ho with
    | 0, _ =>
      refine ⟨by rw [x21, y21], by rw [x23, y23], by rw [x31, y27], ⟨0, by decide, y21⟩, Or.inl y27, fun t ht => ?_, Or.inl y25⟩
      match t, ht with
      | 0, _ => exact ⟨x25.trans y15.symm, kc, hkc, y15.trans ekc⟩
      | 1, _ => exact ⟨x26.trans y16.symm, 0, by decide, y16⟩
      | 2, _ => exact ⟨x27.trans y17.symm, 0, by decide, y17⟩
    | 1, _ =>
      refine ⟨by rw [x22, y22], by rw [x24, y24], by rw [x32, y28], ⟨1, by decide, y22⟩, Or.inl y28, fun t ht => ?_, Or.inl y26⟩
      match t, ht with
      | 0, _ => exact ⟨x28.trans y18.symm, kc, hkc, y18.trans ekc⟩
      | 1, _ => exact ⟨x29.trans y19.symm, 0, by decide, y19⟩
      | 2, _ => exact ⟨x30.trans y20.symm, 0, by decide, y20⟩
  · have e : j = 0 := Nat.le_zero.mp hj
    subst e
    refine ⟨2, by decide, by decide, x33, fun o ho => ⟨fun _ => ?_, fun _ => ho⟩⟩
    match o, ho with
    | 0, _ => rw [y25]; decide
    | 1, _ => rw [y26]; decide
  · rw [x4, y29]; rfl
  · have e : j = 0 := Nat.le_zero.mp hj
    subst e
    rw [x34]; rfl

/-! submit: ints and longs agree -/
def su_S (f : Nat → Int32) : Nat → Int
  | 0 => 0
  | n + 1 => su_S f n + (f n).toInt
theorem su_Sb {f : Nat → Int32} : ∀ {n : Nat}, (∀ i, i < n → 0 ≤ (f i).toInt ∧ (f i).toInt ≤ 1000000) → 0 ≤ su_S f n ∧ su_S f n ≤ 1000000 * (n : Int)
  | 0, _ => ⟨Int.le_refl _, Int.le_refl _⟩
  | n + 1, h => by
    have a := su_Sb (f := f) (n := n) (fun i hi => h i (by omega))
    have b := h n (by omega)
    show 0 ≤ su_S f n + (f n).toInt ∧ su_S f n + (f n).toInt ≤ 1000000 * ((n + 1 : Nat) : Int)
    omega
theorem su_Sc {f f' : Nat → Int32} : ∀ {n : Nat}, (∀ i, i < n → f i = f' i) → su_S f n = su_S f' n
  | 0, _ => rfl
  | n + 1, h => by
    show su_S f n + (f n).toInt = su_S f' n + (f' n).toInt
    rw [su_Sc (fun i hi => h i (by omega)), h n (by omega)]
theorem su_iv {f : Nat → Int32} : ∀ {n : Nat}, n ≤ 3 → (∀ i, i < n → 0 ≤ (f i).toInt ∧ (f i).toInt ≤ 1000000) → (iv_sum f n).toInt = su_S f n
  | 0, _, _ => rfl
  | n + 1, hn, h => by
    have ih := su_iv (f := f) (n := n) (by omega) (fun i hi => h i (by omega))
    have a := su_Sb (f := f) (n := n) (fun i hi => h i (by omega))
    have b := h n (by omega)
    show (iv_sum f n + f n).toInt = su_S f n + (f n).toInt
    rw [Int32.toInt_add, ih]
    exact Int.bmod_eq_of_le (by omega) (by omega)
theorem su_lv {f : Nat → Int32} {x : Int64} (hx : -1000000 ≤ x.toInt ∧ x.toInt ≤ 1000000) : ∀ {n : Nat}, n ≤ 3 → (∀ i, i < n → 0 ≤ (f i).toInt ∧ (f i).toInt ≤ 1000000) → (su_ls f x n).toInt = x.toInt + su_S f n
  | 0, _, _ => (Int.add_zero _).symm
  | n + 1, hn, h => by
    have ih := su_lv (f := f) (n := n) hx (by omega) (fun i hi => h i (by omega))
    have a := su_Sb (f := f) (n := n) (fun i hi => h i (by omega))
    have b := h n (by omega)
    show (su_ls f x n + (f n).toInt64).toInt = x.toInt + (su_S f n + (f n).toInt)
    rw [Int64.toInt_add, ih, Int32.toInt_toInt64]
    rw [Int.bmod_eq_of_le (by omega) (by omega)]
    omega
theorem su_eq {f f' a a' : Nat → Int32} {n g : Nat} {mt fe : Int32} (hn : n ≤ 3) (hg : g ≤ 3) (hf : ∀ i, i < n → 0 ≤ (f i).toInt ∧ (f i).toInt ≤ 1000000) (ha : ∀ i, i < g → 0 ≤ (a i).toInt ∧ (a i).toInt ≤ 1000000) (ef : ∀ i, i < n → f' i = f i) (ea : ∀ i, i < g → a' i = a i) (hm : -1000000 ≤ mt.toInt ∧ mt.toInt ≤ 1000000) (he : 0 ≤ fe.toInt ∧ fe.toInt ≤ 1000000) :
    iv_sum f n + mt = iv_sum a g + fe ↔ su_ls f' mt.toInt64 n = su_ls a' fe.toInt64 g := by
  have b1 := su_Sb hf
  have b2 := su_Sb ha
  have i1 := su_iv hn hf
  have i2 := su_iv hg ha
  have l1 := su_lv (f := f') (x := mt.toInt64) (by rw [Int32.toInt_toInt64]; exact hm) hn (fun i hi => by rw [ef i hi]; exact hf i hi)
  have l2 := su_lv (f := a') (x := fe.toInt64) (by rw [Int32.toInt_toInt64]; omega) hg (fun i hi => by rw [ea i hi]; exact ha i hi)
  rw [Int32.toInt_toInt64, su_Sc ef] at l1
  rw [Int32.toInt_toInt64, su_Sc ea] at l2
  have x1 : (iv_sum f n + mt).toInt = su_S f n + mt.toInt := by
    rw [Int32.toInt_add, i1]
    exact Int.bmod_eq_of_le (by omega) (by omega)
  have x2 : (iv_sum a g + fe).toInt = su_S a g + fe.toInt := by
    rw [Int32.toInt_add, i2]
    exact Int.bmod_eq_of_le (by omega) (by omega)
  rw [← Int32.toInt_inj, ← Int64.toInt_inj, x1, x2, l1, l2]
  omega
theorem su_nb {k : Nat} {x : Int32} (hk : k ≤ 1000000) (h : x = nI k) : 0 ≤ x.toInt ∧ x.toInt ≤ 1000000 := by
  rw [h, nI_toInt (by omega)]
  omega
theorem su_bal {σ : jx_St} {m h n g t : Nat} (ht : t < 3) (hm : m ≤ 48) (hn : n ≤ 3) (hg : g ≤ 3) (hO : ∀ o, o < m → iv_O σ o h) (hin : ∀ i, i < n → ∃ o, o < m ∧ σ 54 i = nI o) (e24 : ∀ i, i < n → σ 24 i = σ 54 i)
    (hG : ∀ i, i < g → ∀ t, t < 3 → σ 29 (3 * i + t) = σ 58 (3 * i + t) ∧ ∃ k : Nat, k ≤ 1000000 ∧ σ 58 (3 * i + t) = nI k) (hM : σ 30 t = σ 59 t ∧ -1000000 ≤ σ 59 t ∧ σ 59 t ≤ 1000000) (hF : σ 23 6 = σ 34 42 ∧ ∃ k : Nat, k ≤ 1000000 ∧ σ 34 42 = nI k) : su_cb σ n g t ↔ su_mb σ n g t := by
  unfold su_cb su_mb
  obtain ⟨k, hk, ek⟩ := hF.2
  have e64 : (if t = 0 then (σ 34 42).toInt64 else 0) = (if t = 0 then σ 23 6 else 0 : Int32).toInt64 := by
    by_cases c : t = 0
    · rw [if_pos c, if_pos c, hF.1]
    · rw [if_neg c, if_neg c]; rfl
  rw [e64, hM.1]
  have hcl : ∀ i, i < n → ∃ o, o < m ∧ (σ 54 i).toNatClampNeg = o := fun i hi => by
    obtain ⟨o, ho, eo⟩ := hin i hi
    exact ⟨o, ho, by rw [eo]; exact nI_clamp (by omega)⟩
  refine su_eq hn hg (fun i hi => ?_) (fun i hi => ?_) (fun i hi => ?_) (fun i hi => ?_) ?_ ?_
  · obtain ⟨o, ho, eo⟩ := hcl i hi
    rw [e24 i hi, eo]
    obtain ⟨e, k, hk, ek⟩ := (hO o ho).2.2.2.2.2.1 t ht
    exact su_nb hk (e.trans ek)
  · obtain ⟨e, k, hk, ek⟩ := hG i hi t ht
    exact su_nb hk (e.trans ek)
  · obtain ⟨o, ho, eo⟩ := hcl i hi
    show σ 48 (3 * (σ 54 i).toNatClampNeg + t) = σ 19 (3 * (σ 24 i).toNatClampNeg + t)
    rw [e24 i hi, eo]
    exact ((hO o ho).2.2.2.2.2.1 t ht).1.symm
  · exact (hG i hi t ht).1.symm
  · obtain ⟨-, h1, h2⟩ := hM
    rw [Int32.le_iff_toInt_le] at h1 h2
    exact ⟨h1, h2⟩
  · by_cases c : t = 0
    · rw [if_pos c]; exact su_nb hk (hF.1.trans ek)
    · rw [if_neg c]; decide

/-! submit: the first phase -/
def su_3 (σ : jx_St) (n m : Nat) : Prop := ∀ i, i < n → su_th σ m (σ 54 i)
def su_4 (σ : jx_St) : Prop := ¬ σ 34 31 < σ 34 43 ∧ σ 34 31 ≤ σ 34 44
def su_5 (σ : jx_St) : Prop := 5 + σ 34 33 + σ 34 36 + σ 34 46 / 8 ≤ σ 34 42
def su_6 (σ : jx_St) (n g : Nat) : Prop := ∀ t, t < 3 → su_mb σ n g t
def su_7 (σ : jx_St) (n : Nat) : Prop := ∀ i, i < n → 4 ≤ su_L σ i ∨ su_sg σ (su_L σ i)
def su_9 (σ : jx_St) (n m : Nat) : Prop := 1 ≤ su_A2 σ n → su_gu σ m n
def su_v (σ : jx_St) (n g m c v : Nat) : Prop := (v = 2 ∧ n = 0) ∨ (v = 3 ∧ n ≠ 0 ∧ ¬ su_3 σ n m) ∨ (v = 4 ∧ n ≠ 0 ∧ su_3 σ n m ∧ ¬ su_4 σ) ∨ (v = 5 ∧ n ≠ 0 ∧ su_3 σ n m ∧ su_4 σ ∧ ¬ su_5 σ) ∨ (v = 6 ∧ n ≠ 0 ∧ su_3 σ n m ∧ su_4 σ ∧ su_5 σ ∧ ¬ su_6 σ n g) ∨ (v = 7 ∧ n ≠ 0 ∧ su_3 σ n m ∧ su_4 σ ∧ su_5 σ ∧ su_6 σ n g ∧ ¬ su_7 σ n) ∨
  (v = 8 ∧ n ≠ 0 ∧ su_3 σ n m ∧ su_4 σ ∧ su_5 σ ∧ su_6 σ n g ∧ su_7 σ n ∧ ¬ su_A2 σ n ≤ c) ∨ (v = 9 ∧ n ≠ 0 ∧ su_3 σ n m ∧ su_4 σ ∧ su_5 σ ∧ su_6 σ n g ∧ su_7 σ n ∧ su_A2 σ n ≤ c ∧ ¬ su_9 σ n m) ∨
  (v = 10 ∧ n ≠ 0 ∧ su_3 σ n m ∧ su_4 σ ∧ su_5 σ ∧ su_6 σ n g ∧ su_7 σ n ∧ su_A2 σ n ≤ c ∧ su_9 σ n m ∧ ¬ m + g ≤ 48) ∨ (v = 0 ∧ n ≠ 0 ∧ su_3 σ n m ∧ su_4 σ ∧ su_5 σ ∧ su_6 σ n g ∧ su_7 σ n ∧ su_A2 σ n ≤ c ∧ su_9 σ n m ∧ m + g ≤ 48)
theorem su_vex (σ : jx_St) (n g m c : Nat) : ∃ v, su_v σ n g m c v := by
  by_cases h2 : n = 0
  · exact ⟨2, Or.inl ⟨rfl, h2⟩⟩
  by_cases h3 : su_3 σ n m
  · by_cases h4 : su_4 σ
    · by_cases h5 : su_5 σ
      · by_cases h6 : su_6 σ n g
        · by_cases h7 : su_7 σ n
          · by_cases h8 : su_A2 σ n ≤ c
            · by_cases h9 : su_9 σ n m
              · by_cases h10 : m + g ≤ 48
                · exact ⟨0, Or.inr (Or.inr (Or.inr (Or.inr (Or.inr (Or.inr (Or.inr (Or.inr (Or.inr ⟨rfl, h2, h3, h4, h5, h6, h7, h8, h9, h10⟩))))))))⟩
                · exact ⟨10, Or.inr (Or.inr (Or.inr (Or.inr (Or.inr (Or.inr (Or.inr (Or.inr (Or.inl ⟨rfl, h2, h3, h4, h5, h6, h7, h8, h9, h10⟩))))))))⟩
              · exact ⟨9, Or.inr (Or.inr (Or.inr (Or.inr (Or.inr (Or.inr (Or.inr (Or.inl ⟨rfl, h2, h3, h4, h5, h6, h7, h8, h9⟩)))))))⟩
            · exact ⟨8, Or.inr (Or.inr (Or.inr (Or.inr (Or.inr (Or.inr (Or.inl ⟨rfl, h2, h3, h4, h5, h6, h7, h8⟩))))))⟩
          · exact ⟨7, Or.inr (Or.inr (Or.inr (Or.inr (Or.inr (Or.inl ⟨rfl, h2, h3, h4, h5, h6, h7⟩)))))⟩
        · exact ⟨6, Or.inr (Or.inr (Or.inr (Or.inr (Or.inl ⟨rfl, h2, h3, h4, h5, h6⟩))))⟩
      · exact ⟨5, Or.inr (Or.inr (Or.inr (Or.inl ⟨rfl, h2, h3, h4, h5⟩)))⟩
    · exact ⟨4, Or.inr (Or.inr (Or.inl ⟨rfl, h2, h3, h4⟩))⟩
  · exact ⟨3, Or.inr (Or.inl ⟨rfl, h2, h3⟩)⟩
section SP
variable {l : Launch} {D : va_G} {cA : ClassId} {ρ : Nat → Nat} {d : Nat} {Q : Option Value → jx_St → Prop} {σ : jx_St} {m h n g c v : Nat}
theorem su_hin (h3 : su_3 σ n m) : ∀ i, i < n → ∃ o, o < m ∧ σ 54 i = nI o := fun i hi => by
  obtain ⟨o, a, b, -⟩ := h3 i hi
  exact ⟨o, a, b⟩
/-- the first phase of the model -/
theorem su_124 (hm : m ≤ 48) (em : σ 34 25 = nI m) (hh : h ≤ 40) (hO : im_O σ m h) (hn : n ≤ 3) (en : σ 34 33 = nI n) (hg : g ≤ 3) (eg : σ 34 36 = nI g) (hc : c ≤ 6) (ec : σ 34 0 = nI c) (hLM : su_3 σ n m → su_LM σ m n) (hf : ∃ k : Nat, k ≤ 1000000 ∧ σ 34 42 = nI k) (hv : su_v σ n g m c v) (hQ : Q (some (.int (nI v))) σ) : jx_C l D cA ρ jx_XM (d + 4) 124 [.ref 34] σ Q := by
  by_cases h2 : n = 0
  · have hv2 : v = 2 := by
      rcases hv with ⟨a, -⟩ | ⟨-, a, -⟩ | ⟨-, a, -⟩ | ⟨-, a, -⟩ | ⟨-, a, -⟩ | ⟨-, a, -⟩ | ⟨-, a, -⟩ | ⟨-, a, -⟩ | ⟨-, a, -⟩ | ⟨-, a, -⟩
      · exact a
      all_goals exact absurd h2 a
    subst hv2
    have e0 : σ 34 33 = 0 := by rw [en, h2]; rfl
    exact ji_124 ⟨fun q => absurd e0 q, fun _ => hQ⟩
  have n0 : ¬ σ 34 33 = 0 := by rw [en]; exact nI_ne0 (by omega) (by omega)
  refine ji_124 ⟨fun _ => ?_, fun q => absurd q n0⟩
  refine su_118 hm em hh hO hn en (fun h3 => ?_) (fun h3 => ?_)
  rotate_left
  · have hv2 : v = 3 := by
      rcases hv with ⟨-, a⟩ | ⟨a, -⟩ | ⟨-, -, a, -⟩ | ⟨-, -, a, -⟩ | ⟨-, -, a, -⟩ | ⟨-, -, a, -⟩ | ⟨-, -, a, -⟩ | ⟨-, -, a, -⟩ | ⟨-, -, a, -⟩ | ⟨-, -, a, -⟩
      · exact absurd a h2
      · exact a
      all_goals exact absurd a h3
    subst hv2
    exact ⟨fun q => absurd rfl q, fun _ => hQ⟩
  have hin := su_hin h3
  have hL := hLM h3
  refine ⟨fun _ => ?_, fun q => absurd q (by decide)⟩
  by_cases h4 : su_4 σ
  rotate_left
  · have hv2 : v = 4 := by
      rcases hv with ⟨-, a⟩ | ⟨-, -, a⟩ | ⟨a, -⟩ | ⟨-, -, -, a, -⟩ | ⟨-, -, -, a, -⟩ | ⟨-, -, -, a, -⟩ | ⟨-, -, -, a, -⟩ | ⟨-, -, -, a, -⟩ | ⟨-, -, -, a, -⟩ | ⟨-, -, -, a, -⟩
      · exact absurd a h2
      · exact absurd h3 a
      · exact a
      all_goals exact absurd a h4
    subst hv2
    by_cases q1 : σ 34 31 < σ 34 43
    · exact ⟨fun _ => hQ, fun q => absurd q1 q⟩
    · exact ⟨fun q => absurd q q1, fun _ => ⟨fun q => absurd ⟨q1, q⟩ h4, fun _ => hQ⟩⟩
  refine ⟨fun q => absurd q h4.1, fun _ => ⟨fun _ => ⟨by decide, ?_⟩, fun q => absurd h4.2 q⟩⟩
  by_cases h5 : su_5 σ
  rotate_left
  · have hv2 : v = 5 := by
      rcases hv with ⟨-, a⟩ | ⟨-, -, a⟩ | ⟨-, -, -, a⟩ | ⟨a, -⟩ | ⟨-, -, -, -, a, -⟩ | ⟨-, -, -, -, a, -⟩ | ⟨-, -, -, -, a, -⟩ | ⟨-, -, -, -, a, -⟩ | ⟨-, -, -, -, a, -⟩ | ⟨-, -, -, -, a, -⟩
      · exact absurd a h2
      · exact absurd h3 a
      · exact absurd h4 a
      · exact a
      all_goals exact absurd a h5
    subst hv2
    exact ⟨fun q => absurd q h5, fun _ => hQ⟩
  refine ⟨fun _ => ?_, fun q => absurd h5 q⟩
  refine su_119 hm hn en hg eg hin (fun h6 => ?_) (fun h6 => ?_)
  rotate_left
  · have hv2 : v = 6 := by
      rcases hv with ⟨-, a⟩ | ⟨-, -, a⟩ | ⟨-, -, -, a⟩ | ⟨-, -, -, -, a⟩ | ⟨a, -⟩ | ⟨-, -, -, -, -, a, -⟩ | ⟨-, -, -, -, -, a, -⟩ | ⟨-, -, -, -, -, a, -⟩ | ⟨-, -, -, -, -, a, -⟩ | ⟨-, -, -, -, -, a, -⟩
      · exact absurd a h2
      · exact absurd h3 a
      · exact absurd h4 a
      · exact absurd h5 a
      · exact a
      all_goals exact absurd a h6
    subst hv2
    exact ⟨fun q => absurd rfl q, fun _ => hQ⟩
  refine ⟨fun _ => ?_, fun q => absurd q (by decide)⟩
  refine su_121 hm hn en hL (fun h7 => ?_) (fun h7 => ?_)
  rotate_left
  · have hv2 : v = 7 := by
      rcases hv with ⟨-, a⟩ | ⟨-, -, a⟩ | ⟨-, -, -, a⟩ | ⟨-, -, -, -, a⟩ | ⟨-, -, -, -, -, a⟩ | ⟨a, -⟩ | ⟨-, -, -, -, -, -, a, -⟩ | ⟨-, -, -, -, -, -, a, -⟩ | ⟨-, -, -, -, -, -, a, -⟩ | ⟨-, -, -, -, -, -, a, -⟩
      · exact absurd a h2
      · exact absurd h3 a
      · exact absurd h4 a
      · exact absurd h5 a
      · exact absurd h6 a
      · exact a
      all_goals exact absurd a h7
    subst hv2
    exact ⟨fun q => absurd rfl q, fun _ => hQ⟩
  refine ⟨fun _ => ?_, fun q => absurd q (by decide)⟩
  have hA2 : su_A2 σ n < 100 := by
    have hk10 : ∀ i, i < n → su_k σ i < 10 := fun i hi => by
      obtain ⟨o, kk, ho, hk, a2, a4, a5, a6⟩ := hL i hi
      rw [a6]; exact hk
    have := su_Alt hk10
    unfold su_A2 su_A1
    split <;> split <;> omega
  have c8 : nI (su_A2 σ n) - 1 < σ 34 0 ↔ su_A2 σ n ≤ c := by
    have e3 : (nI (su_A2 σ n) - 1).toInt = (su_A2 σ n : Int) - 1 := pk_sub_toInt (a := su_A2 σ n) (b := 1) (by omega) (by decide)
    rw [ec, Int32.lt_iff_toInt_lt, e3, nI_toInt (by omega)]
    omega
  have c9 : nI (su_A2 σ n) - 1 < 0 ↔ ¬ 1 ≤ su_A2 σ n := by
    have e3 : (nI (su_A2 σ n) - 1).toInt = (su_A2 σ n : Int) - 1 := pk_sub_toInt (a := su_A2 σ n) (b := 1) (by omega) (by decide)
    rw [Int32.lt_iff_toInt_lt, e3, show (0 : Int32).toInt = 0 from rfl]
    omega
  refine su_122 hm hn en hL ?_
  by_cases h8 : su_A2 σ n ≤ c
  rotate_left
  · have hv2 : v = 8 := by
      rcases hv with ⟨-, a⟩ | ⟨-, -, a⟩ | ⟨-, -, -, a⟩ | ⟨-, -, -, -, a⟩ | ⟨-, -, -, -, -, a⟩ | ⟨-, -, -, -, -, -, a⟩ | ⟨a, -⟩ | ⟨-, -, -, -, -, -, -, a, -⟩ | ⟨-, -, -, -, -, -, -, a, -⟩ | ⟨-, -, -, -, -, -, -, a, -⟩
      · exact absurd a h2
      · exact absurd h3 a
      · exact absurd h4 a
      · exact absurd h5 a
      · exact absurd h6 a
      · exact absurd h7 a
      · exact a
      all_goals exact absurd a h8
    subst hv2
    exact ⟨fun q => absurd (c8.mp q) h8, fun _ => hQ⟩
  refine ⟨fun _ => ?_, fun q => absurd (c8.mpr h8) q⟩
  refine su_122 hm hn en hL ?_
  have room : su_9 σ n m → (σ 34 25 + σ 34 36 ≤ 48 → Q (some (.int 0)) σ) ∧ (¬ σ 34 25 + σ 34 36 ≤ 48 → Q (some (.int 10)) σ) := fun h9 => by
    have e1 : σ 34 25 + σ 34 36 ≤ 48 ↔ m + g ≤ 48 := by
      rw [em, eg, nI_add]
      exact nI_leI (b := 48) (by omega) (by decide)
    rcases hv with ⟨-, a⟩ | ⟨-, -, a⟩ | ⟨-, -, -, a⟩ | ⟨-, -, -, -, a⟩ | ⟨-, -, -, -, -, a⟩ | ⟨-, -, -, -, -, -, a⟩ | ⟨-, -, -, -, -, -, -, a⟩ | ⟨-, -, -, -, -, -, -, -, a⟩ | ⟨rfl, -, -, -, -, -, -, -, -, a⟩ | ⟨rfl, -, -, -, -, -, -, -, -, a⟩
    · exact absurd a h2
    · exact absurd h3 a
    · exact absurd h4 a
    · exact absurd h5 a
    · exact absurd h6 a
    · exact absurd h7 a
    · exact absurd h8 a
    · exact absurd h9 a
    · exact ⟨fun z => absurd (e1.mp z) a, fun _ => hQ⟩
    · exact ⟨fun _ => hQ, fun z => absurd (e1.mpr a) z⟩
  by_cases hA : 1 ≤ su_A2 σ n
  · refine ⟨fun q => absurd hA (c9.mp q), fun _ => ?_⟩
    refine su_123 hm em hh hO hn en hf (fun hgu => ?_) (fun hgu => ?_)
    · exact ⟨fun _ => room (fun _ => hgu), fun q => absurd q (by decide)⟩
    · have hv2 : v = 9 := by
        rcases hv with ⟨-, a⟩ | ⟨-, -, a⟩ | ⟨-, -, -, a⟩ | ⟨-, -, -, -, a⟩ | ⟨-, -, -, -, -, a⟩ | ⟨-, -, -, -, -, -, a⟩ | ⟨-, -, -, -, -, -, -, a⟩ | ⟨a, -⟩ | ⟨-, -, -, -, -, -, -, -, a, -⟩ | ⟨-, -, -, -, -, -, -, -, a, -⟩
        · exact absurd a h2
        · exact absurd h3 a
        · exact absurd h4 a
        · exact absurd h5 a
        · exact absurd h6 a
        · exact absurd h7 a
        · exact absurd h8 a
        · exact a
        all_goals exact absurd (a hA) hgu
      subst hv2
      exact ⟨fun q => absurd rfl q, fun _ => hQ⟩
  · exact ⟨fun _ => room (fun z => absurd z hA), fun q => absurd (c9.mpr hA) q⟩
/-- the first phase of the program -/
theorem su_20 (hm : m ≤ 48) (em : σ 16 3 = nI m) (hh : h ≤ 40) (hO : ∀ o, o < m → iv_O σ o h) (hn : n ≤ 3) (en : σ 23 2 = nI n) (en2 : σ 34 33 = nI n) (e24 : ∀ i, i < n → σ 24 i = σ 54 i) (hg : g ≤ 3) (eg : σ 26 3 = nI g) (eg2 : σ 34 36 = nI g) (hG : ∀ i, i < g → ∀ t, t < 3 → σ 29 (3 * i + t) = σ 58 (3 * i + t) ∧ ∃ k : Nat, k ≤ 1000000 ∧ σ 58 (3 * i + t) = nI k) (hc : c ≤ 6) (ec : σ 4 2 = nI c) (hM : ∀ t, t < 3 → σ 30 t = σ 59 t ∧ -1000000 ≤ σ 59 t ∧ σ 59 t ≤ 1000000) (e15 : σ 15 5 = σ 34 31) (hT : iv_T σ) (hv : su_v σ n g m c v) (hQ : Q (some (.int (nI v))) σ) : jx_C l D cA ρ jx_XM (d + 4) 20 [.ref 0] σ Q := by
  obtain ⟨e6, e7, e8, e9, e10, e11, hf, -, -⟩ := hT
  by_cases h2 : n = 0
  · have hv2 : v = 2 := by
      rcases hv with ⟨a, -⟩ | ⟨-, a, -⟩ | ⟨-, a, -⟩ | ⟨-, a, -⟩ | ⟨-, a, -⟩ | ⟨-, a, -⟩ | ⟨-, a, -⟩ | ⟨-, a, -⟩ | ⟨-, a, -⟩ | ⟨-, a, -⟩
      · exact a
      all_goals exact absurd h2 a
    subst hv2
    have e0 : σ 23 2 = 0 := by rw [en, h2]; rfl
    exact ji_20 ⟨fun q => absurd e0 q, fun _ => hQ⟩
  have n0 : ¬ σ 23 2 = 0 := by rw [en]; exact nI_ne0 (by omega) (by omega)
  refine jx_in jk_20 300 [123] rfl (Nat.le_of_ble_eq_true rfl) ⟨fun _ => ?_, fun q => absurd q n0⟩
  have h3iff : (∀ i, i < n → su_th σ m (σ 24 i)) ↔ su_3 σ n m := ⟨fun z i hi => by rw [← e24 i hi]; exact z i hi, fun z i hi => by rw [e24 i hi]; exact z i hi⟩
  refine su_21 hm em hh hO hn en (fun h3 => ?_) (fun h3 => ?_)
  rotate_left
  · have h3 : ¬ su_3 σ n m := fun z => h3 (h3iff.mpr z)
    have hv2 : v = 3 := by
      rcases hv with ⟨-, a⟩ | ⟨a, -⟩ | ⟨-, -, a, -⟩ | ⟨-, -, a, -⟩ | ⟨-, -, a, -⟩ | ⟨-, -, a, -⟩ | ⟨-, -, a, -⟩ | ⟨-, -, a, -⟩ | ⟨-, -, a, -⟩ | ⟨-, -, a, -⟩
      · exact absurd a h2
      · exact a
      all_goals exact absurd a h3
    subst hv2
    exact ⟨fun q => absurd rfl q, fun _ => hQ⟩
  have h3 : su_3 σ n m := h3iff.mp h3
  have hin := su_hin h3
  have hin1 : ∀ i, i < n → ∃ o, o < m ∧ σ 24 i = nI o := fun i hi => by rw [e24 i hi]; exact hin i hi
  have hL := su_LKof hm hO hin e24
  refine ⟨fun _ => ?_, fun q => absurd q (by decide)⟩
  have x1 : σ 15 5 < σ 23 7 ↔ σ 34 31 < σ 34 43 := by rw [e15, e7]
  have x2 : σ 15 5 ≤ σ 23 8 ↔ σ 34 31 ≤ σ 34 44 := by rw [e15, e8]
  by_cases h4 : su_4 σ
  rotate_left
  · have hv2 : v = 4 := by
      rcases hv with ⟨-, a⟩ | ⟨-, -, a⟩ | ⟨a, -⟩ | ⟨-, -, -, a, -⟩ | ⟨-, -, -, a, -⟩ | ⟨-, -, -, a, -⟩ | ⟨-, -, -, a, -⟩ | ⟨-, -, -, a, -⟩ | ⟨-, -, -, a, -⟩ | ⟨-, -, -, a, -⟩
      · exact absurd a h2
      · exact absurd h3 a
      · exact a
      all_goals exact absurd a h4
    subst hv2
    by_cases q1 : σ 34 31 < σ 34 43
    · exact ⟨fun _ => hQ, fun q => absurd (x1.mpr q1) q⟩
    · exact ⟨fun q => absurd (x1.mp q) q1, fun _ => ⟨fun q => absurd ⟨q1, x2.mp q⟩ h4, fun _ => hQ⟩⟩
  refine ⟨fun q => absurd (x1.mp q) h4.1, fun _ => ⟨fun _ => ji_86 ⟨by decide, ?_⟩, fun q => absurd (x2.mpr h4.2) q⟩⟩
  have x5 : 5 + σ 23 2 + σ 26 3 + σ 23 10 / 8 ≤ σ 23 6 ↔ su_5 σ := by
    unfold su_5
    rw [en, eg, e10, e6, en2, eg2]
  by_cases h5 : su_5 σ
  rotate_left
  · have hv2 : v = 5 := by
      rcases hv with ⟨-, a⟩ | ⟨-, -, a⟩ | ⟨-, -, -, a⟩ | ⟨a, -⟩ | ⟨-, -, -, -, a, -⟩ | ⟨-, -, -, -, a, -⟩ | ⟨-, -, -, -, a, -⟩ | ⟨-, -, -, -, a, -⟩ | ⟨-, -, -, -, a, -⟩ | ⟨-, -, -, -, a, -⟩
      · exact absurd a h2
      · exact absurd h3 a
      · exact absurd h4 a
      · exact a
      all_goals exact absurd a h5
    subst hv2
    exact ⟨fun q => absurd (x5.mp q) h5, fun _ => hQ⟩
  refine ⟨fun _ => ?_, fun q => absurd (x5.mpr h5) q⟩
  have h6iff : (∀ t, t < 3 → su_cb σ n g t) ↔ su_6 σ n g :=
    ⟨fun z t ht => (su_bal ht hm hn hg hO hin e24 hG (hM t ht) ⟨e6, hf⟩).mp (z t ht), fun z t ht => (su_bal ht hm hn hg hO hin e24 hG (hM t ht) ⟨e6, hf⟩).mpr (z t ht)⟩
  refine su_22 hm hn en hg eg hin1 (fun h6 => ?_) (fun h6 => ?_)
  rotate_left
  · have h6 : ¬ su_6 σ n g := fun z => h6 (h6iff.mpr z)
    have hv2 : v = 6 := by
      rcases hv with ⟨-, a⟩ | ⟨-, -, a⟩ | ⟨-, -, -, a⟩ | ⟨-, -, -, -, a⟩ | ⟨a, -⟩ | ⟨-, -, -, -, -, a, -⟩ | ⟨-, -, -, -, -, a, -⟩ | ⟨-, -, -, -, -, a, -⟩ | ⟨-, -, -, -, -, a, -⟩ | ⟨-, -, -, -, -, a, -⟩
      · exact absurd a h2
      · exact absurd h3 a
      · exact absurd h4 a
      · exact absurd h5 a
      · exact a
      all_goals exact absurd a h6
    subst hv2
    exact ⟨fun q => absurd rfl q, fun _ => hQ⟩
  have h6 : su_6 σ n g := h6iff.mp h6
  refine ⟨fun _ => ?_, fun q => absurd q (by decide)⟩
  refine su_24 hm hn en e9 hL (fun h7 => ?_) (fun h7 => ?_)
  rotate_left
  · have hv2 : v = 7 := by
      rcases hv with ⟨-, a⟩ | ⟨-, -, a⟩ | ⟨-, -, -, a⟩ | ⟨-, -, -, -, a⟩ | ⟨-, -, -, -, -, a⟩ | ⟨a, -⟩ | ⟨-, -, -, -, -, -, a, -⟩ | ⟨-, -, -, -, -, -, a, -⟩ | ⟨-, -, -, -, -, -, a, -⟩ | ⟨-, -, -, -, -, -, a, -⟩
      · exact absurd a h2
      · exact absurd h3 a
      · exact absurd h4 a
      · exact absurd h5 a
      · exact absurd h6 a
      · exact a
      all_goals exact absurd a h7
    subst hv2
    exact ⟨fun q => absurd rfl q, fun _ => hQ⟩
  refine ⟨fun _ => ?_, fun q => absurd q (by decide)⟩
  refine su_25 hm hn en hc ec hL (hM 1 (by decide)).1 (hM 2 (by decide)).1 (fun h8 => ?_) (fun h8 => ?_)
  rotate_left
  · have hv2 : v = 8 := by
      rcases hv with ⟨-, a⟩ | ⟨-, -, a⟩ | ⟨-, -, -, a⟩ | ⟨-, -, -, -, a⟩ | ⟨-, -, -, -, -, a⟩ | ⟨-, -, -, -, -, -, a⟩ | ⟨a, -⟩ | ⟨-, -, -, -, -, -, -, a, -⟩ | ⟨-, -, -, -, -, -, -, a, -⟩ | ⟨-, -, -, -, -, -, -, a, -⟩
      · exact absurd a h2
      · exact absurd h3 a
      · exact absurd h4 a
      · exact absurd h5 a
      · exact absurd h6 a
      · exact absurd h7 a
      · exact a
      all_goals exact absurd a h8
    subst hv2
    exact ⟨fun q => absurd rfl q, fun _ => hQ⟩
  refine ⟨fun _ => ?_, fun q => absurd q (by decide)⟩
  have room : su_9 σ n m → jx_J l D cA ρ jx_XM (jx_A ρ jx_XM) jx_tb0 (d + 4) 20 Q 123 [(0, .ref 0)] [] σ := fun h9 => by
    have e1 : (48 : Int32) < σ 16 3 + σ 26 3 ↔ ¬ m + g ≤ 48 := by
      rw [em, eg, nI_add, show (48 : Int32) = nI 48 from rfl, nI_ltI (by decide) (by omega)]
      omega
    refine jx_go jk_20 (fun _ _ _ z => z) 60 [] ?_
    rcases hv with ⟨-, a⟩ | ⟨-, -, a⟩ | ⟨-, -, -, a⟩ | ⟨-, -, -, -, a⟩ | ⟨-, -, -, -, -, a⟩ | ⟨-, -, -, -, -, -, a⟩ | ⟨-, -, -, -, -, -, -, a⟩ | ⟨-, -, -, -, -, -, -, -, a⟩ | ⟨rfl, -, -, -, -, -, -, -, -, a⟩ | ⟨rfl, -, -, -, -, -, -, -, -, a⟩
    · exact absurd a h2
    · exact absurd h3 a
    · exact absurd h4 a
    · exact absurd h5 a
    · exact absurd h6 a
    · exact absurd h7 a
    · exact absurd h8 a
    · exact absurd h9 a
    · exact ji_77 ⟨fun _ => ⟨Or.inl rfl, fun q => absurd rfl q, fun _ => hQ⟩, fun q => absurd (e1.mpr a) q⟩
    · exact ji_77 ⟨fun q => absurd a (e1.mp q), fun _ => ⟨Or.inr rfl, fun _ => hQ, fun q => absurd q (by decide)⟩⟩
  refine su_26 hm hn en hL (hM 1 (by decide)).1 (hM 2 (by decide)).1 (fun hA => ?_) (fun hA => ?_)
  · refine ⟨fun q => absurd q (by decide), fun _ => ?_⟩
    refine su_28 hm em hh hO hn en e24 e9 e11 e6 (fun hgu => ?_) (fun hgu => ?_)
    · exact ⟨fun _ => room (fun _ => hgu), fun q => absurd q (by decide)⟩
    · have hv2 : v = 9 := by
        rcases hv with ⟨-, a⟩ | ⟨-, -, a⟩ | ⟨-, -, -, a⟩ | ⟨-, -, -, -, a⟩ | ⟨-, -, -, -, -, a⟩ | ⟨-, -, -, -, -, -, a⟩ | ⟨-, -, -, -, -, -, -, a⟩ | ⟨a, -⟩ | ⟨-, -, -, -, -, -, -, -, a, -⟩ | ⟨-, -, -, -, -, -, -, -, a, -⟩
        · exact absurd a h2
        · exact absurd h3 a
        · exact absurd h4 a
        · exact absurd h5 a
        · exact absurd h6 a
        · exact absurd h7 a
        · exact absurd h8 a
        · exact a
        all_goals exact absurd (a hA) hgu
      subst hv2
      exact ⟨fun q => absurd rfl q, fun _ => hQ⟩
  · exact ⟨fun _ => room (fun z => absurd z hA), fun q => absurd rfl q⟩
end SP

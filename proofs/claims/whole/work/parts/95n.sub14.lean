/-! submit: the ledgers agree afterwards -/
theorem su_LA {σ ω : jx_St} {m h g : Nat} {x : Int32} (hm2 : 2 ≤ m) (hmg : m + g ≤ 48) (hh : h ≤ 40) (hO : ∀ o, o < m → iv_O σ o h)
    (hz : ∀ j, j ≤ h → ∃ z : Nat, 2 ≤ z ∧ z ≤ m ∧ σ 21 j = nI z ∧ ∀ o, o < m → (o < z ↔ σ 51 o < nI j)) (hpot : σ 15 4 = iv_sum (σ 53) (h + 1)) (hpa : ∀ j, j ≤ h → σ 22 j = iv_sum (σ 53) j) (hinc : ∀ j, h < j → j ≤ 40 → σ 53 j = 0)
    (hG : ∀ i, i < g → σ 27 i = σ 56 i ∧ σ 28 i = σ 57 i ∧ (∃ k : Nat, k < 10 ∧ σ 56 i = nI k) ∧ ∀ t, t < 3 → σ 29 (3 * i + t) = σ 58 (3 * i + t) ∧ ∃ k : Nat, k ≤ 1000000 ∧ σ 58 (3 * i + t) = nI k)
    (a1 : ω 16 3 = nI (m + g)) (a2 : ω 34 25 = nI (m + g)) (a3 : ω 15 5 = nI h) (a4 : ω 34 31 = nI h)
    (b : ∀ o, o < m → ω 17 o = σ 17 o ∧ ω 18 o = σ 18 o ∧ ∀ t, t < 3 → ω 19 (3 * o + t) = σ 19 (3 * o + t))
    (c : ∀ i, i < g → ω 17 (m + i) = σ 27 i ∧ ω 18 (m + i) = σ 28 i ∧ ω 20 (m + i) = -1 ∧ ∀ t, t < 3 → ω 19 (3 * (m + i) + t) = σ 29 (3 * i + t))
    (dd : ∀ o, o < m → ω 49 o = σ 49 o ∧ ω 50 o = σ 50 o ∧ ω 51 o = σ 51 o ∧ ∀ t, t < 3 → ω 48 (3 * o + t) = σ 48 (3 * o + t))
    (e : ∀ i, i < g → ω 49 (m + i) = σ 56 i ∧ ω 50 (m + i) = σ 57 i ∧ ω 51 (m + i) = nI h ∧ ω 52 (m + i) = -1 ∧ ∀ t, t < 3 → ω 48 (3 * (m + i) + t) = σ 58 (3 * i + t))
    (hsp : ∀ o, o < m → ω 20 o = ω 52 o ∧ (ω 52 o = nI h ∨ ω 52 o = σ 52 o))
    (f1 : ω 21 = σ 21) (f2 : ω 22 = σ 22) (f3 : ω 15 4 = σ 15 4 + x) (f4 : ω 53 = upd (σ 53) h (σ 53 h + x)) : iv_L ω := by
  refine ⟨m + g, h, by omega, hmg, hh, a1, a2, a3, a4, fun o ho => ?_, fun j hj => ?_, ?_, fun j hj => ?_, fun j h1 h2 => ?_⟩
  · by_cases hom : o < m
    · obtain ⟨o1, o2, o3, o4, o5, o6, o7⟩ := hO o hom
      obtain ⟨b1, b2, b3⟩ := b o hom
      obtain ⟨d1, d2, d3, d4⟩ := dd o hom
      obtain ⟨s1, s2⟩ := hsp o hom
      refine ⟨by rw [b1, d1]; exact o1, by rw [b2, d2]; exact o2, s1, by rw [d1]; exact o4, ?_, fun t ht => ?_, by rw [d3]; exact o7⟩
      · rcases s2 with s2 | s2
        · exact Or.inr ⟨h, Nat.le_refl _, s2⟩
        · rw [s2]; exact o5
      · rw [b3 t ht, d4 t ht]; exact o6 t ht
    · obtain ⟨i, hi, rfl⟩ : ∃ i, i < g ∧ o = m + i := ⟨o - m, by omega, by omega⟩
      obtain ⟨g1, g2, g3, g4⟩ := hG i hi
      obtain ⟨c1, c2, c3, c4⟩ := c i hi
      obtain ⟨e1, e2, e3, e4, e5⟩ := e i hi
      refine ⟨by rw [c1, e1]; exact g1, by rw [c2, e2]; exact g2, by rw [c3, e4], by rw [e1]; exact g3, Or.inl e4, fun t ht => ?_, Or.inr ⟨h, Nat.le_refl _, e3⟩⟩
      rw [c4 t ht, e5 t ht]
      exact g4 t ht
  · obtain ⟨z, z1, z2, z3, z4⟩ := hz j hj
    refine ⟨z, z1, by omega, by rw [f1]; exact z3, fun o ho => ?_⟩
    by_cases hom : o < m
    · rw [(dd o hom).2.2.1]; exact z4 o hom
    · obtain ⟨i, hi, rfl⟩ : ∃ i, i < g ∧ o = m + i := ⟨o - m, by omega, by omega⟩
      rw [(e i hi).2.2.1]
      refine ⟨fun q => absurd q (by omega), fun q => absurd q (nI_nlt hj (by omega))⟩
  · rw [f3, hpot, f4]
    show iv_sum (σ 53) h + σ 53 h + x = iv_sum (upd (σ 53) h (σ 53 h + x)) h + upd (σ 53) h (σ 53 h + x) h
    rw [pk_us, iv_sum_eq (f := upd (σ 53) h (σ 53 h + x)) (g := σ 53) (fun i hi => pk_un (by omega)), Int32.add_assoc]
  · rw [f2, f4, hpa j hj]
    exact (iv_sum_eq (fun i hi => pk_un (by omega))).symm
  · rw [f4, pk_un (by omega)]
    exact hinc j h1 h2
/-- what is forgotten at the end -/
def su_cl (τ : jx_St) : jx_St := jx_su (jx_su (jx_su (jx_su (jx_su (jx_su (jx_su (jx_su (jx_su (jx_su (jx_su (jx_su (jx_su (jx_su τ 23 2 0) 26 3 0) 30 0 0) 31 0 0) 30 1 0) 31 1 0) 30 2 0) 31 2 0) 23 6 0) 23 7 0) 23 8 40) 23 9 0) 23 10 0) 23 11 (-1)
def su_cm (τ : jx_St) : jx_St := jx_su (jx_su (jx_su (jx_su (jx_su (jx_su (jx_su (jx_su (jx_su (jx_su (jx_su (jx_su (jx_su (jx_su τ 34 33 0) 34 36 0) 59 0 0) 60 0 0) 59 1 0) 60 1 0) 59 2 0) 60 2 0) 34 42 0) 34 43 0) 34 44 40) 34 45 0) 34 46 0) 34 47 (-1)
section SH
variable {l : Launch} {D : va_G} {cA : ClassId} {ρ : Nat → Nat} {d : Nat} {Q : Option Value → jx_St → Prop} {σ τ : jx_St} {m h n g c B : Nat}
theorem su_82 (hQ : Q none (su_cl τ)) : jx_C l D cA ρ jx_XM (d + 2) 82 [.ref 23] τ Q := by
  have v0 : vp_in 0 3 := vp_in_nI (n := 0) (by decide) (by decide)
  have v1 : vp_in (0 + 1) 3 := vp_in_nI (n := 1) (by decide) (by decide)
  have v2 : vp_in (0 + 1 + 1) 3 := vp_in_nI (n := 2) (by decide) (by decide)
  refine ji_82 ⟨fun q => absurd q (by decide), fun _ => ⟨v0, v0, fun q => absurd q (by decide), fun _ => ⟨v1, v1, fun q => absurd q (by decide), fun _ => ⟨v2, v2, fun _ => ?_, fun q => absurd (by decide) q⟩⟩⟩⟩
  exact ji_83 hQ
theorem su_110 (hQ : Q none (su_cm τ)) : jx_C l D cA ρ jx_XM (d + 1) 110 [.ref 34] τ Q := by
  have v0 : vp_in 0 3 := vp_in_nI (n := 0) (by decide) (by decide)
  have v1 : vp_in (0 + 1) 3 := vp_in_nI (n := 1) (by decide) (by decide)
  have v2 : vp_in (0 + 1 + 1) 3 := vp_in_nI (n := 2) (by decide) (by decide)
  refine ji_110 ⟨fun q => absurd q (by decide), fun _ => ⟨v0, v0, fun q => absurd q (by decide), fun _ => ⟨v1, v1, fun q => absurd q (by decide), fun _ => ⟨v2, v2, fun _ => ?_, fun q => absurd (by decide) q⟩⟩⟩⟩
  exact hQ
end SH
def su_cin (q : Nat) : Bool := Nat.beq q 23 || Nat.beq q 26 || Nat.beq q 30 || Nat.beq q 31
theorem su_clq {τ : jx_St} {q : Nat} (h : su_cin q = false) : su_cl τ q = τ q := by
  have h1 : q ≠ 23 := fun e => by rw [e] at h; cases h
  have h2 : q ≠ 26 := fun e => by rw [e] at h; cases h
  have h3 : q ≠ 30 := fun e => by rw [e] at h; cases h
  have h4 : q ≠ 31 := fun e => by rw [e] at h; cases h
  unfold su_cl
  rw [jx_su_ne _ _ _ h1, jx_su_ne _ _ _ h1, jx_su_ne _ _ _ h1, jx_su_ne _ _ _ h1, jx_su_ne _ _ _ h1, jx_su_ne _ _ _ h1, jx_su_ne _ _ _ h4, jx_su_ne _ _ _ h3, jx_su_ne _ _ _ h4, jx_su_ne _ _ _ h3, jx_su_ne _ _ _ h4, jx_su_ne _ _ _ h3, jx_su_ne _ _ _ h2, jx_su_ne _ _ _ h1]
/-- the model's places alone decide the first phase -/
theorem su_veq {σ σ1 : jx_St} (h : ∀ q, 34 ≤ q → σ1 q = σ q) {n g m c v : Nat} : su_v σ1 n g m c v = su_v σ n g m c v := by
  have h34 := h 34 (by decide)
  have h48 := h 48 (by decide)
  have h49 := h 49 (by decide)
  have h52 := h 52 (by decide)
  have h54 := h 54 (by decide)
  have h58 := h 58 (by decide)
  have h59 := h 59 (by decide)
  have ek : su_k σ1 = su_k σ := by funext i; unfold su_k su_L; rw [h49, h54]
  unfold su_v su_3 su_4 su_5 su_6 su_7 su_9 su_gu su_A2 su_A1 su_mb su_sg su_th su_L
  rw [h34, h48, h49, h52, h54, h58, h59, ek]
theorem su_jeq {σ σ1 : jx_St} (h : ∀ q, 34 ≤ q → σ1 q = σ q) {g : Nat → Int32} {n B : Nat} : su_jb σ1 g n (su_ji σ1 n 0) B none = su_jb σ g n (su_ji σ n 0) B none := by
  have h34 := h 34 (by decide)
  have h35 := h 35 (by decide)
  have h48 := h 48 (by decide)
  have h49 := h 49 (by decide)
  have h50 := h 50 (by decide)
  have h54 := h 54 (by decide)
  have h55 := h 55 (by decide)
  have h59 := h 59 (by decide)
  have h60 := h 60 (by decide)
  have ek : su_k σ1 = su_k σ := by funext i; unfold su_k su_L; rw [h49, h54]
  have ecx : ∀ p, su_cx σ1 n p = su_cx σ n p := fun p => by
    funext j
    unfold su_cx
    rw [h34, h48, h54, h59]
  have eR : su_R σ1 g n = su_R σ g n := by
    funext j B
    unfold su_R
    rw [h35, ecx]
  have ejb : ∀ (L : List su_J) (B : Nat) (last : su_O), su_jb σ1 g n L B last = su_jb σ g n L B last := by
    intro L
    induction L with
    | nil => intro B last; rfl
    | cons j t ih =>
      intro B last
      rw [su_jb, su_jb, eR]
      by_cases hz : (su_R σ g n j B).1 = 0
      · rw [if_pos hz, if_pos hz]; exact ih _ _
      · rw [if_neg hz, if_neg hz]
  have eji : ∀ k i, su_ji σ1 k i = su_ji σ k i := by
    intro k
    induction k with
    | zero =>
      intro i
      show su_j1 σ1 = su_j1 σ
      unfold su_j1 su_j2
      rw [h59, h60]
    | succ k ih =>
      intro i
      rw [su_ji, su_ji, ek, ih, h50, h54, h55]
  rw [eji, ejb]

/-! submit: the second phase of the program -/
theorem su_cx0 {σ : jx_St} {n : Nat} {p p' : Int32} : ∀ j, 1 ≤ j → su_cx σ n p j = su_cx σ n p' j
  | 0, h => absurd h (by decide)
  | 1, _ => rfl
  | 2, _ => rfl
  | 3, _ => rfl
  | 4, _ => rfl
  | 5, _ => rfl
  | 6, _ => rfl
  | 7, _ => rfl
  | 8, _ => rfl
  | _ + 9, _ => rfl
/-- the scripts that are there -/
def su_scr (σ : jx_St) (c : Nat) : Prop := c ≤ 6 ∧ ∀ s, s < c → ∃ len : Nat, len ≤ 48 ∧ (∀ i, i < len → σ 5 (48 * s + i) = σ 35 (48 * s + i) ∧ ∃ b : Nat, b < 256 ∧ σ 35 (48 * s + i) = nI b) ∧ iw_t (σ 35) (σ 6) (48 * s + len) 21 (48 * s) 0 (48 * s + len)
theorem su_RB {σ : jx_St} {n c B : Nat} {j : su_J} (hS : su_scr σ c) (hj : j.1 < c) (hB : B ≤ 99) : (su_R σ (σ 6) n j B).1 ≤ 3 ∧ (su_R σ (σ 6) n j B).2.1 ≤ B := by
  obtain ⟨E, hE, h5, ht⟩ := ev_S hS.1 hj hS.2
  refine ⟨ez_le3 _ _ _ _, ez_sB (s0 := 48 * j.1) hB hE (fun j a b => (h5 j a b).2) _ _ _ _ (Or.inl ⟨rfl, ht, trivial⟩) ?_ (Nat.zero_le _)⟩
  exact ⟨Nat.le_refl 3, fun z => absurd (show (3 : Nat) = 0 from z) (by decide), trivial, Nat.le_refl 3, fun z => absurd (show (3 : Nat) = 0 from z) (by decide), trivial, Nat.le_refl 3, fun z => absurd (show (3 : Nat) = 0 from z) (by decide), ec_lsw _ _ _, trivial⟩
section SY
variable {l : Launch} {D : va_G} {cA : ClassId} {ρ : Nat → Nat} {d : Nat} {Q : Option Value → jx_St → Prop} {σ τ : jx_St} {m h n g c B : Nat} {last : su_O}
theorem su_ev {k : Nat} {x y p : Int32} (hs : sx_C σ τ n last) (hS : su_scr σ c) (hk : k < c) (hB : B ≤ 99) (hQ : ∀ τ', sx_C σ τ' n (some (su_R σ (σ 6) n (k, x, y, p) B)) → Q none τ') : jx_C l D cA ρ jx_XM (d + 5) 35 [.ref 3, .int (nI k), .int x, .int y, .ref 32, .int (nI B)] (jx_su τ 32 0 p) Q := by
  obtain ⟨E, hE, h5, ht⟩ := ev_S hS.1 hk hS.2
  obtain ⟨s1, s2, s3⟩ := hs
  have hc6 := hS.1
  have e5 : τ 5 = σ 5 := s1 5 rfl
  have e6 : τ 6 = σ 6 := s1 6 rfl
  have els : ez_ls (jx_su τ 32 0 p 32) 10 0 = ez_ls (su_cx σ n p) 10 0 := ez_lsc 10 0 (fun j _ hj => by
    by_cases h0 : j = 0
    · subst h0; rfl
    · have e1 : jx_su τ 32 0 p 32 j = τ 32 j := by rw [jx_su_eq]; exact pk_un h0
      rw [e1, s2 j (by omega) (by omega)]
      exact su_cx0 j (by omega))
  refine ec_35b (f := σ 35) (E := E) (by omega) hB hE (fun j a b => ?_) (by show ez_t (σ 35) (τ 6) _ _ _ _; rw [e6]; exact ht) (fun τ' hP => hQ τ' ?_)
  · show τ 5 j = σ 35 j ∧ _
    rw [e5]
    exact h5 j a b
  · rw [els] at hP
    have hP : ec_E (jx_su τ 32 0 p) τ' (ez (σ 35) (τ 6) B 2000 (0, 48 * k, .nil, .nil) [(3, 0, ez_i x), (3, 0, ez_i y), (3, 0, ez_ls (su_cx σ n p) 10 0)] 0) := hP
    rw [e6] at hP
    obtain ⟨p1, p2, p3, p4, p5, p6⟩ := hP
    refine ⟨fun q hq => ?_, fun j h1 h2 => ?_, p3, p4, p5, p6⟩
    · have hq2 := Bool.or_eq_false_iff.mp hq
      have hne : q ≠ 32 := fun e => by rw [e] at hq; cases hq
      rw [p1 q hq2.1, jx_su_ne _ _ _ hne, s1 q hq]
    · rw [p1 32 rfl, jx_su_eq, pk_un (by omega)]
      exact s2 j h1 h2
theorem su_0iff {a : Nat} (h : a ≤ 3) : nI a = 0 ↔ a = 0 := nI_eq (b := 0) (by omega) (by decide)
/-- from the tokens on -/
theorem su_29b (hS : su_scr σ c) (hM : ∀ t, t < 3 → σ 30 t = σ 59 t ∧ σ 31 t = σ 60 t) (hc2 : σ 59 2 ≠ 0 → 1 < c) (hs : sx_C σ τ n last) (hB : B ≤ 99) (hQ : ∀ τ' b, sx_C σ τ' n (su_jb σ (σ 6) n (su_j2 σ) B last).2 → b = (if (su_jb σ (σ 6) n (su_j2 σ) B last).1 then 1 else 0) → Q (some (.int b)) τ') :
    jx_J l D cA ρ jx_XM (jx_A ρ jx_XM) jx_tb0 (d + 6) 29 Q 129 [(2, .int (nI 2)), (1, .int (nI B)), (0, .ref 0)] [] τ := by
  have e30 : τ 30 = σ 30 := hs.1 30 rfl
  have e31 : τ 31 = σ 31 := hs.1 31 rfl
  have v : vp_in (nI 2) 3 := vp_in_nI (by decide) (by decide)
  have v0 : vp_in 0 10 := vp_in_nI (n := 0) (by decide) (by decide)
  have x2 : τ 30 (nI 2).toNatClampNeg = σ 59 2 := by rw [e30]; exact (hM 2 (by decide)).1
  have y2 : τ 31 (nI 2).toNatClampNeg = σ 60 2 := by rw [e31]; exact (hM 2 (by decide)).2
  refine jx_go jk_29 (fun _ _ _ z => z) 100 [] ?_
  refine ⟨fun q => absurd q (by decide), fun _ => ⟨v, ?_⟩⟩
  rw [x2]
  unfold su_j2 at hQ
  by_cases z2 : σ 59 2 = 0
  · rw [if_pos z2] at hQ
    exact ⟨fun _ => ⟨fun _ => ⟨Or.inr rfl, hQ τ 1 hs rfl⟩, fun q => absurd (by decide) q⟩, fun q => absurd z2 q⟩
  · rw [if_neg z2] at hQ
    refine ⟨fun q => absurd q z2, fun _ => ⟨v0, ?_⟩⟩
    refine ji_27 ⟨v, ?_⟩
    have y2' : jx_su τ 32 (0 : Int32).toNatClampNeg (8 + nI 2) 31 (nI 2).toNatClampNeg = σ 60 2 := y2
    rw [y2']
    refine su_ev (k := 1) (p := nI 10) hs hS (hc2 z2) hB (fun τ' hP => ?_)
    have hr := su_RB (n := n) (j := (1, σ 59 2, σ 60 2, nI 10)) hS (hc2 z2) hB
    have e13 : τ' 3 13 = nI (su_R σ (σ 6) n (1, σ 59 2, σ 60 2, nI 10) B).1 := hP.2.2.1
    by_cases h0 : (su_R σ (σ 6) n (1, σ 59 2, σ 60 2, nI 10) B).1 = 0
    · have ej : su_jb σ (σ 6) n [(1, σ 59 2, σ 60 2, nI 10)] B last = (true, some (su_R σ (σ 6) n (1, σ 59 2, σ 60 2, nI 10) B)) := if_pos h0
      rw [ej] at hQ
      have g0 : τ' 3 13 = 0 := by rw [e13, h0]; rfl
      exact ⟨fun _ => ⟨fun _ => ⟨Or.inr rfl, hQ τ' 1 hP rfl⟩, fun q => absurd (by decide) q⟩, fun q => absurd g0 q⟩
    · have ej : su_jb σ (σ 6) n [(1, σ 59 2, σ 60 2, nI 10)] B last = (false, some (su_R σ (σ 6) n (1, σ 59 2, σ 60 2, nI 10) B)) := if_neg h0
      rw [ej] at hQ
      have g0 : ¬ τ' 3 13 = 0 := by rw [e13, su_0iff hr.1]; exact h0
      exact ⟨fun q => absurd q g0, fun _ => ⟨Or.inl rfl, hQ τ' 0 hP rfl⟩⟩
theorem su_29a (hS : su_scr σ c) (hM : ∀ t, t < 3 → σ 30 t = σ 59 t ∧ σ 31 t = σ 60 t) (hc1 : σ 59 1 ≠ 0 → 0 < c) (hc2 : σ 59 2 ≠ 0 → 1 < c) (hs : sx_C σ τ n last) (hB : B ≤ 99) (hQ : ∀ τ' b, sx_C σ τ' n (su_jb σ (σ 6) n (su_j1 σ) B last).2 → b = (if (su_jb σ (σ 6) n (su_j1 σ) B last).1 then 1 else 0) → Q (some (.int b)) τ') :
    jx_J l D cA ρ jx_XM (jx_A ρ jx_XM) jx_tb0 (d + 6) 29 Q 129 [(2, .int 1), (1, .int (nI B)), (0, .ref 0)] [] τ := by
  have e30 : τ 30 = σ 30 := hs.1 30 rfl
  have e31 : τ 31 = σ 31 := hs.1 31 rfl
  have v : vp_in 1 3 := vp_in_nI (n := 1) (by decide) (by decide)
  have v0 : vp_in 0 10 := vp_in_nI (n := 0) (by decide) (by decide)
  have x2 : τ 30 (1 : Int32).toNatClampNeg = σ 59 1 := by rw [e30]; exact (hM 1 (by decide)).1
  have y2 : τ 31 (1 : Int32).toNatClampNeg = σ 60 1 := by rw [e31]; exact (hM 1 (by decide)).2
  refine jx_go jk_29 (fun _ _ _ z => z) 100 [129] ?_
  refine ⟨fun q => absurd q (by decide), fun _ => ⟨v, ?_⟩⟩
  rw [x2]
  unfold su_j1 at hQ
  by_cases z2 : σ 59 1 = 0
  · rw [if_pos z2] at hQ
    exact ⟨fun _ => jx_Jsubh (su_29b hS hM hc2 hs hB hQ) ⟨rfl, rfl, rfl, trivial⟩, fun q => absurd z2 q⟩
  · rw [if_neg z2] at hQ
    refine ⟨fun q => absurd q z2, fun _ => ⟨v0, ?_⟩⟩
    refine ji_27 ⟨v, ?_⟩
    have y2' : jx_su τ 32 (0 : Int32).toNatClampNeg (8 + 1) 31 (1 : Int32).toNatClampNeg = σ 60 1 := y2
    rw [y2']
    refine su_ev (k := 0) (p := nI 9) hs hS (hc1 z2) hB (fun τ' hP => ?_)
    have hr := su_RB (n := n) (j := (0, σ 59 1, σ 60 1, nI 9)) hS (hc1 z2) hB
    have e13 : τ' 3 13 = nI (su_R σ (σ 6) n (0, σ 59 1, σ 60 1, nI 9) B).1 := hP.2.2.1
    have e12 : τ' 3 12 = nI (su_R σ (σ 6) n (0, σ 59 1, σ 60 1, nI 9) B).2.1 := hP.2.2.2.1
    by_cases h0 : (su_R σ (σ 6) n (0, σ 59 1, σ 60 1, nI 9) B).1 = 0
    · have ej : su_jb σ (σ 6) n ((0, σ 59 1, σ 60 1, nI 9) :: su_j2 σ) B last = su_jb σ (σ 6) n (su_j2 σ) (B - (su_R σ (σ 6) n (0, σ 59 1, σ 60 1, nI 9) B).2.1) (some (su_R σ (σ 6) n (0, σ 59 1, σ 60 1, nI 9) B)) := if_pos h0
      rw [ej] at hQ
      have g0 : τ' 3 13 = 0 := by rw [e13, h0]; rfl
      have h9 := su_29b (l := l) (D := D) (cA := cA) (ρ := ρ) (d := d) hS hM hc2 hP (by omega) hQ
      rw [← pk_sub hr.2, ← e12] at h9
      exact ⟨fun _ => jx_Jsubh h9 ⟨rfl, rfl, rfl, trivial⟩, fun q => absurd g0 q⟩
    · have ej : su_jb σ (σ 6) n ((0, σ 59 1, σ 60 1, nI 9) :: su_j2 σ) B last = (false, some (su_R σ (σ 6) n (0, σ 59 1, σ 60 1, nI 9) B)) := if_neg h0
      rw [ej] at hQ
      have g0 : ¬ τ' 3 13 = 0 := by rw [e13, su_0iff hr.1]; exact h0
      exact ⟨fun q => absurd q g0, fun _ => ⟨Or.inl rfl, hQ τ' 0 hP rfl⟩⟩
theorem su_29l (hn : n ≤ 3) (hm : m ≤ 48) (en : σ 23 2 = nI n) (hL : su_LK σ m n) (hI : ∀ i, i < n → σ 25 i = σ 55 i) (hO : ∀ o, o < m → iv_O σ o h) (hS : su_scr σ c) (hM : ∀ t, t < 3 → σ 30 t = σ 59 t ∧ σ 31 t = σ 60 t) (hck : ∀ i, i < n → 4 ≤ su_k σ i → su_k σ i - 4 < c) (hc1 : σ 59 1 ≠ 0 → 0 < c) (hc2 : σ 59 2 ≠ 0 → 1 < c) : ∀ (k i : Nat) (τ : jx_St) (B : Nat) (last : su_O), i + k = n → sx_C σ τ n last → B ≤ 99 → (∀ τ' b, sx_C σ τ' n (su_jb σ (σ 6) n (su_ji σ k i) B last).2 → b = (if (su_jb σ (σ 6) n (su_ji σ k i) B last).1 then 1 else 0) → Q (some (.int b)) τ') →
    jx_J l D cA ρ jx_XM (jx_A ρ jx_XM) jx_tb0 (d + 6) 29 Q 14 [(2, .int (nI i)), (1, .int (nI B)), (0, .ref 0)] [] τ
  | 0, i, τ, B, last, hi, hs, hB, hQ => by
    have e : i = n := by omega
    subst e
    have e23 : τ 23 = σ 23 := hs.1 23 rfl
    have cc : τ 23 2 ≤ nI i := by rw [e23, en]; exact Int32.le_refl _
    have h9 := su_29a (l := l) (D := D) (cA := cA) (ρ := ρ) (d := d) hS hM hc1 hc2 hs hB hQ
    refine jx_go jk_29 (fun _ _ _ z => z) 100 [14, 129] ?_
    exact ⟨fun _ => jx_Jsubh h9 ⟨rfl, rfl, rfl, trivial⟩, fun q => absurd cc q⟩
  | k + 1, i, τ, B, last, hi, hs, hB, hQ => by
    have e23 : τ 23 = σ 23 := hs.1 23 rfl
    have e24 : τ 24 = σ 24 := hs.1 24 rfl
    have e25 : τ 25 = σ 25 := hs.1 25 rfl
    have e17 : τ 17 = σ 17 := hs.1 17 rfl
    have e18 : τ 18 = σ 18 := hs.1 18 rfl
    have cc : ¬ τ 23 2 ≤ nI i := by rw [e23, en]; exact nI_ge (by omega) (by omega)
    have v : vp_in (nI i) 3 := vp_in_nI (by omega) (by decide)
    have v0 : vp_in 0 10 := vp_in_nI (n := 0) (by decide) (by decide)
    have ei : (nI i).toNatClampNeg = i := nI_clamp (by omega)
    obtain ⟨o, kk, ho, hk, a1, a2, a3, a4, a5, a6⟩ := hL i (by omega)
    have x24 : τ 24 (nI i).toNatClampNeg = nI o := by rw [e24, ei]; exact a1
    have eo : (nI o).toNatClampNeg = o := nI_clamp (by omega)
    have vo : vp_in (nI o) 48 := vp_in_nI (by omega) (by decide)
    have x17 : τ 17 (nI o).toNatClampNeg = nI kk := by rw [e17, eo]; exact a3
    refine jx_go jk_29 (fun _ _ _ z => z) 100 [14] ?_
    refine ⟨fun q => absurd q cc, fun _ => ⟨v, ?_⟩⟩
    rw [x24]
    refine ⟨vo, ?_⟩
    rw [x17]
    have eji : su_ji σ (k + 1) i = if su_k σ i < 4 then su_ji σ k (i + 1) else (su_k σ i - 4, σ 50 (σ 54 i).toNatClampNeg, σ 55 i, nI i) :: su_ji σ k (i + 1) := rfl
    rw [eji, a6] at hQ
    by_cases c4 : kk < 4
    · rw [if_pos c4] at hQ
      have h9 := su_29l hn hm en hL hI hO hS hM hck hc1 hc2 k (i + 1) τ B last (by omega) hs hB hQ
      rw [← nI_1] at h9
      exact ⟨fun _ => jx_Jsubh h9 ⟨rfl, rfl, rfl, trivial⟩, fun q => absurd (nI_lt (b := 4) c4 (by decide)) q⟩
    · rw [if_neg c4] at hQ
      have hkc : kk - 4 < c := by
        have := hck i (by omega) (by omega)
        rw [a6] at this
        exact this
      have e4 : nI kk - 4 = nI (kk - 4) := pk_sub (b := 4) (by omega)
      have x18 : jx_su τ 32 (0 : Int32).toNatClampNeg (nI i) 18 (nI o).toNatClampNeg = σ 50 (σ 54 i).toNatClampNeg := by
        show τ 18 (nI o).toNatClampNeg = _
        rw [e18, a2, eo]
        exact (hO o ho).2.1
      have x25 : jx_su τ 32 (0 : Int32).toNatClampNeg (nI i) 25 (nI i).toNatClampNeg = σ 55 i := by
        show τ 25 (nI i).toNatClampNeg = _
        rw [e25, ei]
        exact hI i (by omega)
      refine ⟨fun q => absurd q (nI_nlt (b := 4) (by omega) (by omega)), fun _ => ⟨v0, vo, v, ?_⟩⟩
      rw [x18, x25, e4]
      refine su_ev (k := kk - 4) (p := nI i) hs hS hkc hB (fun τ' hP => ?_)
      generalize hj : (((kk - 4, σ 50 (σ 54 i).toNatClampNeg, σ 55 i, nI i) : su_J)) = j at hP hQ
      have hj1 : j.1 < c := by rw [← hj]; exact hkc
      have hr := su_RB (n := n) (j := j) hS hj1 hB
      have e13 : τ' 3 13 = nI (su_R σ (σ 6) n j B).1 := hP.2.2.1
      have e12 : τ' 3 12 = nI (su_R σ (σ 6) n j B).2.1 := hP.2.2.2.1
      by_cases h0 : (su_R σ (σ 6) n j B).1 = 0
      · have ej : su_jb σ (σ 6) n (j :: su_ji σ k (i + 1)) B last = su_jb σ (σ 6) n (su_ji σ k (i + 1)) (B - (su_R σ (σ 6) n j B).2.1) (some (su_R σ (σ 6) n j B)) := if_pos h0
        rw [ej] at hQ
        have g0 : τ' 3 13 = 0 := by rw [e13, h0]; rfl
        have h9 := su_29l hn hm en hL hI hO hS hM hck hc1 hc2 k (i + 1) τ' _ _ (by omega) hP (by omega) hQ
        rw [← pk_sub hr.2, ← e12, ← nI_1] at h9
        exact ⟨fun _ => jx_Jsubh h9 ⟨rfl, rfl, rfl, trivial⟩, fun q => absurd g0 q⟩
      · have ej : su_jb σ (σ 6) n (j :: su_ji σ k (i + 1)) B last = (false, some (su_R σ (σ 6) n j B)) := if_neg h0
        rw [ej] at hQ
        have g0 : ¬ τ' 3 13 = 0 := by rw [e13, su_0iff hr.1]; exact h0
        exact ⟨fun q => absurd q g0, fun _ => ⟨Or.inl rfl, hQ τ' 0 hP rfl⟩⟩
theorem su_29 (hn : n ≤ 3) (hm : m ≤ 48) (en : σ 23 2 = nI n) (en2 : σ 34 33 = nI n) (eg : σ 26 3 = σ 34 36) (hT : iv_T σ) (hL : su_LK σ m n) (hI : ∀ i, i < n → σ 25 i = σ 55 i) (hO : ∀ o, o < m → iv_O σ o h) (hS : su_scr σ c) (hM : ∀ t, t < 3 → σ 30 t = σ 59 t ∧ σ 31 t = σ 60 t) (hck : ∀ i, i < n → 4 ≤ su_k σ i → su_k σ i - 4 < c) (hc1 : σ 59 1 ≠ 0 → 0 < c) (hc2 : σ 59 2 ≠ 0 → 1 < c) (hB : B ≤ 99) (eB : σ 23 10 = nI B) (hQ : ∀ τ' b, sx_C σ τ' n (su_jb σ (σ 6) n (su_ji σ n 0) B none).2 → b = (if (su_jb σ (σ 6) n (su_ji σ n 0) B none).1 then 1 else 0) → Q (some (.int b)) τ') : jx_C l D cA ρ jx_XM (d + 6) 29 [.ref 0] σ Q := by
  refine jx_in jk_29 100 [14] rfl (Nat.le_of_ble_eq_true rfl) ?_
  refine su_30 hm hn en en2 eg hL hO (fun t ht => (hM t ht).1) hT (fun τ hs => ?_)
  have e23 : τ 23 = σ 23 := hs.1 23 rfl
  have e10 : τ 23 10 = nI B := by rw [e23]; exact eB
  have h9 := su_29l (l := l) (D := D) (cA := cA) (ρ := ρ) (d := d) (Q := Q) hn hm en hL hI hO hS hM hck hc1 hc2 n 0 τ B none (by omega) hs hB hQ
  rw [← e10] at h9
  exact h9
end SY

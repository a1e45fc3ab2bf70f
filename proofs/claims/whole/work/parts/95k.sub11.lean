/-! submit: the second phase of the model, its loops -/
def sx_M (σ τ : jx_St) : su_O → Prop
  | none => τ = σ
  | some r => em_E σ τ r
theorem sx_Ms {σ τ : jx_St} : ∀ {last : su_O}, sx_M σ τ last → em_same σ τ
  | none, h => by
    have h : τ = σ := h
    rw [h]
    exact ⟨fun _ _ => rfl, fun _ _ => rfl⟩
  | some r, h => h.1
def su_scm (σ : jx_St) (g : Nat → Int32) (c : Nat) : Prop := c ≤ 6 ∧ ∀ s, s < c → ∃ E : Nat, E ≤ 288 ∧ (∀ j, 48 * s ≤ j → j < E → ∃ b : Nat, b < 256 ∧ σ 35 j = nI b) ∧ ez_t (σ 35) g (48 * s) E (48 * s) 0
theorem su_RM {σ : jx_St} {g : Nat → Int32} {n c B : Nat} {j : su_J} (hS : su_scm σ g c) (hj : j.1 < c) (hB : B ≤ 99) : (su_R σ g n j B).1 ≤ 3 ∧ (su_R σ g n j B).2.1 ≤ B := by
  obtain ⟨E, hE, h5, ht⟩ := hS.2 _ hj
  refine ⟨ez_le3 _ _ _ _, ez_sB (s0 := 48 * j.1) hB hE h5 _ _ _ _ (Or.inl ⟨rfl, ht, trivial⟩) ?_ (Nat.zero_le _)⟩
  exact ⟨Nat.le_refl 3, fun z => absurd (show (3 : Nat) = 0 from z) (by decide), trivial, Nat.le_refl 3, fun z => absurd (show (3 : Nat) = 0 from z) (by decide), trivial, Nat.le_refl 3, fun z => absurd (show (3 : Nat) = 0 from z) (by decide), ec_lsw _ _ _, trivial⟩
section SW
variable {l : Launch} {D : va_G} {cA : ClassId} {ρ : Nat → Nat} {d : Nat} {Q : Option Value → jx_St → Prop} {σ τ : jx_St} {g : Nat → Int32} {m h n c B : Nat} {last : su_O}
/-- agrees, with what comes behind it -/
theorem su_ag {k : Nat} {x y p : Int32} (hn : n ≤ 3) (hm : m ≤ 48) (en : σ 34 33 = nI n) (hL : su_LM σ m n) (hS : su_scm σ g c) (hs : sx_M σ τ last) (hk : k < c) (hB : B ≤ 99) (h1 : ∀ τ', sx_M σ τ' (some (su_R σ g n (k, x, y, p) B)) → (su_R σ g n (k, x, y, p) B).1 = 0 → Q (some (.int 1)) τ') (h0 : ∀ τ', sx_M σ τ' (some (su_R σ g n (k, x, y, p) B)) → ¬ (su_R σ g n (k, x, y, p) B).1 = 0 → Q (some (.int 0)) τ') : jx_C l D cA ρ jx_XM (d + 8) 126 [.ref 34, .int (nI k), .int x, .int y, .int p, .int (nI B)] τ Q := by
  obtain ⟨E, hE, h5, ht⟩ := hS.2 _ hk
  refine su_126 hn hm en hL (sx_Ms hs) hB hE h5 ht (fun τ' hP => ?_)
  by_cases hz : (su_R σ g n (k, x, y, p) B).1 = 0
  · rw [if_pos hz]; exact h1 τ' hP hz
  · rw [if_neg hz]; exact h0 τ' hP hz
theorem su_127b (hn : n ≤ 3) (hm : m ≤ 48) (en : σ 34 33 = nI n) (hL : su_LM σ m n) (hS : su_scm σ g c) (hc2 : σ 59 2 ≠ 0 → 1 < c) (hs : sx_M σ τ last) (hB : B ≤ 99) (hQ : ∀ τ' b, sx_M σ τ' (su_jb σ g n (su_j2 σ) B last).2 → b = (if (su_jb σ g n (su_j2 σ) B last).1 then 1 else 0) → Q (some (.int b)) τ') :
    jx_J l D cA ρ jx_XM (jx_A ρ jx_XM) jx_tb0 (d + 9) 127 Q 78 [(2, .int (nI 2)), (1, .int (nI B)), (0, .ref 34)] [] τ := by
  have hsm := sx_Ms hs
  have e59 : τ 59 = σ 59 := hsm.1 59 rfl
  have e60 : τ 60 = σ 60 := hsm.1 60 rfl
  have v : vp_in (nI 2) 3 := vp_in_nI (by decide) (by decide)
  have x2 : τ 59 (nI 2).toNatClampNeg = σ 59 2 := by rw [e59]; rfl
  have y2 : τ 60 (nI 2).toNatClampNeg = σ 60 2 := by rw [e60]; rfl
  refine jx_go jk_127 (fun _ _ _ z => z) 100 [] ?_
  refine ⟨fun q => absurd q (by decide), fun _ => ⟨v, ?_⟩⟩
  rw [x2]
  unfold su_j2 at hQ
  by_cases z2 : σ 59 2 = 0
  · rw [if_pos z2] at hQ
    exact ⟨fun _ => ⟨fun _ => ⟨Or.inr rfl, hQ τ 1 hs rfl⟩, fun q => absurd (by decide) q⟩, fun q => absurd z2 q⟩
  · rw [if_neg z2] at hQ
    refine ⟨fun q => absurd q z2, fun _ => ⟨v, v, ?_⟩⟩
    rw [x2, y2]
    refine su_ag (k := 1) (p := nI 10) hn hm en hL hS hs (hc2 z2) hB (fun τ' hP h0 => ?_) (fun τ' hP h0 => ?_)
    · have ej : su_jb σ g n [(1, σ 59 2, σ 60 2, nI 10)] B last = (true, some (su_R σ g n (1, σ 59 2, σ 60 2, nI 10) B)) := if_pos h0
      rw [ej] at hQ
      exact ⟨fun _ => ⟨fun _ => ⟨Or.inr rfl, hQ τ' 1 hP rfl⟩, fun q => absurd (by decide) q⟩, fun q => absurd q (by decide)⟩
    · have ej : su_jb σ g n [(1, σ 59 2, σ 60 2, nI 10)] B last = (false, some (su_R σ g n (1, σ 59 2, σ 60 2, nI 10) B)) := if_neg h0
      rw [ej] at hQ
      exact ⟨fun q => absurd rfl q, fun _ => ⟨Or.inl rfl, hQ τ' 0 hP rfl⟩⟩
theorem su_127a (hn : n ≤ 3) (hm : m ≤ 48) (en : σ 34 33 = nI n) (hL : su_LM σ m n) (hS : su_scm σ g c) (hc1 : σ 59 1 ≠ 0 → 0 < c) (hc2 : σ 59 2 ≠ 0 → 1 < c) (hs : sx_M σ τ last) (hB : B ≤ 99) (hQ : ∀ τ' b, sx_M σ τ' (su_jb σ g n (su_j1 σ) B last).2 → b = (if (su_jb σ g n (su_j1 σ) B last).1 then 1 else 0) → Q (some (.int b)) τ') :
    jx_J l D cA ρ jx_XM (jx_A ρ jx_XM) jx_tb0 (d + 9) 127 Q 78 [(2, .int 1), (1, .int (nI B)), (0, .ref 34)] [] τ := by
  have hsm := sx_Ms hs
  have e59 : τ 59 = σ 59 := hsm.1 59 rfl
  have e60 : τ 60 = σ 60 := hsm.1 60 rfl
  have v : vp_in 1 3 := vp_in_nI (n := 1) (by decide) (by decide)
  have x2 : τ 59 (1 : Int32).toNatClampNeg = σ 59 1 := by rw [e59]; rfl
  have y2 : τ 60 (1 : Int32).toNatClampNeg = σ 60 1 := by rw [e60]; rfl
  refine jx_go jk_127 (fun _ _ _ z => z) 100 [78] ?_
  refine ⟨fun q => absurd q (by decide), fun _ => ⟨v, ?_⟩⟩
  rw [x2]
  unfold su_j1 at hQ
  by_cases z2 : σ 59 1 = 0
  · rw [if_pos z2] at hQ
    exact ⟨fun _ => jx_Jsubh (su_127b hn hm en hL hS hc2 hs hB hQ) ⟨rfl, rfl, rfl, trivial⟩, fun q => absurd z2 q⟩
  · rw [if_neg z2] at hQ
    refine ⟨fun q => absurd q z2, fun _ => ⟨v, v, ?_⟩⟩
    rw [x2, y2]
    have hr := su_RM (n := n) (j := (0, σ 59 1, σ 60 1, nI 9)) hS (hc1 z2) hB
    refine su_ag (k := 0) (p := nI 9) hn hm en hL hS hs (hc1 z2) hB (fun τ' hP h0 => ?_) (fun τ' hP h0 => ?_)
    · have ej : su_jb σ g n ((0, σ 59 1, σ 60 1, nI 9) :: su_j2 σ) B last = su_jb σ g n (su_j2 σ) (B - (su_R σ g n (0, σ 59 1, σ 60 1, nI 9) B).2.1) (some (su_R σ g n (0, σ 59 1, σ 60 1, nI 9) B)) := if_pos h0
      rw [ej] at hQ
      have e21 : τ' 34 21 = nI (su_R σ g n (0, σ 59 1, σ 60 1, nI 9) B).2.1 := hP.2.2.1
      have h9 := su_127b (l := l) (D := D) (cA := cA) (ρ := ρ) (d := d) hn hm en hL hS hc2 hP (by omega) hQ
      rw [← pk_sub hr.2, ← e21] at h9
      exact ⟨fun _ => jx_Jsubh h9 ⟨rfl, rfl, rfl, trivial⟩, fun q => absurd q (by decide)⟩
    · have ej : su_jb σ g n ((0, σ 59 1, σ 60 1, nI 9) :: su_j2 σ) B last = (false, some (su_R σ g n (0, σ 59 1, σ 60 1, nI 9) B)) := if_neg h0
      rw [ej] at hQ
      exact ⟨fun q => absurd rfl q, fun _ => ⟨Or.inl rfl, hQ τ' 0 hP rfl⟩⟩
theorem su_127l (hn : n ≤ 3) (hm : m ≤ 48) (en : σ 34 33 = nI n) (hL : su_LM σ m n) (hS : su_scm σ g c) (hck : ∀ i, i < n → 4 ≤ su_k σ i → su_k σ i - 4 < c) (hc1 : σ 59 1 ≠ 0 → 0 < c) (hc2 : σ 59 2 ≠ 0 → 1 < c) : ∀ (k i : Nat) (τ : jx_St) (B : Nat) (last : su_O), i + k = n → sx_M σ τ last → B ≤ 99 → (∀ τ' b, sx_M σ τ' (su_jb σ g n (su_ji σ k i) B last).2 → b = (if (su_jb σ g n (su_ji σ k i) B last).1 then 1 else 0) → Q (some (.int b)) τ') →
    jx_J l D cA ρ jx_XM (jx_A ρ jx_XM) jx_tb0 (d + 9) 127 Q 7 [(2, .int (nI i)), (1, .int (nI B)), (0, .ref 34)] [] τ
  | 0, i, τ, B, last, hi, hs, hB, hQ => by
    have e : i = n := by omega
    subst e
    have e33 : τ 34 33 = σ 34 33 := (sx_Ms hs).2 33 rfl
    have cc : τ 34 33 ≤ nI i := by rw [e33, en]; exact Int32.le_refl _
    have h9 := su_127a (l := l) (D := D) (cA := cA) (ρ := ρ) (d := d) hn hm en hL hS hc1 hc2 hs hB hQ
    refine jx_go jk_127 (fun _ _ _ z => z) 100 [7, 78] ?_
    exact ⟨fun _ => jx_Jsubh h9 ⟨rfl, rfl, rfl, trivial⟩, fun q => absurd cc q⟩
  | k + 1, i, τ, B, last, hi, hs, hB, hQ => by
    have hsm := sx_Ms hs
    have e33 : τ 34 33 = σ 34 33 := hsm.2 33 rfl
    have e54 : τ 54 = σ 54 := hsm.1 54 rfl
    have e55 : τ 55 = σ 55 := hsm.1 55 rfl
    have e49 : τ 49 = σ 49 := hsm.1 49 rfl
    have e50 : τ 50 = σ 50 := hsm.1 50 rfl
    have cc : ¬ τ 34 33 ≤ nI i := by rw [e33, en]; exact nI_ge (by omega) (by omega)
    have v : vp_in (nI i) 3 := vp_in_nI (by omega) (by decide)
    have ei : (nI i).toNatClampNeg = i := nI_clamp (by omega)
    obtain ⟨o, kk, ho, hk, a2, a4, a5, a6⟩ := hL i (by omega)
    have x54 : τ 54 (nI i).toNatClampNeg = nI o := by rw [e54, ei]; exact a2
    have eo : (nI o).toNatClampNeg = o := nI_clamp (by omega)
    have vo : vp_in (nI o) 48 := vp_in_nI (by omega) (by decide)
    have x49 : τ 49 (nI o).toNatClampNeg = nI kk := by rw [e49, eo]; exact a4
    refine jx_go jk_127 (fun _ _ _ z => z) 100 [7] ?_
    refine ⟨fun q => absurd q cc, fun _ => ⟨v, ?_⟩⟩
    rw [x54]
    refine ⟨vo, ?_⟩
    rw [x49]
    have eji : su_ji σ (k + 1) i = if su_k σ i < 4 then su_ji σ k (i + 1) else (su_k σ i - 4, σ 50 (σ 54 i).toNatClampNeg, σ 55 i, nI i) :: su_ji σ k (i + 1) := rfl
    rw [eji, a6] at hQ
    by_cases c4 : kk < 4
    · rw [if_pos c4] at hQ
      have h9 := su_127l hn hm en hL hS hck hc1 hc2 k (i + 1) τ B last (by omega) hs hB hQ
      rw [← nI_1] at h9
      exact ⟨fun _ => jx_Jsubh h9 ⟨rfl, rfl, rfl, trivial⟩, fun q => absurd (nI_le (b := 3) (by omega) (by decide)) q⟩
    · rw [if_neg c4] at hQ
      have hkc : kk - 4 < c := by
        have := hck i (by omega) (by omega)
        rw [a6] at this
        exact this
      have e4 : nI kk - 4 = nI (kk - 4) := pk_sub (b := 4) (by omega)
      have x50 : τ 50 (nI o).toNatClampNeg = σ 50 (σ 54 i).toNatClampNeg := by rw [e50, a2]
      have x55 : τ 55 (nI i).toNatClampNeg = σ 55 i := by rw [e55, ei]
      have x49b : τ 49 (nI o).toNatClampNeg - 4 = nI (kk - 4) := by rw [x49, e4]
      have hag := fun K2 h1 h0 => su_ag (l := l) (D := D) (cA := cA) (ρ := ρ) (d := d) (Q := K2) (k := kk - 4) (x := σ 50 (σ 54 i).toNatClampNeg) (y := σ 55 i) (p := nI i) hn hm en hL hS hs hkc hB h1 h0
      rw [← x50, ← x55] at hag
      rw [← x49b] at hag
      refine ⟨fun q => absurd q (nI_ge (a := 3) (by omega) (by omega)), fun _ => ⟨vo, vo, v, hag _ (fun τ' hP h0 => ?_) (fun τ' hP h0 => ?_)⟩⟩
      · rw [x50, x55] at hP h0
        generalize hj : (((kk - 4, σ 50 (σ 54 i).toNatClampNeg, σ 55 i, nI i) : su_J)) = j at hP h0 hQ
        have hj1 : j.1 < c := by rw [← hj]; exact hkc
        have hr := su_RM (n := n) (j := j) hS hj1 hB
        have e21 : τ' 34 21 = nI (su_R σ g n j B).2.1 := hP.2.2.1
        have ej : su_jb σ g n (j :: su_ji σ k (i + 1)) B last = su_jb σ g n (su_ji σ k (i + 1)) (B - (su_R σ g n j B).2.1) (some (su_R σ g n j B)) := if_pos h0
        rw [ej] at hQ
        have h9 := su_127l hn hm en hL hS hck hc1 hc2 k (i + 1) τ' _ _ (by omega) hP (by omega) hQ
        rw [← pk_sub hr.2, ← e21, ← nI_1] at h9
        exact ⟨fun _ => jx_Jsubh h9 ⟨rfl, rfl, rfl, trivial⟩, fun q => absurd q (by decide)⟩
      · rw [x50, x55] at hP h0
        generalize hj : (((kk - 4, σ 50 (σ 54 i).toNatClampNeg, σ 55 i, nI i) : su_J)) = j at hP h0 hQ
        have ej : su_jb σ g n (j :: su_ji σ k (i + 1)) B last = (false, some (su_R σ g n j B)) := if_neg h0
        rw [ej] at hQ
        exact ⟨fun q => absurd rfl q, fun _ => ⟨Or.inl rfl, hQ τ' 0 hP rfl⟩⟩
theorem su_127 (hn : n ≤ 3) (hm : m ≤ 48) (en : σ 34 33 = nI n) (hL : su_LM σ m n) (hS : su_scm σ g c) (hck : ∀ i, i < n → 4 ≤ su_k σ i → su_k σ i - 4 < c) (hc1 : σ 59 1 ≠ 0 → 0 < c) (hc2 : σ 59 2 ≠ 0 → 1 < c) (hB : B ≤ 99) (eB : σ 34 46 = nI B) (hQ : ∀ τ' b, sx_M σ τ' (su_jb σ g n (su_ji σ n 0) B none).2 → b = (if (su_jb σ g n (su_ji σ n 0) B none).1 then 1 else 0) → Q (some (.int b)) τ') : jx_C l D cA ρ jx_XM (d + 9) 127 [.ref 34] σ Q := by
  have h9 := su_127l (l := l) (D := D) (cA := cA) (ρ := ρ) (d := d) (Q := Q) hn hm en hL hS hck hc1 hc2 n 0 σ B none (by omega) rfl hB hQ
  rw [← eB] at h9
  refine jx_in jk_127 100 [7] rfl (Nat.le_of_ble_eq_true rfl) ?_
  exact h9
end SW

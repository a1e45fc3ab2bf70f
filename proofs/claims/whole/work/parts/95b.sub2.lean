/-! submit: balance -/
def jx_sl (lv : jx_Lv) : jx_Lv → Prop
  | [] => True
  | q :: t => jx_lk lv q.1 = some q.2 ∧ jx_sl lv t
theorem jx_slm2 {lv : jx_Lv} : ∀ {lv' : jx_Lv}, jx_sl lv lv' → ∀ q ∈ lv', q ∈ lv
  | [], _, q, hq => absurd hq List.not_mem_nil
  | p :: t, h, q, hq => by
    rcases List.mem_cons.mp hq with rfl | hq
    · exact jx_lkmem h.1
    · exact jx_slm2 h.2 q hq
theorem jx_Jsubl {l : Launch} {D : va_G} {cA : ClassId} {ρ : Nat → Nat} {Λ : List jx_Lc} {A : Nat → Prop} {tb : jx_Tb} {d k : Nat} {Q : Option Value → jx_St → Prop} {pc : Nat} {lv : jx_Lv} {st : List Value} {σ : jx_St} (lv' : jx_Lv) (hs : jx_sl lv lv') (h : jx_J l D cA ρ Λ A tb d k Q pc lv' st σ) : jx_J l D cA ρ Λ A tb d k Q pc lv st σ := jx_Jsub (jx_slm2 hs) h
theorem jx_Jsubh {l : Launch} {D : va_G} {cA : ClassId} {ρ : Nat → Nat} {Λ : List jx_Lc} {A : Nat → Prop} {tb : jx_Tb} {d k : Nat} {Q : Option Value → jx_St → Prop} {pc : Nat} {lv lv' : jx_Lv} {st : List Value} {σ : jx_St} (h : jx_J l D cA ρ Λ A tb d k Q pc lv' st σ) (hs : jx_sl lv lv') : jx_J l D cA ρ Λ A tb d k Q pc lv st σ := jx_Jsub (jx_slm2 hs) h
def su_ls (f : Nat → Int32) (x : Int64) : Nat → Int64
  | 0 => x
  | n + 1 => su_ls f x n + (f n).toInt64
section SB
variable {l : Launch} {D : va_G} {cA : ClassId} {ρ : Nat → Nat} {d : Nat} {Q : Option Value → jx_St → Prop} {σ : jx_St} {m h n g : Nat}
theorem su_23 {t : Nat} (ht : t < 3) (hm : m ≤ 48) (hn : n ≤ 3) (en : σ 23 2 = nI n) (hin : ∀ i, i < n → ∃ o, o < m ∧ σ 24 i = nI o) (hQ : Q (some (.int (iv_sum (fun i => σ 19 (3 * (σ 24 i).toNatClampNeg + t)) n))) σ) : jx_C l D cA ρ jx_XM (d + 2) 23 [.ref 0, .int (nI t)] σ Q := by
  have loop : ∀ k i, i + k = n → jx_J l D cA ρ jx_XM (jx_A ρ jx_XM) jx_tb0 (d + 2) 23 Q 4 [(3, .int (nI i)), (2, .int (iv_sum (fun i => σ 19 (3 * (σ 24 i).toNatClampNeg + t)) i)), (0, .ref 0), (1, .int (nI t))] [] σ := by
    intro k
    induction k with
    | zero =>
      intro i hi
      have e : i = n := by omega
      subst e
      have c : σ 23 2 ≤ nI i := by rw [en]; exact Int32.le_refl _
      refine jx_go jk_23 (fun _ _ _ z => z) 60 [4] ?_
      exact ⟨fun _ => hQ, fun q => absurd c q⟩
    | succ k ih =>
      intro i hi
      have c : ¬ σ 23 2 ≤ nI i := by rw [en]; exact nI_ge (by omega) (by omega)
      have v : vp_in (nI i) 3 := vp_in_nI (by omega) (by decide)
      have ec : (nI i).toNatClampNeg = i := nI_clamp (by omega)
      obtain ⟨o, ho, eo⟩ := hin i (by omega)
      have e1 : σ 24 i * 3 + nI t = nI (3 * o + t) := by rw [eo]; exact jl_x3 t (by omega) ht
      have eo2 : (σ 24 i).toNatClampNeg = o := by rw [eo]; exact nI_clamp (by omega)
      have v2 : vp_in (σ 24 (nI i).toNatClampNeg * 3 + nI t) 144 := by rw [ec, e1]; exact vp_in_nI (by omega) (by decide)
      have e2 : (σ 24 (nI i).toNatClampNeg * 3 + nI t).toNatClampNeg = 3 * (σ 24 i).toNatClampNeg + t := by rw [ec, e1, eo2]; exact nI_clamp (by omega)
      have h9 := ih (i + 1) (by omega)
      rw [← nI_1] at h9
      refine jx_go jk_23 (fun _ _ _ z => z) 60 [4] ?_
      refine ⟨fun q => absurd q c, fun _ => ⟨v, ji_79 ⟨v2, ?_⟩⟩⟩
      rw [e2]
      exact h9
  refine jx_in jk_23 40 [4] rfl (Nat.le_of_ble_eq_true rfl) ?_
  exact loop n 0 (by omega)
theorem su_80 {t : Nat} (ht : t < 3) (hg : g ≤ 3) (eg : σ 26 3 = nI g) (hQ : Q (some (.int (iv_sum (fun i => σ 29 (3 * i + t)) g))) σ) : jx_C l D cA ρ jx_XM (d + 2) 80 [.ref 26, .int (nI t)] σ Q := by
  have loop : ∀ k i, i + k = g → jx_J l D cA ρ jx_XM (jx_A ρ jx_XM) jx_tb0 (d + 2) 80 Q 4 [(3, .int (nI i)), (2, .int (iv_sum (fun i => σ 29 (3 * i + t)) i)), (0, .ref 26), (1, .int (nI t))] [] σ := by
    intro k
    induction k with
    | zero =>
      intro i hi
      have e : i = g := by omega
      subst e
      have c : σ 26 3 ≤ nI i := by rw [eg]; exact Int32.le_refl _
      refine jx_go jk_80 (fun _ _ _ z => z) 60 [4] ?_
      exact ⟨fun _ => hQ, fun q => absurd c q⟩
    | succ k ih =>
      intro i hi
      have c : ¬ σ 26 3 ≤ nI i := by rw [eg]; exact nI_ge (by omega) (by omega)
      have e1 : nI i * 3 + nI t = nI (3 * i + t) := jl_x3 t (by omega) ht
      have v2 : vp_in (nI i * 3 + nI t) 9 := by rw [e1]; exact vp_in_nI (by omega) (by decide)
      have e2 : (nI i * 3 + nI t).toNatClampNeg = 3 * i + t := by rw [e1]; exact nI_clamp (by omega)
      have h9 := ih (i + 1) (by omega)
      rw [← nI_1] at h9
      refine jx_go jk_80 (fun _ _ _ z => z) 60 [4] ?_
      refine ⟨fun q => absurd q c, fun _ => ji_79 ⟨v2, ?_⟩⟩
      rw [e2]
      exact h9
  refine jx_in jk_80 40 [4] rfl (Nat.le_of_ble_eq_true rfl) ?_
  exact loop g 0 (by omega)
/-- one asset is balanced, in ints -/
def su_cb (σ : jx_St) (n g t : Nat) : Prop := iv_sum (fun i => σ 19 (3 * (σ 24 i).toNatClampNeg + t)) n + σ 30 t = iv_sum (fun i => σ 29 (3 * i + t)) g + (if t = 0 then σ 23 6 else 0)
theorem su_22 (hm : m ≤ 48) (hn : n ≤ 3) (en : σ 23 2 = nI n) (hg : g ≤ 3) (eg : σ 26 3 = nI g) (hin : ∀ i, i < n → ∃ o, o < m ∧ σ 24 i = nI o) (h1 : (∀ t, t < 3 → su_cb σ n g t) → Q (some (.int 1)) σ) (h0 : (¬ ∀ t, t < 3 → su_cb σ n g t) → Q (some (.int 0)) σ) : jx_C l D cA ρ jx_XM (d + 3) 22 [.ref 0] σ Q := by
  have loop : ∀ k i, i + k = 3 → (∀ t, t < i → su_cb σ n g t) → jx_J l D cA ρ jx_XM (jx_A ρ jx_XM) jx_tb0 (d + 3) 22 Q 2 [(1, .int (nI i)), (0, .ref 0)] [] σ := by
    intro k
    induction k with
    | zero =>
      intro i hi hp
      have e : i = 3 := by omega
      subst e
      refine jx_go jk_22 (fun _ _ _ z => z) 60 [2] ?_
      exact ⟨fun _ => ⟨Or.inr rfl, h1 hp⟩, fun q => absurd (by decide) q⟩
    | succ k ih =>
      intro i hi hp
      have c : ¬ (3 : Int32) ≤ nI i := nI_ge (b := 3) (by omega) (by decide)
      have v : vp_in (nI i) 3 := vp_in_nI (by omega) (by decide)
      have ec : (nI i).toNatClampNeg = i := nI_clamp (by omega)
      refine jx_go jk_22 (fun _ _ _ z => z) 60 [2] ?_
      refine ⟨fun q => absurd q c, fun _ => su_23 (t := i) (by omega) hm hn en hin ⟨v, ?_⟩⟩
      refine su_80 (t := i) (by omega) hg eg ?_
      rw [ec]
      have goOn : su_cb σ n g i → jx_J l D cA ρ jx_XM (jx_A ρ jx_XM) jx_tb0 (d + 3) 22 Q 2 [(1, .int (nI i + 1)), (0, .ref 0)] [] σ := fun hb => by
        rw [nI_1]
        refine ih (i + 1) (by omega) (fun t ht => ?_)
        by_cases e : t = i
        · rw [e]; exact hb
        · exact hp t (by omega)
      by_cases e0 : i = 0
      · subst e0
        refine ⟨fun q => absurd rfl q, fun _ => ?_⟩
        by_cases hb : su_cb σ n g 0
        · exact ⟨fun _ => jx_Jsubl [(1, .int (nI 0 + 1)), (0, .ref 0)] ⟨rfl, rfl, trivial⟩ (goOn hb), fun q => absurd hb q⟩
        · exact ⟨fun q => absurd q hb, fun _ => ⟨Or.inl rfl, h0 (fun z => hb (z 0 (by omega)))⟩⟩
      · have n0 : ¬ nI i = 0 := nI_ne0 (by omega) (by omega)
        refine ⟨fun _ => ?_, fun q => absurd q n0⟩
        have hiff : su_cb σ n g i ↔ iv_sum (fun j => σ 19 (3 * (σ 24 j).toNatClampNeg + i)) n + σ 30 i = iv_sum (fun j => σ 29 (3 * j + i)) g + 0 := by
          unfold su_cb
          rw [if_neg e0]
        by_cases hb : su_cb σ n g i
        · exact ⟨fun _ => jx_Jsubl [(1, .int (nI i + 1)), (0, .ref 0)] ⟨rfl, rfl, trivial⟩ (goOn hb), fun q => absurd (hiff.mp hb) q⟩
        · exact ⟨fun q => absurd (hiff.mpr q) hb, fun _ => ⟨Or.inl rfl, h0 (fun z => hb (z i (by omega)))⟩⟩
  refine jx_in jk_22 40 [2] rfl (Nat.le_of_ble_eq_true rfl) ?_
  exact loop 3 0 (by omega) (fun t ht => absurd ht (Nat.not_lt_zero _))
end SB

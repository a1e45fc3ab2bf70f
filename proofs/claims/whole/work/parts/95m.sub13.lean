/-! submit: what an accepted transaction does to the model -/
def su_gm (τ : jx_St) (m : Nat) : Nat → jx_St
  | 0 => τ
  | k + 1 => jx_su (jx_su (jx_su (jx_su (jx_su (jx_su (jx_su (jx_su (su_gm τ m k) 48 (3 * (m + k)) (τ 58 (3 * k))) 48 (3 * (m + k) + 1) (τ 58 (3 * k + 1))) 48 (3 * (m + k) + 2) (τ 58 (3 * k + 2))) 49 (m + k) (τ 56 k)) 50 (m + k) (τ 57 k)) 51 (m + k) (τ 34 31)) 52 (m + k) (-1)) 34 25 (nI (m + k + 1))
def su_min (q : Nat) : Bool := Nat.beq q 34 || (Nat.ble 48 q && Nat.ble q 52)
theorem su_gmq {τ : jx_St} {m : Nat} : ∀ {k q : Nat}, su_min q = false → su_gm τ m k q = τ q
  | 0, _, _ => rfl
  | k + 1, q, h => by
    have h34 : q ≠ 34 := fun e => by rw [e] at h; cases h
    have h48 : q ≠ 48 := fun e => by rw [e] at h; cases h
    have h49 : q ≠ 49 := fun e => by rw [e] at h; cases h
    have h50 : q ≠ 50 := fun e => by rw [e] at h; cases h
    have h51 : q ≠ 51 := fun e => by rw [e] at h; cases h
    have h52 : q ≠ 52 := fun e => by rw [e] at h; cases h
    rw [su_gm, jx_su_ne _ _ _ h34, jx_su_ne _ _ _ h52, jx_su_ne _ _ _ h51, jx_su_ne _ _ _ h50, jx_su_ne _ _ _ h49, jx_su_ne _ _ _ h48, jx_su_ne _ _ _ h48, jx_su_ne _ _ _ h48]
    exact su_gmq h
theorem su_gmf {τ : jx_St} {m : Nat} : ∀ {k i : Nat}, i ≠ 25 → su_gm τ m k 34 i = τ 34 i
  | 0, _, _ => rfl
  | k + 1, i, h => by
    have e : su_gm τ m (k + 1) 34 i = upd (su_gm τ m k 34) 25 (nI (m + k + 1)) i := rfl
    rw [e, pk_un h]
    exact su_gmf h
theorem su_gm25 {τ : jx_St} {m : Nat} (em : τ 34 25 = nI m) : ∀ {k : Nat}, su_gm τ m k 34 25 = nI (m + k)
  | 0 => em
  | k + 1 => rfl
theorem su_gmr {τ : jx_St} {m : Nat} : ∀ {k : Nat}, (∀ o, o < m → su_gm τ m k 49 o = τ 49 o ∧ su_gm τ m k 50 o = τ 50 o ∧ su_gm τ m k 51 o = τ 51 o ∧ su_gm τ m k 52 o = τ 52 o ∧ ∀ t, t < 3 → su_gm τ m k 48 (3 * o + t) = τ 48 (3 * o + t)) ∧ ∀ i, i < k → su_gm τ m k 49 (m + i) = τ 56 i ∧ su_gm τ m k 50 (m + i) = τ 57 i ∧ su_gm τ m k 51 (m + i) = τ 34 31 ∧ su_gm τ m k 52 (m + i) = -1 ∧ ∀ t, t < 3 → su_gm τ m k 48 (3 * (m + i) + t) = τ 58 (3 * i + t)
  | 0 => ⟨fun o ho => ⟨rfl, rfl, rfl, rfl, fun t ht => rfl⟩, fun i hi => absurd hi (Nat.not_lt_zero _)⟩
  | k + 1 => by
    obtain ⟨h1, h2⟩ := su_gmr (τ := τ) (m := m) (k := k)
    have e49 : ∀ o, su_gm τ m (k + 1) 49 o = upd (su_gm τ m k 49) (m + k) (τ 56 k) o := fun o => rfl
    have e50 : ∀ o, su_gm τ m (k + 1) 50 o = upd (su_gm τ m k 50) (m + k) (τ 57 k) o := fun o => rfl
    have e51 : ∀ o, su_gm τ m (k + 1) 51 o = upd (su_gm τ m k 51) (m + k) (τ 34 31) o := fun o => rfl
    have e52 : ∀ o, su_gm τ m (k + 1) 52 o = upd (su_gm τ m k 52) (m + k) (-1) o := fun o => rfl
    have e48 : ∀ o, su_gm τ m (k + 1) 48 o = upd (upd (upd (su_gm τ m k 48) (3 * (m + k)) (τ 58 (3 * k))) (3 * (m + k) + 1) (τ 58 (3 * k + 1))) (3 * (m + k) + 2) (τ 58 (3 * k + 2)) o := fun o => rfl
    have u48 : ∀ o t, t < 3 → o ≠ m + k → su_gm τ m (k + 1) 48 (3 * o + t) = su_gm τ m k 48 (3 * o + t) := fun o t ht ho => by
      rw [e48, pk_un (by omega), pk_un (by omega), pk_un (by omega)]
    refine ⟨fun o ho => ?_, fun i hi => ?_⟩
    · obtain ⟨a1, a2, a3, a4, a5⟩ := h1 o ho
      refine ⟨?_, ?_, ?_, ?_, fun t ht => ?_⟩
      · rw [e49, pk_un (by omega)]; exact a1
      · rw [e50, pk_un (by omega)]; exact a2
      · rw [e51, pk_un (by omega)]; exact a3
      · rw [e52, pk_un (by omega)]; exact a4
      · rw [u48 o t ht (by omega)]; exact a5 t ht
    · by_cases e : i = k
      · subst e
        refine ⟨?_, ?_, ?_, ?_, fun t ht => ?_⟩
        · rw [e49]; exact pk_us
        · rw [e50]; exact pk_us
        · rw [e51]; exact pk_us
        · rw [e52]; exact pk_us
        · rw [e48]
          rcases (by omega : t = 0 ∨ t = 1 ∨ t = 2) with rfl | rfl | rfl
          · rw [pk_un (by omega), pk_un (by omega)]; exact pk_us
          · rw [pk_un (by omega)]; exact pk_us
          · exact pk_us
      · obtain ⟨a1, a2, a3, a4, a5⟩ := h2 i (by omega)
        refine ⟨?_, ?_, ?_, ?_, fun t ht => ?_⟩
        · rw [e49, pk_un (by omega)]; exact a1
        · rw [e50, pk_un (by omega)]; exact a2
        · rw [e51, pk_un (by omega)]; exact a3
        · rw [e52, pk_un (by omega)]; exact a4
        · rw [u48 (m + i) t ht (by omega)]; exact a5 t ht
section SF
variable {l : Launch} {D : va_G} {cA : ClassId} {ρ : Nat → Nat} {d : Nat} {Q : Option Value → jx_St → Prop} {σ τ : jx_St} {m h n g c B : Nat}
/-- one new output of the model: from the loop's head to its head -/
theorem su_128s {k : Nat} (hm : m < 48) (hk : k < g) (hg : g ≤ 3) (em : τ 34 25 = nI m) (eg : τ 34 36 = nI g) (hQ : jx_J l D cA ρ jx_XM (jx_A ρ jx_XM) jx_tb0 (d + 1) 128 Q 33 [(1, .int (nI (k + 1))), (0, .ref 34)] [] (jx_su (jx_su (jx_su (jx_su (jx_su (jx_su (jx_su (jx_su τ 48 (3 * m) (τ 58 (3 * k))) 48 (3 * m + 1) (τ 58 (3 * k + 1))) 48 (3 * m + 2) (τ 58 (3 * k + 2))) 49 m (τ 56 k)) 50 m (τ 57 k)) 51 m (τ 34 31)) 52 m (-1)) 34 25 (nI (m + 1)))) :
    jx_J l D cA ρ jx_XM (jx_A ρ jx_XM) jx_tb0 (d + 1) 128 Q 33 [(1, .int (nI k)), (0, .ref 34)] [] τ := by
  have c : ¬ τ 34 36 ≤ nI k := by rw [eg]; exact nI_ge hk (by omega)
  have vm : vp_in (τ 34 25) 48 := by rw [em]; exact vp_in_nI (by omega) (by decide)
  have cm : (τ 34 25).toNatClampNeg = m := by rw [em]; exact nI_clamp (by omega)
  have vk : vp_in (nI k) 3 := vp_in_nI (by omega) (by decide)
  have ck : (nI k).toNatClampNeg = k := nI_clamp (by omega)
  have ik0 : 3 * nI k + 0 = nI (3 * k + 0) := jl_m3 0 (by omega) (by decide)
  have ik1 : 3 * nI k + (0 + 1) = nI (3 * k + 1) := jl_m3 1 (by omega) (by decide)
  have ik2 : 3 * nI k + (0 + 1 + 1) = nI (3 * k + 2) := jl_m3 2 (by omega) (by decide)
  have vk0 : vp_in (3 * nI k + 0) 9 := by rw [ik0]; exact vp_in_nI (by omega) (by decide)
  have vk1 : vp_in (3 * nI k + (0 + 1)) 9 := by rw [ik1]; exact vp_in_nI (by omega) (by decide)
  have vk2 : vp_in (3 * nI k + (0 + 1 + 1)) 9 := by rw [ik2]; exact vp_in_nI (by omega) (by decide)
  have ck0 : (3 * nI k + 0).toNatClampNeg = 3 * k := by rw [ik0]; exact nI_clamp (by omega)
  have ck1 : (3 * nI k + (0 + 1)).toNatClampNeg = 3 * k + 1 := by rw [ik1]; exact nI_clamp (by omega)
  have ck2 : (3 * nI k + (0 + 1 + 1)).toNatClampNeg = 3 * k + 2 := by rw [ik2]; exact nI_clamp (by omega)
  have im0 : 3 * τ 34 25 + 0 = nI (3 * m + 0) := by rw [em]; exact jl_m3 0 (by omega) (by decide)
  have im1 : 3 * τ 34 25 + (0 + 1) = nI (3 * m + 1) := by rw [em]; exact jl_m3 1 (by omega) (by decide)
  have im2 : 3 * τ 34 25 + (0 + 1 + 1) = nI (3 * m + 2) := by rw [em]; exact jl_m3 2 (by omega) (by decide)
  have vm0 : vp_in (3 * τ 34 25 + 0) 144 := by rw [im0]; exact vp_in_nI (by omega) (by decide)
  have vm1 : vp_in (3 * τ 34 25 + (0 + 1)) 144 := by rw [im1]; exact vp_in_nI (by omega) (by decide)
  have vm2 : vp_in (3 * τ 34 25 + (0 + 1 + 1)) 144 := by rw [im2]; exact vp_in_nI (by omega) (by decide)
  have cm0 : (3 * τ 34 25 + 0).toNatClampNeg = 3 * m := by rw [im0]; exact nI_clamp (by omega)
  have cm1 : (3 * τ 34 25 + (0 + 1)).toNatClampNeg = 3 * m + 1 := by rw [im1]; exact nI_clamp (by omega)
  have cm2 : (3 * τ 34 25 + (0 + 1 + 1)).toNatClampNeg = 3 * m + 2 := by rw [im2]; exact nI_clamp (by omega)
  have e3 : τ 34 25 + 1 = nI (m + 1) := by rw [em, nI_1]
  have hQ2 : jx_J l D cA ρ jx_XM (jx_A ρ jx_XM) jx_tb0 (d + 1) 128 Q 33 [(1, .int (nI k + 1)), (0, .ref 34)] [] (jx_su (jx_su (jx_su (jx_su (jx_su (jx_su (jx_su (jx_su τ 48 (3 * τ 34 25 + 0).toNatClampNeg (τ 58 (3 * nI k + 0).toNatClampNeg)) 48 (3 * τ 34 25 + (0 + 1)).toNatClampNeg (τ 58 (3 * nI k + (0 + 1)).toNatClampNeg)) 48 (3 * τ 34 25 + (0 + 1 + 1)).toNatClampNeg (τ 58 (3 * nI k + (0 + 1 + 1)).toNatClampNeg)) 49 (τ 34 25).toNatClampNeg (τ 56 (nI k).toNatClampNeg)) 50 (τ 34 25).toNatClampNeg (τ 57 (nI k).toNatClampNeg)) 51 (τ 34 25).toNatClampNeg (τ 34 31)) 52 (τ 34 25).toNatClampNeg (-1)) 34 25 (τ 34 25 + 1)) := by
    rw [cm, ck, ck0, ck1, ck2, cm0, cm1, cm2, e3, nI_1]
    exact hQ
  refine jx_go jk_128 (fun _ _ _ z => z) 200 [33] ?_
  refine ⟨fun q => absurd q c, fun _ => ?_⟩
  refine ⟨fun q => absurd q (by decide), fun _ => ⟨vk0, vm0, ?_⟩⟩
  refine ⟨fun q => absurd q (by decide), fun _ => ⟨vk1, vm1, ?_⟩⟩
  refine ⟨fun q => absurd q (by decide), fun _ => ⟨vk2, vm2, ?_⟩⟩
  refine ⟨fun _ => ?_, fun q => absurd (by decide) q⟩
  refine ⟨vk, vm, vk, vm, vm, vm, ?_⟩
  exact jx_Jsubh hQ2 ⟨rfl, rfl, trivial⟩
def su_te (τ : jx_St) (m n g h : Nat) : jx_St := jx_su (su_gm (jx_pl τ 52 (su_mf (τ 52) (τ 54) (τ 34 31) n)) m g) 53 h (τ 53 h + τ 34 42)
theorem su_128 (hm : m + g ≤ 48) (em : τ 34 25 = nI m) (hn : n ≤ 3) (en : τ 34 33 = nI n) (hin : ∀ i, i < n → ∃ o, o < m ∧ τ 54 i = nI o) (hg : g ≤ 3) (eg : τ 34 36 = nI g) (hh : h ≤ 40) (eh : τ 34 31 = nI h) (hQ : Q none (su_te τ m n g h)) : jx_C l D cA ρ jx_XM (d + 1) 128 [.ref 34] τ Q := by
  have loop2 : ∀ (P : jx_St), P 34 25 = nI m → P 34 36 = nI g → P 34 31 = nI h → Q none (jx_su (su_gm P m g) 53 h (P 53 h + P 34 42)) → ∀ k i, i + k = g → jx_J l D cA ρ jx_XM (jx_A ρ jx_XM) jx_tb0 (d + 1) 128 Q 33 [(1, .int (nI i)), (0, .ref 34)] [] (su_gm P m i) := by
    intro P em eg eh hQ k
    induction k with
    | zero =>
      intro i hi
      have e : i = g := by omega
      subst e
      have e36 : su_gm P m i 34 36 = P 34 36 := su_gmf (by decide)
      have e31 : su_gm P m i 34 31 = P 34 31 := su_gmf (by decide)
      have e42 : su_gm P m i 34 42 = P 34 42 := su_gmf (by decide)
      have e53 : su_gm P m i 53 = P 53 := su_gmq rfl
      have c : su_gm P m i 34 36 ≤ nI i := by rw [e36, eg]; exact Int32.le_refl _
      have v : vp_in (su_gm P m i 34 31) 41 := by rw [e31, eh]; exact vp_in_nI (by omega) (by decide)
      have ch : (su_gm P m i 34 31).toNatClampNeg = h := by rw [e31, eh]; exact nI_clamp (by omega)
      have hQ' : Q none (jx_su (su_gm P m i) 53 (su_gm P m i 34 31).toNatClampNeg (su_gm P m i 53 (su_gm P m i 34 31).toNatClampNeg + su_gm P m i 34 42)) := by rw [ch, e53, e42]; exact hQ
      refine jx_go jk_128 (fun _ _ _ z => z) 60 [33] ?_
      exact ⟨fun _ => ⟨v, v, hQ'⟩, fun q => absurd c q⟩
    | succ k ih =>
      intro i hi
      have e36 : su_gm P m i 34 36 = P 34 36 := su_gmf (by decide)
      have e31 : su_gm P m i 34 31 = P 34 31 := su_gmf (by decide)
      have e56 : su_gm P m i 56 = P 56 := su_gmq rfl
      have e57 : su_gm P m i 57 = P 57 := su_gmq rfl
      have e58 : su_gm P m i 58 = P 58 := su_gmq rfl
      have h9 := ih (i + 1) (by omega)
      refine su_128s (m := m + i) (by omega) (show i < g by omega) hg (su_gm25 em) (by rw [e36]; exact eg) ?_
      rw [e56, e57, e58, e31]
      exact h9
  have loop1 : ∀ k i, i + k = n → jx_J l D cA ρ jx_XM (jx_A ρ jx_XM) jx_tb0 (d + 1) 128 Q 2 [(1, .int (nI i)), (0, .ref 34)] [] (jx_pl τ 52 (su_mf (τ 52) (τ 54) (τ 34 31) i)) := by
    intro k
    induction k with
    | zero =>
      intro i hi
      have e : i = n := by omega
      subst e
      have c : τ 34 33 ≤ nI i := by rw [en]; exact Int32.le_refl _
      have h9 := loop2 (jx_pl τ 52 (su_mf (τ 52) (τ 54) (τ 34 31) i)) em eg eh hQ g 0 (by omega)
      refine jx_go jk_128 (fun _ _ _ z => z) 60 [2, 33] ?_
      exact ⟨fun _ => h9, fun q => absurd c q⟩
    | succ k ih =>
      intro i hi
      have c : ¬ τ 34 33 ≤ nI i := by rw [en]; exact nI_ge (by omega) (by omega)
      have v : vp_in (nI i) 3 := vp_in_nI (by omega) (by decide)
      have ec : (nI i).toNatClampNeg = i := nI_clamp (by omega)
      obtain ⟨o, ho, eo⟩ := hin i (by omega)
      have x54 : jx_pl τ 52 (su_mf (τ 52) (τ 54) (τ 34 31) i) 54 (nI i).toNatClampNeg = τ 54 i := by
        show τ 54 (nI i).toNatClampNeg = τ 54 i
        rw [ec]
      have vo : vp_in (τ 54 i) 48 := by rw [eo]; exact vp_in_nI (by omega) (by decide)
      have h9 := ih (i + 1) (by omega)
      have es : su_mf (τ 52) (τ 54) (τ 34 31) (i + 1) = upd (su_mf (τ 52) (τ 54) (τ 34 31) i) (τ 54 i).toNatClampNeg (τ 34 31) := rfl
      rw [← nI_1, es, ← jx_pls] at h9
      refine jx_go jk_128 (fun _ _ _ z => z) 60 [2] ?_
      refine ⟨fun q => absurd q c, fun _ => ⟨v, ?_⟩⟩
      rw [x54]
      exact ⟨vo, h9⟩
  refine jx_in jk_128 40 [2] rfl (Nat.le_of_ble_eq_true rfl) ?_
  have h9 := loop1 n 0 (by omega)
  have e0 : jx_pl τ 52 (su_mf (τ 52) (τ 54) (τ 34 31) 0) = τ := jx_pli τ
  rw [e0] at h9
  exact h9
end SF

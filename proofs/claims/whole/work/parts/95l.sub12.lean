/-! submit: what an accepted transaction does to the ledger of the program -/
def jx_pl (τ : jx_St) (p : Nat) (F : Nat → Int32) : jx_St := fun q => bif Nat.beq q p then F else τ q
theorem jx_pls (τ : jx_St) {p i : Nat} {v : Int32} {F : Nat → Int32} : jx_su (jx_pl τ p F) p i v = jx_pl τ p (upd F i v) := by
  funext q
  by_cases hq : q = p
  · subst hq
    rw [jx_su_eq]
    unfold jx_pl
    rw [show Nat.beq q q = true by simp]
    rfl
  · rw [jx_su_ne _ _ _ hq]
    unfold jx_pl
    rw [jx_bne hq]
    rfl
theorem jx_pli (τ : jx_St) {p : Nat} : jx_pl τ p (τ p) = τ := by
  funext q
  unfold jx_pl
  cases h : Nat.beq q p with
  | false => rfl
  | true => rw [Nat.eq_of_beq_eq_true h]; rfl
/-- inputs marked as spent -/
def su_mf (F inp : Nat → Int32) (H : Int32) : Nat → (Nat → Int32)
  | 0 => F
  | i + 1 => upd (su_mf F inp H i) (inp i).toNatClampNeg H
theorem su_mfc {F F' inp inp' : Nat → Int32} {H : Int32} {m : Nat} (hF : ∀ o, o < m → F o = F' o) : ∀ {n : Nat}, (∀ i, i < n → inp i = inp' i) → ∀ o, o < m → su_mf F inp H n o = su_mf F' inp' H n o
  | 0, _, o, ho => hF o ho
  | n + 1, hi, o, ho => by
    show upd (su_mf F inp H n) (inp n).toNatClampNeg H o = upd (su_mf F' inp' H n) (inp' n).toNatClampNeg H o
    rw [hi n (by omega)]
    by_cases e : o = (inp' n).toNatClampNeg
    · rw [e, pk_us, pk_us]
    · rw [pk_un e, pk_un e]
      exact su_mfc hF (fun i h => hi i (by omega)) o ho
theorem su_mfo {F inp : Nat → Int32} {H : Int32} : ∀ {n : Nat} (o : Nat), su_mf F inp H n o = H ∨ su_mf F inp H n o = F o
  | 0, o => Or.inr rfl
  | n + 1, o => by
    by_cases e : o = (inp n).toNatClampNeg
    · exact Or.inl (by rw [e]; exact pk_us)
    · have h : su_mf F inp H (n + 1) o = su_mf F inp H n o := pk_un e
      rw [h]
      exact su_mfo o
/-- k of the new outputs added -/
def su_gs (τ : jx_St) (m : Nat) : Nat → jx_St
  | 0 => τ
  | k + 1 => jx_su (jx_su (jx_su (jx_su (jx_su (jx_su (jx_su (su_gs τ m k) 20 (m + k) (-1)) 17 (m + k) (τ 27 k)) 18 (m + k) (τ 28 k)) 19 (3 * (m + k)) (τ 29 (3 * k))) 19 (3 * (m + k) + 1) (τ 29 (3 * k + 1))) 19 (3 * (m + k) + 2) (τ 29 (3 * k + 2))) 16 3 (nI (m + k + 1))
def su_gin (q : Nat) : Bool := Nat.ble 16 q && Nat.ble q 20
theorem su_gsq {τ : jx_St} {m : Nat} : ∀ {k q : Nat}, su_gin q = false → su_gs τ m k q = τ q
  | 0, _, _ => rfl
  | k + 1, q, h => by
    have h16 : q ≠ 16 := fun e => by rw [e] at h; cases h
    have h17 : q ≠ 17 := fun e => by rw [e] at h; cases h
    have h18 : q ≠ 18 := fun e => by rw [e] at h; cases h
    have h19 : q ≠ 19 := fun e => by rw [e] at h; cases h
    have h20 : q ≠ 20 := fun e => by rw [e] at h; cases h
    rw [su_gs, jx_su_ne _ _ _ h16, jx_su_ne _ _ _ h19, jx_su_ne _ _ _ h19, jx_su_ne _ _ _ h19, jx_su_ne _ _ _ h18, jx_su_ne _ _ _ h17, jx_su_ne _ _ _ h20]
    exact su_gsq h
theorem su_gs3 {τ : jx_St} {m : Nat} (em : τ 16 3 = nI m) : ∀ {k : Nat}, su_gs τ m k 16 3 = nI (m + k)
  | 0 => em
  | k + 1 => rfl
/-- what the ledger's rows hold -/
theorem su_gsr {τ : jx_St} {m : Nat} : ∀ {k : Nat}, (∀ o, o < m → su_gs τ m k 17 o = τ 17 o ∧ su_gs τ m k 18 o = τ 18 o ∧ su_gs τ m k 20 o = τ 20 o ∧ ∀ t, t < 3 → su_gs τ m k 19 (3 * o + t) = τ 19 (3 * o + t)) ∧ ∀ i, i < k → su_gs τ m k 17 (m + i) = τ 27 i ∧ su_gs τ m k 18 (m + i) = τ 28 i ∧ su_gs τ m k 20 (m + i) = -1 ∧ ∀ t, t < 3 → su_gs τ m k 19 (3 * (m + i) + t) = τ 29 (3 * i + t)
  | 0 => ⟨fun o ho => ⟨rfl, rfl, rfl, fun t ht => rfl⟩, fun i hi => absurd hi (Nat.not_lt_zero _)⟩
  | k + 1 => by
    obtain ⟨h1, h2⟩ := su_gsr (τ := τ) (m := m) (k := k)
    have e17 : ∀ o, su_gs τ m (k + 1) 17 o = upd (su_gs τ m k 17) (m + k) (τ 27 k) o := fun o => rfl
    have e18 : ∀ o, su_gs τ m (k + 1) 18 o = upd (su_gs τ m k 18) (m + k) (τ 28 k) o := fun o => rfl
    have e20 : ∀ o, su_gs τ m (k + 1) 20 o = upd (su_gs τ m k 20) (m + k) (-1) o := fun o => rfl
    have e19 : ∀ o, su_gs τ m (k + 1) 19 o = upd (upd (upd (su_gs τ m k 19) (3 * (m + k)) (τ 29 (3 * k))) (3 * (m + k) + 1) (τ 29 (3 * k + 1))) (3 * (m + k) + 2) (τ 29 (3 * k + 2)) o := fun o => rfl
    have u19 : ∀ o t, t < 3 → o ≠ m + k → su_gs τ m (k + 1) 19 (3 * o + t) = su_gs τ m k 19 (3 * o + t) := fun o t ht ho => by
      rw [e19, pk_un (by omega), pk_un (by omega), pk_un (by omega)]
    refine ⟨fun o ho => ?_, fun i hi => ?_⟩
    · obtain ⟨a1, a2, a3, a4⟩ := h1 o ho
      refine ⟨?_, ?_, ?_, fun t ht => ?_⟩
      · rw [e17, pk_un (by omega)]; exact a1
      · rw [e18, pk_un (by omega)]; exact a2
      · rw [e20, pk_un (by omega)]; exact a3
      · rw [u19 o t ht (by omega)]; exact a4 t ht
    · by_cases e : i = k
      · subst e
        refine ⟨?_, ?_, ?_, fun t ht => ?_⟩
        · rw [e17]; exact pk_us
        · rw [e18]; exact pk_us
        · rw [e20]; exact pk_us
        · rw [e19]
          rcases (by omega : t = 0 ∨ t = 1 ∨ t = 2) with rfl | rfl | rfl
          · rw [pk_un (by omega), pk_un (by omega)]; exact pk_us
          · rw [pk_un (by omega)]; exact pk_us
          · exact pk_us
      · obtain ⟨a1, a2, a3, a4⟩ := h2 i (by omega)
        refine ⟨?_, ?_, ?_, fun t ht => ?_⟩
        · rw [e17, pk_un (by omega)]; exact a1
        · rw [e18, pk_un (by omega)]; exact a2
        · rw [e20, pk_un (by omega)]; exact a3
        · rw [u19 (m + i) t ht (by omega)]; exact a4 t ht
section SE
variable {l : Launch} {D : va_G} {cA : ClassId} {ρ : Nat → Nat} {d : Nat} {Q : Option Value → jx_St → Prop} {σ τ : jx_St} {m h n g c B : Nat}
/-- an output is marked as spent -/
theorem su_70 {o : Nat} (hm : m ≤ 48) (em : τ 16 3 = nI m) (ho : o < m) (hQ : Q none (jx_su τ 20 o (τ 15 5))) : jx_C l D cA ρ jx_XM (d + 2) 70 [.ref 15, .int (nI o)] τ Q := by
  have g0 : ¬ nI o < 0 := nI_pos (by omega)
  have g1 : ¬ τ 16 3 ≤ nI o := by rw [em]; exact nI_ge ho (by omega)
  have v : vp_in (nI o) 48 := vp_in_nI (by omega) (by decide)
  have ec : (nI o).toNatClampNeg = o := nI_clamp (by omega)
  rw [← ec] at hQ
  refine ji_70 (ji_68 ⟨fun q => absurd q g0, fun _ => ⟨fun q => absurd q g1, fun _ => ⟨Or.inr rfl, fun q => absurd q (by decide), fun _ => ⟨v, ?_⟩⟩⟩⟩)
  exact hQ
/-- a new output -/
theorem su_71 {k : Nat} (hm : m < 48) (hk : k < 3) (em : τ 16 3 = nI m) (hQ : Q none (jx_su (jx_su (jx_su (jx_su (jx_su (jx_su (jx_su τ 20 m (-1)) 17 m (τ 27 k)) 18 m (τ 28 k)) 19 (3 * m) (τ 29 (3 * k))) 19 (3 * m + 1) (τ 29 (3 * k + 1))) 19 (3 * m + 2) (τ 29 (3 * k + 2))) 16 3 (nI (m + 1)))) : jx_C l D cA ρ jx_XM (d + 3) 71 [.ref 15, .ref 26, .int (nI k)] τ Q := by
  have r1 : ¬ (48 : Int32) < τ 16 3 + 1 := by rw [em, nI_1]; exact nI_nlt (b := m + 1) (a := 48) (by omega) (by decide)
  have vm : vp_in (τ 16 3) 48 := by rw [em]; exact vp_in_nI (by omega) (by decide)
  have cm : (τ 16 3).toNatClampNeg = m := by rw [em]; exact nI_clamp (by omega)
  have vk : vp_in (nI k) 3 := vp_in_nI hk (by decide)
  have ck : (nI k).toNatClampNeg = k := nI_clamp (by omega)
  have ik0 : nI k * 3 + 0 = nI (3 * k + 0) := jl_x3 0 (by omega) (by decide)
  have ik1 : nI k * 3 + 1 = nI (3 * k + 1) := jl_x3 1 (by omega) (by decide)
  have ik2 : nI k * 3 + 2 = nI (3 * k + 2) := jl_x3 2 (by omega) (by decide)
  have vk0 : vp_in (nI k * 3 + 0) 9 := by rw [ik0]; exact vp_in_nI (by omega) (by decide)
  have vk1 : vp_in (nI k * 3 + 1) 9 := by rw [ik1]; exact vp_in_nI (by omega) (by decide)
  have vk2 : vp_in (nI k * 3 + 2) 9 := by rw [ik2]; exact vp_in_nI (by omega) (by decide)
  have ck0 : (nI k * 3 + 0).toNatClampNeg = 3 * k := by rw [ik0]; exact nI_clamp (by omega)
  have ck1 : (nI k * 3 + 1).toNatClampNeg = 3 * k + 1 := by rw [ik1]; exact nI_clamp (by omega)
  have ck2 : (nI k * 3 + 2).toNatClampNeg = 3 * k + 2 := by rw [ik2]; exact nI_clamp (by omega)
  have im0 : τ 16 3 * 3 = nI (3 * m) := by rw [em]; exact jl_x30
  have im1 : τ 16 3 * 3 + 1 = nI (3 * m + 1) := by rw [em]; exact jl_x3 1 (by omega) (by decide)
  have im2 : τ 16 3 * 3 + 2 = nI (3 * m + 2) := by rw [em]; exact jl_x3 2 (by omega) (by decide)
  have vm0 : vp_in (τ 16 3 * 3) 144 := by rw [im0]; exact vp_in_nI (by omega) (by decide)
  have vm1 : vp_in (τ 16 3 * 3 + 1) 144 := by rw [im1]; exact vp_in_nI (by omega) (by decide)
  have vm2 : vp_in (τ 16 3 * 3 + 2) 144 := by rw [im2]; exact vp_in_nI (by omega) (by decide)
  have cm0 : (τ 16 3 * 3).toNatClampNeg = 3 * m := by rw [im0]; exact nI_clamp (by omega)
  have cm1 : (τ 16 3 * 3 + 1).toNatClampNeg = 3 * m + 1 := by rw [im1]; exact nI_clamp (by omega)
  have cm2 : (τ 16 3 * 3 + 2).toNatClampNeg = 3 * m + 2 := by rw [im2]; exact nI_clamp (by omega)
  have e3 : τ 16 3 + 1 = nI (m + 1) := by rw [em, nI_1]
  have hQ2 : Q none (jx_su (jx_su (jx_su (jx_su (jx_su (jx_su (jx_su τ 20 (τ 16 3).toNatClampNeg (-1)) 17 (τ 16 3).toNatClampNeg (τ 27 (nI k).toNatClampNeg)) 18 (τ 16 3).toNatClampNeg (τ 28 (nI k).toNatClampNeg)) 19 (τ 16 3 * 3).toNatClampNeg (τ 29 (nI k * 3 + 0).toNatClampNeg)) 19 (τ 16 3 * 3 + 1).toNatClampNeg (τ 29 (nI k * 3 + 1).toNatClampNeg)) 19 (τ 16 3 * 3 + 2).toNatClampNeg (τ 29 (nI k * 3 + 2).toNatClampNeg)) 16 3 (τ 16 3 + 1)) := by
    rw [cm, ck, ck0, ck1, ck2, cm0, cm1, cm2, e3]
    exact hQ
  refine ji_71 (ji_77 ⟨fun q => absurd q r1, fun _ => ⟨Or.inr rfl, fun _ => ⟨vm, vk, vk, ?_⟩, fun q => absurd q (by decide)⟩⟩)
  refine ji_79 ⟨vk0, ji_79 ⟨vk1, ji_79 ⟨vk2, ?_⟩⟩⟩
  refine ji_78 (ji_77 ⟨fun q => absurd q r1, fun _ => ⟨Or.inr rfl, fun _ => ⟨vm, vm, vm0, vm1, vm2, ?_⟩, fun q => absurd q (by decide)⟩⟩)
  exact hQ2
/-- the state that carryOut leaves -/
def su_co (τ : jx_St) (m n g : Nat) : jx_St := jx_su (su_gs (jx_pl τ 20 (su_mf (τ 20) (τ 24) (τ 15 5) n)) m g) 15 4 (τ 15 4 + τ 23 6)
theorem su_31 (hm : m + g ≤ 48) (em : τ 16 3 = nI m) (hn : n ≤ 3) (en : τ 23 2 = nI n) (hin : ∀ i, i < n → ∃ o, o < m ∧ τ 24 i = nI o) (hg : g ≤ 3) (eg : τ 26 3 = nI g) (hQ : Q none (su_co τ m n g)) : jx_C l D cA ρ jx_XM (d + 4) 31 [.ref 0] τ Q := by
  have loop2 : ∀ (P : jx_St), P 16 3 = nI m → P 26 3 = nI g → Q none (jx_su (su_gs P m g) 15 4 (P 15 4 + P 23 6)) → ∀ k i, i + k = g → jx_J l D cA ρ jx_XM (jx_A ρ jx_XM) jx_tb0 (d + 4) 31 Q 37 [(1, .int (nI i)), (0, .ref 0)] [] (su_gs P m i) := by
    intro P em eg hQ k
    induction k with
    | zero =>
      intro i hi
      have e : i = g := by omega
      subst e
      have e26 : su_gs P m i 26 = P 26 := su_gsq rfl
      have e15 : su_gs P m i 15 = P 15 := su_gsq rfl
      have e23 : su_gs P m i 23 = P 23 := su_gsq rfl
      have c : su_gs P m i 26 3 ≤ nI i := by rw [e26, eg]; exact Int32.le_refl _
      have hQ' : Q none (jx_su (su_gs P m i) 15 4 (su_gs P m i 15 4 + su_gs P m i 23 6)) := by rw [e15, e23]; exact hQ
      refine jx_go jk_31 (fun _ _ _ z => z) 60 [37] ?_
      exact ⟨fun _ => hQ', fun q => absurd c q⟩
    | succ k ih =>
      intro i hi
      have e26 : su_gs P m i 26 = P 26 := su_gsq rfl
      have e27 : su_gs P m i 27 = P 27 := su_gsq rfl
      have e28 : su_gs P m i 28 = P 28 := su_gsq rfl
      have e29 : su_gs P m i 29 = P 29 := su_gsq rfl
      have c : ¬ su_gs P m i 26 3 ≤ nI i := by rw [e26, eg]; exact nI_ge (by omega) (by omega)
      have h9 := ih (i + 1) (by omega)
      rw [← nI_1] at h9
      refine jx_go jk_31 (fun _ _ _ z => z) 60 [37] ?_
      refine ⟨fun q => absurd q c, fun _ => ?_⟩
      refine su_71 (m := m + i) (by omega) (by omega) (su_gs3 em) ?_
      rw [e27, e28, e29]
      exact h9
  have loop1 : ∀ k i, i + k = n → jx_J l D cA ρ jx_XM (jx_A ρ jx_XM) jx_tb0 (d + 4) 31 Q 2 [(1, .int (nI i)), (0, .ref 0)] [] (jx_pl τ 20 (su_mf (τ 20) (τ 24) (τ 15 5) i)) := by
    intro k
    induction k with
    | zero =>
      intro i hi
      have e : i = n := by omega
      subst e
      have c : τ 23 2 ≤ nI i := by rw [en]; exact Int32.le_refl _
      have h9 := loop2 (jx_pl τ 20 (su_mf (τ 20) (τ 24) (τ 15 5) i)) em eg hQ g 0 (by omega)
      refine jx_go jk_31 (fun _ _ _ z => z) 60 [2, 37] ?_
      exact ⟨fun _ => h9, fun q => absurd c q⟩
    | succ k ih =>
      intro i hi
      have c : ¬ τ 23 2 ≤ nI i := by rw [en]; exact nI_ge (by omega) (by omega)
      have v : vp_in (nI i) 3 := vp_in_nI (by omega) (by decide)
      have ec : (nI i).toNatClampNeg = i := nI_clamp (by omega)
      obtain ⟨o, ho, eo⟩ := hin i (by omega)
      have eo2 : (τ 24 i).toNatClampNeg = o := by rw [eo]; exact nI_clamp (by omega)
      have x24 : jx_pl τ 20 (su_mf (τ 20) (τ 24) (τ 15 5) i) 24 (nI i).toNatClampNeg = nI o := by
        show τ 24 (nI i).toNatClampNeg = nI o
        rw [ec]
        exact eo
      have h9 := ih (i + 1) (by omega)
      have es : su_mf (τ 20) (τ 24) (τ 15 5) (i + 1) = upd (su_mf (τ 20) (τ 24) (τ 15 5) i) o (τ 15 5) := by
        show upd (su_mf (τ 20) (τ 24) (τ 15 5) i) (τ 24 i).toNatClampNeg (τ 15 5) = _
        rw [eo2]
      rw [← nI_1, es, ← jx_pls] at h9
      refine jx_go jk_31 (fun _ _ _ z => z) 60 [2] ?_
      refine ⟨fun q => absurd q c, fun _ => ⟨v, ?_⟩⟩
      rw [x24]
      exact su_70 (m := m) (by omega) em ho h9
  refine jx_in jk_31 40 [2] rfl (Nat.le_of_ble_eq_true rfl) ?_
  have h9 := loop1 n 0 (by omega)
  have e0 : jx_pl τ 20 (su_mf (τ 20) (τ 24) (τ 15 5) 0) = τ := jx_pli τ
  rw [e0] at h9
  exact h9
/-- the guarantee is taken -/
theorem su_72 {o : Nat} (hm : m ≤ 48) (em : τ 16 3 = nI m) (ho : o < m) (hQ : Q none (jx_su (jx_su τ 20 o (τ 15 5)) 15 4 (τ 15 4 + τ 19 (3 * o)))) : jx_C l D cA ρ jx_XM (d + 3) 72 [.ref 15, .int (nI o)] τ Q := by
  have g0 : ¬ nI o < 0 := nI_pos (by omega)
  have g1 : ¬ τ 16 3 ≤ nI o := by rw [em]; exact nI_ge ho (by omega)
  have i0 : nI o * 3 + 0 = nI (3 * o + 0) := jl_x3 0 (by omega) (by decide)
  have v0 : vp_in (nI o * 3 + 0) 144 := by rw [i0]; exact vp_in_nI (by omega) (by decide)
  have c0 : (nI o * 3 + 0).toNatClampNeg = 3 * o := by rw [i0]; exact nI_clamp (by omega)
  rw [← c0] at hQ
  refine ji_72 (ji_68 ⟨fun q => absurd q g0, fun _ => ⟨fun q => absurd q g1, fun _ => ⟨Or.inr rfl, fun q => absurd q (by decide), fun _ => ?_⟩⟩⟩)
  exact su_70 hm em ho (ji_79 ⟨v0, hQ⟩)
end SE

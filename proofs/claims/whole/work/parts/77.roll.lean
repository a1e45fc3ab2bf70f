/-! rollback -/
def jr_sp (σ : jx_St) (pl e c : Nat) : jx_St := fun q => bif Nat.beq q pl then (fun i => if i < c ∧ nI e ≤ σ pl i then -1 else σ pl i) else σ q
theorem jr_sp0 (σ : jx_St) (pl e : Nat) : jr_sp σ pl e 0 = σ := by
  funext q i
  unfold jr_sp
  cases h : Nat.beq q pl with
  | false => rfl
  | true =>
    have e1 := Nat.eq_of_beq_eq_true h
    subst e1
    show (if i < 0 ∧ nI e ≤ σ q i then (-1 : Int32) else σ q i) = σ q i
    rw [if_neg (fun z => absurd z.1 (Nat.not_lt_zero _))]
theorem jr_spn (σ : jx_St) {pl e c : Nat} (h : ¬ nI e ≤ σ pl c) : jr_sp σ pl e (c + 1) = jr_sp σ pl e c := by
  funext q i
  unfold jr_sp
  cases hq : Nat.beq q pl with
  | false => rfl
  | true =>
    show (if i < c + 1 ∧ nI e ≤ σ pl i then (-1 : Int32) else σ pl i) = if i < c ∧ nI e ≤ σ pl i then -1 else σ pl i
    by_cases hi : i = c
    · subst hi
      rw [if_neg (fun z => h z.2), if_neg (fun z => h z.2)]
    · by_cases h2 : i < c ∧ nI e ≤ σ pl i
      · rw [if_pos h2, if_pos ⟨by omega, h2.2⟩]
      · rw [if_neg h2, if_neg (fun z => h2 ⟨by omega, z.2⟩)]
theorem jr_spv {σ : jx_St} {pl e c : Nat} : jr_sp σ pl e c pl c = σ pl c := by
  unfold jr_sp
  rw [show Nat.beq pl pl = true by simp]
  show (if c < c ∧ nI e ≤ σ pl c then (-1 : Int32) else σ pl c) = σ pl c
  rw [if_neg (fun z => absurd z.1 (Nat.lt_irrefl _))]
theorem jr_sps (σ : jx_St) {pl e c : Nat} {v : Int32} (h : v = if nI e ≤ σ pl c then -1 else σ pl c) : jx_su (jr_sp σ pl e c) pl c v = jr_sp σ pl e (c + 1) := by
  funext q i
  by_cases hq : q = pl
  · subst hq
    rw [jx_su_eq]
    unfold jr_sp
    rw [show Nat.beq q q = true by simp]
    show upd (fun i => if i < c ∧ nI e ≤ σ q i then (-1 : Int32) else σ q i) c v i = if i < c + 1 ∧ nI e ≤ σ q i then -1 else σ q i
    by_cases hi : i = c
    · subst hi
      rw [pk_us, h]
      by_cases h2 : nI e ≤ σ q i
      · rw [if_pos h2, if_pos ⟨by omega, h2⟩]
      · rw [if_neg h2, if_neg (fun z => h2 z.2)]
    · rw [pk_un hi]
      by_cases h2 : i < c ∧ nI e ≤ σ q i
      · rw [if_pos h2, if_pos ⟨by omega, h2.2⟩]
      · rw [if_neg h2, if_neg (fun z => h2 ⟨by omega, z.2⟩)]
  · rw [jx_su_ne _ _ _ hq]
    unfold jr_sp
    rw [jx_bne hq]
    rfl
theorem jr_spo {σ : jx_St} {pl e c p : Nat} (h : p ≠ pl) : jr_sp σ pl e c p = σ p := by
  unfold jr_sp
  rw [jx_bne h]
  rfl
/-- the class's loop over spentAt -/
theorem jp_75 {l : Launch} {D : va_G} {cA : ClassId} {ρ : Nat → Nat} {d : Nat} {Q : Option Value → jx_St → Prop} {σ : jx_St} {z e : Nat} (hz : z ≤ 48) (he : e ≤ 40) (ez : σ 16 3 = nI z) (hQ : Q none (jr_sp σ 20 e z)) : ∀ (c k : Nat), k + c = z → jx_J l D cA ρ jx_XM (jx_A ρ jx_XM) jx_tb0 (d + 1) 75 Q 30 [(2, .int (nI k)), (0, .ref 15), (1, .int (nI e))] [] (jr_sp σ 20 e k)
  | 0, k, hk => by
    have e1 : k = z := by omega
    subst e1
    have g : jr_sp σ 20 e k 16 3 ≤ nI k := by rw [jr_spo (by decide), ez]; exact Int32.le_refl _
    refine jx_go jk_75 (fun _ _ _ z => z) 40 [30] ?_
    exact ⟨fun _ => hQ, fun q => absurd g q⟩
  | c + 1, k, hk => by
    have g : ¬ jr_sp σ 20 e k 16 3 ≤ nI k := by rw [jr_spo (by decide), ez]; exact nI_ge (by omega) (by omega)
    have v : vp_in (nI k) 48 := vp_in_nI (by omega) (by decide)
    have e2 : (nI k).toNatClampNeg = k := nI_clamp (by omega)
    have ih := jp_75 (l := l) (D := D) (cA := cA) (ρ := ρ) (d := d) hz he ez hQ c (k + 1) (by omega)
    rw [← nI_1 k] at ih
    by_cases hs : nI e ≤ σ 20 k
    · have hs2 : ¬ jr_sp σ 20 e k 20 (nI k).toNatClampNeg < nI e := by rw [e2, jr_spv]; exact Int32.not_lt.mpr hs
      have ih2 : jx_J l D cA ρ jx_XM (jx_A ρ jx_XM) jx_tb0 (d + 1) 75 Q 30 [(2, .int (nI k + 1)), (0, .ref 15), (1, .int (nI e))] [] (jx_su (jr_sp σ 20 e k) 20 (nI k).toNatClampNeg (-1)) := by
        rw [e2, jr_sps σ (by rw [if_pos hs])]
        exact ih
      refine jx_go jk_75 (fun _ _ _ z => z) 40 [30] ?_
      exact ⟨fun q => absurd q g, fun _ => ⟨v, fun q => absurd q hs2, fun _ => ⟨v, ih2⟩⟩⟩
    · have hs2 : jr_sp σ 20 e k 20 (nI k).toNatClampNeg < nI e := by rw [e2, jr_spv]; exact Int32.not_le.mp hs
      rw [jr_spn σ hs] at ih
      refine jx_go jk_75 (fun _ _ _ z => z) 40 [30] ?_
      exact ⟨fun q => absurd q g, fun _ => ⟨v, fun _ => ih, fun q => absurd hs2 q⟩⟩
/-- the model's loop over spentAt -/
theorem jp_131c {l : Launch} {D : va_G} {cA : ClassId} {ρ : Nat → Nat} {d : Nat} {Q : Option Value → jx_St → Prop} {σ : jx_St} {z e : Nat} {a1 : Int32} (hz : z ≤ 48) (he : e ≤ 40) (ez : σ 34 25 = nI z) (eh : σ 34 31 = nI e) (hQ : Q (some (.int (nI z))) (jr_sp σ 52 e z)) : ∀ (c k : Nat), k + c = z → jx_J l D cA ρ jx_XM (jx_A ρ jx_XM) jx_tb0 (d + 1) 131 Q 85 [(2, .int (nI k)), (0, .ref 34), (1, .int a1)] [] (jr_sp σ 52 e k)
  | 0, k, hk => by
    have e1 : k = z := by omega
    subst e1
    have g0 : jr_sp σ 52 e k 34 25 = nI k := by rw [jr_spo (by decide), ez]
    have g : jr_sp σ 52 e k 34 25 ≤ nI k := by rw [g0]; exact Int32.le_refl _
    rw [← g0] at hQ
    refine jx_go jk_131 (fun _ _ _ z => z) 60 [85] ?_
    exact ⟨fun _ => hQ, fun q => absurd g q⟩
  | c + 1, k, hk => by
    have g : ¬ jr_sp σ 52 e k 34 25 ≤ nI k := by rw [jr_spo (by decide), ez]; exact nI_ge (by omega) (by omega)
    have v : vp_in (nI k) 48 := vp_in_nI (by omega) (by decide)
    have e2 : (nI k).toNatClampNeg = k := nI_clamp (by omega)
    have eh2 : jr_sp σ 52 e k 34 31 = nI e := by rw [jr_spo (by decide), eh]
    have ih := jp_131c (l := l) (D := D) (cA := cA) (ρ := ρ) (d := d) (a1 := a1) hz he ez eh hQ c (k + 1) (by omega)
    rw [← nI_1 k] at ih
    by_cases hs : nI e ≤ σ 52 k
    · have hs2 : ¬ jr_sp σ 52 e k 52 (nI k).toNatClampNeg < jr_sp σ 52 e k 34 31 := by rw [e2, jr_spv, eh2]; exact Int32.not_lt.mpr hs
      have ih2 : jx_J l D cA ρ jx_XM (jx_A ρ jx_XM) jx_tb0 (d + 1) 131 Q 85 [(2, .int (nI k + 1)), (0, .ref 34), (1, .int a1)] [] (jx_su (jr_sp σ 52 e k) 52 (nI k).toNatClampNeg (-1)) := by
        rw [e2, jr_sps σ (by rw [if_pos hs])]
        exact ih
      refine jx_go jk_131 (fun _ _ _ z => z) 60 [85] ?_
      exact ⟨fun q => absurd q g, fun _ => ⟨v, fun q => absurd q hs2, fun _ => ⟨v, ih2⟩⟩⟩
    · have hs2 : jr_sp σ 52 e k 52 (nI k).toNatClampNeg < jr_sp σ 52 e k 34 31 := by rw [e2, jr_spv, eh2]; exact Int32.not_le.mp hs
      have ih2 : jx_J l D cA ρ jx_XM (jx_A ρ jx_XM) jx_tb0 (d + 1) 131 Q 85 [(2, .int (nI k + 1)), (0, .ref 34), (1, .int a1)] [] (jx_su (jr_sp σ 52 e k) 52 (nI k).toNatClampNeg (jr_sp σ 52 e k 52 (nI k).toNatClampNeg)) := by
        rw [e2, jr_spv, jr_sps σ (by rw [if_neg hs])]
        exact ih
      refine jx_go jk_131 (fun _ _ _ z => z) 60 [85] ?_
      exact ⟨fun q => absurd q g, fun _ => ⟨v, fun _ => ⟨v, v, ih2⟩, fun q => absurd hs2 q⟩⟩
/-- the model's loop over the outputs -/
theorem jp_131b {l : Launch} {D : va_G} {cA : ClassId} {ρ : Nat → Nat} {d : Nat} {Q : Option Value → jx_St → Prop} {z e m : Nat} {a1 a2 : Int32} (hz : 2 ≤ z) (hm : m ≤ 48) (he : e ≤ 40) : ∀ (c k : Nat) (σ : jx_St), z + c = k → k ≤ m → σ 34 25 = nI k → σ 34 31 = nI e → (∀ o, o < m → (o < z ↔ σ 51 o < nI e)) → Q (some (.int (nI z))) (jr_sp (jx_su σ 34 25 (nI z)) 52 e z) → jx_J l D cA ρ jx_XM (jx_A ρ jx_XM) jx_tb0 (d + 1) 131 Q 52 [(2, .int a2), (0, .ref 34), (1, .int a1)] [] σ
  | 0, k, σ, hk, hkm, ek, eh, hmd, hQ => by
    have e1 : k = z := by omega
    subst e1
    have e2 : σ 34 25 - 1 = nI (k - 1) := by rw [ek]; exact pk_sub (b := 1) (by omega)
    have v : vp_in (σ 34 25 - 1) 48 := by rw [e2]; exact vp_in_nI (by omega) (by decide)
    have g : σ 51 (σ 34 25 - 1).toNatClampNeg < σ 34 31 := by rw [e2, nI_clamp (by omega), eh]; exact (hmd (k - 1) (by omega)).mp (by omega)
    have hs : jx_su σ 34 25 (nI k) = σ := by
      funext q i
      by_cases hq : q = 34
      · subst hq
        rw [jx_su_eq]
        by_cases hi : i = 25
        · subst hi; rw [pk_us, ek]
        · rw [pk_un hi]
      · rw [jx_su_ne _ _ _ hq]
    rw [hs] at hQ
    have h9 := jp_131c (l := l) (D := D) (cA := cA) (ρ := ρ) (d := d) (a1 := a1) (by omega) he ek eh hQ k 0 (by omega)
    rw [jr_sp0] at h9
    refine jx_go jk_131 (fun _ _ _ z => z) 60 [52, 85] ?_
    exact ⟨v, fun _ => h9, fun q => absurd g q⟩
  | c + 1, k, σ, hk, hkm, ek, eh, hmd, hQ => by
    have e2 : σ 34 25 - 1 = nI (k - 1) := by rw [ek]; exact pk_sub (b := 1) (by omega)
    have v : vp_in (σ 34 25 - 1) 48 := by rw [e2]; exact vp_in_nI (by omega) (by decide)
    have g : ¬ σ 51 (σ 34 25 - 1).toNatClampNeg < σ 34 31 := by rw [e2, nI_clamp (by omega), eh]; exact fun q => absurd ((hmd (k - 1) (by omega)).mpr q) (by omega)
    have hss : jx_su (jx_su σ 34 25 (σ 34 25 - 1)) 34 25 (nI z) = jx_su σ 34 25 (nI z) := by
      funext q i
      by_cases hq : q = 34
      · subst hq
        rw [jx_su_eq, jx_su_eq, jx_su_eq]
        by_cases hi : i = 25
        · subst hi; rw [pk_us, pk_us]
        · rw [pk_un hi, pk_un hi, pk_un hi]
      · rw [jx_su_ne _ _ _ hq, jx_su_ne _ _ _ hq, jx_su_ne _ _ _ hq]
    have ih := jp_131b (l := l) (D := D) (cA := cA) (ρ := ρ) (d := d) (Q := Q) (a1 := a1) (a2 := a2) hz hm he c (k - 1) (jx_su σ 34 25 (σ 34 25 - 1)) (by omega) (by omega) e2 eh hmd (by rw [hss]; exact hQ)
    refine jx_go jk_131 (fun _ _ _ z => z) 60 [52, 85] ?_
    exact ⟨v, fun q => absurd q g, fun _ => ih⟩
def jr_in (σ : jx_St) (e j : Nat) : jx_St := fun q => bif Nat.beq q 53 then (fun i => if e ≤ i ∧ i < j then 0 else σ 53 i) else σ q
theorem jr_in0 (σ : jx_St) (e : Nat) : jr_in σ e e = σ := by
  funext q i
  unfold jr_in
  cases h : Nat.beq q 53 with
  | false => rfl
  | true =>
    have e1 := Nat.eq_of_beq_eq_true h
    subst e1
    show (if e ≤ i ∧ i < e then (0 : Int32) else σ 53 i) = σ 53 i
    rw [if_neg (fun z => absurd z.2 (Nat.not_lt.mpr z.1))]
theorem jr_ins (σ : jx_St) {e j : Nat} (h : e ≤ j) : jx_su (jr_in σ e j) 53 j 0 = jr_in σ e (j + 1) := by
  funext q i
  by_cases hq : q = 53
  · subst hq
    rw [jx_su_eq]
    show upd (fun i => if e ≤ i ∧ i < j then (0 : Int32) else σ 53 i) j 0 i = if e ≤ i ∧ i < j + 1 then 0 else σ 53 i
    by_cases hi : i = j
    · subst hi; rw [pk_us, if_pos ⟨h, by omega⟩]
    · rw [pk_un hi]
      by_cases h2 : e ≤ i ∧ i < j
      · rw [if_pos h2, if_pos ⟨h2.1, by omega⟩]
      · rw [if_neg h2, if_neg (fun z => h2 ⟨z.1, by omega⟩)]
  · rw [jx_su_ne _ _ _ hq]
    unfold jr_in
    rw [jx_bne hq]
    rfl
theorem jp_131a {l : Launch} {D : va_G} {cA : ClassId} {ρ : Nat → Nat} {d : Nat} {Q : Option Value → jx_St → Prop} {σ : jx_St} {e : Nat} {a1 : Int32} (hn : jx_J l D cA ρ jx_XM (jx_A ρ jx_XM) jx_tb0 (d + 1) 131 Q 52 [(2, .int (nI 41)), (0, .ref 34), (1, .int a1)] [] (jr_in σ e 41)) : ∀ (c j : Nat), j + c = 41 → e ≤ j → jx_J l D cA ρ jx_XM (jx_A ρ jx_XM) jx_tb0 (d + 1) 131 Q 33 [(2, .int (nI j)), (0, .ref 34), (1, .int a1)] [] (jr_in σ e j)
  | 0, j, hj, hej => by
    have e1 : j = 41 := by omega
    subst e1
    refine jx_go jk_131 (fun _ _ _ z => z) 60 [33, 52] ?_
    exact ⟨fun _ => hn, fun q => absurd (show (40 : Int32) < nI 41 by decide) q⟩
  | c + 1, j, hj, hej => by
    have g : ¬ (40 : Int32) < nI j := nI_nlt (a := 40) (by omega) (by decide)
    have v : vp_in (nI j) 41 := vp_in_nI (by omega) (by decide)
    have e2 : (nI j).toNatClampNeg = j := nI_clamp (by omega)
    have ih := jp_131a hn c (j + 1) (by omega) (by omega)
    rw [← nI_1 j, ← jr_ins σ hej, ← e2] at ih
    rw [e2] at ih
    have ih2 : jx_J l D cA ρ jx_XM (jx_A ρ jx_XM) jx_tb0 (d + 1) 131 Q 33 [(2, .int (nI j + 1)), (0, .ref 34), (1, .int a1)] [] (jx_su (jr_in σ e j) 53 (nI j).toNatClampNeg 0) := by rw [e2]; exact ih
    refine jx_go jk_131 (fun _ _ _ z => z) 60 [33, 52] ?_
    exact ⟨fun q => absurd q g, fun _ => ⟨v, ih2⟩⟩
theorem jp_75e {l : Launch} {D : va_G} {cA : ClassId} {ρ : Nat → Nat} {d : Nat} {Q : Option Value → jx_St → Prop} {σ : jx_St} {z e : Nat} {ae : Int32} (hae : ae = nI e) (hz : z ≤ 48) (he : e ≤ 40) (ez : σ 16 3 = nI z) (hQ : Q none (jr_sp σ 20 e z)) : jx_J l D cA ρ jx_XM (jx_A ρ jx_XM) jx_tb0 (d + 1) 75 Q 30 [(2, .int 0), (0, .ref 15), (1, .int ae)] [] σ := by
  subst hae
  have h := jp_75 (l := l) (D := D) (cA := cA) (ρ := ρ) (d := d) hz he ez hQ z 0 (by omega)
  rw [jr_sp0] at h
  exact h
theorem jp_131e {l : Launch} {D : va_G} {cA : ClassId} {ρ : Nat → Nat} {d : Nat} {Q : Option Value → jx_St → Prop} {σ : jx_St} {z e m : Nat} {a1 b2 : Int32} (hb : b2 = nI e) (hz : 2 ≤ z) (hzm : z ≤ m) (hm : m ≤ 48) (he : e ≤ 40) (em : σ 34 25 = nI m) (eh : σ 34 31 = nI e) (hmd : ∀ o, o < m → (o < z ↔ σ 51 o < nI e)) (hQ : Q (some (.int (nI z))) (jr_sp (jx_su (jr_in σ e 41) 34 25 (nI z)) 52 e z)) : jx_J l D cA ρ jx_XM (jx_A ρ jx_XM) jx_tb0 (d + 1) 131 Q 33 [(2, .int b2), (0, .ref 34), (1, .int a1)] [] σ := by
  subst hb
  have h1 := jp_131b (l := l) (D := D) (cA := cA) (ρ := ρ) (d := d) (Q := Q) (a1 := a1) (a2 := nI 41) hz hm he (m - z) m (jr_in σ e 41) (by omega) (Nat.le_refl _) em eh hmd hQ
  have h2 := jp_131a h1 (41 - e) e (by omega) (Nat.le_refl _)
  rw [jr_in0] at h2
  exact h2
theorem iv_sum_eq {f g : Nat → Int32} : ∀ {n : Nat}, (∀ i, i < n → f i = g i) → iv_sum f n = iv_sum g n
  | 0, _ => rfl
  | n + 1, h => by rw [iv_sum, iv_sum, iv_sum_eq (fun i hi => h i (by omega)), h n (by omega)]
theorem jl_c04 (a : Int32) : a < 0 ∨ (∃ k : Nat, k ≤ 4 ∧ a = nI k) ∨ (¬ a < 0 ∧ 4 < a ∧ ¬ a < 5) := by
  by_cases h : a < 0
  · exact Or.inl h
  · by_cases h4 : 4 < a
    · exact Or.inr (Or.inr ⟨h, h4, jl_nlt1 (n := 4) (by decide) h4⟩)
    · exact Or.inr (Or.inl (jl_nat (n := 4) (by decide) h h4))
set_option maxHeartbeats 4000000 in
theorem jv_rollback {l : Launch} {D : va_G} {cA : ClassId} {ρ : Nat → Nat} {d : Nat} : jq_rollback l D cA ρ (d + 3) iv_V iv_V := by
  intro σ hI a1
  obtain ⟨iD, iS, iR, iI, iG, iM, iT, ⟨m, h, hm2, hm, hh, em1, em2, eh1, eh2, hO, hz, hp, hpa, hz0⟩⟩ := id hI
  rcases jl_c04 a1 with l1 | ⟨k, hk, rfl⟩ | ⟨l1, l2, l3⟩
  · refine ⟨-1, fun σ1 => σ1 = σ, fun Q hQ => ji_13 ⟨fun _ => hQ _ rfl, fun q => absurd l1 q⟩, fun σ1 hT Q hQ => ?_⟩
    subst hT
    exact ji_131 (ji_89 ⟨fun _ => ⟨Or.inr rfl, fun _ => hQ _ hI, fun q => absurd q (by decide)⟩, fun q => absurd l1 q⟩)
  · have l1 : ¬ nI k < 0 := nI_pos (by omega)
    have l2 : ¬ (4 : Int32) < nI k := nI_nlt (a := 4) hk (by decide)
    have l3 : nI k < 5 := nI_lt (b := 5) (by omega) (by decide)
    by_cases hkh : k ≤ h
    · have x4 : nI k ≤ σ 15 5 := by rw [eh1]; exact nI_le hkh (by omega)
      have m4 : nI k ≤ σ 34 31 := by rw [eh2]; exact nI_le hkh (by omega)
      obtain ⟨e, he⟩ : ∃ e, e = h - k := ⟨_, rfl⟩
      have ee : σ 15 5 - nI k = nI e := by rw [eh1, he]; exact pk_sub hkh
      have em : σ 34 31 - nI k = nI e := by rw [eh2, he]; exact pk_sub hkh
      have v41 : vp_in (σ 15 5 - nI k) 41 := by rw [ee]; exact vp_in_nI (by omega) (by decide)
      have ec : (σ 15 5 - nI k).toNatClampNeg = e := by rw [ee]; exact nI_clamp (by omega)
      obtain ⟨z, z1, z2, z3, z4⟩ := hz e (by omega)
      have ez : σ 21 (σ 15 5 - nI k).toNatClampNeg = nI z := by rw [ec]; exact z3
      have ep : σ 22 (σ 15 5 - nI k).toNatClampNeg = iv_sum (σ 53) e := by rw [ec]; exact hpa e (by omega)
      refine ⟨nI z, fun σ1 => σ1 = jr_sp (jx_su (jx_su (jx_su σ 15 5 (σ 15 5 - nI k)) 16 3 (σ 21 (σ 15 5 - nI k).toNatClampNeg)) 15 4 (σ 22 (σ 15 5 - nI k).toNatClampNeg)) 20 e z, fun Q hQ => ji_13 ?_, fun σ1 hT Q hQ => ?_⟩
      · refine ⟨fun q => absurd q l1, fun _ => ⟨fun q => absurd q l2, fun _ => ⟨fun _ => ?_, fun q => absurd x4 q⟩⟩⟩
        refine jx_in jk_75 40 [30] rfl (Nat.le_of_ble_eq_true rfl) ?_
        refine ⟨v41, v41, ?_⟩
        refine jp_75e ee (by omega) (by omega) ez ?_
        rw [← ez] at hQ
        exact hQ _ rfl
      · subst hT
        refine jx_in jk_131 60 [33] rfl (Nat.le_of_ble_eq_true rfl) ?_
        refine ji_89 ⟨fun q => absurd q l1, fun _ => ⟨fun _ => ⟨Or.inl rfl, fun q => absurd rfl q, fun _ => ⟨fun _ => ?_, fun q => absurd m4 q⟩⟩, fun q => absurd l3 q⟩⟩
        refine jp_131e (z := z) (e := e) (m := m) em z1 z2 hm (by omega) em2 em z4 (hQ _ ?_)
        refine ⟨iD, iS, iR, iI, iG, iM, iT, ⟨z, e, z1, by omega, by omega, ez, rfl, ee, em, fun o ho => ?_, fun j hj => ?_, ?_, fun j hj => ?_, fun j h1 h2 => ?_⟩⟩
        · obtain ⟨o1, o2, o3, o4, o5, o6, o7⟩ := hO o (by omega)
          refine ⟨o1, o2, ?_, o4, ?_, o6, ?_⟩
          · show (if o < z ∧ nI e ≤ σ 20 o then (-1 : Int32) else σ 20 o) = if o < z ∧ nI e ≤ σ 52 o then -1 else σ 52 o
            rw [o3]
          · show (if o < z ∧ nI e ≤ σ 52 o then (-1 : Int32) else σ 52 o) = -1 ∨ ∃ j : Nat, j ≤ e ∧ (if o < z ∧ nI e ≤ σ 52 o then (-1 : Int32) else σ 52 o) = nI j
            by_cases hc : nI e ≤ σ 52 o
            · rw [if_pos ⟨ho, hc⟩]; exact Or.inl rfl
            · rw [if_neg (fun q => hc q.2)]
              refine o5.imp_right (fun ⟨j, h1, h2⟩ => ⟨j, ?_, h2⟩)
              rw [h2] at hc
              exact Nat.le_of_lt (Nat.not_le.mp (fun q => hc (nI_le q (by omega))))
          · show σ 51 o = -1 ∨ ∃ j : Nat, j ≤ e ∧ σ 51 o = nI j
            refine o7.imp_right (fun ⟨j, h1, h2⟩ => ⟨j, ?_, h2⟩)
            have := (z4 o (by omega)).mp ho
            rw [h2] at this
            exact Nat.le_of_lt ((nI_ltI (by omega) (by omega)).mp this)
        · obtain ⟨y, y1, y2, y3, y4⟩ := hz j (by omega)
          refine ⟨y, y1, ?_, y3, fun o ho => y4 o (by omega)⟩
          apply Nat.not_lt.mp
          intro q
          have a1 := (y4 z (by omega)).mp q
          have a2 : σ 51 z < nI e := Int32.lt_of_lt_of_le a1 (nI_le hj (by omega))
          exact absurd ((z4 z (by omega)).mpr a2) (Nat.lt_irrefl _)
        · show σ 22 (σ 15 5 - nI k).toNatClampNeg = iv_sum (fun i => if e ≤ i ∧ i < 41 then 0 else σ 53 i) e + (if e ≤ e ∧ e < 41 then 0 else σ 53 e)
          rw [ep, if_pos ⟨Nat.le_refl _, by omega⟩, iv_sum_eq (g := σ 53) (fun i hi => if_neg (fun q => absurd q.1 (by omega)))]
          exact (Int32.add_zero _).symm
        · show σ 22 j = iv_sum (fun i => if e ≤ i ∧ i < 41 then 0 else σ 53 i) j
          rw [iv_sum_eq (g := σ 53) (fun i hi => if_neg (fun q => absurd q.1 (by omega)))]
          exact hpa j (by omega)
        · show (if e ≤ j ∧ j < 41 then 0 else σ 53 j) = 0
          rw [if_pos ⟨by omega, by omega⟩]
    · have x4 : ¬ nI k ≤ σ 15 5 := by rw [eh1]; exact nI_ge (by omega) (by omega)
      have m4 : ¬ nI k ≤ σ 34 31 := by rw [eh2]; exact nI_ge (by omega) (by omega)
      refine ⟨-1, fun σ1 => σ1 = σ, fun Q hQ => ji_13 ⟨fun q => absurd q l1, fun _ => ⟨fun q => absurd q l2, fun _ => ⟨fun q => absurd q x4, fun _ => hQ _ rfl⟩⟩⟩, fun σ1 hT Q hQ => ?_⟩
      subst hT
      exact ji_131 (ji_89 ⟨fun q => absurd q l1, fun _ => ⟨fun _ => ⟨Or.inl rfl, fun q => absurd rfl q, fun _ => ⟨fun q => absurd q m4, fun _ => hQ _ hI⟩⟩, fun q => absurd l3 q⟩⟩)
  · refine ⟨-1, fun σ1 => σ1 = σ, fun Q hQ => ji_13 ⟨fun q => absurd q l1, fun _ => ⟨fun _ => hQ _ rfl, fun q => absurd l2 q⟩⟩, fun σ1 hT Q hQ => ?_⟩
    subst hT
    exact ji_131 (ji_89 ⟨fun q => absurd q l1, fun _ => ⟨fun q => absurd q l3, fun _ => ⟨Or.inr rfl, fun _ => hQ _ hI, fun q => absurd q (by decide)⟩⟩⟩)

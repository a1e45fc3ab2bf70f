/-! The abstract machine: a state is a function of place and index; a layout says what each place is. Rules over the kit's rows. -/
abbrev jx_St : Type := Nat → Nat → Int32
abbrev jx_Lc : Type := (Nat × List (Option (Option Nat))) ⊕ Nat
abbrev jx_Lv : Type := List (Nat × Value)
abbrev jx_Tb : Type := Nat → Option (Nat × (Nat → Int32))
def jx_su (σ : jx_St) (p i : Nat) (v : Int32) : jx_St := fun q => bif Nat.beq q p then upd (σ q) i v else σ q
def jx_v (ρ : Nat → Nat) : Value → Value
  | .ref a => .ref (ρ a)
  | v => v
def jx_q (ρ : Nat → Nat) (q : Nat × Value) : Nat × Value := (q.1, jx_v ρ q.2)
def jx_fd (ρ : Nat → Nat) (σ : jx_St) (p k : Nat) : Option (Option Nat) → Value
  | some (some q) => .ref (ρ q)
  | some none => .null
  | none => .int (σ p k)
def jx_ce (ρ : Nat → Nat) (cA : ClassId) (σ : jx_St) (p : Nat) : jx_Lc → va_E
  | .inl o => .inr (o.1, o.2.mapIdx (jx_fd ρ σ p))
  | .inr n => .inl (cA, n, .inl (σ p))
def jx_W (ρ : Nat → Nat) (cA : ClassId) (Λ : List jx_Lc) (σ : jx_St) : va_W := Λ.mapIdx (fun p c => (ρ p, jx_ce ρ cA σ p c))
def jx_A (ρ : Nat → Nat) (Λ : List jx_Lc) : Nat → Prop := fun q => ∃ p, p < Λ.length ∧ q = ρ p
def jx_inj (ρ : Nat → Nat) (Λ : List jx_Lc) : Prop := ∀ i j, i < Λ.length → j < Λ.length → ρ i = ρ j → i = j
theorem jx_bne {a b : Nat} (h : a ≠ b) : Nat.beq a b = false := by
  cases hq : Nat.beq a b with
  | false => rfl
  | true => exact absurd (Nat.eq_of_beq_eq_true hq) h
theorem jx_su_eq (σ : jx_St) (p i : Nat) (v : Int32) : jx_su σ p i v p = upd (σ p) i v := by simp [jx_su]
theorem jx_su_ne (σ : jx_St) {p q : Nat} (i : Nat) (v : Int32) (h : q ≠ p) : jx_su σ p i v q = σ q := by simp [jx_su, jx_bne h]
theorem jx_cat (ρ : Nat → Nat) (v : Value) : (jx_v ρ v).category = v.category := by cases v <;> rfl
section JXW
variable {ρ : Nat → Nat} {cA : ClassId} {Λ : List jx_Lc} {σ : jx_St} {p : Nat}
theorem jx_Wg (p : Nat) : (jx_W ρ cA Λ σ)[p]? = Λ[p]?.map (fun c => (ρ p, jx_ce ρ cA σ p c)) := by simp [jx_W, List.getElem?_mapIdx]
theorem jx_Wat {c : jx_Lc} (h : Λ[p]? = some c) : (jx_W ρ cA Λ σ)[p]? = some (ρ p, jx_ce ρ cA σ p c) := by rw [jx_Wg, h]; rfl
theorem jx_D {A : Nat → Prop} (h : jx_inj ρ Λ) (hA : ∀ i, i < Λ.length → A (ρ i)) : va_D A (jx_W ρ cA Λ σ) := by
  constructor
  · intro i j x y hi hj hxy
    rw [jx_Wg] at hi hj
    cases h1 : Λ[i]? with
    | none => rw [h1] at hi; cases hi
    | some ci =>
      cases h2 : Λ[j]? with
      | none => rw [h2] at hj; cases hj
      | some cj =>
        rw [h1] at hi
        rw [h2] at hj
        cases hi
        cases hj
        exact h i j (List.getElem?_eq_some_iff.mp h1).1 (List.getElem?_eq_some_iff.mp h2).1 hxy
  · intro k q hk
    rw [jx_Wg] at hk
    cases h1 : Λ[k]? with
    | none => rw [h1] at hk; cases hk
    | some ck =>
      rw [h1] at hk
      cases hk
      exact hA k (List.getElem?_eq_some_iff.mp h1).1
theorem jx_ce_eq {σ σ' : jx_St} (h : σ p = σ' p) (c : jx_Lc) : jx_ce ρ cA σ p c = jx_ce ρ cA σ' p c := by
  cases c with
  | inl o =>
    have e : jx_fd ρ σ p = jx_fd ρ σ' p := by
      funext k o
      cases o with
      | none => simp [jx_fd, h]
      | some q => cases q <;> rfl
    simp [jx_ce, e]
  | inr n => simp [jx_ce, h]
theorem jx_Wset {c : jx_Lc} {i : Nat} {v : Int32} {e : va_E} (h : Λ[p]? = some c) (he : jx_ce ρ cA (jx_su σ p i v) p c = e) : (jx_W ρ cA Λ σ).set p (ρ p, e) = jx_W ρ cA Λ (jx_su σ p i v) := by
  apply List.ext_getElem?
  intro k
  by_cases hk : k = p
  · subst hk
    have hl : k < (jx_W ρ cA Λ σ).length := by
      have := (List.getElem?_eq_some_iff.mp h).1
      simpa [jx_W] using this
    rw [List.getElem?_set_self hl, jx_Wat h, he]
  · rw [List.getElem?_set_ne (Ne.symm hk), jx_Wg, jx_Wg]
    cases h1 : Λ[k]? with
    | none => rfl
    | some ck =>
      have e1 : σ k = jx_su σ p i v k := (jx_su_ne σ i v hk).symm
      simp only [Option.map_some]
      rw [jx_ce_eq e1]
theorem jx_Wput {ci f : Nat} {fs : List (Option (Option Nat))} {v : Int32} (h : Λ[p]? = some (.inl (ci, fs))) (hf : fs[f]? = some none) :
    (jx_W ρ cA Λ σ).set p (ρ p, .inr (ci, (fs.mapIdx (jx_fd ρ σ p)).set f (.int v))) = jx_W ρ cA Λ (jx_su σ p f v) := by
  refine jx_Wset h ?_
  show (Sum.inr (ci, fs.mapIdx (jx_fd ρ (jx_su σ p f v) p)) : va_E) = _
  congr 2
  apply List.ext_getElem?
  intro k
  by_cases hk : k = f
  · subst hk
    have hl : k < (fs.mapIdx (jx_fd ρ σ p)).length := by
      have := (List.getElem?_eq_some_iff.mp hf).1
      simpa using this
    rw [List.getElem?_set_self hl, List.getElem?_mapIdx, hf]
    simp [jx_fd, jx_su_eq, upd]
  · rw [List.getElem?_set_ne (Ne.symm hk), List.getElem?_mapIdx, List.getElem?_mapIdx]
    cases h1 : fs[k]? with
    | none => rfl
    | some o =>
      cases o with
      | none => simp [jx_fd, jx_su_eq, upd, hk]
      | some q => cases q <;> rfl
theorem jx_Wast {n i : Nat} {x : Int32} (h : Λ[p]? = some (.inr n)) : (jx_W ρ cA Λ σ).set p (ρ p, .inl (cA, n, .inl (upd (σ p) i x))) = jx_W ρ cA Λ (jx_su σ p i x) := by
  refine jx_Wset h ?_
  show (Sum.inl (cA, n, Sum.inl (jx_su σ p i x p)) : va_E) = _
  rw [jx_su_eq]
end JXW
/-! locals -/
def jx_lk : jx_Lv → Nat → Option Value
  | [], _ => none
  | (j, v) :: t, i => bif Nat.beq j i then some v else jx_lk t i
def jx_f1 (i : Nat) (lv : jx_Lv) : jx_Lv := lv.filter (fun q => !(q.1 == i) && !(q.1 + 1 == i && q.2.category == 2))
def jx_f2 (i : Nat) (lv : jx_Lv) : jx_Lv := lv.filter (fun q => !(q.1 == i) && (!(q.1 == i + 1) && !(q.1 + 1 == i && q.2.category == 2)))
theorem jx_lkm {ρ : Nat → Nat} {i : Nat} {v : Value} : ∀ {lv : jx_Lv}, jx_lk lv i = some v → (i, jx_v ρ v) ∈ lv.map (jx_q ρ)
  | [], h => by cases h
  | (j, w) :: t, h => by
    unfold jx_lk at h
    by_cases hj : j = i
    · subst hj
      simp at h
      subst h
      exact List.mem_cons_self
    · have hb : Nat.beq j i = false := by
        cases hq : Nat.beq j i with
        | false => rfl
        | true => exact absurd (Nat.eq_of_beq_eq_true hq) hj
      rw [hb] at h
      exact List.mem_cons_of_mem _ (jx_lkm h)
theorem jx_lka {ρ : Nat → Nat} {i nL : Nat} {v : Value} {lv : jx_Lv} {ls : Array Slot} (hl : lv_has ls nL (lv.map (jx_q ρ))) (h : jx_lk lv i = some v) : ls[i]? = some (.val (jx_v ρ v)) := hl.2.2 _ (jx_lkm h)
theorem jx_lkk {ρ : Nat → Nat} {i : Nat} {v : Value} {lv : jx_Lv} (h : jx_lk lv i = some v) : ∃ k : Nat, (lv.map (jx_q ρ))[k]? = some (i, jx_v ρ v) := List.getElem?_of_mem (jx_lkm h)
theorem jx_f1m (ρ : Nat → Nat) (i : Nat) (lv : jx_Lv) : (lv.map (jx_q ρ)).filter (fun q => !(q.1 == i) && !(q.1 + 1 == i && q.2.category == 2)) = (jx_f1 i lv).map (jx_q ρ) := by
  rw [List.filter_map]
  unfold jx_f1
  congr 1
  apply List.filter_congr
  intro q _
  simp [jx_q, jx_cat]
theorem jx_f2m (ρ : Nat → Nat) (i : Nat) (lv : jx_Lv) : (lv.map (jx_q ρ)).filter (fun q => !(q.1 == i) && (!(q.1 == i + 1) && !(q.1 + 1 == i && q.2.category == 2))) = (jx_f2 i lv).map (jx_q ρ) := by
  rw [List.filter_map]
  unfold jx_f2
  congr 1
  apply List.filter_congr
  intro q _
  simp [jx_q, jx_cat]
theorem jx_slm (ρ : Nat → Nat) (as : List Value) : (lg_sl (as.map (jx_v ρ))).length = (lg_sl as).length := by
  induction as with
  | nil => rfl
  | cons v t ih =>
    simp only [lg_sl, List.map_cons, List.flatMap_cons, List.length_append] at ih ⊢
    rw [jx_cat, ih]
    by_cases h : v.category = 2 <;> simp [h]
theorem jx_argm (ρ : Nat → Nat) (as : List Value) : ∀ n, lv_args n (as.map (jx_v ρ)) = (lv_args n as).map (jx_q ρ) := by
  induction as with
  | nil => intro n; rfl
  | cons v t ih =>
    intro n
    simp only [List.map_cons, lv_args, jx_cat, ih]
    rfl

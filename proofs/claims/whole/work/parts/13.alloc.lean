/-! Constructors: the layout grows -/
def jn_ag (n : Nat) (ρ ρ' : Nat → Nat) : Prop := ∀ i, i < n ∨ 800 ≤ i → ρ' i = ρ i
def jn_A (ρ : Nat → Nat) (Λ : List jx_Lc) (sz : Nat) : Nat → Prop := fun q => jx_A ρ Λ q ∨ sz ≤ q
def jn_rm (d mc ms : Nat) : Room := { frames := d, cells := mc, slots := ms, locals := 40 * d }
def jn_Q (D : va_G) (cA : ClassId) (ρ : Nat → Nat) (Λ : List jx_Lc) (sz : Nat) (Q : List jx_Lc → jx_St → Prop) : Array Value → State → Outcome → State → Prop := fun _ st oc t =>
  (∃ (Λ' : List jx_Lc) (σ : jx_St) (ρ' : Nat → Nat), oc = .returned none ∧ Q Λ' σ ∧ jn_ag Λ.length ρ ρ' ∧ Λ.length ≤ Λ'.length ∧ jx_inj ρ' Λ' ∧ (∀ i, i < Λ'.length → jn_A ρ Λ sz (ρ' i)) ∧ va_P D jx_cl (jx_W ρ' cA Λ' σ) t.heap) ∧ va_F (jn_A ρ Λ sz) st t
def jn_C (l : Launch) (D : va_G) (cA : ClassId) (d k mc ms : Nat) (as : List Value) (Λ : List jx_Lc) (σ : jx_St) (Q : List jx_Lc → jx_St → Prop) : Prop := ∀ (ρ : Nat → Nat) (sz : Nat),
  Met l (jx_y k) (jx_ws k) (jn_rm d mc ms) (va_Pc (as.map (jx_v ρ)) (fun U => U.heap.size = sz ∧ va_P D jx_cl (jx_W ρ cA Λ σ) U.heap ∧ jx_K D cA ρ Λ (jn_A ρ Λ sz) jx_tb0 U)) (jn_Q D cA ρ Λ sz Q) mc ms (jn_A ρ Λ sz)
def jn_K (D : va_G) (cA : ClassId) (ρ : Nat → Nat) (A : Nat → Prop) (tb : jx_Tb) (U : State) : Prop := va_K D jx_cl [(cA, .int)] U ∧ jx_Z ρ A tb U U.heap ∧ ∀ w ∈ jx_nw, va_Nw w U
/-- the surrounding -/
def jn_X (D : va_G) (cA : ClassId) (ρ0 : Nat → Nat) (A : Nat → Prop) (tb : jx_Tb) (d k : Nat) (p : Program) (R : Room) (s : State) (m : MethodId) (args : Array Value) (c : Code) : Prop :=
  p.tables.exec = Jvm.exec ∧ c.code = jx_b k ∧ c.maxLocals = jx_nL k ∧ s.vm.findClass (jx_y k).cls = some m.cls ∧ (∀ w ∈ jx_gw, w.before args s = true) ∧ (d ≤ R.frames ∧ 40 * d ≤ R.locals) ∧ jn_K D cA ρ0 A tb s ∧ (∀ q, s.heap.size ≤ q → A q) ∧ (∀ p n f, tb p = some (n, f) → 800 ≤ p)
/-- a place of the heap with its layout -/
def jn_H (D : va_G) (cA : ClassId) (ρ0 : Nat → Nat) (n0 : Nat) (A : Nat → Prop) (s : State) (ρ : Nat → Nat) (Λ : List jx_Lc) (σ : jx_St) (H : Heap) (locs : List Loc) : Prop :=
  jn_ag n0 ρ0 ρ ∧ n0 ≤ Λ.length ∧ jx_inj ρ Λ ∧ (∀ i, i < Λ.length → A (ρ i)) ∧ va_P D jx_cl (jx_W ρ cA Λ σ) H ∧ va_S A s.heap H locs
def jn_I (l : Launch) (D : va_G) (cA : ClassId) (ρ0 : Nat → Nat) (n0 : Nat) (A : Nat → Prop) (k : Nat) (p : Program) (e : Env) (R : Room) (s : State) (m : MethodId) (args : Array Value) (below : List Frame) (meth : Method) (c : Code) (QW : State → Prop) (mc ms pc : Nat) (lv : jx_Lv) (st : List Value) (Λ : List jx_Lc) (σ : jx_St) : Prop :=
  ∀ (ρ : Nat → Nat) (H : Heap) (locs : List Loc) (ls : Array Slot) (cells slots : Nat), jn_H D cA ρ0 n0 A s ρ Λ σ H locs → lv_has ls (jx_nL k) (lv.map (jx_q ρ)) → cells + mc ≤ R.cells → slots + ms ≤ R.slots →
    W p l e R s m args below meth c H locs cells slots QW (F0 m pc ls (st.map (jx_v ρ)))
def jn_R (l : Launch) (D : va_G) (cA : ClassId) (ρ0 : Nat → Nat) (n0 : Nat) (A : Nat → Prop) (k : Nat) (p : Program) (e : Env) (R : Room) (s : State) (m : MethodId) (args : Array Value) (below : List Frame) (meth : Method) (c : Code) (QW : State → Prop) (Q : List jx_Lc → jx_St → Prop) : Prop :=
  ∀ (ρ : Nat → Nat) (H : Heap) (locs : List Loc) (ls : Array Slot) (cells slots mc ms pc : Nat) (Λ : List jx_Lc) (σ : jx_St), decode (jx_b k) pc = .ok (.return_, 1) → Q Λ σ → jn_H D cA ρ0 n0 A s ρ Λ σ H locs → cells + mc ≤ R.cells → slots + ms ≤ R.slots →
    W p l e R s m args below meth c H locs cells slots QW (F0 m pc ls [])
abbrev jn_Nx : Type := Nat → Nat → Nat → jx_Lv → List Value → List jx_Lc → jx_St → Prop
abbrev jn_Cn : Type := Nat → Nat → Nat → List Value → List jx_Lc → jx_St → (List jx_Lc → jx_St → Prop) → Prop
/-- next, plain calls (for every place of the cells), calls of constructors, return -/
abbrev jn_Sp : Type := jx_Tb → jn_Nx → (List jx_Lc → jx_Cl) → jn_Cn → (List jx_Lc → jx_St → Prop) → Nat → Nat → Nat → jx_Lv → List Value → List jx_Lc → jx_St → Prop
def jn_Snd (k pc : Nat) (sp : jn_Sp) : Prop := ∀ (l : Launch) (D : va_G) (cA : ClassId) (ρ0 : Nat → Nat) (n0 : Nat) (A : Nat → Prop) (tb : jx_Tb) (d : Nat) (Q : List jx_Lc → jx_St → Prop) (p : Program) (e : Env) (R : Room) (s : State) (m : MethodId) (args : Array Value) (below : List Frame) (meth : Method) (c : Code) (QW : State → Prop),
  jn_X D cA ρ0 A tb (d + 1) k p R s m args c → ((jx_y k).name = "<init>" → meth.name = "<init>") → jn_R l D cA ρ0 n0 A k p e R s m args below meth c QW Q → (∀ p n f, jx_tb0 p = some (n, f) → tb p = some (n, f)) → ∀ (nx : jn_Nx) (mc ms : Nat) (lv : jx_Lv) (st : List Value) (Λ : List jx_Lc) (σ : jx_St),
  (∀ mc' ms' pc' lv' st' Λ' σ', nx mc' ms' pc' lv' st' Λ' σ' → jn_I l D cA ρ0 n0 A k p e R s m args below meth c QW mc' ms' pc' lv' st' Λ' σ') →
  sp tb nx (fun Λ k' as σ K => ∀ ρ, jx_C l D cA ρ Λ d k' as σ K) (fun k' mc' ms' as Λ σ K => jn_C l D cA d k' mc' ms' as Λ σ K) Q mc ms pc lv st Λ σ → jn_I l D cA ρ0 n0 A k p e R s m args below meth c QW mc ms pc lv st Λ σ
def jn_of (sp : jx_Sp) : jn_Sp := fun tb nx cl _ _ mc ms pc lv st Λ σ => sp Λ tb (fun pc' lv' st' σ' => nx mc ms pc' lv' st' Λ σ') (cl Λ) (fun _ _ => False) pc lv st σ
/-- every reference is to a place below n, or to one of the fixed ones -/
def jn_rf (n q : Nat) : Bool := Nat.ble (q + 1) n || Nat.ble 800 q
def jn_rv (n : Nat) : Value → Bool
  | .ref q => jn_rf n q
  | _ => true
def jn_rl (n : Nat) : List (Option (Option Nat)) → Bool
  | [] => true
  | some (some q) :: t => jn_rf n q && jn_rl n t
  | _ :: t => jn_rl n t
def jn_rL (n : Nat) : List jx_Lc → Bool
  | [] => true
  | .inl o :: t => jn_rl n o.2 && jn_rL n t
  | .inr _ :: t => jn_rL n t
def jn_rs (n : Nat) : List Value → Bool
  | [] => true
  | v :: t => jn_rv n v && jn_rs n t
def jn_rq (n : Nat) : jx_Lv → Bool
  | [] => true
  | v :: t => jn_rv n v.2 && jn_rq n t
def jn_ok (lv : jx_Lv) (st : List Value) (Λ : List jx_Lc) : Bool := Nat.ble (Λ.length + 1) 800 && (jn_rL Λ.length Λ && (jn_rs Λ.length st && jn_rq Λ.length lv))
def jn_z (σ : jx_St) (n : Nat) : jx_St := fun p => bif Nat.beq p n then (fun _ => 0) else σ p
theorem jn_rv_eq {n : Nat} {ρ ρ' : Nat → Nat} (h : jn_ag n ρ ρ') {v : Value} (hv : jn_rv n v = true) : jx_v ρ' v = jx_v ρ v := by
  cases v with
  | ref q =>
    have h1 : jn_rf n q = true := hv
    unfold jn_rf at h1
    rw [Bool.or_eq_true] at h1
    show Value.ref (ρ' q) = Value.ref (ρ q)
    rw [h q (by rcases h1 with h1 | h1; exact Or.inl (Nat.le_of_ble_eq_true h1); exact Or.inr (Nat.le_of_ble_eq_true h1))]
  | _ => rfl
theorem jn_rs_eq {n : Nat} {ρ ρ' : Nat → Nat} (h : jn_ag n ρ ρ') : ∀ {st : List Value}, jn_rs n st = true → st.map (jx_v ρ') = st.map (jx_v ρ)
  | [], _ => rfl
  | v :: t, hv => by
    unfold jn_rs at hv
    rw [Bool.and_eq_true] at hv
    rw [List.map_cons, List.map_cons, jn_rv_eq h hv.1, jn_rs_eq h hv.2]
theorem jn_rq_eq {n : Nat} {ρ ρ' : Nat → Nat} (h : jn_ag n ρ ρ') : ∀ {lv : jx_Lv}, jn_rq n lv = true → lv.map (jx_q ρ') = lv.map (jx_q ρ)
  | [], _ => rfl
  | v :: t, hv => by
    unfold jn_rq at hv
    rw [Bool.and_eq_true] at hv
    rw [List.map_cons, List.map_cons, jn_rq_eq h hv.2]
    unfold jx_q
    rw [jn_rv_eq h hv.1]
theorem jn_rl_at {n q : Nat} : ∀ {fs : List (Option (Option Nat))} {j : Nat}, jn_rl n fs = true → fs[j]? = some (some (some q)) → jn_rf n q = true
  | [], _, _, h => by simp at h
  | o :: t, 0, h, e => by
    have e1 : o = some (some q) := by simpa using e
    subst e1
    unfold jn_rl at h
    rw [Bool.and_eq_true] at h
    exact h.1
  | o :: t, j + 1, h, e => by
    have e1 : t[j]? = some (some (some q)) := by simpa using e
    have h1 : jn_rl n t = true := by
      unfold jn_rl at h
      split at h
      · rename_i e2; cases e2
      · rename_i e2
        cases e2
        rw [Bool.and_eq_true] at h
        exact h.2
      · rename_i e2
        cases e2
        exact h
    exact jn_rl_at h1 e1
def jn_u (ρ : Nat → Nat) (n q : Nat) : Nat → Nat := fun i => bif Nat.beq i n then q else ρ i
theorem jn_u_eq (ρ : Nat → Nat) (n q : Nat) : jn_u ρ n q n = q := by simp [jn_u]
theorem jn_u_ne (ρ : Nat → Nat) {n i : Nat} (q : Nat) (h : i ≠ n) : jn_u ρ n q i = ρ i := by simp [jn_u, jx_bne h]
theorem jn_u_ag (ρ : Nat → Nat) {n : Nat} (q : Nat) (h : n < 800) : jn_ag n ρ (jn_u ρ n q) := fun i hi => jn_u_ne ρ q (by omega)
theorem jn_ag_trans {n n' : Nat} {ρ ρ' ρ'' : Nat → Nat} (h : jn_ag n ρ ρ') (h' : jn_ag n' ρ' ρ'') (hn : n ≤ n') : jn_ag n ρ ρ'' := fun i hi => (h' i (by omega)).trans (h i hi)
def jn_cc (n : Nat) : jx_Lc → Bool
  | .inl o => jn_rl n o.2
  | .inr _ => true
theorem jn_rL_at {n : Nat} {c : jx_Lc} : ∀ {Λ : List jx_Lc} {j : Nat}, jn_rL n Λ = true → Λ[j]? = some c → jn_cc n c = true
  | [], _, _, h => by simp at h
  | o :: t, 0, h, e => by
    have e1 : o = c := by simpa using e
    subst e1
    cases o with
    | inl o => unfold jn_rL at h; rw [Bool.and_eq_true] at h; exact h.1
    | inr m => rfl
  | o :: t, j + 1, h, e => by
    have e1 : t[j]? = some c := by simpa using e
    have h1 : jn_rL n t = true := by
      cases o with
      | inl o => unfold jn_rL at h; rw [Bool.and_eq_true] at h; exact h.2
      | inr m => unfold jn_rL at h; exact h
    exact jn_rL_at h1 e1
theorem jn_ceq {n p : Nat} {ρ ρ' : Nat → Nat} {cA : ClassId} {σ σ' : jx_St} (hag : jn_ag n ρ ρ') (hσ : σ' p = σ p) {c : jx_Lc} (hc : jn_cc n c = true) : jx_ce ρ' cA σ' p c = jx_ce ρ cA σ p c := by
  cases c with
  | inr m => show (Sum.inl (cA, m, Sum.inl (σ' p)) : va_E) = _; rw [hσ]; rfl
  | inl o =>
    show (Sum.inr (o.1, o.2.mapIdx (jx_fd ρ' σ' p)) : va_E) = Sum.inr (o.1, o.2.mapIdx (jx_fd ρ σ p))
    congr 2
    apply List.ext_getElem?
    intro j
    rw [List.getElem?_mapIdx, List.getElem?_mapIdx]
    cases h1 : o.2[j]? with
    | none => rfl
    | some x =>
      rcases x with _ | _ | q
      · simp [jx_fd, hσ]
      · rfl
      · have h2 := jn_rl_at (show jn_rl n o.2 = true from hc) h1
        have h3 : jx_v ρ' (.ref q) = jx_v ρ (.ref q) := jn_rv_eq hag h2
        simp only [Option.map_some, jx_fd]
        exact congrArg some h3
theorem jn_Wag {n : Nat} {ρ ρ' : Nat → Nat} {cA : ClassId} {Λ : List jx_Lc} {σ σ' : jx_St} (hag : jn_ag n ρ ρ') (hn : Λ.length ≤ n) (hσ : ∀ p, p < Λ.length → σ' p = σ p) (hL : jn_rL n Λ = true) : jx_W ρ' cA Λ σ' = jx_W ρ cA Λ σ := by
  apply List.ext_getElem?
  intro j
  rw [jx_Wg, jx_Wg]
  cases h1 : Λ[j]? with
  | none => rfl
  | some x =>
    have hj := (List.getElem?_eq_some_iff.mp h1).1
    simp only [Option.map_some]
    rw [jn_ceq hag (hσ j hj) (jn_rL_at hL h1), hag j (Or.inl (by omega))]
theorem jn_Wpush {ρ : Nat → Nat} {q : Nat} {cA : ClassId} {Λ : List jx_Lc} {σ : jx_St} {c : jx_Lc} (h8 : Λ.length < 800) (hL : jn_rL Λ.length Λ = true) : jx_W (jn_u ρ Λ.length q) cA (Λ ++ [c]) (jn_z σ Λ.length) = jx_W ρ cA Λ σ ++ [(q, jx_ce (jn_u ρ Λ.length q) cA (jn_z σ Λ.length) Λ.length c)] := by
  have e1 : jx_W (jn_u ρ Λ.length q) cA Λ (jn_z σ Λ.length) = jx_W ρ cA Λ σ := jn_Wag (jn_u_ag ρ q h8) (Nat.le_refl _) (fun p hp => by simp [jn_z, jx_bne (Nat.ne_of_lt hp)]) hL
  rw [← e1]
  unfold jx_W
  rw [List.mapIdx_append]
  congr 1
  simp [jn_u_eq]
theorem jn_inj_push {ρ : Nat → Nat} {q : Nat} {Λ : List jx_Lc} {c : jx_Lc} (h : jx_inj ρ Λ) (hq : ∀ i, i < Λ.length → ρ i ≠ q) : jx_inj (jn_u ρ Λ.length q) (Λ ++ [c]) := by
  intro i j hi hj e
  simp only [List.length_append, List.length_cons, List.length_nil] at hi hj
  by_cases h1 : i = Λ.length
  · by_cases h2 : j = Λ.length
    · omega
    · rw [h1, jn_u_eq, jn_u_ne ρ q h2] at e
      exact absurd e.symm (hq j (by omega))
  · by_cases h2 : j = Λ.length
    · rw [h2, jn_u_eq, jn_u_ne ρ q h1] at e
      exact absurd e (hq i (by omega))
    · rw [jn_u_ne ρ q h1, jn_u_ne ρ q h2] at e
      exact h i j (by omega) (by omega) e
theorem jn_Zag {ρ0 ρ : Nat → Nat} {n0 : Nat} {A : Nat → Prop} {tb : jx_Tb} {U : State} {H : Heap} (hag : jn_ag n0 ρ0 ρ) (ht : ∀ p n f, tb p = some (n, f) → 800 ≤ p) (h : jx_Z ρ0 A tb U H) : jx_Z ρ A tb U H := by
  refine ⟨fun z hz => ?_, fun p n f hp => ?_⟩
  · rw [hag z.1 (Or.inr (jx_zs8 z hz))]
    exact h.1 z hz
  · rw [hag p (Or.inr (ht p n f hp))]
    exact h.2 p n f hp
theorem jn_lift {k pc : Nat} {sp : jx_Sp} (hs : jx_Snd k pc sp) : jn_Snd k pc (jn_of sp) := by
  intro l D cA ρ0 n0 A tb d Q p e R s m args below meth c QW X hmi hret htb nx mc ms lv st Λ σ hn h
  intro ρ H locs ls cells slots HH hl hc1 hc2
  obtain ⟨hag, hn0, hinj, hAi, hP, hS⟩ := HH
  obtain ⟨hx, hb, hml, hown, hts, ⟨r1, r2⟩, ⟨hK1, hK2, hK3⟩, hA, ht8⟩ := X
  have X' : jx_X D cA ρ Λ A tb (d + 1) k p R s m args c cells slots := ⟨hx, hb, hml, hown, hts, ⟨r1, r2, by omega, by omega⟩, ⟨hK1, hinj, jn_Zag hag ht8 hK2, hK3⟩, hAi⟩
  refine hs l D cA ρ Λ A tb d (fun _ _ => False) p e R s m args below meth c cells slots QW X' (fun _ _ _ _ _ _ _ q _ _ => False.elim q) (fun pc' lv' st' σ' => nx mc ms pc' lv' st' Λ σ') _ lv st σ htb ?_ (fun k' as σ K z => z ρ) h H locs ls hP hS hl
  intro pc' lv' st' σ' q H' locs' ls' hP' hS' hl'
  exact hn _ _ _ _ _ _ _ q ρ H' locs' ls' cells slots ⟨hag, hn0, hinj, hAi, hP', hS'⟩ hl' hc1 hc2
theorem jn_okd {lv : jx_Lv} {st : List Value} {Λ : List jx_Lc} (h : jn_ok lv st Λ = true) : Λ.length < 800 ∧ jn_rL Λ.length Λ = true ∧ jn_rs Λ.length st = true ∧ jn_rq Λ.length lv = true := by
  unfold jn_ok at h
  rw [Bool.and_eq_true, Bool.and_eq_true, Bool.and_eq_true] at h
  exact ⟨Nat.le_of_ble_eq_true h.1, h.2.1, h.2.2.1, h.2.2.2⟩
/-- a pushed cell: the place of the heap behind it -/
theorem jn_pushH {D : va_G} {cA : ClassId} {ρ0 : Nat → Nat} {n0 : Nat} {A : Nat → Prop} {s : State} {ρ : Nat → Nat} {Λ : List jx_Lc} {σ : jx_St} {H H1 : Heap} {locs : List Loc} {q : Nat} {c : jx_Lc} (HH : jn_H D cA ρ0 n0 A s ρ Λ σ H locs) (h8 : Λ.length < 800) (hL : jn_rL Λ.length Λ = true)
    (hP : va_P D jx_cl (jx_W ρ cA Λ σ ++ [(q, jx_ce (jn_u ρ Λ.length q) cA (jn_z σ Λ.length) Λ.length c)]) H1) (hD : va_D A (jx_W ρ cA Λ σ ++ [(q, jx_ce (jn_u ρ Λ.length q) cA (jn_z σ Λ.length) Λ.length c)])) (hS : va_S A s.heap H1 locs) : jn_H D cA ρ0 n0 A s (jn_u ρ Λ.length q) (Λ ++ [c]) (jn_z σ Λ.length) H1 locs := by
  obtain ⟨hag, hn0, hinj, hAi, -, -⟩ := HH
  have hlen : (jx_W ρ cA Λ σ).length = Λ.length := by simp [jx_W]
  have hlast : (jx_W ρ cA Λ σ ++ [(q, jx_ce (jn_u ρ Λ.length q) cA (jn_z σ Λ.length) Λ.length c)])[Λ.length]? = some (q, jx_ce (jn_u ρ Λ.length q) cA (jn_z σ Λ.length) Λ.length c) := by
    rw [List.getElem?_append_right (by omega), hlen, Nat.sub_self]; rfl
  have hq : ∀ i, i < Λ.length → ρ i ≠ q := by
    intro i hi e
    have h1 : (jx_W ρ cA Λ σ ++ [(q, jx_ce (jn_u ρ Λ.length q) cA (jn_z σ Λ.length) Λ.length c)])[i]? = some (ρ i, jx_ce ρ cA σ i (Λ[i])) := by
      rw [List.getElem?_append_left (by omega)]
      exact jx_Wat (List.getElem?_eq_getElem hi)
    have := hD.1 i Λ.length _ _ h1 hlast e
    omega
  refine ⟨jn_ag_trans hag (jn_u_ag ρ q h8) hn0, by simp; omega, jn_inj_push hinj hq, ?_, ?_, hS⟩
  · intro i hi
    simp only [List.length_append, List.length_cons, List.length_nil] at hi
    by_cases h1 : i = Λ.length
    · rw [h1, jn_u_eq]
      exact hD.2 Λ.length _ hlast
    · rw [jn_u_ne ρ q h1]
      exact hAi i (by omega)
  · rw [jn_Wpush h8 hL]
    exact hP
theorem jn_u_lv {ρ : Nat → Nat} {n q : Nat} {lv : jx_Lv} {ls : Array Slot} {nL : Nat} (h8 : n < 800) (h : jn_rq n lv = true) (hl : lv_has ls nL (lv.map (jx_q ρ))) : lv_has ls nL (lv.map (jx_q (jn_u ρ n q))) := by
  rw [jn_rq_eq (jn_u_ag ρ q h8) h]
  exact hl

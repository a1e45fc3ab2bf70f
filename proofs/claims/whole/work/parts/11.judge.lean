/-! Contract and walk over the abstract state -/
abbrev jx_y (k : Nat) : MethodName := (jx_mt k).1
abbrev jx_b (k : Nat) : ByteArray := (jx_mt k).2.1
abbrev jx_nL (k : Nat) : Nat := (jx_mt k).2.2.1
abbrev jx_ret (k : Nat) : Option FieldType := (jx_mt k).2.2.2
def jx_ws (k : Nat) : List Cond := Cond.code (jx_y k) (jx_b k) (jx_nL k) (jx_ret k) :: jx_gw
def jx_rm (d : Nat) : Room := { frames := d, cells := 0, slots := 0, locals := 40 * d }
def jx_Z (ρ : Nat → Nat) (A : Nat → Prop) (tb : jx_Tb) (U : State) (H : Heap) : Prop :=
  (∀ z ∈ jx_zs, va_Z z.2.1 z.2.2.1 z.2.2.2 (.ref (ρ z.1)) A U H) ∧ ∀ (p n : Nat) (f : Nat → Int32), tb p = some (n, f) → va_T .int (ρ p) n (fun j => .int (f j)) A U H
def jx_K (D : va_G) (cA : ClassId) (ρ : Nat → Nat) (Λ : List jx_Lc) (A : Nat → Prop) (tb : jx_Tb) (U : State) : Prop :=
  va_K D jx_cl [(cA, .int)] U ∧ jx_inj ρ Λ ∧ jx_Z ρ A tb U U.heap ∧ ∀ w ∈ jx_nw, va_Nw w U
def jx_Q (D : va_G) (cA : ClassId) (ρ : Nat → Nat) (Λ : List jx_Lc) (Q : Option Value → jx_St → Prop) : Array Value → State → Outcome → State → Prop := fun _ st oc t =>
  (∃ (r : Option Value) (σ : jx_St), oc = .returned (r.map (jx_v ρ)) ∧ Q r σ ∧ va_P D jx_cl (jx_W ρ cA Λ σ) t.heap) ∧ va_F (jx_A ρ Λ) st t
def jx_C (l : Launch) (D : va_G) (cA : ClassId) (ρ : Nat → Nat) (Λ : List jx_Lc) (d k : Nat) (as : List Value) (σ : jx_St) (Q : Option Value → jx_St → Prop) : Prop :=
  Met l (jx_y k) (jx_ws k) (jx_rm d) (va_Pc (as.map (jx_v ρ)) (fun U => va_P D jx_cl (jx_W ρ cA Λ σ) U.heap ∧ jx_K D cA ρ Λ (jx_A ρ Λ) jx_tb0 U)) (jx_Q D cA ρ Λ Q) 0 0 (jx_A ρ Λ)
def jx_X (D : va_G) (cA : ClassId) (ρ : Nat → Nat) (Λ : List jx_Lc) (A : Nat → Prop) (tb : jx_Tb) (d k : Nat) (p : Program) (R : Room) (s : State) (m : MethodId) (args : Array Value) (c : Code) (cells slots : Nat) : Prop :=
  p.tables.exec = Jvm.exec ∧ c.code = jx_b k ∧ c.maxLocals = jx_nL k ∧ s.vm.findClass (jx_y k).cls = some m.cls ∧ (∀ w ∈ jx_gw, w.before args s = true) ∧ (d ≤ R.frames ∧ 40 * d ≤ R.locals ∧ cells ≤ R.cells ∧ slots ≤ R.slots) ∧ jx_K D cA ρ Λ A tb s ∧ ∀ i, i < Λ.length → A (ρ i)
def jx_rt (k pc : Nat) (r : Option Value) : Prop := match jx_ret k with
  | none => r = none ∧ decode (jx_b k) pc = .ok (.return_, 1)
  | some ty => ∃ v : Int32, r = some (.int v) ∧ narrow ty (.int v) = .int v ∧ decode (jx_b k) pc = .ok (.ireturn, 1)
/-- the walk in a fixed surrounding -/
def jx_I (l : Launch) (D : va_G) (cA : ClassId) (ρ : Nat → Nat) (Λ : List jx_Lc) (A : Nat → Prop) (k : Nat) (p : Program) (e : Env) (R : Room) (s : State) (m : MethodId) (args : Array Value) (below : List Frame) (meth : Method) (c : Code) (cells slots : Nat) (QW : State → Prop) (pc : Nat) (lv : jx_Lv) (st : List Value) (σ : jx_St) : Prop :=
  ∀ (H : Heap) (locs : List Loc) (ls : Array Slot), va_P D jx_cl (jx_W ρ cA Λ σ) H → va_S A s.heap H locs → lv_has ls (jx_nL k) (lv.map (jx_q ρ)) →
    W p l e R s m args below meth c H locs cells slots QW (F0 m pc ls (st.map (jx_v ρ)))
/-- the surrounding's part at a return -/
def jx_R (l : Launch) (D : va_G) (cA : ClassId) (ρ : Nat → Nat) (Λ : List jx_Lc) (A : Nat → Prop) (k : Nat) (p : Program) (e : Env) (R : Room) (s : State) (m : MethodId) (args : Array Value) (below : List Frame) (meth : Method) (c : Code) (cells slots : Nat) (QW : State → Prop) (Q : Option Value → jx_St → Prop) : Prop :=
  ∀ (H : Heap) (locs : List Loc) (ls : Array Slot) (pc : Nat) (r : Option Value) (σ : jx_St), jx_rt k pc r → Q r σ → va_P D jx_cl (jx_W ρ cA Λ σ) H → va_S A s.heap H locs → W p l e R s m args below meth c H locs cells slots QW (F0 m pc ls (r.toList.map (jx_v ρ)))
def jx_J (l : Launch) (D : va_G) (cA : ClassId) (ρ : Nat → Nat) (Λ : List jx_Lc) (A : Nat → Prop) (tb : jx_Tb) (d k : Nat) (Q : Option Value → jx_St → Prop) (pc : Nat) (lv : jx_Lv) (st : List Value) (σ : jx_St) : Prop :=
  ∀ (p : Program) (e : Env) (R : Room) (s : State) (m : MethodId) (args : Array Value) (below : List Frame) (meth : Method) (c : Code) (cells slots : Nat) (QW : State → Prop),
    jx_X D cA ρ Λ A tb d k p R s m args c cells slots → jx_R l D cA ρ Λ A k p e R s m args below meth c cells slots QW Q →
    jx_I l D cA ρ Λ A k p e R s m args below meth c cells slots QW pc lv st σ
theorem jx_Nw {w : Cond} (hw : jx_isN w = true) {s U : State} (hW : s.WarmedH U.vm) (h : va_Nw w s) : va_Nw w U := by
  cases w <;> first | (exact va_Nw.warmF hW h) | (exact va_Nw.warmM hW h) | (cases hw)
theorem jx_Nc {w : Cond} (hw : jx_isN w = true) {u U : State} (hv : u.vm = U.vm) (h : va_Nw w u) : va_Nw w U := by
  cases w <;> first | (exact va_Nw.same rfl hv h) | (cases hw)
section JXJ
variable {l : Launch} {D : va_G} {cA : ClassId} {ρ : Nat → Nat} {Λ : List jx_Lc} {A : Nat → Prop} {tb : jx_Tb} {d k : Nat} {Q : Option Value → jx_St → Prop}
theorem jx_Z_moved {u U : State} {H : Heap} (hvm : u.vm.Alike U.vm) (h : jx_Z ρ A tb u H) : jx_Z ρ A tb U H := ⟨fun z hz => va_Z.moved hvm (h.1 z hz), fun p n f hp => va_T.moved hvm (h.2 p n f hp)⟩
theorem jx_Z_kept {U : State} {H H1 : Heap} (h : jx_Z ρ A tb U H) (hq : ∀ a : Nat, a < H.size → ¬ A a → H1[a]? = H[a]?) : jx_Z ρ A tb U H1 := ⟨fun z hz => (h.1 z hz).kept hq, fun p n f hp => (h.2 p n f hp).kept hq⟩
theorem jx_K_calling {U : State} {g : JFrame} {mk : MethodId} {a : Array Value} (h : jx_K D cA ρ Λ A tb U) : jx_K D cA ρ Λ A tb (U.calling g mk a) :=
  ⟨va_K.moved (u := U) (U := U.calling g mk a) (Vm.Alike.refl U.vm) h.1, h.2.1, jx_Z_moved (u := U) (U := U.calling g mk a) (Vm.Alike.refl U.vm) h.2.2.1, fun w hw => jx_Nc (jx_nwN w hw) (rfl : U.vm = (U.calling g mk a).vm) (h.2.2.2 w hw)⟩
theorem jx_K_sub {tb' : jx_Tb} {B : Nat → Prop} {U : State} (h : jx_K D cA ρ Λ A tb U) (hB : ∀ q, B q → A q) (ht : ∀ p n f, tb' p = some (n, f) → tb p = some (n, f)) : jx_K D cA ρ Λ B tb' U := ⟨h.1, h.2.1, ⟨fun z hz => (h.2.2.1.1 z hz).narrow hB, fun p n f hp => (h.2.2.1.2 p n f (ht p n f hp)).narrow hB⟩, h.2.2.2⟩
theorem jx_K_at {s U : State} {H : Heap} {locs : List Loc} (h : jx_K D cA ρ Λ A tb s) (hS : va_S A s.heap H locs) (hU : U.heap = H) (hW : s.WarmedH U.vm) : jx_K D cA ρ Λ A tb U := by
  refine ⟨va_K.moved hW.alike h.1, h.2.1, ?_, fun w hw => jx_Nw (jx_nwN w hw) hW (h.2.2.2 w hw)⟩
  rw [hU]
  exact jx_Z_kept (jx_Z_moved hW.alike h.2.2.1) hS.2.1
theorem jx_blind {as : List Value} {σ : jx_St} : FrameBlind (va_Pc (as.map (jx_v ρ)) (fun U => va_P D jx_cl (jx_W ρ cA Λ σ) U.heap ∧ jx_K D cA ρ Λ A tb U)) := fun _ _ _ _ q => ⟨q.1, q.2.1, jx_K_calling q.2.2⟩
/-- a contract out of a walk from the entry -/
theorem jx_of {as : List Value} {σ : jx_St} (hp : plainName (jx_y k).cls = true) (hn : (lg_sl as).length ≤ jx_nL k) (hJ : jx_J l D cA ρ Λ (jx_A ρ Λ) jx_tb0 d k Q 0 (lv_args 0 as) [] σ) : jx_C l D cA ρ Λ d k as σ Q := by
  refine Met.ofW (cc := jx_b k) (maxL := jx_nL k) (ret := jx_ret k) hp rfl ?_
  intro p e s m args below meth c s₁ B hml hv
  obtain ⟨rfl, hP, hK⟩ := hv
  have hx := B.exec
  have hb := B.bytes
  have hr := B.returns
  have hts : ∀ w ∈ jx_gw, w.before _ s = true := fun w h => atoms_spec (ws := jx_ws k) B.pre w (List.mem_cons_of_mem _ h)
  have hown : s.vm.findClass (jx_y k).cls = some m.cls := findClass_of_methodNamed B.named
  have hlocks := B.notSynchronized
  have hl := lv_entry (as.map (jx_v ρ)) (n := jx_nL k) (by rw [jx_slm]; exact hn)
  rw [lg_entry_eq]
  generalize (lg_sl (as.map (jx_v ρ)) ++ List.replicate (jx_nL k - (lg_sl (as.map (jx_v ρ))).length) Slot.unset).toArray = ls at hl ⊢
  rw [jx_argm] at hl
  refine hJ p e _ s m _ below meth c 0 0 _ ⟨hx, hb, hml, hown, hts, ⟨Nat.le_refl _, Nat.le_refl _, Nat.zero_le _, Nat.zero_le _⟩, hK, fun i hi => ⟨i, hi, rfl⟩⟩ ?_ s.heap [] ls hP va_S.rf hl
  intro H locs ls pc r σ' hrt hq hP hS
  unfold jx_rt at hrt
  cases hk : jx_ret k with
  | none =>
    rw [hk] at hrt
    obtain ⟨rfl, hd⟩ := hrt
    exact W.vret hx hb (hr.trans hk) (fun t ht hW => ⟨⟨none, σ', rfl, hq, by rw [ht]; exact hP⟩, hS.F ht⟩) hS.2.2 hd
  | some ty =>
    rw [hk] at hrt
    obtain ⟨v, rfl, hn, hd⟩ := hrt
    exact W.zret hx hb (hr.trans hk) hn (fun t ht hW => ⟨⟨some (.int v), σ', rfl, hq, by rw [ht]; exact hP⟩, hS.F ht⟩) hS.2.2 hd
/-- behind a call -/
theorem jx_aft {p : Program} {e : Env} {R : Room} {s : State} {m : MethodId} {args : Array Value} {below : List Frame} {meth : Method} {c : Code} {H : Heap} {locs : List Loc} {cells slots : Nat} {QW : State → Prop} {pc : Nat} {ls : Array Slot} {rest st0 : List Value} {a : Array Value} {K : Option Value → jx_St → Prop}
    (hr : va_Run p l e R s m args below meth c H locs cells slots 0 0 (F0 m pc ls st0) rest (jx_Q D cA ρ Λ K a) (jx_A ρ Λ)) (hS : va_S A s.heap H locs) (hA : ∀ q, jx_A ρ Λ q → A q)
    (kk : ∀ (r : Option Value) (σ : jx_St) (H1 : Heap) (locs1 : List Loc), K r σ → va_P D jx_cl (jx_W ρ cA Λ σ) H1 → va_S A s.heap H1 locs1 → W p l e R s m args below meth c H1 locs1 cells slots QW (F0 m (pc + 3) ls ((r.map (jx_v ρ)).toList ++ rest))) :
    W p l e R s m args below meth c H locs cells slots QW (F0 m pc ls st0) := by
  intro T hT X
  obtain ⟨v, st₀, t, T', L, h0, X', hL, e1, e2, ⟨⟨r, σ, hv, hq, hp⟩, hz, hk⟩, st⟩ := hr T hT X
  have hv' : v = r.map (jx_v ρ) := by injection hv
  subst hv'
  rw [h0] at hz hk
  obtain ⟨t2, a1, b1⟩ := kk r σ T'.heap (locs ++ L) hq (by rw [e1]; exact hp)
    ⟨Nat.le_trans hS.1 (by rw [e1]; exact hz), fun q h1 h2 => by rw [e1, hk q (Nat.lt_of_lt_of_le h1 hS.1) (fun z => h2 (hA q z))]; exact hS.2.1 q h1 h2, fun q hq => by
      rcases List.mem_append.mp hq with h | h
      · exact hS.2.2 q h
      · exact hA _ (hL q h)⟩ T' rfl X'
  exact ⟨t2, st t2 a1, b1⟩
theorem jx_rs (r : Option Value) (rest : List Value) : (r.map (jx_v ρ)).toList ++ rest.map (jx_v ρ) = (r.toList ++ rest).map (jx_v ρ) := by
  cases r <;> rfl
theorem jx_G {k' : Nat} (h : Cond.code (jx_y k') (jx_b k') (jx_nL k') (jx_ret k') ∈ jx_gw) : GoodIn jx_gw (jx_ws k') := by
  intro w hw
  have h1 : w ∈ jx_gw := by
    rcases List.mem_cons.mp hw with rfl | h1
    · exact h
    · exact h1
  exact ⟨h1, jx_gwG w h1⟩
theorem jx_catm (st : List Value) : ((st.map (jx_v ρ)).map fun v => v.category).sum = (st.map fun v => v.category).sum := by
  rw [List.map_map]
  congr 1
  apply List.map_congr_left
  intro v _
  exact jx_cat ρ v
/-- what a method is for its callers: its words are in the list, its class and number of parameters -/
def jx_ok (k : Nat) (C : String) (n : Nat) : Prop := Cond.code (jx_y k) (jx_b k) (jx_nL k) (jx_ret k) ∈ jx_gw ∧ Cond.initialized C ∈ jx_gw ∧ ((jx_y k).cls = C ∧ (jx_y k).cls ≠ "java/lang/invoke/MethodHandle" ∧ (jx_y k).cls ≠ "java/lang/invoke/VarHandle" ∧ (parseMethodDescriptor (jx_y k).desc).map (fun q => q.parameters.length) = some n) ∧ jx_nL k ≤ 21
/-- the link from class own at index idx to method k', plain or as a nest mate's -/
def jx_ln (own : String) (idx k' : Nat) : Prop := Cond.methodLink own idx (jx_y k') ∈ jx_gw ∨ ∃ host, Cond.methodLinkNest own idx (jx_y k') host ∈ jx_nw
section CALLS
variable {p : Program} {e : Env} {R : Room} {s : State} {m : MethodId} {args : Array Value} {below : List Frame} {meth : Method} {c : Code} {H : Heap} {locs : List Loc} {cells slots : Nat} {QW : State → Prop} {pc : Nat} {ls : Array Slot} {σ : jx_St} {K : Option Value → jx_St → Prop} {k' n idx : Nat} {as rest : List Value}
theorem jx_callV {q ci : Nat} {fs : List (Option (Option Nat))} {C : String} {T : u_T} {N : Nat} (X : jx_X D cA ρ Λ A tb (d + 1) k p R s m args c cells slots) (htb : ∀ p n f, jx_tb0 p = some (n, f) → tb p = some (n, f)) (hP : va_P D jx_cl (jx_W ρ cA Λ σ) H) (hS : va_S A s.heap H locs) (hsz : ls.size = jx_nL k)
    (hok : jx_ok k' C n) (hln : jx_ln (jx_y k).cls idx k') (hin : Cond.instanceMethod (jx_y k') ∈ jx_gw) (hse : Cond.selects C (jx_y k') (jx_y k') ∈ jx_gw) (hcl : jx_cl[ci]? = some (C, T, N)) (hdg : decode (jx_b k) pc = .ok (.invokevirtual idx, 3))
    (hΛ : Λ[q]? = some (.inl (ci, fs))) (hn : as.length = n) (hrest : (rest.map fun v => v.category).sum ≤ 8) (hC : jx_C l D cA ρ Λ d k' (.ref q :: as) σ K)
    (kk : ∀ (r : Option Value) (σ : jx_St) (H1 : Heap) (locs1 : List Loc), K r σ → va_P D jx_cl (jx_W ρ cA Λ σ) H1 → va_S A s.heap H1 locs1 → W p l e R s m args below meth c H1 locs1 cells slots QW (F0 m (pc + 3) ls ((r.toList ++ rest).map (jx_v ρ)))) :
    W p l e R s m args below meth c H locs cells slots QW (F0 m pc ls ((as.reverse ++ .ref q :: rest).map (jx_v ρ))) := by
  obtain ⟨hx, hb, hml, hown, hts, ⟨r1, r2, r3, r4⟩, hK, hA0⟩ := X
  have hA : ∀ q, jx_A ρ Λ q → A q := fun q z => by obtain ⟨i, hi, e⟩ := z; rw [e]; exact hA0 i hi
  obtain ⟨hcw, hiw, ⟨hyC, hy1, hy2, hnp⟩, hmx⟩ := hok
  have hG : GoodIn jx_gw (jx_ws k') := jx_G hcw
  have hw := hts
  have hini : (Cond.initialized (jx_y k').cls).before args s = true := by rw [hyC]; exact hw _ hiw
  have hR : (jx_rm d).frames + 1 ≤ R.frames ∧ 8 + (jx_nL k' + 11) + (jx_rm d).locals ≤ R.locals := ⟨r1, by show 8 + (jx_nL k' + 11) + 40 * d ≤ _; omega⟩
  have hpre : PreV s H C (ρ q) (va_Pc ((Value.ref q :: as).map (jx_v ρ)) (fun U => va_P D jx_cl (jx_W ρ cA Λ σ) U.heap ∧ jx_K D cA ρ Λ (jx_A ρ Λ) jx_tb0 U)) (as.map (jx_v ρ)) :=
    ⟨jx_blind, va_recv hK.1 hP hcl (jx_Wat hΛ), fun U hU hW => ⟨rfl, by rw [hU]; exact hP, jx_K_sub (jx_K_at hK hS hU hW) hA htb⟩⟩
  have hst : (F0 m pc ls ((as.reverse ++ .ref q :: rest).map (jx_v ρ))).stack = (as.map (jx_v ρ)).reverse ++ .ref (ρ q) :: rest.map (jx_v ρ) := by
    show (as.reverse ++ .ref q :: rest).map (jx_v ρ) = _
    rw [List.map_append, List.map_reverse]
    rfl
  refine jx_aft (rest := rest.map (jx_v ρ)) (K := K) (a := (Value.ref (ρ q) :: as.map (jx_v ρ)).toArray) ?_ hS hA (fun r σ H1 locs1 hq hP1 hS1 => by rw [jx_rs]; exact kk r σ H1 locs1 hq hP1 hS1)
  rcases hln with hl | ⟨host, hl⟩
  · exact va_runV (As := as.map (jx_v ρ)) (rest := rest.map (jx_v ρ)) ⟨hx, hb, hml, hown, hts⟩ hC ⟨callB_of n hts hG rfl rfl rfl hini (hw _ hl) ⟨hy1, hy2, hnp⟩ hR, hw _ hin, hw _ hse⟩ hpre rfl (by rw [List.length_map]; exact hn) hsz hst (lv_room (by rw [jx_catm]; exact hrest)) hdg ⟨r3, r4⟩
  · exact va_runVN (As := as.map (jx_v ρ)) (rest := rest.map (jx_v ρ)) ⟨hx, hb, hml, hown, hts⟩ hC ⟨va_cnB n hts hG rfl rfl rfl (hK.2.2.2 _ hl) hini ⟨hy1, hy2, hnp⟩ hR, hw _ hin, hw _ hse⟩ hpre rfl (by rw [List.length_map]; exact hn) hsz hst (lv_room (by rw [jx_catm]; exact hrest)) hdg ⟨r3, r4⟩
theorem jx_callS {C : String} (X : jx_X D cA ρ Λ A tb (d + 1) k p R s m args c cells slots) (htb : ∀ p n f, jx_tb0 p = some (n, f) → tb p = some (n, f)) (hP : va_P D jx_cl (jx_W ρ cA Λ σ) H) (hS : va_S A s.heap H locs) (hsz : ls.size = jx_nL k)
    (hok : jx_ok k' C n) (hln : jx_ln (jx_y k).cls idx k') (hst0 : Cond.static (jx_y k') ∈ jx_gw) (hdg : decode (jx_b k) pc = .ok (.invokestatic idx, 3))
    (hn : as.length = n) (hrest : (rest.map fun v => v.category).sum ≤ 8) (hC : jx_C l D cA ρ Λ d k' as σ K)
    (kk : ∀ (r : Option Value) (σ : jx_St) (H1 : Heap) (locs1 : List Loc), K r σ → va_P D jx_cl (jx_W ρ cA Λ σ) H1 → va_S A s.heap H1 locs1 → W p l e R s m args below meth c H1 locs1 cells slots QW (F0 m (pc + 3) ls ((r.toList ++ rest).map (jx_v ρ)))) :
    W p l e R s m args below meth c H locs cells slots QW (F0 m pc ls ((as.reverse ++ rest).map (jx_v ρ))) := by
  obtain ⟨hx, hb, hml, hown, hts, ⟨r1, r2, r3, r4⟩, hK, hA0⟩ := X
  have hA : ∀ q, jx_A ρ Λ q → A q := fun q z => by obtain ⟨i, hi, e⟩ := z; rw [e]; exact hA0 i hi
  obtain ⟨hcw, hiw, ⟨hyC, hy1, hy2, hnp⟩, hmx⟩ := hok
  have hG : GoodIn jx_gw (jx_ws k') := jx_G hcw
  have hw := hts
  have hini : (Cond.initialized (jx_y k').cls).before args s = true := by rw [hyC]; exact hw _ hiw
  have hR : (jx_rm d).frames + 1 ≤ R.frames ∧ 8 + (jx_nL k' + 11) + (jx_rm d).locals ≤ R.locals := ⟨r1, by show 8 + (jx_nL k' + 11) + 40 * d ≤ _; omega⟩
  have hpre : PreS s H (va_Pc (as.map (jx_v ρ)) (fun U => va_P D jx_cl (jx_W ρ cA Λ σ) U.heap ∧ jx_K D cA ρ Λ (jx_A ρ Λ) jx_tb0 U)) (as.map (jx_v ρ)) :=
    ⟨jx_blind, fun U hU hW => ⟨rfl, by rw [hU]; exact hP, jx_K_sub (jx_K_at hK hS hU hW) hA htb⟩⟩
  have hst : (F0 m pc ls ((as.reverse ++ rest).map (jx_v ρ))).stack = (as.map (jx_v ρ)).reverse ++ rest.map (jx_v ρ) := by
    show (as.reverse ++ rest).map (jx_v ρ) = _
    rw [List.map_append, List.map_reverse]
  refine jx_aft (rest := rest.map (jx_v ρ)) (K := K) (a := (as.map (jx_v ρ)).toArray) ?_ hS hA (fun r σ H1 locs1 hq hP1 hS1 => by rw [jx_rs]; exact kk r σ H1 locs1 hq hP1 hS1)
  rcases hln with hl | ⟨host, hl⟩
  · exact va_runS (As := as.map (jx_v ρ)) (rest := rest.map (jx_v ρ)) ⟨hx, hb, hml, hown, hts⟩ hC ⟨callB_of n hts hG rfl rfl rfl hini (hw _ hl) ⟨hy1, hy2, hnp⟩ hR, hw _ hst0⟩ hpre rfl (by rw [List.length_map]; exact hn) hsz hst (lv_room (by rw [jx_catm]; exact hrest)) hdg ⟨r3, r4⟩
  · exact va_runSN (As := as.map (jx_v ρ)) (rest := rest.map (jx_v ρ)) ⟨hx, hb, hml, hown, hts⟩ hC ⟨va_cnB n hts hG rfl rfl rfl (hK.2.2.2 _ hl) hini ⟨hy1, hy2, hnp⟩ hR, hw _ hst0, trivial⟩ hpre rfl (by rw [List.length_map]; exact hn) hsz hst (lv_room (by rw [jx_catm]; exact hrest)) hdg ⟨r3, r4⟩
end CALLS
end JXJ

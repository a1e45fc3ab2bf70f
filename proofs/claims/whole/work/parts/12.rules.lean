/-! One step of a method as a condition on what comes next; each is sound for the walk -/
abbrev jx_Nx : Type := Nat → jx_Lv → List Value → jx_St → Prop
abbrev jx_Cl : Type := Nat → List Value → jx_St → (Option Value → jx_St → Prop) → Prop
abbrev jx_Sp : Type := List jx_Lc → jx_Tb → jx_Nx → jx_Cl → (Option Value → jx_St → Prop) → Nat → jx_Lv → List Value → jx_St → Prop
def js_none : jx_Sp := fun _ _ _ _ _ _ _ _ _ => False
/-- soundness of a step at a pc of method k -/
def jx_Snd (k pc : Nat) (sp : jx_Sp) : Prop := ∀ (l : Launch) (D : va_G) (cA : ClassId) (ρ : Nat → Nat) (Λ : List jx_Lc) (A : Nat → Prop) (tb : jx_Tb) (d : Nat) (Q : Option Value → jx_St → Prop) (p : Program) (e : Env) (R : Room) (s : State) (m : MethodId) (args : Array Value) (below : List Frame) (meth : Method) (c : Code) (cells slots : Nat) (QW : State → Prop),
  jx_X D cA ρ Λ A tb (d + 1) k p R s m args c cells slots → jx_R l D cA ρ Λ A k p e R s m args below meth c cells slots QW Q → ∀ (nx : jx_Nx) (cl : jx_Cl) (lv : jx_Lv) (st : List Value) (σ : jx_St),
  (∀ p n f, jx_tb0 p = some (n, f) → tb p = some (n, f)) → (∀ pc' lv' st' σ', nx pc' lv' st' σ' → jx_I l D cA ρ Λ A k p e R s m args below meth c cells slots QW pc' lv' st' σ') → (∀ k' as σ K, cl k' as σ K → jx_C l D cA ρ Λ d k' as σ K) →
  sp Λ tb nx cl Q pc lv st σ → jx_I l D cA ρ Λ A k p e R s m args below meth c cells slots QW pc lv st σ
theorem jo_none (k pc : Nat) : jx_Snd k pc js_none := by
  intro l D cA ρ Λ A tb d Q p e R s m args below meth c cells slots QW X hret nx cl lv st σ htb hn hcl0 h
  exact False.elim h
theorem jo_le {k pc n : Nat} {a b : jx_Sp} (ha : jx_Snd k pc a) (hb : jx_Snd k pc b) : jx_Snd k pc (bif Nat.ble pc n then a else b) := by
  cases Nat.ble pc n
  · exact hb
  · exact ha
theorem jo_at {k pc n : Nat} {a : jx_Sp} (ha : jx_Snd k n a) : jx_Snd k pc (bif Nat.beq pc n then a else js_none) := by
  cases h : Nat.beq pc n with
  | false => exact jo_none k pc
  | true =>
    have e := Nat.eq_of_beq_eq_true h
    subst e
    exact ha
def jx_So (k : Nat) (tab : Nat → jx_Sp) : Prop := ∀ pc, jx_Snd k pc (tab pc)
def jx_mem : List Nat → Nat → Bool
  | [], _ => false
  | a :: t, x => bif Nat.beq a x then true else jx_mem t x
noncomputable def jx_rn (Λ : List jx_Lc) (tb : jx_Tb) (tab : Nat → jx_Sp) (cl : jx_Cl) (rt : Option Value → jx_St → Prop) (ex : jx_Nx) (stops : List Nat) (n : Nat) : jx_Nx :=
  Nat.rec (motive := fun _ => jx_Nx) ex (fun _ ih => fun pc lv st σ => bif jx_mem stops pc then ex pc lv st σ else tab pc Λ tb ih cl rt pc lv st σ) n
section JXR
variable {l : Launch} {D : va_G} {cA : ClassId} {ρ : Nat → Nat} {Λ : List jx_Lc} {A : Nat → Prop} {tb : jx_Tb} {d k : Nat} {Q : Option Value → jx_St → Prop}
theorem jx_sJ {pc : Nat} {sp : jx_Sp} (hs : jx_Snd k pc sp) (htb : ∀ p n f, jx_tb0 p = some (n, f) → tb p = some (n, f)) {nx : jx_Nx} {lv : jx_Lv} {st : List Value} {σ : jx_St} (hn : ∀ pc lv st σ, nx pc lv st σ → jx_J l D cA ρ Λ A tb (d + 1) k Q pc lv st σ)
    (h : sp Λ tb nx (fun k' as σ K => jx_C l D cA ρ Λ d k' as σ K) Q pc lv st σ) : jx_J l D cA ρ Λ A tb (d + 1) k Q pc lv st σ := by
  intro p e R s m args below meth c cells slots QW X hret
  exact hs l D cA ρ Λ A tb d Q p e R s m args below meth c cells slots QW X hret nx _ lv st σ htb (fun pc' lv' st' σ' q => hn pc' lv' st' σ' q p e R s m args below meth c cells slots QW X hret) (fun _ _ _ _ z => z) h
theorem jx_rnJ {tab : Nat → jx_Sp} (hs : jx_So k tab) (htb : ∀ p n f, jx_tb0 p = some (n, f) → tb p = some (n, f)) (stops : List Nat) (ex : jx_Nx) (hex : ∀ pc lv st σ, ex pc lv st σ → jx_J l D cA ρ Λ A tb (d + 1) k Q pc lv st σ) : ∀ (n pc : Nat) (lv : jx_Lv) (st : List Value) (σ : jx_St),
    jx_rn Λ tb tab (fun k' as σ K => jx_C l D cA ρ Λ d k' as σ K) Q ex stops n pc lv st σ → jx_J l D cA ρ Λ A tb (d + 1) k Q pc lv st σ
  | 0, pc, lv, st, σ, h => hex pc lv st σ h
  | n + 1, pc, lv, st, σ, h => by
    have h : (bif jx_mem stops pc then ex pc lv st σ else tab pc Λ tb (jx_rn Λ tb tab (fun k' as σ K => jx_C l D cA ρ Λ d k' as σ K) Q ex stops n) (fun k' as σ K => jx_C l D cA ρ Λ d k' as σ K) Q pc lv st σ) := h
    cases hm : jx_mem stops pc with
    | true =>
      rw [hm] at h
      exact hex pc lv st σ h
    | false =>
      rw [hm] at h
      exact jx_sJ (hs pc) htb (jx_rnJ hs htb stops ex hex n) h
/-- a stretch of at most n + 1 steps, up to one of the stops -/
theorem jx_go {tab : Nat → jx_Sp} (hs : jx_So k tab) (htb : ∀ p n f, jx_tb0 p = some (n, f) → tb p = some (n, f)) (n : Nat) (stops : List Nat) {pc : Nat} {lv : jx_Lv} {st : List Value} {σ : jx_St}
    (h : tab pc Λ tb (jx_rn Λ tb tab (fun k' as σ K => jx_C l D cA ρ Λ d k' as σ K) Q (jx_J l D cA ρ Λ A tb (d + 1) k Q) stops n) (fun k' as σ K => jx_C l D cA ρ Λ d k' as σ K) Q pc lv st σ) : jx_J l D cA ρ Λ A tb (d + 1) k Q pc lv st σ :=
  jx_sJ (hs pc) htb (jx_rnJ hs htb stops _ (fun _ _ _ _ h => h) n) h
theorem jx_in {tab : Nat → jx_Sp} (hs : jx_So k tab) (n : Nat) (stops : List Nat) {as : List Value} {σ : jx_St} (hp : plainName (jx_y k).cls = true) (hn : (lg_sl as).length ≤ jx_nL k)
    (h : tab 0 Λ jx_tb0 (jx_rn Λ jx_tb0 tab (fun k' as σ K => jx_C l D cA ρ Λ d k' as σ K) Q (jx_J l D cA ρ Λ (jx_A ρ Λ) jx_tb0 (d + 1) k Q) stops n) (fun k' as σ K => jx_C l D cA ρ Λ d k' as σ K) Q 0 (lv_args 0 as) [] σ) : jx_C l D cA ρ Λ (d + 1) k as σ Q :=
  jx_of hp hn (jx_go hs (fun _ _ _ h => h) n stops h)
end JXR
section RULES
variable {k pc : Nat}
def js_c (v : Int32) (n : Nat) : jx_Sp := fun _ _ nx _ _ pc lv st σ => nx (pc + n) lv (.int v :: st) σ
theorem jo_iconst {z : Int} {v : Int32} (hd : decode (jx_b k) pc = .ok (.iconst z, 1)) (hv : Int32.ofInt z = v) : jx_Snd k pc (js_c v 1) := by
  intro l D cA ρ Λ A tb d Q p e R s m args below meth c cells slots QW X hret nx cl lv st σ htb hn hcl0 h
  intro H locs ls hP hS hl
  exact lv_iconst X.1 X.2.1 hd hv (hn _ _ _ _ h H locs ls hP hS hl)
theorem jo_bipush {z : Int} {v : Int32} (hd : decode (jx_b k) pc = .ok (.bipush z, 2)) (hv : (Int8.ofInt z).toInt32 = v) : jx_Snd k pc (js_c v 2) := by
  intro l D cA ρ Λ A tb d Q p e R s m args below meth c cells slots QW X hret nx cl lv st σ htb hn hcl0 h
  intro H locs ls hP hS hl
  exact lv_bipush X.1 X.2.1 hd hv (hn _ _ _ _ h H locs ls hP hS hl)
theorem jo_sipush {z : Int} {v : Int32} (hd : decode (jx_b k) pc = .ok (.sipush z, 3)) (hv : (Int16.ofInt z).toInt32 = v) : jx_Snd k pc (js_c v 3) := by
  intro l D cA ρ Λ A tb d Q p e R s m args below meth c cells slots QW X hret nx cl lv st σ htb hn hcl0 h
  intro H locs ls hP hS hl
  exact lv_sipush X.1 X.2.1 hd hv (hn _ _ _ _ h H locs ls hP hS hl)
theorem jo_ldc {own : String} {ix : Nat} {v : Int32} (ho : (jx_y k).cls = own) (hc : Cond.constant own ix v ∈ jx_gw) (hd : decode (jx_b k) pc = .ok (.ldc ix, 2)) : jx_Snd k pc (js_c v 2) := by
  intro l D cA ρ Λ A tb d Q p e R s m args below meth c cells slots QW X hret nx cl lv st σ htb hn hcl0 h
  intro H locs ls hP hS hl
  subst ho
  exact lv_ldc X.1 X.2.1 X.2.2.2.1 (X.2.2.2.2.1 _ hc) hd (hn _ _ _ _ h H locs ls hP hS hl)
def js_cl (v : Int64) (n : Nat) : jx_Sp := fun _ _ nx _ _ pc lv st σ => nx (pc + n) lv (.long v :: st) σ
theorem jo_lconst {z : Fin 2} {v : Int64} (hd : decode (jx_b k) pc = .ok (.lconst z, 1)) (hv : Int64.ofNat (z : Nat) = v) : jx_Snd k pc (js_cl v 1) := by
  intro l D cA ρ Λ A tb d Q p e R s m args below meth c cells slots QW X hret nx cl lv st σ htb hn hcl0 h
  intro H locs ls hP hS hl
  exact lv_lconst X.1 X.2.1 hd hv (hn _ _ _ _ h H locs ls hP hS hl)
theorem jo_ldc2 {own : String} {ix : Nat} {v : Int64} (ho : (jx_y k).cls = own) (hc : Cond.constantLong own ix v ∈ jx_gw) (hd : decode (jx_b k) pc = .ok (.ldc2_w ix, 3)) : jx_Snd k pc (js_cl v 3) := by
  intro l D cA ρ Λ A tb d Q p e R s m args below meth c cells slots QW X hret nx cl lv st σ htb hn hcl0 h
  intro H locs ls hP hS hl
  subst ho
  exact lv_ldc2 X.1 X.2.1 X.2.2.2.1 (X.2.2.2.2.1 _ hc) hd (hn _ _ _ _ h H locs ls hP hS hl)
def js_il (i n : Nat) : jx_Sp := fun _ _ nx _ _ pc lv st σ => match jx_lk lv i with
  | some (.int x) => nx (pc + n) lv (.int x :: st) σ
  | _ => False
theorem jo_iload_n {i : Nat} {w : Fin 4} (hw : (w : Nat) = i) (hd : decode (jx_b k) pc = .ok (.iload_n w, 1)) : jx_Snd k pc (js_il i 1) := by
  intro l D cA ρ Λ A tb d Q p e R s m args below meth c cells slots QW X hret nx cl lv st σ htb hn hcl0 h
  unfold js_il at h
  split at h
  · rename_i x hx
    intro H locs ls hP hS hl
    exact lv_iload_n X.1 X.2.1 hd hw (jx_lka hl hx) (hn _ _ _ _ h H locs ls hP hS hl)
  · exact False.elim h
theorem jo_iload {i : Nat} (hd : decode (jx_b k) pc = .ok (.iload i, 2)) : jx_Snd k pc (js_il i 2) := by
  intro l D cA ρ Λ A tb d Q p e R s m args below meth c cells slots QW X hret nx cl lv st σ htb hn hcl0 h
  unfold js_il at h
  split at h
  · rename_i x hx
    intro H locs ls hP hS hl
    exact lv_iload X.1 X.2.1 hd (jx_lka hl hx) (hn _ _ _ _ h H locs ls hP hS hl)
  · exact False.elim h
def js_ll (i n : Nat) : jx_Sp := fun _ _ nx _ _ pc lv st σ => match jx_lk lv i with
  | some (.long x) => nx (pc + n) lv (.long x :: st) σ
  | _ => False
theorem jo_lload_n {i : Nat} {w : Fin 4} (hw : (w : Nat) = i) (hd : decode (jx_b k) pc = .ok (.lload_n w, 1)) : jx_Snd k pc (js_ll i 1) := by
  intro l D cA ρ Λ A tb d Q p e R s m args below meth c cells slots QW X hret nx cl lv st σ htb hn hcl0 h
  unfold js_ll at h
  split at h
  · rename_i x hx
    intro H locs ls hP hS hl
    exact lv_lload_n X.1 X.2.1 hd hw (jx_lka hl hx) (hn _ _ _ _ h H locs ls hP hS hl)
  · exact False.elim h
theorem jo_lload {i : Nat} (hd : decode (jx_b k) pc = .ok (.lload i, 2)) : jx_Snd k pc (js_ll i 2) := by
  intro l D cA ρ Λ A tb d Q p e R s m args below meth c cells slots QW X hret nx cl lv st σ htb hn hcl0 h
  unfold js_ll at h
  split at h
  · rename_i x hx
    intro H locs ls hP hS hl
    exact lv_lload X.1 X.2.1 hd (jx_lka hl hx) (hn _ _ _ _ h H locs ls hP hS hl)
  · exact False.elim h
def js_al (i n : Nat) : jx_Sp := fun _ _ nx _ _ pc lv st σ => match jx_lk lv i with
  | some (.ref x) => nx (pc + n) lv (.ref x :: st) σ
  | _ => False
theorem jo_aload_n {i : Nat} {w : Fin 4} (hw : (w : Nat) = i) (hd : decode (jx_b k) pc = .ok (.aload_n w, 1)) : jx_Snd k pc (js_al i 1) := by
  intro l D cA ρ Λ A tb d Q p e R s m args below meth c cells slots QW X hret nx cl lv st σ htb hn hcl0 h
  unfold js_al at h
  split at h
  · rename_i x hx
    intro H locs ls hP hS hl
    exact lv_aload_n X.1 X.2.1 hd hw (jx_lka hl hx) (hn _ _ _ _ h H locs ls hP hS hl)
  · exact False.elim h
theorem jo_aload {i : Nat} (hd : decode (jx_b k) pc = .ok (.aload i, 2)) : jx_Snd k pc (js_al i 2) := by
  intro l D cA ρ Λ A tb d Q p e R s m args below meth c cells slots QW X hret nx cl lv st σ htb hn hcl0 h
  unfold js_al at h
  split at h
  · rename_i x hx
    intro H locs ls hP hS hl
    exact lv_aload X.1 X.2.1 hd (jx_lka hl hx) (hn _ _ _ _ h H locs ls hP hS hl)
  · exact False.elim h
def jx_lg : Value → Bool
  | .long _ => true
  | .double _ => true
  | _ => false
theorem jx_lgc (v : Value) : jx_lg v = (v.category == 2) := by cases v <;> rfl
/-- the locals without those that a store at i takes away, handed on as a list in plain form -/
def jx_r1 : jx_Lv → Nat → (jx_Lv → Prop) → Prop
  | [], _, k => k []
  | q :: t, i, k => bif Nat.beq q.1 i then jx_r1 t i k else bif Nat.beq (q.1 + 1) i && jx_lg q.2 then jx_r1 t i k else jx_r1 t i (fun t' => k (q :: t'))
def jx_r2 : jx_Lv → Nat → (jx_Lv → Prop) → Prop
  | [], _, k => k []
  | q :: t, i, k => bif Nat.beq q.1 i then jx_r2 t i k else bif Nat.beq q.1 (i + 1) then jx_r2 t i k else bif Nat.beq (q.1 + 1) i && jx_lg q.2 then jx_r2 t i k else jx_r2 t i (fun t' => k (q :: t'))
theorem jx_beq (a b : Nat) : Nat.beq a b = (a == b) := by
  by_cases h : a = b
  · subst h; simp
  · rw [jx_bne h]; simp [h]
theorem jx_r1e : ∀ (lv : jx_Lv) (i : Nat) (k : jx_Lv → Prop), jx_r1 lv i k = k (jx_f1 i lv)
  | [], _, _ => rfl
  | q :: t, i, k => by
    unfold jx_r1
    rw [jx_r1e t i, jx_r1e t i, jx_beq, jx_beq, jx_lgc]
    unfold jx_f1
    rw [List.filter_cons]
    cases h1 : q.1 == i <;> cases h2 : q.1 + 1 == i <;> cases h3 : q.2.category == 2 <;> rfl
theorem jx_r2e : ∀ (lv : jx_Lv) (i : Nat) (k : jx_Lv → Prop), jx_r2 lv i k = k (jx_f2 i lv)
  | [], _, _ => rfl
  | q :: t, i, k => by
    unfold jx_r2
    rw [jx_r2e t i, jx_r2e t i, jx_beq, jx_beq, jx_beq, jx_lgc]
    unfold jx_f2
    rw [List.filter_cons]
    cases h1 : q.1 == i <;> cases h4 : q.1 == i + 1 <;> cases h2 : q.1 + 1 == i <;> cases h3 : q.2.category == 2 <;> rfl
def js_is (i n : Nat) : jx_Sp := fun _ _ nx _ _ pc lv st σ => match st with
  | .int x :: rest => jx_r1 lv i (fun lv' => nx (pc + n) ((i, .int x) :: lv') rest σ)
  | _ => False
theorem jo_istore_n {i : Nat} {w : Fin 4} (hw : (w : Nat) = i) (hi : i < jx_nL k) (hd : decode (jx_b k) pc = .ok (.istore_n w, 1)) : jx_Snd k pc (js_is i 1) := by
  intro l D cA ρ Λ A tb d Q p e R s m args below meth c cells slots QW X hret nx cl lv st σ htb hn hcl0 h
  unfold js_is at h
  split at h
  · rename_i x rest
    rw [jx_r1e] at h
    intro H locs ls hP hS hl
    exact lv_istore_n (lv' := (((i, Value.int x) :: jx_f1 i lv).map (jx_q ρ))) X.1 X.2.1 hd hw hl hi (by rw [jx_f1m]; rfl) (fun ls' hl' => (hn _ _ _ _ h H locs ls' hP hS hl'))
  · exact False.elim h
theorem jo_istore {i : Nat} (hi : i < jx_nL k) (hd : decode (jx_b k) pc = .ok (.istore i, 2)) : jx_Snd k pc (js_is i 2) := by
  intro l D cA ρ Λ A tb d Q p e R s m args below meth c cells slots QW X hret nx cl lv st σ htb hn hcl0 h
  unfold js_is at h
  split at h
  · rename_i x rest
    rw [jx_r1e] at h
    intro H locs ls hP hS hl
    exact lv_istore (lv' := (((i, Value.int x) :: jx_f1 i lv).map (jx_q ρ))) X.1 X.2.1 hd hl hi (by rw [jx_f1m]; rfl) (fun ls' hl' => (hn _ _ _ _ h H locs ls' hP hS hl'))
  · exact False.elim h
def js_ls (i n : Nat) : jx_Sp := fun _ _ nx _ _ pc lv st σ => match st with
  | .long x :: rest => jx_r2 lv i (fun lv' => nx (pc + n) ((i, .long x) :: lv') rest σ)
  | _ => False
theorem jo_lstore_n {i : Nat} {w : Fin 4} (hw : (w : Nat) = i) (hi : i + 1 < jx_nL k) (hd : decode (jx_b k) pc = .ok (.lstore_n w, 1)) : jx_Snd k pc (js_ls i 1) := by
  intro l D cA ρ Λ A tb d Q p e R s m args below meth c cells slots QW X hret nx cl lv st σ htb hn hcl0 h
  unfold js_ls at h
  split at h
  · rename_i x rest
    rw [jx_r2e] at h
    intro H locs ls hP hS hl
    exact lv_lstore_n (lv' := (((i, Value.long x) :: jx_f2 i lv).map (jx_q ρ))) X.1 X.2.1 hd hw hl hi (by rw [jx_f2m]; rfl) (fun ls' hl' => (hn _ _ _ _ h H locs ls' hP hS hl'))
  · exact False.elim h
theorem jo_lstore {i : Nat} (hi : i + 1 < jx_nL k) (hd : decode (jx_b k) pc = .ok (.lstore i, 2)) : jx_Snd k pc (js_ls i 2) := by
  intro l D cA ρ Λ A tb d Q p e R s m args below meth c cells slots QW X hret nx cl lv st σ htb hn hcl0 h
  unfold js_ls at h
  split at h
  · rename_i x rest
    rw [jx_r2e] at h
    intro H locs ls hP hS hl
    exact lv_lstore (lv' := (((i, Value.long x) :: jx_f2 i lv).map (jx_q ρ))) X.1 X.2.1 hd hl hi (by rw [jx_f2m]; rfl) (fun ls' hl' => (hn _ _ _ _ h H locs ls' hP hS hl'))
  · exact False.elim h
def js_as (i n : Nat) : jx_Sp := fun _ _ nx _ _ pc lv st σ => match st with
  | .ref x :: rest => jx_r1 lv i (fun lv' => nx (pc + n) ((i, .ref x) :: lv') rest σ)
  | _ => False
theorem jo_astore_n {i : Nat} {w : Fin 4} (hw : (w : Nat) = i) (hi : i < jx_nL k) (hd : decode (jx_b k) pc = .ok (.astore_n w, 1)) : jx_Snd k pc (js_as i 1) := by
  intro l D cA ρ Λ A tb d Q p e R s m args below meth c cells slots QW X hret nx cl lv st σ htb hn hcl0 h
  unfold js_as at h
  split at h
  · rename_i x rest
    rw [jx_r1e] at h
    intro H locs ls hP hS hl
    exact lv_astore_n (lv' := (((i, Value.ref x) :: jx_f1 i lv).map (jx_q ρ))) X.1 X.2.1 hd hw hl hi (by rw [jx_f1m]; rfl) (fun ls' hl' => (hn _ _ _ _ h H locs ls' hP hS hl'))
  · exact False.elim h
theorem jo_astore {i : Nat} (hi : i < jx_nL k) (hd : decode (jx_b k) pc = .ok (.astore i, 2)) : jx_Snd k pc (js_as i 2) := by
  intro l D cA ρ Λ A tb d Q p e R s m args below meth c cells slots QW X hret nx cl lv st σ htb hn hcl0 h
  unfold js_as at h
  split at h
  · rename_i x rest
    rw [jx_r1e] at h
    intro H locs ls hP hS hl
    exact lv_astore (lv' := (((i, Value.ref x) :: jx_f1 i lv).map (jx_q ρ))) X.1 X.2.1 hd hl hi (by rw [jx_f1m]; rfl) (fun ls' hl' => (hn _ _ _ _ h H locs ls' hP hS hl'))
  · exact False.elim h
def js_inc (i : Nat) (z : Int32) : jx_Sp := fun _ _ nx _ _ pc lv st σ => match jx_lk lv i with
  | some (.int x) => jx_r1 lv i (fun lv' => nx (pc + 3) ((i, .int (x + z)) :: lv') st σ)
  | _ => False
theorem jo_iinc {i : Nat} {w : Int} {z : Int32} (hz : Int32.ofInt w = z) (hi : i < jx_nL k) (hd : decode (jx_b k) pc = .ok (.iinc i w, 3)) : jx_Snd k pc (js_inc i z) := by
  intro l D cA ρ Λ A tb d Q p e R s m args below meth c cells slots QW X hret nx cl lv st σ htb hn hcl0 h
  unfold js_inc at h
  split at h
  · rename_i x hx
    rw [jx_r1e] at h
    intro H locs ls hP hS hl
    obtain ⟨j, hj⟩ := jx_lkk (ρ := ρ) hx
    exact lv_iinc (lv' := (((i, Value.int (x + z)) :: jx_f1 i lv).map (jx_q ρ))) X.1 X.2.1 hd hl hj (by rw [hz]) hi (by rw [jx_f1m]; rfl) (fun ls' hl' => (hn _ _ _ _ h H locs ls' hP hS hl'))
  · exact False.elim h
def js_iadd : jx_Sp := fun _ _ nx _ _ pc lv st σ => match st with
  | .int y :: .int x :: rest => nx (pc + 1) lv (.int (x + y) :: rest) σ
  | _ => False
theorem jo_iadd (hd : decode (jx_b k) pc = .ok (.iadd, 1)) : jx_Snd k pc js_iadd := by
  intro l D cA ρ Λ A tb d Q p e R s m args below meth c cells slots QW X hret nx cl lv st σ htb hn hcl0 h
  unfold js_iadd at h
  split at h
  · intro H locs ls hP hS hl
    exact lv_iadd X.1 X.2.1 hd (hn _ _ _ _ h H locs ls hP hS hl)
  · exact False.elim h
def js_isub : jx_Sp := fun _ _ nx _ _ pc lv st σ => match st with
  | .int y :: .int x :: rest => nx (pc + 1) lv (.int (x - y) :: rest) σ
  | _ => False
theorem jo_isub (hd : decode (jx_b k) pc = .ok (.isub, 1)) : jx_Snd k pc js_isub := by
  intro l D cA ρ Λ A tb d Q p e R s m args below meth c cells slots QW X hret nx cl lv st σ htb hn hcl0 h
  unfold js_isub at h
  split at h
  · intro H locs ls hP hS hl
    exact lv_isub X.1 X.2.1 hd (hn _ _ _ _ h H locs ls hP hS hl)
  · exact False.elim h
def js_imul : jx_Sp := fun _ _ nx _ _ pc lv st σ => match st with
  | .int y :: .int x :: rest => nx (pc + 1) lv (.int (x * y) :: rest) σ
  | _ => False
theorem jo_imul (hd : decode (jx_b k) pc = .ok (.imul, 1)) : jx_Snd k pc js_imul := by
  intro l D cA ρ Λ A tb d Q p e R s m args below meth c cells slots QW X hret nx cl lv st σ htb hn hcl0 h
  unfold js_imul at h
  split at h
  · intro H locs ls hP hS hl
    exact lv_imul X.1 X.2.1 hd (hn _ _ _ _ h H locs ls hP hS hl)
  · exact False.elim h
def js_iand : jx_Sp := fun _ _ nx _ _ pc lv st σ => match st with
  | .int y :: .int x :: rest => nx (pc + 1) lv (.int (x &&& y) :: rest) σ
  | _ => False
theorem jo_iand (hd : decode (jx_b k) pc = .ok (.iand, 1)) : jx_Snd k pc js_iand := by
  intro l D cA ρ Λ A tb d Q p e R s m args below meth c cells slots QW X hret nx cl lv st σ htb hn hcl0 h
  unfold js_iand at h
  split at h
  · intro H locs ls hP hS hl
    exact lv_iand X.1 X.2.1 hd (hn _ _ _ _ h H locs ls hP hS hl)
  · exact False.elim h
def js_idiv : jx_Sp := fun _ _ nx _ _ pc lv st σ => match st with
  | .int y :: .int x :: rest => ¬ y = 0 ∧ nx (pc + 1) lv (.int (x / y) :: rest) σ
  | _ => False
theorem jo_idiv (hd : decode (jx_b k) pc = .ok (.idiv, 1)) : jx_Snd k pc js_idiv := by
  intro l D cA ρ Λ A tb d Q p e R s m args below meth c cells slots QW X hret nx cl lv st σ htb hn hcl0 h
  unfold js_idiv at h
  split at h
  · intro H locs ls hP hS hl
    exact lv_idiv X.1 X.2.1 hd h.1 (hn _ _ _ _ h.2 H locs ls hP hS hl)
  · exact False.elim h
def js_irem : jx_Sp := fun _ _ nx _ _ pc lv st σ => match st with
  | .int y :: .int x :: rest => ¬ y = 0 ∧ nx (pc + 1) lv (.int (x - x / y * y) :: rest) σ
  | _ => False
theorem jo_irem (hd : decode (jx_b k) pc = .ok (.irem, 1)) : jx_Snd k pc js_irem := by
  intro l D cA ρ Λ A tb d Q p e R s m args below meth c cells slots QW X hret nx cl lv st σ htb hn hcl0 h
  unfold js_irem at h
  split at h
  · intro H locs ls hP hS hl
    exact lv_irem X.1 X.2.1 hd h.1 (hn _ _ _ _ h.2 H locs ls hP hS hl)
  · exact False.elim h
def js_ishr : jx_Sp := fun _ _ nx _ _ pc lv st σ => match st with
  | .int y :: .int x :: rest => nx (pc + 1) lv (.int (x >>> (y &&& 31)) :: rest) σ
  | _ => False
theorem jo_ishr (hd : decode (jx_b k) pc = .ok (.ishr, 1)) : jx_Snd k pc js_ishr := by
  intro l D cA ρ Λ A tb d Q p e R s m args below meth c cells slots QW X hret nx cl lv st σ htb hn hcl0 h
  unfold js_ishr at h
  split at h
  · intro H locs ls hP hS hl
    exact lv_ishr X.1 X.2.1 hd (hn _ _ _ _ h H locs ls hP hS hl)
  · exact False.elim h
def js_ladd : jx_Sp := fun _ _ nx _ _ pc lv st σ => match st with
  | .long y :: .long x :: rest => nx (pc + 1) lv (.long (x + y) :: rest) σ
  | _ => False
theorem jo_ladd (hd : decode (jx_b k) pc = .ok (.ladd, 1)) : jx_Snd k pc js_ladd := by
  intro l D cA ρ Λ A tb d Q p e R s m args below meth c cells slots QW X hret nx cl lv st σ htb hn hcl0 h
  unfold js_ladd at h
  split at h
  · intro H locs ls hP hS hl
    exact lv_ladd X.1 X.2.1 hd (hn _ _ _ _ h H locs ls hP hS hl)
  · exact False.elim h
def js_lmul : jx_Sp := fun _ _ nx _ _ pc lv st σ => match st with
  | .long y :: .long x :: rest => nx (pc + 1) lv (.long (x * y) :: rest) σ
  | _ => False
theorem jo_lmul (hd : decode (jx_b k) pc = .ok (.lmul, 1)) : jx_Snd k pc js_lmul := by
  intro l D cA ρ Λ A tb d Q p e R s m args below meth c cells slots QW X hret nx cl lv st σ htb hn hcl0 h
  unfold js_lmul at h
  split at h
  · intro H locs ls hP hS hl
    exact lv_lmul X.1 X.2.1 hd (hn _ _ _ _ h H locs ls hP hS hl)
  · exact False.elim h
def js_land : jx_Sp := fun _ _ nx _ _ pc lv st σ => match st with
  | .long y :: .long x :: rest => nx (pc + 1) lv (.long (x &&& y) :: rest) σ
  | _ => False
theorem jo_land (hd : decode (jx_b k) pc = .ok (.land, 1)) : jx_Snd k pc js_land := by
  intro l D cA ρ Λ A tb d Q p e R s m args below meth c cells slots QW X hret nx cl lv st σ htb hn hcl0 h
  unfold js_land at h
  split at h
  · intro H locs ls hP hS hl
    exact lv_land X.1 X.2.1 hd (hn _ _ _ _ h H locs ls hP hS hl)
  · exact False.elim h
def js_lor : jx_Sp := fun _ _ nx _ _ pc lv st σ => match st with
  | .long y :: .long x :: rest => nx (pc + 1) lv (.long (x ||| y) :: rest) σ
  | _ => False
theorem jo_lor (hd : decode (jx_b k) pc = .ok (.lor, 1)) : jx_Snd k pc js_lor := by
  intro l D cA ρ Λ A tb d Q p e R s m args below meth c cells slots QW X hret nx cl lv st σ htb hn hcl0 h
  unfold js_lor at h
  split at h
  · intro H locs ls hP hS hl
    exact lv_lor X.1 X.2.1 hd (hn _ _ _ _ h H locs ls hP hS hl)
  · exact False.elim h
def js_lshl : jx_Sp := fun _ _ nx _ _ pc lv st σ => match st with
  | .int y :: .long x :: rest => nx (pc + 1) lv (.long (x <<< (y.toInt64 &&& 63)) :: rest) σ
  | _ => False
theorem jo_lshl (hd : decode (jx_b k) pc = .ok (.lshl, 1)) : jx_Snd k pc js_lshl := by
  intro l D cA ρ Λ A tb d Q p e R s m args below meth c cells slots QW X hret nx cl lv st σ htb hn hcl0 h
  unfold js_lshl at h
  split at h
  · intro H locs ls hP hS hl
    exact lv_lshl X.1 X.2.1 hd rfl (hn _ _ _ _ h H locs ls hP hS hl)
  · exact False.elim h
def js_lshr : jx_Sp := fun _ _ nx _ _ pc lv st σ => match st with
  | .int y :: .long x :: rest => nx (pc + 1) lv (.long (x >>> (y.toInt64 &&& 63)) :: rest) σ
  | _ => False
theorem jo_lshr (hd : decode (jx_b k) pc = .ok (.lshr, 1)) : jx_Snd k pc js_lshr := by
  intro l D cA ρ Λ A tb d Q p e R s m args below meth c cells slots QW X hret nx cl lv st σ htb hn hcl0 h
  unfold js_lshr at h
  split at h
  · intro H locs ls hP hS hl
    exact lv_lshr X.1 X.2.1 hd rfl (hn _ _ _ _ h H locs ls hP hS hl)
  · exact False.elim h
def js_i2l : jx_Sp := fun _ _ nx _ _ pc lv st σ => match st with
  | .int x :: rest => nx (pc + 1) lv (.long (x.toInt64) :: rest) σ
  | _ => False
theorem jo_i2l (hd : decode (jx_b k) pc = .ok (.i2l, 1)) : jx_Snd k pc js_i2l := by
  intro l D cA ρ Λ A tb d Q p e R s m args below meth c cells slots QW X hret nx cl lv st σ htb hn hcl0 h
  unfold js_i2l at h
  split at h
  · intro H locs ls hP hS hl
    exact lv_i2l X.1 X.2.1 hd rfl (hn _ _ _ _ h H locs ls hP hS hl)
  · exact False.elim h
def js_l2i : jx_Sp := fun _ _ nx _ _ pc lv st σ => match st with
  | .long x :: rest => nx (pc + 1) lv (.int (x.toInt32) :: rest) σ
  | _ => False
theorem jo_l2i (hd : decode (jx_b k) pc = .ok (.l2i, 1)) : jx_Snd k pc js_l2i := by
  intro l D cA ρ Λ A tb d Q p e R s m args below meth c cells slots QW X hret nx cl lv st σ htb hn hcl0 h
  unfold js_l2i at h
  split at h
  · intro H locs ls hP hS hl
    exact lv_l2i X.1 X.2.1 hd rfl (hn _ _ _ _ h H locs ls hP hS hl)
  · exact False.elim h
def js_lcmp : jx_Sp := fun _ _ nx _ _ pc lv st σ => match st with
  | .long y :: .long x :: rest => nx (pc + 1) lv (.int (lg_cmp x y) :: rest) σ
  | _ => False
theorem jo_lcmp (hd : decode (jx_b k) pc = .ok (.lcmp, 1)) : jx_Snd k pc js_lcmp := by
  intro l D cA ρ Λ A tb d Q p e R s m args below meth c cells slots QW X hret nx cl lv st σ htb hn hcl0 h
  unfold js_lcmp at h
  split at h
  · intro H locs ls hP hS hl
    exact W.lcmp X.1 X.2.1 hd (hn _ _ _ _ h H locs ls hP hS hl)
  · exact False.elim h
def js_dup : jx_Sp := fun _ _ nx _ _ pc lv st σ => match st with
  | .int x :: rest => nx (pc + 1) lv (.int x :: .int x :: rest) σ
  | .ref x :: rest => nx (pc + 1) lv (.ref x :: .ref x :: rest) σ
  | _ => False
theorem jo_dup (hd : decode (jx_b k) pc = .ok (.dup, 1)) : jx_Snd k pc js_dup := by
  intro l D cA ρ Λ A tb d Q p e R s m args below meth c cells slots QW X hret nx cl lv st σ htb hn hcl0 h
  unfold js_dup at h
  split at h
  · intro H locs ls hP hS hl
    exact lv_dup X.1 X.2.1 hd rfl (hn _ _ _ _ h H locs ls hP hS hl)
  · intro H locs ls hP hS hl
    exact lv_dup X.1 X.2.1 hd rfl (hn _ _ _ _ h H locs ls hP hS hl)
  · exact False.elim h
def js_pop : jx_Sp := fun _ _ nx _ _ pc lv st σ => match st with
  | .int _ :: rest => nx (pc + 1) lv rest σ
  | _ => False
theorem jo_pop (hd : decode (jx_b k) pc = .ok (.pop, 1)) : jx_Snd k pc js_pop := by
  intro l D cA ρ Λ A tb d Q p e R s m args below meth c cells slots QW X hret nx cl lv st σ htb hn hcl0 h
  unfold js_pop at h
  split at h
  · intro H locs ls hP hS hl
    exact lv_pop X.1 X.2.1 hd rfl (hn _ _ _ _ h H locs ls hP hS hl)
  · exact False.elim h
def js_ifeq (t : Nat) : jx_Sp := fun _ _ nx _ _ pc lv st σ => match st with
  | .int x :: rest => (x = 0 → nx t lv rest σ) ∧ (¬ x = 0 → nx (pc + 3) lv rest σ)
  | _ => False
theorem jo_ifeq {t : Nat} {o : Int} (ht : (pc : Int) + o = (t : Int)) (hd : decode (jx_b k) pc = .ok (.ifCond .eq o, 3)) : jx_Snd k pc (js_ifeq t) := by
  intro l D cA ρ Λ A tb d Q p e R s m args below meth c cells slots QW X hret nx cl lv st σ htb hn hcl0 h
  unfold js_ifeq at h
  split at h
  · intro H locs ls hP hS hl
    exact lv_if_eq X.1 X.2.1 hd ht (fun q => (hn _ _ _ _ (h.1 q) H locs ls hP hS hl)) (fun q => (hn _ _ _ _ (h.2 q) H locs ls hP hS hl))
  · exact False.elim h
def js_ceq (t : Nat) : jx_Sp := fun _ _ nx _ _ pc lv st σ => match st with
  | .int y :: .int x :: rest => (x = y → nx t lv rest σ) ∧ (¬ x = y → nx (pc + 3) lv rest σ)
  | _ => False
theorem jo_ceq {t : Nat} {o : Int} (ht : (pc : Int) + o = (t : Int)) (hd : decode (jx_b k) pc = .ok (.if_icmp .eq o, 3)) : jx_Snd k pc (js_ceq t) := by
  intro l D cA ρ Λ A tb d Q p e R s m args below meth c cells slots QW X hret nx cl lv st σ htb hn hcl0 h
  unfold js_ceq at h
  split at h
  · intro H locs ls hP hS hl
    exact lv_icmp_eq X.1 X.2.1 hd ht (fun q => (hn _ _ _ _ (h.1 q) H locs ls hP hS hl)) (fun q => (hn _ _ _ _ (h.2 q) H locs ls hP hS hl))
  · exact False.elim h
def js_ifne (t : Nat) : jx_Sp := fun _ _ nx _ _ pc lv st σ => match st with
  | .int x :: rest => (¬ x = 0 → nx t lv rest σ) ∧ (x = 0 → nx (pc + 3) lv rest σ)
  | _ => False
theorem jo_ifne {t : Nat} {o : Int} (ht : (pc : Int) + o = (t : Int)) (hd : decode (jx_b k) pc = .ok (.ifCond .ne o, 3)) : jx_Snd k pc (js_ifne t) := by
  intro l D cA ρ Λ A tb d Q p e R s m args below meth c cells slots QW X hret nx cl lv st σ htb hn hcl0 h
  unfold js_ifne at h
  split at h
  · intro H locs ls hP hS hl
    exact lv_if_ne X.1 X.2.1 hd ht (fun q => (hn _ _ _ _ (h.1 q) H locs ls hP hS hl)) (fun q => (hn _ _ _ _ (h.2 q) H locs ls hP hS hl))
  · exact False.elim h
def js_cne (t : Nat) : jx_Sp := fun _ _ nx _ _ pc lv st σ => match st with
  | .int y :: .int x :: rest => (¬ x = y → nx t lv rest σ) ∧ (x = y → nx (pc + 3) lv rest σ)
  | _ => False
theorem jo_cne {t : Nat} {o : Int} (ht : (pc : Int) + o = (t : Int)) (hd : decode (jx_b k) pc = .ok (.if_icmp .ne o, 3)) : jx_Snd k pc (js_cne t) := by
  intro l D cA ρ Λ A tb d Q p e R s m args below meth c cells slots QW X hret nx cl lv st σ htb hn hcl0 h
  unfold js_cne at h
  split at h
  · intro H locs ls hP hS hl
    exact lv_icmp_ne X.1 X.2.1 hd ht (fun q => (hn _ _ _ _ (h.1 q) H locs ls hP hS hl)) (fun q => (hn _ _ _ _ (h.2 q) H locs ls hP hS hl))
  · exact False.elim h
def js_iflt (t : Nat) : jx_Sp := fun _ _ nx _ _ pc lv st σ => match st with
  | .int x :: rest => (x < 0 → nx t lv rest σ) ∧ (¬ x < 0 → nx (pc + 3) lv rest σ)
  | _ => False
theorem jo_iflt {t : Nat} {o : Int} (ht : (pc : Int) + o = (t : Int)) (hd : decode (jx_b k) pc = .ok (.ifCond .lt o, 3)) : jx_Snd k pc (js_iflt t) := by
  intro l D cA ρ Λ A tb d Q p e R s m args below meth c cells slots QW X hret nx cl lv st σ htb hn hcl0 h
  unfold js_iflt at h
  split at h
  · intro H locs ls hP hS hl
    exact lv_if_lt X.1 X.2.1 hd ht (fun q => (hn _ _ _ _ (h.1 q) H locs ls hP hS hl)) (fun q => (hn _ _ _ _ (h.2 q) H locs ls hP hS hl))
  · exact False.elim h
def js_clt (t : Nat) : jx_Sp := fun _ _ nx _ _ pc lv st σ => match st with
  | .int y :: .int x :: rest => (x < y → nx t lv rest σ) ∧ (¬ x < y → nx (pc + 3) lv rest σ)
  | _ => False
theorem jo_clt {t : Nat} {o : Int} (ht : (pc : Int) + o = (t : Int)) (hd : decode (jx_b k) pc = .ok (.if_icmp .lt o, 3)) : jx_Snd k pc (js_clt t) := by
  intro l D cA ρ Λ A tb d Q p e R s m args below meth c cells slots QW X hret nx cl lv st σ htb hn hcl0 h
  unfold js_clt at h
  split at h
  · intro H locs ls hP hS hl
    exact lv_icmp_lt X.1 X.2.1 hd ht (fun q => (hn _ _ _ _ (h.1 q) H locs ls hP hS hl)) (fun q => (hn _ _ _ _ (h.2 q) H locs ls hP hS hl))
  · exact False.elim h
def js_ifge (t : Nat) : jx_Sp := fun _ _ nx _ _ pc lv st σ => match st with
  | .int x :: rest => (0 ≤ x → nx t lv rest σ) ∧ (¬ 0 ≤ x → nx (pc + 3) lv rest σ)
  | _ => False
theorem jo_ifge {t : Nat} {o : Int} (ht : (pc : Int) + o = (t : Int)) (hd : decode (jx_b k) pc = .ok (.ifCond .ge o, 3)) : jx_Snd k pc (js_ifge t) := by
  intro l D cA ρ Λ A tb d Q p e R s m args below meth c cells slots QW X hret nx cl lv st σ htb hn hcl0 h
  unfold js_ifge at h
  split at h
  · intro H locs ls hP hS hl
    exact lv_if_ge X.1 X.2.1 hd ht (fun q => (hn _ _ _ _ (h.1 q) H locs ls hP hS hl)) (fun q => (hn _ _ _ _ (h.2 q) H locs ls hP hS hl))
  · exact False.elim h
def js_cge (t : Nat) : jx_Sp := fun _ _ nx _ _ pc lv st σ => match st with
  | .int y :: .int x :: rest => (y ≤ x → nx t lv rest σ) ∧ (¬ y ≤ x → nx (pc + 3) lv rest σ)
  | _ => False
theorem jo_cge {t : Nat} {o : Int} (ht : (pc : Int) + o = (t : Int)) (hd : decode (jx_b k) pc = .ok (.if_icmp .ge o, 3)) : jx_Snd k pc (js_cge t) := by
  intro l D cA ρ Λ A tb d Q p e R s m args below meth c cells slots QW X hret nx cl lv st σ htb hn hcl0 h
  unfold js_cge at h
  split at h
  · intro H locs ls hP hS hl
    exact lv_icmp_ge X.1 X.2.1 hd ht (fun q => (hn _ _ _ _ (h.1 q) H locs ls hP hS hl)) (fun q => (hn _ _ _ _ (h.2 q) H locs ls hP hS hl))
  · exact False.elim h
def js_ifgt (t : Nat) : jx_Sp := fun _ _ nx _ _ pc lv st σ => match st with
  | .int x :: rest => (0 < x → nx t lv rest σ) ∧ (¬ 0 < x → nx (pc + 3) lv rest σ)
  | _ => False
theorem jo_ifgt {t : Nat} {o : Int} (ht : (pc : Int) + o = (t : Int)) (hd : decode (jx_b k) pc = .ok (.ifCond .gt o, 3)) : jx_Snd k pc (js_ifgt t) := by
  intro l D cA ρ Λ A tb d Q p e R s m args below meth c cells slots QW X hret nx cl lv st σ htb hn hcl0 h
  unfold js_ifgt at h
  split at h
  · intro H locs ls hP hS hl
    exact lv_if_gt X.1 X.2.1 hd ht (fun q => (hn _ _ _ _ (h.1 q) H locs ls hP hS hl)) (fun q => (hn _ _ _ _ (h.2 q) H locs ls hP hS hl))
  · exact False.elim h
def js_cgt (t : Nat) : jx_Sp := fun _ _ nx _ _ pc lv st σ => match st with
  | .int y :: .int x :: rest => (y < x → nx t lv rest σ) ∧ (¬ y < x → nx (pc + 3) lv rest σ)
  | _ => False
theorem jo_cgt {t : Nat} {o : Int} (ht : (pc : Int) + o = (t : Int)) (hd : decode (jx_b k) pc = .ok (.if_icmp .gt o, 3)) : jx_Snd k pc (js_cgt t) := by
  intro l D cA ρ Λ A tb d Q p e R s m args below meth c cells slots QW X hret nx cl lv st σ htb hn hcl0 h
  unfold js_cgt at h
  split at h
  · intro H locs ls hP hS hl
    exact lv_icmp_gt X.1 X.2.1 hd ht (fun q => (hn _ _ _ _ (h.1 q) H locs ls hP hS hl)) (fun q => (hn _ _ _ _ (h.2 q) H locs ls hP hS hl))
  · exact False.elim h
def js_ifle (t : Nat) : jx_Sp := fun _ _ nx _ _ pc lv st σ => match st with
  | .int x :: rest => (x ≤ 0 → nx t lv rest σ) ∧ (¬ x ≤ 0 → nx (pc + 3) lv rest σ)
  | _ => False
theorem jo_ifle {t : Nat} {o : Int} (ht : (pc : Int) + o = (t : Int)) (hd : decode (jx_b k) pc = .ok (.ifCond .le o, 3)) : jx_Snd k pc (js_ifle t) := by
  intro l D cA ρ Λ A tb d Q p e R s m args below meth c cells slots QW X hret nx cl lv st σ htb hn hcl0 h
  unfold js_ifle at h
  split at h
  · intro H locs ls hP hS hl
    exact lv_if_le X.1 X.2.1 hd ht (fun q => (hn _ _ _ _ (h.1 q) H locs ls hP hS hl)) (fun q => (hn _ _ _ _ (h.2 q) H locs ls hP hS hl))
  · exact False.elim h
def js_cle (t : Nat) : jx_Sp := fun _ _ nx _ _ pc lv st σ => match st with
  | .int y :: .int x :: rest => (x ≤ y → nx t lv rest σ) ∧ (¬ x ≤ y → nx (pc + 3) lv rest σ)
  | _ => False
theorem jo_cle {t : Nat} {o : Int} (ht : (pc : Int) + o = (t : Int)) (hd : decode (jx_b k) pc = .ok (.if_icmp .le o, 3)) : jx_Snd k pc (js_cle t) := by
  intro l D cA ρ Λ A tb d Q p e R s m args below meth c cells slots QW X hret nx cl lv st σ htb hn hcl0 h
  unfold js_cle at h
  split at h
  · intro H locs ls hP hS hl
    exact lv_icmp_le X.1 X.2.1 hd ht (fun q => (hn _ _ _ _ (h.1 q) H locs ls hP hS hl)) (fun q => (hn _ _ _ _ (h.2 q) H locs ls hP hS hl))
  · exact False.elim h
def js_go (t : Nat) : jx_Sp := fun _ _ nx _ _ _ lv st σ => nx t lv st σ
theorem jo_goto {t : Nat} {o : Int} (ht : (pc : Int) + o = (t : Int)) (hd : decode (jx_b k) pc = .ok (.goto o, 3)) : jx_Snd k pc (js_go t) := by
  intro l D cA ρ Λ A tb d Q p e R s m args below meth c cells slots QW X hret nx cl lv st σ htb hn hcl0 h
  intro H locs ls hP hS hl
  exact lv_goto X.1 X.2.1 hd ht (hn _ _ _ _ h H locs ls hP hS hl)
def jx_sw (cs : List (Int32 × Nat)) (dt : Nat) (g : Nat → Prop) (x : Int32) : Prop := match cs with
  | [] => g dt
  | (v, t) :: r => (x = v → g t) ∧ (¬ x = v → jx_sw r dt g x)
def js_sw (cs : List (Int32 × Nat)) (dt : Nat) : jx_Sp := fun _ _ nx _ _ _ lv st σ => match st with
  | .int x :: rest => jx_sw cs dt (fun t => nx t lv rest σ) x
  | _ => False
theorem jx_sw_in {dt : Nat} {g : Nat → Prop} {x : Int32} : ∀ {cs : List (Int32 × Nat)}, jx_sw cs dt g x → (∃ (j : Nat) (t : Nat), cs[j]? = some (x, t) ∧ g t) ∨ ((∀ (j : Nat) (v : Int32) (t : Nat), cs[j]? = some (v, t) → ¬ x = v) ∧ g dt)
  | [], h => Or.inr ⟨fun j v t hj => by simp at hj, h⟩
  | (v, t) :: r, h => by
    by_cases hx : x = v
    · subst hx
      exact Or.inl ⟨0, t, rfl, h.1 rfl⟩
    · rcases jx_sw_in (h.2 hx) with ⟨j, t', hj, hg⟩ | ⟨hj, hg⟩
      · exact Or.inl ⟨j + 1, t', hj, hg⟩
      · refine Or.inr ⟨fun j v' t' hj' => ?_, hg⟩
        cases j with
        | zero => cases hj'; exact hx
        | succ j => exact hj j v' t' hj'
/-- a tableswitch from lo on: the cases are lo, lo + 1 .. with the targets -/
theorem jo_table {cs : List (Int32 × Nat)} {dt len : Nat} {dflt lo hi : Int} {offs : Array Int} (hdt : (pc : Int) + dflt = (dt : Int)) (hlen : lo + cs.length = hi + 1)
    (hc : ∀ j, j < cs.length → ∃ (v : Int32) (t : Nat) (o : Int), cs[j]? = some (v, t) ∧ offs[j]? = some o ∧ (pc : Int) + o = (t : Int) ∧ v.toInt = lo + j) (hd : decode (jx_b k) pc = .ok (.tableswitch dflt lo hi offs, len)) : jx_Snd k pc (js_sw cs dt) := by
  intro l D cA ρ Λ A tb d Q p e R s m args below meth c cells slots QW X hret nx cl lv st σ htb hn hcl0 h
  unfold js_sw at h
  split at h
  · rename_i x rest
    intro H locs ls hP hS hl
    rcases jx_sw_in h with ⟨j, t, hj, hg⟩ | ⟨hj, hg⟩
    · obtain ⟨v, t', o, e1, e2, e3, e4⟩ := hc j (List.getElem?_eq_some_iff.mp hj).1
      cases e1.symm.trans hj
      have hjl := (List.getElem?_eq_some_iff.mp hj).1
      exact lv_tableIn X.1 X.2.1 hd (by omega) (by omega) (by rw [show (x.toInt - lo).toNat = j by omega]; exact e2) e3 (hn _ _ _ _ hg H locs ls hP hS hl)
    · refine lv_tableOut X.1 X.2.1 hd ?_ hdt (hn _ _ _ _ hg H locs ls hP hS hl)
      by_cases h1 : x.toInt < lo
      · exact Or.inl h1
      · refine Or.inr ?_
        apply Int.not_le.mp
        intro h2
        obtain ⟨v, t', o, e1, e2, e3, e4⟩ := hc (x.toInt - lo).toNat (by omega)
        exact hj _ _ _ e1 (Int32.toInt_inj.mp (by omega))
  · exact False.elim h
def js_getf (ci f : Nat) : jx_Sp := fun Λ _ nx _ _ pc lv st σ => match st with
  | .ref p :: rest => match Λ[p]? with
    | some (.inl o) => bif Nat.beq o.1 ci then (match o.2[f]? with
      | some (some (some q)) => nx (pc + 3) lv (.ref q :: rest) σ
      | some none => nx (pc + 3) lv (.int (σ p f) :: rest) σ
      | _ => False) else False
    | _ => False
  | _ => False
/-- a field of a class for its readers and writers: table, words, link (plain or nest) -/
def jx_fo (own : String) (ix ci f : Nat) (ty : FieldType) : Prop := ∃ (C : String) (T : u_T) (N : Nat) (tt : Nat → FieldType), jx_cl[ci]? = some (C, T, N) ∧ f < N ∧ (∀ w ∈ u_ws C T N, w ∈ jx_gw) ∧ (∀ a, a < N → parseFieldDescriptor (T a).2.2.1 = some (tt a)) ∧ (∀ a, a < N → ∀ b, b < N → a ≠ b → (T a).2.1 ≠ (T b).2.1) ∧ tt f = ty ∧
  (Cond.fieldLink own ix (T f).1 (T f).2.1 (T f).2.2.1 ∈ jx_gw ∨ ∃ host, Cond.fieldLinkNest own ix (T f).1 (T f).2.1 (T f).2.2.1 host ∈ jx_nw)
theorem jo_getf {own : String} {ix ci f : Nat} {ty : FieldType} (ho : (jx_y k).cls = own) (hf : jx_fo own ix ci f ty) (hd : decode (jx_b k) pc = .ok (.getfield ix, 3)) : jx_Snd k pc (js_getf ci f) := by
  intro l D cA ρ Λ A tb d Q p e R s m args below meth c cells slots QW X hret nx cl lv st σ htb hn hcl0 h
  subst ho
  obtain ⟨C, T, N, tt, hcl, hfN, hws, -, -, -, hlk⟩ := hf
  unfold js_getf at h
  split at h
  · rename_i q rest
    cases hL : Λ[q]? with
    | none => rw [hL] at h; exact False.elim h
    | some o =>
      rw [hL] at h
      cases o with
      | inr n => exact False.elim h
      | inl o =>
        obtain ⟨ci', fs⟩ := o
        dsimp only at h
        by_cases hci : ci' = ci
        · subst hci
          rw [show Nat.beq ci' ci' = true by simp] at h
          intro H locs ls hP hS hl
          have hts := X.2.2.2.2.1
          have hW := jx_Wat (ρ := ρ) (cA := cA) (σ := σ) hL
          cases hfs : fs[f]? with
          | none => rw [hfs] at h; exact False.elim h
          | some o =>
            rw [hfs] at h
            have hv : (fs.mapIdx (jx_fd ρ σ q))[f]? = some (jx_fd ρ σ q f o) := by rw [List.getElem?_mapIdx, hfs]; rfl
            cases o with
            | none =>
              rcases hlk with hlk | ⟨host, hlk⟩
              · exact va_get X.1 X.2.1 hts hws X.2.2.2.1 X.2.2.2.2.2.2.1.1 hP q hW hcl f hfN (hts _ hlk) (fun _ z => z) hv hd (hn _ _ _ _ h H locs ls hP hS hl)
              · exact va_getN X.1 X.2.1 hts hws X.2.2.2.1 X.2.2.2.2.2.2.1.1 hP q hW hcl f hfN (va_Nw.use rfl (X.2.2.2.2.2.2.1.2.2.2 _ hlk)) (fun _ z => z) hv hd (hn _ _ _ _ h H locs ls hP hS hl)
            | some a =>
              cases a with
              | none => exact False.elim h
              | some a =>
              rcases hlk with hlk | ⟨host, hlk⟩
              · exact va_get X.1 X.2.1 hts hws X.2.2.2.1 X.2.2.2.2.2.2.1.1 hP q hW hcl f hfN (hts _ hlk) (fun _ z => z) hv hd (hn _ _ _ _ h H locs ls hP hS hl)
              · exact va_getN X.1 X.2.1 hts hws X.2.2.2.1 X.2.2.2.2.2.2.1.1 hP q hW hcl f hfN (va_Nw.use rfl (X.2.2.2.2.2.2.1.2.2.2 _ hlk)) (fun _ z => z) hv hd (hn _ _ _ _ h H locs ls hP hS hl)
        · have hb : Nat.beq ci' ci = false := by
            cases hq : Nat.beq ci' ci with
            | false => rfl
            | true => exact absurd (Nat.eq_of_beq_eq_true hq) hci
          rw [hb] at h
          exact False.elim h
  · exact False.elim h
/-- z: the field is a boolean -/
def js_putf (ci f : Nat) (z : Bool) : jx_Sp := fun Λ _ nx _ _ pc lv st σ => match st with
  | .int v :: .ref p :: rest => match Λ[p]? with
    | some (.inl o) => bif Nat.beq o.1 ci then (match o.2[f]? with
      | some none => (bif z then (v = 0 ∨ v = 1) ∧ nx (pc + 3) lv rest (jx_su σ p f v) else nx (pc + 3) lv rest (jx_su σ p f v))
      | _ => False) else False
    | _ => False
  | _ => False
theorem jo_putf {own : String} {ix ci f : Nat} {z : Bool} (ho : (jx_y k).cls = own) (hf : jx_fo own ix ci f (if z then .boolean else .int)) (hnf : ∀ C T N, jx_cl[ci]? = some (C, T, N) → (T f).2.2.2 = false) (hd : decode (jx_b k) pc = .ok (.putfield ix, 3)) : jx_Snd k pc (js_putf ci f z) := by
  intro l D cA ρ Λ A tb d Q p e R s m args below meth c cells slots QW X hret nx cl lv st σ htb hn hcl0 h
  subst ho
  obtain ⟨C, T, N, tt, hcl, hfN, hws, hty, hnm, htf, hlk⟩ := hf
  unfold js_putf at h
  split at h
  · rename_i v q rest
    cases hL : Λ[q]? with
    | none => rw [hL] at h; exact False.elim h
    | some o =>
      rw [hL] at h
      cases o with
      | inr n => exact False.elim h
      | inl o =>
        obtain ⟨ci', fs⟩ := o
        dsimp only at h
        by_cases hci : ci' = ci
        · subst hci
          rw [show Nat.beq ci' ci' = true by simp] at h
          intro H locs ls hP hS hl
          have hts := X.2.2.2.2.1
          have hW := jx_Wat (ρ := ρ) (cA := cA) (σ := σ) hL
          cases hfs : fs[f]? with
          | none => rw [hfs] at h; exact False.elim h
          | some o =>
            rw [hfs] at h
            cases o with
            | some a => exact False.elim h
            | none =>
              have hl2 : f < (fs.mapIdx (jx_fd ρ σ q)).length := by
                have := (List.getElem?_eq_some_iff.mp hfs).1
                simpa using this
              have key : narrow (if z then .boolean else .int) (.int v) = .int v ∧ fits (if z then .boolean else .int) (.int v) = true ∧ nx (pc + 3) lv rest (jx_su σ q f v) := by
                cases z with
                | false => exact ⟨rfl, rfl, h⟩
                | true =>
                  obtain ⟨h1, h2⟩ := h
                  rcases h1 with rfl | rfl
                  · exact ⟨rfl, rfl, h2⟩
                  · exact ⟨rfl, rfl, h2⟩
              obtain ⟨k1, k2, k3⟩ := key
              have hD : va_D A (jx_W ρ cA Λ σ) := jx_D X.2.2.2.2.2.2.1.2.1 X.2.2.2.2.2.2.2
              rcases hlk with hlk | ⟨host, hlk⟩
              · refine va_put (v := .int v) X.1 X.2.1 hts hws tt hty hnm X.2.2.2.1 X.2.2.2.2.2.2.1.1 hP hD hS q hW hcl f hfN (hts _ hlk) (fun _ z => z) (hnf C T N hcl) (by rw [hty f hfN, htf]) k1 k2 hl2 hd (fun H1 locs1 hP1 hD1 hS1 => ?_)
                have hP2 : va_P D jx_cl (jx_W ρ cA Λ (jx_su σ q f v)) H1 := by rw [← jx_Wput hL hfs]; exact hP1
                exact (hn _ _ _ _ k3 H1 locs1 ls hP2 hS1 hl)
              · refine va_putN (v := .int v) X.1 X.2.1 hts hws tt hty hnm X.2.2.2.1 X.2.2.2.2.2.2.1.1 hP hD hS q hW hcl f hfN (va_Nw.use rfl (X.2.2.2.2.2.2.1.2.2.2 _ hlk)) (fun _ z => z) (hnf C T N hcl) (by rw [hty f hfN, htf]) k1 k2 hl2 hd (fun H1 locs1 hP1 hD1 hS1 => ?_)
                have hP2 : va_P D jx_cl (jx_W ρ cA Λ (jx_su σ q f v)) H1 := by rw [← jx_Wput hL hfs]; exact hP1
                exact (hn _ _ _ _ k3 H1 locs1 ls hP2 hS1 hl)
        · have hb : Nat.beq ci' ci = false := by
            cases hq : Nat.beq ci' ci with
            | false => rfl
            | true => exact absurd (Nat.eq_of_beq_eq_true hq) hci
          rw [hb] at h
          exact False.elim h
  · exact False.elim h
def js_ald : jx_Sp := fun Λ tb nx _ _ pc lv st σ => match st with
  | .int i :: .ref p :: rest => match Λ[p]? with
    | some (.inr n) => vp_in i n ∧ nx (pc + 1) lv (.int (σ p i.toNatClampNeg) :: rest) σ
    | some (.inl _) => False
    | none => match tb p with
      | some (n, f) => vp_in i n ∧ nx (pc + 1) lv (.int (f i.toNatClampNeg) :: rest) σ
      | none => False
  | _ => False
theorem jo_ald (hd : decode (jx_b k) pc = .ok (.iaload, 1)) : jx_Snd k pc js_ald := by
  intro l D cA ρ Λ A tb d Q p e R s m args below meth c cells slots QW X hret nx cl lv st σ htb hn hcl0 h
  unfold js_ald at h
  split at h
  · rename_i i q rest
    intro H locs ls hP hS hl
    cases hL : Λ[q]? with
    | none =>
      rw [hL] at h
      cases ht : tb q with
      | none => rw [ht] at h; exact False.elim h
      | some nf =>
        obtain ⟨n, f⟩ := nf
        rw [ht] at h
        exact va_ti X.1 X.2.1 (X.2.2.2.2.2.2.1.2.2.1.2 q n f ht) hS h.1 rfl hd (hn _ _ _ _ h.2 H locs ls hP hS hl)
    | some o =>
      rw [hL] at h
      cases o with
      | inl o => exact False.elim h
      | inr n => exact va_iald X.1 X.2.1 X.2.2.2.2.2.2.1.1 hP q 0 (jx_Wat hL) rfl h.1 hd (hn _ _ _ _ h.2 H locs ls hP hS hl)
  · exact False.elim h
def js_ast : jx_Sp := fun Λ _ nx _ _ pc lv st σ => match st with
  | .int x :: .int i :: .ref p :: rest => match Λ[p]? with
    | some (.inr n) => vp_in i n ∧ nx (pc + 1) lv rest (jx_su σ p i.toNatClampNeg x)
    | _ => False
  | _ => False
theorem jo_ast (hd : decode (jx_b k) pc = .ok (.iastore, 1)) : jx_Snd k pc js_ast := by
  intro l D cA ρ Λ A tb d Q p e R s m args below meth c cells slots QW X hret nx cl lv st σ htb hn hcl0 h
  unfold js_ast at h
  split at h
  · rename_i x i q rest
    intro H locs ls hP hS hl
    cases hL : Λ[q]? with
    | none => rw [hL] at h; exact False.elim h
    | some o =>
      rw [hL] at h
      cases o with
      | inl o => exact False.elim h
      | inr n =>
        refine va_iast X.1 X.2.1 X.2.2.2.2.2.2.1.1 hP (jx_D X.2.2.2.2.2.2.1.2.1 X.2.2.2.2.2.2.2) hS q 0 (jx_Wat hL) rfl h.1 hd (fun H1 locs1 hP1 hD1 hS1 => ?_)
        have hP2 : va_P D jx_cl (jx_W ρ cA Λ (jx_su σ q i.toNatClampNeg x)) H1 := by rw [← jx_Wast hL]; exact hP1
        exact (hn _ _ _ _ h.2 H1 locs1 ls hP2 hS1 hl)
  · exact False.elim h
def js_len : jx_Sp := fun Λ tb nx _ _ pc lv st σ => match st with
  | .ref p :: rest => match Λ[p]? with
    | some (.inr n) => nx (pc + 1) lv (.int (Int32.ofNat n) :: rest) σ
    | some (.inl _) => False
    | none => match tb p with
      | some (n, _) => nx (pc + 1) lv (.int (Int32.ofNat n) :: rest) σ
      | none => False
  | _ => False
theorem jo_len (hd : decode (jx_b k) pc = .ok (.arraylength, 1)) : jx_Snd k pc js_len := by
  intro l D cA ρ Λ A tb d Q p e R s m args below meth c cells slots QW X hret nx cl lv st σ htb hn hcl0 h
  unfold js_len at h
  split at h
  · rename_i q rest
    intro H locs ls hP hS hl
    cases hL : Λ[q]? with
    | none =>
      rw [hL] at h
      cases ht : tb q with
      | none => rw [ht] at h; exact False.elim h
      | some nf =>
        obtain ⟨n, f⟩ := nf
        rw [ht] at h
        exact va_tlen X.1 X.2.1 (X.2.2.2.2.2.2.1.2.2.1.2 q n f ht) hS rfl hd (hn _ _ _ _ h H locs ls hP hS hl)
    | some o =>
      rw [hL] at h
      cases o with
      | inl o => exact False.elim h
      | inr n => exact va_alen X.1 X.2.1 X.2.2.2.2.2.2.1.1 hP q 0 (jx_Wat hL) rfl rfl hd (hn _ _ _ _ h H locs ls hP hS hl)
  · exact False.elim h
def js_gets (p : Nat) : jx_Sp := fun _ _ nx _ _ pc lv st σ => nx (pc + 3) lv (.ref p :: st) σ
theorem jo_gets {own C n t : String} {ix p : Nat} (ho : (jx_y k).cls = own) (hz : (p, C, n, t) ∈ jx_zs) (hlk : Cond.fieldLink own ix C n t ∈ jx_gw) (hd : decode (jx_b k) pc = .ok (.getstatic ix, 3)) : jx_Snd k pc (js_gets p) := by
  intro l D cA ρ Λ A tb d Q p e R s m args below meth c cells slots QW X hret nx cl lv st σ htb hn hcl0 h
  subst ho
  intro H locs ls hP hS hl
  exact va_gets X.1 X.2.1 (X.2.2.2.2.2.2.1.2.2.1.1 _ hz) hS X.2.2.2.1 (X.2.2.2.2.1 _ hlk) (fun _ z => z) hd (hn _ _ _ _ h H locs ls hP hS hl)
def js_ir : jx_Sp := fun _ _ _ _ rt _ _ st σ => match st with
  | [.int v] => rt (some (.int v)) σ
  | _ => False
theorem jo_ir (hr : jx_ret k = some .int) (hd : decode (jx_b k) pc = .ok (.ireturn, 1)) : jx_Snd k pc js_ir := by
  intro l D cA ρ Λ A tb d Q p e R s m args below meth c cells slots QW X hret nx cl lv st σ htb hn hcl0 h
  unfold js_ir at h
  split at h
  · rename_i v
    intro H locs ls hP hS hl
    exact hret H locs ls pc (some (.int v)) σ (by unfold jx_rt; rw [hr]; exact ⟨v, rfl, rfl, hd⟩) h hP hS
  · exact False.elim h
def js_zr : jx_Sp := fun _ _ _ _ rt _ _ st σ => match st with
  | [.int v] => (v = 0 ∨ v = 1) ∧ rt (some (.int v)) σ
  | _ => False
theorem jo_zr (hr : jx_ret k = some .boolean) (hd : decode (jx_b k) pc = .ok (.ireturn, 1)) : jx_Snd k pc js_zr := by
  intro l D cA ρ Λ A tb d Q p e R s m args below meth c cells slots QW X hret nx cl lv st σ htb hn hcl0 h
  unfold js_zr at h
  split at h
  · rename_i v
    intro H locs ls hP hS hl
    exact hret H locs ls pc (some (.int v)) σ (by unfold jx_rt; rw [hr]; refine ⟨v, rfl, ?_, hd⟩; rcases h.1 with rfl | rfl <;> rfl) h.2 hP hS
  · exact False.elim h
def js_vr : jx_Sp := fun _ _ _ _ rt _ _ st σ => match st with
  | [] => rt none σ
  | _ => False
theorem jo_vr (hr : jx_ret k = none) (hd : decode (jx_b k) pc = .ok (.return_, 1)) : jx_Snd k pc js_vr := by
  intro l D cA ρ Λ A tb d Q p e R s m args below meth c cells slots QW X hret nx cl lv st σ htb hn hcl0 h
  unfold js_vr at h
  split at h
  · intro H locs ls hP hS hl
    exact hret H locs ls pc none σ (by unfold jx_rt; rw [hr]; exact ⟨rfl, hd⟩) h hP hS
  · exact False.elim h
def jx_ct (st : List Value) : Nat := match st with
  | [] => 0
  | .long _ :: r => 2 + jx_ct r
  | .double _ :: r => 2 + jx_ct r
  | _ :: r => 1 + jx_ct r
theorem jx_ctm : ∀ (st : List Value), (st.map fun v => v.category).sum = jx_ct st
  | [] => rfl
  | v :: r => by
    rw [List.map_cons, List.sum_cons, jx_ctm r]
    cases v <;> rfl
def jx_is (Λ : List jx_Lc) (p ci : Nat) : Bool := match Λ[p]? with
  | some (.inl o) => Nat.beq o.1 ci
  | _ => false
theorem jx_is_at {Λ : List jx_Lc} {p ci : Nat} (h : jx_is Λ p ci = true) : ∃ fs, Λ[p]? = some (.inl (ci, fs)) := by
  unfold jx_is at h
  split at h
  · rename_i o ho
    obtain ⟨c, fs⟩ := o
    have e := Nat.eq_of_beq_eq_true h
    exact ⟨fs, by rw [ho, ← e]⟩
  · cases h
def js_v0 (ci k' : Nat) : jx_Sp := fun Λ _ nx cl _ pc lv st σ => match st with
  | .ref p :: rest => bif jx_is Λ p ci && Nat.ble (jx_ct rest) 8 then cl k' [.ref p] σ (fun r σ' => nx (pc + 3) lv (r.toList ++ rest) σ') else False
  | _ => False
theorem jo_v0 {own C : String} {T : u_T} {N ix ci k' : Nat} (ho : (jx_y k).cls = own) (hok : jx_ok k' C 0) (hln : jx_ln own ix k') (hin : Cond.instanceMethod (jx_y k') ∈ jx_gw) (hse : Cond.selects C (jx_y k') (jx_y k') ∈ jx_gw) (hcl : jx_cl[ci]? = some (C, T, N)) (hd : decode (jx_b k) pc = .ok (.invokevirtual ix, 3)) : jx_Snd k pc (js_v0 ci k') := by
  intro l D cA ρ Λ A tb d Q p e R s m args below meth c cells slots QW X hret nx cl lv st σ htb hn hcl0 h
  subst ho
  unfold js_v0 at h
  split at h
  · rename_i q rest
    cases hc : jx_is Λ q ci && Nat.ble (jx_ct rest) 8 with
    | false => rw [hc] at h; exact False.elim h
    | true =>
      rw [hc] at h
      rw [Bool.and_eq_true] at hc
      obtain ⟨fs, hL⟩ := jx_is_at hc.1
      intro H locs ls hP hS hl
      exact jx_callV (as := []) X htb hP hS hl.1 hok hln hin hse hcl hd hL rfl (by rw [jx_ctm]; exact Nat.le_of_ble_eq_true hc.2) (hcl0 _ _ _ _ h) (fun r σ1 H1 locs1 hq hP1 hS1 => (hn _ _ _ _ hq H1 locs1 ls hP1 hS1 hl))
  · exact False.elim h
def js_v1 (ci k' : Nat) : jx_Sp := fun Λ _ nx cl _ pc lv st σ => match st with
  | a1 :: .ref p :: rest => bif jx_is Λ p ci && Nat.ble (jx_ct rest) 8 then cl k' [.ref p, a1] σ (fun r σ' => nx (pc + 3) lv (r.toList ++ rest) σ') else False
  | _ => False
theorem jo_v1 {own C : String} {T : u_T} {N ix ci k' : Nat} (ho : (jx_y k).cls = own) (hok : jx_ok k' C 1) (hln : jx_ln own ix k') (hin : Cond.instanceMethod (jx_y k') ∈ jx_gw) (hse : Cond.selects C (jx_y k') (jx_y k') ∈ jx_gw) (hcl : jx_cl[ci]? = some (C, T, N)) (hd : decode (jx_b k) pc = .ok (.invokevirtual ix, 3)) : jx_Snd k pc (js_v1 ci k') := by
  intro l D cA ρ Λ A tb d Q p e R s m args below meth c cells slots QW X hret nx cl lv st σ htb hn hcl0 h
  subst ho
  unfold js_v1 at h
  split at h
  · rename_i a1 q rest
    cases hc : jx_is Λ q ci && Nat.ble (jx_ct rest) 8 with
    | false => rw [hc] at h; exact False.elim h
    | true =>
      rw [hc] at h
      rw [Bool.and_eq_true] at hc
      obtain ⟨fs, hL⟩ := jx_is_at hc.1
      intro H locs ls hP hS hl
      exact jx_callV (as := [a1]) X htb hP hS hl.1 hok hln hin hse hcl hd hL rfl (by rw [jx_ctm]; exact Nat.le_of_ble_eq_true hc.2) (hcl0 _ _ _ _ h) (fun r σ1 H1 locs1 hq hP1 hS1 => (hn _ _ _ _ hq H1 locs1 ls hP1 hS1 hl))
  · exact False.elim h
def js_v2 (ci k' : Nat) : jx_Sp := fun Λ _ nx cl _ pc lv st σ => match st with
  | b1 :: a1 :: .ref p :: rest => bif jx_is Λ p ci && Nat.ble (jx_ct rest) 8 then cl k' [.ref p, a1, b1] σ (fun r σ' => nx (pc + 3) lv (r.toList ++ rest) σ') else False
  | _ => False
theorem jo_v2 {own C : String} {T : u_T} {N ix ci k' : Nat} (ho : (jx_y k).cls = own) (hok : jx_ok k' C 2) (hln : jx_ln own ix k') (hin : Cond.instanceMethod (jx_y k') ∈ jx_gw) (hse : Cond.selects C (jx_y k') (jx_y k') ∈ jx_gw) (hcl : jx_cl[ci]? = some (C, T, N)) (hd : decode (jx_b k) pc = .ok (.invokevirtual ix, 3)) : jx_Snd k pc (js_v2 ci k') := by
  intro l D cA ρ Λ A tb d Q p e R s m args below meth c cells slots QW X hret nx cl lv st σ htb hn hcl0 h
  subst ho
  unfold js_v2 at h
  split at h
  · rename_i b1 a1 q rest
    cases hc : jx_is Λ q ci && Nat.ble (jx_ct rest) 8 with
    | false => rw [hc] at h; exact False.elim h
    | true =>
      rw [hc] at h
      rw [Bool.and_eq_true] at hc
      obtain ⟨fs, hL⟩ := jx_is_at hc.1
      intro H locs ls hP hS hl
      exact jx_callV (as := [a1, b1]) X htb hP hS hl.1 hok hln hin hse hcl hd hL rfl (by rw [jx_ctm]; exact Nat.le_of_ble_eq_true hc.2) (hcl0 _ _ _ _ h) (fun r σ1 H1 locs1 hq hP1 hS1 => (hn _ _ _ _ hq H1 locs1 ls hP1 hS1 hl))
  · exact False.elim h
def js_v3 (ci k' : Nat) : jx_Sp := fun Λ _ nx cl _ pc lv st σ => match st with
  | c1 :: b1 :: a1 :: .ref p :: rest => bif jx_is Λ p ci && Nat.ble (jx_ct rest) 8 then cl k' [.ref p, a1, b1, c1] σ (fun r σ' => nx (pc + 3) lv (r.toList ++ rest) σ') else False
  | _ => False
theorem jo_v3 {own C : String} {T : u_T} {N ix ci k' : Nat} (ho : (jx_y k).cls = own) (hok : jx_ok k' C 3) (hln : jx_ln own ix k') (hin : Cond.instanceMethod (jx_y k') ∈ jx_gw) (hse : Cond.selects C (jx_y k') (jx_y k') ∈ jx_gw) (hcl : jx_cl[ci]? = some (C, T, N)) (hd : decode (jx_b k) pc = .ok (.invokevirtual ix, 3)) : jx_Snd k pc (js_v3 ci k') := by
  intro l D cA ρ Λ A tb d Q p e R s m args below meth c cells slots QW X hret nx cl lv st σ htb hn hcl0 h
  subst ho
  unfold js_v3 at h
  split at h
  · rename_i c1 b1 a1 q rest
    cases hc : jx_is Λ q ci && Nat.ble (jx_ct rest) 8 with
    | false => rw [hc] at h; exact False.elim h
    | true =>
      rw [hc] at h
      rw [Bool.and_eq_true] at hc
      obtain ⟨fs, hL⟩ := jx_is_at hc.1
      intro H locs ls hP hS hl
      exact jx_callV (as := [a1, b1, c1]) X htb hP hS hl.1 hok hln hin hse hcl hd hL rfl (by rw [jx_ctm]; exact Nat.le_of_ble_eq_true hc.2) (hcl0 _ _ _ _ h) (fun r σ1 H1 locs1 hq hP1 hS1 => (hn _ _ _ _ hq H1 locs1 ls hP1 hS1 hl))
  · exact False.elim h
def js_v4 (ci k' : Nat) : jx_Sp := fun Λ _ nx cl _ pc lv st σ => match st with
  | d1 :: c1 :: b1 :: a1 :: .ref p :: rest => bif jx_is Λ p ci && Nat.ble (jx_ct rest) 8 then cl k' [.ref p, a1, b1, c1, d1] σ (fun r σ' => nx (pc + 3) lv (r.toList ++ rest) σ') else False
  | _ => False
theorem jo_v4 {own C : String} {T : u_T} {N ix ci k' : Nat} (ho : (jx_y k).cls = own) (hok : jx_ok k' C 4) (hln : jx_ln own ix k') (hin : Cond.instanceMethod (jx_y k') ∈ jx_gw) (hse : Cond.selects C (jx_y k') (jx_y k') ∈ jx_gw) (hcl : jx_cl[ci]? = some (C, T, N)) (hd : decode (jx_b k) pc = .ok (.invokevirtual ix, 3)) : jx_Snd k pc (js_v4 ci k') := by
  intro l D cA ρ Λ A tb d Q p e R s m args below meth c cells slots QW X hret nx cl lv st σ htb hn hcl0 h
  subst ho
  unfold js_v4 at h
  split at h
  · rename_i d1 c1 b1 a1 q rest
    cases hc : jx_is Λ q ci && Nat.ble (jx_ct rest) 8 with
    | false => rw [hc] at h; exact False.elim h
    | true =>
      rw [hc] at h
      rw [Bool.and_eq_true] at hc
      obtain ⟨fs, hL⟩ := jx_is_at hc.1
      intro H locs ls hP hS hl
      exact jx_callV (as := [a1, b1, c1, d1]) X htb hP hS hl.1 hok hln hin hse hcl hd hL rfl (by rw [jx_ctm]; exact Nat.le_of_ble_eq_true hc.2) (hcl0 _ _ _ _ h) (fun r σ1 H1 locs1 hq hP1 hS1 => (hn _ _ _ _ hq H1 locs1 ls hP1 hS1 hl))
  · exact False.elim h
def js_v5 (ci k' : Nat) : jx_Sp := fun Λ _ nx cl _ pc lv st σ => match st with
  | e1 :: d1 :: c1 :: b1 :: a1 :: .ref p :: rest => bif jx_is Λ p ci && Nat.ble (jx_ct rest) 8 then cl k' [.ref p, a1, b1, c1, d1, e1] σ (fun r σ' => nx (pc + 3) lv (r.toList ++ rest) σ') else False
  | _ => False
theorem jo_v5 {own C : String} {T : u_T} {N ix ci k' : Nat} (ho : (jx_y k).cls = own) (hok : jx_ok k' C 5) (hln : jx_ln own ix k') (hin : Cond.instanceMethod (jx_y k') ∈ jx_gw) (hse : Cond.selects C (jx_y k') (jx_y k') ∈ jx_gw) (hcl : jx_cl[ci]? = some (C, T, N)) (hd : decode (jx_b k) pc = .ok (.invokevirtual ix, 3)) : jx_Snd k pc (js_v5 ci k') := by
  intro l D cA ρ Λ A tb d Q p e R s m args below meth c cells slots QW X hret nx cl lv st σ htb hn hcl0 h
  subst ho
  unfold js_v5 at h
  split at h
  · rename_i e1 d1 c1 b1 a1 q rest
    cases hc : jx_is Λ q ci && Nat.ble (jx_ct rest) 8 with
    | false => rw [hc] at h; exact False.elim h
    | true =>
      rw [hc] at h
      rw [Bool.and_eq_true] at hc
      obtain ⟨fs, hL⟩ := jx_is_at hc.1
      intro H locs ls hP hS hl
      exact jx_callV (as := [a1, b1, c1, d1, e1]) X htb hP hS hl.1 hok hln hin hse hcl hd hL rfl (by rw [jx_ctm]; exact Nat.le_of_ble_eq_true hc.2) (hcl0 _ _ _ _ h) (fun r σ1 H1 locs1 hq hP1 hS1 => (hn _ _ _ _ hq H1 locs1 ls hP1 hS1 hl))
  · exact False.elim h
def js_s1 (k' : Nat) : jx_Sp := fun _ _ nx cl _ pc lv st σ => match st with
  | a1 :: rest => bif Nat.ble (jx_ct rest) 8 then cl k' [a1] σ (fun r σ' => nx (pc + 3) lv (r.toList ++ rest) σ') else False
  | _ => False
theorem jo_s1 {own C : String} {ix k' : Nat} (ho : (jx_y k).cls = own) (hok : jx_ok k' C 1) (hln : jx_ln own ix k') (hst0 : Cond.static (jx_y k') ∈ jx_gw) (hd : decode (jx_b k) pc = .ok (.invokestatic ix, 3)) : jx_Snd k pc (js_s1 k') := by
  intro l D cA ρ Λ A tb d Q p e R s m args below meth c cells slots QW X hret nx cl lv st σ htb hn hcl0 h
  subst ho
  unfold js_s1 at h
  split at h
  · rename_i a1 rest
    cases hc : Nat.ble (jx_ct rest) 8 with
    | false => rw [hc] at h; exact False.elim h
    | true =>
      rw [hc] at h
      intro H locs ls hP hS hl
      exact jx_callS (as := [a1]) X htb hP hS hl.1 hok hln hst0 hd rfl (by rw [jx_ctm]; exact Nat.le_of_ble_eq_true hc) (hcl0 _ _ _ _ h) (fun r σ1 H1 locs1 hq hP1 hS1 => (hn _ _ _ _ hq H1 locs1 ls hP1 hS1 hl))
  · exact False.elim h
def js_s2 (k' : Nat) : jx_Sp := fun _ _ nx cl _ pc lv st σ => match st with
  | b1 :: a1 :: rest => bif Nat.ble (jx_ct rest) 8 then cl k' [a1, b1] σ (fun r σ' => nx (pc + 3) lv (r.toList ++ rest) σ') else False
  | _ => False
theorem jo_s2 {own C : String} {ix k' : Nat} (ho : (jx_y k).cls = own) (hok : jx_ok k' C 2) (hln : jx_ln own ix k') (hst0 : Cond.static (jx_y k') ∈ jx_gw) (hd : decode (jx_b k) pc = .ok (.invokestatic ix, 3)) : jx_Snd k pc (js_s2 k') := by
  intro l D cA ρ Λ A tb d Q p e R s m args below meth c cells slots QW X hret nx cl lv st σ htb hn hcl0 h
  subst ho
  unfold js_s2 at h
  split at h
  · rename_i b1 a1 rest
    cases hc : Nat.ble (jx_ct rest) 8 with
    | false => rw [hc] at h; exact False.elim h
    | true =>
      rw [hc] at h
      intro H locs ls hP hS hl
      exact jx_callS (as := [a1, b1]) X htb hP hS hl.1 hok hln hst0 hd rfl (by rw [jx_ctm]; exact Nat.le_of_ble_eq_true hc) (hcl0 _ _ _ _ h) (fun r σ1 H1 locs1 hq hP1 hS1 => (hn _ _ _ _ hq H1 locs1 ls hP1 hS1 hl))
  · exact False.elim h
def js_s3 (k' : Nat) : jx_Sp := fun _ _ nx cl _ pc lv st σ => match st with
  | c1 :: b1 :: a1 :: rest => bif Nat.ble (jx_ct rest) 8 then cl k' [a1, b1, c1] σ (fun r σ' => nx (pc + 3) lv (r.toList ++ rest) σ') else False
  | _ => False
theorem jo_s3 {own C : String} {ix k' : Nat} (ho : (jx_y k).cls = own) (hok : jx_ok k' C 3) (hln : jx_ln own ix k') (hst0 : Cond.static (jx_y k') ∈ jx_gw) (hd : decode (jx_b k) pc = .ok (.invokestatic ix, 3)) : jx_Snd k pc (js_s3 k') := by
  intro l D cA ρ Λ A tb d Q p e R s m args below meth c cells slots QW X hret nx cl lv st σ htb hn hcl0 h
  subst ho
  unfold js_s3 at h
  split at h
  · rename_i c1 b1 a1 rest
    cases hc : Nat.ble (jx_ct rest) 8 with
    | false => rw [hc] at h; exact False.elim h
    | true =>
      rw [hc] at h
      intro H locs ls hP hS hl
      exact jx_callS (as := [a1, b1, c1]) X htb hP hS hl.1 hok hln hst0 hd rfl (by rw [jx_ctm]; exact Nat.le_of_ble_eq_true hc) (hcl0 _ _ _ _ h) (fun r σ1 H1 locs1 hq hP1 hS1 => (hn _ _ _ _ hq H1 locs1 ls hP1 hS1 hl))
  · exact False.elim h
def js_s4 (k' : Nat) : jx_Sp := fun _ _ nx cl _ pc lv st σ => match st with
  | d1 :: c1 :: b1 :: a1 :: rest => bif Nat.ble (jx_ct rest) 8 then cl k' [a1, b1, c1, d1] σ (fun r σ' => nx (pc + 3) lv (r.toList ++ rest) σ') else False
  | _ => False
theorem jo_s4 {own C : String} {ix k' : Nat} (ho : (jx_y k).cls = own) (hok : jx_ok k' C 4) (hln : jx_ln own ix k') (hst0 : Cond.static (jx_y k') ∈ jx_gw) (hd : decode (jx_b k) pc = .ok (.invokestatic ix, 3)) : jx_Snd k pc (js_s4 k') := by
  intro l D cA ρ Λ A tb d Q p e R s m args below meth c cells slots QW X hret nx cl lv st σ htb hn hcl0 h
  subst ho
  unfold js_s4 at h
  split at h
  · rename_i d1 c1 b1 a1 rest
    cases hc : Nat.ble (jx_ct rest) 8 with
    | false => rw [hc] at h; exact False.elim h
    | true =>
      rw [hc] at h
      intro H locs ls hP hS hl
      exact jx_callS (as := [a1, b1, c1, d1]) X htb hP hS hl.1 hok hln hst0 hd rfl (by rw [jx_ctm]; exact Nat.le_of_ble_eq_true hc) (hcl0 _ _ _ _ h) (fun r σ1 H1 locs1 hq hP1 hS1 => (hn _ _ _ _ hq H1 locs1 ls hP1 hS1 hl))
  · exact False.elim h
def js_s6 (k' : Nat) : jx_Sp := fun _ _ nx cl _ pc lv st σ => match st with
  | f1 :: e1 :: d1 :: c1 :: b1 :: a1 :: rest => bif Nat.ble (jx_ct rest) 8 then cl k' [a1, b1, c1, d1, e1, f1] σ (fun r σ' => nx (pc + 3) lv (r.toList ++ rest) σ') else False
  | _ => False
theorem jo_s6 {own C : String} {ix k' : Nat} (ho : (jx_y k).cls = own) (hok : jx_ok k' C 6) (hln : jx_ln own ix k') (hst0 : Cond.static (jx_y k') ∈ jx_gw) (hd : decode (jx_b k) pc = .ok (.invokestatic ix, 3)) : jx_Snd k pc (js_s6 k') := by
  intro l D cA ρ Λ A tb d Q p e R s m args below meth c cells slots QW X hret nx cl lv st σ htb hn hcl0 h
  subst ho
  unfold js_s6 at h
  split at h
  · rename_i f1 e1 d1 c1 b1 a1 rest
    cases hc : Nat.ble (jx_ct rest) 8 with
    | false => rw [hc] at h; exact False.elim h
    | true =>
      rw [hc] at h
      intro H locs ls hP hS hl
      exact jx_callS (as := [a1, b1, c1, d1, e1, f1]) X htb hP hS hl.1 hok hln hst0 hd rfl (by rw [jx_ctm]; exact Nat.le_of_ble_eq_true hc) (hcl0 _ _ _ _ h) (fun r σ1 H1 locs1 hq hP1 hS1 => (hn _ _ _ _ hq H1 locs1 ls hP1 hS1 hl))
  · exact False.elim h
def js_max : jx_Sp := fun _ _ nx _ _ pc lv st σ => match st with
  | .int y :: .int x :: rest => bif Nat.ble (jx_ct rest) 8 then nx (pc + 3) lv (.int (if x < y then y else x) :: rest) σ else False
  | _ => False
theorem jo_max {own : String} {ix : Nat} (ho : (jx_y k).cls = own) (hlk : Cond.methodLink own ix Lib.Math.max.name ∈ jx_gw) (hst : Cond.static Lib.Math.max.name ∈ jx_gw) (hin : Cond.initialized "java/lang/Math" ∈ jx_gw) (hc : Cond.code Lib.Math.max.name Lib.Math.max.code 2 (some .int) ∈ jx_gw) (hd : decode (jx_b k) pc = .ok (.invokestatic ix, 3)) : jx_Snd k pc js_max := by
  intro l D cA ρ Λ A tb d Q p e R s m args below meth c cells slots QW X hret nx cl lv st σ htb hn hcl0 h
  subst ho
  unfold js_max at h
  split at h
  · rename_i y x rest
    cases hcr : Nat.ble (jx_ct rest) 8 with
    | false => rw [hcr] at h; exact False.elim h
    | true =>
      rw [hcr] at h
      intro H locs ls hP hS hl
      have hw := X.2.2.2.2.1
      have h8 : ((rest.map (jx_v ρ)).map fun v => v.category).sum ≤ 8 := by rw [jx_catm, jx_ctm]; exact Nat.le_of_ble_eq_true hcr
      obtain ⟨r1, r2, r3, r4⟩ := X.2.2.2.2.2.1
      exact va_mmax X.1 X.2.1 (X.2.2.1.trans hl.1.symm) X.2.2.2.1 (hw _ hlk) (hw _ hst) (hw _ hin) (hw _ hc) (by omega) (by omega) r3 r4 hd (hn _ _ _ _ h H locs ls hP hS hl)
  · exact False.elim h
def js_min : jx_Sp := fun _ _ nx _ _ pc lv st σ => match st with
  | .int y :: .int x :: rest => bif Nat.ble (jx_ct rest) 8 then nx (pc + 3) lv (.int (if y < x then y else x) :: rest) σ else False
  | _ => False
theorem jo_min {own : String} {ix : Nat} (ho : (jx_y k).cls = own) (hlk : Cond.methodLink own ix Lib.Math.min.name ∈ jx_gw) (hst : Cond.static Lib.Math.min.name ∈ jx_gw) (hin : Cond.initialized "java/lang/Math" ∈ jx_gw) (hc : Cond.code Lib.Math.min.name Lib.Math.min.code 2 (some .int) ∈ jx_gw) (hd : decode (jx_b k) pc = .ok (.invokestatic ix, 3)) : jx_Snd k pc js_min := by
  intro l D cA ρ Λ A tb d Q p e R s m args below meth c cells slots QW X hret nx cl lv st σ htb hn hcl0 h
  subst ho
  unfold js_min at h
  split at h
  · rename_i y x rest
    cases hcr : Nat.ble (jx_ct rest) 8 with
    | false => rw [hcr] at h; exact False.elim h
    | true =>
      rw [hcr] at h
      intro H locs ls hP hS hl
      have hw := X.2.2.2.2.1
      have h8 : ((rest.map (jx_v ρ)).map fun v => v.category).sum ≤ 8 := by rw [jx_catm, jx_ctm]; exact Nat.le_of_ble_eq_true hcr
      obtain ⟨r1, r2, r3, r4⟩ := X.2.2.2.2.2.1
      exact va_mmin X.1 X.2.1 (X.2.2.1.trans hl.1.symm) X.2.2.2.1 (hw _ hlk) (hw _ hst) (hw _ hin) (hw _ hc) (by omega) (by omega) r3 r4 hd (hn _ _ _ _ h H locs ls hP hS hl)
  · exact False.elim h
end RULES

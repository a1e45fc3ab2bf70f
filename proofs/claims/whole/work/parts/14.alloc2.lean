/-! Constructors: the steps that make cells, and calls of constructors -/
section JNS
variable {k pc : Nat}
def jn_dv : Option (Option Nat) → Value
  | none => .int 0
  | some _ => .null
def jn_nr : List (Option (Option Nat)) → Bool
  | [] => true
  | some (some _) :: _ => false
  | _ :: t => jn_nr t
theorem jn_nr_at {q : Nat} : ∀ {fs : List (Option (Option Nat))} {j : Nat}, jn_nr fs = true → fs[j]? = some (some (some q)) → False
  | [], _, _, h => by simp at h
  | o :: t, 0, h, e => by
    have e1 : o = some (some q) := by simpa using e
    subst e1
    cases h
  | o :: t, j + 1, h, e => by
    have e1 : t[j]? = some (some (some q)) := by simpa using e
    have h1 : jn_nr t = true := by
      rcases o with _ | _ | x
      · exact h
      · exact h
      · cases h
    exact jn_nr_at h1 e1
theorem jn_dvm {ρ : Nat → Nat} {σ : jx_St} {p : Nat} {fs : List (Option (Option Nat))} (h : jn_nr fs = true) (hσ : ∀ i, σ p i = 0) : fs.mapIdx (jx_fd ρ σ p) = fs.map jn_dv := by
  apply List.ext_getElem?
  intro j
  rw [List.getElem?_mapIdx, List.getElem?_map]
  cases h1 : fs[j]? with
  | none => rfl
  | some x =>
    rcases x with _ | _ | q
    · simp [jx_fd, jn_dv, hσ]
    · rfl
    · exact (jn_nr_at h h1).elim
def jn_new (ci N : Nat) (fs : List (Option (Option Nat))) : jn_Sp := fun _ nx _ _ _ mc ms pc lv st Λ σ =>
  bif jn_ok lv st Λ && (Nat.ble 1 mc && Nat.ble N ms) then nx (mc - 1) (ms - N) (pc + 3) lv (.ref Λ.length :: st) (Λ ++ [.inl (ci, fs)]) (jn_z σ Λ.length) else False
theorem jno_new {own C : String} {T : u_T} {N ix ci : Nat} {fs : List (Option (Option Nat))} {tt : Nat → FieldType} (ho : (jx_y k).cls = own) (hcl : jx_cl[ci]? = some (C, T, N)) (hws : ∀ w ∈ u_ws C T N, w ∈ jx_gw) (hty : ∀ a, a < N → parseFieldDescriptor (T a).2.2.1 = some (tt a)) (hclk : Cond.classLink own ix C ∈ jx_gw) (hins : Cond.instantiable C N ∈ jx_gw) (hini : Cond.initialized C ∈ jx_gw)
    (hnr : jn_nr fs = true) (hfs : ∀ j, j < N → defaultValue (tt j) = vp_V (fs.map jn_dv) j) (hd : decode (jx_b k) pc = .ok (.new ix, 3)) : jn_Snd k pc (jn_new ci N fs) := by
  intro l D cA ρ0 n0 A tb d Q p e R s m args below meth c QW X hmi hret htb nx mc ms lv st Λ σ hn h
  subst ho
  unfold jn_new at h
  cases hc : jn_ok lv st Λ && (Nat.ble 1 mc && Nat.ble N ms) with
  | false => rw [hc] at h; exact False.elim h
  | true =>
    rw [hc] at h
    rw [Bool.and_eq_true, Bool.and_eq_true] at hc
    obtain ⟨h8, hL, hrs, hrq⟩ := jn_okd hc.1
    have g1 := Nat.le_of_ble_eq_true hc.2.1
    have g2 := Nat.le_of_ble_eq_true hc.2.2
    intro ρ H locs ls cells slots HH hl hc1 hc2
    obtain ⟨hag, hn0, hinj, hAi, hP, hS⟩ := HH
    obtain ⟨hx, hb, hml, hown, hts, ⟨r1, r2⟩, ⟨hK1, hK2, hK3⟩, hA, ht8⟩ := X
    refine va_new (ci := ci) (fs := fs.map jn_dv) (C := C) (T := T) (N := N) hx hb hts hws tt hty hown (hts _ hclk) (hts _ hins) (hts _ hini) hK1 hP (jx_D hinj hAi) hS hA hcl hfs (by omega) (by omega) hd (fun q H1 hP1 hD1 hS1 => ?_)
    have e1 : jx_ce (jn_u ρ Λ.length q) cA (jn_z σ Λ.length) Λ.length (.inl (ci, fs)) = .inr (ci, fs.map jn_dv) := by
      show (Sum.inr (ci, fs.mapIdx (jx_fd (jn_u ρ Λ.length q) (jn_z σ Λ.length) Λ.length)) : va_E) = _
      rw [jn_dvm hnr (fun i => by simp [jn_z])]
    rw [← e1] at hP1 hD1
    have HH1 := jn_pushH ⟨hag, hn0, hinj, hAi, hP, hS⟩ h8 hL hP1 hD1 hS1
    have h9 := hn _ _ _ _ _ _ _ h (jn_u ρ Λ.length q) H1 locs ls (cells + 1) (slots + N) HH1 (jn_u_lv h8 hrq hl) (by omega) (by omega)
    rw [List.map_cons, jn_rs_eq (jn_u_ag ρ q h8) hrs] at h9
    have e2 : jx_v (jn_u ρ Λ.length q) (.ref Λ.length) = .ref q := congrArg Value.ref (jn_u_eq ρ Λ.length q)
    rw [e2] at h9
    exact h9
def jn_newa : jn_Sp := fun _ nx _ _ _ mc ms pc lv st Λ σ => match st with
  | .int v :: rest => ¬ v < 0 ∧ v.toNatClampNeg ≤ 1000 ∧ (bif jn_ok lv rest Λ && (Nat.ble 1 mc && Nat.ble v.toNatClampNeg ms) then nx (mc - 1) (ms - v.toNatClampNeg) (pc + 2) lv (.ref Λ.length :: rest) (Λ ++ [.inr v.toNatClampNeg]) (jn_z σ Λ.length) else False)
  | _ => False
theorem jno_newa {at_ : ArrayType} (hat : newarray.typeOf at_ = .int) (harr : Cond.arrayClass .int ∈ jx_gw) (hd : decode (jx_b k) pc = .ok (.newarray at_, 2)) : jn_Snd k pc jn_newa := by
  intro l D cA ρ0 n0 A tb d Q p e R s m args below meth c QW X hmi hret htb nx mc ms lv st Λ σ hn h
  unfold jn_newa at h
  split at h
  · rename_i v rest
    obtain ⟨hv, hv2, h⟩ := h
    cases hc : jn_ok lv rest Λ && (Nat.ble 1 mc && Nat.ble v.toNatClampNeg ms) with
    | false => rw [hc] at h; exact False.elim h
    | true =>
      rw [hc] at h
      rw [Bool.and_eq_true, Bool.and_eq_true] at hc
      obtain ⟨h8, hL, hrs, hrq⟩ := jn_okd hc.1
      have g1 := Nat.le_of_ble_eq_true hc.2.1
      have g2 := Nat.le_of_ble_eq_true hc.2.2
      intro ρ H locs ls cells slots HH hl hc1 hc2
      obtain ⟨hag, hn0, hinj, hAi, hP, hS⟩ := HH
      obtain ⟨hx, hb, hml, hown, hts, ⟨r1, r2⟩, ⟨hK1, hK2, hK3⟩, hA, ht8⟩ := X
      refine va_newa (a0 := (v.toNatClampNeg, .inl (fun _ => 0))) (N' := v.toNatClampNeg) hx hb (by rw [hat]; exact hts _ harr) hat hK1 hP (jx_D hinj hAi) hS hA (fun cA' => rfl) hv rfl (by rw [show componentBytes FieldType.int = 4 from rfl]; omega) (by omega) (by omega) hd (fun q cA' H1 hK' hP1 hD1 hS1 => ?_)
      have ec : cA' = cA := by
        have a1 : s.vm.findClass ("[" ++ FieldType.int.toString) = some cA := (hK'.2 0 (cA, .int) rfl).2
        have a2 : s.vm.findClass ("[" ++ FieldType.int.toString) = some cA' := (hK'.2 1 (cA', .int) rfl).2
        exact Option.some.inj (a2.symm.trans a1)
      subst ec
      have e1 : jx_ce (jn_u ρ Λ.length q) cA' (jn_z σ Λ.length) Λ.length (.inr v.toNatClampNeg) = .inl (cA', v.toNatClampNeg, .inl (fun _ => 0)) := by
        show (Sum.inl (cA', v.toNatClampNeg, Sum.inl (jn_z σ Λ.length Λ.length)) : va_E) = _
        have : jn_z σ Λ.length Λ.length = fun _ => 0 := by simp [jn_z]
        rw [this]
      rw [← e1] at hP1 hD1
      have HH1 := jn_pushH ⟨hag, hn0, hinj, hAi, hP, hS⟩ h8 hL hP1 hD1 hS1
      have h9 := hn _ _ _ _ _ _ _ h (jn_u ρ Λ.length q) H1 locs ls (cells + 1) (slots + v.toNatClampNeg) HH1 (jn_u_lv h8 hrq hl) (by omega) (by omega)
      rw [List.map_cons, jn_rs_eq (jn_u_ag ρ q h8) hrs] at h9
      have e2 : jx_v (jn_u ρ Λ.length q) (.ref Λ.length) = .ref q := congrArg Value.ref (jn_u_eq ρ Λ.length q)
      rw [e2] at h9
      exact h9
  · exact False.elim h
def jn_set (Λ : List jx_Lc) (p f q : Nat) : List jx_Lc := match Λ[p]? with
  | some (.inl o) => Λ.set p (.inl (o.1, o.2.set f (some (some q))))
  | _ => Λ
theorem jn_Wputr {ρ : Nat → Nat} {cA : ClassId} {Λ : List jx_Lc} {σ : jx_St} {p ci f q : Nat} {fs : List (Option (Option Nat))} (h : Λ[p]? = some (.inl (ci, fs))) :
    (jx_W ρ cA Λ σ).set p (ρ p, .inr (ci, (fs.mapIdx (jx_fd ρ σ p)).set f (.ref (ρ q)))) = jx_W ρ cA (Λ.set p (.inl (ci, fs.set f (some (some q))))) σ := by
  have hp := (List.getElem?_eq_some_iff.mp h).1
  apply List.ext_getElem?
  intro j
  by_cases hj : j = p
  · subst hj
    have hl : j < (jx_W ρ cA Λ σ).length := by simpa [jx_W] using hp
    rw [List.getElem?_set_self hl, jx_Wg, List.getElem?_set_self hp]
    show _ = some (ρ j, (Sum.inr (ci, (fs.set f (some (some q))).mapIdx (jx_fd ρ σ j)) : va_E))
    congr 4
    apply List.ext_getElem?
    intro i
    by_cases hi : i = f
    · subst hi
      by_cases hl2 : i < fs.length
      · rw [List.getElem?_set_self (by simpa using hl2), List.getElem?_mapIdx, List.getElem?_set_self hl2]
        rfl
      · rw [List.getElem?_eq_none (by simpa using hl2), List.getElem?_eq_none (by simpa using hl2)]
    · rw [List.getElem?_set_ne (Ne.symm hi), List.getElem?_mapIdx, List.getElem?_mapIdx, List.getElem?_set_ne (Ne.symm hi)]
  · rw [List.getElem?_set_ne (Ne.symm hj), jx_Wg, jx_Wg, List.getElem?_set_ne (Ne.symm hj)]
/-- a final reference field in the class's own constructor -/
def jn_putr (ci f : Nat) : jn_Sp := fun _ nx _ _ _ mc ms pc lv st Λ σ => match st with
  | .ref q :: .ref p :: rest => match Λ[p]? with
    | some (.inl o) => bif Nat.beq o.1 ci && Nat.ble (f + 1) o.2.length then nx mc ms (pc + 3) lv rest (Λ.set p (.inl (o.1, o.2.set f (some (some q))))) σ else False
    | _ => False
  | _ => False
theorem jno_putr {own : String} {ix ci f : Nat} {ty : FieldType} (ho : (jx_y k).cls = own) (hni : (jx_y k).name = "<init>") (hf : jx_fo own ix ci f ty) (hfi : ∀ C T N, jx_cl[ci]? = some (C, T, N) → (T f).2.2.2 = true ∧ (T f).1 = own) (hplain : ∃ C T N, jx_cl[ci]? = some (C, T, N) ∧ Cond.fieldLink own ix (T f).1 (T f).2.1 (T f).2.2.1 ∈ jx_gw) (hr : ∀ a : Nat, narrow ty (.ref a) = .ref a ∧ fits ty (.ref a) = true) (hd : decode (jx_b k) pc = .ok (.putfield ix, 3)) : jn_Snd k pc (jn_putr ci f) := by
  intro l D cA ρ0 n0 A tb d Q p e R s m args below meth c QW X hmi hret htb nx mc ms lv st Λ σ hn h
  subst ho
  obtain ⟨C, T, N, tt, hcl, hfN, hws, hty, hnm, htf, -⟩ := hf
  obtain ⟨C', T', N', hcl', hlk⟩ := hplain
  cases hcl.symm.trans hcl'
  unfold jn_putr at h
  split at h
  · rename_i a q rest
    cases hL : Λ[q]? with
    | none => rw [hL] at h; exact False.elim h
    | some o =>
      rw [hL] at h
      cases o with
      | inr n => exact False.elim h
      | inl o =>
        obtain ⟨ci', fs⟩ := o
        dsimp only at h
        cases hc : Nat.beq ci' ci && Nat.ble (f + 1) fs.length with
        | false => rw [hc] at h; exact False.elim h
        | true =>
          rw [hc] at h
          rw [Bool.and_eq_true] at hc
          have e0 := Nat.eq_of_beq_eq_true hc.1
          subst e0
          have hfl := Nat.le_of_ble_eq_true hc.2
          intro ρ H locs ls cells slots HH hl hc1 hc2
          obtain ⟨hag, hn0, hinj, hAi, hP, hS⟩ := HH
          obtain ⟨hx, hb, hml, hown, hts, ⟨r1, r2⟩, ⟨hK1, hK2, hK3⟩, hA, ht8⟩ := X
          have hW := jx_Wat (ρ := ρ) (cA := cA) (σ := σ) hL
          refine va_putF (v := .ref (ρ a)) hx hb hts hws tt hty hnm hown hK1 hP (jx_D hinj hAi) hS q hW hcl f hfN (hts _ hlk) (fun _ z => z) (hfi C T N hcl).1 (hmi hni) (hfi C T N hcl).2 (by rw [hty f hfN, htf]) (hr _).1 (hr _).2 (by rw [List.length_mapIdx]; exact hfl) hd (fun H1 locs1 hP1 hD1 hS1 => ?_)
          rw [jn_Wputr hL] at hP1
          exact hn _ _ _ _ _ _ _ h ρ H1 locs1 ls cells slots ⟨hag, by simpa using hn0, fun i j hi hj => hinj i j (by simpa using hi) (by simpa using hj), fun i hi => hAi i (by simpa using hi), hP1, hS1⟩ hl hc1 hc2
  · exact False.elim h
def jn_obj : jn_Sp := fun _ nx _ _ _ mc ms pc lv st Λ σ => match st with
  | .ref _ :: rest => bif Nat.ble (jx_ct rest) 8 then nx mc ms (pc + 3) lv rest Λ σ else False
  | _ => False
theorem jno_obj {own : String} {ix : Nat} (ho : (jx_y k).cls = own) (hlk : Cond.methodLink own ix Lib.objectInit ∈ jx_gw) (hin : Cond.instanceMethod Lib.objectInit ∈ jx_gw) (hco : Cond.code Lib.objectInit ⟨#[0xb1]⟩ 1 none ∈ jx_gw) (hd : decode (jx_b k) pc = .ok (.invokespecial ix, 3)) : jn_Snd k pc jn_obj := by
  intro l D cA ρ0 n0 A tb d Q p e R s m args below meth c QW X hmi hret htb nx mc ms lv st Λ σ hn h
  subst ho
  unfold jn_obj at h
  split at h
  · rename_i a rest
    cases hcr : Nat.ble (jx_ct rest) 8 with
    | false => rw [hcr] at h; exact False.elim h
    | true =>
      rw [hcr] at h
      intro ρ H locs ls cells slots HH hl hc1 hc2
      obtain ⟨hx, hb, hml, hown, hts, ⟨r1, r2⟩, hKK, hA, ht8⟩ := X
      have h8 : ((rest.map (jx_v ρ)).map fun v => v.category).sum ≤ 8 := by rw [jx_catm, jx_ctm]; exact Nat.le_of_ble_eq_true hcr
      exact W.objInit (rest := rest.map (jx_v ρ)) (a := ρ a) hx hb hown (hts _ hlk) (hts _ hin) (hts _ hco) rfl (by rw [hml]; exact hl.1) rfl hd (by omega) (by show 2 * 0 + _ + 12 ≤ _; omega) (hn _ _ _ _ _ _ _ h ρ H locs ls cells slots HH hl hc1 hc2)
  · exact False.elim h
def jn_vr : jn_Sp := fun _ _ _ _ rt _ _ _ _ st Λ σ => match st with
  | [] => rt Λ σ
  | _ => False
theorem jno_vr (hd : decode (jx_b k) pc = .ok (.return_, 1)) : jn_Snd k pc jn_vr := by
  intro l D cA ρ0 n0 A tb d Q p e R s m args below meth c QW X hmi hret htb nx mc ms lv st Λ σ hn h
  unfold jn_vr at h
  split at h
  · intro ρ H locs ls cells slots HH hl hc1 hc2
    exact hret ρ H locs ls cells slots mc ms pc Λ σ hd h HH hc1 hc2
  · exact False.elim h
/-- a call of a constructor, core -/
theorem jn_callI {l : Launch} {D : va_G} {cA : ClassId} {ρ0 : Nat → Nat} {n0 : Nat} {A : Nat → Prop} {tb : jx_Tb} {d : Nat} {p : Program} {e : Env} {R : Room} {s : State} {m : MethodId} {args : Array Value} {below : List Frame} {meth : Method} {c : Code} {QW : State → Prop} {ρ : Nat → Nat} {H : Heap} {locs : List Loc} {ls : Array Slot} {cells slots mc ms mc' ms' : Nat} {lv : jx_Lv} {as rest : List Value} {q : Nat} {Λ : List jx_Lc} {σ : jx_St} {K : List jx_Lc → jx_St → Prop} {C : String} {n k' ix : Nat}
    (X : jn_X D cA ρ0 A tb (d + 1) k p R s m args c) (htb : ∀ p n f, jx_tb0 p = some (n, f) → tb p = some (n, f)) (HH : jn_H D cA ρ0 n0 A s ρ Λ σ H locs) (hl : lv_has ls (jx_nL k) (lv.map (jx_q ρ))) (hc1 : cells + mc ≤ R.cells) (hc2 : slots + ms ≤ R.slots)
    (hok : jx_ok k' C n) (hln : jx_ln (jx_y k).cls ix k') (hin : Cond.instanceMethod (jx_y k') ∈ jx_gw) (hyn : (jx_y k').name = "<init>") (hrn : jx_ret k' = none) (hd : decode (jx_b k) pc = .ok (.invokespecial ix, 3)) (hn : as.length = n) (hrest : jx_ct rest ≤ 8) (hv : jn_ok lv rest Λ = true) (hm : mc' ≤ mc ∧ ms' ≤ ms) (hC : jn_C l D cA d k' mc' ms' (.ref q :: as) Λ σ K)
    (kk : ∀ Λ' σ', K Λ' σ' → jn_I l D cA ρ0 n0 A k p e R s m args below meth c QW (mc - mc') (ms - ms') (pc + 3) lv rest Λ' σ') :
    W p l e R s m args below meth c H locs cells slots QW (F0 m pc ls ((as.reverse ++ .ref q :: rest).map (jx_v ρ))) := by
  obtain ⟨hag, hn0, hinj, hAi, hP, hS⟩ := HH
  obtain ⟨hx, hb, hml, hown, hts, ⟨r1, r2⟩, ⟨hK1, hK2, hK3⟩, hA, ht8⟩ := X
  obtain ⟨hcw, hiw, ⟨hyC, hy1, hy2, hnp⟩, hmx⟩ := hok
  obtain ⟨h8, hL, hrs, hrq⟩ := jn_okd hv
  have hG : GoodIn jx_gw (jx_ws k') := jx_G hcw
  have hini : (Cond.initialized (jx_y k').cls).before args s = true := by rw [hyC]; exact hts _ hiw
  have hR : (jn_rm d mc' ms').frames + 1 ≤ R.frames ∧ 8 + (jx_nL k' + 11) + (jn_rm d mc' ms').locals ≤ R.locals := ⟨r1, by show 8 + (jx_nL k' + 11) + 40 * d ≤ _; omega⟩
  have hAA : ∀ x, jn_A ρ Λ H.size x → A x := fun x z => by
    rcases z with ⟨i, hi, e⟩ | z
    · rw [e]; exact hAi i hi
    · exact hA x (Nat.le_trans hS.1 z)
  have hblind : FrameBlind (va_Pc ((Value.ref q :: as).map (jx_v ρ)) (fun U => U.heap.size = H.size ∧ va_P D jx_cl (jx_W ρ cA Λ σ) U.heap ∧ jx_K D cA ρ Λ (jn_A ρ Λ H.size) jx_tb0 U)) := fun _ _ _ _ z => ⟨z.1, z.2.1, z.2.2.1, jx_K_calling z.2.2.2⟩
  have hKs : jx_K D cA ρ Λ A tb s := ⟨hK1, hinj, jn_Zag hag ht8 hK2, hK3⟩
  have hpre : PreS s H (va_Pc ((Value.ref q :: as).map (jx_v ρ)) (fun U => U.heap.size = H.size ∧ va_P D jx_cl (jx_W ρ cA Λ σ) U.heap ∧ jx_K D cA ρ Λ (jn_A ρ Λ H.size) jx_tb0 U)) (.ref (ρ q) :: as.map (jx_v ρ)) :=
    ⟨hblind, fun U hU hW => ⟨rfl, by rw [hU], by rw [hU]; exact hP, jx_K_sub (jx_K_at hKs hS hU hW) hAA htb⟩⟩
  have hst : (F0 m pc ls ((as.reverse ++ .ref q :: rest).map (jx_v ρ))).stack = (as.map (jx_v ρ)).reverse ++ .ref (ρ q) :: rest.map (jx_v ρ) := by
    show (as.reverse ++ .ref q :: rest).map (jx_v ρ) = _
    rw [List.map_append, List.map_reverse]
    rfl
  have hrun : va_Run p l e R s m args below meth c H locs cells slots mc' ms' (F0 m pc ls ((as.reverse ++ .ref q :: rest).map (jx_v ρ))) (rest.map (jx_v ρ)) (jn_Q D cA ρ Λ H.size K (Value.ref (ρ q) :: as.map (jx_v ρ)).toArray) (jn_A ρ Λ H.size) := by
    have hcw' : Cond.code (jx_y k') (jx_b k') (jx_nL k') none ∈ jx_ws k' := by rw [← hrn]; exact List.mem_cons_self
    have hws : jx_ws k' = Cond.code (jx_y k') (jx_b k') (jx_nL k') none :: jx_gw := by rw [← hrn]; rfl
    rcases hln with hlk | ⟨host, hlk⟩
    · exact va_runI (As := as.map (jx_v ρ)) (rest := rest.map (jx_v ρ)) ⟨hx, hb, hml, hown, hts⟩ (hC ρ H.size) ⟨callB_of n hts hG hws rfl rfl hini (hts _ hlk) ⟨hy1, hy2, hnp⟩ hR, hyn, hts _ hin⟩ hpre rfl (by rw [List.length_map]; exact hn) hl.1 hst (lv_room (by rw [jx_catm, jx_ctm]; exact hrest)) hd ⟨by omega, by omega⟩
    · exact va_runIN (As := as.map (jx_v ρ)) (rest := rest.map (jx_v ρ)) ⟨hx, hb, hml, hown, hts⟩ (hC ρ H.size) ⟨va_cnB n hts hG hws rfl rfl (hK3 _ hlk) hini ⟨hy1, hy2, hnp⟩ hR, hyn, hts _ hin⟩ hpre rfl (by rw [List.length_map]; exact hn) hl.1 hst (lv_room (by rw [jx_catm, jx_ctm]; exact hrest)) hd ⟨by omega, by omega⟩
  intro T hT XX
  obtain ⟨v, st₀, t, T', L, g0, X', hL', e1, e2, ⟨⟨Λ', σ', ρ', hv', hq, hag', hle, hinj', hAi', hP'⟩, hz, hk⟩, stp⟩ := hrun T hT XX
  have hvn : v = none := by injection hv'
  subst hvn
  rw [g0] at hz hk
  have HH' : jn_H D cA ρ0 n0 A s ρ' Λ' σ' T'.heap (locs ++ L) := by
    refine ⟨jn_ag_trans hag hag' hn0, Nat.le_trans hn0 hle, hinj', fun i hi => hAA _ (hAi' i hi), by rw [e1]; exact hP', Nat.le_trans hS.1 (by rw [e1]; exact hz), fun x h1 h2 => ?_, fun x hx => ?_⟩
    · rw [e1, hk x (Nat.lt_of_lt_of_le h1 hS.1) (fun z => h2 (hAA x z))]
      exact hS.2.1 x h1 h2
    · rcases List.mem_append.mp hx with h | h
      · exact hS.2.2 x h
      · exact hAA _ (hL' x h)
  have h9 := kk Λ' σ' hq ρ' T'.heap (locs ++ L) ls (cells + mc') (slots + ms') HH' (by rw [jn_rq_eq hag' hrq]; exact hl) (by omega) (by omega)
  rw [jn_rs_eq hag' hrs] at h9
  obtain ⟨t2, a1, b1⟩ := h9 T' rfl X'
  exact ⟨t2, stp t2 a1, b1⟩
def jn_i0 (k' mc' ms' : Nat) : jn_Sp := fun _ nx _ cn _ mc ms pc lv st Λ σ => match st with
  | .ref q :: rest => bif Nat.ble (jx_ct rest) 8 && (jn_ok lv rest Λ && (Nat.ble mc' mc && Nat.ble ms' ms)) then cn k' mc' ms' [.ref q] Λ σ (fun Λ' σ' => nx (mc - mc') (ms - ms') (pc + 3) lv rest Λ' σ') else False
  | _ => False
def jn_i1 (k' mc' ms' : Nat) : jn_Sp := fun _ nx _ cn _ mc ms pc lv st Λ σ => match st with
  | a1 :: .ref q :: rest => bif Nat.ble (jx_ct rest) 8 && (jn_ok lv rest Λ && (Nat.ble mc' mc && Nat.ble ms' ms)) then cn k' mc' ms' [.ref q, a1] Λ σ (fun Λ' σ' => nx (mc - mc') (ms - ms') (pc + 3) lv rest Λ' σ') else False
  | _ => False
theorem jno_i0 {own C : String} {ix k' mc' ms' : Nat} (ho : (jx_y k).cls = own) (hok : jx_ok k' C 0) (hln : jx_ln own ix k') (hin : Cond.instanceMethod (jx_y k') ∈ jx_gw) (hyn : (jx_y k').name = "<init>") (hrn : jx_ret k' = none) (hd : decode (jx_b k) pc = .ok (.invokespecial ix, 3)) : jn_Snd k pc (jn_i0 k' mc' ms') := by
  intro l D cA ρ0 n0 A tb d Q p e R s m args below meth c QW X hmi hret htb nx mc ms lv st Λ σ hn h
  subst ho
  unfold jn_i0 at h
  split at h
  · rename_i q rest
    cases hc : Nat.ble (jx_ct rest) 8 && (jn_ok lv rest Λ && (Nat.ble mc' mc && Nat.ble ms' ms)) with
    | false => rw [hc] at h; exact False.elim h
    | true =>
      rw [hc] at h
      rw [Bool.and_eq_true, Bool.and_eq_true, Bool.and_eq_true] at hc
      intro ρ H locs ls cells slots HH hl hc1 hc2
      exact jn_callI (as := []) X htb HH hl hc1 hc2 hok hln hin hyn hrn hd rfl (Nat.le_of_ble_eq_true hc.1) hc.2.1 ⟨Nat.le_of_ble_eq_true hc.2.2.1, Nat.le_of_ble_eq_true hc.2.2.2⟩ h (fun Λ' σ' hq => hn _ _ _ _ _ _ _ hq)
  · exact False.elim h
theorem jno_i1 {own C : String} {ix k' mc' ms' : Nat} (ho : (jx_y k).cls = own) (hok : jx_ok k' C 1) (hln : jx_ln own ix k') (hin : Cond.instanceMethod (jx_y k') ∈ jx_gw) (hyn : (jx_y k').name = "<init>") (hrn : jx_ret k' = none) (hd : decode (jx_b k) pc = .ok (.invokespecial ix, 3)) : jn_Snd k pc (jn_i1 k' mc' ms') := by
  intro l D cA ρ0 n0 A tb d Q p e R s m args below meth c QW X hmi hret htb nx mc ms lv st Λ σ hn h
  subst ho
  unfold jn_i1 at h
  split at h
  · rename_i a1 q rest
    cases hc : Nat.ble (jx_ct rest) 8 && (jn_ok lv rest Λ && (Nat.ble mc' mc && Nat.ble ms' ms)) with
    | false => rw [hc] at h; exact False.elim h
    | true =>
      rw [hc] at h
      rw [Bool.and_eq_true, Bool.and_eq_true, Bool.and_eq_true] at hc
      intro ρ H locs ls cells slots HH hl hc1 hc2
      exact jn_callI (as := [a1]) X htb HH hl hc1 hc2 hok hln hin hyn hrn hd rfl (Nat.le_of_ble_eq_true hc.1) hc.2.1 ⟨Nat.le_of_ble_eq_true hc.2.2.1, Nat.le_of_ble_eq_true hc.2.2.2⟩ h (fun Λ' σ' hq => hn _ _ _ _ _ _ _ hq)
  · exact False.elim h
theorem jno_none (k pc : Nat) : jn_Snd k pc (fun _ _ _ _ _ _ _ _ _ _ _ _ => False) := by
  intro l D cA ρ0 n0 A tb d Q p e R s m args below meth c QW X hmi hret htb nx mc ms lv st Λ σ hn h
  exact False.elim h
theorem jno_le {n : Nat} {a b : jn_Sp} (ha : jn_Snd k pc a) (hb : jn_Snd k pc b) : jn_Snd k pc (bif Nat.ble pc n then a else b) := by
  cases Nat.ble pc n
  · exact hb
  · exact ha
def jn_none : jn_Sp := fun _ _ _ _ _ _ _ _ _ _ _ _ => False
theorem jno_at {n : Nat} {a : jn_Sp} (ha : jn_Snd k n a) : jn_Snd k pc (bif Nat.beq pc n then a else jn_none) := by
  cases h : Nat.beq pc n with
  | false => exact jno_none k pc
  | true =>
    have e := Nat.eq_of_beq_eq_true h
    subst e
    exact ha
def jn_So (k : Nat) (tab : Nat → jn_Sp) : Prop := ∀ pc, jn_Snd k pc (tab pc)
noncomputable def jn_rn (tb : jx_Tb) (tab : Nat → jn_Sp) (cl : List jx_Lc → jx_Cl) (cn : jn_Cn) (rt : List jx_Lc → jx_St → Prop) (ex : jn_Nx) (n : Nat) : jn_Nx :=
  Nat.rec (motive := fun _ => jn_Nx) ex (fun _ ih => fun mc ms pc lv st Λ σ => tab pc tb ih cl cn rt mc ms pc lv st Λ σ) n
end JNS
section JNT
variable {k : Nat} {l : Launch} {D : va_G} {cA : ClassId} {ρ0 : Nat → Nat} {n0 : Nat} {A : Nat → Prop} {tb : jx_Tb} {d : Nat} {Q : List jx_Lc → jx_St → Prop} {p : Program} {e : Env} {R : Room} {s : State} {m : MethodId} {args : Array Value} {below : List Frame} {meth : Method} {c : Code} {QW : State → Prop}
theorem jn_rnI {tab : Nat → jn_Sp} (hs : jn_So k tab) (X : jn_X D cA ρ0 A tb (d + 1) k p R s m args c) (hmi : (jx_y k).name = "<init>" → meth.name = "<init>") (hret : jn_R l D cA ρ0 n0 A k p e R s m args below meth c QW Q) (htb : ∀ p n f, jx_tb0 p = some (n, f) → tb p = some (n, f)) (ex : jn_Nx) (hex : ∀ mc' ms' pc' lv' st' Λ' σ', ex mc' ms' pc' lv' st' Λ' σ' → jn_I l D cA ρ0 n0 A k p e R s m args below meth c QW mc' ms' pc' lv' st' Λ' σ') : ∀ (n mc ms pc : Nat) (lv : jx_Lv) (st : List Value) (Λ : List jx_Lc) (σ : jx_St),
    jn_rn tb tab (fun Λ k' as σ K => ∀ ρ, jx_C l D cA ρ Λ d k' as σ K) (fun k' mc' ms' as Λ σ K => jn_C l D cA d k' mc' ms' as Λ σ K) Q ex n mc ms pc lv st Λ σ → jn_I l D cA ρ0 n0 A k p e R s m args below meth c QW mc ms pc lv st Λ σ
  | 0, mc, ms, pc, lv, st, Λ, σ, h => hex mc ms pc lv st Λ σ h
  | n + 1, mc, ms, pc, lv, st, Λ, σ, h => hs pc l D cA ρ0 n0 A tb d Q p e R s m args below meth c QW X hmi hret htb _ mc ms lv st Λ σ (jn_rnI hs X hmi hret htb ex hex n) h
/-- a constructor's contract out of its walk -/
theorem jn_in {tab : Nat → jn_Sp} (hs : jn_So k tab) (n : Nat) {mc ms : Nat} {as : List Value} {Λ : List jx_Lc} {σ : jx_St} (hp : plainName (jx_y k).cls = true) (hni : (jx_y k).name = "<init>") (hrn : jx_ret k = none) (ht8 : ∀ p n f, jx_tb0 p = some (n, f) → 800 ≤ p) (hn : (lg_sl as).length ≤ jx_nL k)
    (h : jn_rn jx_tb0 tab (fun Λ k' as σ K => ∀ ρ, jx_C l D cA ρ Λ d k' as σ K) (fun k' mc' ms' as Λ σ K => jn_C l D cA d k' mc' ms' as Λ σ K) Q (fun _ _ _ _ _ _ _ => False) n mc ms 0 (lv_args 0 as) [] Λ σ) : jn_C l D cA (d + 1) k mc ms as Λ σ Q := by
  intro ρ sz
  refine Met.ofW (cc := jx_b k) (maxL := jx_nL k) (ret := jx_ret k) hp rfl ?_
  intro p e s m args below meth c s₁ B hml hv
  obtain ⟨rfl, hsz, hP, hK⟩ := hv
  subst hsz
  have hx := B.exec
  have hb := B.bytes
  have hr := B.returns
  have hts : ∀ w ∈ jx_gw, w.before _ s = true := fun w h => atoms_spec (ws := jx_ws k) B.pre w (List.mem_cons_of_mem _ h)
  have hown : s.vm.findClass (jx_y k).cls = some m.cls := findClass_of_methodNamed B.named
  have hlocks := B.notSynchronized
  have hmi : (jx_y k).name = "<init>" → meth.name = "<init>" := fun h => by rw [← h]; exact (name_of_methodNamed B.named B.method).1
  have hl := lv_entry (as.map (jx_v ρ)) (n := jx_nL k) (by rw [jx_slm]; exact hn)
  rw [lg_entry_eq]
  generalize (lg_sl (as.map (jx_v ρ)) ++ List.replicate (jx_nL k - (lg_sl (as.map (jx_v ρ))).length) Slot.unset).toArray = ls at hl ⊢
  rw [jx_argm] at hl
  have X : jn_X D cA ρ (jn_A ρ Λ s.heap.size) jx_tb0 (d + 1) k p (headSpec (jx_ws k) (jn_rm (d + 1) mc ms)).room s m (as.map (jx_v ρ)).toArray c :=
    ⟨hx, hb, hml, hown, hts, ⟨Nat.le_refl _, Nat.le_refl _⟩, ⟨hK.1, hK.2.2.1, hK.2.2.2⟩, fun q hq => Or.inr hq, ht8⟩
  have hret : jn_R l D cA ρ Λ.length (jn_A ρ Λ s.heap.size) k p e (headSpec (jx_ws k) (jn_rm (d + 1) mc ms)).room s m (as.map (jx_v ρ)).toArray below meth c (MQ below (jn_Q D cA ρ Λ s.heap.size Q) (as.map (jx_v ρ)).toArray s mc ms (jn_A ρ Λ s.heap.size)) Q := by
    intro ρ' H locs ls cells slots mc' ms' pc Λ' σ' hd hq HH hc1 hc2
    obtain ⟨hag, hn0, hinj, hAi, hP, hS⟩ := HH
    have g1 : cells ≤ mc := Nat.le_trans (Nat.le_add_right _ _) hc1
    have g2 : slots ≤ ms := Nat.le_trans (Nat.le_add_right _ _) hc2
    refine W.widen (k := mc) (n := ms) g1 g2 ?_
    exact W.vret hx hb (hr.trans hrn) (fun t ht hW => ⟨⟨Λ', σ', ρ', rfl, hq, hag, hn0, hinj, hAi, by rw [ht]; exact hP⟩, hS.F ht⟩) hS.2.2 hd
  exact jn_rnI hs X hmi hret (fun _ _ _ h => h) _ (fun _ _ _ _ _ _ _ h => False.elim h) n mc ms 0 (lv_args 0 as) [] Λ σ h ρ s.heap [] ls 0 0 ⟨fun _ _ => rfl, Nat.le_refl _, hK.2.1, fun i hi => Or.inl ⟨i, hi, rfl⟩, hP, va_S.rf⟩ hl (by show 0 + mc ≤ mc; omega) (by show 0 + ms ≤ ms; omega)
end JNT

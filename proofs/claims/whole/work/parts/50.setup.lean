/-! the law: what holds at its entry, as the abstract machine wants it -/
def jx_tbS (L : Nat) (xs : Nat → Int32) : jx_Tb := fun p => bif Nat.beq p 800 then some (L, xs) else jx_tb0 p
theorem jx_tbS0 {L : Nat} {xs : Nat → Int32} : ∀ p n f, jx_tb0 p = some (n, f) → jx_tbS L xs p = some (n, f) := by
  intro p n f h
  unfold jx_tbS
  have h8 := jx_tb8 p n f h
  cases h1 : Nat.beq p 800 with
  | true =>
    have e := Nat.eq_of_beq_eq_true h1
    subst e
    cases h
  | false => exact h
theorem jx_tbS8 {L : Nat} {xs : Nat → Int32} : ∀ p n f, jx_tbS L xs p = some (n, f) → 800 ≤ p := by
  intro p n f h
  unfold jx_tbS at h
  cases h1 : Nat.beq p 800 with
  | true => have e := Nat.eq_of_beq_eq_true h1; omega
  | false => rw [h1] at h; exact jx_tb8 p n f h
theorem jx_cAof {s : State} {args : Array Value} (h : (Cond.arrayClass .int).before args s = true) : ∃ cA : ClassId, ArrOfT s cA .int ∧ va_RA s cA .int := by
  obtain ⟨c, k, comp, h1, h2, h3⟩ := Cond.arrayClass_spec h
  exact ⟨c, fun n z => ⟨fun k h => (by cases h), k, h2, comp, h3⟩, h1⟩
theorem jx_onT {w : Cond} (h : jx_isN w = true) : w.onTables = true := by
  cases w <;> first | rfl | (cases h)
theorem jx_Kof {s : State} {args : Array Value} (hts : ∀ w ∈ jx_gw, w.before args s = true) : ∃ (D : va_G) (cA : ClassId), va_K D jx_cl [(cA, .int)] s := by
  obtain ⟨c0, i0, k0⟩ := u_known (ws := jx_gw) hts jhl_0 (hts _ jw_12)
  obtain ⟨c1, i1, k1⟩ := u_known (ws := jx_gw) hts jhl_1 (hts _ jw_20)
  obtain ⟨c2, i2, k2⟩ := u_known (ws := jx_gw) hts jhl_2 (hts _ jw_30)
  obtain ⟨c3, i3, k3⟩ := u_known (ws := jx_gw) hts jhl_3 (hts _ jw_35)
  obtain ⟨c4, i4, k4⟩ := u_known (ws := jx_gw) hts jhl_4 (hts _ jw_45)
  obtain ⟨c5, i5, k5⟩ := u_known (ws := jx_gw) hts jhl_5 (hts _ jw_80)
  obtain ⟨c6, i6, k6⟩ := u_known (ws := jx_gw) hts jhl_6 (hts _ jw_86)
  obtain ⟨c7, i7, k7⟩ := u_known (ws := jx_gw) hts jhl_7 (hts _ jw_123)
  obtain ⟨c8, i8, k8⟩ := u_known (ws := jx_gw) hts jhl_8 (hts _ jw_461)
  obtain ⟨cA, hA1, hA2⟩ := jx_cAof (hts _ jw_28)
  refine ⟨(fun i => match i with | 0 => c0 | 1 => c1 | 2 => c2 | 3 => c3 | 4 => c4 | 5 => c5 | 6 => c6 | 7 => c7 | _ => c8, fun i => match i with | 0 => i0 | 1 => i1 | 2 => i2 | 3 => i3 | 4 => i4 | 5 => i5 | 6 => i6 | 7 => i7 | _ => i8), cA, ?_, ?_⟩
  · intro c q hq
    match c, hq with
    | 0, hq => cases hq; exact k0
    | 1, hq => cases hq; exact k1
    | 2, hq => cases hq; exact k2
    | 3, hq => cases hq; exact k3
    | 4, hq => cases hq; exact k4
    | 5, hq => cases hq; exact k5
    | 6, hq => cases hq; exact k6
    | 7, hq => cases hq; exact k7
    | 8, hq => cases hq; exact k8
    | n + 9, hq => exact absurd hq (by simp [jx_cl])
  · intro k q hk
    match k, hk with
    | 0, hk => cases hk; exact ⟨hA1, hA2⟩
    | n + 1, hk => exact absurd hk (by simp)
set_option maxRecDepth 100000 in
theorem jx_st900 {s : State} {args : Array Value} {A : Nat → Prop} (hts : ∀ w ∈ lw_tbl, w.before args s = true) (hg : (Jvm.Cond.and given_1 narrow_1).before args s = true) (hA : ∀ a : Nat, a < s.heap.size → ¬ A a) : ∃ t : Nat, va_Z "ScriptLedger$Machine" "ARGUMENTS" "[I" (.ref t) A s s.heap ∧ va_T .int t 11 (fun j => .int (jx_f900 j)) A s s.heap := by
  have hs := flat_of_before _ hg
  have harr : (Cond.arrayOf (Term.static "ScriptLedger$Machine" "ARGUMENTS" "[I") .int).before args s = true := hs _ (by decide +kernel)
  have hlen := va_eqt (t := .length (Term.static "ScriptLedger$Machine" "ARGUMENTS" "[I")) (z := 11) (hs _ (by decide +kernel))
  have h0 := va_eqt (t := .elem (Term.static "ScriptLedger$Machine" "ARGUMENTS" "[I") (.int 0)) (z := 2) (hs _ (by decide +kernel))
  have h1 := va_eqt (t := .elem (Term.static "ScriptLedger$Machine" "ARGUMENTS" "[I") (.int 1)) (z := 2) (hs _ (by decide +kernel))
  have h2 := va_eqt (t := .elem (Term.static "ScriptLedger$Machine" "ARGUMENTS" "[I") (.int 2)) (z := 2) (hs _ (by decide +kernel))
  have h3 := va_eqt (t := .elem (Term.static "ScriptLedger$Machine" "ARGUMENTS" "[I") (.int 3)) (z := 2) (hs _ (by decide +kernel))
  have h4 := va_eqt (t := .elem (Term.static "ScriptLedger$Machine" "ARGUMENTS" "[I") (.int 4)) (z := 2) (hs _ (by decide +kernel))
  have h5 := va_eqt (t := .elem (Term.static "ScriptLedger$Machine" "ARGUMENTS" "[I") (.int 5)) (z := 2) (hs _ (by decide +kernel))
  have h6 := va_eqt (t := .elem (Term.static "ScriptLedger$Machine" "ARGUMENTS" "[I") (.int 6)) (z := 3) (hs _ (by decide +kernel))
  have h7 := va_eqt (t := .elem (Term.static "ScriptLedger$Machine" "ARGUMENTS" "[I") (.int 7)) (z := 2) (hs _ (by decide +kernel))
  have h8 := va_eqt (t := .elem (Term.static "ScriptLedger$Machine" "ARGUMENTS" "[I") (.int 8)) (z := 1) (hs _ (by decide +kernel))
  have h9 := va_eqt (t := .elem (Term.static "ScriptLedger$Machine" "ARGUMENTS" "[I") (.int 9)) (z := 1) (hs _ (by decide +kernel))
  have h10 := va_eqt (t := .elem (Term.static "ScriptLedger$Machine" "ARGUMENTS" "[I") (.int 10)) (z := 1) (hs _ (by decide +kernel))
  obtain ⟨t, ht, hT⟩ := va_Tof (tm := (Term.static "ScriptLedger$Machine" "ARGUMENTS" "[I")) (ty := .int) (N := 11) (f := fun j => .int (jx_f900 j)) (A := A) (by decide) harr hlen (fun j hj => match j, hj with
    | 0, _ => h0
    | 1, _ => h1
    | 2, _ => h2
    | 3, _ => h3
    | 4, _ => h4
    | 5, _ => h5
    | 6, _ => h6
    | 7, _ => h7
    | 8, _ => h8
    | 9, _ => h9
    | 10, _ => h10
    | n + 11, hj => absurd hj (by omega)) hA
  exact ⟨t, va_Zref (hts _ (List.mem_of_getElem? (i := 461) (by decide +kernel))) (hts _ (List.mem_of_getElem? (i := 60) (by decide +kernel))) ht hA, hT⟩
set_option maxRecDepth 100000 in
theorem jx_st901 {s : State} {args : Array Value} {A : Nat → Prop} (hts : ∀ w ∈ lw_tbl, w.before args s = true) (hg : (Jvm.Cond.and given_1 narrow_1).before args s = true) (hA : ∀ a : Nat, a < s.heap.size → ¬ A a) : ∃ t : Nat, va_Z "ScriptLedger$Machine" "COSTS" "[I" (.ref t) A s s.heap ∧ va_T .int t 11 (fun j => .int (jx_f901 j)) A s s.heap := by
  have hs := flat_of_before _ hg
  have harr : (Cond.arrayOf (Term.static "ScriptLedger$Machine" "COSTS" "[I") .int).before args s = true := hs _ (by decide +kernel)
  have hlen := va_eqt (t := .length (Term.static "ScriptLedger$Machine" "COSTS" "[I")) (z := 11) (hs _ (by decide +kernel))
  have h0 := va_eqt (t := .elem (Term.static "ScriptLedger$Machine" "COSTS" "[I") (.int 0)) (z := 1) (hs _ (by decide +kernel))
  have h1 := va_eqt (t := .elem (Term.static "ScriptLedger$Machine" "COSTS" "[I") (.int 1)) (z := 1) (hs _ (by decide +kernel))
  have h2 := va_eqt (t := .elem (Term.static "ScriptLedger$Machine" "COSTS" "[I") (.int 2)) (z := 3) (hs _ (by decide +kernel))
  have h3 := va_eqt (t := .elem (Term.static "ScriptLedger$Machine" "COSTS" "[I") (.int 3)) (z := 3) (hs _ (by decide +kernel))
  have h4 := va_eqt (t := .elem (Term.static "ScriptLedger$Machine" "COSTS" "[I") (.int 4)) (z := 1) (hs _ (by decide +kernel))
  have h5 := va_eqt (t := .elem (Term.static "ScriptLedger$Machine" "COSTS" "[I") (.int 5)) (z := 1) (hs _ (by decide +kernel))
  have h6 := va_eqt (t := .elem (Term.static "ScriptLedger$Machine" "COSTS" "[I") (.int 6)) (z := 1) (hs _ (by decide +kernel))
  have h7 := va_eqt (t := .elem (Term.static "ScriptLedger$Machine" "COSTS" "[I") (.int 7)) (z := 1) (hs _ (by decide +kernel))
  have h8 := va_eqt (t := .elem (Term.static "ScriptLedger$Machine" "COSTS" "[I") (.int 8)) (z := 1) (hs _ (by decide +kernel))
  have h9 := va_eqt (t := .elem (Term.static "ScriptLedger$Machine" "COSTS" "[I") (.int 9)) (z := 1) (hs _ (by decide +kernel))
  have h10 := va_eqt (t := .elem (Term.static "ScriptLedger$Machine" "COSTS" "[I") (.int 10)) (z := 1) (hs _ (by decide +kernel))
  obtain ⟨t, ht, hT⟩ := va_Tof (tm := (Term.static "ScriptLedger$Machine" "COSTS" "[I")) (ty := .int) (N := 11) (f := fun j => .int (jx_f901 j)) (A := A) (by decide) harr hlen (fun j hj => match j, hj with
    | 0, _ => h0
    | 1, _ => h1
    | 2, _ => h2
    | 3, _ => h3
    | 4, _ => h4
    | 5, _ => h5
    | 6, _ => h6
    | 7, _ => h7
    | 8, _ => h8
    | 9, _ => h9
    | 10, _ => h10
    | n + 11, hj => absurd hj (by omega)) hA
  exact ⟨t, va_Zref (hts _ (List.mem_of_getElem? (i := 467) (by decide +kernel))) (hts _ (List.mem_of_getElem? (i := 60) (by decide +kernel))) ht hA, hT⟩
/-- the fixed places: the script and the two tables -/
def jx_r0 (b t1 t2 : Nat) : Nat → Nat := fun i => bif Nat.beq i 800 then b else bif Nat.beq i 900 then t1 else bif Nat.beq i 901 then t2 else 0
theorem jx_start {p : Program} {s : State} {m : MethodId} {c : Code} {b L : Nat} {xs : Nat → Int32} {n : Nat} (hx : p.tables.exec = Jvm.exec) (hb : c.code = code) (hml : c.maxLocals = 4) (hown : s.vm.findClass "ScriptLedgerLaw" = some m.cls) (hts : ∀ w ∈ lw_tbl, w.before #[Value.ref b] s = true) (hX : va_X b L xs s s.heap) (hbl : b < s.heap.size) (hg : (Jvm.Cond.and given_1 narrow_1).before #[Value.ref b] s = true) (hn : n ≤ 2048) :
    ∃ (D : va_G) (cA : ClassId) (t1 t2 : Nat), jn_X D cA (jx_r0 b t1 t2) (fun q => s.heap.size ≤ q) (jx_tbS L xs) n 138 p room_1 s m #[Value.ref b] c := by
  have hgw : ∀ w ∈ jx_gw, w.before #[Value.ref b] s = true := fun w h => hts w (jx_gwT w h)
  obtain ⟨D, cA, hK⟩ := jx_Kof hgw
  have hA : ∀ a : Nat, a < s.heap.size → ¬ (fun q => s.heap.size ≤ q) a := fun a h q => absurd h (Nat.not_lt.mpr q)
  obtain ⟨t1, hz1, ht1⟩ := jx_st900 hts hg hA
  obtain ⟨t2, hz2, ht2⟩ := jx_st901 hts hg hA
  refine ⟨D, cA, t1, t2, hx, hb, hml, hown, hgw, ⟨hn, by show 40 * n ≤ 84000; omega⟩, ⟨hK, ⟨?_, ?_⟩, fun w hw => va_Nw.of (jx_onT (jx_nwN w hw)) (hts w (jx_nwT w hw))⟩, fun q h => h, jx_tbS8⟩
  · intro z hz
    rcases List.mem_cons.mp hz with rfl | hz
    · exact hz1
    · rcases List.mem_cons.mp hz with rfl | hz
      · exact hz2
      · exact absurd hz List.not_mem_nil
  · intro q n f hq
    unfold jx_tbS at hq
    cases h1 : Nat.beq q 800 with
    | true =>
      rw [h1] at hq
      have e := Nat.eq_of_beq_eq_true h1
      subst e
      cases hq
      obtain ⟨scr, g1, g2, g3, g4, g5⟩ := hX
      exact ⟨scr, g1, g2, g3, by omega, by rw [g4], g5, hA b hbl⟩
    | false =>
      rw [h1] at hq
      unfold jx_tb0 at hq
      cases h2 : Nat.beq q 900 with
      | true =>
        rw [h2] at hq
        have e := Nat.eq_of_beq_eq_true h2
        subst e
        cases hq
        exact ht1
      | false =>
        rw [h2] at hq
        cases h3 : Nat.beq q 901 with
        | true =>
          rw [h3] at hq
          have e := Nat.eq_of_beq_eq_true h3
          subst e
          cases hq
          exact ht2
        | false => rw [h3] at hq; cases hq

/-! the law up to its loop -/
def jx_c0 (L : Nat) (xs : Nat → Int32) : Int32 := if Int32.ofNat L ≤ 0 then 0 else xs 0
theorem jcell_met (l : Launch) (b L : Nat) (xs : Nat → Int32) (hL : L < 2 ^ 31) : Met l jy_137 (jx_ws 137) (jx_rm 0) (va_Pc [.ref b, .int 0] (fun U => va_X b L xs U U.heap ∧ b < U.heap.size)) (QcRead (jx_c0 L xs)) 0 0 (fun _ => False) := by
  refine Met.ofW (cc := jx_b 137) (maxL := 2) (ret := some .int) (by decide) rfl ?_
  intro p e s m args below meth c s₁ B hml hv
  obtain ⟨rfl, hX, hbl⟩ := hv
  have hx := B.exec
  have hb := B.bytes
  have hr := B.returns
  have hlocks := B.notSynchronized
  have hl := lv_entry ([.ref b, .int 0]) (n := 2) (Nat.le_of_ble_eq_true rfl)
  rw [lg_entry_eq]
  generalize (lg_sl ([.ref b, .int 0]) ++ List.replicate (2 - (lg_sl ([.ref b, .int 0])).length) Slot.unset).toArray = ls at hl ⊢
  have hl : lv_has ls 2 [(0, .ref b), (1, .int 0)] := hl
  have hS : va_S (fun _ => False) s.heap s.heap [] := va_S.rf
  refine lv_iload_n hx hb jd_137_0 rfl (lv_at hl 1 rfl) ?_
  refine lv_aload_n hx hb jd_137_1 rfl (lv_at hl 0 rfl) ?_
  refine va_slen hx hb hX hbl (fun h => h) hS jd_137_2 ?_
  refine lv_icmp_ge hx hb (tgt := 12) jd_137_3 rfl (fun hge => ?_) (fun hlt => ?_)
  · refine lv_iconst (v := 0) hx hb jd_137_12 rfl ?_
    exact W.iret hx hb hr (fun t ht hW => ⟨by unfold jx_c0; rw [if_pos hge], ht⟩) (fun q hq => by cases hq) jd_137_13
  · refine lv_aload_n hx hb jd_137_6 rfl (lv_at hl 0 rfl) ?_
    refine lv_iload_n hx hb jd_137_7 rfl (lv_at hl 1 rfl) ?_
    have hpos : 0 < L := by
      rcases Nat.eq_zero_or_pos L with h0 | h0
      · subst h0; exact absurd (Int32.le_refl _) hlt
      · exact h0
    refine va_sld hx hb hX hbl (fun h => h) hS (i := 0) (show vp_in (nI 0) L from vp_in_nI hpos hL) jd_137_8 ?_
    refine lv_goto hx hb (tgt := 13) jd_137_9 rfl ?_
    exact W.iret hx hb hr (fun t ht hW => ⟨by unfold jx_c0; rw [if_neg hlt]; rfl, ht⟩) (fun q hq => by cases hq) jd_137_13
theorem jn_cell {l : Launch} {D : va_G} {cA : ClassId} {b t1 t2 L : Nat} {xs : Nat → Int32} {d : Nat} {p : Program} {e : Env} {R : Room} {s : State} {m : MethodId} {below : List Frame} {meth : Method} {c : Code} {QW : State → Prop} {pc mc ms : Nat} {lv : jx_Lv} {rest : List Value} {Λ : List jx_Lc} {σ : jx_St} (X : jn_X D cA (jx_r0 b t1 t2) (fun q => s.heap.size ≤ q) (jx_tbS L xs) (d + 1) 138 p R s m #[Value.ref b] c) (hX : va_X b L xs s s.heap) (hbl : b < s.heap.size) (hL : L < 2 ^ 31) (hd : decode code pc = .ok (.invokestatic 9, 3)) (hrest : jx_ct rest ≤ 8)
    (kk : jn_I l D cA (jx_r0 b t1 t2) 0 (fun q => s.heap.size ≤ q) 138 p e R s m #[Value.ref b] below meth c QW mc ms (pc + 3) lv (.int (jx_c0 L xs) :: rest) Λ σ) : jn_I l D cA (jx_r0 b t1 t2) 0 (fun q => s.heap.size ≤ q) 138 p e R s m #[Value.ref b] below meth c QW mc ms pc lv (.int 0 :: .ref 800 :: rest) Λ σ := by
  intro ρ H locs ls cells slots HH hl hc1 hc2
  have h9 := kk ρ H locs ls cells slots HH hl hc1 hc2
  obtain ⟨hag, hn0, hinj, hAi, hP, hS⟩ := HH
  obtain ⟨hx, hb, hml, hown, hts, ⟨r1, r2⟩, hKK, hA, ht8⟩ := X
  have e8 : ρ 800 = b := (hag 800 (Or.inr (Nat.le_refl _))).trans rfl
  have hXH : va_X b L xs s H := hX.kept (hS.2.1 b hbl (Nat.not_le.mpr hbl))
  have hbH : b < H.size := Nat.lt_of_lt_of_le hbl hS.1
  have hR : (jx_rm 0).frames + 1 ≤ R.frames ∧ 8 + (2 + 11) + (jx_rm 0).locals ≤ R.locals := ⟨by show 0 + 1 ≤ _; omega, by show 8 + (2 + 11) + 40 * 0 ≤ _; omega⟩
  have hst : (F0 m pc ls ((.int 0 :: .ref 800 :: rest).map (jx_v ρ))).stack = ([Value.ref b, .int 0]).reverse ++ rest.map (jx_v ρ) := by
    show Value.int 0 :: Value.ref (ρ 800) :: rest.map (jx_v ρ) = _
    rw [e8]
    rfl
  refine W.callR (r := jx_c0 L xs) (rest := rest.map (jx_v ρ)) (W.runS (own := "ScriptLedgerLaw") (As := [.ref b, .int 0]) (rest := rest.map (jx_v ρ)) ⟨hx, hb, hml, hown, hts⟩ (jcell_met l b L xs hL) ⟨callB_of (own := "ScriptLedgerLaw") (index := 9) 2 hts (jx_G (k' := 137) jw_459) rfl rfl rfl (hts _ jw_0) (hts _ jw_457) ⟨by decide +kernel, by decide +kernel, by decide +kernel⟩ hR, hts _ jw_458⟩ ⟨fun a U g mk z => ⟨z.1, va_X.moved (u := U) (U := U.calling g mk a) (Vm.Alike.refl U.vm) z.2.1, z.2.2⟩, fun U hU hW => ⟨rfl, va_X.moved hW.alike (by rw [hU]; exact hXH), by rw [hU]; exact hbH⟩⟩ rfl rfl hl.1 hst (lv_room (by rw [jx_catm, jx_ctm]; exact hrest)) hd ⟨by omega, by omega⟩) ?_
  exact h9
theorem jx_FX_eq {a1 : Int32} {σ σ' : jx_St} (h : ∀ p, p < 34 → σ' p = σ p) (hF : jx_FX a1 σ) : jx_FX a1 σ' := by
  unfold jx_FX
  rw [h 1 (by decide), h 3 (by decide), h 4 (by decide), h 15 (by decide), h 16 (by decide), h 23 (by decide), h 26 (by decide), h 30 (by decide), h 31 (by decide), h 17 (by decide), h 18 (by decide), h 19 (by decide), h 20 (by decide), h 21 (by decide), h 22 (by decide)]
  exact hF
set_option maxRecDepth 100000 in
theorem jlaw_pre {l : Launch} {D : va_G} {cA : ClassId} {b t1 t2 L : Nat} {xs : Nat → Int32} {d : Nat} {p : Program} {e : Env} {R : Room} {s : State} {m : MethodId} {below : List Frame} {meth : Method} {c : Code} {QW : State → Prop} (X : jn_X D cA (jx_r0 b t1 t2) (fun q => s.heap.size ≤ q) (jx_tbS L xs) (d + 6) 138 p R s m #[Value.ref b] c) (hX : va_X b L xs s s.heap) (hbl : b < s.heap.size) (hL : L < 2 ^ 31) (hR : 100 ≤ R.cells ∧ 10000 ≤ R.slots)
    (kk : ∀ σ, jx_FX (jx_c0 L xs) σ → jx_FM (jx_c0 L xs) σ → jn_I l D cA (jx_r0 b t1 t2) 0 (fun q => s.heap.size ≤ q) 138 p e R s m #[Value.ref b] below meth c QW 37 3262 28 [(3, .int 1), (2, .ref 34), (1, .ref 0), (0, .ref 800)] [] jx_XM σ) : W p l e R s m #[Value.ref b] below meth c s.heap [] 0 0 QW (entryFrame m ([Value.ref b] : List Value).toArray 4) := by
  have hmi : (jx_y 138).name = "<init>" → meth.name = "<init>" := fun h => absurd h (by decide)
  have hret : jn_R l D cA (jx_r0 b t1 t2) 0 (fun q => s.heap.size ≤ q) 138 p e R s m #[Value.ref b] below meth c QW (fun _ _ => False) := fun _ _ _ _ _ _ _ _ _ _ _ _ q _ _ _ => False.elim q
  have h1 : jn_I l D cA (jx_r0 b t1 t2) 0 (fun q => s.heap.size ≤ q) 138 p e R s m #[Value.ref b] below meth c QW 100 10000 0 [(0, .ref 800)] [] [] (fun _ _ => 0) := by
    refine jn_rnI jnk_138 X hmi hret jx_tbS0 (jn_I l D cA (jx_r0 b t1 t2) 0 (fun q => s.heap.size ≤ q) 138 p e R s m #[Value.ref b] below meth c QW) (fun _ _ _ _ _ _ _ h => h) 4 100 10000 0 _ _ _ _ ?_
    show jn_I l D cA (jx_r0 b t1 t2) 0 (fun q => s.heap.size ≤ q) 138 p e R s m #[Value.ref b] below meth c QW 99 9994 6 [(0, .ref 800)] [.int 0, .ref 800, .ref 0, .ref 0] [.inl (0, [some none, some none, some none, some none, some none, some none])] (jn_z (fun _ _ => 0) 0)
    refine jn_cell X hX hbl hL jd_138_6 (by decide) ?_
    refine jn_rnI jnk_138 X hmi hret jx_tbS0 (jn_I l D cA (jx_r0 b t1 t2) 0 (fun q => s.heap.size ≤ q) 138 p e R s m #[Value.ref b] below meth c QW) (fun _ _ _ _ _ _ _ h => h) 6 99 9994 9 _ _ _ _ ?_
    refine jcx_0 (fun σ1 hF1 => ?_)
    show jn_I l D cA (jx_r0 b t1 t2) 0 (fun q => s.heap.size ≤ q) 138 p e R s m #[Value.ref b] below meth c QW 65 6204 19 [(1, .ref 0), (0, .ref 800)] [.int 0, .ref 800, .ref 34, .ref 34] (jx_LX ++ [.inl (8, [none, some none, some none, none, some none, none, some none, some none, some none, some none, some none, none, some none, some none, none, some none, some none, some none, none, none, none, none, none, none, none, none, some none, some none, some none, some none, some none, none, some none, none, some none, some none, none, some none, some none, some none, some none, some none, none, none, none, none, none, none, some none, some none])]) (jn_z σ1 34)
    refine jn_cell X hX hbl hL jd_138_19 (by decide) ?_
    refine jn_rnI jnk_138 X hmi hret jx_tbS0 (jn_I l D cA (jx_r0 b t1 t2) 0 (fun q => s.heap.size ≤ q) 138 p e R s m #[Value.ref b] below meth c QW) (fun _ _ _ _ _ _ _ h => h) 4 65 6204 22 _ _ _ _ ?_
    refine jcm_88 (fun i => rfl) (fun σ2 hσ2 hF2 => ?_)
    exact kk σ2 (jx_FX_eq hσ2 hF1) hF2
  have hl := lv_entry ([.ref b]) (n := 4) (Nat.le_of_ble_eq_true rfl)
  rw [lg_entry_eq]
  generalize (lg_sl ([.ref b]) ++ List.replicate (4 - (lg_sl ([.ref b])).length) Slot.unset).toArray = ls at hl ⊢
  have hl : lv_has ls 4 [(0, .ref b)] := hl
  exact h1 (jx_r0 b t1 t2) s.heap [] ls 0 0 ⟨fun _ _ => rfl, Nat.zero_le _, fun i j hi => absurd hi (Nat.not_lt_zero _), fun i hi => absurd hi (Nat.not_lt_zero _), fun k q hk => absurd hk (by simp [jx_W]), va_S.rf⟩ hl (by omega) (by omega)

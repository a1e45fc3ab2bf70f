/-! submit: the pair of calls -/
theorem su_cin34 {q : Nat} (h : 34 ≤ q) : su_cin q = false := by
  unfold su_cin
  rw [jx_bne (by omega), jx_bne (by omega), jx_bne (by omega), jx_bne (by omega)]
  rfl
theorem jx_blef {a b : Nat} (h : b < a) : Nat.ble a b = false := by
  cases hb : Nat.ble a b with
  | false => rfl
  | true => exact absurd (Nat.le_of_ble_eq_true hb) (by omega)
theorem sx_in34 {q : Nat} (h : 34 ≤ q) : sx_in q = false := by
  unfold sx_in ec_in
  rw [jx_bne (by omega), jx_blef (show 14 < q by omega), jx_bne (by omega), Bool.and_false]
  rfl
theorem su_gin34 {q : Nat} (h : 20 < q) : su_gin q = false := by
  unfold su_gin
  rw [jx_blef h, Bool.and_false]
theorem su_gin15 {q : Nat} (h : q < 16) : su_gin q = false := by
  unfold su_gin
  rw [jx_blef h]
  rfl
theorem su_coq {τ : jx_St} {m n g q : Nat} (h : q < 15 ∨ 20 < q) : su_co τ m n g q = τ q := by
  unfold su_co
  rw [jx_su_ne _ _ _ (by omega), su_gsq (h.elim (fun z => su_gin15 (by omega)) su_gin34)]
  unfold jx_pl
  rw [jx_bne (by omega)]
  rfl
theorem su_vle {σ : jx_St} {n g m c v : Nat} (h : su_v σ n g m c v) : v ≤ 10 ∧ v ≠ 1 := by
  rcases h with ⟨a, -⟩ | ⟨a, -⟩ | ⟨a, -⟩ | ⟨a, -⟩ | ⟨a, -⟩ | ⟨a, -⟩ | ⟨a, -⟩ | ⟨a, -⟩ | ⟨a, -⟩ | ⟨a, -⟩ <;> omega
theorem su_v0 {σ : jx_St} {n g m c : Nat} (h : su_v σ n g m c 0) : su_3 σ n m ∧ su_A2 σ n ≤ c ∧ su_9 σ n m ∧ m + g ≤ 48 := by
  rcases h with ⟨a, -⟩ | ⟨a, -⟩ | ⟨a, -⟩ | ⟨a, -⟩ | ⟨a, -⟩ | ⟨a, -⟩ | ⟨a, -⟩ | ⟨a, -⟩ | ⟨a, -⟩ | ⟨-, -, a3, -, -, -, -, a8, a9, a10⟩
  all_goals first
    | exact ⟨a3, a8, a9, a10⟩
    | exact absurd a (by decide)
theorem su_cmq {τ : jx_St} {q : Nat} (h1 : q ≠ 34) (h2 : q ≠ 59) (h3 : q ≠ 60) : su_cm τ q = τ q := by
  unfold su_cm
  rw [jx_su_ne _ _ _ h1, jx_su_ne _ _ _ h1, jx_su_ne _ _ _ h1, jx_su_ne _ _ _ h1, jx_su_ne _ _ _ h1, jx_su_ne _ _ _ h1, jx_su_ne _ _ _ h3, jx_su_ne _ _ _ h2, jx_su_ne _ _ _ h3, jx_su_ne _ _ _ h2, jx_su_ne _ _ _ h3, jx_su_ne _ _ _ h2, jx_su_ne _ _ _ h1, jx_su_ne _ _ _ h1]
theorem su_teq {τ : jx_St} {m n g h q : Nat} (h34 : q ≠ 34) (hq : q < 48 ∨ 53 < q) : su_te τ m n g h q = τ q := by
  have hm : su_min q = false := by
    unfold su_min
    rw [jx_bne h34]
    rcases hq with z | z
    · rw [jx_blef z]; rfl
    · rw [jx_blef (show 52 < q by omega), Bool.and_false]; rfl
  unfold su_te
  rw [jx_su_ne _ _ _ (by omega), su_gmq hm]
  unfold jx_pl
  rw [jx_bne (by omega)]
  rfl
section SJ
variable {l : Launch} {D : va_G} {cA : ClassId} {ρ : Nat → Nat} {d : Nat}
set_option maxHeartbeats 4000000 in
theorem jv_submit : jq_submit l D cA ρ (d + 10) iv_V iv_V := by
  intro σ hI
  have hI' := hI
  obtain ⟨iD, ⟨c, hc, c1, c2, hS⟩, iR, ⟨n, hn, n1, n2, hin0⟩, ⟨g, hg, g1, g2, hG⟩, ⟨hM0, hM⟩, hT, ⟨m, h, hm2, hm, hh, m1, m2, h1, h2, hO, hz, hpot, hpa, hinc⟩⟩ := hI'
  have hT' := hT
  obtain ⟨t6, t7, t8, t9, t10, t11, tf, ts, tb⟩ := hT'
  obtain ⟨v, hv⟩ := su_vex σ n g m c
  have hGa : ∀ i, i < g → ∀ t, t < 3 → σ 29 (3 * i + t) = σ 58 (3 * i + t) ∧ ∃ k : Nat, k ≤ 1000000 ∧ σ 58 (3 * i + t) = nI k := fun i hi => (hG i hi).2.2.2
  have hMa : ∀ t, t < 3 → σ 30 t = σ 59 t ∧ -1000000 ≤ σ 59 t ∧ σ 59 t ≤ 1000000 := fun t ht => ⟨(hM t ht).1, (hM t ht).2.2.1, (hM t ht).2.2.2⟩
  have e24 : ∀ i, i < n → σ 24 i = σ 54 i := fun i hi => (hin0 i hi).1
  have h20 : ∀ Q : Option Value → jx_St → Prop, Q (some (.int (nI v))) σ → jx_C l D cA ρ jx_XM (d + 9) 20 [.ref 0] σ Q := fun Q hQ => su_20 (d := d + 5) hm m1 hh hO hn n1 n2 e24 hg g1 g2 hGa hc c1 hMa (h1.trans h2.symm) hT hv hQ
  have hLK : su_3 σ n m → su_LK σ m n := fun z => su_LKof hm hO (su_hin z) e24
  have hLM1 : ∀ σ1 : jx_St, (∀ q, 34 ≤ q → σ1 q = σ q) → su_3 σ n m → su_LM σ1 m n := fun σ1 heq z => by
    have hl := su_LMof (hLK z)
    unfold su_LM su_k su_L at hl ⊢
    rw [heq 49 (by decide), heq 54 (by decide)]
    exact hl
  have h124 : ∀ σ1 : jx_St, (∀ q, 34 ≤ q → σ1 q = σ q) → ∀ Q : Option Value → jx_St → Prop, Q (some (.int (nI v))) σ1 → jx_C l D cA ρ jx_XM (d + 9) 124 [.ref 34] σ1 Q := fun σ1 heq Q hQ => by
    have e34 := heq 34 (by decide)
    refine su_124 (d := d + 5) (m := m) (h := h) (n := n) (g := g) (c := c) (v := v) hm (by rw [e34]; exact m2) hh ?_ hn (by rw [e34]; exact n2) hg (by rw [e34]; exact g2) hc (by rw [e34]; exact c2) (fun z => ?_) (by rw [e34]; exact tf) (by rw [su_veq heq]; exact hv) hQ
    · have hi := im_of hO
      unfold im_O at hi ⊢
      rw [heq 48 (by decide), heq 49 (by decide), heq 52 (by decide)]
      exact hi
    · refine hLM1 σ1 heq ?_
      unfold su_3 su_th at z ⊢
      rw [heq 52 (by decide), heq 54 (by decide)] at z
      exact z
  have hvb := su_vle hv
  by_cases hv0 : v = 0
  · subst hv0
    obtain ⟨a3, a8, a9, a10⟩ := su_v0 hv
    obtain ⟨hck, hc1, hc2⟩ := su_c8 a8
    obtain ⟨B, hB, eB⟩ := tb
    have hL := hLK a3
    have hin := su_hin a3
    have hscr : su_scr σ c := ⟨hc, hS⟩
    cases hR : su_jb σ (σ 6) n (su_ji σ n 0) B none with
    | mk ok last =>
    have hr3 : ∀ r, last = some r → r.1 ≤ 3 := fun r e => su_j3 (σ := σ) (g := σ 6) (n := n) (su_ji σ n 0) B none (fun r' e' => by cases e') r (by rw [hR]; exact e)
    have h29 : ∀ Q : Option Value → jx_St → Prop, (∀ τ', sx_C σ τ' n last → Q (some (.int (if ok then 1 else 0))) τ') → jx_C l D cA ρ jx_XM (d + 9) 29 [.ref 0] σ Q := fun Q hQ =>
      su_29 (d := d + 3) hn hm n1 n2 (g1.trans g2.symm) hT hL (fun i hi => (hin0 i hi).2) hO hscr (fun t ht => ⟨(hM t ht).1, (hM t ht).2.1⟩) hck hc1 hc2 (by omega) (t10.trans eB) (fun τ' b q1 q2 => by
        rw [hR] at q1 q2
        rw [q2]
        exact hQ τ' q1)
    have h127 : ∀ σ1 : jx_St, (∀ q, 34 ≤ q → σ1 q = σ q) → ∀ Q : Option Value → jx_St → Prop, (∀ τ', sx_M σ1 τ' last → Q (some (.int (if ok then 1 else 0))) τ') → jx_C l D cA ρ jx_XM (d + 9) 127 [.ref 34] σ1 Q := fun σ1 heq Q hQ => by
      have e34 := heq 34 (by decide)
      have e35 := heq 35 (by decide)
      have e59 := heq 59 (by decide)
      have ek : su_k σ1 = su_k σ := by funext i; unfold su_k su_L; rw [heq 49 (by decide), heq 54 (by decide)]
      refine su_127 (d := d) (σ := σ1) (g := σ 6) (m := m) (n := n) (c := c) (B := B) hn hm (by rw [e34]; exact n2) (hLM1 σ1 heq a3) ⟨hc, fun s hs => ?_⟩ (by rw [ek]; exact hck) (by rw [e59]; exact hc1) (by rw [e59]; exact hc2) (by omega) (by rw [e34]; exact eB) (fun τ' b q1 q2 => ?_)
      · obtain ⟨E, hE, h5, ht⟩ := ev_S hc hs hS
        rw [e35]
        exact ⟨E, hE, fun j a b => (h5 j a b).2, ht⟩
      · rw [su_jeq heq, hR] at q1 q2
        rw [q2]
        exact hQ τ' q1
    cases ok with
    | true =>
      refine ⟨nI 0, fun σ1 => ∃ τ, sx_C σ τ n last ∧ σ1 = su_cl (su_co τ m n g), fun Q hQ => ?_, fun σ1 hT1 Q hQ => ?_⟩
      · refine ji_11 (h20 _ ⟨fun q => absurd rfl q, fun _ => h29 _ (fun τ hC => ⟨fun q => absurd q (by decide), fun _ => ?_⟩)⟩)
        have e16 : τ 16 = σ 16 := hC.1 16 rfl
        have e23 : τ 23 = σ 23 := hC.1 23 rfl
        have e24' : τ 24 = σ 24 := hC.1 24 rfl
        have e26 : τ 26 = σ 26 := hC.1 26 rfl
        exact su_31 (d := d + 5) a10 (by rw [e16]; exact m1) hn (by rw [e23]; exact n1) (fun i hi => by rw [e24', e24 i hi]; exact hin i hi) hg (by rw [e26]; exact g1) (su_82 (d := d + 7) (hQ _ ⟨τ, hC, rfl⟩))
      · obtain ⟨τ, hC, rfl⟩ := hT1
        have heq : ∀ q, 34 ≤ q → su_cl (su_co τ m n g) q = σ q := fun q hq => by rw [su_clq (su_cin34 hq), su_coq (by omega), hC.1 q (sx_in34 hq)]
        refine ji_129 (h124 _ heq _ ⟨fun q => absurd rfl q, fun _ => h127 _ heq _ (fun τm hMm => ⟨fun _ => ⟨fun q => absurd rfl q, fun _ => ?_⟩, fun q => absurd q (by decide)⟩)⟩)
        have hsm := sx_Ms hMm
        have e34 : su_cl (su_co τ m n g) 34 = σ 34 := heq 34 (by decide)
        have q25 : τm 34 25 = nI m := by rw [hsm.2 25 rfl, e34]; exact m2
        have q33 : τm 34 33 = nI n := by rw [hsm.2 33 rfl, e34]; exact n2
        have q36 : τm 34 36 = nI g := by rw [hsm.2 36 rfl, e34]; exact g2
        have q31 : τm 34 31 = nI h := by rw [hsm.2 31 rfl, e34]; exact h2
        have q42 : τm 34 42 = σ 34 42 := by rw [hsm.2 42 rfl, e34]
        have x48 : τm 48 = σ 48 := by rw [hsm.1 48 rfl, heq 48 (by decide)]
        have x49 : τm 49 = σ 49 := by rw [hsm.1 49 rfl, heq 49 (by decide)]
        have x50 : τm 50 = σ 50 := by rw [hsm.1 50 rfl, heq 50 (by decide)]
        have x51 : τm 51 = σ 51 := by rw [hsm.1 51 rfl, heq 51 (by decide)]
        have x52 : τm 52 = σ 52 := by rw [hsm.1 52 rfl, heq 52 (by decide)]
        have x53 : τm 53 = σ 53 := by rw [hsm.1 53 rfl, heq 53 (by decide)]
        have x54 : τm 54 = σ 54 := by rw [hsm.1 54 rfl, heq 54 (by decide)]
        have x56 : τm 56 = σ 56 := by rw [hsm.1 56 rfl, heq 56 (by decide)]
        have x57 : τm 57 = σ 57 := by rw [hsm.1 57 rfl, heq 57 (by decide)]
        have x58 : τm 58 = σ 58 := by rw [hsm.1 58 rfl, heq 58 (by decide)]
        refine su_128 (d := d + 8) (h := h) a10 q25 hn q33 (fun i hi => by rw [x54]; exact hin i hi) hg q36 hh q31 ?_
        refine ⟨fun _ => su_110 (d := d + 8) (hQ _ ?_), fun q => absurd q (by decide)⟩
        have y15 : τ 15 = σ 15 := hC.1 15 rfl
        have y16 : τ 16 = σ 16 := hC.1 16 rfl
        have y17 : τ 17 = σ 17 := hC.1 17 rfl
        have y18 : τ 18 = σ 18 := hC.1 18 rfl
        have y19 : τ 19 = σ 19 := hC.1 19 rfl
        have y20 : τ 20 = σ 20 := hC.1 20 rfl
        have y21 : τ 21 = σ 21 := hC.1 21 rfl
        have y22 : τ 22 = σ 22 := hC.1 22 rfl
        have y23 : τ 23 = σ 23 := hC.1 23 rfl
        have y24 : τ 24 = σ 24 := hC.1 24 rfl
        have y27 : τ 27 = σ 27 := hC.1 27 rfl
        have y28 : τ 28 = σ 28 := hC.1 28 rfl
        have y29 : τ 29 = σ 29 := hC.1 29 rfl
        have wc : ∀ q, q < 34 → su_cin q = false → em_in q = false → su_cm (su_te τm m n g h) q = su_co τ m n g q := fun q p1 p2 p3 => by
          rw [su_cmq (by omega) (by omega) (by omega), su_teq (by omega) (by omega), hsm.1 q p3, su_clq p2]
        have G := su_gsr (τ := jx_pl τ 20 (su_mf (τ 20) (τ 24) (τ 15 5) n)) (m := m) (k := g)
        have GM := su_gmr (τ := jx_pl τm 52 (su_mf (τm 52) (τm 54) (τm 34 31) n)) (m := m) (k := g)
        have s15 : τ 15 5 = nI h := by rw [y15]; exact h1
        refine su_fin (X1 := su_co τ m n g) (X2 := su_te τm m n g h) hI hC (fun q hq => su_coq hq) hMm (fun q p1 p2 => su_teq p1 p2) (fun i hi => su_gmf hi) hr3 ?_
        refine su_LA (x := σ 34 42) (m := m) (h := h) (g := g) hm2 a10 hh hO hz hpot hpa hinc hG ?_ ?_ ?_ ?_ (fun o ho => ?_) (fun i hi => ?_) (fun o ho => ?_) (fun i hi => ?_) (fun o ho => ?_) ?_ ?_ ?_ ?_
        · rw [wc 16 (by decide) rfl rfl]
          show su_gs _ m g 16 3 = _
          exact su_gs3 (by show τ 16 3 = nI m; rw [y16]; exact m1)
        · show su_gm _ m g 34 25 = _
          exact su_gm25 (τ := jx_pl τm 52 (su_mf (τm 52) (τm 54) (τm 34 31) n)) q25
        · rw [wc 15 (by decide) rfl rfl]
          show su_gs _ m g 15 5 = _
          rw [su_gsq rfl]
          exact s15
        · show su_gm _ m g 34 31 = _
          rw [su_gmf (by decide)]
          exact q31
        · obtain ⟨p1, p2, p3, p4⟩ := G.1 o ho
          rw [wc 17 (by decide) rfl rfl, wc 18 (by decide) rfl rfl, wc 19 (by decide) rfl rfl]
          refine ⟨p1.trans (by show τ 17 o = _; rw [y17]), p2.trans (by show τ 18 o = _; rw [y18]), fun t ht => (p4 t ht).trans (by show τ 19 _ = _; rw [y19])⟩
        · obtain ⟨p1, p2, p3, p4⟩ := G.2 i hi
          rw [wc 17 (by decide) rfl rfl, wc 18 (by decide) rfl rfl, wc 19 (by decide) rfl rfl, wc 20 (by decide) rfl rfl]
          refine ⟨p1.trans (by show τ 27 i = _; rw [y27]), p2.trans (by show τ 28 i = _; rw [y28]), p3, fun t ht => (p4 t ht).trans (by show τ 29 _ = _; rw [y29])⟩
        · obtain ⟨p1, p2, p3, p4, p5⟩ := GM.1 o ho
          refine ⟨p1.trans (by show τm 49 o = _; rw [x49]), p2.trans (by show τm 50 o = _; rw [x50]), p3.trans (by show τm 51 o = _; rw [x51]), fun t ht => (p5 t ht).trans (by show τm 48 _ = _; rw [x48])⟩
        · obtain ⟨p1, p2, p3, p4, p5⟩ := GM.2 i hi
          refine ⟨p1.trans (by show τm 56 i = _; rw [x56]), p2.trans (by show τm 57 i = _; rw [x57]), p3.trans q31, p4, fun t ht => (p5 t ht).trans (by show τm 58 _ = _; rw [x58])⟩
        · have k1 := (G.1 o ho).2.2.1
          have k2 := (GM.1 o ho).2.2.2.1
          have k1 : su_co τ m n g 20 o = su_mf (τ 20) (τ 24) (τ 15 5) n o := k1
          have k2 : su_cm (su_te τm m n g h) 52 o = su_mf (τm 52) (τm 54) (τm 34 31) n o := k2
          rw [wc 20 (by decide) rfl rfl, k1, k2, y20, y24, s15, x52, x54, q31]
          refine ⟨su_mfc (m := m) (fun o ho => (hO o ho).2.2.1) e24 o ho, su_mfo o⟩
        · rw [wc 21 (by decide) rfl rfl, su_coq (by omega), y21]
        · rw [wc 22 (by decide) rfl rfl, su_coq (by omega), y22]
        · rw [wc 15 (by decide) rfl rfl]
          show τ 15 4 + τ 23 6 = _
          rw [y15, y23, t6]
        · have k1 : su_cm (su_te τm m n g h) 53 = upd (su_gm (jx_pl τm 52 (su_mf (τm 52) (τm 54) (τm 34 31) n)) m g 53) h (τm 53 h + τm 34 42) := rfl
          rw [k1, su_gmq rfl]
          show upd (τm 53) h (τm 53 h + τm 34 42) = _
          rw [x53, q42]
    | false =>
      have hA : 1 ≤ su_A2 σ n := by
        apply Nat.not_lt.mp
        intro z
        have ej := su_noj (σ := σ) (n := n) (by omega) n 0 (by omega)
        rw [ej] at hR
        cases hR
      obtain ⟨o, ho, eo, es, hi2, hsg, z1, z2, z0⟩ := a9 hA
      refine ⟨nI 1, fun σ1 => ∃ τ, sx_C σ τ n last ∧ σ1 = su_cl (jx_su (jx_su τ 20 o (τ 15 5)) 15 4 (τ 15 4 + τ 19 (3 * o))), fun Q hQ => ?_, fun σ1 hT1 Q hQ => ?_⟩
      · refine ji_11 (h20 _ ⟨fun q => absurd rfl q, fun _ => h29 _ (fun τ hC => ⟨fun _ => ?_, fun q => absurd rfl q⟩)⟩)
        have e16 : τ 16 = σ 16 := hC.1 16 rfl
        have e23 : τ 23 = σ 23 := hC.1 23 rfl
        have e11 : τ 23 11 = nI o := by rw [e23, t11]; exact eo
        have h72 := fun K2 hK => su_72 (l := l) (D := D) (cA := cA) (ρ := ρ) (d := d + 6) (Q := K2) (τ := τ) (o := o) hm (by rw [e16]; exact m1) ho hK
        rw [← e11] at h72
        exact h72 _ (su_82 (d := d + 7) (hQ _ ⟨τ, hC, rfl⟩))
      · obtain ⟨τ, hC, rfl⟩ := hT1
        have hX1 : ∀ q, q < 15 ∨ 20 < q → jx_su (jx_su τ 20 o (τ 15 5)) 15 4 (τ 15 4 + τ 19 (3 * o)) q = τ q := fun q hq => by rw [jx_su_ne _ _ _ (by omega), jx_su_ne _ _ _ (by omega)]
        have heq : ∀ q, 34 ≤ q → su_cl (jx_su (jx_su τ 20 o (τ 15 5)) 15 4 (τ 15 4 + τ 19 (3 * o))) q = σ q := fun q hq => by rw [su_clq (su_cin34 hq), hX1 q (by omega), hC.1 q (sx_in34 hq)]
        refine ji_129 (h124 _ heq _ ⟨fun q => absurd rfl q, fun _ => h127 _ heq _ (fun τm hMm => ?_)⟩)
        have hsm := sx_Ms hMm
        have e34 : su_cl (jx_su (jx_su τ 20 o (τ 15 5)) 15 4 (τ 15 4 + τ 19 (3 * o))) 34 = σ 34 := heq 34 (by decide)
        have q25 : τm 34 25 = nI m := by rw [hsm.2 25 rfl, e34]; exact m2
        have q31 : τm 34 31 = nI h := by rw [hsm.2 31 rfl, e34]; exact h2
        have q47 : τm 34 47 = nI o := by rw [hsm.2 47 rfl, e34]; exact eo
        have x48 : τm 48 = σ 48 := by rw [hsm.1 48 rfl, heq 48 (by decide)]
        have x49 : τm 49 = σ 49 := by rw [hsm.1 49 rfl, heq 49 (by decide)]
        have x50 : τm 50 = σ 50 := by rw [hsm.1 50 rfl, heq 50 (by decide)]
        have x51 : τm 51 = σ 51 := by rw [hsm.1 51 rfl, heq 51 (by decide)]
        have x52 : τm 52 = σ 52 := by rw [hsm.1 52 rfl, heq 52 (by decide)]
        have x53 : τm 53 = σ 53 := by rw [hsm.1 53 rfl, heq 53 (by decide)]
        have v47 : vp_in (τm 34 47) 48 := by rw [q47]; exact vp_in_nI (by omega) (by decide)
        have v31 : vp_in (τm 34 31) 41 := by rw [q31]; exact vp_in_nI (by omega) (by decide)
        have i47 : 3 * τm 34 47 = nI (3 * o) := by rw [q47]; exact jl_m30
        have v3 : vp_in (3 * τm 34 47) 144 := by rw [i47]; exact vp_in_nI (by omega) (by decide)
        have k47 : (τm 34 47).toNatClampNeg = o := by rw [q47]; exact nI_clamp (by omega)
        have k31 : (τm 34 31).toNatClampNeg = h := by rw [q31]; exact nI_clamp (by omega)
        have k3 : (3 * τm 34 47).toNatClampNeg = 3 * o := by rw [i47]; exact nI_clamp (by omega)
        have y15 : τ 15 = σ 15 := hC.1 15 rfl
        have y16 : τ 16 = σ 16 := hC.1 16 rfl
        have y17 : τ 17 = σ 17 := hC.1 17 rfl
        have y18 : τ 18 = σ 18 := hC.1 18 rfl
        have y19 : τ 19 = σ 19 := hC.1 19 rfl
        have y20 : τ 20 = σ 20 := hC.1 20 rfl
        have y21 : τ 21 = σ 21 := hC.1 21 rfl
        have y22 : τ 22 = σ 22 := hC.1 22 rfl
        have s15 : τ 15 5 = nI h := by rw [y15]; exact h1
        have fin : iv_V (su_cm (jx_su (jx_su τm 52 o (nI h)) 53 h (τm 53 h + τm 48 (3 * o)))) := by
          have hX2 : ∀ q, q ≠ 34 → q < 48 ∨ 53 < q → jx_su (jx_su τm 52 o (nI h)) 53 h (τm 53 h + τm 48 (3 * o)) q = τm q := fun q p1 p2 => by rw [jx_su_ne _ _ _ (by omega), jx_su_ne _ _ _ (by omega)]
          have wc : ∀ q, q < 34 → su_cin q = false → em_in q = false → su_cm (jx_su (jx_su τm 52 o (nI h)) 53 h (τm 53 h + τm 48 (3 * o))) q = jx_su (jx_su τ 20 o (τ 15 5)) 15 4 (τ 15 4 + τ 19 (3 * o)) q := fun q p1 p2 p3 => by
            rw [su_cmq (by omega) (by omega) (by omega), hX2 q (by omega) (by omega), hsm.1 q p3, su_clq p2]
          refine su_fin (X1 := jx_su (jx_su τ 20 o (τ 15 5)) 15 4 (τ 15 4 + τ 19 (3 * o))) hI hC hX1 hMm hX2 (fun i hi => rfl) hr3 ?_
          refine su_LA (x := σ 48 (3 * o)) (m := m) (h := h) (g := 0) hm2 hm hh hO hz hpot hpa hinc (fun i hi => absurd hi (Nat.not_lt_zero _)) ?_ ?_ ?_ ?_ (fun o' ho' => ?_) (fun i hi => absurd hi (Nat.not_lt_zero _)) (fun o' ho' => ?_) (fun i hi => absurd hi (Nat.not_lt_zero _)) (fun o' ho' => ?_) ?_ ?_ ?_ ?_
          · rw [wc 16 (by decide) rfl rfl]
            show τ 16 3 = _
            rw [y16]; exact m1
          · exact q25
          · rw [wc 15 (by decide) rfl rfl]
            exact s15
          · exact q31
          · rw [wc 17 (by decide) rfl rfl, wc 18 (by decide) rfl rfl, wc 19 (by decide) rfl rfl]
            refine ⟨by show τ 17 o' = _; rw [y17], by show τ 18 o' = _; rw [y18], fun t ht => by show τ 19 _ = _; rw [y19]⟩
          · refine ⟨by show τm 49 o' = _; rw [x49], by show τm 50 o' = _; rw [x50], by show τm 51 o' = _; rw [x51], fun t ht => by show τm 48 _ = _; rw [x48]⟩
          · have k1 : jx_su (jx_su τ 20 o (τ 15 5)) 15 4 (τ 15 4 + τ 19 (3 * o)) 20 o' = upd (τ 20) o (τ 15 5) o' := rfl
            have k2 : su_cm (jx_su (jx_su τm 52 o (nI h)) 53 h (τm 53 h + τm 48 (3 * o))) 52 o' = upd (τm 52) o (nI h) o' := rfl
            rw [wc 20 (by decide) rfl rfl, k1, k2, s15, y20, x52]
            by_cases e : o' = o
            · rw [e, pk_us, pk_us]
              exact ⟨rfl, Or.inl rfl⟩
            · rw [pk_un e, pk_un e]
              exact ⟨(hO o' ho').2.2.1, Or.inr rfl⟩
          · rw [wc 21 (by decide) rfl rfl, hX1 21 (by omega), y21]
          · rw [wc 22 (by decide) rfl rfl, hX1 22 (by omega), y22]
          · rw [wc 15 (by decide) rfl rfl]
            show τ 15 4 + τ 19 (3 * o) = _
            rw [y15, y19]
            have := ((hO o ho).2.2.2.2.2.1 0 (by decide)).1
            rw [Nat.add_zero] at this
            rw [this]
          · show upd (τm 53) h (τm 53 h + τm 48 (3 * o)) = _
            rw [x53, x48]
        have h9 := hQ _ fin
        have h10 : Q (some (.int 1)) (su_cm (jx_su (jx_su τm 52 (τm 34 47).toNatClampNeg (τm 34 31)) 53 (τm 34 31).toNatClampNeg (τm 53 (τm 34 31).toNatClampNeg + τm 48 (3 * τm 34 47).toNatClampNeg))) := by
          rw [k47, k31, k3, q31]
          exact h9
        exact ⟨fun q => absurd rfl q, fun _ => ⟨fun _ => ⟨fun q => absurd rfl q, fun _ => ⟨v47, v31, v3, v31, su_110 (d := d + 8) h10⟩⟩, fun q => absurd q (by decide)⟩⟩
  · have nv : ¬ nI v = 0 := fun q => hv0 ((nI_eq (b := 0) (by omega) (by decide)).mp q)
    have nv1 : ¬ nI v = 1 := fun q => hvb.2 ((nI_eq (b := 1) (by omega) (by decide)).mp q)
    refine ⟨nI v, fun σ1 => σ1 = su_cl σ, fun Q hQ => ?_, fun σ1 hT1 Q hQ => ?_⟩
    · exact ji_11 (h20 _ ⟨fun _ => su_82 (d := d + 7) (hQ _ rfl), fun q => absurd q nv⟩)
    · subst hT1
      refine ji_129 (h124 _ (fun q hq => su_clq (su_cin34 hq)) _ ⟨fun _ => ⟨fun _ => ⟨fun _ => su_110 (d := d + 8) (hQ _ ?_), fun q => absurd q nv1⟩, fun q => absurd q nv⟩, fun q => absurd q nv⟩)
      refine ⟨iD, ⟨c, hc, c1, c2, hS⟩, iR, ⟨0, by decide, rfl, rfl, fun i hi => absurd hi (Nat.not_lt_zero _)⟩, ⟨0, by decide, rfl, rfl, fun i hi => absurd hi (Nat.not_lt_zero _)⟩, ⟨rfl, fun t ht => ?_⟩, ⟨rfl, rfl, rfl, rfl, rfl, rfl, ⟨0, by decide, rfl⟩, ⟨0, by decide, rfl⟩, ⟨0, by decide, rfl⟩⟩, ⟨m, h, hm2, hm, hh, m1, m2, h1, h2, hO, hz, hpot, hpa, hinc⟩⟩
      match t, ht with
      | 0, _ => exact ⟨rfl, rfl, of_decide_eq_true rfl, of_decide_eq_true rfl⟩
      | 1, _ => exact ⟨rfl, rfl, of_decide_eq_true rfl, of_decide_eq_true rfl⟩
      | 2, _ => exact ⟨rfl, rfl, of_decide_eq_true rfl, of_decide_eq_true rfl⟩
end SJ

/-! the evaluator of the program: cells and frames stand for values -/
def ec_rc (K F S Z : Nat → Int32) (u : Nat) : ez_V → Bool → Nat → Prop
  | .nil, true, _ => True
  | .append h t, true, c => c < u ∧ ∃ a b : Nat, F c = nI a ∧ S c = nI b ∧ ec_rc K F S Z u h false a ∧ ec_rc K F S Z u t true b
  | .nil, false, c => c < u ∧ K c = 2 ∧ Z c = 0
  | .append h t, false, c => c < u ∧ K c = 2 ∧ Z c = nI (ez_len t + 1) ∧ ez_len t < u ∧ ∃ a b : Nat, F c = nI a ∧ S c = nI b ∧ ec_rc K F S Z u h false a ∧ ec_rc K F S Z u t false b
  | .nest i _, false, c => c < u ∧ K c = 0 ∧ F c = Int32.ofInt i
  | .align b, false, c => c < u ∧ K c = 1 ∧ F c = (if b then 1 else 0)
  | .tag n e, false, c => c < u ∧ K c = nI (3 + n % 3) ∧ F c = nI (n / 3) ∧ (n % 3 = 2 → Z c = nI (ez_len e)) ∧ ∃ b : Nat, S c = nI b ∧ ec_rc K F S Z u e true b
  | _, _, _ => False
theorem ec_mono {K F S Z K' F' S' Z' : Nat → Int32} {u u' : Nat} (hu : u ≤ u') (hK : ∀ i, i < u → K' i = K i ∧ F' i = F i ∧ S' i = S i ∧ Z' i = Z i) : ∀ (v : ez_V) (b : Bool) (c : Nat), ec_rc K F S Z u v b c → ec_rc K' F' S' Z' u' v b c := by
  intro v
  induction v with
  | nil =>
    intro b c h
    cases b with
    | true => trivial
    | false =>
      obtain ⟨h1, h2, h3⟩ := h
      have k := hK c h1
      exact ⟨by omega, by rw [k.1]; exact h2, by rw [k.2.2.2]; exact h3⟩
  | append x t ihx iht =>
    intro b c h
    cases b with
    | true =>
      obtain ⟨h1, a, b, h2, h3, h4, h5⟩ := h
      have k := hK c h1
      exact ⟨by omega, a, b, by rw [k.2.1]; exact h2, by rw [k.2.2.1]; exact h3, ihx _ _ h4, iht _ _ h5⟩
    | false =>
      obtain ⟨h1, h6, h7, h8, a, b, h2, h3, h4, h5⟩ := h
      have k := hK c h1
      exact ⟨by omega, by rw [k.1]; exact h6, by rw [k.2.2.2]; exact h7, by omega, a, b, by rw [k.2.1]; exact h2, by rw [k.2.2.1]; exact h3, ihx _ _ h4, iht _ _ h5⟩
  | nest i x ih =>
    intro b c h
    cases b with
    | true => exact h.elim
    | false =>
      obtain ⟨h1, h2, h3⟩ := h
      have k := hK c h1
      exact ⟨by omega, by rw [k.1]; exact h2, by rw [k.2.1]; exact h3⟩
  | align x =>
    intro b c h
    cases b with
    | true => exact h.elim
    | false =>
      obtain ⟨h1, h2, h3⟩ := h
      have k := hK c h1
      exact ⟨by omega, by rw [k.1]; exact h2, by rw [k.2.1]; exact h3⟩
  | tag n e ih =>
    intro b c h
    cases b with
    | true => exact h.elim
    | false =>
      obtain ⟨h1, h2, h3, h4, b, h5, h6⟩ := h
      have k := hK c h1
      exact ⟨by omega, by rw [k.1]; exact h2, by rw [k.2.1]; exact h3, fun z => by rw [k.2.2.2]; exact h4 z, b, by rw [k.2.2.1]; exact h5, ih _ _ h6⟩
  | line => intro b c h; cases b <;> exact h.elim
  | text s => intro b c h; cases b <;> exact h.elim
  | group x y ih => intro b c h; cases b <;> exact h.elim
def ec_r (τ : jx_St) (u : Nat) (v : ez_V) (b : Bool) (c : Nat) : Prop := ec_rc (τ 8) (τ 9) (τ 10) (τ 11) u v b c
def ec_in (p : Nat) : Bool := Nat.beq p 3 || (Nat.ble 7 p && Nat.ble p 14)
def ec_same (σ τ : jx_St) : Prop := ∀ q, ec_in q = false → τ q = σ q
theorem ec_su {σ τ : jx_St} {p i : Nat} {v : Int32} (h : ec_same σ τ) (hp : ec_in p = true := by rfl) : ec_same σ (jx_su τ p i v) := fun q hq => by
  rw [jx_su_ne _ _ _ (fun e => by rw [e, hp] at hq; cases hq)]
  exact h q hq
def ec_mk (τ : jx_St) (u : Nat) (a1 a2 a3 a4 : Int32) : jx_St := jx_su (jx_su (jx_su (jx_su (jx_su τ 8 u a1) 9 u a2) 10 u a3) 11 u a4) 7 4 (nI (u + 1))
theorem ec_mks {σ τ : jx_St} {u : Nat} {a1 a2 a3 a4 : Int32} (h : ec_same σ τ) : ec_same σ (ec_mk τ u a1 a2 a3 a4) := ec_su (ec_su (ec_su (ec_su (ec_su h))))
theorem ec_mkr {τ : jx_St} {u : Nat} {a1 a2 a3 a4 : Int32} {v : ez_V} {b : Bool} {c : Nat} (h : ec_r τ u v b c) : ec_r (ec_mk τ u a1 a2 a3 a4) (u + 1) v b c :=
  ec_mono (Nat.le_succ _) (fun i hi => ⟨pk_un (by omega), pk_un (by omega), pk_un (by omega), pk_un (by omega)⟩) v b c h
def ec_pu (τ : jx_St) (k : Nat) (a b c : Int32) : jx_St := jx_su (jx_su (jx_su (jx_su τ 12 k a) 13 k b) 14 k c) 3 5 (nI (k + 1))
theorem ec_pus {σ τ : jx_St} {k : Nat} {a b c : Int32} (h : ec_same σ τ) : ec_same σ (ec_pu τ k a b c) := ec_su (ec_su (ec_su (ec_su h)))
def ec_go (τ : jx_St) (p e : Int32) : jx_St := jx_su (jx_su (jx_su τ 3 7 p) 3 8 e) 3 6 0
def ec_fo (τ : jx_St) (a : Int32) : jx_St := jx_su (jx_su τ 3 9 a) 3 6 1
def ec_sp (τ : jx_St) (w : Int32) : jx_St := jx_su (jx_su (jx_su (jx_su τ 3 13 w) 3 14 (-1)) 3 15 0) 3 6 4
section EC
variable {l : Launch} {D : va_G} {cA : ClassId} {ρ : Nat → Nat} {d : Nat} {Q : Option Value → jx_St → Prop} {τ : jx_St}
theorem ec_make {u : Nat} {a1 a2 a3 a4 : Int32} (hu : τ 7 4 = nI u) (h : u < 512) (hQ : Q (some (.int (nI u))) (ec_mk τ u a1 a2 a3 a4)) : jx_C l D cA ρ jx_XM (d + 1) 63 [.ref 7, .int a1, .int a2, .int a3, .int a4] τ Q := by
  have v : vp_in (τ 7 4) 512 := by rw [hu]; exact vp_in_nI h (by decide)
  have e1 : τ 7 4 + 1 - 1 = nI u := by rw [hu]; exact Int32.add_sub_cancel _ _
  have e2 : (τ 7 4).toNatClampNeg = u := by rw [hu]; exact nI_clamp (by omega)
  have e3 : τ 7 4 + 1 = nI (u + 1) := by rw [hu]; exact nI_1 u
  refine jm_63 v ?_
  rw [e1, e2, e3]
  exact hQ
theorem ec_plain {u : Nat} {a1 a2 : Int32} (hu : τ 7 4 = nI u) (h : u < 512) (hQ : Q (some (.int (nI u))) (ec_mk τ u a1 a2 0 0)) : jx_C l D cA ρ jx_XM (d + 2) 64 [.ref 7, .int a1, .int a2] τ Q := ji_64 (ec_make hu h hQ)
theorem ec_list {u c : Nat} {a1 : Int32} (hu : τ 7 4 = nI u) (h : u < 512) (hc : c < 512) (hQ : Q (some (.int (nI u))) (ec_mk τ u 2 a1 (nI c) (τ 11 c + 1))) : jx_C l D cA ρ jx_XM (d + 2) 65 [.ref 7, .int a1, .int (nI c)] τ Q := by
  have v : vp_in (nI c) 512 := vp_in_nI hc (by decide)
  have e : (nI c).toNatClampNeg = c := nI_clamp (by omega)
  rw [← e] at hQ
  refine ji_65 ⟨v, ?_⟩
  refine ec_make hu h ?_
  rw [e] at hQ ⊢
  exact hQ
theorem ec_found {a : Int32} (hQ : Q none (ec_fo τ a)) : jx_C l D cA ρ jx_XM (d + 1) 52 [.ref 3, .int a] τ Q := ji_52 hQ
theorem ec_goto {p e : Int32} (hQ : Q none (ec_go τ p e)) : jx_C l D cA ρ jx_XM (d + 1) 51 [.ref 3, .int p, .int e] τ Q := ji_51 hQ
theorem ec_stop {w : Int32} (hQ : Q none (ec_sp τ w)) : jx_C l D cA ρ jx_XM (d + 1) 53 [.ref 3, .int w] τ Q := ji_53 hQ
theorem ec_push {k : Nat} {a b c : Int32} (hk : τ 3 5 = nI k) (h : k < 128) (hQ : Q none (ec_pu τ k a b c)) : jx_C l D cA ρ jx_XM (d + 1) 50 [.ref 3, .int a, .int b, .int c] τ Q := by
  have v : vp_in (τ 3 5) 128 := by rw [hk]; exact vp_in_nI h (by decide)
  have g : τ 3 5 < 128 := by rw [hk]; exact nI_lt (b := 128) h (by decide)
  have e2 : (τ 3 5).toNatClampNeg = k := by rw [hk]; exact nI_clamp (by omega)
  have e3 : τ 3 5 + 1 = nI (k + 1) := by rw [hk]; exact nI_1 k
  have hQ2 : Q none (jx_su (jx_su (jx_su (jx_su τ 12 (τ 3 5).toNatClampNeg a) 13 (τ 3 5).toNatClampNeg b) 14 (τ 3 5).toNatClampNeg c) 3 5 (τ 3 5 + 1)) := by rw [e2, e3]; exact hQ
  refine ji_50 ⟨fun _ => ?_, fun q => absurd g q⟩
  exact ⟨v, v, v, hQ2⟩
theorem ec_pay {s B c : Nat} (hs : τ 3 12 = nI s) (hB : τ 3 11 = nI B) (h1 : s ≤ 99) (h2 : B ≤ 99) (h3 : c ≤ 3) (hno : B < s + c → Q (some (.int 0)) (ec_sp (jx_su τ 3 12 (nI B)) 3)) (hyes : ¬ B < s + c → Q (some (.int 1)) (jx_su τ 3 12 (nI (s + c)))) : jx_C l D cA ρ jx_XM (d + 2) 49 [.ref 3, .int (nI c)] τ Q := by
  have e1 : τ 3 12 + nI c = nI (s + c) := by rw [hs, nI_add]
  by_cases h : B < s + c
  · have g : ¬ τ 3 12 + nI c ≤ τ 3 11 := by rw [e1, hB]; exact nI_ge h (by omega)
    have h9 := hno h
    rw [← hB] at h9
    exact ji_49 ⟨fun q => absurd q g, fun _ => ji_53 ⟨Or.inl rfl, h9⟩⟩
  · have g : τ 3 12 + nI c ≤ τ 3 11 := by rw [e1, hB]; exact nI_le (by omega) (by omega)
    have h9 := hyes h
    rw [← e1] at h9
    exact ji_49 ⟨fun _ => ⟨Or.inr rfl, h9⟩, fun q => absurd g q⟩
theorem ec_ch5 {u n : Nat} {C : Int32} (hn : n < 256) (hu : u ≤ 512) (hQ0 : Option Value → jx_St → Prop) : ∀ (k i : Nat) (v : ez_V) (c : Nat), i + k = n → k < ez_len v → ec_r τ u v true c → (∀ a, ec_r τ u (ez_look v k) false a → hQ0 (some (.int (nI a))) τ) →
    jx_J l D cA ρ jx_XM (jx_A ρ jx_XM) jx_tb0 (d + 1) 66 hQ0 5 [(4, .int (nI i)), (3, .int (nI c)), (0, .ref 7), (1, .int C), (2, .int (nI n))] [] τ
  | 0, i, v, c, hi, hk, hr, hQ => by
    cases v with
    | append x t =>
      obtain ⟨h1, a, b, h2, h3, h4, h5⟩ := hr
      have e : i = n := by omega
      subst e
      have w : vp_in (nI c) 512 := vp_in_nI (by omega) (by decide)
      have ec : (nI c).toNatClampNeg = c := nI_clamp (by omega)
      have h9 := hQ a h4
      rw [← h2, ← ec] at h9
      refine jx_go jk_66 (fun _ _ _ z => z) 40 [5] ?_
      exact ⟨fun _ => ⟨w, h9⟩, fun q => absurd (Int32.le_refl _) q⟩
    | _ => exact absurd hk (Nat.not_lt_zero _)
  | k + 1, i, v, c, hi, hk, hr, hQ => by
    cases v with
    | append x t =>
      obtain ⟨h1, a, b, h2, h3, h4, h5⟩ := hr
      have w : vp_in (nI c) 512 := vp_in_nI (by omega) (by decide)
      have ec : (nI c).toNatClampNeg = c := nI_clamp (by omega)
      have ih := ec_ch5 (C := C) hn hu hQ0 k (i + 1) t b (by omega) (Nat.lt_of_succ_lt_succ hk) h5 hQ
      rw [← h3, ← nI_1 i] at ih
      have g : ¬ nI n ≤ nI i := nI_ge (by omega) (by omega)
      have ih2 : jx_J l D cA ρ jx_XM (jx_A ρ jx_XM) jx_tb0 (d + 1) 66 hQ0 5 [(4, .int (nI i + 1)), (3, .int (τ 10 (nI c).toNatClampNeg)), (0, .ref 7), (1, .int C), (2, .int (nI n))] [] τ := by rw [ec]; exact ih
      refine jx_go jk_66 (fun _ _ _ z => z) 40 [5] ?_
      exact ⟨fun q => absurd q g, fun _ => ⟨w, ih2⟩⟩
    | _ => exact absurd hk (Nat.not_lt_zero _)
theorem ec_chain {u n c : Nat} {v : ez_V} (hn : n < 256) (hu : u ≤ 512) (hk : n < ez_len v) (hr : ec_r τ u v true c) (hQ : ∀ a, ec_r τ u (ez_look v n) false a → Q (some (.int (nI a))) τ) : jx_C l D cA ρ jx_XM (d + 1) 66 [.ref 7, .int (nI c), .int (nI n)] τ Q := by
  refine jx_in jk_66 40 [5] rfl (Nat.le_of_ble_eq_true rfl) ?_
  exact ec_ch5 hn hu Q n 0 v c (by omega) hk hr hQ
end EC

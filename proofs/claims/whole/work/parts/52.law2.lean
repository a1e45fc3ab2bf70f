/-! the law's loop: out of what each pair of calls does -/
def jx_pi (l : Launch) (D : va_G) (cA : ClassId) (ρ : Nat → Nat) (d kx km : Nat) (as : List Value) (σ : jx_St) (I' : jx_St → Prop) : Prop := ∃ (v : Int32) (T : jx_St → Prop),
  (∀ Q : Option Value → jx_St → Prop, (∀ σ1, T σ1 → Q (some (.int v)) σ1) → jx_C l D cA ρ jx_XM d kx (.ref 0 :: as) σ Q) ∧ ∀ σ1, T σ1 → ∀ Q : Option Value → jx_St → Prop, (∀ σ2, I' σ2 → Q (some (.int v)) σ2) → jx_C l D cA ρ jx_XM d km (.ref 34 :: as) σ1 Q
def jx_pv (l : Launch) (D : va_G) (cA : ClassId) (ρ : Nat → Nat) (d kx km : Nat) (as : List Value) (σ : jx_St) (I' : jx_St → Prop) : Prop := ∃ (T : jx_St → Prop),
  (∀ Q : Option Value → jx_St → Prop, (∀ σ1, T σ1 → Q none σ1) → jx_C l D cA ρ jx_XM d kx (.ref 0 :: as) σ Q) ∧ ∀ σ1, T σ1 → ∀ Q : Option Value → jx_St → Prop, (∀ σ2, I' σ2 → Q none σ2) → jx_C l D cA ρ jx_XM d km (.ref 34 :: as) σ1 Q
def jq_type (l : Launch) (D : va_G) (cA : ClassId) (ρ : Nat → Nat) (d : Nat) (I I' : jx_St → Prop) : Prop := ∀ σ, I σ → ∀ (a1 : Int64) (a2 : Int32), jx_pi l D cA ρ d 1 90 [.long a1, .int a2] σ I'
def jq_define (l : Launch) (D : va_G) (cA : ClassId) (ρ : Nat → Nat) (d : Nat) (I I' : jx_St → Prop) : Prop := ∀ σ, I σ → jx_pi l D cA ρ d 2 92 [] σ I'
def jq_run (l : Launch) (D : va_G) (cA : ClassId) (ρ : Nat → Nat) (d : Nat) (I I' : jx_St → Prop) : Prop := ∀ σ, I σ → ∀ (a1 : Int32) (a2 : Int32) (a3 : Int32) (a4 : Int32), jx_pi l D cA ρ d 3 108 [.int a1, .int a2, .int a3, .int a4] σ I'
def jq_result (l : Launch) (D : va_G) (cA : ClassId) (ρ : Nat → Nat) (d : Nat) (I I' : jx_St → Prop) : Prop := ∀ σ, I σ → ∀ (a1 : Int32), jx_pi l D cA ρ d 4 109 [.int a1] σ I'
def jq_begin (l : Launch) (D : va_G) (cA : ClassId) (ρ : Nat → Nat) (d : Nat) (I I' : jx_St → Prop) : Prop := ∀ σ, I σ → jx_pv l D cA ρ d 5 110 [] σ I'
def jq_spend (l : Launch) (D : va_G) (cA : ClassId) (ρ : Nat → Nat) (d : Nat) (I I' : jx_St → Prop) : Prop := ∀ σ, I σ → ∀ (a1 : Int32) (a2 : Int32), jx_pi l D cA ρ d 6 112 [.int a1, .int a2] σ I'
def jq_give (l : Launch) (D : va_G) (cA : ClassId) (ρ : Nat → Nat) (d : Nat) (I I' : jx_St → Prop) : Prop := ∀ σ, I σ → ∀ (a1 : Int32) (a2 : Int32) (a3 : Int32) (a4 : Int32) (a5 : Int32), jx_pi l D cA ρ d 7 113 [.int a1, .int a2, .int a3, .int a4, .int a5] σ I'
def jq_mint (l : Launch) (D : va_G) (cA : ClassId) (ρ : Nat → Nat) (d : Nat) (I I' : jx_St → Prop) : Prop := ∀ σ, I σ → ∀ (a1 : Int32) (a2 : Int32) (a3 : Int32), jx_pi l D cA ρ d 8 114 [.int a1, .int a2, .int a3] σ I'
def jq_terms (l : Launch) (D : va_G) (cA : ClassId) (ρ : Nat → Nat) (d : Nat) (I I' : jx_St → Prop) : Prop := ∀ σ, I σ → ∀ (a1 : Int32) (a2 : Int32) (a3 : Int32) (a4 : Int32) (a5 : Int32), jx_pi l D cA ρ d 9 115 [.int a1, .int a2, .int a3, .int a4, .int a5] σ I'
def jq_guarantee (l : Launch) (D : va_G) (cA : ClassId) (ρ : Nat → Nat) (d : Nat) (I I' : jx_St → Prop) : Prop := ∀ σ, I σ → ∀ (a1 : Int32), jx_pi l D cA ρ d 10 116 [.int a1] σ I'
def jq_submit (l : Launch) (D : va_G) (cA : ClassId) (ρ : Nat → Nat) (d : Nat) (I I' : jx_St → Prop) : Prop := ∀ σ, I σ → jx_pi l D cA ρ d 11 129 [] σ I'
def jq_block (l : Launch) (D : va_G) (cA : ClassId) (ρ : Nat → Nat) (d : Nat) (I I' : jx_St → Prop) : Prop := ∀ σ, I σ → jx_pi l D cA ρ d 12 130 [] σ I'
def jq_rollback (l : Launch) (D : va_G) (cA : ClassId) (ρ : Nat → Nat) (d : Nat) (I I' : jx_St → Prop) : Prop := ∀ σ, I σ → ∀ (a1 : Int32), jx_pi l D cA ρ d 13 131 [.int a1] σ I'
def jq_outputs (l : Launch) (D : va_G) (cA : ClassId) (ρ : Nat → Nat) (d : Nat) (I I' : jx_St → Prop) : Prop := ∀ σ, I σ → jx_pi l D cA ρ d 14 132 [] σ I'
def jq_about (l : Launch) (D : va_G) (cA : ClassId) (ρ : Nat → Nat) (d : Nat) (I I' : jx_St → Prop) : Prop := ∀ σ, I σ → ∀ (a1 : Int32) (a2 : Int32), jx_pi l D cA ρ d 15 133 [.int a1, .int a2] σ I'
def jq_total (l : Launch) (D : va_G) (cA : ClassId) (ρ : Nat → Nat) (d : Nat) (I I' : jx_St → Prop) : Prop := ∀ σ, I σ → ∀ (a1 : Int32), jx_pi l D cA ρ d 16 134 [.int a1] σ I'
def jq_pot (l : Launch) (D : va_G) (cA : ClassId) (ρ : Nat → Nat) (d : Nat) (I I' : jx_St → Prop) : Prop := ∀ σ, I σ → jx_pi l D cA ρ d 17 135 [] σ I'
def jq_height (l : Launch) (D : va_G) (cA : ClassId) (ρ : Nat → Nat) (d : Nat) (I I' : jx_St → Prop) : Prop := ∀ σ, I σ → jx_pi l D cA ρ d 18 136 [] σ I'
def jx_ops (l : Launch) (D : va_G) (cA : ClassId) (ρ : Nat → Nat) (d : Nat) (I I' : jx_St → Prop) : Prop := (∀ σ, I σ → I' σ) ∧ jq_type l D cA ρ d I I' ∧ jq_define l D cA ρ d I I' ∧ jq_run l D cA ρ d I I' ∧ jq_result l D cA ρ d I I' ∧ jq_begin l D cA ρ d I I' ∧ jq_spend l D cA ρ d I I' ∧ jq_give l D cA ρ d I I' ∧ jq_mint l D cA ρ d I I' ∧ jq_terms l D cA ρ d I I' ∧ jq_guarantee l D cA ρ d I I' ∧ jq_submit l D cA ρ d I I' ∧ jq_block l D cA ρ d I I' ∧ jq_rollback l D cA ρ d I I' ∧ jq_outputs l D cA ρ d I I' ∧ jq_about l D cA ρ d I I' ∧ jq_total l D cA ρ d I I' ∧ jq_pot l D cA ρ d I I' ∧ jq_height l D cA ρ d I I'
theorem jl_ge {L i : Nat} (hL : L ≤ 3073) (hi : i ≤ 4000) (h : ¬ Int32.ofNat L - 6 < nI i) : i + 6 ≤ L := by
  rw [Int32.lt_iff_toInt_lt] at h
  have e : (Int32.ofNat L - 6).toInt = (L : Int) - 6 := pk_sub_toInt (a := L) (b := 6) (by omega) (by decide)
  rw [e, nI_toInt (by omega)] at h
  omega
theorem jl_in {L i k : Nat} (hL : L ≤ 3073) (h : i + 6 ≤ L) (hk : k < 6) : vp_in (nI i + nI k) L := by
  rw [nI_add]
  exact vp_in_nI (by omega) (by omega)
set_option maxHeartbeats 4000000 in
set_option maxRecDepth 100000 in
theorem jlaw_step {l : Launch} {D : va_G} {cA : ClassId} {ρ : Nat → Nat} {A : Nat → Prop} {L : Nat} {xs : Nat → Int32} {d i : Nat} {I I' : jx_St → Prop} {σ : jx_St} (hL : L ≤ 3073) (hi : i ≤ 4000) (hops : i + 6 ≤ L → jx_ops l D cA ρ d I I') (hI : I σ)
    (hnext : i + 6 ≤ L → ∀ σ2, I' σ2 → jx_J l D cA ρ jx_XM A (jx_tbS L xs) (d + 1) 138 (fun r _ => r = some (.int 1)) 28 [(3, .int (nI i + 6)), (2, .ref 34), (1, .ref 0), (0, .ref 800)] [] σ2) : jx_J l D cA ρ jx_XM A (jx_tbS L xs) (d + 1) 138 (fun r _ => r = some (.int 1)) 28 [(3, .int (nI i)), (2, .ref 34), (1, .ref 0), (0, .ref 800)] [] σ := by
  refine jx_go jk_138 jx_tbS0 150 [28] ?_
  refine ⟨fun _ => ⟨Or.inr rfl, rfl⟩, fun hge => ?_⟩
  have hiL := jl_ge hL hi hge
  have hnx := hnext hiL
  obtain ⟨hII, o0, o1, o2, o3, o4, o5, o6, o7, o8, o9, o10, o11, o12, o13, o14, o15, o16, o17⟩ := hops hiL
  have v0 : vp_in (nI i) L := vp_in_nI (by omega) (by omega)
  have v1 : vp_in (nI i + 1) L := jl_in (k := 1) hL hiL (by decide)
  have v2 : vp_in (nI i + 2) L := jl_in (k := 2) hL hiL (by decide)
  have v3 : vp_in (nI i + 3) L := jl_in (k := 3) hL hiL (by decide)
  have v4 : vp_in (nI i + 4) L := jl_in (k := 4) hL hiL (by decide)
  have v5 : vp_in (nI i + 5) L := jl_in (k := 5) hL hiL (by decide)
  refine ⟨v0, ?_⟩
  refine ⟨fun _ => ?_, fun _ => ?_⟩
  · skip
    refine ⟨v1, v2, v3, ?_⟩
    obtain ⟨v, T, h1, h2⟩ := o0 σ hI (((xs (nI i + 1).toNatClampNeg).toInt64 <<< ((32 : Int32).toInt64 &&& 63)) ||| ((xs (nI i + 2).toNatClampNeg).toInt64 &&& 4294967295)) (xs (nI i + 3).toNatClampNeg)
    refine h1 _ (fun σ1 hT => ?_)
    refine ⟨v1, v2, v3, ?_⟩
    refine h2 σ1 hT _ (fun σ2 hI2 => ?_)
    refine ⟨fun _ => ?_, fun q => absurd rfl q⟩
    exact hnx σ2 hI2
  refine ⟨fun _ => ?_, fun _ => ?_⟩
  · skip
    obtain ⟨v, T, h1, h2⟩ := o1 σ hI 
    refine h1 _ (fun σ1 hT => ?_)
    refine h2 σ1 hT _ (fun σ2 hI2 => ?_)
    refine ⟨fun _ => ?_, fun q => absurd rfl q⟩
    exact hnx σ2 hI2
  refine ⟨fun _ => ?_, fun _ => ?_⟩
  · skip
    refine ⟨v1, v2, v3, v4, ?_⟩
    obtain ⟨v, T, h1, h2⟩ := o2 σ hI (xs (nI i + 1).toNatClampNeg) (xs (nI i + 2).toNatClampNeg) (xs (nI i + 3).toNatClampNeg) (xs (nI i + 4).toNatClampNeg)
    refine h1 _ (fun σ1 hT => ?_)
    refine ⟨v1, v2, v3, v4, ?_⟩
    refine h2 σ1 hT _ (fun σ2 hI2 => ?_)
    refine ⟨fun _ => ?_, fun q => absurd rfl q⟩
    exact hnx σ2 hI2
  refine ⟨fun _ => ?_, fun _ => ?_⟩
  · skip
    refine ⟨v1, ?_⟩
    obtain ⟨v, T, h1, h2⟩ := o3 σ hI (xs (nI i + 1).toNatClampNeg)
    refine h1 _ (fun σ1 hT => ?_)
    refine ⟨v1, ?_⟩
    refine h2 σ1 hT _ (fun σ2 hI2 => ?_)
    refine ⟨fun _ => ?_, fun q => absurd rfl q⟩
    exact hnx σ2 hI2
  refine ⟨fun _ => ?_, fun _ => ?_⟩
  · skip
    obtain ⟨T, h1, h2⟩ := o4 σ hI
    refine h1 _ (fun σ1 hT => ?_)
    refine h2 σ1 hT _ (fun σ2 hI2 => ?_)
    exact hnx σ2 hI2
  refine ⟨fun _ => ?_, fun _ => ?_⟩
  · skip
    refine ⟨v1, v2, ?_⟩
    obtain ⟨v, T, h1, h2⟩ := o5 σ hI (xs (nI i + 1).toNatClampNeg) (xs (nI i + 2).toNatClampNeg)
    refine h1 _ (fun σ1 hT => ?_)
    refine ⟨v1, v2, ?_⟩
    refine h2 σ1 hT _ (fun σ2 hI2 => ?_)
    refine ⟨fun _ => ?_, fun q => absurd rfl q⟩
    exact hnx σ2 hI2
  refine ⟨fun _ => ?_, fun _ => ?_⟩
  · skip
    refine ⟨v1, v2, v3, v4, v5, ?_⟩
    obtain ⟨v, T, h1, h2⟩ := o6 σ hI (xs (nI i + 1).toNatClampNeg) (xs (nI i + 2).toNatClampNeg) (xs (nI i + 3).toNatClampNeg) (xs (nI i + 4).toNatClampNeg) (xs (nI i + 5).toNatClampNeg)
    refine h1 _ (fun σ1 hT => ?_)
    refine ⟨v1, v2, v3, v4, v5, ?_⟩
    refine h2 σ1 hT _ (fun σ2 hI2 => ?_)
    refine ⟨fun _ => ?_, fun q => absurd rfl q⟩
    exact hnx σ2 hI2
  refine ⟨fun _ => ?_, fun _ => ?_⟩
  · skip
    refine ⟨v1, v2, v3, ?_⟩
    obtain ⟨v, T, h1, h2⟩ := o7 σ hI (xs (nI i + 1).toNatClampNeg) (xs (nI i + 2).toNatClampNeg) (xs (nI i + 3).toNatClampNeg)
    refine h1 _ (fun σ1 hT => ?_)
    refine ⟨v1, v2, v3, ?_⟩
    refine h2 σ1 hT _ (fun σ2 hI2 => ?_)
    refine ⟨fun _ => ?_, fun q => absurd rfl q⟩
    exact hnx σ2 hI2
  refine ⟨fun _ => ?_, fun _ => ?_⟩
  · skip
    refine ⟨v1, v2, v3, v4, v5, ?_⟩
    obtain ⟨v, T, h1, h2⟩ := o8 σ hI (xs (nI i + 1).toNatClampNeg) (xs (nI i + 2).toNatClampNeg) (xs (nI i + 3).toNatClampNeg) (xs (nI i + 4).toNatClampNeg) (xs (nI i + 5).toNatClampNeg)
    refine h1 _ (fun σ1 hT => ?_)
    refine ⟨v1, v2, v3, v4, v5, ?_⟩
    refine h2 σ1 hT _ (fun σ2 hI2 => ?_)
    refine ⟨fun _ => ?_, fun q => absurd rfl q⟩
    exact hnx σ2 hI2
  refine ⟨fun _ => ?_, fun _ => ?_⟩
  · skip
    refine ⟨v1, ?_⟩
    obtain ⟨v, T, h1, h2⟩ := o9 σ hI (xs (nI i + 1).toNatClampNeg)
    refine h1 _ (fun σ1 hT => ?_)
    refine ⟨v1, ?_⟩
    refine h2 σ1 hT _ (fun σ2 hI2 => ?_)
    refine ⟨fun _ => ?_, fun q => absurd rfl q⟩
    exact hnx σ2 hI2
  refine ⟨fun _ => ?_, fun _ => ?_⟩
  · skip
    obtain ⟨v, T, h1, h2⟩ := o10 σ hI 
    refine h1 _ (fun σ1 hT => ?_)
    refine h2 σ1 hT _ (fun σ2 hI2 => ?_)
    refine ⟨fun _ => ?_, fun q => absurd rfl q⟩
    exact hnx σ2 hI2
  refine ⟨fun _ => ?_, fun _ => ?_⟩
  · skip
    obtain ⟨v, T, h1, h2⟩ := o11 σ hI 
    refine h1 _ (fun σ1 hT => ?_)
    refine h2 σ1 hT _ (fun σ2 hI2 => ?_)
    refine ⟨fun _ => ?_, fun q => absurd rfl q⟩
    exact hnx σ2 hI2
  refine ⟨fun _ => ?_, fun _ => ?_⟩
  · skip
    refine ⟨v1, ?_⟩
    obtain ⟨v, T, h1, h2⟩ := o12 σ hI (xs (nI i + 1).toNatClampNeg)
    refine h1 _ (fun σ1 hT => ?_)
    refine ⟨v1, ?_⟩
    refine h2 σ1 hT _ (fun σ2 hI2 => ?_)
    refine ⟨fun _ => ?_, fun q => absurd rfl q⟩
    exact hnx σ2 hI2
  refine ⟨fun _ => ?_, fun _ => ?_⟩
  · skip
    obtain ⟨v, T, h1, h2⟩ := o13 σ hI 
    refine h1 _ (fun σ1 hT => ?_)
    refine h2 σ1 hT _ (fun σ2 hI2 => ?_)
    refine ⟨fun _ => ?_, fun q => absurd rfl q⟩
    exact hnx σ2 hI2
  refine ⟨fun _ => ?_, fun _ => ?_⟩
  · skip
    refine ⟨v1, v2, ?_⟩
    obtain ⟨v, T, h1, h2⟩ := o14 σ hI (xs (nI i + 1).toNatClampNeg) (xs (nI i + 2).toNatClampNeg)
    refine h1 _ (fun σ1 hT => ?_)
    refine ⟨v1, v2, ?_⟩
    refine h2 σ1 hT _ (fun σ2 hI2 => ?_)
    refine ⟨fun _ => ?_, fun q => absurd rfl q⟩
    exact hnx σ2 hI2
  refine ⟨fun _ => ?_, fun _ => ?_⟩
  · skip
    refine ⟨v1, ?_⟩
    obtain ⟨v, T, h1, h2⟩ := o15 σ hI (xs (nI i + 1).toNatClampNeg)
    refine h1 _ (fun σ1 hT => ?_)
    refine ⟨v1, ?_⟩
    refine h2 σ1 hT _ (fun σ2 hI2 => ?_)
    refine ⟨fun _ => ?_, fun q => absurd rfl q⟩
    exact hnx σ2 hI2
  refine ⟨fun _ => ?_, fun _ => ?_⟩
  · skip
    obtain ⟨v, T, h1, h2⟩ := o16 σ hI 
    refine h1 _ (fun σ1 hT => ?_)
    refine h2 σ1 hT _ (fun σ2 hI2 => ?_)
    refine ⟨fun _ => ?_, fun q => absurd rfl q⟩
    exact hnx σ2 hI2
  refine ⟨fun _ => ?_, fun _ => ?_⟩
  · skip
    obtain ⟨v, T, h1, h2⟩ := o17 σ hI 
    refine h1 _ (fun σ1 hT => ?_)
    refine h2 σ1 hT _ (fun σ2 hI2 => ?_)
    refine ⟨fun _ => ?_, fun q => absurd rfl q⟩
    exact hnx σ2 hI2
  exact hnx σ (hII σ hI)
/-- the loop: I n at the beginning of round n -/
theorem jlaw_loop {l : Launch} {D : va_G} {cA : ClassId} {ρ : Nat → Nat} {A : Nat → Prop} {L : Nat} {xs : Nat → Int32} {d : Nat} {I : Nat → jx_St → Prop} (hL : L ≤ 3073) (hops : ∀ n, 6 * n + 7 ≤ L → jx_ops l D cA ρ d (I n) (I (n + 1))) : ∀ (k n i : Nat) (σ : jx_St), i = 6 * n + 1 → i ≤ 4000 → L < i + 6 * k + 6 → I n σ → jx_J l D cA ρ jx_XM A (jx_tbS L xs) (d + 1) 138 (fun r _ => r = some (.int 1)) 28 [(3, .int (nI i)), (2, .ref 34), (1, .ref 0), (0, .ref 800)] [] σ
  | 0, n, i, σ, hin, hi, hk, hI => jlaw_step (I' := I (n + 1)) hL hi (fun h => absurd h (by omega)) hI (fun h => absurd h (by omega))
  | k + 1, n, i, σ, hin, hi, hk, hI => jlaw_step (I' := I (n + 1)) hL hi (fun h => hops n (by omega)) hI (fun h σ2 hI2 => by
      have h9 := jlaw_loop (A := A) (xs := xs) hL hops k (n + 1) (i + 6) σ2 (by omega) (by omega) (by omega) hI2
      rw [← nI_add i 6] at h9
      exact h9)

theorem jx_tb8 : ∀ p n f, jx_tb0 p = some (n, f) → 800 ≤ p := by
  intro p n f h
  unfold jx_tb0 at h
  cases h1 : Nat.beq p 900 with
  | true => have e := Nat.eq_of_beq_eq_true h1; omega
  | false =>
    rw [h1] at h
    cases h2 : Nat.beq p 901 with
    | true => have e := Nat.eq_of_beq_eq_true h2; omega
    | false => rw [h2] at h; cases h
theorem jnc_0 {l : Launch} {D : va_G} {cA : ClassId} {d mc ms p : Nat} {a1 : Int32} {Λ : List jx_Lc} {σ : jx_St} {Q : List jx_Lc → jx_St → Prop}
    (h : jn_rn jx_tb0 jnt_0 (fun Λ k' as σ K => ∀ ρ, jx_C l D cA ρ Λ d k' as σ K) (fun k' mc' ms' as Λ σ K => jn_C l D cA d k' mc' ms' as Λ σ K) Q (fun _ _ _ _ _ _ _ => False) 400 mc ms 0 [(0, .ref p), (1, .int a1)] [] Λ σ) : jn_C l D cA (d + 1) 0 mc ms [.ref p, .int a1] Λ σ Q :=
  jn_in jnk_0 400 rfl rfl rfl jx_tb8 (Nat.le_of_ble_eq_true rfl) h
theorem jnc_32 {l : Launch} {D : va_G} {cA : ClassId} {d mc ms p : Nat} {Λ : List jx_Lc} {σ : jx_St} {Q : List jx_Lc → jx_St → Prop}
    (h : jn_rn jx_tb0 jnt_32 (fun Λ k' as σ K => ∀ ρ, jx_C l D cA ρ Λ d k' as σ K) (fun k' mc' ms' as Λ σ K => jn_C l D cA d k' mc' ms' as Λ σ K) Q (fun _ _ _ _ _ _ _ => False) 400 mc ms 0 [(0, .ref p)] [] Λ σ) : jn_C l D cA (d + 1) 32 mc ms [.ref p] Λ σ Q :=
  jn_in jnk_32 400 rfl rfl rfl jx_tb8 (Nat.le_of_ble_eq_true rfl) h
theorem jnc_34 {l : Launch} {D : va_G} {cA : ClassId} {d mc ms p : Nat} {Λ : List jx_Lc} {σ : jx_St} {Q : List jx_Lc → jx_St → Prop}
    (h : jn_rn jx_tb0 jnt_34 (fun Λ k' as σ K => ∀ ρ, jx_C l D cA ρ Λ d k' as σ K) (fun k' mc' ms' as Λ σ K => jn_C l D cA d k' mc' ms' as Λ σ K) Q (fun _ _ _ _ _ _ _ => False) 400 mc ms 0 [(0, .ref p)] [] Λ σ) : jn_C l D cA (d + 1) 34 mc ms [.ref p] Λ σ Q :=
  jn_in jnk_34 400 rfl rfl rfl jx_tb8 (Nat.le_of_ble_eq_true rfl) h
theorem jnc_55 {l : Launch} {D : va_G} {cA : ClassId} {d mc ms p : Nat} {Λ : List jx_Lc} {σ : jx_St} {Q : List jx_Lc → jx_St → Prop}
    (h : jn_rn jx_tb0 jnt_55 (fun Λ k' as σ K => ∀ ρ, jx_C l D cA ρ Λ d k' as σ K) (fun k' mc' ms' as Λ σ K => jn_C l D cA d k' mc' ms' as Λ σ K) Q (fun _ _ _ _ _ _ _ => False) 400 mc ms 0 [(0, .ref p)] [] Λ σ) : jn_C l D cA (d + 1) 55 mc ms [.ref p] Λ σ Q :=
  jn_in jnk_55 400 rfl rfl rfl jx_tb8 (Nat.le_of_ble_eq_true rfl) h
theorem jnc_61 {l : Launch} {D : va_G} {cA : ClassId} {d mc ms p : Nat} {Λ : List jx_Lc} {σ : jx_St} {Q : List jx_Lc → jx_St → Prop}
    (h : jn_rn jx_tb0 jnt_61 (fun Λ k' as σ K => ∀ ρ, jx_C l D cA ρ Λ d k' as σ K) (fun k' mc' ms' as Λ σ K => jn_C l D cA d k' mc' ms' as Λ σ K) Q (fun _ _ _ _ _ _ _ => False) 400 mc ms 0 [(0, .ref p)] [] Λ σ) : jn_C l D cA (d + 1) 61 mc ms [.ref p] Λ σ Q :=
  jn_in jnk_61 400 rfl rfl rfl jx_tb8 (Nat.le_of_ble_eq_true rfl) h
theorem jnc_67 {l : Launch} {D : va_G} {cA : ClassId} {d mc ms p : Nat} {a1 : Int32} {Λ : List jx_Lc} {σ : jx_St} {Q : List jx_Lc → jx_St → Prop}
    (h : jn_rn jx_tb0 jnt_67 (fun Λ k' as σ K => ∀ ρ, jx_C l D cA ρ Λ d k' as σ K) (fun k' mc' ms' as Λ σ K => jn_C l D cA d k' mc' ms' as Λ σ K) Q (fun _ _ _ _ _ _ _ => False) 400 mc ms 0 [(0, .ref p), (1, .int a1)] [] Λ σ) : jn_C l D cA (d + 1) 67 mc ms [.ref p, .int a1] Λ σ Q :=
  jn_in jnk_67 400 rfl rfl rfl jx_tb8 (Nat.le_of_ble_eq_true rfl) h
theorem jnc_76 {l : Launch} {D : va_G} {cA : ClassId} {d mc ms p : Nat} {a1 : Int32} {Λ : List jx_Lc} {σ : jx_St} {Q : List jx_Lc → jx_St → Prop}
    (h : jn_rn jx_tb0 jnt_76 (fun Λ k' as σ K => ∀ ρ, jx_C l D cA ρ Λ d k' as σ K) (fun k' mc' ms' as Λ σ K => jn_C l D cA d k' mc' ms' as Λ σ K) Q (fun _ _ _ _ _ _ _ => False) 400 mc ms 0 [(0, .ref p), (1, .int a1)] [] Λ σ) : jn_C l D cA (d + 1) 76 mc ms [.ref p, .int a1] Λ σ Q :=
  jn_in jnk_76 400 rfl rfl rfl jx_tb8 (Nat.le_of_ble_eq_true rfl) h
theorem jnc_81 {l : Launch} {D : va_G} {cA : ClassId} {d mc ms p : Nat} {Λ : List jx_Lc} {σ : jx_St} {Q : List jx_Lc → jx_St → Prop}
    (h : jn_rn jx_tb0 jnt_81 (fun Λ k' as σ K => ∀ ρ, jx_C l D cA ρ Λ d k' as σ K) (fun k' mc' ms' as Λ σ K => jn_C l D cA d k' mc' ms' as Λ σ K) Q (fun _ _ _ _ _ _ _ => False) 400 mc ms 0 [(0, .ref p)] [] Λ σ) : jn_C l D cA (d + 1) 81 mc ms [.ref p] Λ σ Q :=
  jn_in jnk_81 400 rfl rfl rfl jx_tb8 (Nat.le_of_ble_eq_true rfl) h
theorem jnc_88 {l : Launch} {D : va_G} {cA : ClassId} {d mc ms p : Nat} {a1 : Int32} {Λ : List jx_Lc} {σ : jx_St} {Q : List jx_Lc → jx_St → Prop}
    (h : jn_rn jx_tb0 jnt_88 (fun Λ k' as σ K => ∀ ρ, jx_C l D cA ρ Λ d k' as σ K) (fun k' mc' ms' as Λ σ K => jn_C l D cA d k' mc' ms' as Λ σ K) Q (fun _ _ _ _ _ _ _ => False) 400 mc ms 0 [(0, .ref p), (1, .int a1)] [] Λ σ) : jn_C l D cA (d + 1) 88 mc ms [.ref p, .int a1] Λ σ Q :=
  jn_in jnk_88 400 rfl rfl rfl jx_tb8 (Nat.le_of_ble_eq_true rfl) h

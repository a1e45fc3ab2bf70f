theorem jx_tb8 : ∀ p n f, jx_tb0 p = some (n, f) → 800 ≤ p := by
  intro p n f h
  unfold jx_tb0 at h
  cases h1 : Nat.beq p 900 with
  | true => have e := Nat.eq_of_beq_eq_true h1; omega
  | false =>
    rw [h1] at h
    cases h2 : Nat.beq p 901 with
    | true => have e := Nat.eq_of_beq_eq_true h2; omega
    | false => rw [h2] at h; cases h
theorem jnc_32 {l : Launch} {D : va_G} {cA : ClassId} {d mc ms p : Nat} {Λ : List jx_Lc} {σ : jx_St} {Q : List jx_Lc → jx_St → Prop}
    (h : jn_rn jx_tb0 jnt_32 (fun Λ k' as σ K => ∀ ρ, jx_C l D cA ρ Λ d k' as σ K) (fun k' mc' ms' as Λ σ K => jn_C l D cA d k' mc' ms' as Λ σ K) Q (fun _ _ _ _ _ _ _ => False) 60 mc ms 0 [(0, .ref p)] [] Λ σ) : jn_C l D cA (d + 1) 32 mc ms [.ref p] Λ σ Q :=
  jn_in jnk_32 60 rfl rfl rfl jx_tb8 (Nat.le_of_ble_eq_true rfl) h
theorem jtest_32 {l : Launch} {D : va_G} {cA : ClassId} {d : Nat} {σ : jx_St} {Q : List jx_Lc → jx_St → Prop} (h : Q [.inl (0, [some none, some none, some none, some none, some none, some none]), .inl (1, [some (some 2), none]), .inr 48] (jn_z σ 2)) : jn_C l D cA (d + 1) 32 1 48 [.ref 1] [.inl (0, [some none, some none, some none, some none, some none, some none]), .inl (1, [some none, none])] σ Q := by
  refine jnc_32 ?_
  refine ⟨by decide, by decide, ?_⟩
  exact h

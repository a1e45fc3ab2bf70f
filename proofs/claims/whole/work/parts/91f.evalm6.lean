/-! the model's loop -/
def ez_fin (f g : Nat → Int32) (B n : Nat) : ez_O → Nat × Nat × ez_V
  | .inl r => ez f g B n r.1 r.2.1 r.2.2
  | .inr r => r
theorem ez_fins {f g : Nat → Int32} {B n : Nat} {S : ez_S} {K : List ez_F} {s : Nat} : ez f g B (n + 1) S K s = ez_fin f g B n (ez_st f g B S K s) := by
  rw [ez]
  cases ez_st f g B S K s <;> rfl
def em_E (σ τ : jx_St) (r : Nat × Nat × ez_V) : Prop := em_same σ τ ∧ τ 34 23 = nI r.1 ∧ τ 34 21 = nI r.2.1 ∧ τ 34 24 = 1 ∧ (r.1 ≤ 1 → ∃ i u w : Nat, τ 34 20 = nI i ∧ u ≤ 260 ∧ em_r τ u w r.2.2 0 i)
theorem ez_ap3 {w x : ez_V} {K : List ez_F} {s : Nat} {r : ez_S × List ez_F × Nat} (h : ez_ap w x K s = .inl r) : r.1.1 = 0 ∨ r.1.1 = 1 ∨ r.1.1 = 3 := by
  unfold ez_ap at h
  split at h
  · split at h
    · cases h; exact Or.inl rfl
    · split at h
      · split at h
        · cases h; exact Or.inr (Or.inl rfl)
        · cases h; exact Or.inr (Or.inr rfl)
      · cases h
  · cases h
theorem ez_s2 {f g : Nat → Int32} {B : Nat} {S : ez_S} {K : List ez_F} {s : Nat} (h : S.1 = 2) : ez_st f g B S K s = ez_ap S.2.2.1 S.2.2.2 K s := by
  obtain ⟨m, p, a, x⟩ := S
  have h : m = 2 := h
  subst h
  rfl
theorem ez_ws3 {f g : Nat → Int32} {s0 E : Nat} {S : ez_S} (h : ez_ws f g s0 E S) : S.1 ≤ 3 := by
  rcases h with ⟨h, -⟩ | ⟨h, -⟩ | ⟨h, -⟩ | ⟨h, -⟩ <;> omega
theorem ez_wk3 {f g : Nat → Int32} {s0 E : Nat} {K : List ez_F} (h : ez_wk f g s0 E K) : ∀ F t, K = F :: t → F.1 ≤ 3 := fun F t e => by
  rw [e] at h
  exact h.1
section EM6
variable {l : Launch} {D : va_G} {cA : ClassId} {ρ : Nat → Nat} {d : Nat} {Q : Option Value → jx_St → Prop} {σ : jx_St} {g : Nat → Int32} {s0 E B : Nat} {a1 a2 a3 a4 a5 : Int32}
theorem em_out {τ : jx_St} {b : Int32} {r : Nat × Nat × ez_V} (hP : em_P σ τ B b (.inr r)) (hQ : em_E σ τ r → Q none τ) : jx_J l D cA ρ jx_XM (jx_A ρ jx_XM) jx_tb0 (d + 7) 107 Q 69 [(6, .int b), (0, .ref 34), (1, .int a1), (2, .int a2), (3, .int a3), (4, .int a4), (5, .int a5)] [] τ := by
  obtain ⟨rfl, h1, h2, h3, h4, h5⟩ := hP
  have h9 := hQ ⟨h1, h2, h3, h4, fun z => absurd z (by omega)⟩
  refine jx_go jk_107 (fun _ _ _ z => z) 60 [69] ?_
  exact ⟨fun _ => ⟨fun _ => h9, fun q => absurd rfl q⟩, fun q => absurd rfl q⟩
set_option maxHeartbeats 4000000 in
theorem em_loop (hE : E ≤ 288) (hb : ∀ j, s0 ≤ j → j < E → ∃ b : Nat, b < 256 ∧ σ 35 j = nI b) : ∀ (n N : Nat) (S : ez_S) (K : List ez_F) (s : Nat) (τ : jx_St), ez_pt S K s ≤ n → ez_pt S K s ≤ N → ez_ws (σ 35) g s0 E S → ez_wk (σ 35) g s0 E K → em_R σ τ B S K s → (∀ τ', em_E σ τ' (ez (σ 35) g B N S K s) → Q none τ') →
    jx_J l D cA ρ jx_XM (jx_A ρ jx_XM) jx_tb0 (d + 7) 107 Q 69 [(6, .int 1), (0, .ref 34), (1, .int a1), (2, .int a2), (3, .int a3), (4, .int a4), (5, .int a5)] [] τ
  | 0, N, S, K, s, τ, hn, hN, hS, hK, hR, hQ => absurd hn (by unfold ez_pt; omega)
  | n + 1, 0, S, K, s, τ, hn, hN, hS, hK, hR, hQ => absurd hN (by unfold ez_pt; omega)
  | n + 1, N + 1, S, K, s, τ, hn, hN, hS, hK, hR, hQ => by
    have hst := ez_wst (B := B) (s := s) hE hb hS hK
    have hR' := hR
    obtain ⟨u, w, hB, p1, p2, hcu⟩ := hR'
    have hB99 := hB.2.2.1
    have hsB := hB.2.1
    have hpot := fun r h => ez_pot (f := σ 35) (g := g) (r := r) hB99 (ez_ws3 hS) (ez_wk3 hK) hsB h
    rw [ez_fins] at hQ
    obtain ⟨m, p, v, x⟩ := S
    have hm : m ≤ 1 := hcu.1
    rcases (by omega : m = 0 ∨ m = 1) with rfl | rfl
    · have key : ∀ b τ', em_P σ τ' B b (ez_st (σ 35) g B (0, p, v, x) K s) → jx_J l D cA ρ jx_XM (jx_A ρ jx_XM) jx_tb0 (d + 7) 107 Q 69 [(6, .int b), (0, .ref 34), (1, .int a1), (2, .int a2), (3, .int a3), (4, .int a4), (5, .int a5)] [] τ' := by
        intro b τ' hP
        cases hO : ez_st (σ 35) g B (0, p, v, x) K s with
        | inl r =>
          rw [hO] at hP hst hQ
          have hp := hpot r hO
          rw [hP.1]
          exact em_loop hE hb n N r.1 r.2.1 r.2.2 τ' (by omega) (by omega) hst.1 hst.2 hP.2 hQ
        | inr r =>
          rw [hO] at hP hQ
          exact em_out hP (hQ τ')
      obtain ⟨e18, -⟩ : em_c0 τ u w p v := hcu.2.1 rfl
      have ht : ez_t (σ 35) g s0 E p (ez_len v) := by
        rcases hS with ⟨-, h, -⟩ | ⟨h, -⟩ | ⟨h, -⟩ | ⟨h, -⟩
        · exact h
        · exact absurd (show (0 : Nat) = 1 from h) (by decide)
        · exact absurd (show (0 : Nat) = 2 from h) (by decide)
        · exact absurd (show (0 : Nat) = 3 from h) (by decide)
      have hp : p < 288 := by
        obtain ⟨-, r, q, h⟩ := ht
        cases r with
        | zero => exact h.elim
        | succ r => have := h.1; omega
      have c1 : 0 ≤ τ 34 18 := by rw [e18]; exact nI_pos' (by omega)
      have c2 : ¬ τ 34 18 < 0 := by rw [e18]; exact nI_pos (by omega)
      refine jx_go jk_107 (fun _ _ _ z => z) 60 [69] ?_
      refine ⟨fun q => absurd q (by decide), fun _ => ⟨fun _ => ⟨fun q => absurd q c2, fun _ => ?_⟩, fun q => absurd c1 q⟩⟩
      exact em_101 (d := d + 3) hE hb ht hR key
    · obtain ⟨e18, i, ei, hv⟩ : em_c1 τ u w v := hcu.2.2 rfl
      have c1 : ¬ 0 ≤ τ 34 18 := by rw [e18]; decide
      have c2 : τ 34 18 < 0 := by rw [e18]; decide
      cases K with
      | nil =>
        have e14 : τ 34 14 = 0 := hB.2.2.2.2.2.2.1
        have c3 : τ 34 14 ≤ 0 := by rw [e14]; decide
        have hlt := em_lt hv
        have va : vp_in (τ 34 20) 260 := by rw [ei]; exact vp_in_nI (by omega) (by decide)
        have ecl : (τ 34 20).toNatClampNeg = i := by rw [ei]; exact nI_clamp (by omega)
        refine jx_go jk_107 (fun _ _ _ z => z) 60 [69] ?_
        refine ⟨fun q => absurd q (by decide), fun _ => ⟨fun q => absurd q c1, fun _ => ⟨fun _ => ⟨fun q => absurd q (by decide), fun _ => ⟨va, ?_⟩⟩, fun q => absurd c3 q⟩⟩⟩
        have hQ : ∀ τ', em_E σ τ' (ez_oc v, s, v) → Q none τ' := hQ
        have fin : ∀ z : Int32, z = nI (ez_oc v) → Q none (jx_su τ 34 23 z) := fun z hz => by
          refine hQ _ ⟨em_sf hB.1, hz, hB.2.2.2.2.1, hB.2.2.2.2.2.1, fun _ => ⟨i, u, w, ei, by omega, hv⟩⟩
        rcases em_isb hv with ⟨b, rfl, kx, fx⟩ | ⟨nx, kx⟩
        · have kx' : τ 38 (τ 34 20).toNatClampNeg = 1 := by rw [ecl]; exact kx
          cases b with
          | true =>
            have fx' : τ 39 (τ 34 20).toNatClampNeg = 1 := by rw [ecl]; exact fx
            exact ⟨fun q => absurd kx' q, fun _ => ⟨va, ⟨fun q => absurd fx' q, fun _ => fin _ rfl⟩⟩⟩
          | false =>
            have fx' : τ 39 (τ 34 20).toNatClampNeg = 0 := by rw [ecl]; exact fx
            exact ⟨fun q => absurd kx' q, fun _ => ⟨va, ⟨fun _ => fin _ rfl, fun q => absurd (fx'.symm.trans q) (by decide)⟩⟩⟩
        · have kx' : ¬ τ 38 (τ 34 20).toNatClampNeg = 1 := by rw [ecl]; exact kx
          have ho : ez_oc v = 1 := by
            cases v with
            | align b => exact absurd rfl (nx b)
            | _ => rfl
          exact ⟨fun _ => fin _ (by rw [ho]; rfl), fun q => absurd q kx'⟩
      | cons F t =>
        have hwv : ez_w (σ 35) g s0 E v := by
          rcases hS with ⟨h, -⟩ | ⟨-, h⟩ | ⟨h, -⟩ | ⟨h, -⟩
          · exact absurd (show (1 : Nat) = 0 from h) (by decide)
          · exact h
          · exact absurd (show (1 : Nat) = 2 from h) (by decide)
          · exact absurd (show (1 : Nat) = 3 from h) (by decide)
        have key : ∀ b τ', em_P σ τ' B b (ez_vl2 (σ 35) g B F.1 F.2.1 F.2.2 v t s) → jx_J l D cA ρ jx_XM (jx_A ρ jx_XM) jx_tb0 (d + 7) 107 Q 69 [(6, .int b), (0, .ref 34), (1, .int a1), (2, .int a2), (3, .int a3), (4, .int a4), (5, .int a5)] [] τ' := by
          intro b τ' hP
          have hst1 : ez_st (σ 35) g B (1, p, v, x) (F :: t) s = ez_vl F.1 F.2.1 F.2.2 v t s := rfl
          rw [hst1] at hQ hst hpot
          unfold ez_vl2 at hP
          cases hO : ez_vl F.1 F.2.1 F.2.2 v t s with
          | inr r =>
            rw [hO] at hP hQ
            exact em_out hP (hQ τ')
          | inl r =>
            rw [hO] at hP hst hQ
            have hp := hpot r hO
            have hP : em_P σ τ' B b (if r.1.1 = 2 then ez_ap2 (σ 35) g B r.1.2.2.1 r.1.2.2.2 r.2.1 r.2.2 else .inl r) := hP
            by_cases c : r.1.1 = 2
            · rw [if_pos c] at hP
              have hQ : ∀ τ', em_E σ τ' (ez (σ 35) g B N r.1 r.2.1 r.2.2) → Q none τ' := hQ
              cases N with
              | zero => exact absurd hp.1 (by unfold ez_pt at hN ⊢; omega)
              | succ N =>
              rw [ez_fins] at hQ
              have hst2 := ez_wst (B := B) (s := r.2.2) hE hb hst.1 hst.2
              have hpot2 := fun r' h => ez_pot (f := σ 35) (g := g) (r := r') hB99 (ez_ws3 hst.1) (ez_wk3 hst.2) hp.2 h
              rw [ez_s2 c] at hQ hst2 hpot2
              unfold ez_ap2 at hP
              cases hO2 : ez_ap r.1.2.2.1 r.1.2.2.2 r.2.1 r.2.2 with
              | inr r' =>
                rw [hO2] at hP hQ
                exact em_out hP (hQ τ')
              | inl r' =>
                rw [hO2] at hP hst2 hQ
                have hp2 := hpot2 r' hO2
                have hP : em_P σ τ' B b (if r'.1.1 = 3 then ez_st (σ 35) g B r'.1 r'.2.1 r'.2.2 else .inl r') := hP
                have hQ : ∀ τ', em_E σ τ' (ez (σ 35) g B N r'.1 r'.2.1 r'.2.2) → Q none τ' := hQ
                by_cases c3 : r'.1.1 = 3
                · rw [if_pos c3] at hP
                  cases N with
                  | zero => exact absurd hp2.1 (by unfold ez_pt at hN hp ⊢; omega)
                  | succ N =>
                  rw [ez_fins] at hQ
                  have hst3 := ez_wst (B := B) (s := r'.2.2) hE hb hst2.1 hst2.2
                  have hpot3 := fun r3 h => ez_pot (f := σ 35) (g := g) (r := r3) hB99 (ez_ws3 hst2.1) (ez_wk3 hst2.2) hp2.2 h
                  cases hO3 : ez_st (σ 35) g B r'.1 r'.2.1 r'.2.2 with
                  | inr r3 =>
                    rw [hO3] at hP hQ
                    exact em_out hP (hQ τ')
                  | inl r3 =>
                    rw [hO3] at hP hst3 hQ
                    have hp3 := hpot3 r3 hO3
                    rw [hP.1]
                    exact em_loop hE hb n N r3.1 r3.2.1 r3.2.2 τ' (by omega) (by omega) hst3.1 hst3.2 hP.2 hQ
                · rw [if_neg c3] at hP
                  rw [hP.1]
                  exact em_loop hE hb n N r'.1 r'.2.1 r'.2.2 τ' (by omega) (by omega) hst2.1 hst2.2 hP.2 hQ
            · rw [if_neg c] at hP
              rw [hP.1]
              exact em_loop hE hb n N r.1 r.2.1 r.2.2 τ' (by omega) (by omega) hst.1 hst.2 hP.2 hQ
        have e14 : τ 34 14 = nI (t.length + 1) := hB.2.2.2.2.2.2.1
        have p2 : w + (t.length + 1) ≤ 3 + s := p2
        have c3 : ¬ τ 34 14 ≤ 0 := by rw [e14]; exact nI_nle (by omega) (by omega)
        refine jx_go jk_107 (fun _ _ _ z => z) 60 [69] ?_
        refine ⟨fun q => absurd q (by decide), fun _ => ⟨fun q => absurd q c1, fun _ => ⟨fun q => absurd q c3, fun _ => ⟨fun _ => ?_, fun q => absurd c2 q⟩⟩⟩⟩
        exact em_102 (d := d) hK hwv hR key
end EM6

/-! submit: the second phase -/
abbrev su_J : Type := Nat × Int32 × Int32 × Int32
abbrev su_O : Type := Option (Nat × Nat × ez_V)
def su_cx (σ : jx_St) (n : Nat) (p : Int32) : Nat → Int32
  | 0 => p
  | 1 => σ 34 43
  | 2 => σ 34 44
  | 3 => σ 34 42
  | 4 => σ 34 45
  | 5 => σ 34 33
  | 6 => σ 34 36
  | 7 => σ 59 1
  | 8 => σ 59 2
  | _ => iv_sum (fun i => σ 48 (3 * (σ 54 i).toNatClampNeg + 0)) n
def su_R (σ : jx_St) (g : Nat → Int32) (n : Nat) (j : su_J) (B : Nat) : Nat × Nat × ez_V := ez (σ 35) g B 2000 (0, 48 * j.1, .nil, .nil) [(3, 0, ez_i j.2.1), (3, 0, ez_i j.2.2.1), (3, 0, ez_ls (su_cx σ n j.2.2.2) 10 0)] 0
def su_jb (σ : jx_St) (g : Nat → Int32) (n : Nat) : List su_J → Nat → su_O → Bool × su_O
  | [], _, last => (true, last)
  | j :: t, B, _ => if (su_R σ g n j B).1 = 0 then su_jb σ g n t (B - (su_R σ g n j B).2.1) (some (su_R σ g n j B)) else (false, some (su_R σ g n j B))
def su_j2 (σ : jx_St) : List su_J := if σ 59 2 = 0 then [] else [(1, σ 59 2, σ 60 2, nI 10)]
def su_j1 (σ : jx_St) : List su_J := if σ 59 1 = 0 then su_j2 σ else (0, σ 59 1, σ 60 1, nI 9) :: su_j2 σ
def su_ji (σ : jx_St) : Nat → Nat → List su_J
  | 0, _ => su_j1 σ
  | k + 1, i => if su_k σ i < 4 then su_ji σ k (i + 1) else (su_k σ i - 4, σ 50 (σ 54 i).toNatClampNeg, σ 55 i, nI i) :: su_ji σ k (i + 1)
theorem ez_lsc {f f' : Nat → Int32} : ∀ (k i : Nat), (∀ j, i ≤ j → j < i + k → f j = f' j) → ez_ls f k i = ez_ls f' k i
  | 0, _, _ => rfl
  | k + 1, i, h => by
    show Std.Format.append (ez_i (f i)) (ez_ls f k (i + 1)) = .append (ez_i (f' i)) (ez_ls f' k (i + 1))
    rw [h i (Nat.le_refl _) (by omega), ez_lsc k (i + 1) (fun j a b => h j (by omega) (by omega))]
/-- a run takes no more steps than it may -/
theorem ez_sB {f g : Nat → Int32} {s0 E B : Nat} (hB : B ≤ 99) (hE : E ≤ 288) (hb : ∀ j, s0 ≤ j → j < E → ∃ b : Nat, b < 256 ∧ f j = nI b) : ∀ (n : Nat) (S : ez_S) (K : List ez_F) (s : Nat), ez_ws f g s0 E S → ez_wk f g s0 E K → s ≤ B → (ez f g B n S K s).2.1 ≤ B
  | 0, _, _, _, _, _, hs => hs
  | n + 1, S, K, s, hS, hK, hs => by
    rw [ez_fins]
    have hst := ez_wst (B := B) (s := s) hE hb hS hK
    have hpot := fun r h => ez_pot (f := f) (g := g) (r := r) hB (ez_ws3 hS) (ez_wk3 hK) hs h
    cases hO : ez_st f g B S K s with
    | inl r =>
      rw [hO] at hst
      exact ez_sB hB hE hb n _ _ _ hst.1 hst.2 (hpot r hO).2
    | inr r =>
      show r.2.1 ≤ B
      unfold ez_st at hO
      split at hO
      · split at hO
        · cases hO; exact Nat.le_refl _
        · unfold ez_tm at hO
          repeat (split at hO; · cases hO)
          split at hO
          · cases hO; show s + 1 ≤ B; omega
          · cases hO
      · split at hO
        · split at hO
          · cases hO; exact hs
          · unfold ez_vl at hO
            repeat (split at hO; · cases hO)
            split at hO
            · split at hO
              · cases hO
              · cases hO; exact hs
            · cases hO; exact hs
        · split at hO
          · unfold ez_ap at hO
            split at hO
            · split at hO
              · cases hO
              · split at hO
                · split at hO <;> cases hO
                · cases hO; exact hs
            · cases hO; exact hs
          · split at hO
            · cases hO; exact Nat.le_refl _
            · unfold ez_bu at hO
              split at hO
              · cases hO
              · cases hO; rename_i c _; show s + ez_co S.2.1 ≤ B; omega
/-- the class's state in the second phase -/
def sx_l (σ τ : jx_St) : su_O → Prop
  | none => τ 3 = σ 3
  | some r => τ 3 13 = nI r.1 ∧ τ 3 12 = nI r.2.1 ∧ (1 < r.1 → τ 3 14 = -1 ∧ τ 3 15 = 0) ∧ (r.1 ≤ 1 → τ 3 14 = ez_k r.2.2 ∧ τ 3 15 = ez_n r.2.2)
def sx_in (p : Nat) : Bool := ec_in p || Nat.beq p 32
def sx_C (σ τ : jx_St) (n : Nat) (last : su_O) : Prop := (∀ q, sx_in q = false → τ q = σ q) ∧ (∀ j, 1 ≤ j → j < 10 → τ 32 j = su_cx σ n 0 j) ∧ sx_l σ τ last
section SX
variable {l : Launch} {D : va_G} {cA : ClassId} {ρ : Nat → Nat} {d : Nat} {Q : Option Value → jx_St → Prop} {σ τ : jx_St} {m h n g c B : Nat}
theorem su_30 (hm : m ≤ 48) (hn : n ≤ 3) (en : σ 23 2 = nI n) (en2 : σ 34 33 = nI n) (eg : σ 26 3 = σ 34 36) (hL : su_LK σ m n) (hO : ∀ o, o < m → iv_O σ o h) (hM : ∀ t, t < 3 → σ 30 t = σ 59 t) (hT : iv_T σ) (hQ : ∀ τ, sx_C σ τ n none → Q none τ) : jx_C l D cA ρ jx_XM (d + 3) 30 [.ref 0] σ Q := by
  obtain ⟨e6, e7, e8, e9, e10, e11, -, -, -⟩ := hT
  have vv : ∀ k : Nat, k < 10 → vp_in (nI k) 10 := fun k hk => vp_in_nI hk (by decide)
  refine ji_30 ⟨vv 1 (by decide), vv 2 (by decide), vv 3 (by decide), vv 4 (by decide), vv 5 (by decide), vv 6 (by decide), vp_in_nI (n := 1) (by decide) (by decide), vv 7 (by decide), vp_in_nI (n := 2) (by decide) (by decide), vv 8 (by decide), ?_⟩
  refine su_23 (t := 0) (m := m) (by decide) hm hn en (fun i hi => ?_) ⟨vv 9 (by decide), hQ _ ?_⟩
  · obtain ⟨o, k, ho, hk, a1, a2, a3, a4, a5, a6⟩ := hL i hi
    exact ⟨o, ho, a1⟩
  · refine ⟨fun q hq => ?_, fun j h1 h2 => ?_, rfl⟩
    · have hq2 : q ≠ 32 := fun e => by rw [e] at hq; cases hq
      rw [jx_su_ne _ _ _ hq2, jx_su_ne _ _ _ hq2, jx_su_ne _ _ _ hq2, jx_su_ne _ _ _ hq2, jx_su_ne _ _ _ hq2, jx_su_ne _ _ _ hq2, jx_su_ne _ _ _ hq2, jx_su_ne _ _ _ hq2, jx_su_ne _ _ _ hq2]
    · rcases (by omega : j = 1 ∨ j = 2 ∨ j = 3 ∨ j = 4 ∨ j = 5 ∨ j = 6 ∨ j = 7 ∨ j = 8 ∨ j = 9) with rfl | rfl | rfl | rfl | rfl | rfl | rfl | rfl | rfl
      · exact e7
      · exact e8
      · exact e6
      · exact e9
      · exact en.trans en2.symm
      · exact eg
      · exact hM 1 (by decide)
      · exact hM 2 (by decide)
      · show iv_sum (fun i => σ 19 (3 * (σ 24 i).toNatClampNeg + 0)) n = iv_sum (fun i => σ 48 (3 * (σ 54 i).toNatClampNeg + 0)) n
        refine iv_sum_eq (fun i hi => ?_)
        obtain ⟨o, k, ho, hk, a1, a2, a3, a4, a5, a6⟩ := hL i hi
        rw [a1, a2, nI_clamp (by omega)]
        exact ((hO o ho).2.2.2.2.2.1 0 (by decide)).1
end SX

/-! the model's reader: formed -/
def fz_t (f : Nat → Int32) (e : Nat) : List (Nat × Nat) → Nat → Bool
  | [], a => decide (a = e)
  | (r, lam) :: t, a => match pz_t f e r a lam with
    | none => false
    | some q => fz_t f e t q
section FZ
variable {f : Nat → Int32} {e r lam a : Nat} {t : List (Nat × Nat)}
theorem fz_no (h : pz_t f e r a lam = none) : fz_t f e ((r, lam) :: t) a = false := by rw [fz_t, h]
theorem fz_yes {q : Nat} (h : pz_t f e r a lam = some q) : fz_t f e ((r, lam) :: t) a = fz_t f e t q := by rw [fz_t, h]
theorem fz_one {r' lam' a' : Nat} (h : pz_t f e r a lam = pz_t f e r' a' lam') : fz_t f e ((r, lam) :: t) a = fz_t f e ((r', lam') :: t) a' := by rw [fz_t, fz_t, h]
theorem fz_two (hp : a < e) (h : f a = 2) : fz_t f e ((r + 1, lam) :: t) a = fz_t f e ((r, lam) :: (r, lam) :: t) (a + 1) := by
  cases h1 : pz_t f e r (a + 1) lam with
  | none => rw [fz_no (pz_2n hp h h1), fz_no h1]
  | some q => rw [fz_yes h1]; exact fz_one (pz_2s hp h h1)
end FZ
def jx_s2 (σ : jx_St) (d l : Nat → Int32) : jx_St := fun q => bif Nat.beq q 61 then d else bif Nat.beq q 62 then l else σ q
theorem jx_s2a (σ : jx_St) (d l : Nat → Int32) (i : Nat) (v : Int32) : jx_su (jx_s2 σ d l) 61 i v = jx_s2 σ (upd d i v) l := by
  funext q
  by_cases hq : q = 61
  · subst hq; rw [jx_su_eq]; rfl
  · rw [jx_su_ne _ _ _ hq]
    unfold jx_s2
    rw [jx_bne hq]
    rfl
theorem jx_s2b (σ : jx_St) (d l : Nat → Int32) (i : Nat) (v : Int32) : jx_su (jx_s2 σ d l) 62 i v = jx_s2 σ d (upd l i v) := by
  funext q
  by_cases hq : q = 62
  · subst hq; rw [jx_su_eq]; rfl
  · rw [jx_su_ne _ _ _ hq]
    unfold jx_s2
    rw [jx_bne hq]
    rfl
theorem jx_lkmem {v : Value} {i : Nat} : ∀ {lv : jx_Lv}, jx_lk lv i = some v → (i, v) ∈ lv
  | [], h => by cases h
  | (j, w) :: t, h => by
    unfold jx_lk at h
    by_cases hj : j = i
    · subst hj
      simp at h
      subst h
      exact List.mem_cons_self
    · rw [jx_bne hj] at h
      exact List.mem_cons_of_mem _ (jx_lkmem h)
theorem jx_Jsub {l : Launch} {D : va_G} {cA : ClassId} {ρ : Nat → Nat} {Λ : List jx_Lc} {A : Nat → Prop} {tb : jx_Tb} {d k : Nat} {Q : Option Value → jx_St → Prop} {pc : Nat} {lv lv' : jx_Lv} {st : List Value} {σ : jx_St} (hs : ∀ q ∈ lv', q ∈ lv) (h : jx_J l D cA ρ Λ A tb d k Q pc lv' st σ) : jx_J l D cA ρ Λ A tb d k Q pc lv st σ := by
  intro p e R s m args below meth c cells slots QW X hret H locs ls hP hS hl
  refine h p e R s m args below meth c cells slots QW X hret H locs ls hP hS ⟨hl.1, hl.2.1, fun q hq => ?_⟩
  obtain ⟨a, ha, rfl⟩ := List.mem_map.mp hq
  exact hl.2.2 _ (List.mem_map.mpr ⟨a, hs a ha, rfl⟩)
theorem jx_Jsub3 {l : Launch} {D : va_G} {cA : ClassId} {ρ : Nat → Nat} {Λ : List jx_Lc} {A : Nat → Prop} {tb : jx_Tb} {d k : Nat} {Q : Option Value → jx_St → Prop} {pc : Nat} {lv : jx_Lv} {st : List Value} {σ : jx_St} {i1 i2 i3 : Nat} {v1 v2 v3 : Value} (h1 : jx_lk lv i1 = some v1) (h2 : jx_lk lv i2 = some v2) (h3 : jx_lk lv i3 = some v3) (h : jx_J l D cA ρ Λ A tb d k Q pc [(i1, v1), (i2, v2), (i3, v3)] st σ) : jx_J l D cA ρ Λ A tb d k Q pc lv st σ := by
  refine jx_Jsub (fun q hq => ?_) h
  rcases List.mem_cons.mp hq with rfl | hq
  · exact jx_lkmem h1
  · rcases List.mem_cons.mp hq with rfl | hq
    · exact jx_lkmem h2
    · rcases List.mem_cons.mp hq with rfl | hq
      · exact jx_lkmem h3
      · exact absurd hq List.not_mem_nil
/-- the stack in the two arrays; its order -/
def ps_t (d l : Nat → Int32) : List (Nat × Nat) → Prop
  | [] => True
  | (r, lam) :: t => d t.length = nI (21 - r) ∧ l t.length = nI lam ∧ r ≤ 21 ∧ lam + r ≤ 21 ∧ ps_t d l t
theorem ps_keep {d l d' l' : Nat → Int32} : ∀ {t : List (Nat × Nat)}, ps_t d l t → (∀ i, i < t.length → d' i = d i ∧ l' i = l i) → ps_t d' l' t
  | [], _, _ => trivial
  | (r, lam) :: t, h, hk => by
    obtain ⟨h1, h2, h3, h4, h5⟩ := h
    have a := hk t.length (by simp)
    exact ⟨a.1.trans h1, a.2.trans h2, h3, h4, ps_keep h5 (fun i hi => hk i (by simp; omega))⟩
def pi_s : Nat → List (Nat × Nat) → Prop
  | _, [] => True
  | r, (r1, _) :: t => r < r1 ∧ r1 ≤ 21 ∧ pi_s r1 t
theorem pi_len : ∀ {r : Nat} {t : List (Nat × Nat)}, pi_s r t → r ≤ 21 → t.length + r ≤ 21
  | r, [], _, hr => by simpa using hr
  | r, (r1, x) :: t, h, hr => by
    have := pi_len h.2.2 h.2.1
    have := h.1
    simp
    omega
def pi_t : List (Nat × Nat) → Prop
  | [] => True
  | (r, _) :: t => r ≤ 21 ∧ match t with
    | [] => True
    | (r1, _) :: t' => r ≤ r1 ∧ r1 ≤ 21 ∧ pi_s r1 t'
theorem pi_pop {r lam : Nat} {t : List (Nat × Nat)} (h : pi_t ((r, lam) :: t)) : pi_t t := by
  cases t with
  | nil => trivial
  | cons x t' =>
    obtain ⟨r1, l1⟩ := x
    refine ⟨h.2.2.1, ?_⟩
    cases t' with
    | nil => trivial
    | cons y t2 =>
      obtain ⟨r2, l2⟩ := y
      exact ⟨Nat.le_of_lt h.2.2.2.1, h.2.2.2.2.1, h.2.2.2.2.2⟩
theorem pi_one {r lam lam' : Nat} {t : List (Nat × Nat)} (h : pi_t ((r + 1, lam) :: t)) : pi_t ((r, lam') :: t) := by
  refine ⟨by have := h.1; omega, ?_⟩
  cases t with
  | nil => trivial
  | cons x t' => exact ⟨by have := h.2.1; omega, h.2.2⟩
theorem pi_two {r lam l1 l2 : Nat} {t : List (Nat × Nat)} (h : pi_t ((r + 1, lam) :: t)) : pi_t ((r, l1) :: (r, l2) :: t) := by
  refine ⟨by have := h.1; omega, Nat.le_refl _, by have := h.1; omega, ?_⟩
  cases t with
  | nil => trivial
  | cons x t' => exact ⟨by have := h.2.1; omega, h.2.2.1, h.2.2.2⟩
theorem pi_size {r lam : Nat} {t : List (Nat × Nat)} (h : pi_t ((r, lam) :: t)) : t.length ≤ 22 := by
  cases t with
  | nil => simp
  | cons x t' =>
    have := pi_len h.2.2.2 h.2.2.1
    simp
    omega
set_option maxHeartbeats 8000000 in
theorem jp_91 {l : Launch} {D : va_G} {cA : ClassId} {ρ : Nat → Nat} {d n : Nat} {σ : jx_St} {Q : Option Value → jx_St → Prop} (hn : n ≤ 48) (en : σ 34 3 = nI n) (hb : ∀ i, i < n → ∃ b : Nat, b < 256 ∧ σ 37 i = nI b) : ∀ (c a : Nat) (S : List (Nat × Nat)) (dd ll : Nat → Int32), a + c = n → ps_t dd ll S → pi_t S → (∀ d' l', Q (some (.int (if fz_t (σ 37) n S a = true then 1 else 0))) (jx_s2 σ d' l')) →
    jx_J l D cA ρ jx_XM (jx_A ρ jx_XM) jx_tb0 (d + 1) 91 Q 18 [(2, .int (nI a)), (1, .int (nI S.length)), (0, .ref 34)] [] (jx_s2 σ dd ll) := by
  intro c
  induction c using Nat.strongRecOn with
  | _ c ihs =>
  have ih2_ : ∀ (a' : Nat) (S : List (Nat × Nat)) (dd ll : Nat → Int32), n < a' + c → a' ≤ n → ps_t dd ll S → pi_t S → (∀ d' l', Q (some (.int (if fz_t (σ 37) n S a' = true then 1 else 0))) (jx_s2 σ d' l')) → jx_J l D cA ρ jx_XM (jx_A ρ jx_XM) jx_tb0 (d + 1) 91 Q 18 [(2, .int (nI a')), (1, .int (nI S.length)), (0, .ref 34)] [] (jx_s2 σ dd ll) := fun a' S dd ll h1 h2 => ihs (n - a') (by omega) a' S dd ll (by omega)
  cases c with
  | zero =>
    intro a S dd ll hac hps hpi hQ
    have ea : a = n := by omega
    subst ea
    cases S with
    | nil =>
      have h9 := hQ dd ll
      rw [show fz_t (σ 37) a [] a = true by simp [fz_t]] at h9
      have e1 : nI a = σ 34 3 := en.symm
      refine jx_go jk_91 (fun _ _ _ z => z) 200 [18] ?_
      refine ⟨fun _ => ?_, fun q => absurd (show nI 0 ≤ 0 by decide) q⟩
      refine ⟨fun q => absurd e1 q, fun _ => ?_⟩
      exact ⟨Or.inr rfl, h9⟩
    | cons x t =>
      obtain ⟨r, lam⟩ := x
      obtain ⟨p1, p2, p3, p4, p5⟩ := hps
      have ht := pi_size hpi
      have hw : ¬ nI (t.length + 1) ≤ 0 := nI_nle (by omega) (by omega)
      have ew : nI (t.length + 1) + (-1) = nI t.length := pk_m1 _
      have v0 : vp_in (nI (t.length + 1) + (-1)) 48 := by rw [ew]; exact vp_in_nI (by omega) (by decide)
      have ha : σ 34 3 ≤ nI a := by rw [en]; exact Int32.le_refl _
      have h1c : σ 34 3 ≤ nI a + 1 := by rw [en, nI_1]; exact nI_le (by omega) (by omega)
      have h9 := hQ dd ll
      rw [fz_no (show pz_t (σ 37) a r a lam = none by cases r with | zero => rfl | succ r => exact pz_end (Nat.lt_irrefl _))] at h9
      refine jx_go jk_91 (fun _ _ _ z => z) 200 [18] ?_
      refine ⟨fun q => absurd q hw, fun _ => ?_⟩
      refine ⟨v0, ?_⟩
      refine ⟨v0, ?_⟩
      refine ⟨fun _ => ?_, fun q => absurd ha q⟩
      refine ⟨fun q => absurd q (of_decide_eq_true rfl), fun _ => ?_⟩
      refine ⟨fun q => absurd q (of_decide_eq_true rfl), fun _ => ?_⟩
      refine ⟨fun _ => ?_, fun q => absurd q (of_decide_eq_true rfl)⟩
      refine ⟨fun _ => ?_, fun q => absurd h1c q⟩
      refine ⟨fun _ => ?_, fun q => absurd q (of_decide_eq_true rfl)⟩
      refine ⟨Or.inl rfl, ?_⟩
      exact h9
  | succ c =>
    intro a S dd ll hac hps hpi hQ
    cases S with
    | nil =>
      have h9 := hQ dd ll
      rw [show fz_t (σ 37) n [] a = false by simp [fz_t]; omega] at h9
      have e1 : ¬ nI a = σ 34 3 := by rw [en]; exact fun q => absurd ((nI_eq (by omega) (by omega)).mp q) (by omega)
      refine jx_go jk_91 (fun _ _ _ z => z) 200 [18] ?_
      refine ⟨fun _ => ?_, fun q => absurd (show nI 0 ≤ 0 by decide) q⟩
      refine ⟨fun _ => ?_, fun q => absurd q e1⟩
      exact ⟨Or.inl rfl, h9⟩
    | cons x t =>
      obtain ⟨r, lam⟩ := x
      obtain ⟨p1, p2, p3, p4, p5⟩ := hps
      have ht := pi_size hpi
      have hw : ¬ nI (t.length + 1) ≤ 0 := nI_nle (by omega) (by omega)
      have ew : nI (t.length + 1) + (-1) = nI t.length := pk_m1 _
      have ei : (nI (t.length + 1) + (-1)).toNatClampNeg = t.length := by rw [ew]; exact nI_clamp (by omega)
      have v0 : vp_in (nI (t.length + 1) + (-1)) 48 := by rw [ew]; exact vp_in_nI (by omega) (by decide)
      have v0b : vp_in (nI (t.length + 1) + (-1) + 1) 48 := by rw [ew, nI_1]; exact vp_in_nI (by omega) (by decide)
      have ei2 : (nI (t.length + 1) + (-1) + 1).toNatClampNeg = t.length + 1 := by rw [ew, nI_1]; exact nI_clamp (by omega)
      have ha : ¬ σ 34 3 ≤ nI a := by rw [en]; exact nI_ge (by omega) (by omega)
      have va : vp_in (nI a) 48 := vp_in_nI (by omega) (by decide)
      have ecl : (nI a).toNatClampNeg = a := nI_clamp (by omega)
      have ecl1 : (nI a + 1).toNatClampNeg = a + 1 := by rw [nI_1]; exact nI_clamp (by omega)
      obtain ⟨b, hb256, eb⟩ := hb a (by omega)
      have han : a < n := by omega
      have ebx : σ 37 (nI a).toNatClampNeg = nI b := by rw [ecl]; exact eb
      have q1 : dd (nI (t.length + 1) + (-1)).toNatClampNeg = nI (21 - r) := by rw [ei]; exact p1
      have q2 : ll (nI (t.length + 1) + (-1)).toNatClampNeg = nI lam := by rw [ei]; exact p2
      by_cases h1 : a + 1 < n
      · skip
        obtain ⟨b1, hb1, eb1⟩ := hb (a + 1) h1
        have eb1x : σ 37 (nI a + 1).toNatClampNeg = nI b1 := by rw [ecl1]; exact eb1
        have h1c : ¬ σ 34 3 ≤ nI a + 1 := by rw [en, nI_1]; exact nI_ge (by omega) (by omega)
        have v1 : vp_in (nI a + 1) 48 := by rw [nI_1]; exact vp_in_nI (by omega) (by decide)
        have n9 : ¬ σ 37 (nI a + 1).toNatClampNeg = 999 := by rw [eb1x]; exact fun q => absurd ((nI_eq (b := 999) (by omega) (by decide)).mp q) (by omega)
        rcases (by omega : b = 0 ∨ b = 1 ∨ b = 2 ∨ b = 3 ∨ b = 4 ∨ b = 5 ∨ b = 6 ∨ b = 7 ∨ b = 8 ∨ 9 ≤ b) with rfl | rfl | rfl | rfl | rfl | rfl | rfl | rfl | rfl | hb9
        · skip
          have k0 : σ 37 (nI a).toNatClampNeg = 0 := by rw [ebx]; exact rfl
          have k1 : ¬ σ 37 (nI a).toNatClampNeg = 1 := by rw [ebx]; decide
          have k2 : ¬ σ 37 (nI a).toNatClampNeg = 2 := by rw [ebx]; decide
          have k3 : ¬ σ 37 (nI a).toNatClampNeg = 3 := by rw [ebx]; decide
          have k4 : ¬ σ 37 (nI a).toNatClampNeg = 4 := by rw [ebx]; decide
          have k5 : ¬ σ 37 (nI a).toNatClampNeg = 5 := by rw [ebx]; decide
          have k6 : ¬ σ 37 (nI a).toNatClampNeg = 6 := by rw [ebx]; decide
          have k8 : ¬ 8 < σ 37 (nI a).toNatClampNeg := by rw [ebx]; decide
          cases r with
          | zero =>
            have hl : 20 < dd (nI (t.length + 1) + (-1)).toNatClampNeg := by rw [q1]; decide
            have h9 := hQ dd ll
            rw [fz_no (show pz_t (σ 37) n 0 a lam = none from rfl)] at h9
            refine jx_go jk_91 (fun _ _ _ z => z) 200 [18] ?_
            refine ⟨fun q => absurd q hw, fun _ => ?_⟩
            refine ⟨v0, ?_⟩
            refine ⟨v0, ?_⟩
            refine ⟨fun q => absurd q ha, fun _ => ?_⟩
            refine ⟨va, ?_⟩
            refine ⟨fun _ => ?_, fun q => absurd k0 q⟩
            refine ⟨fun q => absurd q h1c, fun _ => ?_⟩
            refine ⟨v1, ?_⟩
            refine ⟨fun q => absurd q k8, fun _ => ?_⟩
            refine ⟨fun _ => ?_, fun q => absurd hl q⟩
            refine ⟨Or.inl rfl, ?_⟩
            exact h9
          | succ r =>
            have hl : ¬ 20 < dd (nI (t.length + 1) + (-1)).toNatClampNeg := by rw [q1]; exact nI_nlt (a := 20) (by omega) (by decide)
            have elev : dd (nI (t.length + 1) + (-1)).toNatClampNeg + 1 = nI (21 - r) := by rw [q1, nI_1]; exact congrArg nI (by omega)
            by_cases hc : nI b1 < nI lam
            · have hk : ¬ ll (nI (t.length + 1) + (-1)).toNatClampNeg ≤ σ 37 (nI a + 1).toNatClampNeg := by rw [q2, eb1x]; exact Int32.not_le.mpr hc
              have ih2 := ih2_ (a + 2) t dd ll (by omega) (by omega) p5 (pi_pop hpi) (fun d' l' => by have h9 := hQ d' l'; rw [fz_yes (by rw [pz_0 han eb, if_pos ⟨h1, by rw [eb1]; exact hc⟩])] at h9; exact h9)
              rw [show nI (a + 2) = nI a + 2 from (nI_add a 2).symm, ← ew] at ih2
              refine jx_go jk_91 (fun _ _ _ z => z) 200 [18] ?_
              refine ⟨fun q => absurd q hw, fun _ => ?_⟩
              refine ⟨v0, ?_⟩
              refine ⟨v0, ?_⟩
              refine ⟨fun q => absurd q ha, fun _ => ?_⟩
              refine ⟨va, ?_⟩
              refine ⟨fun _ => ?_, fun q => absurd k0 q⟩
              refine ⟨fun q => absurd q h1c, fun _ => ?_⟩
              refine ⟨v1, ?_⟩
              refine ⟨fun q => absurd q k8, fun _ => ?_⟩
              refine ⟨fun q => absurd q hl, fun _ => ?_⟩
              refine ⟨fun q => absurd q (of_decide_eq_true rfl), fun _ => ?_⟩
              refine ⟨fun q => absurd q n9, fun _ => ?_⟩
              refine ⟨fun q => absurd k0 q, fun _ => ?_⟩
              refine ⟨fun q => absurd q hk, fun _ => ?_⟩
              refine ⟨fun _ => ?_, fun q => absurd q k4⟩
              refine ⟨fun q => absurd q (of_decide_eq_true rfl), fun _ => ?_⟩
              refine ⟨fun _ => ?_, fun q => absurd q k2⟩
              refine ⟨fun q => absurd q k1, fun _ => ?_⟩
              refine ⟨fun q => absurd q k5, fun _ => ?_⟩
              refine ⟨fun _ => ?_, fun q => absurd q k6⟩
              refine ⟨fun _ => ?_, fun q => absurd q (of_decide_eq_true rfl)⟩
              refine jx_Jsub3 (i1 := 2) (i2 := 1) (i3 := 0) rfl rfl rfl ?_
              exact ih2
            · have hk : ll (nI (t.length + 1) + (-1)).toNatClampNeg ≤ σ 37 (nI a + 1).toNatClampNeg := by rw [q2, eb1x]; exact Int32.not_lt.mp hc
              have h9 := hQ dd ll
              rw [fz_no (by rw [pz_0 han eb, if_neg (fun q => hc (by rw [← eb1]; exact q.2))])] at h9
              refine jx_go jk_91 (fun _ _ _ z => z) 200 [18] ?_
              refine ⟨fun q => absurd q hw, fun _ => ?_⟩
              refine ⟨v0, ?_⟩
              refine ⟨v0, ?_⟩
              refine ⟨fun q => absurd q ha, fun _ => ?_⟩
              refine ⟨va, ?_⟩
              refine ⟨fun _ => ?_, fun q => absurd k0 q⟩
              refine ⟨fun q => absurd q h1c, fun _ => ?_⟩
              refine ⟨v1, ?_⟩
              refine ⟨fun q => absurd q k8, fun _ => ?_⟩
              refine ⟨fun q => absurd q hl, fun _ => ?_⟩
              refine ⟨fun q => absurd q (of_decide_eq_true rfl), fun _ => ?_⟩
              refine ⟨fun q => absurd q n9, fun _ => ?_⟩
              refine ⟨fun q => absurd k0 q, fun _ => ?_⟩
              refine ⟨fun _ => ?_, fun q => absurd hk q⟩
              refine ⟨Or.inl rfl, ?_⟩
              exact h9
        · skip
          have k0 : ¬ σ 37 (nI a).toNatClampNeg = 0 := by rw [ebx]; decide
          have k1 : σ 37 (nI a).toNatClampNeg = 1 := by rw [ebx]; exact rfl
          have k2 : ¬ σ 37 (nI a).toNatClampNeg = 2 := by rw [ebx]; decide
          have k3 : ¬ σ 37 (nI a).toNatClampNeg = 3 := by rw [ebx]; decide
          have k4 : ¬ σ 37 (nI a).toNatClampNeg = 4 := by rw [ebx]; decide
          have k5 : ¬ σ 37 (nI a).toNatClampNeg = 5 := by rw [ebx]; decide
          have k6 : ¬ σ 37 (nI a).toNatClampNeg = 6 := by rw [ebx]; decide
          have k8 : ¬ 8 < σ 37 (nI a).toNatClampNeg := by rw [ebx]; decide
          cases r with
          | zero =>
            have hl : 20 < dd (nI (t.length + 1) + (-1)).toNatClampNeg := by rw [q1]; decide
            have h9 := hQ dd ll
            rw [fz_no (show pz_t (σ 37) n 0 a lam = none from rfl)] at h9
            refine jx_go jk_91 (fun _ _ _ z => z) 200 [18] ?_
            refine ⟨fun q => absurd q hw, fun _ => ?_⟩
            refine ⟨v0, ?_⟩
            refine ⟨v0, ?_⟩
            refine ⟨fun q => absurd q ha, fun _ => ?_⟩
            refine ⟨va, ?_⟩
            refine ⟨fun q => absurd q k0, fun _ => ?_⟩
            refine ⟨fun q => absurd q k3, fun _ => ?_⟩
            refine ⟨fun _ => ?_, fun q => absurd q k4⟩
            refine ⟨fun q => absurd q h1c, fun _ => ?_⟩
            refine ⟨v1, ?_⟩
            refine ⟨fun q => absurd q k8, fun _ => ?_⟩
            refine ⟨fun _ => ?_, fun q => absurd hl q⟩
            refine ⟨Or.inl rfl, ?_⟩
            exact h9
          | succ r =>
            have hl : ¬ 20 < dd (nI (t.length + 1) + (-1)).toNatClampNeg := by rw [q1]; exact nI_nlt (a := 20) (by omega) (by decide)
            have elev : dd (nI (t.length + 1) + (-1)).toNatClampNeg + 1 = nI (21 - r) := by rw [q1, nI_1]; exact congrArg nI (by omega)
            have elam : ll (nI (t.length + 1) + (-1)).toNatClampNeg + 1 = nI (lam + 1) := by rw [q2, nI_1]
            have ih2 := ih2_ (a + 1) ((r, lam + 1) :: t) (upd dd t.length (nI (21 - r))) (upd ll t.length (nI (lam + 1))) (by omega) (by omega) ⟨pk_us, pk_us, by omega, by omega, ps_keep p5 (fun i hi => ⟨pk_un (by omega), pk_un (by omega)⟩)⟩ (pi_one hpi) (fun d' l' => by have h9 := hQ d' l'; rw [fz_one (pz_1 han eb)] at h9; exact h9)
            have eS : jx_su (jx_su (jx_s2 σ dd ll) 61 (nI (t.length + 1) + (-1)).toNatClampNeg (dd (nI (t.length + 1) + (-1)).toNatClampNeg + 1)) 62 (nI (t.length + 1) + (-1)).toNatClampNeg (ll (nI (t.length + 1) + (-1)).toNatClampNeg + 1) = jx_s2 σ (upd dd t.length (nI (21 - r))) (upd ll t.length (nI (lam + 1))) := by rw [jx_s2a, jx_s2b, elev, elam, ei]
            rw [← eS, show nI ((r, lam + 1) :: t).length = nI (t.length + 1) + (-1) + 1 by rw [ew, nI_1]; rfl, ← nI_1 a] at ih2
            refine jx_go jk_91 (fun _ _ _ z => z) 200 [18] ?_
            refine ⟨fun q => absurd q hw, fun _ => ?_⟩
            refine ⟨v0, ?_⟩
            refine ⟨v0, ?_⟩
            refine ⟨fun q => absurd q ha, fun _ => ?_⟩
            refine ⟨va, ?_⟩
            refine ⟨fun q => absurd q k0, fun _ => ?_⟩
            refine ⟨fun q => absurd q k3, fun _ => ?_⟩
            refine ⟨fun _ => ?_, fun q => absurd q k4⟩
            refine ⟨fun q => absurd q h1c, fun _ => ?_⟩
            refine ⟨v1, ?_⟩
            refine ⟨fun q => absurd q k8, fun _ => ?_⟩
            refine ⟨fun q => absurd q hl, fun _ => ?_⟩
            refine ⟨fun _ => ?_, fun q => absurd q (of_decide_eq_true rfl)⟩
            refine ⟨fun _ => ?_, fun q => absurd q k0⟩
            refine ⟨fun _ => ?_, fun q => absurd q k4⟩
            refine ⟨fun _ => ?_, fun q => absurd q (of_decide_eq_true rfl)⟩
            refine ⟨fun _ => ?_, fun q => absurd q k2⟩
            refine ⟨fun _ => ?_, fun q => absurd k1 q⟩
            refine ⟨fun q => absurd q (of_decide_eq_true rfl), fun _ => ?_⟩
            refine ⟨v0, ?_⟩
            refine ⟨fun q => absurd k1 q, fun _ => ?_⟩
            refine ⟨v0, ?_⟩
            refine ⟨fun _ => ?_, fun q => absurd q (of_decide_eq_true rfl)⟩
            refine jx_Jsub3 (i1 := 2) (i2 := 1) (i3 := 0) rfl rfl rfl ?_
            exact ih2
        · skip
          have k0 : ¬ σ 37 (nI a).toNatClampNeg = 0 := by rw [ebx]; decide
          have k1 : ¬ σ 37 (nI a).toNatClampNeg = 1 := by rw [ebx]; decide
          have k2 : σ 37 (nI a).toNatClampNeg = 2 := by rw [ebx]; exact rfl
          have k3 : ¬ σ 37 (nI a).toNatClampNeg = 3 := by rw [ebx]; decide
          have k4 : ¬ σ 37 (nI a).toNatClampNeg = 4 := by rw [ebx]; decide
          have k5 : ¬ σ 37 (nI a).toNatClampNeg = 5 := by rw [ebx]; decide
          have k6 : ¬ σ 37 (nI a).toNatClampNeg = 6 := by rw [ebx]; decide
          have k8 : ¬ 8 < σ 37 (nI a).toNatClampNeg := by rw [ebx]; decide
          cases r with
          | zero =>
            have hl : 20 < dd (nI (t.length + 1) + (-1)).toNatClampNeg := by rw [q1]; decide
            have h9 := hQ dd ll
            rw [fz_no (show pz_t (σ 37) n 0 a lam = none from rfl)] at h9
            refine jx_go jk_91 (fun _ _ _ z => z) 200 [18] ?_
            refine ⟨fun q => absurd q hw, fun _ => ?_⟩
            refine ⟨v0, ?_⟩
            refine ⟨v0, ?_⟩
            refine ⟨fun q => absurd q ha, fun _ => ?_⟩
            refine ⟨va, ?_⟩
            refine ⟨fun q => absurd q k0, fun _ => ?_⟩
            refine ⟨fun q => absurd q k3, fun _ => ?_⟩
            refine ⟨fun _ => ?_, fun q => absurd q k4⟩
            refine ⟨fun q => absurd q h1c, fun _ => ?_⟩
            refine ⟨v1, ?_⟩
            refine ⟨fun q => absurd q k8, fun _ => ?_⟩
            refine ⟨fun _ => ?_, fun q => absurd hl q⟩
            refine ⟨Or.inl rfl, ?_⟩
            exact h9
          | succ r =>
            have hl : ¬ 20 < dd (nI (t.length + 1) + (-1)).toNatClampNeg := by rw [q1]; exact nI_nlt (a := 20) (by omega) (by decide)
            have elev : dd (nI (t.length + 1) + (-1)).toNatClampNeg + 1 = nI (21 - r) := by rw [q1, nI_1]; exact congrArg nI (by omega)
            have ih2 := ih2_ (a + 1) ((r, lam) :: (r, lam) :: t) (upd (upd dd t.length (nI (21 - r))) (t.length + 1) (nI (21 - r))) (upd (upd ll t.length (nI lam)) (t.length + 1) (nI lam)) (by omega) (by omega) ⟨pk_us, pk_us, by omega, by omega, (pk_un (by omega)).trans pk_us, (pk_un (by omega)).trans pk_us, by omega, by omega, ps_keep p5 (fun i hi => ⟨(pk_un (by omega)).trans (pk_un (by omega)), (pk_un (by omega)).trans (pk_un (by omega))⟩)⟩ (pi_two hpi) (fun d' l' => by have h9 := hQ d' l'; rw [fz_two han eb] at h9; exact h9)
            have eS : jx_su (jx_su (jx_su (jx_su (jx_s2 σ dd ll) 61 (nI (t.length + 1) + (-1)).toNatClampNeg (dd (nI (t.length + 1) + (-1)).toNatClampNeg + 1)) 62 (nI (t.length + 1) + (-1)).toNatClampNeg (ll (nI (t.length + 1) + (-1)).toNatClampNeg)) 61 (nI (t.length + 1) + (-1) + 1).toNatClampNeg (dd (nI (t.length + 1) + (-1)).toNatClampNeg + 1)) 62 (nI (t.length + 1) + (-1) + 1).toNatClampNeg (ll (nI (t.length + 1) + (-1)).toNatClampNeg) = jx_s2 σ (upd (upd dd t.length (nI (21 - r))) (t.length + 1) (nI (21 - r))) (upd (upd ll t.length (nI lam)) (t.length + 1) (nI lam)) := by rw [jx_s2a, jx_s2b, jx_s2a, jx_s2b, elev, q2, ei, ei2]
            rw [← eS, show nI ((r, lam) :: (r, lam) :: t).length = nI (t.length + 1) + (-1) + 1 + 1 by rw [ew, nI_1, nI_1]; rfl, ← nI_1 a] at ih2
            refine jx_go jk_91 (fun _ _ _ z => z) 200 [18] ?_
            refine ⟨fun q => absurd q hw, fun _ => ?_⟩
            refine ⟨v0, ?_⟩
            refine ⟨v0, ?_⟩
            refine ⟨fun q => absurd q ha, fun _ => ?_⟩
            refine ⟨va, ?_⟩
            refine ⟨fun q => absurd q k0, fun _ => ?_⟩
            refine ⟨fun q => absurd q k3, fun _ => ?_⟩
            refine ⟨fun _ => ?_, fun q => absurd q k4⟩
            refine ⟨fun q => absurd q h1c, fun _ => ?_⟩
            refine ⟨v1, ?_⟩
            refine ⟨fun q => absurd q k8, fun _ => ?_⟩
            refine ⟨fun q => absurd q hl, fun _ => ?_⟩
            refine ⟨fun _ => ?_, fun q => absurd q (of_decide_eq_true rfl)⟩
            refine ⟨fun _ => ?_, fun q => absurd q k0⟩
            refine ⟨fun _ => ?_, fun q => absurd q k4⟩
            refine ⟨fun _ => ?_, fun q => absurd q (of_decide_eq_true rfl)⟩
            refine ⟨fun q => absurd k2 q, fun _ => ?_⟩
            refine ⟨fun q => absurd q (of_decide_eq_true rfl), fun _ => ?_⟩
            refine ⟨v0, ?_⟩
            refine ⟨fun _ => ?_, fun q => absurd q k1⟩
            refine ⟨v0, ?_⟩
            refine ⟨fun q => absurd q (of_decide_eq_true rfl), fun _ => ?_⟩
            refine ⟨v0b, ?_⟩
            refine ⟨fun _ => ?_, fun q => absurd q k1⟩
            refine ⟨v0b, ?_⟩
            refine ⟨fun _ => ?_, fun q => absurd q (of_decide_eq_true rfl)⟩
            refine jx_Jsub3 (i1 := 2) (i2 := 1) (i3 := 0) rfl rfl rfl ?_
            exact ih2
        · skip
          have k0 : ¬ σ 37 (nI a).toNatClampNeg = 0 := by rw [ebx]; decide
          have k1 : ¬ σ 37 (nI a).toNatClampNeg = 1 := by rw [ebx]; decide
          have k2 : ¬ σ 37 (nI a).toNatClampNeg = 2 := by rw [ebx]; decide
          have k3 : σ 37 (nI a).toNatClampNeg = 3 := by rw [ebx]; exact rfl
          have k4 : ¬ σ 37 (nI a).toNatClampNeg = 4 := by rw [ebx]; decide
          have k5 : ¬ σ 37 (nI a).toNatClampNeg = 5 := by rw [ebx]; decide
          have k6 : ¬ σ 37 (nI a).toNatClampNeg = 6 := by rw [ebx]; decide
          have k8 : ¬ 8 < σ 37 (nI a).toNatClampNeg := by rw [ebx]; decide
          cases r with
          | zero =>
            have hl : 20 < dd (nI (t.length + 1) + (-1)).toNatClampNeg := by rw [q1]; decide
            have h9 := hQ dd ll
            rw [fz_no (show pz_t (σ 37) n 0 a lam = none from rfl)] at h9
            refine jx_go jk_91 (fun _ _ _ z => z) 200 [18] ?_
            refine ⟨fun q => absurd q hw, fun _ => ?_⟩
            refine ⟨v0, ?_⟩
            refine ⟨v0, ?_⟩
            refine ⟨fun q => absurd q ha, fun _ => ?_⟩
            refine ⟨va, ?_⟩
            refine ⟨fun q => absurd q k0, fun _ => ?_⟩
            refine ⟨fun _ => ?_, fun q => absurd k3 q⟩
            refine ⟨fun q => absurd q h1c, fun _ => ?_⟩
            refine ⟨v1, ?_⟩
            refine ⟨fun q => absurd q k8, fun _ => ?_⟩
            refine ⟨fun _ => ?_, fun q => absurd hl q⟩
            refine ⟨Or.inl rfl, ?_⟩
            exact h9
          | succ r =>
            have hl : ¬ 20 < dd (nI (t.length + 1) + (-1)).toNatClampNeg := by rw [q1]; exact nI_nlt (a := 20) (by omega) (by decide)
            have elev : dd (nI (t.length + 1) + (-1)).toNatClampNeg + 1 = nI (21 - r) := by rw [q1, nI_1]; exact congrArg nI (by omega)
            have ih2 := ih2_ (a + 2) t dd ll (by omega) (by omega) p5 (pi_pop hpi) (fun d' l' => by have h9 := hQ d' l'; rw [fz_yes (by rw [pz_3 han eb, if_pos h1])] at h9; exact h9)
            rw [show nI (a + 2) = nI a + 2 from (nI_add a 2).symm, ← ew] at ih2
            refine jx_go jk_91 (fun _ _ _ z => z) 200 [18] ?_
            refine ⟨fun q => absurd q hw, fun _ => ?_⟩
            refine ⟨v0, ?_⟩
            refine ⟨v0, ?_⟩
            refine ⟨fun q => absurd q ha, fun _ => ?_⟩
            refine ⟨va, ?_⟩
            refine ⟨fun q => absurd q k0, fun _ => ?_⟩
            refine ⟨fun _ => ?_, fun q => absurd k3 q⟩
            refine ⟨fun q => absurd q h1c, fun _ => ?_⟩
            refine ⟨v1, ?_⟩
            refine ⟨fun q => absurd q k8, fun _ => ?_⟩
            refine ⟨fun q => absurd q hl, fun _ => ?_⟩
            refine ⟨fun q => absurd q (of_decide_eq_true rfl), fun _ => ?_⟩
            refine ⟨fun q => absurd q n9, fun _ => ?_⟩
            refine ⟨fun _ => ?_, fun q => absurd q k0⟩
            refine ⟨fun _ => ?_, fun q => absurd q k4⟩
            refine ⟨fun q => absurd q (of_decide_eq_true rfl), fun _ => ?_⟩
            refine ⟨fun _ => ?_, fun q => absurd q k2⟩
            refine ⟨fun q => absurd q k1, fun _ => ?_⟩
            refine ⟨fun q => absurd q k5, fun _ => ?_⟩
            refine ⟨fun _ => ?_, fun q => absurd q k6⟩
            refine ⟨fun _ => ?_, fun q => absurd q (of_decide_eq_true rfl)⟩
            refine jx_Jsub3 (i1 := 2) (i2 := 1) (i3 := 0) rfl rfl rfl ?_
            exact ih2
        · skip
          have k0 : ¬ σ 37 (nI a).toNatClampNeg = 0 := by rw [ebx]; decide
          have k1 : ¬ σ 37 (nI a).toNatClampNeg = 1 := by rw [ebx]; decide
          have k2 : ¬ σ 37 (nI a).toNatClampNeg = 2 := by rw [ebx]; decide
          have k3 : ¬ σ 37 (nI a).toNatClampNeg = 3 := by rw [ebx]; decide
          have k4 : σ 37 (nI a).toNatClampNeg = 4 := by rw [ebx]; exact rfl
          have k5 : ¬ σ 37 (nI a).toNatClampNeg = 5 := by rw [ebx]; decide
          have k6 : ¬ σ 37 (nI a).toNatClampNeg = 6 := by rw [ebx]; decide
          have k8 : ¬ 8 < σ 37 (nI a).toNatClampNeg := by rw [ebx]; decide
          cases r with
          | zero =>
            have hl : 20 < dd (nI (t.length + 1) + (-1)).toNatClampNeg := by rw [q1]; decide
            have h9 := hQ dd ll
            rw [fz_no (show pz_t (σ 37) n 0 a lam = none from rfl)] at h9
            refine jx_go jk_91 (fun _ _ _ z => z) 200 [18] ?_
            refine ⟨fun q => absurd q hw, fun _ => ?_⟩
            refine ⟨v0, ?_⟩
            refine ⟨v0, ?_⟩
            refine ⟨fun q => absurd q ha, fun _ => ?_⟩
            refine ⟨va, ?_⟩
            refine ⟨fun q => absurd q k0, fun _ => ?_⟩
            refine ⟨fun q => absurd q k3, fun _ => ?_⟩
            refine ⟨fun q => absurd k4 q, fun _ => ?_⟩
            refine ⟨fun q => absurd q h1c, fun _ => ?_⟩
            refine ⟨v1, ?_⟩
            refine ⟨fun q => absurd q k8, fun _ => ?_⟩
            refine ⟨fun _ => ?_, fun q => absurd hl q⟩
            refine ⟨Or.inl rfl, ?_⟩
            exact h9
          | succ r =>
            have hl : ¬ 20 < dd (nI (t.length + 1) + (-1)).toNatClampNeg := by rw [q1]; exact nI_nlt (a := 20) (by omega) (by decide)
            have elev : dd (nI (t.length + 1) + (-1)).toNatClampNeg + 1 = nI (21 - r) := by rw [q1, nI_1]; exact congrArg nI (by omega)
            by_cases hc : σ 37 (a + 1) ≤ 10
            · have hk : σ 37 (nI a + 1).toNatClampNeg ≤ 10 := by rw [ecl1]; exact hc
              have ih2 := ih2_ (a + 2) t dd ll (by omega) (by omega) p5 (pi_pop hpi) (fun d' l' => by have h9 := hQ d' l'; rw [fz_yes (by rw [pz_4 han eb, if_pos ⟨h1, hc⟩])] at h9; exact h9)
              rw [show nI (a + 2) = nI a + 2 from (nI_add a 2).symm, ← ew] at ih2
              refine jx_go jk_91 (fun _ _ _ z => z) 200 [18] ?_
              refine ⟨fun q => absurd q hw, fun _ => ?_⟩
              refine ⟨v0, ?_⟩
              refine ⟨v0, ?_⟩
              refine ⟨fun q => absurd q ha, fun _ => ?_⟩
              refine ⟨va, ?_⟩
              refine ⟨fun q => absurd q k0, fun _ => ?_⟩
              refine ⟨fun q => absurd q k3, fun _ => ?_⟩
              refine ⟨fun q => absurd k4 q, fun _ => ?_⟩
              refine ⟨fun q => absurd q h1c, fun _ => ?_⟩
              refine ⟨v1, ?_⟩
              refine ⟨fun q => absurd q k8, fun _ => ?_⟩
              refine ⟨fun q => absurd q hl, fun _ => ?_⟩
              refine ⟨fun q => absurd q (of_decide_eq_true rfl), fun _ => ?_⟩
              refine ⟨fun q => absurd q n9, fun _ => ?_⟩
              refine ⟨fun _ => ?_, fun q => absurd q k0⟩
              refine ⟨fun q => absurd k4 q, fun _ => ?_⟩
              refine ⟨fun _ => ?_, fun q => absurd hk q⟩
              refine ⟨fun q => absurd q (of_decide_eq_true rfl), fun _ => ?_⟩
              refine ⟨fun _ => ?_, fun q => absurd q k2⟩
              refine ⟨fun q => absurd q k1, fun _ => ?_⟩
              refine ⟨fun q => absurd q k5, fun _ => ?_⟩
              refine ⟨fun _ => ?_, fun q => absurd q k6⟩
              refine ⟨fun _ => ?_, fun q => absurd q (of_decide_eq_true rfl)⟩
              refine jx_Jsub3 (i1 := 2) (i2 := 1) (i3 := 0) rfl rfl rfl ?_
              exact ih2
            · have hk : ¬ σ 37 (nI a + 1).toNatClampNeg ≤ 10 := by rw [ecl1]; exact hc
              have h9 := hQ dd ll
              rw [fz_no (by rw [pz_4 han eb, if_neg (fun q => hc q.2)])] at h9
              refine jx_go jk_91 (fun _ _ _ z => z) 200 [18] ?_
              refine ⟨fun q => absurd q hw, fun _ => ?_⟩
              refine ⟨v0, ?_⟩
              refine ⟨v0, ?_⟩
              refine ⟨fun q => absurd q ha, fun _ => ?_⟩
              refine ⟨va, ?_⟩
              refine ⟨fun q => absurd q k0, fun _ => ?_⟩
              refine ⟨fun q => absurd q k3, fun _ => ?_⟩
              refine ⟨fun q => absurd k4 q, fun _ => ?_⟩
              refine ⟨fun q => absurd q h1c, fun _ => ?_⟩
              refine ⟨v1, ?_⟩
              refine ⟨fun q => absurd q k8, fun _ => ?_⟩
              refine ⟨fun q => absurd q hl, fun _ => ?_⟩
              refine ⟨fun q => absurd q (of_decide_eq_true rfl), fun _ => ?_⟩
              refine ⟨fun q => absurd q n9, fun _ => ?_⟩
              refine ⟨fun _ => ?_, fun q => absurd q k0⟩
              refine ⟨fun q => absurd k4 q, fun _ => ?_⟩
              refine ⟨fun q => absurd q hk, fun _ => ?_⟩
              refine ⟨Or.inl rfl, ?_⟩
              exact h9
        · skip
          have k0 : ¬ σ 37 (nI a).toNatClampNeg = 0 := by rw [ebx]; decide
          have k1 : ¬ σ 37 (nI a).toNatClampNeg = 1 := by rw [ebx]; decide
          have k2 : ¬ σ 37 (nI a).toNatClampNeg = 2 := by rw [ebx]; decide
          have k3 : ¬ σ 37 (nI a).toNatClampNeg = 3 := by rw [ebx]; decide
          have k4 : ¬ σ 37 (nI a).toNatClampNeg = 4 := by rw [ebx]; decide
          have k5 : σ 37 (nI a).toNatClampNeg = 5 := by rw [ebx]; exact rfl
          have k6 : ¬ σ 37 (nI a).toNatClampNeg = 6 := by rw [ebx]; decide
          have k8 : ¬ 8 < σ 37 (nI a).toNatClampNeg := by rw [ebx]; decide
          cases r with
          | zero =>
            have hl : 20 < dd (nI (t.length + 1) + (-1)).toNatClampNeg := by rw [q1]; decide
            have h9 := hQ dd ll
            rw [fz_no (show pz_t (σ 37) n 0 a lam = none from rfl)] at h9
            refine jx_go jk_91 (fun _ _ _ z => z) 200 [18] ?_
            refine ⟨fun q => absurd q hw, fun _ => ?_⟩
            refine ⟨v0, ?_⟩
            refine ⟨v0, ?_⟩
            refine ⟨fun q => absurd q ha, fun _ => ?_⟩
            refine ⟨va, ?_⟩
            refine ⟨fun q => absurd q k0, fun _ => ?_⟩
            refine ⟨fun q => absurd q k3, fun _ => ?_⟩
            refine ⟨fun _ => ?_, fun q => absurd q k4⟩
            refine ⟨fun q => absurd q h1c, fun _ => ?_⟩
            refine ⟨v1, ?_⟩
            refine ⟨fun q => absurd q k8, fun _ => ?_⟩
            refine ⟨fun _ => ?_, fun q => absurd hl q⟩
            refine ⟨Or.inl rfl, ?_⟩
            exact h9
          | succ r =>
            have hl : ¬ 20 < dd (nI (t.length + 1) + (-1)).toNatClampNeg := by rw [q1]; exact nI_nlt (a := 20) (by omega) (by decide)
            have elev : dd (nI (t.length + 1) + (-1)).toNatClampNeg + 1 = nI (21 - r) := by rw [q1, nI_1]; exact congrArg nI (by omega)
            have elam : ll (nI (t.length + 1) + (-1)).toNatClampNeg = nI (lam) := by rw [q2]
            have ih2 := ih2_ (a + 1) ((r, lam) :: t) (upd dd t.length (nI (21 - r))) (upd ll t.length (nI (lam))) (by omega) (by omega) ⟨pk_us, pk_us, by omega, by omega, ps_keep p5 (fun i hi => ⟨pk_un (by omega), pk_un (by omega)⟩)⟩ (pi_one hpi) (fun d' l' => by have h9 := hQ d' l'; rw [fz_one (pz_56 han (Or.inl eb))] at h9; exact h9)
            have eS : jx_su (jx_su (jx_s2 σ dd ll) 61 (nI (t.length + 1) + (-1)).toNatClampNeg (dd (nI (t.length + 1) + (-1)).toNatClampNeg + 1)) 62 (nI (t.length + 1) + (-1)).toNatClampNeg (ll (nI (t.length + 1) + (-1)).toNatClampNeg) = jx_s2 σ (upd dd t.length (nI (21 - r))) (upd ll t.length (nI (lam))) := by rw [jx_s2a, jx_s2b, elev, elam, ei]
            rw [← eS, show nI ((r, lam) :: t).length = nI (t.length + 1) + (-1) + 1 by rw [ew, nI_1]; rfl, ← nI_1 a] at ih2
            refine jx_go jk_91 (fun _ _ _ z => z) 200 [18] ?_
            refine ⟨fun q => absurd q hw, fun _ => ?_⟩
            refine ⟨v0, ?_⟩
            refine ⟨v0, ?_⟩
            refine ⟨fun q => absurd q ha, fun _ => ?_⟩
            refine ⟨va, ?_⟩
            refine ⟨fun q => absurd q k0, fun _ => ?_⟩
            refine ⟨fun q => absurd q k3, fun _ => ?_⟩
            refine ⟨fun _ => ?_, fun q => absurd q k4⟩
            refine ⟨fun q => absurd q h1c, fun _ => ?_⟩
            refine ⟨v1, ?_⟩
            refine ⟨fun q => absurd q k8, fun _ => ?_⟩
            refine ⟨fun q => absurd q hl, fun _ => ?_⟩
            refine ⟨fun _ => ?_, fun q => absurd q (of_decide_eq_true rfl)⟩
            refine ⟨fun _ => ?_, fun q => absurd q k0⟩
            refine ⟨fun _ => ?_, fun q => absurd q k4⟩
            refine ⟨fun _ => ?_, fun q => absurd q (of_decide_eq_true rfl)⟩
            refine ⟨fun _ => ?_, fun q => absurd q k2⟩
            refine ⟨fun q => absurd q k1, fun _ => ?_⟩
            refine ⟨fun _ => ?_, fun q => absurd k5 q⟩
            refine ⟨fun q => absurd q (of_decide_eq_true rfl), fun _ => ?_⟩
            refine ⟨v0, ?_⟩
            refine ⟨fun _ => ?_, fun q => absurd q k1⟩
            refine ⟨v0, ?_⟩
            refine ⟨fun _ => ?_, fun q => absurd q (of_decide_eq_true rfl)⟩
            refine jx_Jsub3 (i1 := 2) (i2 := 1) (i3 := 0) rfl rfl rfl ?_
            exact ih2
        · skip
          have k0 : ¬ σ 37 (nI a).toNatClampNeg = 0 := by rw [ebx]; decide
          have k1 : ¬ σ 37 (nI a).toNatClampNeg = 1 := by rw [ebx]; decide
          have k2 : ¬ σ 37 (nI a).toNatClampNeg = 2 := by rw [ebx]; decide
          have k3 : ¬ σ 37 (nI a).toNatClampNeg = 3 := by rw [ebx]; decide
          have k4 : ¬ σ 37 (nI a).toNatClampNeg = 4 := by rw [ebx]; decide
          have k5 : ¬ σ 37 (nI a).toNatClampNeg = 5 := by rw [ebx]; decide
          have k6 : σ 37 (nI a).toNatClampNeg = 6 := by rw [ebx]; exact rfl
          have k8 : ¬ 8 < σ 37 (nI a).toNatClampNeg := by rw [ebx]; decide
          cases r with
          | zero =>
            have hl : 20 < dd (nI (t.length + 1) + (-1)).toNatClampNeg := by rw [q1]; decide
            have h9 := hQ dd ll
            rw [fz_no (show pz_t (σ 37) n 0 a lam = none from rfl)] at h9
            refine jx_go jk_91 (fun _ _ _ z => z) 200 [18] ?_
            refine ⟨fun q => absurd q hw, fun _ => ?_⟩
            refine ⟨v0, ?_⟩
            refine ⟨v0, ?_⟩
            refine ⟨fun q => absurd q ha, fun _ => ?_⟩
            refine ⟨va, ?_⟩
            refine ⟨fun q => absurd q k0, fun _ => ?_⟩
            refine ⟨fun q => absurd q k3, fun _ => ?_⟩
            refine ⟨fun _ => ?_, fun q => absurd q k4⟩
            refine ⟨fun q => absurd q h1c, fun _ => ?_⟩
            refine ⟨v1, ?_⟩
            refine ⟨fun q => absurd q k8, fun _ => ?_⟩
            refine ⟨fun _ => ?_, fun q => absurd hl q⟩
            refine ⟨Or.inl rfl, ?_⟩
            exact h9
          | succ r =>
            have hl : ¬ 20 < dd (nI (t.length + 1) + (-1)).toNatClampNeg := by rw [q1]; exact nI_nlt (a := 20) (by omega) (by decide)
            have elev : dd (nI (t.length + 1) + (-1)).toNatClampNeg + 1 = nI (21 - r) := by rw [q1, nI_1]; exact congrArg nI (by omega)
            have elam : ll (nI (t.length + 1) + (-1)).toNatClampNeg = nI (lam) := by rw [q2]
            have ih2 := ih2_ (a + 1) ((r, lam) :: t) (upd dd t.length (nI (21 - r))) (upd ll t.length (nI (lam))) (by omega) (by omega) ⟨pk_us, pk_us, by omega, by omega, ps_keep p5 (fun i hi => ⟨pk_un (by omega), pk_un (by omega)⟩)⟩ (pi_one hpi) (fun d' l' => by have h9 := hQ d' l'; rw [fz_one (pz_56 han (Or.inr eb))] at h9; exact h9)
            have eS : jx_su (jx_su (jx_s2 σ dd ll) 61 (nI (t.length + 1) + (-1)).toNatClampNeg (dd (nI (t.length + 1) + (-1)).toNatClampNeg + 1)) 62 (nI (t.length + 1) + (-1)).toNatClampNeg (ll (nI (t.length + 1) + (-1)).toNatClampNeg) = jx_s2 σ (upd dd t.length (nI (21 - r))) (upd ll t.length (nI (lam))) := by rw [jx_s2a, jx_s2b, elev, elam, ei]
            rw [← eS, show nI ((r, lam) :: t).length = nI (t.length + 1) + (-1) + 1 by rw [ew, nI_1]; rfl, ← nI_1 a] at ih2
            refine jx_go jk_91 (fun _ _ _ z => z) 200 [18] ?_
            refine ⟨fun q => absurd q hw, fun _ => ?_⟩
            refine ⟨v0, ?_⟩
            refine ⟨v0, ?_⟩
            refine ⟨fun q => absurd q ha, fun _ => ?_⟩
            refine ⟨va, ?_⟩
            refine ⟨fun q => absurd q k0, fun _ => ?_⟩
            refine ⟨fun q => absurd q k3, fun _ => ?_⟩
            refine ⟨fun _ => ?_, fun q => absurd q k4⟩
            refine ⟨fun q => absurd q h1c, fun _ => ?_⟩
            refine ⟨v1, ?_⟩
            refine ⟨fun q => absurd q k8, fun _ => ?_⟩
            refine ⟨fun q => absurd q hl, fun _ => ?_⟩
            refine ⟨fun _ => ?_, fun q => absurd q (of_decide_eq_true rfl)⟩
            refine ⟨fun _ => ?_, fun q => absurd q k0⟩
            refine ⟨fun _ => ?_, fun q => absurd q k4⟩
            refine ⟨fun _ => ?_, fun q => absurd q (of_decide_eq_true rfl)⟩
            refine ⟨fun _ => ?_, fun q => absurd q k2⟩
            refine ⟨fun q => absurd q k1, fun _ => ?_⟩
            refine ⟨fun q => absurd q k5, fun _ => ?_⟩
            refine ⟨fun q => absurd k6 q, fun _ => ?_⟩
            refine ⟨fun q => absurd q (of_decide_eq_true rfl), fun _ => ?_⟩
            refine ⟨v0, ?_⟩
            refine ⟨fun _ => ?_, fun q => absurd q k1⟩
            refine ⟨v0, ?_⟩
            refine ⟨fun _ => ?_, fun q => absurd q (of_decide_eq_true rfl)⟩
            refine jx_Jsub3 (i1 := 2) (i2 := 1) (i3 := 0) rfl rfl rfl ?_
            exact ih2
        · skip
          have k0 : ¬ σ 37 (nI a).toNatClampNeg = 0 := by rw [ebx]; decide
          have k1 : ¬ σ 37 (nI a).toNatClampNeg = 1 := by rw [ebx]; decide
          have k2 : ¬ σ 37 (nI a).toNatClampNeg = 2 := by rw [ebx]; decide
          have k3 : ¬ σ 37 (nI a).toNatClampNeg = 3 := by rw [ebx]; decide
          have k4 : ¬ σ 37 (nI a).toNatClampNeg = 4 := by rw [ebx]; decide
          have k5 : ¬ σ 37 (nI a).toNatClampNeg = 5 := by rw [ebx]; decide
          have k6 : ¬ σ 37 (nI a).toNatClampNeg = 6 := by rw [ebx]; decide
          have k8 : ¬ 8 < σ 37 (nI a).toNatClampNeg := by rw [ebx]; decide
          cases r with
          | zero =>
            have hl : 20 < dd (nI (t.length + 1) + (-1)).toNatClampNeg := by rw [q1]; decide
            have h9 := hQ dd ll
            rw [fz_no (show pz_t (σ 37) n 0 a lam = none from rfl)] at h9
            refine jx_go jk_91 (fun _ _ _ z => z) 200 [18] ?_
            refine ⟨fun q => absurd q hw, fun _ => ?_⟩
            refine ⟨v0, ?_⟩
            refine ⟨v0, ?_⟩
            refine ⟨fun q => absurd q ha, fun _ => ?_⟩
            refine ⟨va, ?_⟩
            refine ⟨fun q => absurd q k0, fun _ => ?_⟩
            refine ⟨fun q => absurd q k3, fun _ => ?_⟩
            refine ⟨fun _ => ?_, fun q => absurd q k4⟩
            refine ⟨fun q => absurd q h1c, fun _ => ?_⟩
            refine ⟨v1, ?_⟩
            refine ⟨fun q => absurd q k8, fun _ => ?_⟩
            refine ⟨fun _ => ?_, fun q => absurd hl q⟩
            refine ⟨Or.inl rfl, ?_⟩
            exact h9
          | succ r =>
            have hl : ¬ 20 < dd (nI (t.length + 1) + (-1)).toNatClampNeg := by rw [q1]; exact nI_nlt (a := 20) (by omega) (by decide)
            have elev : dd (nI (t.length + 1) + (-1)).toNatClampNeg + 1 = nI (21 - r) := by rw [q1, nI_1]; exact congrArg nI (by omega)
            have ih2 := ih2_ (a + 1) t dd ll (by omega) (by omega) p5 (pi_pop hpi) (fun d' l' => by have h9 := hQ d' l'; rw [fz_yes (pz_78 han (Or.inl eb))] at h9; exact h9)
            rw [← nI_1 a, ← ew] at ih2
            refine jx_go jk_91 (fun _ _ _ z => z) 200 [18] ?_
            refine ⟨fun q => absurd q hw, fun _ => ?_⟩
            refine ⟨v0, ?_⟩
            refine ⟨v0, ?_⟩
            refine ⟨fun q => absurd q ha, fun _ => ?_⟩
            refine ⟨va, ?_⟩
            refine ⟨fun q => absurd q k0, fun _ => ?_⟩
            refine ⟨fun q => absurd q k3, fun _ => ?_⟩
            refine ⟨fun _ => ?_, fun q => absurd q k4⟩
            refine ⟨fun q => absurd q h1c, fun _ => ?_⟩
            refine ⟨v1, ?_⟩
            refine ⟨fun q => absurd q k8, fun _ => ?_⟩
            refine ⟨fun q => absurd q hl, fun _ => ?_⟩
            refine ⟨fun _ => ?_, fun q => absurd q (of_decide_eq_true rfl)⟩
            refine ⟨fun _ => ?_, fun q => absurd q k0⟩
            refine ⟨fun _ => ?_, fun q => absurd q k4⟩
            refine ⟨fun _ => ?_, fun q => absurd q (of_decide_eq_true rfl)⟩
            refine ⟨fun _ => ?_, fun q => absurd q k2⟩
            refine ⟨fun q => absurd q k1, fun _ => ?_⟩
            refine ⟨fun q => absurd q k5, fun _ => ?_⟩
            refine ⟨fun _ => ?_, fun q => absurd q k6⟩
            refine ⟨fun _ => ?_, fun q => absurd q (of_decide_eq_true rfl)⟩
            refine jx_Jsub3 (i1 := 2) (i2 := 1) (i3 := 0) rfl rfl rfl ?_
            exact ih2
        · skip
          have k0 : ¬ σ 37 (nI a).toNatClampNeg = 0 := by rw [ebx]; decide
          have k1 : ¬ σ 37 (nI a).toNatClampNeg = 1 := by rw [ebx]; decide
          have k2 : ¬ σ 37 (nI a).toNatClampNeg = 2 := by rw [ebx]; decide
          have k3 : ¬ σ 37 (nI a).toNatClampNeg = 3 := by rw [ebx]; decide
          have k4 : ¬ σ 37 (nI a).toNatClampNeg = 4 := by rw [ebx]; decide
          have k5 : ¬ σ 37 (nI a).toNatClampNeg = 5 := by rw [ebx]; decide
          have k6 : ¬ σ 37 (nI a).toNatClampNeg = 6 := by rw [ebx]; decide
          have k8 : ¬ 8 < σ 37 (nI a).toNatClampNeg := by rw [ebx]; decide
          cases r with
          | zero =>
            have hl : 20 < dd (nI (t.length + 1) + (-1)).toNatClampNeg := by rw [q1]; decide
            have h9 := hQ dd ll
            rw [fz_no (show pz_t (σ 37) n 0 a lam = none from rfl)] at h9
            refine jx_go jk_91 (fun _ _ _ z => z) 200 [18] ?_
            refine ⟨fun q => absurd q hw, fun _ => ?_⟩
            refine ⟨v0, ?_⟩
            refine ⟨v0, ?_⟩
            refine ⟨fun q => absurd q ha, fun _ => ?_⟩
            refine ⟨va, ?_⟩
            refine ⟨fun q => absurd q k0, fun _ => ?_⟩
            refine ⟨fun q => absurd q k3, fun _ => ?_⟩
            refine ⟨fun _ => ?_, fun q => absurd q k4⟩
            refine ⟨fun q => absurd q h1c, fun _ => ?_⟩
            refine ⟨v1, ?_⟩
            refine ⟨fun q => absurd q k8, fun _ => ?_⟩
            refine ⟨fun _ => ?_, fun q => absurd hl q⟩
            refine ⟨Or.inl rfl, ?_⟩
            exact h9
          | succ r =>
            have hl : ¬ 20 < dd (nI (t.length + 1) + (-1)).toNatClampNeg := by rw [q1]; exact nI_nlt (a := 20) (by omega) (by decide)
            have elev : dd (nI (t.length + 1) + (-1)).toNatClampNeg + 1 = nI (21 - r) := by rw [q1, nI_1]; exact congrArg nI (by omega)
            have ih2 := ih2_ (a + 1) t dd ll (by omega) (by omega) p5 (pi_pop hpi) (fun d' l' => by have h9 := hQ d' l'; rw [fz_yes (pz_78 han (Or.inr eb))] at h9; exact h9)
            rw [← nI_1 a, ← ew] at ih2
            refine jx_go jk_91 (fun _ _ _ z => z) 200 [18] ?_
            refine ⟨fun q => absurd q hw, fun _ => ?_⟩
            refine ⟨v0, ?_⟩
            refine ⟨v0, ?_⟩
            refine ⟨fun q => absurd q ha, fun _ => ?_⟩
            refine ⟨va, ?_⟩
            refine ⟨fun q => absurd q k0, fun _ => ?_⟩
            refine ⟨fun q => absurd q k3, fun _ => ?_⟩
            refine ⟨fun _ => ?_, fun q => absurd q k4⟩
            refine ⟨fun q => absurd q h1c, fun _ => ?_⟩
            refine ⟨v1, ?_⟩
            refine ⟨fun q => absurd q k8, fun _ => ?_⟩
            refine ⟨fun q => absurd q hl, fun _ => ?_⟩
            refine ⟨fun _ => ?_, fun q => absurd q (of_decide_eq_true rfl)⟩
            refine ⟨fun _ => ?_, fun q => absurd q k0⟩
            refine ⟨fun _ => ?_, fun q => absurd q k4⟩
            refine ⟨fun _ => ?_, fun q => absurd q (of_decide_eq_true rfl)⟩
            refine ⟨fun _ => ?_, fun q => absurd q k2⟩
            refine ⟨fun q => absurd q k1, fun _ => ?_⟩
            refine ⟨fun q => absurd q k5, fun _ => ?_⟩
            refine ⟨fun _ => ?_, fun q => absurd q k6⟩
            refine ⟨fun _ => ?_, fun q => absurd q (of_decide_eq_true rfl)⟩
            refine jx_Jsub3 (i1 := 2) (i2 := 1) (i3 := 0) rfl rfl rfl ?_
            exact ih2
        · skip
          have k0 : ¬ σ 37 (nI a).toNatClampNeg = 0 := by rw [ebx]; exact fun q => absurd ((nI_eq (b := 0) (by omega) (by decide)).mp q) (by omega)
          have k1 : ¬ σ 37 (nI a).toNatClampNeg = 1 := by rw [ebx]; exact fun q => absurd ((nI_eq (b := 1) (by omega) (by decide)).mp q) (by omega)
          have k2 : ¬ σ 37 (nI a).toNatClampNeg = 2 := by rw [ebx]; exact fun q => absurd ((nI_eq (b := 2) (by omega) (by decide)).mp q) (by omega)
          have k3 : ¬ σ 37 (nI a).toNatClampNeg = 3 := by rw [ebx]; exact fun q => absurd ((nI_eq (b := 3) (by omega) (by decide)).mp q) (by omega)
          have k4 : ¬ σ 37 (nI a).toNatClampNeg = 4 := by rw [ebx]; exact fun q => absurd ((nI_eq (b := 4) (by omega) (by decide)).mp q) (by omega)
          have k5 : ¬ σ 37 (nI a).toNatClampNeg = 5 := by rw [ebx]; exact fun q => absurd ((nI_eq (b := 5) (by omega) (by decide)).mp q) (by omega)
          have k6 : ¬ σ 37 (nI a).toNatClampNeg = 6 := by rw [ebx]; exact fun q => absurd ((nI_eq (b := 6) (by omega) (by decide)).mp q) (by omega)
          have k8 : 8 < σ 37 (nI a).toNatClampNeg := by rw [ebx]; exact nI_lt (a := 8) (by omega) (by omega)
          have h9 := hQ dd ll
          rw [fz_no (show pz_t (σ 37) n r a lam = none by cases r with | zero => rfl | succ r => exact pz_o han hb256 hb9 eb)] at h9
          refine jx_go jk_91 (fun _ _ _ z => z) 200 [18] ?_
          refine ⟨fun q => absurd q hw, fun _ => ?_⟩
          refine ⟨v0, ?_⟩
          refine ⟨v0, ?_⟩
          refine ⟨fun q => absurd q ha, fun _ => ?_⟩
          refine ⟨va, ?_⟩
          refine ⟨fun q => absurd q k0, fun _ => ?_⟩
          refine ⟨fun q => absurd q k3, fun _ => ?_⟩
          refine ⟨fun _ => ?_, fun q => absurd q k4⟩
          refine ⟨fun q => absurd q h1c, fun _ => ?_⟩
          refine ⟨v1, ?_⟩
          refine ⟨fun _ => ?_, fun q => absurd k8 q⟩
          refine ⟨Or.inl rfl, ?_⟩
          exact h9
      · skip
        have h1c : σ 34 3 ≤ nI a + 1 := by rw [en, nI_1]; exact nI_le (by omega) (by omega)
        rcases (by omega : b = 0 ∨ b = 1 ∨ b = 2 ∨ b = 3 ∨ b = 4 ∨ b = 5 ∨ b = 6 ∨ b = 7 ∨ b = 8 ∨ 9 ≤ b) with rfl | rfl | rfl | rfl | rfl | rfl | rfl | rfl | rfl | hb9
        · skip
          have k0 : σ 37 (nI a).toNatClampNeg = 0 := by rw [ebx]; exact rfl
          have k1 : ¬ σ 37 (nI a).toNatClampNeg = 1 := by rw [ebx]; decide
          have k2 : ¬ σ 37 (nI a).toNatClampNeg = 2 := by rw [ebx]; decide
          have k3 : ¬ σ 37 (nI a).toNatClampNeg = 3 := by rw [ebx]; decide
          have k4 : ¬ σ 37 (nI a).toNatClampNeg = 4 := by rw [ebx]; decide
          have k5 : ¬ σ 37 (nI a).toNatClampNeg = 5 := by rw [ebx]; decide
          have k6 : ¬ σ 37 (nI a).toNatClampNeg = 6 := by rw [ebx]; decide
          have k8 : ¬ 8 < σ 37 (nI a).toNatClampNeg := by rw [ebx]; decide
          cases r with
          | zero =>
            have hl : 20 < dd (nI (t.length + 1) + (-1)).toNatClampNeg := by rw [q1]; decide
            have h9 := hQ dd ll
            rw [fz_no (show pz_t (σ 37) n 0 a lam = none from rfl)] at h9
            refine jx_go jk_91 (fun _ _ _ z => z) 200 [18] ?_
            refine ⟨fun q => absurd q hw, fun _ => ?_⟩
            refine ⟨v0, ?_⟩
            refine ⟨v0, ?_⟩
            refine ⟨fun q => absurd q ha, fun _ => ?_⟩
            refine ⟨va, ?_⟩
            refine ⟨fun _ => ?_, fun q => absurd k0 q⟩
            refine ⟨fun _ => ?_, fun q => absurd h1c q⟩
            refine ⟨fun q => absurd q k8, fun _ => ?_⟩
            refine ⟨fun _ => ?_, fun q => absurd hl q⟩
            refine ⟨Or.inl rfl, ?_⟩
            exact h9
          | succ r =>
            have hl : ¬ 20 < dd (nI (t.length + 1) + (-1)).toNatClampNeg := by rw [q1]; exact nI_nlt (a := 20) (by omega) (by decide)
            have elev : dd (nI (t.length + 1) + (-1)).toNatClampNeg + 1 = nI (21 - r) := by rw [q1, nI_1]; exact congrArg nI (by omega)
            have h9 := hQ dd ll
            rw [fz_no (by rw [pz_0 han eb, if_neg (fun q => h1 q.1)])] at h9
            refine jx_go jk_91 (fun _ _ _ z => z) 200 [18] ?_
            refine ⟨fun q => absurd q hw, fun _ => ?_⟩
            refine ⟨v0, ?_⟩
            refine ⟨v0, ?_⟩
            refine ⟨fun q => absurd q ha, fun _ => ?_⟩
            refine ⟨va, ?_⟩
            refine ⟨fun _ => ?_, fun q => absurd k0 q⟩
            refine ⟨fun _ => ?_, fun q => absurd h1c q⟩
            refine ⟨fun q => absurd q k8, fun _ => ?_⟩
            refine ⟨fun q => absurd q hl, fun _ => ?_⟩
            refine ⟨fun q => absurd q (of_decide_eq_true rfl), fun _ => ?_⟩
            refine ⟨fun _ => ?_, fun q => absurd q (of_decide_eq_true rfl)⟩
            refine ⟨Or.inl rfl, ?_⟩
            exact h9
        · skip
          have k0 : ¬ σ 37 (nI a).toNatClampNeg = 0 := by rw [ebx]; decide
          have k1 : σ 37 (nI a).toNatClampNeg = 1 := by rw [ebx]; exact rfl
          have k2 : ¬ σ 37 (nI a).toNatClampNeg = 2 := by rw [ebx]; decide
          have k3 : ¬ σ 37 (nI a).toNatClampNeg = 3 := by rw [ebx]; decide
          have k4 : ¬ σ 37 (nI a).toNatClampNeg = 4 := by rw [ebx]; decide
          have k5 : ¬ σ 37 (nI a).toNatClampNeg = 5 := by rw [ebx]; decide
          have k6 : ¬ σ 37 (nI a).toNatClampNeg = 6 := by rw [ebx]; decide
          have k8 : ¬ 8 < σ 37 (nI a).toNatClampNeg := by rw [ebx]; decide
          cases r with
          | zero =>
            have hl : 20 < dd (nI (t.length + 1) + (-1)).toNatClampNeg := by rw [q1]; decide
            have h9 := hQ dd ll
            rw [fz_no (show pz_t (σ 37) n 0 a lam = none from rfl)] at h9
            refine jx_go jk_91 (fun _ _ _ z => z) 200 [18] ?_
            refine ⟨fun q => absurd q hw, fun _ => ?_⟩
            refine ⟨v0, ?_⟩
            refine ⟨v0, ?_⟩
            refine ⟨fun q => absurd q ha, fun _ => ?_⟩
            refine ⟨va, ?_⟩
            refine ⟨fun q => absurd q k0, fun _ => ?_⟩
            refine ⟨fun q => absurd q k3, fun _ => ?_⟩
            refine ⟨fun _ => ?_, fun q => absurd q k4⟩
            refine ⟨fun _ => ?_, fun q => absurd h1c q⟩
            refine ⟨fun q => absurd q k8, fun _ => ?_⟩
            refine ⟨fun _ => ?_, fun q => absurd hl q⟩
            refine ⟨Or.inl rfl, ?_⟩
            exact h9
          | succ r =>
            have hl : ¬ 20 < dd (nI (t.length + 1) + (-1)).toNatClampNeg := by rw [q1]; exact nI_nlt (a := 20) (by omega) (by decide)
            have elev : dd (nI (t.length + 1) + (-1)).toNatClampNeg + 1 = nI (21 - r) := by rw [q1, nI_1]; exact congrArg nI (by omega)
            have elam : ll (nI (t.length + 1) + (-1)).toNatClampNeg + 1 = nI (lam + 1) := by rw [q2, nI_1]
            have ih2 := ih2_ (a + 1) ((r, lam + 1) :: t) (upd dd t.length (nI (21 - r))) (upd ll t.length (nI (lam + 1))) (by omega) (by omega) ⟨pk_us, pk_us, by omega, by omega, ps_keep p5 (fun i hi => ⟨pk_un (by omega), pk_un (by omega)⟩)⟩ (pi_one hpi) (fun d' l' => by have h9 := hQ d' l'; rw [fz_one (pz_1 han eb)] at h9; exact h9)
            have eS : jx_su (jx_su (jx_s2 σ dd ll) 61 (nI (t.length + 1) + (-1)).toNatClampNeg (dd (nI (t.length + 1) + (-1)).toNatClampNeg + 1)) 62 (nI (t.length + 1) + (-1)).toNatClampNeg (ll (nI (t.length + 1) + (-1)).toNatClampNeg + 1) = jx_s2 σ (upd dd t.length (nI (21 - r))) (upd ll t.length (nI (lam + 1))) := by rw [jx_s2a, jx_s2b, elev, elam, ei]
            rw [← eS, show nI ((r, lam + 1) :: t).length = nI (t.length + 1) + (-1) + 1 by rw [ew, nI_1]; rfl, ← nI_1 a] at ih2
            refine jx_go jk_91 (fun _ _ _ z => z) 200 [18] ?_
            refine ⟨fun q => absurd q hw, fun _ => ?_⟩
            refine ⟨v0, ?_⟩
            refine ⟨v0, ?_⟩
            refine ⟨fun q => absurd q ha, fun _ => ?_⟩
            refine ⟨va, ?_⟩
            refine ⟨fun q => absurd q k0, fun _ => ?_⟩
            refine ⟨fun q => absurd q k3, fun _ => ?_⟩
            refine ⟨fun _ => ?_, fun q => absurd q k4⟩
            refine ⟨fun _ => ?_, fun q => absurd h1c q⟩
            refine ⟨fun q => absurd q k8, fun _ => ?_⟩
            refine ⟨fun q => absurd q hl, fun _ => ?_⟩
            refine ⟨fun _ => ?_, fun q => absurd q (of_decide_eq_true rfl)⟩
            refine ⟨fun _ => ?_, fun q => absurd q k0⟩
            refine ⟨fun _ => ?_, fun q => absurd q k4⟩
            refine ⟨fun _ => ?_, fun q => absurd q (of_decide_eq_true rfl)⟩
            refine ⟨fun _ => ?_, fun q => absurd q k2⟩
            refine ⟨fun _ => ?_, fun q => absurd k1 q⟩
            refine ⟨fun q => absurd q (of_decide_eq_true rfl), fun _ => ?_⟩
            refine ⟨v0, ?_⟩
            refine ⟨fun q => absurd k1 q, fun _ => ?_⟩
            refine ⟨v0, ?_⟩
            refine ⟨fun _ => ?_, fun q => absurd q (of_decide_eq_true rfl)⟩
            refine jx_Jsub3 (i1 := 2) (i2 := 1) (i3 := 0) rfl rfl rfl ?_
            exact ih2
        · skip
          have k0 : ¬ σ 37 (nI a).toNatClampNeg = 0 := by rw [ebx]; decide
          have k1 : ¬ σ 37 (nI a).toNatClampNeg = 1 := by rw [ebx]; decide
          have k2 : σ 37 (nI a).toNatClampNeg = 2 := by rw [ebx]; exact rfl
          have k3 : ¬ σ 37 (nI a).toNatClampNeg = 3 := by rw [ebx]; decide
          have k4 : ¬ σ 37 (nI a).toNatClampNeg = 4 := by rw [ebx]; decide
          have k5 : ¬ σ 37 (nI a).toNatClampNeg = 5 := by rw [ebx]; decide
          have k6 : ¬ σ 37 (nI a).toNatClampNeg = 6 := by rw [ebx]; decide
          have k8 : ¬ 8 < σ 37 (nI a).toNatClampNeg := by rw [ebx]; decide
          cases r with
          | zero =>
            have hl : 20 < dd (nI (t.length + 1) + (-1)).toNatClampNeg := by rw [q1]; decide
            have h9 := hQ dd ll
            rw [fz_no (show pz_t (σ 37) n 0 a lam = none from rfl)] at h9
            refine jx_go jk_91 (fun _ _ _ z => z) 200 [18] ?_
            refine ⟨fun q => absurd q hw, fun _ => ?_⟩
            refine ⟨v0, ?_⟩
            refine ⟨v0, ?_⟩
            refine ⟨fun q => absurd q ha, fun _ => ?_⟩
            refine ⟨va, ?_⟩
            refine ⟨fun q => absurd q k0, fun _ => ?_⟩
            refine ⟨fun q => absurd q k3, fun _ => ?_⟩
            refine ⟨fun _ => ?_, fun q => absurd q k4⟩
            refine ⟨fun _ => ?_, fun q => absurd h1c q⟩
            refine ⟨fun q => absurd q k8, fun _ => ?_⟩
            refine ⟨fun _ => ?_, fun q => absurd hl q⟩
            refine ⟨Or.inl rfl, ?_⟩
            exact h9
          | succ r =>
            have hl : ¬ 20 < dd (nI (t.length + 1) + (-1)).toNatClampNeg := by rw [q1]; exact nI_nlt (a := 20) (by omega) (by decide)
            have elev : dd (nI (t.length + 1) + (-1)).toNatClampNeg + 1 = nI (21 - r) := by rw [q1, nI_1]; exact congrArg nI (by omega)
            have ih2 := ih2_ (a + 1) ((r, lam) :: (r, lam) :: t) (upd (upd dd t.length (nI (21 - r))) (t.length + 1) (nI (21 - r))) (upd (upd ll t.length (nI lam)) (t.length + 1) (nI lam)) (by omega) (by omega) ⟨pk_us, pk_us, by omega, by omega, (pk_un (by omega)).trans pk_us, (pk_un (by omega)).trans pk_us, by omega, by omega, ps_keep p5 (fun i hi => ⟨(pk_un (by omega)).trans (pk_un (by omega)), (pk_un (by omega)).trans (pk_un (by omega))⟩)⟩ (pi_two hpi) (fun d' l' => by have h9 := hQ d' l'; rw [fz_two han eb] at h9; exact h9)
            have eS : jx_su (jx_su (jx_su (jx_su (jx_s2 σ dd ll) 61 (nI (t.length + 1) + (-1)).toNatClampNeg (dd (nI (t.length + 1) + (-1)).toNatClampNeg + 1)) 62 (nI (t.length + 1) + (-1)).toNatClampNeg (ll (nI (t.length + 1) + (-1)).toNatClampNeg)) 61 (nI (t.length + 1) + (-1) + 1).toNatClampNeg (dd (nI (t.length + 1) + (-1)).toNatClampNeg + 1)) 62 (nI (t.length + 1) + (-1) + 1).toNatClampNeg (ll (nI (t.length + 1) + (-1)).toNatClampNeg) = jx_s2 σ (upd (upd dd t.length (nI (21 - r))) (t.length + 1) (nI (21 - r))) (upd (upd ll t.length (nI lam)) (t.length + 1) (nI lam)) := by rw [jx_s2a, jx_s2b, jx_s2a, jx_s2b, elev, q2, ei, ei2]
            rw [← eS, show nI ((r, lam) :: (r, lam) :: t).length = nI (t.length + 1) + (-1) + 1 + 1 by rw [ew, nI_1, nI_1]; rfl, ← nI_1 a] at ih2
            refine jx_go jk_91 (fun _ _ _ z => z) 200 [18] ?_
            refine ⟨fun q => absurd q hw, fun _ => ?_⟩
            refine ⟨v0, ?_⟩
            refine ⟨v0, ?_⟩
            refine ⟨fun q => absurd q ha, fun _ => ?_⟩
            refine ⟨va, ?_⟩
            refine ⟨fun q => absurd q k0, fun _ => ?_⟩
            refine ⟨fun q => absurd q k3, fun _ => ?_⟩
            refine ⟨fun _ => ?_, fun q => absurd q k4⟩
            refine ⟨fun _ => ?_, fun q => absurd h1c q⟩
            refine ⟨fun q => absurd q k8, fun _ => ?_⟩
            refine ⟨fun q => absurd q hl, fun _ => ?_⟩
            refine ⟨fun _ => ?_, fun q => absurd q (of_decide_eq_true rfl)⟩
            refine ⟨fun _ => ?_, fun q => absurd q k0⟩
            refine ⟨fun _ => ?_, fun q => absurd q k4⟩
            refine ⟨fun _ => ?_, fun q => absurd q (of_decide_eq_true rfl)⟩
            refine ⟨fun q => absurd k2 q, fun _ => ?_⟩
            refine ⟨fun q => absurd q (of_decide_eq_true rfl), fun _ => ?_⟩
            refine ⟨v0, ?_⟩
            refine ⟨fun _ => ?_, fun q => absurd q k1⟩
            refine ⟨v0, ?_⟩
            refine ⟨fun q => absurd q (of_decide_eq_true rfl), fun _ => ?_⟩
            refine ⟨v0b, ?_⟩
            refine ⟨fun _ => ?_, fun q => absurd q k1⟩
            refine ⟨v0b, ?_⟩
            refine ⟨fun _ => ?_, fun q => absurd q (of_decide_eq_true rfl)⟩
            refine jx_Jsub3 (i1 := 2) (i2 := 1) (i3 := 0) rfl rfl rfl ?_
            exact ih2
        · skip
          have k0 : ¬ σ 37 (nI a).toNatClampNeg = 0 := by rw [ebx]; decide
          have k1 : ¬ σ 37 (nI a).toNatClampNeg = 1 := by rw [ebx]; decide
          have k2 : ¬ σ 37 (nI a).toNatClampNeg = 2 := by rw [ebx]; decide
          have k3 : σ 37 (nI a).toNatClampNeg = 3 := by rw [ebx]; exact rfl
          have k4 : ¬ σ 37 (nI a).toNatClampNeg = 4 := by rw [ebx]; decide
          have k5 : ¬ σ 37 (nI a).toNatClampNeg = 5 := by rw [ebx]; decide
          have k6 : ¬ σ 37 (nI a).toNatClampNeg = 6 := by rw [ebx]; decide
          have k8 : ¬ 8 < σ 37 (nI a).toNatClampNeg := by rw [ebx]; decide
          cases r with
          | zero =>
            have hl : 20 < dd (nI (t.length + 1) + (-1)).toNatClampNeg := by rw [q1]; decide
            have h9 := hQ dd ll
            rw [fz_no (show pz_t (σ 37) n 0 a lam = none from rfl)] at h9
            refine jx_go jk_91 (fun _ _ _ z => z) 200 [18] ?_
            refine ⟨fun q => absurd q hw, fun _ => ?_⟩
            refine ⟨v0, ?_⟩
            refine ⟨v0, ?_⟩
            refine ⟨fun q => absurd q ha, fun _ => ?_⟩
            refine ⟨va, ?_⟩
            refine ⟨fun q => absurd q k0, fun _ => ?_⟩
            refine ⟨fun _ => ?_, fun q => absurd k3 q⟩
            refine ⟨fun _ => ?_, fun q => absurd h1c q⟩
            refine ⟨fun q => absurd q k8, fun _ => ?_⟩
            refine ⟨fun _ => ?_, fun q => absurd hl q⟩
            refine ⟨Or.inl rfl, ?_⟩
            exact h9
          | succ r =>
            have hl : ¬ 20 < dd (nI (t.length + 1) + (-1)).toNatClampNeg := by rw [q1]; exact nI_nlt (a := 20) (by omega) (by decide)
            have elev : dd (nI (t.length + 1) + (-1)).toNatClampNeg + 1 = nI (21 - r) := by rw [q1, nI_1]; exact congrArg nI (by omega)
            have h9 := hQ dd ll
            rw [fz_no (by rw [pz_3 han eb, if_neg h1])] at h9
            refine jx_go jk_91 (fun _ _ _ z => z) 200 [18] ?_
            refine ⟨fun q => absurd q hw, fun _ => ?_⟩
            refine ⟨v0, ?_⟩
            refine ⟨v0, ?_⟩
            refine ⟨fun q => absurd q ha, fun _ => ?_⟩
            refine ⟨va, ?_⟩
            refine ⟨fun q => absurd q k0, fun _ => ?_⟩
            refine ⟨fun _ => ?_, fun q => absurd k3 q⟩
            refine ⟨fun _ => ?_, fun q => absurd h1c q⟩
            refine ⟨fun q => absurd q k8, fun _ => ?_⟩
            refine ⟨fun q => absurd q hl, fun _ => ?_⟩
            refine ⟨fun q => absurd q (of_decide_eq_true rfl), fun _ => ?_⟩
            refine ⟨fun _ => ?_, fun q => absurd q (of_decide_eq_true rfl)⟩
            refine ⟨Or.inl rfl, ?_⟩
            exact h9
        · skip
          have k0 : ¬ σ 37 (nI a).toNatClampNeg = 0 := by rw [ebx]; decide
          have k1 : ¬ σ 37 (nI a).toNatClampNeg = 1 := by rw [ebx]; decide
          have k2 : ¬ σ 37 (nI a).toNatClampNeg = 2 := by rw [ebx]; decide
          have k3 : ¬ σ 37 (nI a).toNatClampNeg = 3 := by rw [ebx]; decide
          have k4 : σ 37 (nI a).toNatClampNeg = 4 := by rw [ebx]; exact rfl
          have k5 : ¬ σ 37 (nI a).toNatClampNeg = 5 := by rw [ebx]; decide
          have k6 : ¬ σ 37 (nI a).toNatClampNeg = 6 := by rw [ebx]; decide
          have k8 : ¬ 8 < σ 37 (nI a).toNatClampNeg := by rw [ebx]; decide
          cases r with
          | zero =>
            have hl : 20 < dd (nI (t.length + 1) + (-1)).toNatClampNeg := by rw [q1]; decide
            have h9 := hQ dd ll
            rw [fz_no (show pz_t (σ 37) n 0 a lam = none from rfl)] at h9
            refine jx_go jk_91 (fun _ _ _ z => z) 200 [18] ?_
            refine ⟨fun q => absurd q hw, fun _ => ?_⟩
            refine ⟨v0, ?_⟩
            refine ⟨v0, ?_⟩
            refine ⟨fun q => absurd q ha, fun _ => ?_⟩
            refine ⟨va, ?_⟩
            refine ⟨fun q => absurd q k0, fun _ => ?_⟩
            refine ⟨fun q => absurd q k3, fun _ => ?_⟩
            refine ⟨fun q => absurd k4 q, fun _ => ?_⟩
            refine ⟨fun _ => ?_, fun q => absurd h1c q⟩
            refine ⟨fun q => absurd q k8, fun _ => ?_⟩
            refine ⟨fun _ => ?_, fun q => absurd hl q⟩
            refine ⟨Or.inl rfl, ?_⟩
            exact h9
          | succ r =>
            have hl : ¬ 20 < dd (nI (t.length + 1) + (-1)).toNatClampNeg := by rw [q1]; exact nI_nlt (a := 20) (by omega) (by decide)
            have elev : dd (nI (t.length + 1) + (-1)).toNatClampNeg + 1 = nI (21 - r) := by rw [q1, nI_1]; exact congrArg nI (by omega)
            have h9 := hQ dd ll
            rw [fz_no (by rw [pz_4 han eb, if_neg (fun q => h1 q.1)])] at h9
            refine jx_go jk_91 (fun _ _ _ z => z) 200 [18] ?_
            refine ⟨fun q => absurd q hw, fun _ => ?_⟩
            refine ⟨v0, ?_⟩
            refine ⟨v0, ?_⟩
            refine ⟨fun q => absurd q ha, fun _ => ?_⟩
            refine ⟨va, ?_⟩
            refine ⟨fun q => absurd q k0, fun _ => ?_⟩
            refine ⟨fun q => absurd q k3, fun _ => ?_⟩
            refine ⟨fun q => absurd k4 q, fun _ => ?_⟩
            refine ⟨fun _ => ?_, fun q => absurd h1c q⟩
            refine ⟨fun q => absurd q k8, fun _ => ?_⟩
            refine ⟨fun q => absurd q hl, fun _ => ?_⟩
            refine ⟨fun q => absurd q (of_decide_eq_true rfl), fun _ => ?_⟩
            refine ⟨fun _ => ?_, fun q => absurd q (of_decide_eq_true rfl)⟩
            refine ⟨Or.inl rfl, ?_⟩
            exact h9
        · skip
          have k0 : ¬ σ 37 (nI a).toNatClampNeg = 0 := by rw [ebx]; decide
          have k1 : ¬ σ 37 (nI a).toNatClampNeg = 1 := by rw [ebx]; decide
          have k2 : ¬ σ 37 (nI a).toNatClampNeg = 2 := by rw [ebx]; decide
          have k3 : ¬ σ 37 (nI a).toNatClampNeg = 3 := by rw [ebx]; decide
          have k4 : ¬ σ 37 (nI a).toNatClampNeg = 4 := by rw [ebx]; decide
          have k5 : σ 37 (nI a).toNatClampNeg = 5 := by rw [ebx]; exact rfl
          have k6 : ¬ σ 37 (nI a).toNatClampNeg = 6 := by rw [ebx]; decide
          have k8 : ¬ 8 < σ 37 (nI a).toNatClampNeg := by rw [ebx]; decide
          cases r with
          | zero =>
            have hl : 20 < dd (nI (t.length + 1) + (-1)).toNatClampNeg := by rw [q1]; decide
            have h9 := hQ dd ll
            rw [fz_no (show pz_t (σ 37) n 0 a lam = none from rfl)] at h9
            refine jx_go jk_91 (fun _ _ _ z => z) 200 [18] ?_
            refine ⟨fun q => absurd q hw, fun _ => ?_⟩
            refine ⟨v0, ?_⟩
            refine ⟨v0, ?_⟩
            refine ⟨fun q => absurd q ha, fun _ => ?_⟩
            refine ⟨va, ?_⟩
            refine ⟨fun q => absurd q k0, fun _ => ?_⟩
            refine ⟨fun q => absurd q k3, fun _ => ?_⟩
            refine ⟨fun _ => ?_, fun q => absurd q k4⟩
            refine ⟨fun _ => ?_, fun q => absurd h1c q⟩
            refine ⟨fun q => absurd q k8, fun _ => ?_⟩
            refine ⟨fun _ => ?_, fun q => absurd hl q⟩
            refine ⟨Or.inl rfl, ?_⟩
            exact h9
          | succ r =>
            have hl : ¬ 20 < dd (nI (t.length + 1) + (-1)).toNatClampNeg := by rw [q1]; exact nI_nlt (a := 20) (by omega) (by decide)
            have elev : dd (nI (t.length + 1) + (-1)).toNatClampNeg + 1 = nI (21 - r) := by rw [q1, nI_1]; exact congrArg nI (by omega)
            have elam : ll (nI (t.length + 1) + (-1)).toNatClampNeg = nI (lam) := by rw [q2]
            have ih2 := ih2_ (a + 1) ((r, lam) :: t) (upd dd t.length (nI (21 - r))) (upd ll t.length (nI (lam))) (by omega) (by omega) ⟨pk_us, pk_us, by omega, by omega, ps_keep p5 (fun i hi => ⟨pk_un (by omega), pk_un (by omega)⟩)⟩ (pi_one hpi) (fun d' l' => by have h9 := hQ d' l'; rw [fz_one (pz_56 han (Or.inl eb))] at h9; exact h9)
            have eS : jx_su (jx_su (jx_s2 σ dd ll) 61 (nI (t.length + 1) + (-1)).toNatClampNeg (dd (nI (t.length + 1) + (-1)).toNatClampNeg + 1)) 62 (nI (t.length + 1) + (-1)).toNatClampNeg (ll (nI (t.length + 1) + (-1)).toNatClampNeg) = jx_s2 σ (upd dd t.length (nI (21 - r))) (upd ll t.length (nI (lam))) := by rw [jx_s2a, jx_s2b, elev, elam, ei]
            rw [← eS, show nI ((r, lam) :: t).length = nI (t.length + 1) + (-1) + 1 by rw [ew, nI_1]; rfl, ← nI_1 a] at ih2
            refine jx_go jk_91 (fun _ _ _ z => z) 200 [18] ?_
            refine ⟨fun q => absurd q hw, fun _ => ?_⟩
            refine ⟨v0, ?_⟩
            refine ⟨v0, ?_⟩
            refine ⟨fun q => absurd q ha, fun _ => ?_⟩
            refine ⟨va, ?_⟩
            refine ⟨fun q => absurd q k0, fun _ => ?_⟩
            refine ⟨fun q => absurd q k3, fun _ => ?_⟩
            refine ⟨fun _ => ?_, fun q => absurd q k4⟩
            refine ⟨fun _ => ?_, fun q => absurd h1c q⟩
            refine ⟨fun q => absurd q k8, fun _ => ?_⟩
            refine ⟨fun q => absurd q hl, fun _ => ?_⟩
            refine ⟨fun _ => ?_, fun q => absurd q (of_decide_eq_true rfl)⟩
            refine ⟨fun _ => ?_, fun q => absurd q k0⟩
            refine ⟨fun _ => ?_, fun q => absurd q k4⟩
            refine ⟨fun _ => ?_, fun q => absurd q (of_decide_eq_true rfl)⟩
            refine ⟨fun _ => ?_, fun q => absurd q k2⟩
            refine ⟨fun q => absurd q k1, fun _ => ?_⟩
            refine ⟨fun _ => ?_, fun q => absurd k5 q⟩
            refine ⟨fun q => absurd q (of_decide_eq_true rfl), fun _ => ?_⟩
            refine ⟨v0, ?_⟩
            refine ⟨fun _ => ?_, fun q => absurd q k1⟩
            refine ⟨v0, ?_⟩
            refine ⟨fun _ => ?_, fun q => absurd q (of_decide_eq_true rfl)⟩
            refine jx_Jsub3 (i1 := 2) (i2 := 1) (i3 := 0) rfl rfl rfl ?_
            exact ih2
        · skip
          have k0 : ¬ σ 37 (nI a).toNatClampNeg = 0 := by rw [ebx]; decide
          have k1 : ¬ σ 37 (nI a).toNatClampNeg = 1 := by rw [ebx]; decide
          have k2 : ¬ σ 37 (nI a).toNatClampNeg = 2 := by rw [ebx]; decide
          have k3 : ¬ σ 37 (nI a).toNatClampNeg = 3 := by rw [ebx]; decide
          have k4 : ¬ σ 37 (nI a).toNatClampNeg = 4 := by rw [ebx]; decide
          have k5 : ¬ σ 37 (nI a).toNatClampNeg = 5 := by rw [ebx]; decide
          have k6 : σ 37 (nI a).toNatClampNeg = 6 := by rw [ebx]; exact rfl
          have k8 : ¬ 8 < σ 37 (nI a).toNatClampNeg := by rw [ebx]; decide
          cases r with
          | zero =>
            have hl : 20 < dd (nI (t.length + 1) + (-1)).toNatClampNeg := by rw [q1]; decide
            have h9 := hQ dd ll
            rw [fz_no (show pz_t (σ 37) n 0 a lam = none from rfl)] at h9
            refine jx_go jk_91 (fun _ _ _ z => z) 200 [18] ?_
            refine ⟨fun q => absurd q hw, fun _ => ?_⟩
            refine ⟨v0, ?_⟩
            refine ⟨v0, ?_⟩
            refine ⟨fun q => absurd q ha, fun _ => ?_⟩
            refine ⟨va, ?_⟩
            refine ⟨fun q => absurd q k0, fun _ => ?_⟩
            refine ⟨fun q => absurd q k3, fun _ => ?_⟩
            refine ⟨fun _ => ?_, fun q => absurd q k4⟩
            refine ⟨fun _ => ?_, fun q => absurd h1c q⟩
            refine ⟨fun q => absurd q k8, fun _ => ?_⟩
            refine ⟨fun _ => ?_, fun q => absurd hl q⟩
            refine ⟨Or.inl rfl, ?_⟩
            exact h9
          | succ r =>
            have hl : ¬ 20 < dd (nI (t.length + 1) + (-1)).toNatClampNeg := by rw [q1]; exact nI_nlt (a := 20) (by omega) (by decide)
            have elev : dd (nI (t.length + 1) + (-1)).toNatClampNeg + 1 = nI (21 - r) := by rw [q1, nI_1]; exact congrArg nI (by omega)
            have elam : ll (nI (t.length + 1) + (-1)).toNatClampNeg = nI (lam) := by rw [q2]
            have ih2 := ih2_ (a + 1) ((r, lam) :: t) (upd dd t.length (nI (21 - r))) (upd ll t.length (nI (lam))) (by omega) (by omega) ⟨pk_us, pk_us, by omega, by omega, ps_keep p5 (fun i hi => ⟨pk_un (by omega), pk_un (by omega)⟩)⟩ (pi_one hpi) (fun d' l' => by have h9 := hQ d' l'; rw [fz_one (pz_56 han (Or.inr eb))] at h9; exact h9)
            have eS : jx_su (jx_su (jx_s2 σ dd ll) 61 (nI (t.length + 1) + (-1)).toNatClampNeg (dd (nI (t.length + 1) + (-1)).toNatClampNeg + 1)) 62 (nI (t.length + 1) + (-1)).toNatClampNeg (ll (nI (t.length + 1) + (-1)).toNatClampNeg) = jx_s2 σ (upd dd t.length (nI (21 - r))) (upd ll t.length (nI (lam))) := by rw [jx_s2a, jx_s2b, elev, elam, ei]
            rw [← eS, show nI ((r, lam) :: t).length = nI (t.length + 1) + (-1) + 1 by rw [ew, nI_1]; rfl, ← nI_1 a] at ih2
            refine jx_go jk_91 (fun _ _ _ z => z) 200 [18] ?_
            refine ⟨fun q => absurd q hw, fun _ => ?_⟩
            refine ⟨v0, ?_⟩
            refine ⟨v0, ?_⟩
            refine ⟨fun q => absurd q ha, fun _ => ?_⟩
            refine ⟨va, ?_⟩
            refine ⟨fun q => absurd q k0, fun _ => ?_⟩
            refine ⟨fun q => absurd q k3, fun _ => ?_⟩
            refine ⟨fun _ => ?_, fun q => absurd q k4⟩
            refine ⟨fun _ => ?_, fun q => absurd h1c q⟩
            refine ⟨fun q => absurd q k8, fun _ => ?_⟩
            refine ⟨fun q => absurd q hl, fun _ => ?_⟩
            refine ⟨fun _ => ?_, fun q => absurd q (of_decide_eq_true rfl)⟩
            refine ⟨fun _ => ?_, fun q => absurd q k0⟩
            refine ⟨fun _ => ?_, fun q => absurd q k4⟩
            refine ⟨fun _ => ?_, fun q => absurd q (of_decide_eq_true rfl)⟩
            refine ⟨fun _ => ?_, fun q => absurd q k2⟩
            refine ⟨fun q => absurd q k1, fun _ => ?_⟩
            refine ⟨fun q => absurd q k5, fun _ => ?_⟩
            refine ⟨fun q => absurd k6 q, fun _ => ?_⟩
            refine ⟨fun q => absurd q (of_decide_eq_true rfl), fun _ => ?_⟩
            refine ⟨v0, ?_⟩
            refine ⟨fun _ => ?_, fun q => absurd q k1⟩
            refine ⟨v0, ?_⟩
            refine ⟨fun _ => ?_, fun q => absurd q (of_decide_eq_true rfl)⟩
            refine jx_Jsub3 (i1 := 2) (i2 := 1) (i3 := 0) rfl rfl rfl ?_
            exact ih2
        · skip
          have k0 : ¬ σ 37 (nI a).toNatClampNeg = 0 := by rw [ebx]; decide
          have k1 : ¬ σ 37 (nI a).toNatClampNeg = 1 := by rw [ebx]; decide
          have k2 : ¬ σ 37 (nI a).toNatClampNeg = 2 := by rw [ebx]; decide
          have k3 : ¬ σ 37 (nI a).toNatClampNeg = 3 := by rw [ebx]; decide
          have k4 : ¬ σ 37 (nI a).toNatClampNeg = 4 := by rw [ebx]; decide
          have k5 : ¬ σ 37 (nI a).toNatClampNeg = 5 := by rw [ebx]; decide
          have k6 : ¬ σ 37 (nI a).toNatClampNeg = 6 := by rw [ebx]; decide
          have k8 : ¬ 8 < σ 37 (nI a).toNatClampNeg := by rw [ebx]; decide
          cases r with
          | zero =>
            have hl : 20 < dd (nI (t.length + 1) + (-1)).toNatClampNeg := by rw [q1]; decide
            have h9 := hQ dd ll
            rw [fz_no (show pz_t (σ 37) n 0 a lam = none from rfl)] at h9
            refine jx_go jk_91 (fun _ _ _ z => z) 200 [18] ?_
            refine ⟨fun q => absurd q hw, fun _ => ?_⟩
            refine ⟨v0, ?_⟩
            refine ⟨v0, ?_⟩
            refine ⟨fun q => absurd q ha, fun _ => ?_⟩
            refine ⟨va, ?_⟩
            refine ⟨fun q => absurd q k0, fun _ => ?_⟩
            refine ⟨fun q => absurd q k3, fun _ => ?_⟩
            refine ⟨fun _ => ?_, fun q => absurd q k4⟩
            refine ⟨fun _ => ?_, fun q => absurd h1c q⟩
            refine ⟨fun q => absurd q k8, fun _ => ?_⟩
            refine ⟨fun _ => ?_, fun q => absurd hl q⟩
            refine ⟨Or.inl rfl, ?_⟩
            exact h9
          | succ r =>
            have hl : ¬ 20 < dd (nI (t.length + 1) + (-1)).toNatClampNeg := by rw [q1]; exact nI_nlt (a := 20) (by omega) (by decide)
            have elev : dd (nI (t.length + 1) + (-1)).toNatClampNeg + 1 = nI (21 - r) := by rw [q1, nI_1]; exact congrArg nI (by omega)
            have ih2 := ih2_ (a + 1) t dd ll (by omega) (by omega) p5 (pi_pop hpi) (fun d' l' => by have h9 := hQ d' l'; rw [fz_yes (pz_78 han (Or.inl eb))] at h9; exact h9)
            rw [← nI_1 a, ← ew] at ih2
            refine jx_go jk_91 (fun _ _ _ z => z) 200 [18] ?_
            refine ⟨fun q => absurd q hw, fun _ => ?_⟩
            refine ⟨v0, ?_⟩
            refine ⟨v0, ?_⟩
            refine ⟨fun q => absurd q ha, fun _ => ?_⟩
            refine ⟨va, ?_⟩
            refine ⟨fun q => absurd q k0, fun _ => ?_⟩
            refine ⟨fun q => absurd q k3, fun _ => ?_⟩
            refine ⟨fun _ => ?_, fun q => absurd q k4⟩
            refine ⟨fun _ => ?_, fun q => absurd h1c q⟩
            refine ⟨fun q => absurd q k8, fun _ => ?_⟩
            refine ⟨fun q => absurd q hl, fun _ => ?_⟩
            refine ⟨fun _ => ?_, fun q => absurd q (of_decide_eq_true rfl)⟩
            refine ⟨fun _ => ?_, fun q => absurd q k0⟩
            refine ⟨fun _ => ?_, fun q => absurd q k4⟩
            refine ⟨fun _ => ?_, fun q => absurd q (of_decide_eq_true rfl)⟩
            refine ⟨fun _ => ?_, fun q => absurd q k2⟩
            refine ⟨fun q => absurd q k1, fun _ => ?_⟩
            refine ⟨fun q => absurd q k5, fun _ => ?_⟩
            refine ⟨fun _ => ?_, fun q => absurd q k6⟩
            refine ⟨fun _ => ?_, fun q => absurd q (of_decide_eq_true rfl)⟩
            refine jx_Jsub3 (i1 := 2) (i2 := 1) (i3 := 0) rfl rfl rfl ?_
            exact ih2
        · skip
          have k0 : ¬ σ 37 (nI a).toNatClampNeg = 0 := by rw [ebx]; decide
          have k1 : ¬ σ 37 (nI a).toNatClampNeg = 1 := by rw [ebx]; decide
          have k2 : ¬ σ 37 (nI a).toNatClampNeg = 2 := by rw [ebx]; decide
          have k3 : ¬ σ 37 (nI a).toNatClampNeg = 3 := by rw [ebx]; decide
          have k4 : ¬ σ 37 (nI a).toNatClampNeg = 4 := by rw [ebx]; decide
          have k5 : ¬ σ 37 (nI a).toNatClampNeg = 5 := by rw [ebx]; decide
          have k6 : ¬ σ 37 (nI a).toNatClampNeg = 6 := by rw [ebx]; decide
          have k8 : ¬ 8 < σ 37 (nI a).toNatClampNeg := by rw [ebx]; decide
          cases r with
          | zero =>
            have hl : 20 < dd (nI (t.length + 1) + (-1)).toNatClampNeg := by rw [q1]; decide
            have h9 := hQ dd ll
            rw [fz_no (show pz_t (σ 37) n 0 a lam = none from rfl)] at h9
            refine jx_go jk_91 (fun _ _ _ z => z) 200 [18] ?_
            refine ⟨fun q => absurd q hw, fun _ => ?_⟩
            refine ⟨v0, ?_⟩
            refine ⟨v0, ?_⟩
            refine ⟨fun q => absurd q ha, fun _ => ?_⟩
            refine ⟨va, ?_⟩
            refine ⟨fun q => absurd q k0, fun _ => ?_⟩
            refine ⟨fun q => absurd q k3, fun _ => ?_⟩
            refine ⟨fun _ => ?_, fun q => absurd q k4⟩
            refine ⟨fun _ => ?_, fun q => absurd h1c q⟩
            refine ⟨fun q => absurd q k8, fun _ => ?_⟩
            refine ⟨fun _ => ?_, fun q => absurd hl q⟩
            refine ⟨Or.inl rfl, ?_⟩
            exact h9
          | succ r =>
            have hl : ¬ 20 < dd (nI (t.length + 1) + (-1)).toNatClampNeg := by rw [q1]; exact nI_nlt (a := 20) (by omega) (by decide)
            have elev : dd (nI (t.length + 1) + (-1)).toNatClampNeg + 1 = nI (21 - r) := by rw [q1, nI_1]; exact congrArg nI (by omega)
            have ih2 := ih2_ (a + 1) t dd ll (by omega) (by omega) p5 (pi_pop hpi) (fun d' l' => by have h9 := hQ d' l'; rw [fz_yes (pz_78 han (Or.inr eb))] at h9; exact h9)
            rw [← nI_1 a, ← ew] at ih2
            refine jx_go jk_91 (fun _ _ _ z => z) 200 [18] ?_
            refine ⟨fun q => absurd q hw, fun _ => ?_⟩
            refine ⟨v0, ?_⟩
            refine ⟨v0, ?_⟩
            refine ⟨fun q => absurd q ha, fun _ => ?_⟩
            refine ⟨va, ?_⟩
            refine ⟨fun q => absurd q k0, fun _ => ?_⟩
            refine ⟨fun q => absurd q k3, fun _ => ?_⟩
            refine ⟨fun _ => ?_, fun q => absurd q k4⟩
            refine ⟨fun _ => ?_, fun q => absurd h1c q⟩
            refine ⟨fun q => absurd q k8, fun _ => ?_⟩
            refine ⟨fun q => absurd q hl, fun _ => ?_⟩
            refine ⟨fun _ => ?_, fun q => absurd q (of_decide_eq_true rfl)⟩
            refine ⟨fun _ => ?_, fun q => absurd q k0⟩
            refine ⟨fun _ => ?_, fun q => absurd q k4⟩
            refine ⟨fun _ => ?_, fun q => absurd q (of_decide_eq_true rfl)⟩
            refine ⟨fun _ => ?_, fun q => absurd q k2⟩
            refine ⟨fun q => absurd q k1, fun _ => ?_⟩
            refine ⟨fun q => absurd q k5, fun _ => ?_⟩
            refine ⟨fun _ => ?_, fun q => absurd q k6⟩
            refine ⟨fun _ => ?_, fun q => absurd q (of_decide_eq_true rfl)⟩
            refine jx_Jsub3 (i1 := 2) (i2 := 1) (i3 := 0) rfl rfl rfl ?_
            exact ih2
        · skip
          have k0 : ¬ σ 37 (nI a).toNatClampNeg = 0 := by rw [ebx]; exact fun q => absurd ((nI_eq (b := 0) (by omega) (by decide)).mp q) (by omega)
          have k1 : ¬ σ 37 (nI a).toNatClampNeg = 1 := by rw [ebx]; exact fun q => absurd ((nI_eq (b := 1) (by omega) (by decide)).mp q) (by omega)
          have k2 : ¬ σ 37 (nI a).toNatClampNeg = 2 := by rw [ebx]; exact fun q => absurd ((nI_eq (b := 2) (by omega) (by decide)).mp q) (by omega)
          have k3 : ¬ σ 37 (nI a).toNatClampNeg = 3 := by rw [ebx]; exact fun q => absurd ((nI_eq (b := 3) (by omega) (by decide)).mp q) (by omega)
          have k4 : ¬ σ 37 (nI a).toNatClampNeg = 4 := by rw [ebx]; exact fun q => absurd ((nI_eq (b := 4) (by omega) (by decide)).mp q) (by omega)
          have k5 : ¬ σ 37 (nI a).toNatClampNeg = 5 := by rw [ebx]; exact fun q => absurd ((nI_eq (b := 5) (by omega) (by decide)).mp q) (by omega)
          have k6 : ¬ σ 37 (nI a).toNatClampNeg = 6 := by rw [ebx]; exact fun q => absurd ((nI_eq (b := 6) (by omega) (by decide)).mp q) (by omega)
          have k8 : 8 < σ 37 (nI a).toNatClampNeg := by rw [ebx]; exact nI_lt (a := 8) (by omega) (by omega)
          have h9 := hQ dd ll
          rw [fz_no (show pz_t (σ 37) n r a lam = none by cases r with | zero => rfl | succ r => exact pz_o han hb256 hb9 eb)] at h9
          refine jx_go jk_91 (fun _ _ _ z => z) 200 [18] ?_
          refine ⟨fun q => absurd q hw, fun _ => ?_⟩
          refine ⟨v0, ?_⟩
          refine ⟨v0, ?_⟩
          refine ⟨fun q => absurd q ha, fun _ => ?_⟩
          refine ⟨va, ?_⟩
          refine ⟨fun q => absurd q k0, fun _ => ?_⟩
          refine ⟨fun q => absurd q k3, fun _ => ?_⟩
          refine ⟨fun _ => ?_, fun q => absurd q k4⟩
          refine ⟨fun _ => ?_, fun q => absurd h1c q⟩
          refine ⟨fun _ => ?_, fun q => absurd k8 q⟩
          refine ⟨Or.inl rfl, ?_⟩
          exact h9

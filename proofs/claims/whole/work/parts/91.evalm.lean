/-! the evaluator of the model: cells stand for values -/
def em_rc (k a b c e h n : Nat → Int32) (u w : Nat) : ez_V → Nat → Nat → Prop
  | .nil, 0, v => v < u ∧ k v = 2 ∧ c v = 0
  | .nil, 1, _ => True
  | .nil, 2, _ => True
  | .append x t, 0, v => v < u ∧ k v = 2 ∧ c v = nI (ez_len t + 1) ∧ ez_len t < u ∧ ∃ i j : Nat, a v = nI i ∧ b v = nI j ∧ em_rc k a b c e h n u w x 0 i ∧ em_rc k a b c e h n u w t 0 j
  | .append x t, 1, v => v ≤ w ∧ ∃ i j : Nat, h v = nI i ∧ n v = nI j ∧ em_rc k a b c e h n u w x 0 i ∧ em_rc k a b c e h n u w t 1 j
  | .append x t, 2, v => v < u ∧ (∃ i : Nat, (if ez_len t = 0 then c v else e v) = nI i ∧ em_rc k a b c e h n u w x 0 i) ∧ em_rc k a b c e h n u w t 2 v
  | .nest i _, 0, v => v < u ∧ k v = 0 ∧ a v = Int32.ofInt i
  | .align t, 0, v => v < u ∧ k v = 1 ∧ a v = (if t then 1 else 0)
  | .tag m t, 0, v => v < u ∧ k v = nI (3 + m % 3) ∧ a v = nI (m / 3) ∧ (¬ m % 3 = 2 → ∃ j : Nat, b v = nI j ∧ em_rc k a b c e h n u w t 1 j) ∧ (m % 3 = 2 → b v = nI (ez_len t) ∧ em_rc k a b c e h n u w t 2 v)
  | _, _, _ => False
theorem em_mono {k a b c e h n k' a' b' c' e' h' n' : Nat → Int32} {u w u' w' : Nat} (hu : u ≤ u') (hw : w ≤ w') (hK : ∀ i, i < u → k' i = k i ∧ a' i = a i ∧ b' i = b i ∧ c' i = c i ∧ e' i = e i) (hH : ∀ i, i ≤ w → h' i = h i ∧ n' i = n i) : ∀ (v : ez_V) (m : Nat) (p : Nat), em_rc k a b c e h n u w v m p → em_rc k' a' b' c' e' h' n' u' w' v m p := by
  intro v
  induction v with
  | nil =>
    intro m p z
    match m, z with
    | 0, z =>
      obtain ⟨h1, h2, h3⟩ := z
      have q := hK p h1
      exact ⟨by omega, by rw [q.1]; exact h2, by rw [q.2.2.2.1]; exact h3⟩
    | 1, z => trivial
    | 2, z => trivial
    | m + 3, z => exact z.elim
  | append x t ihx iht =>
    intro m p z
    match m, z with
    | 0, z =>
      obtain ⟨h1, h2, h3, h4, i, j, h5, h6, h7, h8⟩ := z
      have q := hK p h1
      exact ⟨by omega, by rw [q.1]; exact h2, by rw [q.2.2.2.1]; exact h3, by omega, i, j, by rw [q.2.1]; exact h5, by rw [q.2.2.1]; exact h6, ihx _ _ h7, iht _ _ h8⟩
    | 1, z =>
      obtain ⟨h1, i, j, h5, h6, h7, h8⟩ := z
      have q := hH p h1
      exact ⟨by omega, i, j, by rw [q.1]; exact h5, by rw [q.2]; exact h6, ihx _ _ h7, iht _ _ h8⟩
    | 2, z =>
      obtain ⟨h1, ⟨i, h2, h3⟩, h4⟩ := z
      have q := hK p h1
      exact ⟨by omega, ⟨i, by rw [q.2.2.2.1, q.2.2.2.2]; exact h2, ihx _ _ h3⟩, iht _ _ h4⟩
    | m + 3, z => exact z.elim
  | nest i x ih =>
    intro m p z
    match m, z with
    | 0, z =>
      obtain ⟨h1, h2, h3⟩ := z
      have q := hK p h1
      exact ⟨by omega, by rw [q.1]; exact h2, by rw [q.2.1]; exact h3⟩
    | m + 1, z => exact z.elim
  | align t =>
    intro m p z
    match m, z with
    | 0, z =>
      obtain ⟨h1, h2, h3⟩ := z
      have q := hK p h1
      exact ⟨by omega, by rw [q.1]; exact h2, by rw [q.2.1]; exact h3⟩
    | m + 1, z => exact z.elim
  | tag y t ih =>
    intro m p z
    match m, z with
    | 0, z =>
      obtain ⟨h1, h2, h3, h4, h5⟩ := z
      have q := hK p h1
      refine ⟨by omega, by rw [q.1]; exact h2, by rw [q.2.1]; exact h3, fun g => ?_, fun g => ?_⟩
      · obtain ⟨j, j1, j2⟩ := h4 g
        exact ⟨j, by rw [q.2.2.1]; exact j1, ih _ _ j2⟩
      · exact ⟨by rw [q.2.2.1]; exact (h5 g).1, ih _ _ (h5 g).2⟩
    | m + 1, z => exact z.elim
  | line => intro m p z; exact z.elim
  | text s => intro m p z; exact z.elim
  | group x y ih => intro m p z; exact z.elim
def em_r (τ : jx_St) (u w : Nat) (v : ez_V) (m p : Nat) : Prop := em_rc (τ 38) (τ 39) (τ 40) (τ 41) (τ 42) (τ 43) (τ 44) u w v m p
def em_in (p : Nat) : Bool := Nat.beq p 34 || (Nat.ble 38 p && Nat.ble p 47)
def em_if (i : Nat) : Bool := Nat.beq i 5 || Nat.beq i 11 || Nat.beq i 14 || (Nat.ble 18 i && Nat.ble i 24)
def em_same (σ τ : jx_St) : Prop := (∀ q, em_in q = false → τ q = σ q) ∧ ∀ i, em_if i = false → τ 34 i = σ 34 i
theorem em_su {σ τ : jx_St} {p i : Nat} {v : Int32} (h : em_same σ τ) (hp : em_in p = true := by rfl) (h34 : (Nat.ble 38 p && Nat.ble p 47) = true := by rfl) : em_same σ (jx_su τ p i v) := by
  have hne : p ≠ 34 := fun z => by rw [z] at h34; cases h34
  refine ⟨fun q hq => ?_, fun j hj => ?_⟩
  · rw [jx_su_ne _ _ _ (fun e => by rw [e, hp] at hq; cases hq)]
    exact h.1 q hq
  · rw [jx_su_ne _ _ _ (Ne.symm hne)]
    exact h.2 j hj
theorem em_sf {σ τ : jx_St} {i : Nat} {v : Int32} (h : em_same σ τ) (hi : em_if i = true := by rfl) : em_same σ (jx_su τ 34 i v) := by
  refine ⟨fun q hq => ?_, fun j hj => ?_⟩
  · rw [jx_su_ne _ _ _ (fun e => by rw [e] at hq; cases hq)]
    exact h.1 q hq
  · rw [jx_su_eq, pk_un (fun e => by rw [e, hi] at hj; cases hj)]
    exact h.2 j hj
def em_mk (τ : jx_St) (u : Nat) (a1 a2 a3 a4 a5 : Int32) : jx_St := jx_su (jx_su (jx_su (jx_su (jx_su (jx_su τ 38 u a1) 39 u a2) 40 u a3) 41 u a4) 42 u a5) 34 5 (nI (u + 1))
theorem em_mks {σ τ : jx_St} {u : Nat} {a1 a2 a3 a4 a5 : Int32} (h : em_same σ τ) : em_same σ (em_mk τ u a1 a2 a3 a4 a5) := em_sf (em_su (em_su (em_su (em_su (em_su h)))))
theorem em_mkr {τ : jx_St} {u w : Nat} {a1 a2 a3 a4 a5 : Int32} {v : ez_V} {m p : Nat} (h : em_r τ u w v m p) : em_r (em_mk τ u a1 a2 a3 a4 a5) (u + 1) w v m p :=
  em_mono (Nat.le_succ _) (Nat.le_refl _) (fun i hi => ⟨pk_un (by omega), pk_un (by omega), pk_un (by omega), pk_un (by omega), pk_un (by omega)⟩) (fun _ _ => ⟨rfl, rfl⟩) v m p h
def em_pu (τ : jx_St) (k : Nat) (a b c : Int32) : jx_St := jx_su (jx_su (jx_su (jx_su τ 45 k a) 46 k b) 47 k c) 34 14 (nI (k + 1))
theorem em_pus {σ τ : jx_St} {k : Nat} {a b c : Int32} (h : em_same σ τ) : em_same σ (em_pu τ k a b c) := em_sf (em_su (em_su (em_su h)))
section EM
variable {l : Launch} {D : va_G} {cA : ClassId} {ρ : Nat → Nat} {d : Nat} {Q : Option Value → jx_St → Prop} {τ : jx_St}
theorem em_make {u : Nat} {a1 a2 a3 a4 a5 : Int32} (hu : τ 34 5 = nI u) (h : u < 260) (hQ : Q (some (.int (nI u))) (em_mk τ u a1 a2 a3 a4 a5)) : jx_C l D cA ρ jx_XM (d + 1) 94 [.ref 34, .int a1, .int a2, .int a3, .int a4, .int a5] τ Q := by
  have v : vp_in (τ 34 5) 260 := by rw [hu]; exact vp_in_nI h (by decide)
  have e1 : τ 34 5 + 1 - 1 = nI u := by rw [hu]; exact Int32.add_sub_cancel _ _
  have e2 : (τ 34 5).toNatClampNeg = u := by rw [hu]; exact nI_clamp (by omega)
  have e3 : τ 34 5 + 1 = nI (u + 1) := by rw [hu]; exact nI_1 u
  have hQ2 : Q (some (.int (τ 34 5 + 1 - 1))) (jx_su (jx_su (jx_su (jx_su (jx_su (jx_su τ 38 (τ 34 5).toNatClampNeg a1) 39 (τ 34 5).toNatClampNeg a2) 40 (τ 34 5).toNatClampNeg a3) 41 (τ 34 5).toNatClampNeg a4) 42 (τ 34 5).toNatClampNeg a5) 34 5 (τ 34 5 + 1)) := by rw [e1, e2, e3]; exact hQ
  exact ji_94 ⟨v, v, v, v, v, hQ2⟩
theorem em_whole {u : Nat} {a1 : Int32} (hu : τ 34 5 = nI u) (h : u < 260) (hQ : Q (some (.int (nI u))) (em_mk τ u 0 a1 0 0 0)) : jx_C l D cA ρ jx_XM (d + 2) 95 [.ref 34, .int a1] τ Q := ji_95 (em_make hu h hQ)
theorem em_cons {u c : Nat} {a1 : Int32} (hu : τ 34 5 = nI u) (h : u < 260) (hc : c < 260) (hQ : Q (some (.int (nI u))) (em_mk τ u 2 a1 (nI c) (1 + τ 41 c) 0)) : jx_C l D cA ρ jx_XM (d + 2) 96 [.ref 34, .int a1, .int (nI c)] τ Q := by
  have v : vp_in (nI c) 260 := vp_in_nI hc (by decide)
  have e : (nI c).toNatClampNeg = c := nI_clamp (by omega)
  refine ji_96 ⟨v, ?_⟩
  refine em_make hu h ?_
  rw [e]
  exact hQ
theorem em_later {k : Nat} {a b c : Int32} (hk : τ 34 14 = nI k) (h : k < 120) (hQ : Q none (em_pu τ k a b c)) : jx_C l D cA ρ jx_XM (d + 1) 100 [.ref 34, .int a, .int b, .int c] τ Q := by
  have v : vp_in (τ 34 14) 120 := by rw [hk]; exact vp_in_nI h (by decide)
  have e2 : (τ 34 14).toNatClampNeg = k := by rw [hk]; exact nI_clamp (by omega)
  have e3 : τ 34 14 + 1 = nI (k + 1) := by rw [hk]; exact nI_1 k
  have hQ2 : Q none (jx_su (jx_su (jx_su (jx_su τ 45 (τ 34 14).toNatClampNeg a) 46 (τ 34 14).toNatClampNeg b) 47 (τ 34 14).toNatClampNeg c) 34 14 (τ 34 14 + 1)) := by rw [e2, e3]; exact hQ
  exact ji_100 ⟨v, v, v, hQ2⟩
theorem em_pay {s B c : Nat} (hs : τ 34 21 = nI s) (hB : τ 34 22 = nI B) (h1 : s ≤ 99) (h2 : B ≤ 99) (h3 : c ≤ 3) (hno : B < s + c → Q (some (.int 0)) (jx_su (jx_su τ 34 21 (nI B)) 34 23 3)) (hyes : ¬ B < s + c → Q (some (.int 1)) (jx_su τ 34 21 (nI (s + c)))) : jx_C l D cA ρ jx_XM (d + 1) 98 [.ref 34, .int (nI c)] τ Q := by
  have e1 : τ 34 21 + nI c = nI (s + c) := by rw [hs, nI_add]
  by_cases h : B < s + c
  · have g : ¬ τ 34 21 + nI c ≤ τ 34 22 := by rw [e1, hB]; exact nI_ge h (by omega)
    have h9 := hno h
    rw [← hB] at h9
    exact ji_98 ⟨fun q => absurd q g, fun _ => ⟨Or.inl rfl, h9⟩⟩
  · have g : τ 34 21 + nI c ≤ τ 34 22 := by rw [e1, hB]; exact nI_le (by omega) (by omega)
    have h9 := hyes h
    rw [← e1] at h9
    exact ji_98 ⟨fun _ => ⟨Or.inr rfl, h9⟩, fun q => absurd g q⟩
theorem em_fail (hQ : Q (some (.int 0)) (jx_su τ 34 23 2)) : jx_C l D cA ρ jx_XM (d + 1) 99 [.ref 34] τ Q := ji_99 ⟨Or.inl rfl, hQ⟩
theorem em_args {k : Nat} (hk : k ≤ 10) (hQ : Q (some (.int (nI (ez_ar k)))) τ) : jx_C l D cA ρ jx_XM (d + 1) 97 [.int (nI k)] τ Q := by
  unfold ez_ar at hQ
  by_cases h6 : k = 6
  · rw [if_pos h6] at hQ
    subst h6
    exact ji_97 ⟨fun q => absurd rfl q, fun _ => hQ⟩
  · rw [if_neg h6] at hQ
    have n6 : ¬ nI k = 6 := fun q => h6 ((nI_eq (b := 6) (by omega) (by decide)).mp q)
    by_cases h8 : 8 ≤ k
    · rw [if_pos h8] at hQ
      exact ji_97 ⟨fun _ => ⟨fun q => absurd q (nI_nlt (b := 8) h8 (by omega)), fun _ => hQ⟩, fun q => absurd q n6⟩
    · rw [if_neg h8] at hQ
      exact ji_97 ⟨fun _ => ⟨fun _ => hQ, fun q => absurd (nI_lt (b := 8) (by omega) (by decide)) q⟩, fun q => absurd q n6⟩
/-- where a term ends: the model's loop over its parts -/
theorem em_93l {f g : Nat → Int32} {E : Nat} (hE : E ≤ 288) (hf : ∀ j, τ 35 j = f j) : ∀ (r p lam q k : Nat), iw_t f g E r p lam q → k ≤ p → jx_J l D cA ρ jx_XM (jx_A ρ jx_XM) jx_tb0 (d + 1) 93 Q 4 [(3, .int (nI q)), (2, .int (nI k)), (0, .ref 34)] [] τ → jx_J l D cA ρ jx_XM (jx_A ρ jx_XM) jx_tb0 (d + 1) 93 Q 4 [(3, .int (nI p)), (2, .int (nI (k + 1))), (0, .ref 34)] [] τ
  | 0, p, lam, q, k, h, _, _ => h.elim
  | r + 1, p, lam, q, k, h, hk, hx => by
    have hpq := iw_le h
    obtain ⟨hp, h⟩ := h
    have vp : vp_in (nI p) 288 := vp_in_nI (by omega) (by decide)
    have ecl : (nI p).toNatClampNeg = p := nI_clamp (by omega)
    have hk0 : ¬ nI (k + 1) ≤ 0 := nI_nle (by omega) (by omega)
    have e1 : nI p + 1 = nI (p + 1) := nI_1 p
    have e2 : nI p + 2 = nI (p + 2) := nI_add p 2
    have ek : nI (k + 1) - 1 = nI k := nI_pred k
    rcases h with ⟨hop, h1, h2, hq⟩ | ⟨hop, ht⟩ | ⟨hop, q1, h1, h2, h3⟩ | ⟨hop, h1, hq⟩ | ⟨hop, h1, h2, hq⟩ | ⟨hop | hop, ht⟩ | ⟨hop | hop, hq⟩
    · have ex : τ 35 (nI p).toNatClampNeg = 0 := by rw [ecl, hf]; exact hop
      subst hq
      rw [← e2, ← ek] at hx
      refine jx_go jk_93 (fun _ _ _ z => z) 60 [4] ?_
      refine ⟨fun q => absurd q hk0, fun _ => ⟨vp, ?_⟩⟩
      refine ⟨fun _ => ?_, fun q => absurd (ex.symm.trans q) (by decide)⟩
      refine ⟨fun q => absurd (ex.symm.trans q) (by decide), fun _ => ?_⟩
      refine ⟨fun q => absurd (ex.symm.trans q) (by decide), fun _ => ?_⟩
      refine ⟨fun _ => ?_, fun q => absurd (ex.symm.trans q) (by decide)⟩
      refine ⟨fun _ => ?_, fun q => absurd ex q⟩
      refine jx_Jsub3 (i1 := 3) (i2 := 2) (i3 := 0) rfl rfl rfl ?_
      exact hx
    · have ex : τ 35 (nI p).toNatClampNeg = 1 := by rw [ecl, hf]; exact hop
      have ih := em_93l hE hf r (p + 1) _ q k ht (by omega) hx
      rw [← e1] at ih
      refine jx_go jk_93 (fun _ _ _ z => z) 60 [4] ?_
      refine ⟨fun q => absurd q hk0, fun _ => ⟨vp, ?_⟩⟩
      refine ⟨fun _ => ?_, fun q => absurd (ex.symm.trans q) (by decide)⟩
      refine ⟨fun _ => ?_, fun q => absurd ex q⟩
      refine ⟨fun q => absurd (ex.symm.trans q) (by decide), fun _ => ?_⟩
      refine ⟨fun q => absurd (ex.symm.trans q) (by decide), fun _ => ?_⟩
      refine ⟨fun _ => ?_, fun q => absurd (ex.symm.trans q) (by decide)⟩
      refine jx_Jsub3 (i1 := 3) (i2 := 2) (i3 := 0) rfl rfl rfl ?_
      exact ih
    · have ex : τ 35 (nI p).toNatClampNeg = 2 := by rw [ecl, hf]; exact hop
      have := iw_le h1
      have ih := em_93l hE hf r (p + 1) lam q1 (k + 1) h1 (by omega) (em_93l hE hf r q1 lam q k h2 (by omega) hx)
      rw [← e1, ← nI_1 (k + 1)] at ih
      refine jx_go jk_93 (fun _ _ _ z => z) 60 [4] ?_
      refine ⟨fun q => absurd q hk0, fun _ => ⟨vp, ?_⟩⟩
      refine ⟨fun q => absurd ex q, fun _ => ?_⟩
      refine ⟨fun q => absurd (ex.symm.trans q) (by decide), fun _ => ?_⟩
      refine ⟨fun q => absurd (ex.symm.trans q) (by decide), fun _ => ?_⟩
      refine ⟨fun _ => ?_, fun q => absurd (ex.symm.trans q) (by decide)⟩
      refine jx_Jsub3 (i1 := 3) (i2 := 2) (i3 := 0) rfl rfl rfl ?_
      exact ih
    · have ex : τ 35 (nI p).toNatClampNeg = 3 := by rw [ecl, hf]; exact hop
      subst hq
      rw [← e2, ← ek] at hx
      refine jx_go jk_93 (fun _ _ _ z => z) 60 [4] ?_
      refine ⟨fun q => absurd q hk0, fun _ => ⟨vp, ?_⟩⟩
      refine ⟨fun _ => ?_, fun q => absurd (ex.symm.trans q) (by decide)⟩
      refine ⟨fun q => absurd (ex.symm.trans q) (by decide), fun _ => ?_⟩
      refine ⟨fun q => absurd (ex.symm.trans q) (by decide), fun _ => ?_⟩
      refine ⟨fun _ => ?_, fun q => absurd (ex.symm.trans q) (by decide)⟩
      refine ⟨fun q => absurd (ex.symm.trans q) (by decide), fun _ => ?_⟩
      refine ⟨fun _ => ?_, fun q => absurd ex q⟩
      refine jx_Jsub3 (i1 := 3) (i2 := 2) (i3 := 0) rfl rfl rfl ?_
      exact hx
    · have ex : τ 35 (nI p).toNatClampNeg = 4 := by rw [ecl, hf]; exact hop
      subst hq
      rw [← e2, ← ek] at hx
      refine jx_go jk_93 (fun _ _ _ z => z) 60 [4] ?_
      refine ⟨fun q => absurd q hk0, fun _ => ⟨vp, ?_⟩⟩
      refine ⟨fun _ => ?_, fun q => absurd (ex.symm.trans q) (by decide)⟩
      refine ⟨fun q => absurd (ex.symm.trans q) (by decide), fun _ => ?_⟩
      refine ⟨fun q => absurd (ex.symm.trans q) (by decide), fun _ => ?_⟩
      refine ⟨fun _ => ?_, fun q => absurd (ex.symm.trans q) (by decide)⟩
      refine ⟨fun q => absurd (ex.symm.trans q) (by decide), fun _ => ?_⟩
      refine ⟨fun q => absurd (ex.symm.trans q) (by decide), fun _ => ?_⟩
      refine ⟨fun q => absurd ex q, fun _ => ?_⟩
      refine jx_Jsub3 (i1 := 3) (i2 := 2) (i3 := 0) rfl rfl rfl ?_
      exact hx
    · have ex : τ 35 (nI p).toNatClampNeg = 5 := by rw [ecl, hf]; exact hop
      have ih := em_93l hE hf r (p + 1) _ q k ht (by omega) hx
      rw [← e1] at ih
      refine jx_go jk_93 (fun _ _ _ z => z) 60 [4] ?_
      refine ⟨fun q => absurd q hk0, fun _ => ⟨vp, ?_⟩⟩
      refine ⟨fun _ => ?_, fun q => absurd (ex.symm.trans q) (by decide)⟩
      refine ⟨fun q => absurd (ex.symm.trans q) (by decide), fun _ => ?_⟩
      refine ⟨fun _ => ?_, fun q => absurd ex q⟩
      refine ⟨fun q => absurd (ex.symm.trans q) (by decide), fun _ => ?_⟩
      refine ⟨fun q => absurd (ex.symm.trans q) (by decide), fun _ => ?_⟩
      refine ⟨fun _ => ?_, fun q => absurd (ex.symm.trans q) (by decide)⟩
      refine jx_Jsub3 (i1 := 3) (i2 := 2) (i3 := 0) rfl rfl rfl ?_
      exact ih
    · have ex : τ 35 (nI p).toNatClampNeg = 6 := by rw [ecl, hf]; exact hop
      have ih := em_93l hE hf r (p + 1) _ q k ht (by omega) hx
      rw [← e1] at ih
      refine jx_go jk_93 (fun _ _ _ z => z) 60 [4] ?_
      refine ⟨fun q => absurd q hk0, fun _ => ⟨vp, ?_⟩⟩
      refine ⟨fun _ => ?_, fun q => absurd (ex.symm.trans q) (by decide)⟩
      refine ⟨fun q => absurd (ex.symm.trans q) (by decide), fun _ => ?_⟩
      refine ⟨fun q => absurd (ex.symm.trans q) (by decide), fun _ => ?_⟩
      refine ⟨fun q => absurd ex q, fun _ => ?_⟩
      refine ⟨fun q => absurd (ex.symm.trans q) (by decide), fun _ => ?_⟩
      refine ⟨fun q => absurd (ex.symm.trans q) (by decide), fun _ => ?_⟩
      refine ⟨fun _ => ?_, fun q => absurd (ex.symm.trans q) (by decide)⟩
      refine jx_Jsub3 (i1 := 3) (i2 := 2) (i3 := 0) rfl rfl rfl ?_
      exact ih
    · have ex : τ 35 (nI p).toNatClampNeg = 7 := by rw [ecl, hf]; exact hop
      subst hq
      rw [← e1, ← ek] at hx
      refine jx_go jk_93 (fun _ _ _ z => z) 60 [4] ?_
      refine ⟨fun q => absurd q hk0, fun _ => ⟨vp, ?_⟩⟩
      refine ⟨fun _ => ?_, fun q => absurd (ex.symm.trans q) (by decide)⟩
      refine ⟨fun q => absurd (ex.symm.trans q) (by decide), fun _ => ?_⟩
      refine ⟨fun q => absurd (ex.symm.trans q) (by decide), fun _ => ?_⟩
      refine ⟨fun _ => ?_, fun q => absurd (ex.symm.trans q) (by decide)⟩
      refine ⟨fun q => absurd (ex.symm.trans q) (by decide), fun _ => ?_⟩
      refine ⟨fun q => absurd (ex.symm.trans q) (by decide), fun _ => ?_⟩
      refine ⟨fun _ => ?_, fun q => absurd (ex.symm.trans q) (by decide)⟩
      refine jx_Jsub3 (i1 := 3) (i2 := 2) (i3 := 0) rfl rfl rfl ?_
      exact hx
    · have ex : τ 35 (nI p).toNatClampNeg = 8 := by rw [ecl, hf]; exact hop
      subst hq
      rw [← e1, ← ek] at hx
      refine jx_go jk_93 (fun _ _ _ z => z) 60 [4] ?_
      refine ⟨fun q => absurd q hk0, fun _ => ⟨vp, ?_⟩⟩
      refine ⟨fun _ => ?_, fun q => absurd (ex.symm.trans q) (by decide)⟩
      refine ⟨fun q => absurd (ex.symm.trans q) (by decide), fun _ => ?_⟩
      refine ⟨fun q => absurd (ex.symm.trans q) (by decide), fun _ => ?_⟩
      refine ⟨fun _ => ?_, fun q => absurd (ex.symm.trans q) (by decide)⟩
      refine ⟨fun q => absurd (ex.symm.trans q) (by decide), fun _ => ?_⟩
      refine ⟨fun q => absurd (ex.symm.trans q) (by decide), fun _ => ?_⟩
      refine ⟨fun _ => ?_, fun q => absurd (ex.symm.trans q) (by decide)⟩
      refine jx_Jsub3 (i1 := 3) (i2 := 2) (i3 := 0) rfl rfl rfl ?_
      exact hx
theorem em_93 {f g : Nat → Int32} {E r p lam q : Nat} (hE : E ≤ 288) (hf : ∀ j, τ 35 j = f j) (ht : iw_t f g E r p lam q) (hQ : Q (some (.int (nI q))) τ) : jx_C l D cA ρ jx_XM (d + 1) 93 [.ref 34, .int (nI p)] τ Q := by
  have hp : p < E := by
    cases r with
    | zero => exact ht.elim
    | succ r => exact ht.1
  have h := em_93l (l := l) (D := D) (cA := cA) (ρ := ρ) (d := d) (Q := Q) hE hf r p lam q 0 ht (by omega) (by
    refine jx_go jk_93 (fun _ _ _ z => z) 60 [4] ?_
    exact ⟨fun _ => hQ, fun q => absurd (by decide) q⟩)
  refine jx_in jk_93 60 [4] rfl (Nat.le_of_ble_eq_true rfl) ?_
  refine jx_Jsub3 (i1 := 3) (i2 := 2) (i3 := 0) rfl rfl rfl ?_
  exact h
end EM

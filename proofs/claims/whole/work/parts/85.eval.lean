/-! the evaluator: an abstract machine. Values are trees of a kind that is at hand: nest i _ an integer, align b a truth, nil and append a list or a chain, tag n e a function: 3 + n % 3 is its kind (3 lambda, 4 delay, 5 builtin), n / 3 the place or the builtin, e what is around or the arguments (newest first) -/
abbrev ez_V : Type := Std.Format
abbrev ez_S : Type := Nat × Nat × ez_V × ez_V
abbrev ez_F : Type := Nat × Nat × ez_V
abbrev ez_O : Type := (ez_S × List ez_F × Nat) ⊕ (Nat × Nat × ez_V)
def ez_i (x : Int32) : ez_V := .nest x.toInt .nil
def ez_len : ez_V → Nat
  | .append _ t => ez_len t + 1
  | _ => 0
def ez_look : ez_V → Nat → ez_V
  | .append h _, 0 => h
  | .append _ t, k + 1 => ez_look t k
  | _, _ => .nil
def ez_ar (k : Nat) : Nat := if k = 6 then 3 else if 8 ≤ k then 1 else 2
def ez_co (k : Nat) : Nat := if k = 2 ∨ k = 3 then 3 else 1
def ez_oc : ez_V → Nat
  | .align true => 0
  | _ => 1
def ez_tm (f g : Nat → Int32) (p : Nat) (e : ez_V) (K : List ez_F) (s : Nat) : ez_O :=
  if f p = 0 then .inl ((1, 0, ez_look e (f (p + 1)).toNatClampNeg, .nil), K, s)
  else if f p = 1 then .inl ((1, 0, .tag (3 * (p + 1)) e, .nil), K, s)
  else if f p = 2 then .inl ((0, p + 1, e, .nil), (0, (g p).toNatClampNeg, e) :: K, s)
  else if f p = 3 then .inl ((1, 0, ez_i (f (p + 1) - 128), .nil), K, s)
  else if f p = 4 then .inl ((1, 0, .tag (3 * (f (p + 1)).toNatClampNeg + 2) .nil, .nil), K, s)
  else if f p = 5 then .inl ((1, 0, .tag (3 * (p + 1) + 1) e, .nil), K, s)
  else if f p = 6 then .inl ((0, p + 1, e, .nil), (2, 0, .nil) :: K, s)
  else if f p = 7 then .inr (2, s, .nil)
  else .inl ((1, 0, .nil, .nil), K, s)
def ez_vl (k p : Nat) (w v : ez_V) (K : List ez_F) (s : Nat) : ez_O :=
  if k = 0 then .inl ((0, p, w, .nil), (1, 0, v) :: K, s)
  else if k = 1 then .inl ((2, 0, w, v), K, s)
  else if k = 3 then .inl ((2, 0, v, w), K, s)
  else match v with
    | .tag n e => if n % 3 = 1 then .inl ((0, n / 3, e, .nil), K, s) else .inr (2, s, .nil)
    | _ => .inr (2, s, .nil)
def ez_ap (w x : ez_V) (K : List ez_F) (s : Nat) : ez_O := match w with
  | .tag n e => if n % 3 = 0 then .inl ((0, n / 3, .append x e, .nil), K, s)
      else if n % 3 = 2 then (if ez_len e + 1 < ez_ar (n / 3) then .inl ((1, 0, .tag n (.append x e), .nil), K, s) else .inl ((3, n / 3, .append x e, .nil), K, s))
      else .inr (2, s, .nil)
  | _ => .inr (2, s, .nil)
def ez_rk (k : Nat) (x y : Int32) : Option ez_V :=
  if k = 3 ∧ y = 0 then none else if k = 4 then some (.align (decide (x = y))) else if k = 5 then some (.align (decide (x < y)))
  else some (ez_i (if k = 0 then x + y else if k = 1 then x - y else if k = 2 then x * y else x / y))
def ez_isl : ez_V → Bool
  | .nil => true
  | .append _ _ => true
  | _ => false
def ez_isi : ez_V → Bool
  | .nest _ _ => true
  | _ => false
def ez_bt (k : Nat) (a : ez_V) : Option ez_V :=
  if k ≤ 5 then (match ez_look a 1, ez_look a 0 with
    | .nest i _, .nest j _ => ez_rk k (Int32.ofInt i) (Int32.ofInt j)
    | _, _ => none)
  else if k = 6 then (match ez_look a 2 with
    | .align b => some (if b then ez_look a 1 else ez_look a 0)
    | _ => none)
  else if k = 7 then (if (ez_isi (ez_look a 1) || ez_isl (ez_look a 1)) && ez_isl (ez_look a 0) then some (.append (ez_look a 1) (ez_look a 0)) else none)
  else match ez_look a 0 with
    | .nil => if k = 10 then some (.align true) else none
    | .append h t => if k = 10 then some (.align false) else if k = 8 then some h else some t
    | _ => none
def ez_bu (k : Nat) (a : ez_V) (K : List ez_F) (s : Nat) : ez_O := match ez_bt k a with
  | some v => .inl ((1, 0, v, .nil), K, s)
  | none => .inr (2, s, .nil)
def ez_st (f g : Nat → Int32) (B : Nat) (S : ez_S) (K : List ez_F) (s : Nat) : ez_O :=
  if S.1 = 0 then (if B < s + 1 then .inr (3, B, .nil) else ez_tm f g S.2.1 S.2.2.1 K (s + 1))
  else if S.1 = 1 then (match K with
    | [] => .inr (ez_oc S.2.2.1, s, S.2.2.1)
    | F :: K => ez_vl F.1 F.2.1 F.2.2 S.2.2.1 K s)
  else if S.1 = 2 then ez_ap S.2.2.1 S.2.2.2 K s
  else (if B < s + ez_co S.2.1 then .inr (3, B, .nil) else ez_bu S.2.1 S.2.2.1 K (s + ez_co S.2.1))
def ez (f g : Nat → Int32) (B : Nat) : Nat → ez_S → List ez_F → Nat → Nat × Nat × ez_V
  | 0, _, _, s => (3, s, .nil)
  | n + 1, S, K, s => match ez_st f g B S K s with
    | .inl r => ez f g B n r.1 r.2.1 r.2.2
    | .inr r => r
/-! what stays true of the states of the abstract machine -/
def ez_t (f g : Nat → Int32) (s0 E p lam : Nat) : Prop := s0 ≤ p ∧ ∃ r q, iw_t f g E r p lam q
def ez_w (f g : Nat → Int32) (s0 E : Nat) : ez_V → Prop
  | .append h t => ez_w f g s0 E h ∧ ez_w f g s0 E t
  | .tag n e => ez_w f g s0 E e ∧ (n % 3 = 0 → ez_t f g s0 E (n / 3) (ez_len e + 1)) ∧ (n % 3 = 1 → ez_t f g s0 E (n / 3) (ez_len e)) ∧ (n % 3 = 2 → n / 3 ≤ 10 ∧ ez_len e < ez_ar (n / 3))
  | _ => True
def ez_ws (f g : Nat → Int32) (s0 E : Nat) (S : ez_S) : Prop := (S.1 = 0 ∧ ez_t f g s0 E S.2.1 (ez_len S.2.2.1) ∧ ez_w f g s0 E S.2.2.1) ∨ (S.1 = 1 ∧ ez_w f g s0 E S.2.2.1) ∨ (S.1 = 2 ∧ ez_w f g s0 E S.2.2.1 ∧ ez_w f g s0 E S.2.2.2) ∨ (S.1 = 3 ∧ S.2.1 ≤ 10 ∧ ez_len S.2.2.1 = ez_ar S.2.1 ∧ ez_w f g s0 E S.2.2.1)
def ez_wk (f g : Nat → Int32) (s0 E : Nat) : List ez_F → Prop
  | [] => True
  | F :: t => F.1 ≤ 3 ∧ (F.1 = 0 → ez_t f g s0 E F.2.1 (ez_len F.2.2)) ∧ ez_w f g s0 E F.2.2 ∧ ez_wk f g s0 E t
section EZ
variable {f g : Nat → Int32} {s0 E B : Nat}
theorem ez_wl : ∀ (v : ez_V) (k : Nat), ez_w f g s0 E v → ez_w f g s0 E (ez_look v k) := by
  intro v
  induction v with
  | append h t ih1 ih2 =>
    intro k hw
    cases k with
    | zero => exact hw.1
    | succ k => exact ih2 k hw.2
  | _ => intro k _; cases k <;> trivial
theorem ez_st0 {p : Nat} {e x : ez_V} {K : List ez_F} {s : Nat} : ez_st f g B (0, p, e, x) K s = if B < s + 1 then .inr (3, B, .nil) else ez_tm f g p e K (s + 1) := rfl
theorem ez_st1n {p : Nat} {v x : ez_V} {s : Nat} : ez_st f g B (1, p, v, x) [] s = .inr (ez_oc v, s, v) := rfl
theorem ez_st1 {p : Nat} {v x : ez_V} {F : ez_F} {K : List ez_F} {s : Nat} : ez_st f g B (1, p, v, x) (F :: K) s = ez_vl F.1 F.2.1 F.2.2 v K s := rfl
theorem ez_st2 {p : Nat} {w x : ez_V} {K : List ez_F} {s : Nat} : ez_st f g B (2, p, w, x) K s = ez_ap w x K s := rfl
theorem ez_st3 {k : Nat} {a x : ez_V} {K : List ez_F} {s : Nat} : ez_st f g B (3, k, a, x) K s = if B < s + ez_co k then .inr (3, B, .nil) else ez_bu k a K (s + ez_co k) := rfl
/-- what is left of a step -/
def ez_wo (f g : Nat → Int32) (s0 E : Nat) : ez_O → Prop
  | .inl r => ez_ws f g s0 E r.1 ∧ ez_wk f g s0 E r.2.1
  | .inr _ => True
theorem ez_wtm {p : Nat} {e : ez_V} {K : List ez_F} {s : Nat} (ht : ez_t f g s0 E p (ez_len e)) (hE : E ≤ 288) (hb : ∀ j, s0 ≤ j → j < E → ∃ b : Nat, b < 256 ∧ f j = nI b) (he : ez_w f g s0 E e) (hK : ez_wk f g s0 E K) : ez_wo f g s0 E (ez_tm f g p e K s) := by
  obtain ⟨h0, r, q, ht⟩ := ht
  have hlt := iw_le ht
  cases r with
  | zero => exact ht.elim
  | succ r =>
    obtain ⟨hp, h | h | h | h | h | h | h⟩ := ht
    · unfold ez_tm; rw [if_pos h.1]; exact ⟨Or.inr (Or.inl ⟨rfl, ez_wl _ _ he⟩), hK⟩
    · unfold ez_tm; rw [h.1]
      refine ⟨Or.inr (Or.inl ⟨rfl, he, fun _ => ?_, fun z => absurd z (by omega), fun z => absurd z (by omega)⟩), hK⟩
      rw [Nat.mul_div_cancel_left _ (by decide)]
      exact ⟨by omega, r, q, h.2⟩
    · obtain ⟨h1, q1, h2, h3, h4⟩ := h
      unfold ez_tm; rw [h1]
      have := iw_le h2
      have l3 : q1 < E := by
        cases r with
        | zero => exact h3.elim
        | succ r => exact h3.1
      have e1 : (g p).toNatClampNeg = q1 := by rw [h4]; exact nI_clamp (by omega)
      refine ⟨Or.inl ⟨rfl, ⟨by show s0 ≤ p + 1; omega, r, q1, h2⟩, he⟩, by show 0 ≤ 3; decide, fun _ => ?_, he, hK⟩
      rw [e1]
      exact ⟨by show s0 ≤ q1; omega, r, q, h3⟩
    · unfold ez_tm; rw [h.1]; exact ⟨Or.inr (Or.inl ⟨rfl, trivial⟩), hK⟩
    · unfold ez_tm; rw [h.1]
      obtain ⟨b, b1, b2⟩ := hb (p + 1) (by omega) h.2.1
      have h10 := h.2.2.1
      rw [b2] at h10
      have h11 : b ≤ 10 := by
        apply Nat.not_lt.mp
        intro z
        exact absurd h10 (nI_ge (a := 10) z (by omega))
      have e1 : (f (p + 1)).toNatClampNeg = b := by rw [b2]; exact nI_clamp (by omega)
      refine ⟨Or.inr (Or.inl ⟨rfl, trivial, fun z => absurd z (by omega), fun z => absurd z (by omega), fun _ => ?_⟩), hK⟩
      rw [e1, show (3 * b + 2) / 3 = b by omega]
      refine ⟨h11, ?_⟩
      show 0 < ez_ar b
      unfold ez_ar
      split <;> (try split) <;> decide
    · rcases h with ⟨h1 | h1, h2⟩
      · unfold ez_tm; rw [h1]
        refine ⟨Or.inr (Or.inl ⟨rfl, he, fun z => absurd z (by omega), fun _ => ?_, fun z => absurd z (by omega)⟩), hK⟩
        rw [show (3 * (p + 1) + 1) / 3 = p + 1 by omega]
        exact ⟨by omega, r, q, h2⟩
      · unfold ez_tm; rw [h1]
        exact ⟨Or.inl ⟨rfl, ⟨by show s0 ≤ p + 1; omega, r, q, h2⟩, he⟩, by show 2 ≤ 3; decide, fun z => absurd z (by show ¬ 2 = 0; decide), trivial, hK⟩
    · rcases h with ⟨h1 | h1, h2⟩
      · unfold ez_tm; rw [h1]; trivial
      · unfold ez_tm; rw [h1]; exact ⟨Or.inr (Or.inl ⟨rfl, trivial⟩), hK⟩
theorem ez_wvl {F : ez_F} {v : ez_V} {K : List ez_F} {s : Nat} (hF : ez_wk f g s0 E (F :: K)) (hv : ez_w f g s0 E v) : ez_wo f g s0 E (ez_vl F.1 F.2.1 F.2.2 v K s) := by
  obtain ⟨h1, h2, h3, h4⟩ := hF
  unfold ez_vl
  by_cases c0 : F.1 = 0
  · rw [if_pos c0]; exact ⟨Or.inl ⟨rfl, h2 c0, h3⟩, by show 1 ≤ 3; decide, fun z => absurd z (by show ¬ 1 = 0; decide), hv, h4⟩
  rw [if_neg c0]
  by_cases c1 : F.1 = 1
  · rw [if_pos c1]; exact ⟨Or.inr (Or.inr (Or.inl ⟨rfl, h3, hv⟩)), h4⟩
  rw [if_neg c1]
  by_cases c3 : F.1 = 3
  · rw [if_pos c3]; exact ⟨Or.inr (Or.inr (Or.inl ⟨rfl, hv, h3⟩)), h4⟩
  rw [if_neg c3]
  cases v with
  | tag n e =>
    by_cases c : n % 3 = 1
    · simp only [if_pos c]
      exact ⟨Or.inl ⟨rfl, hv.2.2.1 c, hv.1⟩, h4⟩
    · simp only [if_neg c]
      trivial
  | _ => trivial
theorem ez_wap {w x : ez_V} {K : List ez_F} {s : Nat} (hw : ez_w f g s0 E w) (hx : ez_w f g s0 E x) (hK : ez_wk f g s0 E K) : ez_wo f g s0 E (ez_ap w x K s) := by
  cases w with
  | tag n e =>
    unfold ez_ap
    by_cases c0 : n % 3 = 0
    · simp only [if_pos c0]
      exact ⟨Or.inl ⟨rfl, hw.2.1 c0, hx, hw.1⟩, hK⟩
    · simp only [if_neg c0]
      by_cases c2 : n % 3 = 2
      · simp only [if_pos c2]
        have h2 := hw.2.2.2 c2
        by_cases c : ez_len e + 1 < ez_ar (n / 3)
        · simp only [if_pos c]
          exact ⟨Or.inr (Or.inl ⟨rfl, ⟨hx, hw.1⟩, fun z => absurd z c0, fun z => absurd z (by omega), fun _ => ⟨h2.1, c⟩⟩), hK⟩
        · simp only [if_neg c]
          exact ⟨Or.inr (Or.inr (Or.inr ⟨rfl, h2.1, by show ez_len e + 1 = ez_ar (n / 3); omega, hx, hw.1⟩)), hK⟩
      · simp only [if_neg c2]; trivial
  | _ => trivial
theorem ez_wbu {k : Nat} {a : ez_V} {K : List ez_F} {s : Nat} (ha : ez_w f g s0 E a) (hK : ez_wk f g s0 E K) : ez_wo f g s0 E (ez_bu k a K s) := by
  have hl := fun j => ez_wl a j ha
  have hv : ∀ v, ez_bt k a = some v → ez_w f g s0 E v := by
    intro v hv
    unfold ez_bt at hv
    split at hv
    · split at hv
      · unfold ez_rk at hv
        split at hv
        · cases hv
        · split at hv
          · cases hv; trivial
          · split at hv
            · cases hv; trivial
            · cases hv; trivial
      · cases hv
    · split at hv
      · split at hv
        · cases hv
          split
          · exact hl 1
          · exact hl 0
        · cases hv
      · split at hv
        · split at hv
          · cases hv; exact ⟨hl 1, hl 0⟩
          · cases hv
        · split at hv
          · split at hv
            · cases hv; trivial
            · cases hv
          · rename_i h t hh
            have h0 := hl 0
            rw [hh] at h0
            split at hv
            · cases hv; trivial
            · split at hv
              · cases hv; exact h0.1
              · cases hv; exact h0.2
          · cases hv
  unfold ez_bu
  cases hb : ez_bt k a with
  | none => trivial
  | some v => exact ⟨Or.inr (Or.inl ⟨rfl, hv v hb⟩), hK⟩
theorem ez_wst {S : ez_S} {K : List ez_F} {s : Nat} (hE : E ≤ 288) (hb : ∀ j, s0 ≤ j → j < E → ∃ b : Nat, b < 256 ∧ f j = nI b) (hS : ez_ws f g s0 E S) (hK : ez_wk f g s0 E K) : ez_wo f g s0 E (ez_st f g B S K s) := by
  obtain ⟨m, p, a, x⟩ := S
  rcases hS with ⟨h, h1, h2⟩ | ⟨h, h1⟩ | ⟨h, h1, h2⟩ | ⟨h, h1, h2, h3⟩
  · have h : m = 0 := h
    subst h
    rw [ez_st0]
    by_cases c : B < s + 1
    · rw [if_pos c]; trivial
    · rw [if_neg c]; exact ez_wtm h1 hE hb h2 hK
  · have h : m = 1 := h
    subst h
    cases K with
    | nil => trivial
    | cons F K => rw [ez_st1]; exact ez_wvl hK h1
  · have h : m = 2 := h
    subst h
    rw [ez_st2]
    exact ez_wap h1 h2 hK
  · have h : m = 3 := h
    subst h
    rw [ez_st3]
    by_cases c : B < s + ez_co p
    · rw [if_pos c]; trivial
    · rw [if_neg c]; exact ez_wbu h3 hK
end EZ

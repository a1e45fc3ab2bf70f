theorem jl_u3 {f f' : Nat → Int32} {k j : Nat} {a b c : Int32} (h : j < k → f j = f' j) (hj : j < k + 3) : upd (upd (upd f k a) (k + 1) b) (k + 2) c j = upd (upd (upd f' k a) (k + 1) b) (k + 2) c j := by
  by_cases h2 : j = k + 2
  · subst h2; rw [pk_us, pk_us]
  · rw [pk_un h2, pk_un h2]
    by_cases h1 : j = k + 1
    · subst h1; rw [pk_us, pk_us]
    · rw [pk_un h1, pk_un h1]
      by_cases h0 : j = k
      · subst h0; rw [pk_us, pk_us]
      · rw [pk_un h0, pk_un h0]
        exact h (by omega)
theorem jl_u3n {f : Nat → Int32} {k j : Nat} {a b c : Int32} {P : Int32 → Prop} (h : j < k → P (f j)) (ha : P a) (hb : P b) (hc : P c) (hj : j < k + 3) : P (upd (upd (upd f k a) (k + 1) b) (k + 2) c j) := by
  by_cases h2 : j = k + 2
  · subst h2; rw [pk_us]; exact hc
  · rw [pk_un h2]
    by_cases h1 : j = k + 1
    · subst h1; rw [pk_us]; exact hb
    · rw [pk_un h1]
      by_cases h0 : j = k
      · subst h0; rw [pk_us]; exact ha
      · rw [pk_un h0]
        exact h (by omega)
set_option maxHeartbeats 8000000 in
theorem jv_give {l : Launch} {D : va_G} {cA : ClassId} {ρ : Nat → Nat} {d : Nat} : jq_give l D cA ρ (d + 3) iv_V iv_V := by
  intro σ hI a1 a2 a3 a4 a5
  obtain ⟨iD, iS, iR, iI, ⟨g, hg, e1, e2, hin⟩, iM, iT, iL⟩ := id hI
  by_cases hg3 : g = 3
  · subst hg3
    have xg : Int32.ofNat 3 < σ 26 3 + 1 := by rw [e1]; decide
    have mg : σ 34 36 = 3 := e2
    refine ⟨0, fun σ1 => σ1 = σ, fun Q hQ => ji_7 ?_, fun σ1 hT Q hQ => ?_⟩
    · skip
      repeat first
        | refine ⟨Or.inr rfl, ?_⟩
        | refine ⟨Or.inl rfl, ?_⟩
        | refine ⟨fun q => absurd q xg, fun _ => ?_⟩
        | refine ⟨fun _ => ?_, fun q => absurd xg q⟩
        | refine ⟨fun q => absurd xg q, fun _ => ?_⟩
        | refine ⟨fun _ => ?_, fun q => absurd q xg⟩
        | refine ⟨fun q => absurd q (of_decide_eq_true rfl), fun _ => ?_⟩
        | refine ⟨fun _ => ?_, fun q => absurd q (of_decide_eq_true rfl)⟩
        | refine ⟨jx_vin rfl, ?_⟩
        | refine ji_77 ?_
        | refine ji_78 ?_
        | refine ji_19 ?_
        | refine ji_89 ?_
      exact hQ _ rfl
    · subst hT
      refine ji_113 ?_
      repeat first
        | refine ⟨Or.inr rfl, ?_⟩
        | refine ⟨Or.inl rfl, ?_⟩
        | refine ⟨fun q => absurd q mg, fun _ => ?_⟩
        | refine ⟨fun _ => ?_, fun q => absurd mg q⟩
        | refine ⟨fun q => absurd mg q, fun _ => ?_⟩
        | refine ⟨fun _ => ?_, fun q => absurd q mg⟩
        | refine ⟨fun q => absurd q (of_decide_eq_true rfl), fun _ => ?_⟩
        | refine ⟨fun _ => ?_, fun q => absurd q (of_decide_eq_true rfl)⟩
        | refine ⟨jx_vin rfl, ?_⟩
        | refine ji_77 ?_
        | refine ji_78 ?_
        | refine ji_19 ?_
        | refine ji_89 ?_
      refine hQ _ ?_
      exact hI

  have xg : ¬ Int32.ofNat 3 < σ 26 3 + 1 := by rw [e1, nI_1]; exact nI_nlt (a := 3) (by omega) (by decide)
  have mg : ¬ σ 34 36 = 3 := by rw [e2]; exact fun q => hg3 ((nI_eq (b := 3) (by omega) (by decide)).mp q)
  by_cases la1 : a1 < 0
  · skip
    refine ⟨0, fun σ1 => σ1 = σ, fun Q hQ => ji_7 ?_, fun σ1 hT Q hQ => ?_⟩
    · skip
      repeat first
        | refine ⟨Or.inr rfl, ?_⟩
        | refine ⟨Or.inl rfl, ?_⟩
        | refine ⟨fun q => absurd q xg, fun _ => ?_⟩
        | refine ⟨fun _ => ?_, fun q => absurd xg q⟩
        | refine ⟨fun q => absurd xg q, fun _ => ?_⟩
        | refine ⟨fun _ => ?_, fun q => absurd q xg⟩
        | refine ⟨fun q => absurd q mg, fun _ => ?_⟩
        | refine ⟨fun _ => ?_, fun q => absurd mg q⟩
        | refine ⟨fun q => absurd mg q, fun _ => ?_⟩
        | refine ⟨fun _ => ?_, fun q => absurd q mg⟩
        | refine ⟨fun q => absurd q la1, fun _ => ?_⟩
        | refine ⟨fun _ => ?_, fun q => absurd la1 q⟩
        | refine ⟨fun q => absurd la1 q, fun _ => ?_⟩
        | refine ⟨fun _ => ?_, fun q => absurd q la1⟩
        | refine ⟨fun q => absurd q (of_decide_eq_true rfl), fun _ => ?_⟩
        | refine ⟨fun _ => ?_, fun q => absurd q (of_decide_eq_true rfl)⟩
        | refine ⟨jx_vin rfl, ?_⟩
        | refine ji_77 ?_
        | refine ji_78 ?_
        | refine ji_19 ?_
        | refine ji_89 ?_
      exact hQ _ rfl
    · subst hT
      refine ji_113 ?_
      repeat first
        | refine ⟨Or.inr rfl, ?_⟩
        | refine ⟨Or.inl rfl, ?_⟩
        | refine ⟨fun q => absurd q xg, fun _ => ?_⟩
        | refine ⟨fun _ => ?_, fun q => absurd xg q⟩
        | refine ⟨fun q => absurd xg q, fun _ => ?_⟩
        | refine ⟨fun _ => ?_, fun q => absurd q xg⟩
        | refine ⟨fun q => absurd q mg, fun _ => ?_⟩
        | refine ⟨fun _ => ?_, fun q => absurd mg q⟩
        | refine ⟨fun q => absurd mg q, fun _ => ?_⟩
        | refine ⟨fun _ => ?_, fun q => absurd q mg⟩
        | refine ⟨fun q => absurd q la1, fun _ => ?_⟩
        | refine ⟨fun _ => ?_, fun q => absurd la1 q⟩
        | refine ⟨fun q => absurd la1 q, fun _ => ?_⟩
        | refine ⟨fun _ => ?_, fun q => absurd q la1⟩
        | refine ⟨fun q => absurd q (of_decide_eq_true rfl), fun _ => ?_⟩
        | refine ⟨fun _ => ?_, fun q => absurd q (of_decide_eq_true rfl)⟩
        | refine ⟨jx_vin rfl, ?_⟩
        | refine ji_77 ?_
        | refine ji_78 ?_
        | refine ji_19 ?_
        | refine ji_89 ?_
      refine hQ _ ?_
      exact hI
  by_cases ga1 : 9 < a1
  · have ga11 : ¬ a1 < 10 := jl_nlt1 (n := 9) (by decide) ga1
    refine ⟨0, fun σ1 => σ1 = σ, fun Q hQ => ji_7 ?_, fun σ1 hT Q hQ => ?_⟩
    · skip
      repeat first
        | refine ⟨Or.inr rfl, ?_⟩
        | refine ⟨Or.inl rfl, ?_⟩
        | refine ⟨fun q => absurd q xg, fun _ => ?_⟩
        | refine ⟨fun _ => ?_, fun q => absurd xg q⟩
        | refine ⟨fun q => absurd xg q, fun _ => ?_⟩
        | refine ⟨fun _ => ?_, fun q => absurd q xg⟩
        | refine ⟨fun q => absurd q mg, fun _ => ?_⟩
        | refine ⟨fun _ => ?_, fun q => absurd mg q⟩
        | refine ⟨fun q => absurd mg q, fun _ => ?_⟩
        | refine ⟨fun _ => ?_, fun q => absurd q mg⟩
        | refine ⟨fun q => absurd q la1, fun _ => ?_⟩
        | refine ⟨fun _ => ?_, fun q => absurd la1 q⟩
        | refine ⟨fun q => absurd la1 q, fun _ => ?_⟩
        | refine ⟨fun _ => ?_, fun q => absurd q la1⟩
        | refine ⟨fun q => absurd q ga1, fun _ => ?_⟩
        | refine ⟨fun _ => ?_, fun q => absurd ga1 q⟩
        | refine ⟨fun q => absurd ga1 q, fun _ => ?_⟩
        | refine ⟨fun _ => ?_, fun q => absurd q ga1⟩
        | refine ⟨fun q => absurd q ga11, fun _ => ?_⟩
        | refine ⟨fun _ => ?_, fun q => absurd ga11 q⟩
        | refine ⟨fun q => absurd ga11 q, fun _ => ?_⟩
        | refine ⟨fun _ => ?_, fun q => absurd q ga11⟩
        | refine ⟨fun q => absurd q (of_decide_eq_true rfl), fun _ => ?_⟩
        | refine ⟨fun _ => ?_, fun q => absurd q (of_decide_eq_true rfl)⟩
        | refine ⟨jx_vin rfl, ?_⟩
        | refine ji_77 ?_
        | refine ji_78 ?_
        | refine ji_19 ?_
        | refine ji_89 ?_
      exact hQ _ rfl
    · subst hT
      refine ji_113 ?_
      repeat first
        | refine ⟨Or.inr rfl, ?_⟩
        | refine ⟨Or.inl rfl, ?_⟩
        | refine ⟨fun q => absurd q xg, fun _ => ?_⟩
        | refine ⟨fun _ => ?_, fun q => absurd xg q⟩
        | refine ⟨fun q => absurd xg q, fun _ => ?_⟩
        | refine ⟨fun _ => ?_, fun q => absurd q xg⟩
        | refine ⟨fun q => absurd q mg, fun _ => ?_⟩
        | refine ⟨fun _ => ?_, fun q => absurd mg q⟩
        | refine ⟨fun q => absurd mg q, fun _ => ?_⟩
        | refine ⟨fun _ => ?_, fun q => absurd q mg⟩
        | refine ⟨fun q => absurd q la1, fun _ => ?_⟩
        | refine ⟨fun _ => ?_, fun q => absurd la1 q⟩
        | refine ⟨fun q => absurd la1 q, fun _ => ?_⟩
        | refine ⟨fun _ => ?_, fun q => absurd q la1⟩
        | refine ⟨fun q => absurd q ga1, fun _ => ?_⟩
        | refine ⟨fun _ => ?_, fun q => absurd ga1 q⟩
        | refine ⟨fun q => absurd ga1 q, fun _ => ?_⟩
        | refine ⟨fun _ => ?_, fun q => absurd q ga1⟩
        | refine ⟨fun q => absurd q ga11, fun _ => ?_⟩
        | refine ⟨fun _ => ?_, fun q => absurd ga11 q⟩
        | refine ⟨fun q => absurd ga11 q, fun _ => ?_⟩
        | refine ⟨fun _ => ?_, fun q => absurd q ga11⟩
        | refine ⟨fun q => absurd q (of_decide_eq_true rfl), fun _ => ?_⟩
        | refine ⟨fun _ => ?_, fun q => absurd q (of_decide_eq_true rfl)⟩
        | refine ⟨jx_vin rfl, ?_⟩
        | refine ji_77 ?_
        | refine ji_78 ?_
        | refine ji_19 ?_
        | refine ji_89 ?_
      refine hQ _ ?_
      exact hI
  have ga11 : a1 < 10 := jl_lt1 (n := 9) (by decide) ga1

  by_cases la3 : a3 < 0
  · skip
    refine ⟨0, fun σ1 => σ1 = σ, fun Q hQ => ji_7 ?_, fun σ1 hT Q hQ => ?_⟩
    · skip
      repeat first
        | refine ⟨Or.inr rfl, ?_⟩
        | refine ⟨Or.inl rfl, ?_⟩
        | refine ⟨fun q => absurd q xg, fun _ => ?_⟩
        | refine ⟨fun _ => ?_, fun q => absurd xg q⟩
        | refine ⟨fun q => absurd xg q, fun _ => ?_⟩
        | refine ⟨fun _ => ?_, fun q => absurd q xg⟩
        | refine ⟨fun q => absurd q mg, fun _ => ?_⟩
        | refine ⟨fun _ => ?_, fun q => absurd mg q⟩
        | refine ⟨fun q => absurd mg q, fun _ => ?_⟩
        | refine ⟨fun _ => ?_, fun q => absurd q mg⟩
        | refine ⟨fun q => absurd q la1, fun _ => ?_⟩
        | refine ⟨fun _ => ?_, fun q => absurd la1 q⟩
        | refine ⟨fun q => absurd la1 q, fun _ => ?_⟩
        | refine ⟨fun _ => ?_, fun q => absurd q la1⟩
        | refine ⟨fun q => absurd q ga1, fun _ => ?_⟩
        | refine ⟨fun _ => ?_, fun q => absurd ga1 q⟩
        | refine ⟨fun q => absurd ga1 q, fun _ => ?_⟩
        | refine ⟨fun _ => ?_, fun q => absurd q ga1⟩
        | refine ⟨fun q => absurd q ga11, fun _ => ?_⟩
        | refine ⟨fun _ => ?_, fun q => absurd ga11 q⟩
        | refine ⟨fun q => absurd ga11 q, fun _ => ?_⟩
        | refine ⟨fun _ => ?_, fun q => absurd q ga11⟩
        | refine ⟨fun q => absurd q la3, fun _ => ?_⟩
        | refine ⟨fun _ => ?_, fun q => absurd la3 q⟩
        | refine ⟨fun q => absurd la3 q, fun _ => ?_⟩
        | refine ⟨fun _ => ?_, fun q => absurd q la3⟩
        | refine ⟨fun q => absurd q (of_decide_eq_true rfl), fun _ => ?_⟩
        | refine ⟨fun _ => ?_, fun q => absurd q (of_decide_eq_true rfl)⟩
        | refine ⟨jx_vin rfl, ?_⟩
        | refine ji_77 ?_
        | refine ji_78 ?_
        | refine ji_19 ?_
        | refine ji_89 ?_
      exact hQ _ rfl
    · subst hT
      refine ji_113 ?_
      repeat first
        | refine ⟨Or.inr rfl, ?_⟩
        | refine ⟨Or.inl rfl, ?_⟩
        | refine ⟨fun q => absurd q xg, fun _ => ?_⟩
        | refine ⟨fun _ => ?_, fun q => absurd xg q⟩
        | refine ⟨fun q => absurd xg q, fun _ => ?_⟩
        | refine ⟨fun _ => ?_, fun q => absurd q xg⟩
        | refine ⟨fun q => absurd q mg, fun _ => ?_⟩
        | refine ⟨fun _ => ?_, fun q => absurd mg q⟩
        | refine ⟨fun q => absurd mg q, fun _ => ?_⟩
        | refine ⟨fun _ => ?_, fun q => absurd q mg⟩
        | refine ⟨fun q => absurd q la1, fun _ => ?_⟩
        | refine ⟨fun _ => ?_, fun q => absurd la1 q⟩
        | refine ⟨fun q => absurd la1 q, fun _ => ?_⟩
        | refine ⟨fun _ => ?_, fun q => absurd q la1⟩
        | refine ⟨fun q => absurd q ga1, fun _ => ?_⟩
        | refine ⟨fun _ => ?_, fun q => absurd ga1 q⟩
        | refine ⟨fun q => absurd ga1 q, fun _ => ?_⟩
        | refine ⟨fun _ => ?_, fun q => absurd q ga1⟩
        | refine ⟨fun q => absurd q ga11, fun _ => ?_⟩
        | refine ⟨fun _ => ?_, fun q => absurd ga11 q⟩
        | refine ⟨fun q => absurd ga11 q, fun _ => ?_⟩
        | refine ⟨fun _ => ?_, fun q => absurd q ga11⟩
        | refine ⟨fun q => absurd q la3, fun _ => ?_⟩
        | refine ⟨fun _ => ?_, fun q => absurd la3 q⟩
        | refine ⟨fun q => absurd la3 q, fun _ => ?_⟩
        | refine ⟨fun _ => ?_, fun q => absurd q la3⟩
        | refine ⟨fun q => absurd q (of_decide_eq_true rfl), fun _ => ?_⟩
        | refine ⟨fun _ => ?_, fun q => absurd q (of_decide_eq_true rfl)⟩
        | refine ⟨jx_vin rfl, ?_⟩
        | refine ji_77 ?_
        | refine ji_78 ?_
        | refine ji_19 ?_
        | refine ji_89 ?_
      refine hQ _ ?_
      exact hI
  by_cases ga3 : 1000000 < a3
  · have ga31 : ¬ a3 < 1000001 := jl_nlt1 (n := 1000000) (by decide) ga3
    refine ⟨0, fun σ1 => σ1 = σ, fun Q hQ => ji_7 ?_, fun σ1 hT Q hQ => ?_⟩
    · skip
      repeat first
        | refine ⟨Or.inr rfl, ?_⟩
        | refine ⟨Or.inl rfl, ?_⟩
        | refine ⟨fun q => absurd q xg, fun _ => ?_⟩
        | refine ⟨fun _ => ?_, fun q => absurd xg q⟩
        | refine ⟨fun q => absurd xg q, fun _ => ?_⟩
        | refine ⟨fun _ => ?_, fun q => absurd q xg⟩
        | refine ⟨fun q => absurd q mg, fun _ => ?_⟩
        | refine ⟨fun _ => ?_, fun q => absurd mg q⟩
        | refine ⟨fun q => absurd mg q, fun _ => ?_⟩
        | refine ⟨fun _ => ?_, fun q => absurd q mg⟩
        | refine ⟨fun q => absurd q la1, fun _ => ?_⟩
        | refine ⟨fun _ => ?_, fun q => absurd la1 q⟩
        | refine ⟨fun q => absurd la1 q, fun _ => ?_⟩
        | refine ⟨fun _ => ?_, fun q => absurd q la1⟩
        | refine ⟨fun q => absurd q ga1, fun _ => ?_⟩
        | refine ⟨fun _ => ?_, fun q => absurd ga1 q⟩
        | refine ⟨fun q => absurd ga1 q, fun _ => ?_⟩
        | refine ⟨fun _ => ?_, fun q => absurd q ga1⟩
        | refine ⟨fun q => absurd q ga11, fun _ => ?_⟩
        | refine ⟨fun _ => ?_, fun q => absurd ga11 q⟩
        | refine ⟨fun q => absurd ga11 q, fun _ => ?_⟩
        | refine ⟨fun _ => ?_, fun q => absurd q ga11⟩
        | refine ⟨fun q => absurd q la3, fun _ => ?_⟩
        | refine ⟨fun _ => ?_, fun q => absurd la3 q⟩
        | refine ⟨fun q => absurd la3 q, fun _ => ?_⟩
        | refine ⟨fun _ => ?_, fun q => absurd q la3⟩
        | refine ⟨fun q => absurd q ga3, fun _ => ?_⟩
        | refine ⟨fun _ => ?_, fun q => absurd ga3 q⟩
        | refine ⟨fun q => absurd ga3 q, fun _ => ?_⟩
        | refine ⟨fun _ => ?_, fun q => absurd q ga3⟩
        | refine ⟨fun q => absurd q ga31, fun _ => ?_⟩
        | refine ⟨fun _ => ?_, fun q => absurd ga31 q⟩
        | refine ⟨fun q => absurd ga31 q, fun _ => ?_⟩
        | refine ⟨fun _ => ?_, fun q => absurd q ga31⟩
        | refine ⟨fun q => absurd q (of_decide_eq_true rfl), fun _ => ?_⟩
        | refine ⟨fun _ => ?_, fun q => absurd q (of_decide_eq_true rfl)⟩
        | refine ⟨jx_vin rfl, ?_⟩
        | refine ji_77 ?_
        | refine ji_78 ?_
        | refine ji_19 ?_
        | refine ji_89 ?_
      exact hQ _ rfl
    · subst hT
      refine ji_113 ?_
      repeat first
        | refine ⟨Or.inr rfl, ?_⟩
        | refine ⟨Or.inl rfl, ?_⟩
        | refine ⟨fun q => absurd q xg, fun _ => ?_⟩
        | refine ⟨fun _ => ?_, fun q => absurd xg q⟩
        | refine ⟨fun q => absurd xg q, fun _ => ?_⟩
        | refine ⟨fun _ => ?_, fun q => absurd q xg⟩
        | refine ⟨fun q => absurd q mg, fun _ => ?_⟩
        | refine ⟨fun _ => ?_, fun q => absurd mg q⟩
        | refine ⟨fun q => absurd mg q, fun _ => ?_⟩
        | refine ⟨fun _ => ?_, fun q => absurd q mg⟩
        | refine ⟨fun q => absurd q la1, fun _ => ?_⟩
        | refine ⟨fun _ => ?_, fun q => absurd la1 q⟩
        | refine ⟨fun q => absurd la1 q, fun _ => ?_⟩
        | refine ⟨fun _ => ?_, fun q => absurd q la1⟩
        | refine ⟨fun q => absurd q ga1, fun _ => ?_⟩
        | refine ⟨fun _ => ?_, fun q => absurd ga1 q⟩
        | refine ⟨fun q => absurd ga1 q, fun _ => ?_⟩
        | refine ⟨fun _ => ?_, fun q => absurd q ga1⟩
        | refine ⟨fun q => absurd q ga11, fun _ => ?_⟩
        | refine ⟨fun _ => ?_, fun q => absurd ga11 q⟩
        | refine ⟨fun q => absurd ga11 q, fun _ => ?_⟩
        | refine ⟨fun _ => ?_, fun q => absurd q ga11⟩
        | refine ⟨fun q => absurd q la3, fun _ => ?_⟩
        | refine ⟨fun _ => ?_, fun q => absurd la3 q⟩
        | refine ⟨fun q => absurd la3 q, fun _ => ?_⟩
        | refine ⟨fun _ => ?_, fun q => absurd q la3⟩
        | refine ⟨fun q => absurd q ga3, fun _ => ?_⟩
        | refine ⟨fun _ => ?_, fun q => absurd ga3 q⟩
        | refine ⟨fun q => absurd ga3 q, fun _ => ?_⟩
        | refine ⟨fun _ => ?_, fun q => absurd q ga3⟩
        | refine ⟨fun q => absurd q ga31, fun _ => ?_⟩
        | refine ⟨fun _ => ?_, fun q => absurd ga31 q⟩
        | refine ⟨fun q => absurd ga31 q, fun _ => ?_⟩
        | refine ⟨fun _ => ?_, fun q => absurd q ga31⟩
        | refine ⟨fun q => absurd q (of_decide_eq_true rfl), fun _ => ?_⟩
        | refine ⟨fun _ => ?_, fun q => absurd q (of_decide_eq_true rfl)⟩
        | refine ⟨jx_vin rfl, ?_⟩
        | refine ji_77 ?_
        | refine ji_78 ?_
        | refine ji_19 ?_
        | refine ji_89 ?_
      refine hQ _ ?_
      exact hI
  have ga31 : a3 < 1000001 := jl_lt1 (n := 1000000) (by decide) ga3

  by_cases la4 : a4 < 0
  · skip
    refine ⟨0, fun σ1 => σ1 = σ, fun Q hQ => ji_7 ?_, fun σ1 hT Q hQ => ?_⟩
    · skip
      repeat first
        | refine ⟨Or.inr rfl, ?_⟩
        | refine ⟨Or.inl rfl, ?_⟩
        | refine ⟨fun q => absurd q xg, fun _ => ?_⟩
        | refine ⟨fun _ => ?_, fun q => absurd xg q⟩
        | refine ⟨fun q => absurd xg q, fun _ => ?_⟩
        | refine ⟨fun _ => ?_, fun q => absurd q xg⟩
        | refine ⟨fun q => absurd q mg, fun _ => ?_⟩
        | refine ⟨fun _ => ?_, fun q => absurd mg q⟩
        | refine ⟨fun q => absurd mg q, fun _ => ?_⟩
        | refine ⟨fun _ => ?_, fun q => absurd q mg⟩
        | refine ⟨fun q => absurd q la1, fun _ => ?_⟩
        | refine ⟨fun _ => ?_, fun q => absurd la1 q⟩
        | refine ⟨fun q => absurd la1 q, fun _ => ?_⟩
        | refine ⟨fun _ => ?_, fun q => absurd q la1⟩
        | refine ⟨fun q => absurd q ga1, fun _ => ?_⟩
        | refine ⟨fun _ => ?_, fun q => absurd ga1 q⟩
        | refine ⟨fun q => absurd ga1 q, fun _ => ?_⟩
        | refine ⟨fun _ => ?_, fun q => absurd q ga1⟩
        | refine ⟨fun q => absurd q ga11, fun _ => ?_⟩
        | refine ⟨fun _ => ?_, fun q => absurd ga11 q⟩
        | refine ⟨fun q => absurd ga11 q, fun _ => ?_⟩
        | refine ⟨fun _ => ?_, fun q => absurd q ga11⟩
        | refine ⟨fun q => absurd q la3, fun _ => ?_⟩
        | refine ⟨fun _ => ?_, fun q => absurd la3 q⟩
        | refine ⟨fun q => absurd la3 q, fun _ => ?_⟩
        | refine ⟨fun _ => ?_, fun q => absurd q la3⟩
        | refine ⟨fun q => absurd q ga3, fun _ => ?_⟩
        | refine ⟨fun _ => ?_, fun q => absurd ga3 q⟩
        | refine ⟨fun q => absurd ga3 q, fun _ => ?_⟩
        | refine ⟨fun _ => ?_, fun q => absurd q ga3⟩
        | refine ⟨fun q => absurd q ga31, fun _ => ?_⟩
        | refine ⟨fun _ => ?_, fun q => absurd ga31 q⟩
        | refine ⟨fun q => absurd ga31 q, fun _ => ?_⟩
        | refine ⟨fun _ => ?_, fun q => absurd q ga31⟩
        | refine ⟨fun q => absurd q la4, fun _ => ?_⟩
        | refine ⟨fun _ => ?_, fun q => absurd la4 q⟩
        | refine ⟨fun q => absurd la4 q, fun _ => ?_⟩
        | refine ⟨fun _ => ?_, fun q => absurd q la4⟩
        | refine ⟨fun q => absurd q (of_decide_eq_true rfl), fun _ => ?_⟩
        | refine ⟨fun _ => ?_, fun q => absurd q (of_decide_eq_true rfl)⟩
        | refine ⟨jx_vin rfl, ?_⟩
        | refine ji_77 ?_
        | refine ji_78 ?_
        | refine ji_19 ?_
        | refine ji_89 ?_
      exact hQ _ rfl
    · subst hT
      refine ji_113 ?_
      repeat first
        | refine ⟨Or.inr rfl, ?_⟩
        | refine ⟨Or.inl rfl, ?_⟩
        | refine ⟨fun q => absurd q xg, fun _ => ?_⟩
        | refine ⟨fun _ => ?_, fun q => absurd xg q⟩
        | refine ⟨fun q => absurd xg q, fun _ => ?_⟩
        | refine ⟨fun _ => ?_, fun q => absurd q xg⟩
        | refine ⟨fun q => absurd q mg, fun _ => ?_⟩
        | refine ⟨fun _ => ?_, fun q => absurd mg q⟩
        | refine ⟨fun q => absurd mg q, fun _ => ?_⟩
        | refine ⟨fun _ => ?_, fun q => absurd q mg⟩
        | refine ⟨fun q => absurd q la1, fun _ => ?_⟩
        | refine ⟨fun _ => ?_, fun q => absurd la1 q⟩
        | refine ⟨fun q => absurd la1 q, fun _ => ?_⟩
        | refine ⟨fun _ => ?_, fun q => absurd q la1⟩
        | refine ⟨fun q => absurd q ga1, fun _ => ?_⟩
        | refine ⟨fun _ => ?_, fun q => absurd ga1 q⟩
        | refine ⟨fun q => absurd ga1 q, fun _ => ?_⟩
        | refine ⟨fun _ => ?_, fun q => absurd q ga1⟩
        | refine ⟨fun q => absurd q ga11, fun _ => ?_⟩
        | refine ⟨fun _ => ?_, fun q => absurd ga11 q⟩
        | refine ⟨fun q => absurd ga11 q, fun _ => ?_⟩
        | refine ⟨fun _ => ?_, fun q => absurd q ga11⟩
        | refine ⟨fun q => absurd q la3, fun _ => ?_⟩
        | refine ⟨fun _ => ?_, fun q => absurd la3 q⟩
        | refine ⟨fun q => absurd la3 q, fun _ => ?_⟩
        | refine ⟨fun _ => ?_, fun q => absurd q la3⟩
        | refine ⟨fun q => absurd q ga3, fun _ => ?_⟩
        | refine ⟨fun _ => ?_, fun q => absurd ga3 q⟩
        | refine ⟨fun q => absurd ga3 q, fun _ => ?_⟩
        | refine ⟨fun _ => ?_, fun q => absurd q ga3⟩
        | refine ⟨fun q => absurd q ga31, fun _ => ?_⟩
        | refine ⟨fun _ => ?_, fun q => absurd ga31 q⟩
        | refine ⟨fun q => absurd ga31 q, fun _ => ?_⟩
        | refine ⟨fun _ => ?_, fun q => absurd q ga31⟩
        | refine ⟨fun q => absurd q la4, fun _ => ?_⟩
        | refine ⟨fun _ => ?_, fun q => absurd la4 q⟩
        | refine ⟨fun q => absurd la4 q, fun _ => ?_⟩
        | refine ⟨fun _ => ?_, fun q => absurd q la4⟩
        | refine ⟨fun q => absurd q (of_decide_eq_true rfl), fun _ => ?_⟩
        | refine ⟨fun _ => ?_, fun q => absurd q (of_decide_eq_true rfl)⟩
        | refine ⟨jx_vin rfl, ?_⟩
        | refine ji_77 ?_
        | refine ji_78 ?_
        | refine ji_19 ?_
        | refine ji_89 ?_
      refine hQ _ ?_
      exact hI
  by_cases ga4 : 1000000 < a4
  · have ga41 : ¬ a4 < 1000001 := jl_nlt1 (n := 1000000) (by decide) ga4
    refine ⟨0, fun σ1 => σ1 = σ, fun Q hQ => ji_7 ?_, fun σ1 hT Q hQ => ?_⟩
    · skip
      repeat first
        | refine ⟨Or.inr rfl, ?_⟩
        | refine ⟨Or.inl rfl, ?_⟩
        | refine ⟨fun q => absurd q xg, fun _ => ?_⟩
        | refine ⟨fun _ => ?_, fun q => absurd xg q⟩
        | refine ⟨fun q => absurd xg q, fun _ => ?_⟩
        | refine ⟨fun _ => ?_, fun q => absurd q xg⟩
        | refine ⟨fun q => absurd q mg, fun _ => ?_⟩
        | refine ⟨fun _ => ?_, fun q => absurd mg q⟩
        | refine ⟨fun q => absurd mg q, fun _ => ?_⟩
        | refine ⟨fun _ => ?_, fun q => absurd q mg⟩
        | refine ⟨fun q => absurd q la1, fun _ => ?_⟩
        | refine ⟨fun _ => ?_, fun q => absurd la1 q⟩
        | refine ⟨fun q => absurd la1 q, fun _ => ?_⟩
        | refine ⟨fun _ => ?_, fun q => absurd q la1⟩
        | refine ⟨fun q => absurd q ga1, fun _ => ?_⟩
        | refine ⟨fun _ => ?_, fun q => absurd ga1 q⟩
        | refine ⟨fun q => absurd ga1 q, fun _ => ?_⟩
        | refine ⟨fun _ => ?_, fun q => absurd q ga1⟩
        | refine ⟨fun q => absurd q ga11, fun _ => ?_⟩
        | refine ⟨fun _ => ?_, fun q => absurd ga11 q⟩
        | refine ⟨fun q => absurd ga11 q, fun _ => ?_⟩
        | refine ⟨fun _ => ?_, fun q => absurd q ga11⟩
        | refine ⟨fun q => absurd q la3, fun _ => ?_⟩
        | refine ⟨fun _ => ?_, fun q => absurd la3 q⟩
        | refine ⟨fun q => absurd la3 q, fun _ => ?_⟩
        | refine ⟨fun _ => ?_, fun q => absurd q la3⟩
        | refine ⟨fun q => absurd q ga3, fun _ => ?_⟩
        | refine ⟨fun _ => ?_, fun q => absurd ga3 q⟩
        | refine ⟨fun q => absurd ga3 q, fun _ => ?_⟩
        | refine ⟨fun _ => ?_, fun q => absurd q ga3⟩
        | refine ⟨fun q => absurd q ga31, fun _ => ?_⟩
        | refine ⟨fun _ => ?_, fun q => absurd ga31 q⟩
        | refine ⟨fun q => absurd ga31 q, fun _ => ?_⟩
        | refine ⟨fun _ => ?_, fun q => absurd q ga31⟩
        | refine ⟨fun q => absurd q la4, fun _ => ?_⟩
        | refine ⟨fun _ => ?_, fun q => absurd la4 q⟩
        | refine ⟨fun q => absurd la4 q, fun _ => ?_⟩
        | refine ⟨fun _ => ?_, fun q => absurd q la4⟩
        | refine ⟨fun q => absurd q ga4, fun _ => ?_⟩
        | refine ⟨fun _ => ?_, fun q => absurd ga4 q⟩
        | refine ⟨fun q => absurd ga4 q, fun _ => ?_⟩
        | refine ⟨fun _ => ?_, fun q => absurd q ga4⟩
        | refine ⟨fun q => absurd q ga41, fun _ => ?_⟩
        | refine ⟨fun _ => ?_, fun q => absurd ga41 q⟩
        | refine ⟨fun q => absurd ga41 q, fun _ => ?_⟩
        | refine ⟨fun _ => ?_, fun q => absurd q ga41⟩
        | refine ⟨fun q => absurd q (of_decide_eq_true rfl), fun _ => ?_⟩
        | refine ⟨fun _ => ?_, fun q => absurd q (of_decide_eq_true rfl)⟩
        | refine ⟨jx_vin rfl, ?_⟩
        | refine ji_77 ?_
        | refine ji_78 ?_
        | refine ji_19 ?_
        | refine ji_89 ?_
      exact hQ _ rfl
    · subst hT
      refine ji_113 ?_
      repeat first
        | refine ⟨Or.inr rfl, ?_⟩
        | refine ⟨Or.inl rfl, ?_⟩
        | refine ⟨fun q => absurd q xg, fun _ => ?_⟩
        | refine ⟨fun _ => ?_, fun q => absurd xg q⟩
        | refine ⟨fun q => absurd xg q, fun _ => ?_⟩
        | refine ⟨fun _ => ?_, fun q => absurd q xg⟩
        | refine ⟨fun q => absurd q mg, fun _ => ?_⟩
        | refine ⟨fun _ => ?_, fun q => absurd mg q⟩
        | refine ⟨fun q => absurd mg q, fun _ => ?_⟩
        | refine ⟨fun _ => ?_, fun q => absurd q mg⟩
        | refine ⟨fun q => absurd q la1, fun _ => ?_⟩
        | refine ⟨fun _ => ?_, fun q => absurd la1 q⟩
        | refine ⟨fun q => absurd la1 q, fun _ => ?_⟩
        | refine ⟨fun _ => ?_, fun q => absurd q la1⟩
        | refine ⟨fun q => absurd q ga1, fun _ => ?_⟩
        | refine ⟨fun _ => ?_, fun q => absurd ga1 q⟩
        | refine ⟨fun q => absurd ga1 q, fun _ => ?_⟩
        | refine ⟨fun _ => ?_, fun q => absurd q ga1⟩
        | refine ⟨fun q => absurd q ga11, fun _ => ?_⟩
        | refine ⟨fun _ => ?_, fun q => absurd ga11 q⟩
        | refine ⟨fun q => absurd ga11 q, fun _ => ?_⟩
        | refine ⟨fun _ => ?_, fun q => absurd q ga11⟩
        | refine ⟨fun q => absurd q la3, fun _ => ?_⟩
        | refine ⟨fun _ => ?_, fun q => absurd la3 q⟩
        | refine ⟨fun q => absurd la3 q, fun _ => ?_⟩
        | refine ⟨fun _ => ?_, fun q => absurd q la3⟩
        | refine ⟨fun q => absurd q ga3, fun _ => ?_⟩
        | refine ⟨fun _ => ?_, fun q => absurd ga3 q⟩
        | refine ⟨fun q => absurd ga3 q, fun _ => ?_⟩
        | refine ⟨fun _ => ?_, fun q => absurd q ga3⟩
        | refine ⟨fun q => absurd q ga31, fun _ => ?_⟩
        | refine ⟨fun _ => ?_, fun q => absurd ga31 q⟩
        | refine ⟨fun q => absurd ga31 q, fun _ => ?_⟩
        | refine ⟨fun _ => ?_, fun q => absurd q ga31⟩
        | refine ⟨fun q => absurd q la4, fun _ => ?_⟩
        | refine ⟨fun _ => ?_, fun q => absurd la4 q⟩
        | refine ⟨fun q => absurd la4 q, fun _ => ?_⟩
        | refine ⟨fun _ => ?_, fun q => absurd q la4⟩
        | refine ⟨fun q => absurd q ga4, fun _ => ?_⟩
        | refine ⟨fun _ => ?_, fun q => absurd ga4 q⟩
        | refine ⟨fun q => absurd ga4 q, fun _ => ?_⟩
        | refine ⟨fun _ => ?_, fun q => absurd q ga4⟩
        | refine ⟨fun q => absurd q ga41, fun _ => ?_⟩
        | refine ⟨fun _ => ?_, fun q => absurd ga41 q⟩
        | refine ⟨fun q => absurd ga41 q, fun _ => ?_⟩
        | refine ⟨fun _ => ?_, fun q => absurd q ga41⟩
        | refine ⟨fun q => absurd q (of_decide_eq_true rfl), fun _ => ?_⟩
        | refine ⟨fun _ => ?_, fun q => absurd q (of_decide_eq_true rfl)⟩
        | refine ⟨jx_vin rfl, ?_⟩
        | refine ji_77 ?_
        | refine ji_78 ?_
        | refine ji_19 ?_
        | refine ji_89 ?_
      refine hQ _ ?_
      exact hI
  have ga41 : a4 < 1000001 := jl_lt1 (n := 1000000) (by decide) ga4

  by_cases la5 : a5 < 0
  · skip
    refine ⟨0, fun σ1 => σ1 = σ, fun Q hQ => ji_7 ?_, fun σ1 hT Q hQ => ?_⟩
    · skip
      repeat first
        | refine ⟨Or.inr rfl, ?_⟩
        | refine ⟨Or.inl rfl, ?_⟩
        | refine ⟨fun q => absurd q xg, fun _ => ?_⟩
        | refine ⟨fun _ => ?_, fun q => absurd xg q⟩
        | refine ⟨fun q => absurd xg q, fun _ => ?_⟩
        | refine ⟨fun _ => ?_, fun q => absurd q xg⟩
        | refine ⟨fun q => absurd q mg, fun _ => ?_⟩
        | refine ⟨fun _ => ?_, fun q => absurd mg q⟩
        | refine ⟨fun q => absurd mg q, fun _ => ?_⟩
        | refine ⟨fun _ => ?_, fun q => absurd q mg⟩
        | refine ⟨fun q => absurd q la1, fun _ => ?_⟩
        | refine ⟨fun _ => ?_, fun q => absurd la1 q⟩
        | refine ⟨fun q => absurd la1 q, fun _ => ?_⟩
        | refine ⟨fun _ => ?_, fun q => absurd q la1⟩
        | refine ⟨fun q => absurd q ga1, fun _ => ?_⟩
        | refine ⟨fun _ => ?_, fun q => absurd ga1 q⟩
        | refine ⟨fun q => absurd ga1 q, fun _ => ?_⟩
        | refine ⟨fun _ => ?_, fun q => absurd q ga1⟩
        | refine ⟨fun q => absurd q ga11, fun _ => ?_⟩
        | refine ⟨fun _ => ?_, fun q => absurd ga11 q⟩
        | refine ⟨fun q => absurd ga11 q, fun _ => ?_⟩
        | refine ⟨fun _ => ?_, fun q => absurd q ga11⟩
        | refine ⟨fun q => absurd q la3, fun _ => ?_⟩
        | refine ⟨fun _ => ?_, fun q => absurd la3 q⟩
        | refine ⟨fun q => absurd la3 q, fun _ => ?_⟩
        | refine ⟨fun _ => ?_, fun q => absurd q la3⟩
        | refine ⟨fun q => absurd q ga3, fun _ => ?_⟩
        | refine ⟨fun _ => ?_, fun q => absurd ga3 q⟩
        | refine ⟨fun q => absurd ga3 q, fun _ => ?_⟩
        | refine ⟨fun _ => ?_, fun q => absurd q ga3⟩
        | refine ⟨fun q => absurd q ga31, fun _ => ?_⟩
        | refine ⟨fun _ => ?_, fun q => absurd ga31 q⟩
        | refine ⟨fun q => absurd ga31 q, fun _ => ?_⟩
        | refine ⟨fun _ => ?_, fun q => absurd q ga31⟩
        | refine ⟨fun q => absurd q la4, fun _ => ?_⟩
        | refine ⟨fun _ => ?_, fun q => absurd la4 q⟩
        | refine ⟨fun q => absurd la4 q, fun _ => ?_⟩
        | refine ⟨fun _ => ?_, fun q => absurd q la4⟩
        | refine ⟨fun q => absurd q ga4, fun _ => ?_⟩
        | refine ⟨fun _ => ?_, fun q => absurd ga4 q⟩
        | refine ⟨fun q => absurd ga4 q, fun _ => ?_⟩
        | refine ⟨fun _ => ?_, fun q => absurd q ga4⟩
        | refine ⟨fun q => absurd q ga41, fun _ => ?_⟩
        | refine ⟨fun _ => ?_, fun q => absurd ga41 q⟩
        | refine ⟨fun q => absurd ga41 q, fun _ => ?_⟩
        | refine ⟨fun _ => ?_, fun q => absurd q ga41⟩
        | refine ⟨fun q => absurd q la5, fun _ => ?_⟩
        | refine ⟨fun _ => ?_, fun q => absurd la5 q⟩
        | refine ⟨fun q => absurd la5 q, fun _ => ?_⟩
        | refine ⟨fun _ => ?_, fun q => absurd q la5⟩
        | refine ⟨fun q => absurd q (of_decide_eq_true rfl), fun _ => ?_⟩
        | refine ⟨fun _ => ?_, fun q => absurd q (of_decide_eq_true rfl)⟩
        | refine ⟨jx_vin rfl, ?_⟩
        | refine ji_77 ?_
        | refine ji_78 ?_
        | refine ji_19 ?_
        | refine ji_89 ?_
      exact hQ _ rfl
    · subst hT
      refine ji_113 ?_
      repeat first
        | refine ⟨Or.inr rfl, ?_⟩
        | refine ⟨Or.inl rfl, ?_⟩
        | refine ⟨fun q => absurd q xg, fun _ => ?_⟩
        | refine ⟨fun _ => ?_, fun q => absurd xg q⟩
        | refine ⟨fun q => absurd xg q, fun _ => ?_⟩
        | refine ⟨fun _ => ?_, fun q => absurd q xg⟩
        | refine ⟨fun q => absurd q mg, fun _ => ?_⟩
        | refine ⟨fun _ => ?_, fun q => absurd mg q⟩
        | refine ⟨fun q => absurd mg q, fun _ => ?_⟩
        | refine ⟨fun _ => ?_, fun q => absurd q mg⟩
        | refine ⟨fun q => absurd q la1, fun _ => ?_⟩
        | refine ⟨fun _ => ?_, fun q => absurd la1 q⟩
        | refine ⟨fun q => absurd la1 q, fun _ => ?_⟩
        | refine ⟨fun _ => ?_, fun q => absurd q la1⟩
        | refine ⟨fun q => absurd q ga1, fun _ => ?_⟩
        | refine ⟨fun _ => ?_, fun q => absurd ga1 q⟩
        | refine ⟨fun q => absurd ga1 q, fun _ => ?_⟩
        | refine ⟨fun _ => ?_, fun q => absurd q ga1⟩
        | refine ⟨fun q => absurd q ga11, fun _ => ?_⟩
        | refine ⟨fun _ => ?_, fun q => absurd ga11 q⟩
        | refine ⟨fun q => absurd ga11 q, fun _ => ?_⟩
        | refine ⟨fun _ => ?_, fun q => absurd q ga11⟩
        | refine ⟨fun q => absurd q la3, fun _ => ?_⟩
        | refine ⟨fun _ => ?_, fun q => absurd la3 q⟩
        | refine ⟨fun q => absurd la3 q, fun _ => ?_⟩
        | refine ⟨fun _ => ?_, fun q => absurd q la3⟩
        | refine ⟨fun q => absurd q ga3, fun _ => ?_⟩
        | refine ⟨fun _ => ?_, fun q => absurd ga3 q⟩
        | refine ⟨fun q => absurd ga3 q, fun _ => ?_⟩
        | refine ⟨fun _ => ?_, fun q => absurd q ga3⟩
        | refine ⟨fun q => absurd q ga31, fun _ => ?_⟩
        | refine ⟨fun _ => ?_, fun q => absurd ga31 q⟩
        | refine ⟨fun q => absurd ga31 q, fun _ => ?_⟩
        | refine ⟨fun _ => ?_, fun q => absurd q ga31⟩
        | refine ⟨fun q => absurd q la4, fun _ => ?_⟩
        | refine ⟨fun _ => ?_, fun q => absurd la4 q⟩
        | refine ⟨fun q => absurd la4 q, fun _ => ?_⟩
        | refine ⟨fun _ => ?_, fun q => absurd q la4⟩
        | refine ⟨fun q => absurd q ga4, fun _ => ?_⟩
        | refine ⟨fun _ => ?_, fun q => absurd ga4 q⟩
        | refine ⟨fun q => absurd ga4 q, fun _ => ?_⟩
        | refine ⟨fun _ => ?_, fun q => absurd q ga4⟩
        | refine ⟨fun q => absurd q ga41, fun _ => ?_⟩
        | refine ⟨fun _ => ?_, fun q => absurd ga41 q⟩
        | refine ⟨fun q => absurd ga41 q, fun _ => ?_⟩
        | refine ⟨fun _ => ?_, fun q => absurd q ga41⟩
        | refine ⟨fun q => absurd q la5, fun _ => ?_⟩
        | refine ⟨fun _ => ?_, fun q => absurd la5 q⟩
        | refine ⟨fun q => absurd la5 q, fun _ => ?_⟩
        | refine ⟨fun _ => ?_, fun q => absurd q la5⟩
        | refine ⟨fun q => absurd q (of_decide_eq_true rfl), fun _ => ?_⟩
        | refine ⟨fun _ => ?_, fun q => absurd q (of_decide_eq_true rfl)⟩
        | refine ⟨jx_vin rfl, ?_⟩
        | refine ji_77 ?_
        | refine ji_78 ?_
        | refine ji_19 ?_
        | refine ji_89 ?_
      refine hQ _ ?_
      exact hI
  by_cases ga5 : 1000000 < a5
  · have ga51 : ¬ a5 < 1000001 := jl_nlt1 (n := 1000000) (by decide) ga5
    refine ⟨0, fun σ1 => σ1 = σ, fun Q hQ => ji_7 ?_, fun σ1 hT Q hQ => ?_⟩
    · skip
      repeat first
        | refine ⟨Or.inr rfl, ?_⟩
        | refine ⟨Or.inl rfl, ?_⟩
        | refine ⟨fun q => absurd q xg, fun _ => ?_⟩
        | refine ⟨fun _ => ?_, fun q => absurd xg q⟩
        | refine ⟨fun q => absurd xg q, fun _ => ?_⟩
        | refine ⟨fun _ => ?_, fun q => absurd q xg⟩
        | refine ⟨fun q => absurd q mg, fun _ => ?_⟩
        | refine ⟨fun _ => ?_, fun q => absurd mg q⟩
        | refine ⟨fun q => absurd mg q, fun _ => ?_⟩
        | refine ⟨fun _ => ?_, fun q => absurd q mg⟩
        | refine ⟨fun q => absurd q la1, fun _ => ?_⟩
        | refine ⟨fun _ => ?_, fun q => absurd la1 q⟩
        | refine ⟨fun q => absurd la1 q, fun _ => ?_⟩
        | refine ⟨fun _ => ?_, fun q => absurd q la1⟩
        | refine ⟨fun q => absurd q ga1, fun _ => ?_⟩
        | refine ⟨fun _ => ?_, fun q => absurd ga1 q⟩
        | refine ⟨fun q => absurd ga1 q, fun _ => ?_⟩
        | refine ⟨fun _ => ?_, fun q => absurd q ga1⟩
        | refine ⟨fun q => absurd q ga11, fun _ => ?_⟩
        | refine ⟨fun _ => ?_, fun q => absurd ga11 q⟩
        | refine ⟨fun q => absurd ga11 q, fun _ => ?_⟩
        | refine ⟨fun _ => ?_, fun q => absurd q ga11⟩
        | refine ⟨fun q => absurd q la3, fun _ => ?_⟩
        | refine ⟨fun _ => ?_, fun q => absurd la3 q⟩
        | refine ⟨fun q => absurd la3 q, fun _ => ?_⟩
        | refine ⟨fun _ => ?_, fun q => absurd q la3⟩
        | refine ⟨fun q => absurd q ga3, fun _ => ?_⟩
        | refine ⟨fun _ => ?_, fun q => absurd ga3 q⟩
        | refine ⟨fun q => absurd ga3 q, fun _ => ?_⟩
        | refine ⟨fun _ => ?_, fun q => absurd q ga3⟩
        | refine ⟨fun q => absurd q ga31, fun _ => ?_⟩
        | refine ⟨fun _ => ?_, fun q => absurd ga31 q⟩
        | refine ⟨fun q => absurd ga31 q, fun _ => ?_⟩
        | refine ⟨fun _ => ?_, fun q => absurd q ga31⟩
        | refine ⟨fun q => absurd q la4, fun _ => ?_⟩
        | refine ⟨fun _ => ?_, fun q => absurd la4 q⟩
        | refine ⟨fun q => absurd la4 q, fun _ => ?_⟩
        | refine ⟨fun _ => ?_, fun q => absurd q la4⟩
        | refine ⟨fun q => absurd q ga4, fun _ => ?_⟩
        | refine ⟨fun _ => ?_, fun q => absurd ga4 q⟩
        | refine ⟨fun q => absurd ga4 q, fun _ => ?_⟩
        | refine ⟨fun _ => ?_, fun q => absurd q ga4⟩
        | refine ⟨fun q => absurd q ga41, fun _ => ?_⟩
        | refine ⟨fun _ => ?_, fun q => absurd ga41 q⟩
        | refine ⟨fun q => absurd ga41 q, fun _ => ?_⟩
        | refine ⟨fun _ => ?_, fun q => absurd q ga41⟩
        | refine ⟨fun q => absurd q la5, fun _ => ?_⟩
        | refine ⟨fun _ => ?_, fun q => absurd la5 q⟩
        | refine ⟨fun q => absurd la5 q, fun _ => ?_⟩
        | refine ⟨fun _ => ?_, fun q => absurd q la5⟩
        | refine ⟨fun q => absurd q ga5, fun _ => ?_⟩
        | refine ⟨fun _ => ?_, fun q => absurd ga5 q⟩
        | refine ⟨fun q => absurd ga5 q, fun _ => ?_⟩
        | refine ⟨fun _ => ?_, fun q => absurd q ga5⟩
        | refine ⟨fun q => absurd q ga51, fun _ => ?_⟩
        | refine ⟨fun _ => ?_, fun q => absurd ga51 q⟩
        | refine ⟨fun q => absurd ga51 q, fun _ => ?_⟩
        | refine ⟨fun _ => ?_, fun q => absurd q ga51⟩
        | refine ⟨fun q => absurd q (of_decide_eq_true rfl), fun _ => ?_⟩
        | refine ⟨fun _ => ?_, fun q => absurd q (of_decide_eq_true rfl)⟩
        | refine ⟨jx_vin rfl, ?_⟩
        | refine ji_77 ?_
        | refine ji_78 ?_
        | refine ji_19 ?_
        | refine ji_89 ?_
      exact hQ _ rfl
    · subst hT
      refine ji_113 ?_
      repeat first
        | refine ⟨Or.inr rfl, ?_⟩
        | refine ⟨Or.inl rfl, ?_⟩
        | refine ⟨fun q => absurd q xg, fun _ => ?_⟩
        | refine ⟨fun _ => ?_, fun q => absurd xg q⟩
        | refine ⟨fun q => absurd xg q, fun _ => ?_⟩
        | refine ⟨fun _ => ?_, fun q => absurd q xg⟩
        | refine ⟨fun q => absurd q mg, fun _ => ?_⟩
        | refine ⟨fun _ => ?_, fun q => absurd mg q⟩
        | refine ⟨fun q => absurd mg q, fun _ => ?_⟩
        | refine ⟨fun _ => ?_, fun q => absurd q mg⟩
        | refine ⟨fun q => absurd q la1, fun _ => ?_⟩
        | refine ⟨fun _ => ?_, fun q => absurd la1 q⟩
        | refine ⟨fun q => absurd la1 q, fun _ => ?_⟩
        | refine ⟨fun _ => ?_, fun q => absurd q la1⟩
        | refine ⟨fun q => absurd q ga1, fun _ => ?_⟩
        | refine ⟨fun _ => ?_, fun q => absurd ga1 q⟩
        | refine ⟨fun q => absurd ga1 q, fun _ => ?_⟩
        | refine ⟨fun _ => ?_, fun q => absurd q ga1⟩
        | refine ⟨fun q => absurd q ga11, fun _ => ?_⟩
        | refine ⟨fun _ => ?_, fun q => absurd ga11 q⟩
        | refine ⟨fun q => absurd ga11 q, fun _ => ?_⟩
        | refine ⟨fun _ => ?_, fun q => absurd q ga11⟩
        | refine ⟨fun q => absurd q la3, fun _ => ?_⟩
        | refine ⟨fun _ => ?_, fun q => absurd la3 q⟩
        | refine ⟨fun q => absurd la3 q, fun _ => ?_⟩
        | refine ⟨fun _ => ?_, fun q => absurd q la3⟩
        | refine ⟨fun q => absurd q ga3, fun _ => ?_⟩
        | refine ⟨fun _ => ?_, fun q => absurd ga3 q⟩
        | refine ⟨fun q => absurd ga3 q, fun _ => ?_⟩
        | refine ⟨fun _ => ?_, fun q => absurd q ga3⟩
        | refine ⟨fun q => absurd q ga31, fun _ => ?_⟩
        | refine ⟨fun _ => ?_, fun q => absurd ga31 q⟩
        | refine ⟨fun q => absurd ga31 q, fun _ => ?_⟩
        | refine ⟨fun _ => ?_, fun q => absurd q ga31⟩
        | refine ⟨fun q => absurd q la4, fun _ => ?_⟩
        | refine ⟨fun _ => ?_, fun q => absurd la4 q⟩
        | refine ⟨fun q => absurd la4 q, fun _ => ?_⟩
        | refine ⟨fun _ => ?_, fun q => absurd q la4⟩
        | refine ⟨fun q => absurd q ga4, fun _ => ?_⟩
        | refine ⟨fun _ => ?_, fun q => absurd ga4 q⟩
        | refine ⟨fun q => absurd ga4 q, fun _ => ?_⟩
        | refine ⟨fun _ => ?_, fun q => absurd q ga4⟩
        | refine ⟨fun q => absurd q ga41, fun _ => ?_⟩
        | refine ⟨fun _ => ?_, fun q => absurd ga41 q⟩
        | refine ⟨fun q => absurd ga41 q, fun _ => ?_⟩
        | refine ⟨fun _ => ?_, fun q => absurd q ga41⟩
        | refine ⟨fun q => absurd q la5, fun _ => ?_⟩
        | refine ⟨fun _ => ?_, fun q => absurd la5 q⟩
        | refine ⟨fun q => absurd la5 q, fun _ => ?_⟩
        | refine ⟨fun _ => ?_, fun q => absurd q la5⟩
        | refine ⟨fun q => absurd q ga5, fun _ => ?_⟩
        | refine ⟨fun _ => ?_, fun q => absurd ga5 q⟩
        | refine ⟨fun q => absurd ga5 q, fun _ => ?_⟩
        | refine ⟨fun _ => ?_, fun q => absurd q ga5⟩
        | refine ⟨fun q => absurd q ga51, fun _ => ?_⟩
        | refine ⟨fun _ => ?_, fun q => absurd ga51 q⟩
        | refine ⟨fun q => absurd ga51 q, fun _ => ?_⟩
        | refine ⟨fun _ => ?_, fun q => absurd q ga51⟩
        | refine ⟨fun q => absurd q (of_decide_eq_true rfl), fun _ => ?_⟩
        | refine ⟨fun _ => ?_, fun q => absurd q (of_decide_eq_true rfl)⟩
        | refine ⟨jx_vin rfl, ?_⟩
        | refine ji_77 ?_
        | refine ji_78 ?_
        | refine ji_19 ?_
        | refine ji_89 ?_
      refine hQ _ ?_
      exact hI
  have ga51 : a5 < 1000001 := jl_lt1 (n := 1000000) (by decide) ga5

  have c0 : (σ 26 3).toNatClampNeg = g := by rw [e1]; exact nI_clamp (by omega)
  have c1 : (σ 26 3 * 3).toNatClampNeg = 3 * g := by rw [e1, jl_x30]; exact nI_clamp (by omega)
  have c2 : (σ 26 3 * 3 + 1).toNatClampNeg = 3 * g + 1 := by rw [e1]; exact (congrArg Int32.toNatClampNeg (jl_x3 (o := g) 1 (by omega) (by decide))).trans (nI_clamp (by omega))
  have c3 : (σ 26 3 * 3 + 2).toNatClampNeg = 3 * g + 2 := by rw [e1]; exact (congrArg Int32.toNatClampNeg (jl_x3 (o := g) 2 (by omega) (by decide))).trans (nI_clamp (by omega))
  have b0 : (σ 34 36).toNatClampNeg = g := by rw [e2]; exact nI_clamp (by omega)
  have b1 : (3 * σ 34 36).toNatClampNeg = 3 * g := by rw [e2, jl_m30]; exact nI_clamp (by omega)
  have b2 : (3 * σ 34 36 + 1).toNatClampNeg = 3 * g + 1 := by rw [e2]; exact (congrArg Int32.toNatClampNeg (jl_m3 (o := g) 1 (by omega) (by decide))).trans (nI_clamp (by omega))
  have b3 : (3 * σ 34 36 + 2).toNatClampNeg = 3 * g + 2 := by rw [e2]; exact (congrArg Int32.toNatClampNeg (jl_m3 (o := g) 2 (by omega) (by decide))).trans (nI_clamp (by omega))
  have vx0 : vp_in (σ 26 3) 3 := by rw [e1]; exact vp_in_nI (by omega) (by decide)
  have vx1 : vp_in (σ 26 3 * 3) 9 := by rw [e1, jl_x30]; exact vp_in_nI (by omega) (by decide)
  have vx2 : vp_in (σ 26 3 * 3 + 1) 9 := by rw [e1, show nI g * 3 + 1 = nI (3 * g + 1) from jl_x3 (o := g) 1 (by omega) (by decide)]; exact vp_in_nI (by omega) (by decide)
  have vx3 : vp_in (σ 26 3 * 3 + 2) 9 := by rw [e1, show nI g * 3 + 2 = nI (3 * g + 2) from jl_x3 (o := g) 2 (by omega) (by decide)]; exact vp_in_nI (by omega) (by decide)
  have vm0 : vp_in (σ 34 36) 3 := by rw [e2]; exact vp_in_nI (by omega) (by decide)
  have vm1 : vp_in (3 * σ 34 36) 9 := by rw [e2, jl_m30]; exact vp_in_nI (by omega) (by decide)
  have vm2 : vp_in (3 * σ 34 36 + 1) 9 := by rw [e2, show 3 * nI g + 1 = nI (3 * g + 1) from jl_m3 (o := g) 1 (by omega) (by decide)]; exact vp_in_nI (by omega) (by decide)
  have vm3 : vp_in (3 * σ 34 36 + 2) 9 := by rw [e2, show 3 * nI g + 2 = nI (3 * g + 2) from jl_m3 (o := g) 2 (by omega) (by decide)]; exact vp_in_nI (by omega) (by decide)
  refine ⟨1, fun σ1 => σ1 = jx_su (jx_su (jx_su (jx_su (jx_su (jx_su σ 27 (σ 26 3).toNatClampNeg a1) 28 (σ 26 3).toNatClampNeg a2) 29 (σ 26 3 * 3).toNatClampNeg a3) 29 (σ 26 3 * 3 + 1).toNatClampNeg a4) 29 (σ 26 3 * 3 + 2).toNatClampNeg a5) 26 3 (σ 26 3 + 1), fun Q hQ => ji_7 ?_, fun σ1 hT Q hQ => ?_⟩
  · skip
    repeat first
      | refine ⟨Or.inr rfl, ?_⟩
      | refine ⟨Or.inl rfl, ?_⟩
      | refine ⟨fun q => absurd q xg, fun _ => ?_⟩
      | refine ⟨fun _ => ?_, fun q => absurd xg q⟩
      | refine ⟨fun q => absurd xg q, fun _ => ?_⟩
      | refine ⟨fun _ => ?_, fun q => absurd q xg⟩
      | refine ⟨fun q => absurd q mg, fun _ => ?_⟩
      | refine ⟨fun _ => ?_, fun q => absurd mg q⟩
      | refine ⟨fun q => absurd mg q, fun _ => ?_⟩
      | refine ⟨fun _ => ?_, fun q => absurd q mg⟩
      | refine ⟨fun q => absurd q la1, fun _ => ?_⟩
      | refine ⟨fun _ => ?_, fun q => absurd la1 q⟩
      | refine ⟨fun q => absurd la1 q, fun _ => ?_⟩
      | refine ⟨fun _ => ?_, fun q => absurd q la1⟩
      | refine ⟨fun q => absurd q ga1, fun _ => ?_⟩
      | refine ⟨fun _ => ?_, fun q => absurd ga1 q⟩
      | refine ⟨fun q => absurd ga1 q, fun _ => ?_⟩
      | refine ⟨fun _ => ?_, fun q => absurd q ga1⟩
      | refine ⟨fun q => absurd q ga11, fun _ => ?_⟩
      | refine ⟨fun _ => ?_, fun q => absurd ga11 q⟩
      | refine ⟨fun q => absurd ga11 q, fun _ => ?_⟩
      | refine ⟨fun _ => ?_, fun q => absurd q ga11⟩
      | refine ⟨fun q => absurd q la3, fun _ => ?_⟩
      | refine ⟨fun _ => ?_, fun q => absurd la3 q⟩
      | refine ⟨fun q => absurd la3 q, fun _ => ?_⟩
      | refine ⟨fun _ => ?_, fun q => absurd q la3⟩
      | refine ⟨fun q => absurd q ga3, fun _ => ?_⟩
      | refine ⟨fun _ => ?_, fun q => absurd ga3 q⟩
      | refine ⟨fun q => absurd ga3 q, fun _ => ?_⟩
      | refine ⟨fun _ => ?_, fun q => absurd q ga3⟩
      | refine ⟨fun q => absurd q ga31, fun _ => ?_⟩
      | refine ⟨fun _ => ?_, fun q => absurd ga31 q⟩
      | refine ⟨fun q => absurd ga31 q, fun _ => ?_⟩
      | refine ⟨fun _ => ?_, fun q => absurd q ga31⟩
      | refine ⟨fun q => absurd q la4, fun _ => ?_⟩
      | refine ⟨fun _ => ?_, fun q => absurd la4 q⟩
      | refine ⟨fun q => absurd la4 q, fun _ => ?_⟩
      | refine ⟨fun _ => ?_, fun q => absurd q la4⟩
      | refine ⟨fun q => absurd q ga4, fun _ => ?_⟩
      | refine ⟨fun _ => ?_, fun q => absurd ga4 q⟩
      | refine ⟨fun q => absurd ga4 q, fun _ => ?_⟩
      | refine ⟨fun _ => ?_, fun q => absurd q ga4⟩
      | refine ⟨fun q => absurd q ga41, fun _ => ?_⟩
      | refine ⟨fun _ => ?_, fun q => absurd ga41 q⟩
      | refine ⟨fun q => absurd ga41 q, fun _ => ?_⟩
      | refine ⟨fun _ => ?_, fun q => absurd q ga41⟩
      | refine ⟨fun q => absurd q la5, fun _ => ?_⟩
      | refine ⟨fun _ => ?_, fun q => absurd la5 q⟩
      | refine ⟨fun q => absurd la5 q, fun _ => ?_⟩
      | refine ⟨fun _ => ?_, fun q => absurd q la5⟩
      | refine ⟨fun q => absurd q ga5, fun _ => ?_⟩
      | refine ⟨fun _ => ?_, fun q => absurd ga5 q⟩
      | refine ⟨fun q => absurd ga5 q, fun _ => ?_⟩
      | refine ⟨fun _ => ?_, fun q => absurd q ga5⟩
      | refine ⟨fun q => absurd q ga51, fun _ => ?_⟩
      | refine ⟨fun _ => ?_, fun q => absurd ga51 q⟩
      | refine ⟨fun q => absurd ga51 q, fun _ => ?_⟩
      | refine ⟨fun _ => ?_, fun q => absurd q ga51⟩
      | refine ⟨fun q => absurd q (of_decide_eq_true rfl), fun _ => ?_⟩
      | refine ⟨fun _ => ?_, fun q => absurd q (of_decide_eq_true rfl)⟩
      | refine ⟨jx_vin rfl, ?_⟩
      | refine ⟨vx0, ?_⟩
      | refine ⟨vx1, ?_⟩
      | refine ⟨vx2, ?_⟩
      | refine ⟨vx3, ?_⟩
      | refine ji_77 ?_
      | refine ji_78 ?_
      | refine ji_19 ?_
      | refine ji_89 ?_
    exact hQ _ rfl
  · subst hT
    refine ji_113 ?_
    repeat first
      | refine ⟨Or.inr rfl, ?_⟩
      | refine ⟨Or.inl rfl, ?_⟩
      | refine ⟨fun q => absurd q xg, fun _ => ?_⟩
      | refine ⟨fun _ => ?_, fun q => absurd xg q⟩
      | refine ⟨fun q => absurd xg q, fun _ => ?_⟩
      | refine ⟨fun _ => ?_, fun q => absurd q xg⟩
      | refine ⟨fun q => absurd q mg, fun _ => ?_⟩
      | refine ⟨fun _ => ?_, fun q => absurd mg q⟩
      | refine ⟨fun q => absurd mg q, fun _ => ?_⟩
      | refine ⟨fun _ => ?_, fun q => absurd q mg⟩
      | refine ⟨fun q => absurd q la1, fun _ => ?_⟩
      | refine ⟨fun _ => ?_, fun q => absurd la1 q⟩
      | refine ⟨fun q => absurd la1 q, fun _ => ?_⟩
      | refine ⟨fun _ => ?_, fun q => absurd q la1⟩
      | refine ⟨fun q => absurd q ga1, fun _ => ?_⟩
      | refine ⟨fun _ => ?_, fun q => absurd ga1 q⟩
      | refine ⟨fun q => absurd ga1 q, fun _ => ?_⟩
      | refine ⟨fun _ => ?_, fun q => absurd q ga1⟩
      | refine ⟨fun q => absurd q ga11, fun _ => ?_⟩
      | refine ⟨fun _ => ?_, fun q => absurd ga11 q⟩
      | refine ⟨fun q => absurd ga11 q, fun _ => ?_⟩
      | refine ⟨fun _ => ?_, fun q => absurd q ga11⟩
      | refine ⟨fun q => absurd q la3, fun _ => ?_⟩
      | refine ⟨fun _ => ?_, fun q => absurd la3 q⟩
      | refine ⟨fun q => absurd la3 q, fun _ => ?_⟩
      | refine ⟨fun _ => ?_, fun q => absurd q la3⟩
      | refine ⟨fun q => absurd q ga3, fun _ => ?_⟩
      | refine ⟨fun _ => ?_, fun q => absurd ga3 q⟩
      | refine ⟨fun q => absurd ga3 q, fun _ => ?_⟩
      | refine ⟨fun _ => ?_, fun q => absurd q ga3⟩
      | refine ⟨fun q => absurd q ga31, fun _ => ?_⟩
      | refine ⟨fun _ => ?_, fun q => absurd ga31 q⟩
      | refine ⟨fun q => absurd ga31 q, fun _ => ?_⟩
      | refine ⟨fun _ => ?_, fun q => absurd q ga31⟩
      | refine ⟨fun q => absurd q la4, fun _ => ?_⟩
      | refine ⟨fun _ => ?_, fun q => absurd la4 q⟩
      | refine ⟨fun q => absurd la4 q, fun _ => ?_⟩
      | refine ⟨fun _ => ?_, fun q => absurd q la4⟩
      | refine ⟨fun q => absurd q ga4, fun _ => ?_⟩
      | refine ⟨fun _ => ?_, fun q => absurd ga4 q⟩
      | refine ⟨fun q => absurd ga4 q, fun _ => ?_⟩
      | refine ⟨fun _ => ?_, fun q => absurd q ga4⟩
      | refine ⟨fun q => absurd q ga41, fun _ => ?_⟩
      | refine ⟨fun _ => ?_, fun q => absurd ga41 q⟩
      | refine ⟨fun q => absurd ga41 q, fun _ => ?_⟩
      | refine ⟨fun _ => ?_, fun q => absurd q ga41⟩
      | refine ⟨fun q => absurd q la5, fun _ => ?_⟩
      | refine ⟨fun _ => ?_, fun q => absurd la5 q⟩
      | refine ⟨fun q => absurd la5 q, fun _ => ?_⟩
      | refine ⟨fun _ => ?_, fun q => absurd q la5⟩
      | refine ⟨fun q => absurd q ga5, fun _ => ?_⟩
      | refine ⟨fun _ => ?_, fun q => absurd ga5 q⟩
      | refine ⟨fun q => absurd ga5 q, fun _ => ?_⟩
      | refine ⟨fun _ => ?_, fun q => absurd q ga5⟩
      | refine ⟨fun q => absurd q ga51, fun _ => ?_⟩
      | refine ⟨fun _ => ?_, fun q => absurd ga51 q⟩
      | refine ⟨fun q => absurd ga51 q, fun _ => ?_⟩
      | refine ⟨fun _ => ?_, fun q => absurd q ga51⟩
      | refine ⟨fun q => absurd q (of_decide_eq_true rfl), fun _ => ?_⟩
      | refine ⟨fun _ => ?_, fun q => absurd q (of_decide_eq_true rfl)⟩
      | refine ⟨jx_vin rfl, ?_⟩
      | refine ⟨vm0, ?_⟩
      | refine ⟨vm1, ?_⟩
      | refine ⟨vm2, ?_⟩
      | refine ⟨vm3, ?_⟩
      | refine ji_77 ?_
      | refine ji_78 ?_
      | refine ji_19 ?_
      | refine ji_89 ?_
    refine hQ _ ?_
    refine ⟨iD, iS, iR, iI, ⟨g + 1, by omega, (show σ 26 3 + 1 = nI (g + 1) by rw [e1, nI_1]), (show σ 34 36 + 1 = nI (g + 1) by rw [e2, nI_1]), fun i hi => ?_⟩, iM, iT, iL⟩
    show upd (σ 27) (σ 26 3).toNatClampNeg a1 i = upd (σ 56) (σ 34 36).toNatClampNeg a1 i ∧ upd (σ 28) (σ 26 3).toNatClampNeg a2 i = upd (σ 57) (σ 34 36).toNatClampNeg a2 i ∧ (∃ k : Nat, k < 10 ∧ upd (σ 56) (σ 34 36).toNatClampNeg a1 i = nI k) ∧ ∀ t, t < 3 → upd (upd (upd (σ 29) (σ 26 3 * 3).toNatClampNeg a3) (σ 26 3 * 3 + 1).toNatClampNeg a4) (σ 26 3 * 3 + 2).toNatClampNeg a5 (3 * i + t) = upd (upd (upd (σ 58) (3 * σ 34 36).toNatClampNeg a3) (3 * σ 34 36 + 1).toNatClampNeg a4) (3 * σ 34 36 + 2).toNatClampNeg a5 (3 * i + t) ∧ ∃ k : Nat, k ≤ 1000000 ∧ upd (upd (upd (σ 58) (3 * σ 34 36).toNatClampNeg a3) (3 * σ 34 36 + 1).toNatClampNeg a4) (3 * σ 34 36 + 2).toNatClampNeg a5 (3 * i + t) = nI k
    rw [c0, c1, c2, c3, b0, b1, b2, b3]
    have hlo : ∀ t, t < 3 → 3 * i + t < 3 * g → σ 29 (3 * i + t) = σ 58 (3 * i + t) ∧ ∃ k : Nat, k ≤ 1000000 ∧ σ 58 (3 * i + t) = nI k := fun t ht hlt => (hin i (by omega)).2.2.2 t ht
    refine ⟨?_, ?_, ?_, fun t ht => ⟨jl_u3 (fun hlt => (hlo t ht hlt).1) (by omega), jl_u3n (P := fun x => ∃ k : Nat, k ≤ 1000000 ∧ x = nI k) (fun hlt => (hlo t ht hlt).2) (jl_nat (n := 1000000) (by decide) la3 ga3) (jl_nat (n := 1000000) (by decide) la4 ga4) (jl_nat (n := 1000000) (by decide) la5 ga5) (by omega)⟩⟩
    · by_cases hh : i = g
      · subst hh; rw [pk_us, pk_us]
      · rw [pk_un hh, pk_un hh]; exact (hin i (by omega)).1
    · by_cases hh : i = g
      · subst hh; rw [pk_us, pk_us]
      · rw [pk_un hh, pk_un hh]; exact (hin i (by omega)).2.1
    · by_cases hh : i = g
      · subst hh; rw [pk_us]; exact (jl_nat (n := 9) (by decide) la1 ga1).imp (fun k h => ⟨by omega, h.2⟩)
      · rw [pk_un hh]; exact (hin i (by omega)).2.2.1

set_option maxHeartbeats 8000000 in
theorem jl_c05 (a : Int32) : (a < 0 ∧ ¬ a = 0 ∧ ¬ a = 1 ∧ ¬ a = 2 ∧ ¬ a = 3 ∧ ¬ a = 4 ∧ ¬ a = 5) ∨ (∃ j : Nat, j < 6 ∧ a = nI j) ∨ (¬ a < 0 ∧ ¬ a < 6 ∧ ¬ a = 0 ∧ ¬ a = 1 ∧ ¬ a = 2 ∧ ¬ a = 3 ∧ ¬ a = 4 ∧ ¬ a = 5) := by
  by_cases h : a < 0
  · exact Or.inl ⟨h, fun q => by subst q; exact absurd h (by decide), fun q => by subst q; exact absurd h (by decide), fun q => by subst q; exact absurd h (by decide), fun q => by subst q; exact absurd h (by decide), fun q => by subst q; exact absurd h (by decide), fun q => by subst q; exact absurd h (by decide)⟩
  · by_cases h4 : a < 6
    · obtain ⟨j, hj, rfl⟩ := nI_of h
      exact Or.inr (Or.inl ⟨j, (nI_ltI hj (by decide)).mp h4, rfl⟩)
    · exact Or.inr (Or.inr ⟨h, h4, fun q => by subst q; exact absurd (by decide) h4, fun q => by subst q; exact absurd (by decide) h4, fun q => by subst q; exact absurd (by decide) h4, fun q => by subst q; exact absurd (by decide) h4, fun q => by subst q; exact absurd (by decide) h4, fun q => by subst q; exact absurd (by decide) h4⟩)
set_option maxHeartbeats 8000000 in
theorem jv_about {l : Launch} {D : va_G} {cA : ClassId} {ρ : Nat → Nat} {d : Nat} : jq_about l D cA ρ (d + 4) iv_V iv_V := by
  intro σ hI a1 a2
  obtain ⟨iD, iS, iR, iI, iG, iM, iT, ⟨m, h, hm2, hm, hh, em1, em2, eh1, eh2, hO, hz, hp, hpa, hz0⟩⟩ := id hI
  by_cases l1 : a1 < 0
  · skip
    refine ⟨(-1), fun σ1 => σ1 = σ, fun Q hQ => ji_15 ?_, fun σ1 hT Q hQ => ?_⟩
    · skip
      repeat first
        | refine ⟨Or.inr rfl, ?_⟩
        | refine ⟨Or.inl rfl, ?_⟩
        | refine ⟨fun q => absurd q l1, fun _ => ?_⟩
        | refine ⟨fun _ => ?_, fun q => absurd l1 q⟩
        | refine ⟨fun q => absurd l1 q, fun _ => ?_⟩
        | refine ⟨fun _ => ?_, fun q => absurd q l1⟩
        | refine ⟨fun q => absurd q (of_decide_eq_true rfl), fun _ => ?_⟩
        | refine ⟨fun _ => ?_, fun q => absurd q (of_decide_eq_true rfl)⟩
        | refine ⟨jx_vin rfl, ?_⟩
        | refine ji_68 ?_
        | refine ji_69 ?_
        | refine ji_79 ?_
        | refine ji_89 ?_
      exact hQ _ rfl
    · subst hT
      refine ji_133 ?_
      repeat first
        | refine ⟨Or.inr rfl, ?_⟩
        | refine ⟨Or.inl rfl, ?_⟩
        | refine ⟨fun q => absurd q l1, fun _ => ?_⟩
        | refine ⟨fun _ => ?_, fun q => absurd l1 q⟩
        | refine ⟨fun q => absurd l1 q, fun _ => ?_⟩
        | refine ⟨fun _ => ?_, fun q => absurd q l1⟩
        | refine ⟨fun q => absurd q (of_decide_eq_true rfl), fun _ => ?_⟩
        | refine ⟨fun _ => ?_, fun q => absurd q (of_decide_eq_true rfl)⟩
        | refine ⟨jx_vin rfl, ?_⟩
        | refine ji_68 ?_
        | refine ji_69 ?_
        | refine ji_79 ?_
        | refine ji_89 ?_
      refine hQ _ ?_
      exact hI

  obtain ⟨q, hq, rfl⟩ := nI_of l1
  by_cases g1 : m ≤ q
  · have x1 : σ 16 3 ≤ nI q := by rw [em1]; exact nI_le g1 hq
    have m1 : ¬ nI q < σ 34 25 := by rw [em2]; exact nI_nlt g1 hq
    refine ⟨(-1), fun σ1 => σ1 = σ, fun Q hQ => ji_15 ?_, fun σ1 hT Q hQ => ?_⟩
    · skip
      repeat first
        | refine ⟨Or.inr rfl, ?_⟩
        | refine ⟨Or.inl rfl, ?_⟩
        | refine ⟨fun q => absurd q l1, fun _ => ?_⟩
        | refine ⟨fun _ => ?_, fun q => absurd l1 q⟩
        | refine ⟨fun q => absurd l1 q, fun _ => ?_⟩
        | refine ⟨fun _ => ?_, fun q => absurd q l1⟩
        | refine ⟨fun q => absurd q x1, fun _ => ?_⟩
        | refine ⟨fun _ => ?_, fun q => absurd x1 q⟩
        | refine ⟨fun q => absurd x1 q, fun _ => ?_⟩
        | refine ⟨fun _ => ?_, fun q => absurd q x1⟩
        | refine ⟨fun q => absurd q (of_decide_eq_true rfl), fun _ => ?_⟩
        | refine ⟨fun _ => ?_, fun q => absurd q (of_decide_eq_true rfl)⟩
        | refine ⟨jx_vin rfl, ?_⟩
        | refine ji_68 ?_
        | refine ji_69 ?_
        | refine ji_79 ?_
        | refine ji_89 ?_
      exact hQ _ rfl
    · subst hT
      refine ji_133 ?_
      repeat first
        | refine ⟨Or.inr rfl, ?_⟩
        | refine ⟨Or.inl rfl, ?_⟩
        | refine ⟨fun q => absurd q l1, fun _ => ?_⟩
        | refine ⟨fun _ => ?_, fun q => absurd l1 q⟩
        | refine ⟨fun q => absurd l1 q, fun _ => ?_⟩
        | refine ⟨fun _ => ?_, fun q => absurd q l1⟩
        | refine ⟨fun q => absurd q m1, fun _ => ?_⟩
        | refine ⟨fun _ => ?_, fun q => absurd m1 q⟩
        | refine ⟨fun q => absurd m1 q, fun _ => ?_⟩
        | refine ⟨fun _ => ?_, fun q => absurd q m1⟩
        | refine ⟨fun q => absurd q (of_decide_eq_true rfl), fun _ => ?_⟩
        | refine ⟨fun _ => ?_, fun q => absurd q (of_decide_eq_true rfl)⟩
        | refine ⟨jx_vin rfl, ?_⟩
        | refine ji_68 ?_
        | refine ji_69 ?_
        | refine ji_79 ?_
        | refine ji_89 ?_
      refine hQ _ ?_
      exact hI

  have hqm : q < m := by omega
  have x1 : ¬ σ 16 3 ≤ nI q := by rw [em1]; exact nI_ge hqm (by omega)
  have m1 : nI q < σ 34 25 := by rw [em2]; exact nI_lt hqm (by omega)
  obtain ⟨o1, o2, o3, o4, o5, o6, o7⟩ := hO q hqm
  have ecl : (nI q).toNatClampNeg = q := nI_clamp (by omega)
  have v48 : vp_in (nI q) 48 := vp_in_nI (by omega) (by decide)
  rcases jl_c05 a2 with ⟨c1, c2, c3, c4, c5, c6, c7⟩ | ⟨j, hj, rfl⟩ | ⟨c0, c1, c2, c3, c4, c5, c6, c7⟩
  · skip
    refine ⟨(-1), fun σ1 => σ1 = σ, fun Q hQ => ji_15 ?_, fun σ1 hT Q hQ => ?_⟩
    · skip
      repeat first
        | refine ⟨Or.inr rfl, ?_⟩
        | refine ⟨Or.inl rfl, ?_⟩
        | refine ⟨fun q => absurd q l1, fun _ => ?_⟩
        | refine ⟨fun _ => ?_, fun q => absurd l1 q⟩
        | refine ⟨fun q => absurd l1 q, fun _ => ?_⟩
        | refine ⟨fun _ => ?_, fun q => absurd q l1⟩
        | refine ⟨fun q => absurd q x1, fun _ => ?_⟩
        | refine ⟨fun _ => ?_, fun q => absurd x1 q⟩
        | refine ⟨fun q => absurd x1 q, fun _ => ?_⟩
        | refine ⟨fun _ => ?_, fun q => absurd q x1⟩
        | refine ⟨fun q => absurd q c2, fun _ => ?_⟩
        | refine ⟨fun _ => ?_, fun q => absurd c2 q⟩
        | refine ⟨fun q => absurd c2 q, fun _ => ?_⟩
        | refine ⟨fun _ => ?_, fun q => absurd q c2⟩
        | refine ⟨fun q => absurd q c3, fun _ => ?_⟩
        | refine ⟨fun _ => ?_, fun q => absurd c3 q⟩
        | refine ⟨fun q => absurd c3 q, fun _ => ?_⟩
        | refine ⟨fun _ => ?_, fun q => absurd q c3⟩
        | refine ⟨fun q => absurd q c4, fun _ => ?_⟩
        | refine ⟨fun _ => ?_, fun q => absurd c4 q⟩
        | refine ⟨fun q => absurd c4 q, fun _ => ?_⟩
        | refine ⟨fun _ => ?_, fun q => absurd q c4⟩
        | refine ⟨fun q => absurd q c5, fun _ => ?_⟩
        | refine ⟨fun _ => ?_, fun q => absurd c5 q⟩
        | refine ⟨fun q => absurd c5 q, fun _ => ?_⟩
        | refine ⟨fun _ => ?_, fun q => absurd q c5⟩
        | refine ⟨fun q => absurd q c6, fun _ => ?_⟩
        | refine ⟨fun _ => ?_, fun q => absurd c6 q⟩
        | refine ⟨fun q => absurd c6 q, fun _ => ?_⟩
        | refine ⟨fun _ => ?_, fun q => absurd q c6⟩
        | refine ⟨fun q => absurd q c7, fun _ => ?_⟩
        | refine ⟨fun _ => ?_, fun q => absurd c7 q⟩
        | refine ⟨fun q => absurd c7 q, fun _ => ?_⟩
        | refine ⟨fun _ => ?_, fun q => absurd q c7⟩
        | refine ⟨fun q => absurd q (of_decide_eq_true rfl), fun _ => ?_⟩
        | refine ⟨fun _ => ?_, fun q => absurd q (of_decide_eq_true rfl)⟩
        | refine ⟨jx_vin rfl, ?_⟩
        | refine ji_68 ?_
        | refine ji_69 ?_
        | refine ji_79 ?_
        | refine ji_89 ?_
      exact hQ _ rfl
    · subst hT
      refine ji_133 ?_
      repeat first
        | refine ⟨Or.inr rfl, ?_⟩
        | refine ⟨Or.inl rfl, ?_⟩
        | refine ⟨fun q => absurd q l1, fun _ => ?_⟩
        | refine ⟨fun _ => ?_, fun q => absurd l1 q⟩
        | refine ⟨fun q => absurd l1 q, fun _ => ?_⟩
        | refine ⟨fun _ => ?_, fun q => absurd q l1⟩
        | refine ⟨fun q => absurd q m1, fun _ => ?_⟩
        | refine ⟨fun _ => ?_, fun q => absurd m1 q⟩
        | refine ⟨fun q => absurd m1 q, fun _ => ?_⟩
        | refine ⟨fun _ => ?_, fun q => absurd q m1⟩
        | refine ⟨fun q => absurd q c1, fun _ => ?_⟩
        | refine ⟨fun _ => ?_, fun q => absurd c1 q⟩
        | refine ⟨fun q => absurd c1 q, fun _ => ?_⟩
        | refine ⟨fun _ => ?_, fun q => absurd q c1⟩
        | refine ⟨fun q => absurd q (of_decide_eq_true rfl), fun _ => ?_⟩
        | refine ⟨fun _ => ?_, fun q => absurd q (of_decide_eq_true rfl)⟩
        | refine ⟨jx_vin rfl, ?_⟩
        | refine ji_68 ?_
        | refine ji_69 ?_
        | refine ji_79 ?_
        | refine ji_89 ?_
      refine hQ _ ?_
      exact hI

  · rcases (by omega : j = 0 ∨ j = 1 ∨ j = 2 ∨ j = 3 ∨ j = 4 ∨ j = 5) with rfl | rfl | rfl | rfl | rfl | rfl
    · have vx : vp_in (nI q * 3 + nI 0) 144 := by rw [jl_x3 (o := q) 0 (by omega) (by decide)]; exact vp_in_nI (by omega) (by decide)
      have vm : vp_in (3 * nI q + nI 0) 144 := by rw [jl_m3 (o := q) 0 (by omega) (by decide)]; exact vp_in_nI (by omega) (by decide)
      have ef : σ 19 (nI q * 3 + nI 0).toNatClampNeg = σ 48 (3 * nI q + nI 0).toNatClampNeg := by
        rw [jl_x3 (o := q) 0 (by omega) (by decide), jl_m3 (o := q) 0 (by omega) (by decide), nI_clamp (by omega)]
        exact (o6 0 (by decide)).1
      refine ⟨σ 19 (nI q * 3 + nI 0).toNatClampNeg, fun σ1 => σ1 = σ, fun Q hQ => ji_15 ?_, fun σ1 hT Q hQ => ?_⟩
      · skip
        repeat first
          | refine ⟨Or.inr rfl, ?_⟩
          | refine ⟨Or.inl rfl, ?_⟩
          | refine ⟨fun q => absurd q l1, fun _ => ?_⟩
          | refine ⟨fun _ => ?_, fun q => absurd l1 q⟩
          | refine ⟨fun q => absurd l1 q, fun _ => ?_⟩
          | refine ⟨fun _ => ?_, fun q => absurd q l1⟩
          | refine ⟨fun q => absurd q x1, fun _ => ?_⟩
          | refine ⟨fun _ => ?_, fun q => absurd x1 q⟩
          | refine ⟨fun q => absurd x1 q, fun _ => ?_⟩
          | refine ⟨fun _ => ?_, fun q => absurd q x1⟩
          | refine ⟨fun q => absurd q (of_decide_eq_true rfl), fun _ => ?_⟩
          | refine ⟨fun _ => ?_, fun q => absurd q (of_decide_eq_true rfl)⟩
          | refine ⟨jx_vin rfl, ?_⟩
          | refine ⟨vx, ?_⟩
          | refine ji_68 ?_
          | refine ji_69 ?_
          | refine ji_79 ?_
          | refine ji_89 ?_
        exact hQ _ rfl
      · subst hT
        rw [ef] at hQ
        refine ji_133 ?_
        repeat first
          | refine ⟨Or.inr rfl, ?_⟩
          | refine ⟨Or.inl rfl, ?_⟩
          | refine ⟨fun q => absurd q l1, fun _ => ?_⟩
          | refine ⟨fun _ => ?_, fun q => absurd l1 q⟩
          | refine ⟨fun q => absurd l1 q, fun _ => ?_⟩
          | refine ⟨fun _ => ?_, fun q => absurd q l1⟩
          | refine ⟨fun q => absurd q m1, fun _ => ?_⟩
          | refine ⟨fun _ => ?_, fun q => absurd m1 q⟩
          | refine ⟨fun q => absurd m1 q, fun _ => ?_⟩
          | refine ⟨fun _ => ?_, fun q => absurd q m1⟩
          | refine ⟨fun q => absurd q (of_decide_eq_true rfl), fun _ => ?_⟩
          | refine ⟨fun _ => ?_, fun q => absurd q (of_decide_eq_true rfl)⟩
          | refine ⟨jx_vin rfl, ?_⟩
          | refine ⟨vm, ?_⟩
          | refine ji_68 ?_
          | refine ji_69 ?_
          | refine ji_79 ?_
          | refine ji_89 ?_
        exact hQ _ hI
    · have vx : vp_in (nI q * 3 + nI 1) 144 := by rw [jl_x3 (o := q) 1 (by omega) (by decide)]; exact vp_in_nI (by omega) (by decide)
      have vm : vp_in (3 * nI q + nI 1) 144 := by rw [jl_m3 (o := q) 1 (by omega) (by decide)]; exact vp_in_nI (by omega) (by decide)
      have ef : σ 19 (nI q * 3 + nI 1).toNatClampNeg = σ 48 (3 * nI q + nI 1).toNatClampNeg := by
        rw [jl_x3 (o := q) 1 (by omega) (by decide), jl_m3 (o := q) 1 (by omega) (by decide), nI_clamp (by omega)]
        exact (o6 1 (by decide)).1
      refine ⟨σ 19 (nI q * 3 + nI 1).toNatClampNeg, fun σ1 => σ1 = σ, fun Q hQ => ji_15 ?_, fun σ1 hT Q hQ => ?_⟩
      · skip
        repeat first
          | refine ⟨Or.inr rfl, ?_⟩
          | refine ⟨Or.inl rfl, ?_⟩
          | refine ⟨fun q => absurd q l1, fun _ => ?_⟩
          | refine ⟨fun _ => ?_, fun q => absurd l1 q⟩
          | refine ⟨fun q => absurd l1 q, fun _ => ?_⟩
          | refine ⟨fun _ => ?_, fun q => absurd q l1⟩
          | refine ⟨fun q => absurd q x1, fun _ => ?_⟩
          | refine ⟨fun _ => ?_, fun q => absurd x1 q⟩
          | refine ⟨fun q => absurd x1 q, fun _ => ?_⟩
          | refine ⟨fun _ => ?_, fun q => absurd q x1⟩
          | refine ⟨fun q => absurd q (of_decide_eq_true rfl), fun _ => ?_⟩
          | refine ⟨fun _ => ?_, fun q => absurd q (of_decide_eq_true rfl)⟩
          | refine ⟨jx_vin rfl, ?_⟩
          | refine ⟨vx, ?_⟩
          | refine ji_68 ?_
          | refine ji_69 ?_
          | refine ji_79 ?_
          | refine ji_89 ?_
        exact hQ _ rfl
      · subst hT
        rw [ef] at hQ
        refine ji_133 ?_
        repeat first
          | refine ⟨Or.inr rfl, ?_⟩
          | refine ⟨Or.inl rfl, ?_⟩
          | refine ⟨fun q => absurd q l1, fun _ => ?_⟩
          | refine ⟨fun _ => ?_, fun q => absurd l1 q⟩
          | refine ⟨fun q => absurd l1 q, fun _ => ?_⟩
          | refine ⟨fun _ => ?_, fun q => absurd q l1⟩
          | refine ⟨fun q => absurd q m1, fun _ => ?_⟩
          | refine ⟨fun _ => ?_, fun q => absurd m1 q⟩
          | refine ⟨fun q => absurd m1 q, fun _ => ?_⟩
          | refine ⟨fun _ => ?_, fun q => absurd q m1⟩
          | refine ⟨fun q => absurd q (of_decide_eq_true rfl), fun _ => ?_⟩
          | refine ⟨fun _ => ?_, fun q => absurd q (of_decide_eq_true rfl)⟩
          | refine ⟨jx_vin rfl, ?_⟩
          | refine ⟨vm, ?_⟩
          | refine ji_68 ?_
          | refine ji_69 ?_
          | refine ji_79 ?_
          | refine ji_89 ?_
        exact hQ _ hI
    · have vx : vp_in (nI q * 3 + nI 2) 144 := by rw [jl_x3 (o := q) 2 (by omega) (by decide)]; exact vp_in_nI (by omega) (by decide)
      have vm : vp_in (3 * nI q + nI 2) 144 := by rw [jl_m3 (o := q) 2 (by omega) (by decide)]; exact vp_in_nI (by omega) (by decide)
      have ef : σ 19 (nI q * 3 + nI 2).toNatClampNeg = σ 48 (3 * nI q + nI 2).toNatClampNeg := by
        rw [jl_x3 (o := q) 2 (by omega) (by decide), jl_m3 (o := q) 2 (by omega) (by decide), nI_clamp (by omega)]
        exact (o6 2 (by decide)).1
      refine ⟨σ 19 (nI q * 3 + nI 2).toNatClampNeg, fun σ1 => σ1 = σ, fun Q hQ => ji_15 ?_, fun σ1 hT Q hQ => ?_⟩
      · skip
        repeat first
          | refine ⟨Or.inr rfl, ?_⟩
          | refine ⟨Or.inl rfl, ?_⟩
          | refine ⟨fun q => absurd q l1, fun _ => ?_⟩
          | refine ⟨fun _ => ?_, fun q => absurd l1 q⟩
          | refine ⟨fun q => absurd l1 q, fun _ => ?_⟩
          | refine ⟨fun _ => ?_, fun q => absurd q l1⟩
          | refine ⟨fun q => absurd q x1, fun _ => ?_⟩
          | refine ⟨fun _ => ?_, fun q => absurd x1 q⟩
          | refine ⟨fun q => absurd x1 q, fun _ => ?_⟩
          | refine ⟨fun _ => ?_, fun q => absurd q x1⟩
          | refine ⟨fun q => absurd q (of_decide_eq_true rfl), fun _ => ?_⟩
          | refine ⟨fun _ => ?_, fun q => absurd q (of_decide_eq_true rfl)⟩
          | refine ⟨jx_vin rfl, ?_⟩
          | refine ⟨vx, ?_⟩
          | refine ji_68 ?_
          | refine ji_69 ?_
          | refine ji_79 ?_
          | refine ji_89 ?_
        exact hQ _ rfl
      · subst hT
        rw [ef] at hQ
        refine ji_133 ?_
        repeat first
          | refine ⟨Or.inr rfl, ?_⟩
          | refine ⟨Or.inl rfl, ?_⟩
          | refine ⟨fun q => absurd q l1, fun _ => ?_⟩
          | refine ⟨fun _ => ?_, fun q => absurd l1 q⟩
          | refine ⟨fun q => absurd l1 q, fun _ => ?_⟩
          | refine ⟨fun _ => ?_, fun q => absurd q l1⟩
          | refine ⟨fun q => absurd q m1, fun _ => ?_⟩
          | refine ⟨fun _ => ?_, fun q => absurd m1 q⟩
          | refine ⟨fun q => absurd m1 q, fun _ => ?_⟩
          | refine ⟨fun _ => ?_, fun q => absurd q m1⟩
          | refine ⟨fun q => absurd q (of_decide_eq_true rfl), fun _ => ?_⟩
          | refine ⟨fun _ => ?_, fun q => absurd q (of_decide_eq_true rfl)⟩
          | refine ⟨jx_vin rfl, ?_⟩
          | refine ⟨vm, ?_⟩
          | refine ji_68 ?_
          | refine ji_69 ?_
          | refine ji_79 ?_
          | refine ji_89 ?_
        exact hQ _ hI
    · have ef : σ 17 (nI q).toNatClampNeg = σ 49 (nI q).toNatClampNeg := by rw [ecl]; exact o1
      refine ⟨σ 17 (nI q).toNatClampNeg, fun σ1 => σ1 = σ, fun Q hQ => ji_15 ?_, fun σ1 hT Q hQ => ?_⟩
      · skip
        repeat first
          | refine ⟨Or.inr rfl, ?_⟩
          | refine ⟨Or.inl rfl, ?_⟩
          | refine ⟨fun q => absurd q l1, fun _ => ?_⟩
          | refine ⟨fun _ => ?_, fun q => absurd l1 q⟩
          | refine ⟨fun q => absurd l1 q, fun _ => ?_⟩
          | refine ⟨fun _ => ?_, fun q => absurd q l1⟩
          | refine ⟨fun q => absurd q x1, fun _ => ?_⟩
          | refine ⟨fun _ => ?_, fun q => absurd x1 q⟩
          | refine ⟨fun q => absurd x1 q, fun _ => ?_⟩
          | refine ⟨fun _ => ?_, fun q => absurd q x1⟩
          | refine ⟨fun q => absurd q (of_decide_eq_true rfl), fun _ => ?_⟩
          | refine ⟨fun _ => ?_, fun q => absurd q (of_decide_eq_true rfl)⟩
          | refine ⟨jx_vin rfl, ?_⟩
          | refine ⟨v48, ?_⟩
          | refine ji_68 ?_
          | refine ji_69 ?_
          | refine ji_79 ?_
          | refine ji_89 ?_
        exact hQ _ rfl
      · subst hT
        rw [ef] at hQ
        refine ji_133 ?_
        repeat first
          | refine ⟨Or.inr rfl, ?_⟩
          | refine ⟨Or.inl rfl, ?_⟩
          | refine ⟨fun q => absurd q l1, fun _ => ?_⟩
          | refine ⟨fun _ => ?_, fun q => absurd l1 q⟩
          | refine ⟨fun q => absurd l1 q, fun _ => ?_⟩
          | refine ⟨fun _ => ?_, fun q => absurd q l1⟩
          | refine ⟨fun q => absurd q m1, fun _ => ?_⟩
          | refine ⟨fun _ => ?_, fun q => absurd m1 q⟩
          | refine ⟨fun q => absurd m1 q, fun _ => ?_⟩
          | refine ⟨fun _ => ?_, fun q => absurd q m1⟩
          | refine ⟨fun q => absurd q (of_decide_eq_true rfl), fun _ => ?_⟩
          | refine ⟨fun _ => ?_, fun q => absurd q (of_decide_eq_true rfl)⟩
          | refine ⟨jx_vin rfl, ?_⟩
          | refine ⟨v48, ?_⟩
          | refine ji_68 ?_
          | refine ji_69 ?_
          | refine ji_79 ?_
          | refine ji_89 ?_
        exact hQ _ hI
    · have ef : σ 18 (nI q).toNatClampNeg = σ 50 (nI q).toNatClampNeg := by rw [ecl]; exact o2
      refine ⟨σ 18 (nI q).toNatClampNeg, fun σ1 => σ1 = σ, fun Q hQ => ji_15 ?_, fun σ1 hT Q hQ => ?_⟩
      · skip
        repeat first
          | refine ⟨Or.inr rfl, ?_⟩
          | refine ⟨Or.inl rfl, ?_⟩
          | refine ⟨fun q => absurd q l1, fun _ => ?_⟩
          | refine ⟨fun _ => ?_, fun q => absurd l1 q⟩
          | refine ⟨fun q => absurd l1 q, fun _ => ?_⟩
          | refine ⟨fun _ => ?_, fun q => absurd q l1⟩
          | refine ⟨fun q => absurd q x1, fun _ => ?_⟩
          | refine ⟨fun _ => ?_, fun q => absurd x1 q⟩
          | refine ⟨fun q => absurd x1 q, fun _ => ?_⟩
          | refine ⟨fun _ => ?_, fun q => absurd q x1⟩
          | refine ⟨fun q => absurd q (of_decide_eq_true rfl), fun _ => ?_⟩
          | refine ⟨fun _ => ?_, fun q => absurd q (of_decide_eq_true rfl)⟩
          | refine ⟨jx_vin rfl, ?_⟩
          | refine ⟨v48, ?_⟩
          | refine ji_68 ?_
          | refine ji_69 ?_
          | refine ji_79 ?_
          | refine ji_89 ?_
        exact hQ _ rfl
      · subst hT
        rw [ef] at hQ
        refine ji_133 ?_
        repeat first
          | refine ⟨Or.inr rfl, ?_⟩
          | refine ⟨Or.inl rfl, ?_⟩
          | refine ⟨fun q => absurd q l1, fun _ => ?_⟩
          | refine ⟨fun _ => ?_, fun q => absurd l1 q⟩
          | refine ⟨fun q => absurd l1 q, fun _ => ?_⟩
          | refine ⟨fun _ => ?_, fun q => absurd q l1⟩
          | refine ⟨fun q => absurd q m1, fun _ => ?_⟩
          | refine ⟨fun _ => ?_, fun q => absurd m1 q⟩
          | refine ⟨fun q => absurd m1 q, fun _ => ?_⟩
          | refine ⟨fun _ => ?_, fun q => absurd q m1⟩
          | refine ⟨fun q => absurd q (of_decide_eq_true rfl), fun _ => ?_⟩
          | refine ⟨fun _ => ?_, fun q => absurd q (of_decide_eq_true rfl)⟩
          | refine ⟨jx_vin rfl, ?_⟩
          | refine ⟨v48, ?_⟩
          | refine ji_68 ?_
          | refine ji_69 ?_
          | refine ji_79 ?_
          | refine ji_89 ?_
        exact hQ _ hI
    · rcases o5 with s1 | ⟨z, hz1, s1⟩
      · have xs : σ 20 (nI q).toNatClampNeg = -1 := by rw [ecl, o3]; exact s1
        have ms : σ 52 (nI q).toNatClampNeg < 0 := by rw [ecl, s1]; decide
        refine ⟨0, fun σ1 => σ1 = σ, fun Q hQ => ji_15 ?_, fun σ1 hT Q hQ => ?_⟩
        · skip
          repeat first
            | refine ⟨Or.inr rfl, ?_⟩
            | refine ⟨Or.inl rfl, ?_⟩
            | refine ⟨fun q => absurd q l1, fun _ => ?_⟩
            | refine ⟨fun _ => ?_, fun q => absurd l1 q⟩
            | refine ⟨fun q => absurd l1 q, fun _ => ?_⟩
            | refine ⟨fun _ => ?_, fun q => absurd q l1⟩
            | refine ⟨fun q => absurd q x1, fun _ => ?_⟩
            | refine ⟨fun _ => ?_, fun q => absurd x1 q⟩
            | refine ⟨fun q => absurd x1 q, fun _ => ?_⟩
            | refine ⟨fun _ => ?_, fun q => absurd q x1⟩
            | refine ⟨fun q => absurd q xs, fun _ => ?_⟩
            | refine ⟨fun _ => ?_, fun q => absurd xs q⟩
            | refine ⟨fun q => absurd xs q, fun _ => ?_⟩
            | refine ⟨fun _ => ?_, fun q => absurd q xs⟩
            | refine ⟨fun q => absurd q (of_decide_eq_true rfl), fun _ => ?_⟩
            | refine ⟨fun _ => ?_, fun q => absurd q (of_decide_eq_true rfl)⟩
            | refine ⟨jx_vin rfl, ?_⟩
            | refine ⟨v48, ?_⟩
            | refine ji_68 ?_
            | refine ji_69 ?_
            | refine ji_79 ?_
            | refine ji_89 ?_
          exact hQ _ rfl
        · subst hT
          refine ji_133 ?_
          repeat first
            | refine ⟨Or.inr rfl, ?_⟩
            | refine ⟨Or.inl rfl, ?_⟩
            | refine ⟨fun q => absurd q l1, fun _ => ?_⟩
            | refine ⟨fun _ => ?_, fun q => absurd l1 q⟩
            | refine ⟨fun q => absurd l1 q, fun _ => ?_⟩
            | refine ⟨fun _ => ?_, fun q => absurd q l1⟩
            | refine ⟨fun q => absurd q m1, fun _ => ?_⟩
            | refine ⟨fun _ => ?_, fun q => absurd m1 q⟩
            | refine ⟨fun q => absurd m1 q, fun _ => ?_⟩
            | refine ⟨fun _ => ?_, fun q => absurd q m1⟩
            | refine ⟨fun q => absurd q ms, fun _ => ?_⟩
            | refine ⟨fun _ => ?_, fun q => absurd ms q⟩
            | refine ⟨fun q => absurd ms q, fun _ => ?_⟩
            | refine ⟨fun _ => ?_, fun q => absurd q ms⟩
            | refine ⟨fun q => absurd q (of_decide_eq_true rfl), fun _ => ?_⟩
            | refine ⟨fun _ => ?_, fun q => absurd q (of_decide_eq_true rfl)⟩
            | refine ⟨jx_vin rfl, ?_⟩
            | refine ⟨v48, ?_⟩
            | refine ji_68 ?_
            | refine ji_69 ?_
            | refine ji_79 ?_
            | refine ji_89 ?_
          refine hQ _ ?_
          exact hI

      · have xs : ¬ σ 20 (nI q).toNatClampNeg = -1 := by
          rw [ecl, o3, s1]
          intro q9
          have := congrArg Int32.toInt q9
          rw [nI_toInt (by omega)] at this
          exact absurd this (by show ¬ (z : Int) = -1; omega)
        have ms : ¬ σ 52 (nI q).toNatClampNeg < 0 := by rw [ecl, s1]; exact nI_pos (by omega)
        refine ⟨1, fun σ1 => σ1 = σ, fun Q hQ => ji_15 ?_, fun σ1 hT Q hQ => ?_⟩
        · skip
          repeat first
            | refine ⟨Or.inr rfl, ?_⟩
            | refine ⟨Or.inl rfl, ?_⟩
            | refine ⟨fun q => absurd q l1, fun _ => ?_⟩
            | refine ⟨fun _ => ?_, fun q => absurd l1 q⟩
            | refine ⟨fun q => absurd l1 q, fun _ => ?_⟩
            | refine ⟨fun _ => ?_, fun q => absurd q l1⟩
            | refine ⟨fun q => absurd q x1, fun _ => ?_⟩
            | refine ⟨fun _ => ?_, fun q => absurd x1 q⟩
            | refine ⟨fun q => absurd x1 q, fun _ => ?_⟩
            | refine ⟨fun _ => ?_, fun q => absurd q x1⟩
            | refine ⟨fun q => absurd q xs, fun _ => ?_⟩
            | refine ⟨fun _ => ?_, fun q => absurd xs q⟩
            | refine ⟨fun q => absurd xs q, fun _ => ?_⟩
            | refine ⟨fun _ => ?_, fun q => absurd q xs⟩
            | refine ⟨fun q => absurd q (of_decide_eq_true rfl), fun _ => ?_⟩
            | refine ⟨fun _ => ?_, fun q => absurd q (of_decide_eq_true rfl)⟩
            | refine ⟨jx_vin rfl, ?_⟩
            | refine ⟨v48, ?_⟩
            | refine ji_68 ?_
            | refine ji_69 ?_
            | refine ji_79 ?_
            | refine ji_89 ?_
          exact hQ _ rfl
        · subst hT
          refine ji_133 ?_
          repeat first
            | refine ⟨Or.inr rfl, ?_⟩
            | refine ⟨Or.inl rfl, ?_⟩
            | refine ⟨fun q => absurd q l1, fun _ => ?_⟩
            | refine ⟨fun _ => ?_, fun q => absurd l1 q⟩
            | refine ⟨fun q => absurd l1 q, fun _ => ?_⟩
            | refine ⟨fun _ => ?_, fun q => absurd q l1⟩
            | refine ⟨fun q => absurd q m1, fun _ => ?_⟩
            | refine ⟨fun _ => ?_, fun q => absurd m1 q⟩
            | refine ⟨fun q => absurd m1 q, fun _ => ?_⟩
            | refine ⟨fun _ => ?_, fun q => absurd q m1⟩
            | refine ⟨fun q => absurd q ms, fun _ => ?_⟩
            | refine ⟨fun _ => ?_, fun q => absurd ms q⟩
            | refine ⟨fun q => absurd ms q, fun _ => ?_⟩
            | refine ⟨fun _ => ?_, fun q => absurd q ms⟩
            | refine ⟨fun q => absurd q (of_decide_eq_true rfl), fun _ => ?_⟩
            | refine ⟨fun _ => ?_, fun q => absurd q (of_decide_eq_true rfl)⟩
            | refine ⟨jx_vin rfl, ?_⟩
            | refine ⟨v48, ?_⟩
            | refine ji_68 ?_
            | refine ji_69 ?_
            | refine ji_79 ?_
            | refine ji_89 ?_
          refine hQ _ ?_
          exact hI

  · skip
    refine ⟨(-1), fun σ1 => σ1 = σ, fun Q hQ => ji_15 ?_, fun σ1 hT Q hQ => ?_⟩
    · skip
      repeat first
        | refine ⟨Or.inr rfl, ?_⟩
        | refine ⟨Or.inl rfl, ?_⟩
        | refine ⟨fun q => absurd q l1, fun _ => ?_⟩
        | refine ⟨fun _ => ?_, fun q => absurd l1 q⟩
        | refine ⟨fun q => absurd l1 q, fun _ => ?_⟩
        | refine ⟨fun _ => ?_, fun q => absurd q l1⟩
        | refine ⟨fun q => absurd q x1, fun _ => ?_⟩
        | refine ⟨fun _ => ?_, fun q => absurd x1 q⟩
        | refine ⟨fun q => absurd x1 q, fun _ => ?_⟩
        | refine ⟨fun _ => ?_, fun q => absurd q x1⟩
        | refine ⟨fun q => absurd q c2, fun _ => ?_⟩
        | refine ⟨fun _ => ?_, fun q => absurd c2 q⟩
        | refine ⟨fun q => absurd c2 q, fun _ => ?_⟩
        | refine ⟨fun _ => ?_, fun q => absurd q c2⟩
        | refine ⟨fun q => absurd q c3, fun _ => ?_⟩
        | refine ⟨fun _ => ?_, fun q => absurd c3 q⟩
        | refine ⟨fun q => absurd c3 q, fun _ => ?_⟩
        | refine ⟨fun _ => ?_, fun q => absurd q c3⟩
        | refine ⟨fun q => absurd q c4, fun _ => ?_⟩
        | refine ⟨fun _ => ?_, fun q => absurd c4 q⟩
        | refine ⟨fun q => absurd c4 q, fun _ => ?_⟩
        | refine ⟨fun _ => ?_, fun q => absurd q c4⟩
        | refine ⟨fun q => absurd q c5, fun _ => ?_⟩
        | refine ⟨fun _ => ?_, fun q => absurd c5 q⟩
        | refine ⟨fun q => absurd c5 q, fun _ => ?_⟩
        | refine ⟨fun _ => ?_, fun q => absurd q c5⟩
        | refine ⟨fun q => absurd q c6, fun _ => ?_⟩
        | refine ⟨fun _ => ?_, fun q => absurd c6 q⟩
        | refine ⟨fun q => absurd c6 q, fun _ => ?_⟩
        | refine ⟨fun _ => ?_, fun q => absurd q c6⟩
        | refine ⟨fun q => absurd q c7, fun _ => ?_⟩
        | refine ⟨fun _ => ?_, fun q => absurd c7 q⟩
        | refine ⟨fun q => absurd c7 q, fun _ => ?_⟩
        | refine ⟨fun _ => ?_, fun q => absurd q c7⟩
        | refine ⟨fun q => absurd q (of_decide_eq_true rfl), fun _ => ?_⟩
        | refine ⟨fun _ => ?_, fun q => absurd q (of_decide_eq_true rfl)⟩
        | refine ⟨jx_vin rfl, ?_⟩
        | refine ji_68 ?_
        | refine ji_69 ?_
        | refine ji_79 ?_
        | refine ji_89 ?_
      exact hQ _ rfl
    · subst hT
      refine ji_133 ?_
      repeat first
        | refine ⟨Or.inr rfl, ?_⟩
        | refine ⟨Or.inl rfl, ?_⟩
        | refine ⟨fun q => absurd q l1, fun _ => ?_⟩
        | refine ⟨fun _ => ?_, fun q => absurd l1 q⟩
        | refine ⟨fun q => absurd l1 q, fun _ => ?_⟩
        | refine ⟨fun _ => ?_, fun q => absurd q l1⟩
        | refine ⟨fun q => absurd q m1, fun _ => ?_⟩
        | refine ⟨fun _ => ?_, fun q => absurd m1 q⟩
        | refine ⟨fun q => absurd m1 q, fun _ => ?_⟩
        | refine ⟨fun _ => ?_, fun q => absurd q m1⟩
        | refine ⟨fun q => absurd q c0, fun _ => ?_⟩
        | refine ⟨fun _ => ?_, fun q => absurd c0 q⟩
        | refine ⟨fun q => absurd c0 q, fun _ => ?_⟩
        | refine ⟨fun _ => ?_, fun q => absurd q c0⟩
        | refine ⟨fun q => absurd q c1, fun _ => ?_⟩
        | refine ⟨fun _ => ?_, fun q => absurd c1 q⟩
        | refine ⟨fun q => absurd c1 q, fun _ => ?_⟩
        | refine ⟨fun _ => ?_, fun q => absurd q c1⟩
        | refine ⟨fun q => absurd q (of_decide_eq_true rfl), fun _ => ?_⟩
        | refine ⟨fun _ => ?_, fun q => absurd q (of_decide_eq_true rfl)⟩
        | refine ⟨jx_vin rfl, ?_⟩
        | refine ji_68 ?_
        | refine ji_69 ?_
        | refine ji_79 ?_
        | refine ji_89 ?_
      refine hQ _ ?_
      exact hI


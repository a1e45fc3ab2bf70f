set_option maxHeartbeats 4000000 in
theorem jv_spend {l : Launch} {D : va_G} {cA : ClassId} {ρ : Nat → Nat} {d : Nat} : jq_spend l D cA ρ (d + 3) iv_V iv_V := by
  intro σ hI a1 a2
  obtain ⟨iD, iS, iR, ⟨n, hn, e1, e2, hin⟩, iG, iM, iT, iL⟩ := id hI
  have hn4 : n = 0 ∨ n = 1 ∨ n = 2 ∨ n = 3 := by omega
  rcases hn4 with rfl | rfl | rfl | rfl
  · skip
    have xa : ¬ (3 : Int32) ≤ σ 23 2 := by rw [e1]; decide
    have xb : σ 23 2 < 3 := by rw [e1]; decide
    have ma : ¬ σ 34 33 = 3 := by rw [e2]; decide
    have xn : σ 23 2 ≤ 0 := by rw [e1]; decide
    have mn : σ 34 33 ≤ 0 := by rw [e2]; decide
    have vx : vp_in (σ 23 2) 3 := by rw [e1]; exact jx_vin rfl
    have vm : vp_in (σ 34 33) 3 := by rw [e2]; exact jx_vin rfl
    by_cases l1 : a1 < 0
    · skip
      refine ⟨0, fun σ1 => σ1 = σ, fun Q hQ => ji_6 ?_, fun σ1 hT Q hQ => ?_⟩
      · skip
        repeat first
          | refine ⟨Or.inr rfl, ?_⟩
          | refine ⟨Or.inl rfl, ?_⟩
          | refine ⟨fun q => absurd q l1, fun _ => ?_⟩
          | refine ⟨fun _ => ?_, fun q => absurd l1 q⟩
          | refine ⟨fun q => absurd l1 q, fun _ => ?_⟩
          | refine ⟨fun _ => ?_, fun q => absurd q l1⟩
          | refine ⟨fun q => absurd q xa, fun _ => ?_⟩
          | refine ⟨fun _ => ?_, fun q => absurd xa q⟩
          | refine ⟨fun q => absurd xa q, fun _ => ?_⟩
          | refine ⟨fun _ => ?_, fun q => absurd q xa⟩
          | refine ⟨fun q => absurd q xb, fun _ => ?_⟩
          | refine ⟨fun _ => ?_, fun q => absurd xb q⟩
          | refine ⟨fun q => absurd xb q, fun _ => ?_⟩
          | refine ⟨fun _ => ?_, fun q => absurd q xb⟩
          | refine ⟨fun q => absurd q ma, fun _ => ?_⟩
          | refine ⟨fun _ => ?_, fun q => absurd ma q⟩
          | refine ⟨fun q => absurd ma q, fun _ => ?_⟩
          | refine ⟨fun _ => ?_, fun q => absurd q ma⟩
          | refine ⟨fun q => absurd q xn, fun _ => ?_⟩
          | refine ⟨fun _ => ?_, fun q => absurd xn q⟩
          | refine ⟨fun q => absurd xn q, fun _ => ?_⟩
          | refine ⟨fun _ => ?_, fun q => absurd q xn⟩
          | refine ⟨fun q => absurd q mn, fun _ => ?_⟩
          | refine ⟨fun _ => ?_, fun q => absurd mn q⟩
          | refine ⟨fun q => absurd mn q, fun _ => ?_⟩
          | refine ⟨fun _ => ?_, fun q => absurd q mn⟩
          | refine ⟨fun q => absurd q (of_decide_eq_true rfl), fun _ => ?_⟩
          | refine ⟨fun _ => ?_, fun q => absurd q (of_decide_eq_true rfl)⟩
          | refine ⟨jx_vin rfl, ?_⟩
          | refine ⟨vx, ?_⟩
          | refine ⟨vm, ?_⟩
          | refine ji_84 ?_
          | refine ji_85 ?_
          | refine ji_111 ?_
        exact hQ _ rfl
      · subst hT
        refine ji_112 ?_
        repeat first
          | refine ⟨Or.inr rfl, ?_⟩
          | refine ⟨Or.inl rfl, ?_⟩
          | refine ⟨fun q => absurd q l1, fun _ => ?_⟩
          | refine ⟨fun _ => ?_, fun q => absurd l1 q⟩
          | refine ⟨fun q => absurd l1 q, fun _ => ?_⟩
          | refine ⟨fun _ => ?_, fun q => absurd q l1⟩
          | refine ⟨fun q => absurd q xa, fun _ => ?_⟩
          | refine ⟨fun _ => ?_, fun q => absurd xa q⟩
          | refine ⟨fun q => absurd xa q, fun _ => ?_⟩
          | refine ⟨fun _ => ?_, fun q => absurd q xa⟩
          | refine ⟨fun q => absurd q xb, fun _ => ?_⟩
          | refine ⟨fun _ => ?_, fun q => absurd xb q⟩
          | refine ⟨fun q => absurd xb q, fun _ => ?_⟩
          | refine ⟨fun _ => ?_, fun q => absurd q xb⟩
          | refine ⟨fun q => absurd q ma, fun _ => ?_⟩
          | refine ⟨fun _ => ?_, fun q => absurd ma q⟩
          | refine ⟨fun q => absurd ma q, fun _ => ?_⟩
          | refine ⟨fun _ => ?_, fun q => absurd q ma⟩
          | refine ⟨fun q => absurd q xn, fun _ => ?_⟩
          | refine ⟨fun _ => ?_, fun q => absurd xn q⟩
          | refine ⟨fun q => absurd xn q, fun _ => ?_⟩
          | refine ⟨fun _ => ?_, fun q => absurd q xn⟩
          | refine ⟨fun q => absurd q mn, fun _ => ?_⟩
          | refine ⟨fun _ => ?_, fun q => absurd mn q⟩
          | refine ⟨fun q => absurd mn q, fun _ => ?_⟩
          | refine ⟨fun _ => ?_, fun q => absurd q mn⟩
          | refine ⟨fun q => absurd q (of_decide_eq_true rfl), fun _ => ?_⟩
          | refine ⟨fun _ => ?_, fun q => absurd q (of_decide_eq_true rfl)⟩
          | refine ⟨jx_vin rfl, ?_⟩
          | refine ⟨vx, ?_⟩
          | refine ⟨vm, ?_⟩
          | refine ji_84 ?_
          | refine ji_85 ?_
          | refine ji_111 ?_
        refine hQ _ ?_
        exact hI

    refine ⟨1, fun σ1 => σ1 = jx_su (jx_su (jx_su σ 24 (σ 23 2).toNatClampNeg a1) 25 (σ 23 2).toNatClampNeg a2) 23 2 (σ 23 2 + 1), fun Q hQ => ji_6 ?_, fun σ1 hT Q hQ => ?_⟩
    · skip
      repeat first
        | refine ⟨Or.inr rfl, ?_⟩
        | refine ⟨Or.inl rfl, ?_⟩
        | refine ⟨fun q => absurd q l1, fun _ => ?_⟩
        | refine ⟨fun _ => ?_, fun q => absurd l1 q⟩
        | refine ⟨fun q => absurd l1 q, fun _ => ?_⟩
        | refine ⟨fun _ => ?_, fun q => absurd q l1⟩
        | refine ⟨fun q => absurd q xa, fun _ => ?_⟩
        | refine ⟨fun _ => ?_, fun q => absurd xa q⟩
        | refine ⟨fun q => absurd xa q, fun _ => ?_⟩
        | refine ⟨fun _ => ?_, fun q => absurd q xa⟩
        | refine ⟨fun q => absurd q xb, fun _ => ?_⟩
        | refine ⟨fun _ => ?_, fun q => absurd xb q⟩
        | refine ⟨fun q => absurd xb q, fun _ => ?_⟩
        | refine ⟨fun _ => ?_, fun q => absurd q xb⟩
        | refine ⟨fun q => absurd q ma, fun _ => ?_⟩
        | refine ⟨fun _ => ?_, fun q => absurd ma q⟩
        | refine ⟨fun q => absurd ma q, fun _ => ?_⟩
        | refine ⟨fun _ => ?_, fun q => absurd q ma⟩
        | refine ⟨fun q => absurd q xn, fun _ => ?_⟩
        | refine ⟨fun _ => ?_, fun q => absurd xn q⟩
        | refine ⟨fun q => absurd xn q, fun _ => ?_⟩
        | refine ⟨fun _ => ?_, fun q => absurd q xn⟩
        | refine ⟨fun q => absurd q mn, fun _ => ?_⟩
        | refine ⟨fun _ => ?_, fun q => absurd mn q⟩
        | refine ⟨fun q => absurd mn q, fun _ => ?_⟩
        | refine ⟨fun _ => ?_, fun q => absurd q mn⟩
        | refine ⟨fun q => absurd q (of_decide_eq_true rfl), fun _ => ?_⟩
        | refine ⟨fun _ => ?_, fun q => absurd q (of_decide_eq_true rfl)⟩
        | refine ⟨jx_vin rfl, ?_⟩
        | refine ⟨vx, ?_⟩
        | refine ⟨vm, ?_⟩
        | refine ji_84 ?_
        | refine ji_85 ?_
        | refine ji_111 ?_
      exact hQ _ rfl
    · subst hT
      refine ji_112 ?_
      repeat first
        | refine ⟨Or.inr rfl, ?_⟩
        | refine ⟨Or.inl rfl, ?_⟩
        | refine ⟨fun q => absurd q l1, fun _ => ?_⟩
        | refine ⟨fun _ => ?_, fun q => absurd l1 q⟩
        | refine ⟨fun q => absurd l1 q, fun _ => ?_⟩
        | refine ⟨fun _ => ?_, fun q => absurd q l1⟩
        | refine ⟨fun q => absurd q xa, fun _ => ?_⟩
        | refine ⟨fun _ => ?_, fun q => absurd xa q⟩
        | refine ⟨fun q => absurd xa q, fun _ => ?_⟩
        | refine ⟨fun _ => ?_, fun q => absurd q xa⟩
        | refine ⟨fun q => absurd q xb, fun _ => ?_⟩
        | refine ⟨fun _ => ?_, fun q => absurd xb q⟩
        | refine ⟨fun q => absurd xb q, fun _ => ?_⟩
        | refine ⟨fun _ => ?_, fun q => absurd q xb⟩
        | refine ⟨fun q => absurd q ma, fun _ => ?_⟩
        | refine ⟨fun _ => ?_, fun q => absurd ma q⟩
        | refine ⟨fun q => absurd ma q, fun _ => ?_⟩
        | refine ⟨fun _ => ?_, fun q => absurd q ma⟩
        | refine ⟨fun q => absurd q xn, fun _ => ?_⟩
        | refine ⟨fun _ => ?_, fun q => absurd xn q⟩
        | refine ⟨fun q => absurd xn q, fun _ => ?_⟩
        | refine ⟨fun _ => ?_, fun q => absurd q xn⟩
        | refine ⟨fun q => absurd q mn, fun _ => ?_⟩
        | refine ⟨fun _ => ?_, fun q => absurd mn q⟩
        | refine ⟨fun q => absurd mn q, fun _ => ?_⟩
        | refine ⟨fun _ => ?_, fun q => absurd q mn⟩
        | refine ⟨fun q => absurd q (of_decide_eq_true rfl), fun _ => ?_⟩
        | refine ⟨fun _ => ?_, fun q => absurd q (of_decide_eq_true rfl)⟩
        | refine ⟨jx_vin rfl, ?_⟩
        | refine ⟨vx, ?_⟩
        | refine ⟨vm, ?_⟩
        | refine ji_84 ?_
        | refine ji_85 ?_
        | refine ji_111 ?_
      refine hQ _ ?_
      refine ⟨iD, iS, iR, ⟨1, by decide, ?_, ?_, fun i hi => ?_⟩, iG, iM, iT, iL⟩
      · show σ 23 2 + 1 = _
        rw [e1]; rfl
      · show σ 34 33 + 1 = _
        rw [e2]; rfl
      · show upd (σ 24) (σ 23 2).toNatClampNeg a1 i = upd (σ 54) (σ 34 33).toNatClampNeg a1 i ∧ upd (σ 25) (σ 23 2).toNatClampNeg a2 i = upd (σ 55) (σ 34 33).toNatClampNeg a2 i
        rw [e1, e2]
        by_cases hh : i = 0
        · subst hh; exact ⟨rfl, rfl⟩
        · have h2 : i ≠ (nI 0).toNatClampNeg := hh
          rw [pk_un h2, pk_un h2, pk_un h2, pk_un h2]
          exact hin i (by omega)

  · skip
    have f0 := (hin 0 (by decide)).1
    have xa : ¬ (3 : Int32) ≤ σ 23 2 := by rw [e1]; decide
    have xb : σ 23 2 < 3 := by rw [e1]; decide
    have ma : ¬ σ 34 33 = 3 := by rw [e2]; decide
    have x0 : ¬ σ 23 2 ≤ 0 := by rw [e1]; decide
    have m0 : ¬ σ 34 33 ≤ 0 := by rw [e2]; decide
    have xn : σ 23 2 ≤ 1 := by rw [e1]; decide
    have mn : σ 34 33 ≤ 1 := by rw [e2]; decide
    have vx : vp_in (σ 23 2) 3 := by rw [e1]; exact jx_vin rfl
    have vm : vp_in (σ 34 33) 3 := by rw [e2]; exact jx_vin rfl
    by_cases l1 : a1 < 0
    · skip
      refine ⟨0, fun σ1 => σ1 = σ, fun Q hQ => ji_6 ?_, fun σ1 hT Q hQ => ?_⟩
      · skip
        repeat first
          | refine ⟨Or.inr rfl, ?_⟩
          | refine ⟨Or.inl rfl, ?_⟩
          | refine ⟨fun q => absurd q l1, fun _ => ?_⟩
          | refine ⟨fun _ => ?_, fun q => absurd l1 q⟩
          | refine ⟨fun q => absurd l1 q, fun _ => ?_⟩
          | refine ⟨fun _ => ?_, fun q => absurd q l1⟩
          | refine ⟨fun q => absurd q xa, fun _ => ?_⟩
          | refine ⟨fun _ => ?_, fun q => absurd xa q⟩
          | refine ⟨fun q => absurd xa q, fun _ => ?_⟩
          | refine ⟨fun _ => ?_, fun q => absurd q xa⟩
          | refine ⟨fun q => absurd q xb, fun _ => ?_⟩
          | refine ⟨fun _ => ?_, fun q => absurd xb q⟩
          | refine ⟨fun q => absurd xb q, fun _ => ?_⟩
          | refine ⟨fun _ => ?_, fun q => absurd q xb⟩
          | refine ⟨fun q => absurd q ma, fun _ => ?_⟩
          | refine ⟨fun _ => ?_, fun q => absurd ma q⟩
          | refine ⟨fun q => absurd ma q, fun _ => ?_⟩
          | refine ⟨fun _ => ?_, fun q => absurd q ma⟩
          | refine ⟨fun q => absurd q x0, fun _ => ?_⟩
          | refine ⟨fun _ => ?_, fun q => absurd x0 q⟩
          | refine ⟨fun q => absurd x0 q, fun _ => ?_⟩
          | refine ⟨fun _ => ?_, fun q => absurd q x0⟩
          | refine ⟨fun q => absurd q m0, fun _ => ?_⟩
          | refine ⟨fun _ => ?_, fun q => absurd m0 q⟩
          | refine ⟨fun q => absurd m0 q, fun _ => ?_⟩
          | refine ⟨fun _ => ?_, fun q => absurd q m0⟩
          | refine ⟨fun q => absurd q xn, fun _ => ?_⟩
          | refine ⟨fun _ => ?_, fun q => absurd xn q⟩
          | refine ⟨fun q => absurd xn q, fun _ => ?_⟩
          | refine ⟨fun _ => ?_, fun q => absurd q xn⟩
          | refine ⟨fun q => absurd q mn, fun _ => ?_⟩
          | refine ⟨fun _ => ?_, fun q => absurd mn q⟩
          | refine ⟨fun q => absurd mn q, fun _ => ?_⟩
          | refine ⟨fun _ => ?_, fun q => absurd q mn⟩
          | refine ⟨fun q => absurd q (of_decide_eq_true rfl), fun _ => ?_⟩
          | refine ⟨fun _ => ?_, fun q => absurd q (of_decide_eq_true rfl)⟩
          | refine ⟨jx_vin rfl, ?_⟩
          | refine ⟨vx, ?_⟩
          | refine ⟨vm, ?_⟩
          | refine ji_84 ?_
          | refine ji_85 ?_
          | refine ji_111 ?_
        exact hQ _ rfl
      · subst hT
        refine ji_112 ?_
        repeat first
          | refine ⟨Or.inr rfl, ?_⟩
          | refine ⟨Or.inl rfl, ?_⟩
          | refine ⟨fun q => absurd q l1, fun _ => ?_⟩
          | refine ⟨fun _ => ?_, fun q => absurd l1 q⟩
          | refine ⟨fun q => absurd l1 q, fun _ => ?_⟩
          | refine ⟨fun _ => ?_, fun q => absurd q l1⟩
          | refine ⟨fun q => absurd q xa, fun _ => ?_⟩
          | refine ⟨fun _ => ?_, fun q => absurd xa q⟩
          | refine ⟨fun q => absurd xa q, fun _ => ?_⟩
          | refine ⟨fun _ => ?_, fun q => absurd q xa⟩
          | refine ⟨fun q => absurd q xb, fun _ => ?_⟩
          | refine ⟨fun _ => ?_, fun q => absurd xb q⟩
          | refine ⟨fun q => absurd xb q, fun _ => ?_⟩
          | refine ⟨fun _ => ?_, fun q => absurd q xb⟩
          | refine ⟨fun q => absurd q ma, fun _ => ?_⟩
          | refine ⟨fun _ => ?_, fun q => absurd ma q⟩
          | refine ⟨fun q => absurd ma q, fun _ => ?_⟩
          | refine ⟨fun _ => ?_, fun q => absurd q ma⟩
          | refine ⟨fun q => absurd q x0, fun _ => ?_⟩
          | refine ⟨fun _ => ?_, fun q => absurd x0 q⟩
          | refine ⟨fun q => absurd x0 q, fun _ => ?_⟩
          | refine ⟨fun _ => ?_, fun q => absurd q x0⟩
          | refine ⟨fun q => absurd q m0, fun _ => ?_⟩
          | refine ⟨fun _ => ?_, fun q => absurd m0 q⟩
          | refine ⟨fun q => absurd m0 q, fun _ => ?_⟩
          | refine ⟨fun _ => ?_, fun q => absurd q m0⟩
          | refine ⟨fun q => absurd q xn, fun _ => ?_⟩
          | refine ⟨fun _ => ?_, fun q => absurd xn q⟩
          | refine ⟨fun q => absurd xn q, fun _ => ?_⟩
          | refine ⟨fun _ => ?_, fun q => absurd q xn⟩
          | refine ⟨fun q => absurd q mn, fun _ => ?_⟩
          | refine ⟨fun _ => ?_, fun q => absurd mn q⟩
          | refine ⟨fun q => absurd mn q, fun _ => ?_⟩
          | refine ⟨fun _ => ?_, fun q => absurd q mn⟩
          | refine ⟨fun q => absurd q (of_decide_eq_true rfl), fun _ => ?_⟩
          | refine ⟨fun _ => ?_, fun q => absurd q (of_decide_eq_true rfl)⟩
          | refine ⟨jx_vin rfl, ?_⟩
          | refine ⟨vx, ?_⟩
          | refine ⟨vm, ?_⟩
          | refine ji_84 ?_
          | refine ji_85 ?_
          | refine ji_111 ?_
        refine hQ _ ?_
        exact hI

    by_cases q0 : σ 54 0 = a1
    · have p0 : σ 24 0 = a1 := f0.trans q0
      refine ⟨0, fun σ1 => σ1 = σ, fun Q hQ => ji_6 ?_, fun σ1 hT Q hQ => ?_⟩
      · skip
        repeat first
          | refine ⟨Or.inr rfl, ?_⟩
          | refine ⟨Or.inl rfl, ?_⟩
          | refine ⟨fun q => absurd q l1, fun _ => ?_⟩
          | refine ⟨fun _ => ?_, fun q => absurd l1 q⟩
          | refine ⟨fun q => absurd l1 q, fun _ => ?_⟩
          | refine ⟨fun _ => ?_, fun q => absurd q l1⟩
          | refine ⟨fun q => absurd q p0, fun _ => ?_⟩
          | refine ⟨fun _ => ?_, fun q => absurd p0 q⟩
          | refine ⟨fun q => absurd p0 q, fun _ => ?_⟩
          | refine ⟨fun _ => ?_, fun q => absurd q p0⟩
          | refine ⟨fun q => absurd q q0, fun _ => ?_⟩
          | refine ⟨fun _ => ?_, fun q => absurd q0 q⟩
          | refine ⟨fun q => absurd q0 q, fun _ => ?_⟩
          | refine ⟨fun _ => ?_, fun q => absurd q q0⟩
          | refine ⟨fun q => absurd q xa, fun _ => ?_⟩
          | refine ⟨fun _ => ?_, fun q => absurd xa q⟩
          | refine ⟨fun q => absurd xa q, fun _ => ?_⟩
          | refine ⟨fun _ => ?_, fun q => absurd q xa⟩
          | refine ⟨fun q => absurd q xb, fun _ => ?_⟩
          | refine ⟨fun _ => ?_, fun q => absurd xb q⟩
          | refine ⟨fun q => absurd xb q, fun _ => ?_⟩
          | refine ⟨fun _ => ?_, fun q => absurd q xb⟩
          | refine ⟨fun q => absurd q ma, fun _ => ?_⟩
          | refine ⟨fun _ => ?_, fun q => absurd ma q⟩
          | refine ⟨fun q => absurd ma q, fun _ => ?_⟩
          | refine ⟨fun _ => ?_, fun q => absurd q ma⟩
          | refine ⟨fun q => absurd q x0, fun _ => ?_⟩
          | refine ⟨fun _ => ?_, fun q => absurd x0 q⟩
          | refine ⟨fun q => absurd x0 q, fun _ => ?_⟩
          | refine ⟨fun _ => ?_, fun q => absurd q x0⟩
          | refine ⟨fun q => absurd q m0, fun _ => ?_⟩
          | refine ⟨fun _ => ?_, fun q => absurd m0 q⟩
          | refine ⟨fun q => absurd m0 q, fun _ => ?_⟩
          | refine ⟨fun _ => ?_, fun q => absurd q m0⟩
          | refine ⟨fun q => absurd q xn, fun _ => ?_⟩
          | refine ⟨fun _ => ?_, fun q => absurd xn q⟩
          | refine ⟨fun q => absurd xn q, fun _ => ?_⟩
          | refine ⟨fun _ => ?_, fun q => absurd q xn⟩
          | refine ⟨fun q => absurd q mn, fun _ => ?_⟩
          | refine ⟨fun _ => ?_, fun q => absurd mn q⟩
          | refine ⟨fun q => absurd mn q, fun _ => ?_⟩
          | refine ⟨fun _ => ?_, fun q => absurd q mn⟩
          | refine ⟨fun q => absurd q (of_decide_eq_true rfl), fun _ => ?_⟩
          | refine ⟨fun _ => ?_, fun q => absurd q (of_decide_eq_true rfl)⟩
          | refine ⟨jx_vin rfl, ?_⟩
          | refine ⟨vx, ?_⟩
          | refine ⟨vm, ?_⟩
          | refine ji_84 ?_
          | refine ji_85 ?_
          | refine ji_111 ?_
        exact hQ _ rfl
      · subst hT
        refine ji_112 ?_
        repeat first
          | refine ⟨Or.inr rfl, ?_⟩
          | refine ⟨Or.inl rfl, ?_⟩
          | refine ⟨fun q => absurd q l1, fun _ => ?_⟩
          | refine ⟨fun _ => ?_, fun q => absurd l1 q⟩
          | refine ⟨fun q => absurd l1 q, fun _ => ?_⟩
          | refine ⟨fun _ => ?_, fun q => absurd q l1⟩
          | refine ⟨fun q => absurd q p0, fun _ => ?_⟩
          | refine ⟨fun _ => ?_, fun q => absurd p0 q⟩
          | refine ⟨fun q => absurd p0 q, fun _ => ?_⟩
          | refine ⟨fun _ => ?_, fun q => absurd q p0⟩
          | refine ⟨fun q => absurd q q0, fun _ => ?_⟩
          | refine ⟨fun _ => ?_, fun q => absurd q0 q⟩
          | refine ⟨fun q => absurd q0 q, fun _ => ?_⟩
          | refine ⟨fun _ => ?_, fun q => absurd q q0⟩
          | refine ⟨fun q => absurd q xa, fun _ => ?_⟩
          | refine ⟨fun _ => ?_, fun q => absurd xa q⟩
          | refine ⟨fun q => absurd xa q, fun _ => ?_⟩
          | refine ⟨fun _ => ?_, fun q => absurd q xa⟩
          | refine ⟨fun q => absurd q xb, fun _ => ?_⟩
          | refine ⟨fun _ => ?_, fun q => absurd xb q⟩
          | refine ⟨fun q => absurd xb q, fun _ => ?_⟩
          | refine ⟨fun _ => ?_, fun q => absurd q xb⟩
          | refine ⟨fun q => absurd q ma, fun _ => ?_⟩
          | refine ⟨fun _ => ?_, fun q => absurd ma q⟩
          | refine ⟨fun q => absurd ma q, fun _ => ?_⟩
          | refine ⟨fun _ => ?_, fun q => absurd q ma⟩
          | refine ⟨fun q => absurd q x0, fun _ => ?_⟩
          | refine ⟨fun _ => ?_, fun q => absurd x0 q⟩
          | refine ⟨fun q => absurd x0 q, fun _ => ?_⟩
          | refine ⟨fun _ => ?_, fun q => absurd q x0⟩
          | refine ⟨fun q => absurd q m0, fun _ => ?_⟩
          | refine ⟨fun _ => ?_, fun q => absurd m0 q⟩
          | refine ⟨fun q => absurd m0 q, fun _ => ?_⟩
          | refine ⟨fun _ => ?_, fun q => absurd q m0⟩
          | refine ⟨fun q => absurd q xn, fun _ => ?_⟩
          | refine ⟨fun _ => ?_, fun q => absurd xn q⟩
          | refine ⟨fun q => absurd xn q, fun _ => ?_⟩
          | refine ⟨fun _ => ?_, fun q => absurd q xn⟩
          | refine ⟨fun q => absurd q mn, fun _ => ?_⟩
          | refine ⟨fun _ => ?_, fun q => absurd mn q⟩
          | refine ⟨fun q => absurd mn q, fun _ => ?_⟩
          | refine ⟨fun _ => ?_, fun q => absurd q mn⟩
          | refine ⟨fun q => absurd q (of_decide_eq_true rfl), fun _ => ?_⟩
          | refine ⟨fun _ => ?_, fun q => absurd q (of_decide_eq_true rfl)⟩
          | refine ⟨jx_vin rfl, ?_⟩
          | refine ⟨vx, ?_⟩
          | refine ⟨vm, ?_⟩
          | refine ji_84 ?_
          | refine ji_85 ?_
          | refine ji_111 ?_
        refine hQ _ ?_
        exact hI
    have p0 : ¬ σ 24 0 = a1 := fun z => q0 (f0.symm.trans z)
    refine ⟨1, fun σ1 => σ1 = jx_su (jx_su (jx_su σ 24 (σ 23 2).toNatClampNeg a1) 25 (σ 23 2).toNatClampNeg a2) 23 2 (σ 23 2 + 1), fun Q hQ => ji_6 ?_, fun σ1 hT Q hQ => ?_⟩
    · skip
      repeat first
        | refine ⟨Or.inr rfl, ?_⟩
        | refine ⟨Or.inl rfl, ?_⟩
        | refine ⟨fun q => absurd q l1, fun _ => ?_⟩
        | refine ⟨fun _ => ?_, fun q => absurd l1 q⟩
        | refine ⟨fun q => absurd l1 q, fun _ => ?_⟩
        | refine ⟨fun _ => ?_, fun q => absurd q l1⟩
        | refine ⟨fun q => absurd q p0, fun _ => ?_⟩
        | refine ⟨fun _ => ?_, fun q => absurd p0 q⟩
        | refine ⟨fun q => absurd p0 q, fun _ => ?_⟩
        | refine ⟨fun _ => ?_, fun q => absurd q p0⟩
        | refine ⟨fun q => absurd q q0, fun _ => ?_⟩
        | refine ⟨fun _ => ?_, fun q => absurd q0 q⟩
        | refine ⟨fun q => absurd q0 q, fun _ => ?_⟩
        | refine ⟨fun _ => ?_, fun q => absurd q q0⟩
        | refine ⟨fun q => absurd q xa, fun _ => ?_⟩
        | refine ⟨fun _ => ?_, fun q => absurd xa q⟩
        | refine ⟨fun q => absurd xa q, fun _ => ?_⟩
        | refine ⟨fun _ => ?_, fun q => absurd q xa⟩
        | refine ⟨fun q => absurd q xb, fun _ => ?_⟩
        | refine ⟨fun _ => ?_, fun q => absurd xb q⟩
        | refine ⟨fun q => absurd xb q, fun _ => ?_⟩
        | refine ⟨fun _ => ?_, fun q => absurd q xb⟩
        | refine ⟨fun q => absurd q ma, fun _ => ?_⟩
        | refine ⟨fun _ => ?_, fun q => absurd ma q⟩
        | refine ⟨fun q => absurd ma q, fun _ => ?_⟩
        | refine ⟨fun _ => ?_, fun q => absurd q ma⟩
        | refine ⟨fun q => absurd q x0, fun _ => ?_⟩
        | refine ⟨fun _ => ?_, fun q => absurd x0 q⟩
        | refine ⟨fun q => absurd x0 q, fun _ => ?_⟩
        | refine ⟨fun _ => ?_, fun q => absurd q x0⟩
        | refine ⟨fun q => absurd q m0, fun _ => ?_⟩
        | refine ⟨fun _ => ?_, fun q => absurd m0 q⟩
        | refine ⟨fun q => absurd m0 q, fun _ => ?_⟩
        | refine ⟨fun _ => ?_, fun q => absurd q m0⟩
        | refine ⟨fun q => absurd q xn, fun _ => ?_⟩
        | refine ⟨fun _ => ?_, fun q => absurd xn q⟩
        | refine ⟨fun q => absurd xn q, fun _ => ?_⟩
        | refine ⟨fun _ => ?_, fun q => absurd q xn⟩
        | refine ⟨fun q => absurd q mn, fun _ => ?_⟩
        | refine ⟨fun _ => ?_, fun q => absurd mn q⟩
        | refine ⟨fun q => absurd mn q, fun _ => ?_⟩
        | refine ⟨fun _ => ?_, fun q => absurd q mn⟩
        | refine ⟨fun q => absurd q (of_decide_eq_true rfl), fun _ => ?_⟩
        | refine ⟨fun _ => ?_, fun q => absurd q (of_decide_eq_true rfl)⟩
        | refine ⟨jx_vin rfl, ?_⟩
        | refine ⟨vx, ?_⟩
        | refine ⟨vm, ?_⟩
        | refine ji_84 ?_
        | refine ji_85 ?_
        | refine ji_111 ?_
      exact hQ _ rfl
    · subst hT
      refine ji_112 ?_
      repeat first
        | refine ⟨Or.inr rfl, ?_⟩
        | refine ⟨Or.inl rfl, ?_⟩
        | refine ⟨fun q => absurd q l1, fun _ => ?_⟩
        | refine ⟨fun _ => ?_, fun q => absurd l1 q⟩
        | refine ⟨fun q => absurd l1 q, fun _ => ?_⟩
        | refine ⟨fun _ => ?_, fun q => absurd q l1⟩
        | refine ⟨fun q => absurd q p0, fun _ => ?_⟩
        | refine ⟨fun _ => ?_, fun q => absurd p0 q⟩
        | refine ⟨fun q => absurd p0 q, fun _ => ?_⟩
        | refine ⟨fun _ => ?_, fun q => absurd q p0⟩
        | refine ⟨fun q => absurd q q0, fun _ => ?_⟩
        | refine ⟨fun _ => ?_, fun q => absurd q0 q⟩
        | refine ⟨fun q => absurd q0 q, fun _ => ?_⟩
        | refine ⟨fun _ => ?_, fun q => absurd q q0⟩
        | refine ⟨fun q => absurd q xa, fun _ => ?_⟩
        | refine ⟨fun _ => ?_, fun q => absurd xa q⟩
        | refine ⟨fun q => absurd xa q, fun _ => ?_⟩
        | refine ⟨fun _ => ?_, fun q => absurd q xa⟩
        | refine ⟨fun q => absurd q xb, fun _ => ?_⟩
        | refine ⟨fun _ => ?_, fun q => absurd xb q⟩
        | refine ⟨fun q => absurd xb q, fun _ => ?_⟩
        | refine ⟨fun _ => ?_, fun q => absurd q xb⟩
        | refine ⟨fun q => absurd q ma, fun _ => ?_⟩
        | refine ⟨fun _ => ?_, fun q => absurd ma q⟩
        | refine ⟨fun q => absurd ma q, fun _ => ?_⟩
        | refine ⟨fun _ => ?_, fun q => absurd q ma⟩
        | refine ⟨fun q => absurd q x0, fun _ => ?_⟩
        | refine ⟨fun _ => ?_, fun q => absurd x0 q⟩
        | refine ⟨fun q => absurd x0 q, fun _ => ?_⟩
        | refine ⟨fun _ => ?_, fun q => absurd q x0⟩
        | refine ⟨fun q => absurd q m0, fun _ => ?_⟩
        | refine ⟨fun _ => ?_, fun q => absurd m0 q⟩
        | refine ⟨fun q => absurd m0 q, fun _ => ?_⟩
        | refine ⟨fun _ => ?_, fun q => absurd q m0⟩
        | refine ⟨fun q => absurd q xn, fun _ => ?_⟩
        | refine ⟨fun _ => ?_, fun q => absurd xn q⟩
        | refine ⟨fun q => absurd xn q, fun _ => ?_⟩
        | refine ⟨fun _ => ?_, fun q => absurd q xn⟩
        | refine ⟨fun q => absurd q mn, fun _ => ?_⟩
        | refine ⟨fun _ => ?_, fun q => absurd mn q⟩
        | refine ⟨fun q => absurd mn q, fun _ => ?_⟩
        | refine ⟨fun _ => ?_, fun q => absurd q mn⟩
        | refine ⟨fun q => absurd q (of_decide_eq_true rfl), fun _ => ?_⟩
        | refine ⟨fun _ => ?_, fun q => absurd q (of_decide_eq_true rfl)⟩
        | refine ⟨jx_vin rfl, ?_⟩
        | refine ⟨vx, ?_⟩
        | refine ⟨vm, ?_⟩
        | refine ji_84 ?_
        | refine ji_85 ?_
        | refine ji_111 ?_
      refine hQ _ ?_
      refine ⟨iD, iS, iR, ⟨2, by decide, ?_, ?_, fun i hi => ?_⟩, iG, iM, iT, iL⟩
      · show σ 23 2 + 1 = _
        rw [e1]; rfl
      · show σ 34 33 + 1 = _
        rw [e2]; rfl
      · show upd (σ 24) (σ 23 2).toNatClampNeg a1 i = upd (σ 54) (σ 34 33).toNatClampNeg a1 i ∧ upd (σ 25) (σ 23 2).toNatClampNeg a2 i = upd (σ 55) (σ 34 33).toNatClampNeg a2 i
        rw [e1, e2]
        by_cases hh : i = 1
        · subst hh; exact ⟨rfl, rfl⟩
        · have h2 : i ≠ (nI 1).toNatClampNeg := hh
          rw [pk_un h2, pk_un h2, pk_un h2, pk_un h2]
          exact hin i (by omega)

  · skip
    have f0 := (hin 0 (by decide)).1
    have f1 := (hin 1 (by decide)).1
    have xa : ¬ (3 : Int32) ≤ σ 23 2 := by rw [e1]; decide
    have xb : σ 23 2 < 3 := by rw [e1]; decide
    have ma : ¬ σ 34 33 = 3 := by rw [e2]; decide
    have x0 : ¬ σ 23 2 ≤ 0 := by rw [e1]; decide
    have m0 : ¬ σ 34 33 ≤ 0 := by rw [e2]; decide
    have x1 : ¬ σ 23 2 ≤ 1 := by rw [e1]; decide
    have m1 : ¬ σ 34 33 ≤ 1 := by rw [e2]; decide
    have xn : σ 23 2 ≤ 2 := by rw [e1]; decide
    have mn : σ 34 33 ≤ 2 := by rw [e2]; decide
    have vx : vp_in (σ 23 2) 3 := by rw [e1]; exact jx_vin rfl
    have vm : vp_in (σ 34 33) 3 := by rw [e2]; exact jx_vin rfl
    by_cases l1 : a1 < 0
    · skip
      refine ⟨0, fun σ1 => σ1 = σ, fun Q hQ => ji_6 ?_, fun σ1 hT Q hQ => ?_⟩
      · skip
        repeat first
          | refine ⟨Or.inr rfl, ?_⟩
          | refine ⟨Or.inl rfl, ?_⟩
          | refine ⟨fun q => absurd q l1, fun _ => ?_⟩
          | refine ⟨fun _ => ?_, fun q => absurd l1 q⟩
          | refine ⟨fun q => absurd l1 q, fun _ => ?_⟩
          | refine ⟨fun _ => ?_, fun q => absurd q l1⟩
          | refine ⟨fun q => absurd q xa, fun _ => ?_⟩
          | refine ⟨fun _ => ?_, fun q => absurd xa q⟩
          | refine ⟨fun q => absurd xa q, fun _ => ?_⟩
          | refine ⟨fun _ => ?_, fun q => absurd q xa⟩
          | refine ⟨fun q => absurd q xb, fun _ => ?_⟩
          | refine ⟨fun _ => ?_, fun q => absurd xb q⟩
          | refine ⟨fun q => absurd xb q, fun _ => ?_⟩
          | refine ⟨fun _ => ?_, fun q => absurd q xb⟩
          | refine ⟨fun q => absurd q ma, fun _ => ?_⟩
          | refine ⟨fun _ => ?_, fun q => absurd ma q⟩
          | refine ⟨fun q => absurd ma q, fun _ => ?_⟩
          | refine ⟨fun _ => ?_, fun q => absurd q ma⟩
          | refine ⟨fun q => absurd q x0, fun _ => ?_⟩
          | refine ⟨fun _ => ?_, fun q => absurd x0 q⟩
          | refine ⟨fun q => absurd x0 q, fun _ => ?_⟩
          | refine ⟨fun _ => ?_, fun q => absurd q x0⟩
          | refine ⟨fun q => absurd q m0, fun _ => ?_⟩
          | refine ⟨fun _ => ?_, fun q => absurd m0 q⟩
          | refine ⟨fun q => absurd m0 q, fun _ => ?_⟩
          | refine ⟨fun _ => ?_, fun q => absurd q m0⟩
          | refine ⟨fun q => absurd q x1, fun _ => ?_⟩
          | refine ⟨fun _ => ?_, fun q => absurd x1 q⟩
          | refine ⟨fun q => absurd x1 q, fun _ => ?_⟩
          | refine ⟨fun _ => ?_, fun q => absurd q x1⟩
          | refine ⟨fun q => absurd q m1, fun _ => ?_⟩
          | refine ⟨fun _ => ?_, fun q => absurd m1 q⟩
          | refine ⟨fun q => absurd m1 q, fun _ => ?_⟩
          | refine ⟨fun _ => ?_, fun q => absurd q m1⟩
          | refine ⟨fun q => absurd q xn, fun _ => ?_⟩
          | refine ⟨fun _ => ?_, fun q => absurd xn q⟩
          | refine ⟨fun q => absurd xn q, fun _ => ?_⟩
          | refine ⟨fun _ => ?_, fun q => absurd q xn⟩
          | refine ⟨fun q => absurd q mn, fun _ => ?_⟩
          | refine ⟨fun _ => ?_, fun q => absurd mn q⟩
          | refine ⟨fun q => absurd mn q, fun _ => ?_⟩
          | refine ⟨fun _ => ?_, fun q => absurd q mn⟩
          | refine ⟨fun q => absurd q (of_decide_eq_true rfl), fun _ => ?_⟩
          | refine ⟨fun _ => ?_, fun q => absurd q (of_decide_eq_true rfl)⟩
          | refine ⟨jx_vin rfl, ?_⟩
          | refine ⟨vx, ?_⟩
          | refine ⟨vm, ?_⟩
          | refine ji_84 ?_
          | refine ji_85 ?_
          | refine ji_111 ?_
        exact hQ _ rfl
      · subst hT
        refine ji_112 ?_
        repeat first
          | refine ⟨Or.inr rfl, ?_⟩
          | refine ⟨Or.inl rfl, ?_⟩
          | refine ⟨fun q => absurd q l1, fun _ => ?_⟩
          | refine ⟨fun _ => ?_, fun q => absurd l1 q⟩
          | refine ⟨fun q => absurd l1 q, fun _ => ?_⟩
          | refine ⟨fun _ => ?_, fun q => absurd q l1⟩
          | refine ⟨fun q => absurd q xa, fun _ => ?_⟩
          | refine ⟨fun _ => ?_, fun q => absurd xa q⟩
          | refine ⟨fun q => absurd xa q, fun _ => ?_⟩
          | refine ⟨fun _ => ?_, fun q => absurd q xa⟩
          | refine ⟨fun q => absurd q xb, fun _ => ?_⟩
          | refine ⟨fun _ => ?_, fun q => absurd xb q⟩
          | refine ⟨fun q => absurd xb q, fun _ => ?_⟩
          | refine ⟨fun _ => ?_, fun q => absurd q xb⟩
          | refine ⟨fun q => absurd q ma, fun _ => ?_⟩
          | refine ⟨fun _ => ?_, fun q => absurd ma q⟩
          | refine ⟨fun q => absurd ma q, fun _ => ?_⟩
          | refine ⟨fun _ => ?_, fun q => absurd q ma⟩
          | refine ⟨fun q => absurd q x0, fun _ => ?_⟩
          | refine ⟨fun _ => ?_, fun q => absurd x0 q⟩
          | refine ⟨fun q => absurd x0 q, fun _ => ?_⟩
          | refine ⟨fun _ => ?_, fun q => absurd q x0⟩
          | refine ⟨fun q => absurd q m0, fun _ => ?_⟩
          | refine ⟨fun _ => ?_, fun q => absurd m0 q⟩
          | refine ⟨fun q => absurd m0 q, fun _ => ?_⟩
          | refine ⟨fun _ => ?_, fun q => absurd q m0⟩
          | refine ⟨fun q => absurd q x1, fun _ => ?_⟩
          | refine ⟨fun _ => ?_, fun q => absurd x1 q⟩
          | refine ⟨fun q => absurd x1 q, fun _ => ?_⟩
          | refine ⟨fun _ => ?_, fun q => absurd q x1⟩
          | refine ⟨fun q => absurd q m1, fun _ => ?_⟩
          | refine ⟨fun _ => ?_, fun q => absurd m1 q⟩
          | refine ⟨fun q => absurd m1 q, fun _ => ?_⟩
          | refine ⟨fun _ => ?_, fun q => absurd q m1⟩
          | refine ⟨fun q => absurd q xn, fun _ => ?_⟩
          | refine ⟨fun _ => ?_, fun q => absurd xn q⟩
          | refine ⟨fun q => absurd xn q, fun _ => ?_⟩
          | refine ⟨fun _ => ?_, fun q => absurd q xn⟩
          | refine ⟨fun q => absurd q mn, fun _ => ?_⟩
          | refine ⟨fun _ => ?_, fun q => absurd mn q⟩
          | refine ⟨fun q => absurd mn q, fun _ => ?_⟩
          | refine ⟨fun _ => ?_, fun q => absurd q mn⟩
          | refine ⟨fun q => absurd q (of_decide_eq_true rfl), fun _ => ?_⟩
          | refine ⟨fun _ => ?_, fun q => absurd q (of_decide_eq_true rfl)⟩
          | refine ⟨jx_vin rfl, ?_⟩
          | refine ⟨vx, ?_⟩
          | refine ⟨vm, ?_⟩
          | refine ji_84 ?_
          | refine ji_85 ?_
          | refine ji_111 ?_
        refine hQ _ ?_
        exact hI

    by_cases q0 : σ 54 0 = a1
    · have p0 : σ 24 0 = a1 := f0.trans q0
      refine ⟨0, fun σ1 => σ1 = σ, fun Q hQ => ji_6 ?_, fun σ1 hT Q hQ => ?_⟩
      · skip
        repeat first
          | refine ⟨Or.inr rfl, ?_⟩
          | refine ⟨Or.inl rfl, ?_⟩
          | refine ⟨fun q => absurd q l1, fun _ => ?_⟩
          | refine ⟨fun _ => ?_, fun q => absurd l1 q⟩
          | refine ⟨fun q => absurd l1 q, fun _ => ?_⟩
          | refine ⟨fun _ => ?_, fun q => absurd q l1⟩
          | refine ⟨fun q => absurd q p0, fun _ => ?_⟩
          | refine ⟨fun _ => ?_, fun q => absurd p0 q⟩
          | refine ⟨fun q => absurd p0 q, fun _ => ?_⟩
          | refine ⟨fun _ => ?_, fun q => absurd q p0⟩
          | refine ⟨fun q => absurd q q0, fun _ => ?_⟩
          | refine ⟨fun _ => ?_, fun q => absurd q0 q⟩
          | refine ⟨fun q => absurd q0 q, fun _ => ?_⟩
          | refine ⟨fun _ => ?_, fun q => absurd q q0⟩
          | refine ⟨fun q => absurd q xa, fun _ => ?_⟩
          | refine ⟨fun _ => ?_, fun q => absurd xa q⟩
          | refine ⟨fun q => absurd xa q, fun _ => ?_⟩
          | refine ⟨fun _ => ?_, fun q => absurd q xa⟩
          | refine ⟨fun q => absurd q xb, fun _ => ?_⟩
          | refine ⟨fun _ => ?_, fun q => absurd xb q⟩
          | refine ⟨fun q => absurd xb q, fun _ => ?_⟩
          | refine ⟨fun _ => ?_, fun q => absurd q xb⟩
          | refine ⟨fun q => absurd q ma, fun _ => ?_⟩
          | refine ⟨fun _ => ?_, fun q => absurd ma q⟩
          | refine ⟨fun q => absurd ma q, fun _ => ?_⟩
          | refine ⟨fun _ => ?_, fun q => absurd q ma⟩
          | refine ⟨fun q => absurd q x0, fun _ => ?_⟩
          | refine ⟨fun _ => ?_, fun q => absurd x0 q⟩
          | refine ⟨fun q => absurd x0 q, fun _ => ?_⟩
          | refine ⟨fun _ => ?_, fun q => absurd q x0⟩
          | refine ⟨fun q => absurd q m0, fun _ => ?_⟩
          | refine ⟨fun _ => ?_, fun q => absurd m0 q⟩
          | refine ⟨fun q => absurd m0 q, fun _ => ?_⟩
          | refine ⟨fun _ => ?_, fun q => absurd q m0⟩
          | refine ⟨fun q => absurd q x1, fun _ => ?_⟩
          | refine ⟨fun _ => ?_, fun q => absurd x1 q⟩
          | refine ⟨fun q => absurd x1 q, fun _ => ?_⟩
          | refine ⟨fun _ => ?_, fun q => absurd q x1⟩
          | refine ⟨fun q => absurd q m1, fun _ => ?_⟩
          | refine ⟨fun _ => ?_, fun q => absurd m1 q⟩
          | refine ⟨fun q => absurd m1 q, fun _ => ?_⟩
          | refine ⟨fun _ => ?_, fun q => absurd q m1⟩
          | refine ⟨fun q => absurd q xn, fun _ => ?_⟩
          | refine ⟨fun _ => ?_, fun q => absurd xn q⟩
          | refine ⟨fun q => absurd xn q, fun _ => ?_⟩
          | refine ⟨fun _ => ?_, fun q => absurd q xn⟩
          | refine ⟨fun q => absurd q mn, fun _ => ?_⟩
          | refine ⟨fun _ => ?_, fun q => absurd mn q⟩
          | refine ⟨fun q => absurd mn q, fun _ => ?_⟩
          | refine ⟨fun _ => ?_, fun q => absurd q mn⟩
          | refine ⟨fun q => absurd q (of_decide_eq_true rfl), fun _ => ?_⟩
          | refine ⟨fun _ => ?_, fun q => absurd q (of_decide_eq_true rfl)⟩
          | refine ⟨jx_vin rfl, ?_⟩
          | refine ⟨vx, ?_⟩
          | refine ⟨vm, ?_⟩
          | refine ji_84 ?_
          | refine ji_85 ?_
          | refine ji_111 ?_
        exact hQ _ rfl
      · subst hT
        refine ji_112 ?_
        repeat first
          | refine ⟨Or.inr rfl, ?_⟩
          | refine ⟨Or.inl rfl, ?_⟩
          | refine ⟨fun q => absurd q l1, fun _ => ?_⟩
          | refine ⟨fun _ => ?_, fun q => absurd l1 q⟩
          | refine ⟨fun q => absurd l1 q, fun _ => ?_⟩
          | refine ⟨fun _ => ?_, fun q => absurd q l1⟩
          | refine ⟨fun q => absurd q p0, fun _ => ?_⟩
          | refine ⟨fun _ => ?_, fun q => absurd p0 q⟩
          | refine ⟨fun q => absurd p0 q, fun _ => ?_⟩
          | refine ⟨fun _ => ?_, fun q => absurd q p0⟩
          | refine ⟨fun q => absurd q q0, fun _ => ?_⟩
          | refine ⟨fun _ => ?_, fun q => absurd q0 q⟩
          | refine ⟨fun q => absurd q0 q, fun _ => ?_⟩
          | refine ⟨fun _ => ?_, fun q => absurd q q0⟩
          | refine ⟨fun q => absurd q xa, fun _ => ?_⟩
          | refine ⟨fun _ => ?_, fun q => absurd xa q⟩
          | refine ⟨fun q => absurd xa q, fun _ => ?_⟩
          | refine ⟨fun _ => ?_, fun q => absurd q xa⟩
          | refine ⟨fun q => absurd q xb, fun _ => ?_⟩
          | refine ⟨fun _ => ?_, fun q => absurd xb q⟩
          | refine ⟨fun q => absurd xb q, fun _ => ?_⟩
          | refine ⟨fun _ => ?_, fun q => absurd q xb⟩
          | refine ⟨fun q => absurd q ma, fun _ => ?_⟩
          | refine ⟨fun _ => ?_, fun q => absurd ma q⟩
          | refine ⟨fun q => absurd ma q, fun _ => ?_⟩
          | refine ⟨fun _ => ?_, fun q => absurd q ma⟩
          | refine ⟨fun q => absurd q x0, fun _ => ?_⟩
          | refine ⟨fun _ => ?_, fun q => absurd x0 q⟩
          | refine ⟨fun q => absurd x0 q, fun _ => ?_⟩
          | refine ⟨fun _ => ?_, fun q => absurd q x0⟩
          | refine ⟨fun q => absurd q m0, fun _ => ?_⟩
          | refine ⟨fun _ => ?_, fun q => absurd m0 q⟩
          | refine ⟨fun q => absurd m0 q, fun _ => ?_⟩
          | refine ⟨fun _ => ?_, fun q => absurd q m0⟩
          | refine ⟨fun q => absurd q x1, fun _ => ?_⟩
          | refine ⟨fun _ => ?_, fun q => absurd x1 q⟩
          | refine ⟨fun q => absurd x1 q, fun _ => ?_⟩
          | refine ⟨fun _ => ?_, fun q => absurd q x1⟩
          | refine ⟨fun q => absurd q m1, fun _ => ?_⟩
          | refine ⟨fun _ => ?_, fun q => absurd m1 q⟩
          | refine ⟨fun q => absurd m1 q, fun _ => ?_⟩
          | refine ⟨fun _ => ?_, fun q => absurd q m1⟩
          | refine ⟨fun q => absurd q xn, fun _ => ?_⟩
          | refine ⟨fun _ => ?_, fun q => absurd xn q⟩
          | refine ⟨fun q => absurd xn q, fun _ => ?_⟩
          | refine ⟨fun _ => ?_, fun q => absurd q xn⟩
          | refine ⟨fun q => absurd q mn, fun _ => ?_⟩
          | refine ⟨fun _ => ?_, fun q => absurd mn q⟩
          | refine ⟨fun q => absurd mn q, fun _ => ?_⟩
          | refine ⟨fun _ => ?_, fun q => absurd q mn⟩
          | refine ⟨fun q => absurd q (of_decide_eq_true rfl), fun _ => ?_⟩
          | refine ⟨fun _ => ?_, fun q => absurd q (of_decide_eq_true rfl)⟩
          | refine ⟨jx_vin rfl, ?_⟩
          | refine ⟨vx, ?_⟩
          | refine ⟨vm, ?_⟩
          | refine ji_84 ?_
          | refine ji_85 ?_
          | refine ji_111 ?_
        refine hQ _ ?_
        exact hI
    have p0 : ¬ σ 24 0 = a1 := fun z => q0 (f0.symm.trans z)
    by_cases q1 : σ 54 1 = a1
    · have p1 : σ 24 1 = a1 := f1.trans q1
      refine ⟨0, fun σ1 => σ1 = σ, fun Q hQ => ji_6 ?_, fun σ1 hT Q hQ => ?_⟩
      · skip
        repeat first
          | refine ⟨Or.inr rfl, ?_⟩
          | refine ⟨Or.inl rfl, ?_⟩
          | refine ⟨fun q => absurd q l1, fun _ => ?_⟩
          | refine ⟨fun _ => ?_, fun q => absurd l1 q⟩
          | refine ⟨fun q => absurd l1 q, fun _ => ?_⟩
          | refine ⟨fun _ => ?_, fun q => absurd q l1⟩
          | refine ⟨fun q => absurd q p0, fun _ => ?_⟩
          | refine ⟨fun _ => ?_, fun q => absurd p0 q⟩
          | refine ⟨fun q => absurd p0 q, fun _ => ?_⟩
          | refine ⟨fun _ => ?_, fun q => absurd q p0⟩
          | refine ⟨fun q => absurd q q0, fun _ => ?_⟩
          | refine ⟨fun _ => ?_, fun q => absurd q0 q⟩
          | refine ⟨fun q => absurd q0 q, fun _ => ?_⟩
          | refine ⟨fun _ => ?_, fun q => absurd q q0⟩
          | refine ⟨fun q => absurd q p1, fun _ => ?_⟩
          | refine ⟨fun _ => ?_, fun q => absurd p1 q⟩
          | refine ⟨fun q => absurd p1 q, fun _ => ?_⟩
          | refine ⟨fun _ => ?_, fun q => absurd q p1⟩
          | refine ⟨fun q => absurd q q1, fun _ => ?_⟩
          | refine ⟨fun _ => ?_, fun q => absurd q1 q⟩
          | refine ⟨fun q => absurd q1 q, fun _ => ?_⟩
          | refine ⟨fun _ => ?_, fun q => absurd q q1⟩
          | refine ⟨fun q => absurd q xa, fun _ => ?_⟩
          | refine ⟨fun _ => ?_, fun q => absurd xa q⟩
          | refine ⟨fun q => absurd xa q, fun _ => ?_⟩
          | refine ⟨fun _ => ?_, fun q => absurd q xa⟩
          | refine ⟨fun q => absurd q xb, fun _ => ?_⟩
          | refine ⟨fun _ => ?_, fun q => absurd xb q⟩
          | refine ⟨fun q => absurd xb q, fun _ => ?_⟩
          | refine ⟨fun _ => ?_, fun q => absurd q xb⟩
          | refine ⟨fun q => absurd q ma, fun _ => ?_⟩
          | refine ⟨fun _ => ?_, fun q => absurd ma q⟩
          | refine ⟨fun q => absurd ma q, fun _ => ?_⟩
          | refine ⟨fun _ => ?_, fun q => absurd q ma⟩
          | refine ⟨fun q => absurd q x0, fun _ => ?_⟩
          | refine ⟨fun _ => ?_, fun q => absurd x0 q⟩
          | refine ⟨fun q => absurd x0 q, fun _ => ?_⟩
          | refine ⟨fun _ => ?_, fun q => absurd q x0⟩
          | refine ⟨fun q => absurd q m0, fun _ => ?_⟩
          | refine ⟨fun _ => ?_, fun q => absurd m0 q⟩
          | refine ⟨fun q => absurd m0 q, fun _ => ?_⟩
          | refine ⟨fun _ => ?_, fun q => absurd q m0⟩
          | refine ⟨fun q => absurd q x1, fun _ => ?_⟩
          | refine ⟨fun _ => ?_, fun q => absurd x1 q⟩
          | refine ⟨fun q => absurd x1 q, fun _ => ?_⟩
          | refine ⟨fun _ => ?_, fun q => absurd q x1⟩
          | refine ⟨fun q => absurd q m1, fun _ => ?_⟩
          | refine ⟨fun _ => ?_, fun q => absurd m1 q⟩
          | refine ⟨fun q => absurd m1 q, fun _ => ?_⟩
          | refine ⟨fun _ => ?_, fun q => absurd q m1⟩
          | refine ⟨fun q => absurd q xn, fun _ => ?_⟩
          | refine ⟨fun _ => ?_, fun q => absurd xn q⟩
          | refine ⟨fun q => absurd xn q, fun _ => ?_⟩
          | refine ⟨fun _ => ?_, fun q => absurd q xn⟩
          | refine ⟨fun q => absurd q mn, fun _ => ?_⟩
          | refine ⟨fun _ => ?_, fun q => absurd mn q⟩
          | refine ⟨fun q => absurd mn q, fun _ => ?_⟩
          | refine ⟨fun _ => ?_, fun q => absurd q mn⟩
          | refine ⟨fun q => absurd q (of_decide_eq_true rfl), fun _ => ?_⟩
          | refine ⟨fun _ => ?_, fun q => absurd q (of_decide_eq_true rfl)⟩
          | refine ⟨jx_vin rfl, ?_⟩
          | refine ⟨vx, ?_⟩
          | refine ⟨vm, ?_⟩
          | refine ji_84 ?_
          | refine ji_85 ?_
          | refine ji_111 ?_
        exact hQ _ rfl
      · subst hT
        refine ji_112 ?_
        repeat first
          | refine ⟨Or.inr rfl, ?_⟩
          | refine ⟨Or.inl rfl, ?_⟩
          | refine ⟨fun q => absurd q l1, fun _ => ?_⟩
          | refine ⟨fun _ => ?_, fun q => absurd l1 q⟩
          | refine ⟨fun q => absurd l1 q, fun _ => ?_⟩
          | refine ⟨fun _ => ?_, fun q => absurd q l1⟩
          | refine ⟨fun q => absurd q p0, fun _ => ?_⟩
          | refine ⟨fun _ => ?_, fun q => absurd p0 q⟩
          | refine ⟨fun q => absurd p0 q, fun _ => ?_⟩
          | refine ⟨fun _ => ?_, fun q => absurd q p0⟩
          | refine ⟨fun q => absurd q q0, fun _ => ?_⟩
          | refine ⟨fun _ => ?_, fun q => absurd q0 q⟩
          | refine ⟨fun q => absurd q0 q, fun _ => ?_⟩
          | refine ⟨fun _ => ?_, fun q => absurd q q0⟩
          | refine ⟨fun q => absurd q p1, fun _ => ?_⟩
          | refine ⟨fun _ => ?_, fun q => absurd p1 q⟩
          | refine ⟨fun q => absurd p1 q, fun _ => ?_⟩
          | refine ⟨fun _ => ?_, fun q => absurd q p1⟩
          | refine ⟨fun q => absurd q q1, fun _ => ?_⟩
          | refine ⟨fun _ => ?_, fun q => absurd q1 q⟩
          | refine ⟨fun q => absurd q1 q, fun _ => ?_⟩
          | refine ⟨fun _ => ?_, fun q => absurd q q1⟩
          | refine ⟨fun q => absurd q xa, fun _ => ?_⟩
          | refine ⟨fun _ => ?_, fun q => absurd xa q⟩
          | refine ⟨fun q => absurd xa q, fun _ => ?_⟩
          | refine ⟨fun _ => ?_, fun q => absurd q xa⟩
          | refine ⟨fun q => absurd q xb, fun _ => ?_⟩
          | refine ⟨fun _ => ?_, fun q => absurd xb q⟩
          | refine ⟨fun q => absurd xb q, fun _ => ?_⟩
          | refine ⟨fun _ => ?_, fun q => absurd q xb⟩
          | refine ⟨fun q => absurd q ma, fun _ => ?_⟩
          | refine ⟨fun _ => ?_, fun q => absurd ma q⟩
          | refine ⟨fun q => absurd ma q, fun _ => ?_⟩
          | refine ⟨fun _ => ?_, fun q => absurd q ma⟩
          | refine ⟨fun q => absurd q x0, fun _ => ?_⟩
          | refine ⟨fun _ => ?_, fun q => absurd x0 q⟩
          | refine ⟨fun q => absurd x0 q, fun _ => ?_⟩
          | refine ⟨fun _ => ?_, fun q => absurd q x0⟩
          | refine ⟨fun q => absurd q m0, fun _ => ?_⟩
          | refine ⟨fun _ => ?_, fun q => absurd m0 q⟩
          | refine ⟨fun q => absurd m0 q, fun _ => ?_⟩
          | refine ⟨fun _ => ?_, fun q => absurd q m0⟩
          | refine ⟨fun q => absurd q x1, fun _ => ?_⟩
          | refine ⟨fun _ => ?_, fun q => absurd x1 q⟩
          | refine ⟨fun q => absurd x1 q, fun _ => ?_⟩
          | refine ⟨fun _ => ?_, fun q => absurd q x1⟩
          | refine ⟨fun q => absurd q m1, fun _ => ?_⟩
          | refine ⟨fun _ => ?_, fun q => absurd m1 q⟩
          | refine ⟨fun q => absurd m1 q, fun _ => ?_⟩
          | refine ⟨fun _ => ?_, fun q => absurd q m1⟩
          | refine ⟨fun q => absurd q xn, fun _ => ?_⟩
          | refine ⟨fun _ => ?_, fun q => absurd xn q⟩
          | refine ⟨fun q => absurd xn q, fun _ => ?_⟩
          | refine ⟨fun _ => ?_, fun q => absurd q xn⟩
          | refine ⟨fun q => absurd q mn, fun _ => ?_⟩
          | refine ⟨fun _ => ?_, fun q => absurd mn q⟩
          | refine ⟨fun q => absurd mn q, fun _ => ?_⟩
          | refine ⟨fun _ => ?_, fun q => absurd q mn⟩
          | refine ⟨fun q => absurd q (of_decide_eq_true rfl), fun _ => ?_⟩
          | refine ⟨fun _ => ?_, fun q => absurd q (of_decide_eq_true rfl)⟩
          | refine ⟨jx_vin rfl, ?_⟩
          | refine ⟨vx, ?_⟩
          | refine ⟨vm, ?_⟩
          | refine ji_84 ?_
          | refine ji_85 ?_
          | refine ji_111 ?_
        refine hQ _ ?_
        exact hI
    have p1 : ¬ σ 24 1 = a1 := fun z => q1 (f1.symm.trans z)
    refine ⟨1, fun σ1 => σ1 = jx_su (jx_su (jx_su σ 24 (σ 23 2).toNatClampNeg a1) 25 (σ 23 2).toNatClampNeg a2) 23 2 (σ 23 2 + 1), fun Q hQ => ji_6 ?_, fun σ1 hT Q hQ => ?_⟩
    · skip
      repeat first
        | refine ⟨Or.inr rfl, ?_⟩
        | refine ⟨Or.inl rfl, ?_⟩
        | refine ⟨fun q => absurd q l1, fun _ => ?_⟩
        | refine ⟨fun _ => ?_, fun q => absurd l1 q⟩
        | refine ⟨fun q => absurd l1 q, fun _ => ?_⟩
        | refine ⟨fun _ => ?_, fun q => absurd q l1⟩
        | refine ⟨fun q => absurd q p0, fun _ => ?_⟩
        | refine ⟨fun _ => ?_, fun q => absurd p0 q⟩
        | refine ⟨fun q => absurd p0 q, fun _ => ?_⟩
        | refine ⟨fun _ => ?_, fun q => absurd q p0⟩
        | refine ⟨fun q => absurd q q0, fun _ => ?_⟩
        | refine ⟨fun _ => ?_, fun q => absurd q0 q⟩
        | refine ⟨fun q => absurd q0 q, fun _ => ?_⟩
        | refine ⟨fun _ => ?_, fun q => absurd q q0⟩
        | refine ⟨fun q => absurd q p1, fun _ => ?_⟩
        | refine ⟨fun _ => ?_, fun q => absurd p1 q⟩
        | refine ⟨fun q => absurd p1 q, fun _ => ?_⟩
        | refine ⟨fun _ => ?_, fun q => absurd q p1⟩
        | refine ⟨fun q => absurd q q1, fun _ => ?_⟩
        | refine ⟨fun _ => ?_, fun q => absurd q1 q⟩
        | refine ⟨fun q => absurd q1 q, fun _ => ?_⟩
        | refine ⟨fun _ => ?_, fun q => absurd q q1⟩
        | refine ⟨fun q => absurd q xa, fun _ => ?_⟩
        | refine ⟨fun _ => ?_, fun q => absurd xa q⟩
        | refine ⟨fun q => absurd xa q, fun _ => ?_⟩
        | refine ⟨fun _ => ?_, fun q => absurd q xa⟩
        | refine ⟨fun q => absurd q xb, fun _ => ?_⟩
        | refine ⟨fun _ => ?_, fun q => absurd xb q⟩
        | refine ⟨fun q => absurd xb q, fun _ => ?_⟩
        | refine ⟨fun _ => ?_, fun q => absurd q xb⟩
        | refine ⟨fun q => absurd q ma, fun _ => ?_⟩
        | refine ⟨fun _ => ?_, fun q => absurd ma q⟩
        | refine ⟨fun q => absurd ma q, fun _ => ?_⟩
        | refine ⟨fun _ => ?_, fun q => absurd q ma⟩
        | refine ⟨fun q => absurd q x0, fun _ => ?_⟩
        | refine ⟨fun _ => ?_, fun q => absurd x0 q⟩
        | refine ⟨fun q => absurd x0 q, fun _ => ?_⟩
        | refine ⟨fun _ => ?_, fun q => absurd q x0⟩
        | refine ⟨fun q => absurd q m0, fun _ => ?_⟩
        | refine ⟨fun _ => ?_, fun q => absurd m0 q⟩
        | refine ⟨fun q => absurd m0 q, fun _ => ?_⟩
        | refine ⟨fun _ => ?_, fun q => absurd q m0⟩
        | refine ⟨fun q => absurd q x1, fun _ => ?_⟩
        | refine ⟨fun _ => ?_, fun q => absurd x1 q⟩
        | refine ⟨fun q => absurd x1 q, fun _ => ?_⟩
        | refine ⟨fun _ => ?_, fun q => absurd q x1⟩
        | refine ⟨fun q => absurd q m1, fun _ => ?_⟩
        | refine ⟨fun _ => ?_, fun q => absurd m1 q⟩
        | refine ⟨fun q => absurd m1 q, fun _ => ?_⟩
        | refine ⟨fun _ => ?_, fun q => absurd q m1⟩
        | refine ⟨fun q => absurd q xn, fun _ => ?_⟩
        | refine ⟨fun _ => ?_, fun q => absurd xn q⟩
        | refine ⟨fun q => absurd xn q, fun _ => ?_⟩
        | refine ⟨fun _ => ?_, fun q => absurd q xn⟩
        | refine ⟨fun q => absurd q mn, fun _ => ?_⟩
        | refine ⟨fun _ => ?_, fun q => absurd mn q⟩
        | refine ⟨fun q => absurd mn q, fun _ => ?_⟩
        | refine ⟨fun _ => ?_, fun q => absurd q mn⟩
        | refine ⟨fun q => absurd q (of_decide_eq_true rfl), fun _ => ?_⟩
        | refine ⟨fun _ => ?_, fun q => absurd q (of_decide_eq_true rfl)⟩
        | refine ⟨jx_vin rfl, ?_⟩
        | refine ⟨vx, ?_⟩
        | refine ⟨vm, ?_⟩
        | refine ji_84 ?_
        | refine ji_85 ?_
        | refine ji_111 ?_
      exact hQ _ rfl
    · subst hT
      refine ji_112 ?_
      repeat first
        | refine ⟨Or.inr rfl, ?_⟩
        | refine ⟨Or.inl rfl, ?_⟩
        | refine ⟨fun q => absurd q l1, fun _ => ?_⟩
        | refine ⟨fun _ => ?_, fun q => absurd l1 q⟩
        | refine ⟨fun q => absurd l1 q, fun _ => ?_⟩
        | refine ⟨fun _ => ?_, fun q => absurd q l1⟩
        | refine ⟨fun q => absurd q p0, fun _ => ?_⟩
        | refine ⟨fun _ => ?_, fun q => absurd p0 q⟩
        | refine ⟨fun q => absurd p0 q, fun _ => ?_⟩
        | refine ⟨fun _ => ?_, fun q => absurd q p0⟩
        | refine ⟨fun q => absurd q q0, fun _ => ?_⟩
        | refine ⟨fun _ => ?_, fun q => absurd q0 q⟩
        | refine ⟨fun q => absurd q0 q, fun _ => ?_⟩
        | refine ⟨fun _ => ?_, fun q => absurd q q0⟩
        | refine ⟨fun q => absurd q p1, fun _ => ?_⟩
        | refine ⟨fun _ => ?_, fun q => absurd p1 q⟩
        | refine ⟨fun q => absurd p1 q, fun _ => ?_⟩
        | refine ⟨fun _ => ?_, fun q => absurd q p1⟩
        | refine ⟨fun q => absurd q q1, fun _ => ?_⟩
        | refine ⟨fun _ => ?_, fun q => absurd q1 q⟩
        | refine ⟨fun q => absurd q1 q, fun _ => ?_⟩
        | refine ⟨fun _ => ?_, fun q => absurd q q1⟩
        | refine ⟨fun q => absurd q xa, fun _ => ?_⟩
        | refine ⟨fun _ => ?_, fun q => absurd xa q⟩
        | refine ⟨fun q => absurd xa q, fun _ => ?_⟩
        | refine ⟨fun _ => ?_, fun q => absurd q xa⟩
        | refine ⟨fun q => absurd q xb, fun _ => ?_⟩
        | refine ⟨fun _ => ?_, fun q => absurd xb q⟩
        | refine ⟨fun q => absurd xb q, fun _ => ?_⟩
        | refine ⟨fun _ => ?_, fun q => absurd q xb⟩
        | refine ⟨fun q => absurd q ma, fun _ => ?_⟩
        | refine ⟨fun _ => ?_, fun q => absurd ma q⟩
        | refine ⟨fun q => absurd ma q, fun _ => ?_⟩
        | refine ⟨fun _ => ?_, fun q => absurd q ma⟩
        | refine ⟨fun q => absurd q x0, fun _ => ?_⟩
        | refine ⟨fun _ => ?_, fun q => absurd x0 q⟩
        | refine ⟨fun q => absurd x0 q, fun _ => ?_⟩
        | refine ⟨fun _ => ?_, fun q => absurd q x0⟩
        | refine ⟨fun q => absurd q m0, fun _ => ?_⟩
        | refine ⟨fun _ => ?_, fun q => absurd m0 q⟩
        | refine ⟨fun q => absurd m0 q, fun _ => ?_⟩
        | refine ⟨fun _ => ?_, fun q => absurd q m0⟩
        | refine ⟨fun q => absurd q x1, fun _ => ?_⟩
        | refine ⟨fun _ => ?_, fun q => absurd x1 q⟩
        | refine ⟨fun q => absurd x1 q, fun _ => ?_⟩
        | refine ⟨fun _ => ?_, fun q => absurd q x1⟩
        | refine ⟨fun q => absurd q m1, fun _ => ?_⟩
        | refine ⟨fun _ => ?_, fun q => absurd m1 q⟩
        | refine ⟨fun q => absurd m1 q, fun _ => ?_⟩
        | refine ⟨fun _ => ?_, fun q => absurd q m1⟩
        | refine ⟨fun q => absurd q xn, fun _ => ?_⟩
        | refine ⟨fun _ => ?_, fun q => absurd xn q⟩
        | refine ⟨fun q => absurd xn q, fun _ => ?_⟩
        | refine ⟨fun _ => ?_, fun q => absurd q xn⟩
        | refine ⟨fun q => absurd q mn, fun _ => ?_⟩
        | refine ⟨fun _ => ?_, fun q => absurd mn q⟩
        | refine ⟨fun q => absurd mn q, fun _ => ?_⟩
        | refine ⟨fun _ => ?_, fun q => absurd q mn⟩
        | refine ⟨fun q => absurd q (of_decide_eq_true rfl), fun _ => ?_⟩
        | refine ⟨fun _ => ?_, fun q => absurd q (of_decide_eq_true rfl)⟩
        | refine ⟨jx_vin rfl, ?_⟩
        | refine ⟨vx, ?_⟩
        | refine ⟨vm, ?_⟩
        | refine ji_84 ?_
        | refine ji_85 ?_
        | refine ji_111 ?_
      refine hQ _ ?_
      refine ⟨iD, iS, iR, ⟨3, by decide, ?_, ?_, fun i hi => ?_⟩, iG, iM, iT, iL⟩
      · show σ 23 2 + 1 = _
        rw [e1]; rfl
      · show σ 34 33 + 1 = _
        rw [e2]; rfl
      · show upd (σ 24) (σ 23 2).toNatClampNeg a1 i = upd (σ 54) (σ 34 33).toNatClampNeg a1 i ∧ upd (σ 25) (σ 23 2).toNatClampNeg a2 i = upd (σ 55) (σ 34 33).toNatClampNeg a2 i
        rw [e1, e2]
        by_cases hh : i = 2
        · subst hh; exact ⟨rfl, rfl⟩
        · have h2 : i ≠ (nI 2).toNatClampNeg := hh
          rw [pk_un h2, pk_un h2, pk_un h2, pk_un h2]
          exact hin i (by omega)

  · skip
    refine ⟨0, fun σ1 => σ1 = σ, fun Q hQ => ji_6 ?_, fun σ1 hT Q hQ => ?_⟩
    · skip
      repeat first
        | refine ⟨Or.inr rfl, ?_⟩
        | refine ⟨Or.inl rfl, ?_⟩
        | refine ⟨fun q => absurd q (by rw [e1]; decide), fun _ => ?_⟩
        | refine ⟨fun _ => ?_, fun q => absurd q (by rw [e1]; decide)⟩
        | refine ⟨by rw [e1]; exact jx_vin rfl, ?_⟩
        | refine ⟨fun q => absurd q (by rw [e2]; decide), fun _ => ?_⟩
        | refine ⟨fun _ => ?_, fun q => absurd q (by rw [e2]; decide)⟩
        | refine ⟨by rw [e2]; exact jx_vin rfl, ?_⟩
        | refine ⟨fun q => absurd q (of_decide_eq_true rfl), fun _ => ?_⟩
        | refine ⟨fun _ => ?_, fun q => absurd q (of_decide_eq_true rfl)⟩
        | refine ⟨jx_vin rfl, ?_⟩
        | refine ji_84 ?_
        | refine ji_85 ?_
        | refine ji_111 ?_
      exact hQ _ rfl
    · subst hT
      refine ji_112 ?_
      repeat first
        | refine ⟨Or.inr rfl, ?_⟩
        | refine ⟨Or.inl rfl, ?_⟩
        | refine ⟨fun q => absurd q (by rw [e1]; decide), fun _ => ?_⟩
        | refine ⟨fun _ => ?_, fun q => absurd q (by rw [e1]; decide)⟩
        | refine ⟨by rw [e1]; exact jx_vin rfl, ?_⟩
        | refine ⟨fun q => absurd q (by rw [e2]; decide), fun _ => ?_⟩
        | refine ⟨fun _ => ?_, fun q => absurd q (by rw [e2]; decide)⟩
        | refine ⟨by rw [e2]; exact jx_vin rfl, ?_⟩
        | refine ⟨fun q => absurd q (of_decide_eq_true rfl), fun _ => ?_⟩
        | refine ⟨fun _ => ?_, fun q => absurd q (of_decide_eq_true rfl)⟩
        | refine ⟨jx_vin rfl, ?_⟩
        | refine ji_84 ?_
        | refine ji_85 ?_
        | refine ji_111 ?_
      refine hQ _ ?_
      exact hI


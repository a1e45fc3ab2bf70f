theorem jo_tableD {k pc : Nat} {cs : List (Int32 × Nat)} {dt len : Nat} {dflt lo hi : Int} {offs : Array Int} (hdt : (pc : Int) + dflt = (dt : Int)) (hlen : lo + cs.length = hi + 1)
    (hc : ∀ j, j < cs.length → offs[j]?.map (fun o => (pc : Int) + o) = cs[j]?.map (fun q => ((q.2 : Nat) : Int)) ∧ cs[j]?.map (fun q => q.1.toInt) = some (lo + (j : Int))) (hd : decode (jx_b k) pc = .ok (.tableswitch dflt lo hi offs, len)) : jx_Snd k pc (js_sw cs dt) := by
  refine jo_table hdt hlen (fun j hj => ?_) hd
  obtain ⟨h1, h2⟩ := hc j hj
  have e : cs[j]? = some cs[j] := List.getElem?_eq_getElem hj
  rw [e] at h1 h2
  cases ho : offs[j]? with
  | none => rw [ho] at h1; cases h1
  | some o =>
    rw [ho] at h1
    exact ⟨cs[j].1, cs[j].2, o, e, rfl, Option.some.inj h1, Option.some.inj h2⟩

/-- the law's walk out of an invariant: I n holds at the beginning of round n -/
theorem jx_whole {p : Program} {e : Env} {s : State} {m : MethodId} {below : List Frame} {meth : Method} {c : Code} (l : Launch) {b L : Nat} {xs : Nat → Int32} (hL : L ≤ 3073) (C0 : lw_At p s m meth c b L xs) (I : Nat → jx_St → Prop) (hI0 : ∀ σ, jx_FX (jx_c0 L xs) σ → jx_FM (jx_c0 L xs) σ → I 0 σ) (hops : ∀ D cA ρ n, 6 * n + 7 ≤ L → jx_ops l D cA ρ 40 (I n) (I (n + 1))) :
    W p l e room_1 s m #[Value.ref b] below meth c s.heap [] 0 0 (lw_Z below #[Value.ref b] s) (entryFrame m ([Value.ref b] : List Value).toArray 4) := by
  obtain ⟨hx, hb, hr, hml, hown, hts, hX, hbl, hlocks, hg⟩ := C0
  obtain ⟨D, cA, t1, t2, X⟩ := jx_start (n := 47) hx hb hml hown hts hX hbl hg (by decide)
  refine jlaw_pre (d := 41) X hX hbl (by omega) (by decide) (fun σ hF hM => ?_)
  intro ρ H locs ls cells slots HH hl hc1 hc2
  obtain ⟨hag, hn0, hinj, hAi, hP, hS⟩ := HH
  obtain ⟨-, -, -, -, hgw, -, ⟨hK1, hK2, hK3⟩, hA, ht8⟩ := X
  have r1 : room_1.cells = 600000 := rfl
  have r2 : room_1.slots = 7302249 := rfl
  rw [r1] at hc1
  rw [r2] at hc2
  have X' : jx_X D cA ρ jx_XM (fun q => s.heap.size ≤ q) (jx_tbS L xs) 41 138 p room_1 s m #[Value.ref b] c cells slots := ⟨hx, hb, hml, hown, hgw, ⟨by decide, by decide, by rw [r1]; omega, by rw [r2]; omega⟩, ⟨hK1, hinj, jn_Zag hag ht8 hK2, hK3⟩, hAi⟩
  have hJ := jlaw_loop (A := fun q => s.heap.size ≤ q) (xs := xs) (d := 40) hL (hops D cA ρ) 600 0 1 σ rfl (by decide) (by omega) (hI0 σ hF hM)
  refine hJ p e room_1 s m _ below meth c cells slots _ X' ?_ H locs ls hP hS hl
  intro H locs ls pc r σ' hrt hq hP hS
  subst hq
  obtain ⟨v, hv, -, hd⟩ := hrt
  refine va_forget (fun q hq => hS.2.2 q hq) ?_
  refine W.widen (k := 600000) (n := 7302249) (by omega) (by omega) ?_
  exact lw_ret hx hb hr hlocks hd

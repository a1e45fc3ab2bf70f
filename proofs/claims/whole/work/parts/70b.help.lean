theorem jl_x3 {o : Nat} (t : Nat) (ho : o < 1000) (ht : t < 3) : nI o * 3 + nI t = nI (3 * o + t) := by
  rw [show (3 : Int32) = nI 3 from rfl, pk_mul, nI_add, Nat.mul_comm]
theorem jl_m3 {o : Nat} (t : Nat) (ho : o < 1000) (ht : t < 3) : 3 * nI o + nI t = nI (3 * o + t) := by
  rw [show (3 : Int32) = nI 3 from rfl, pk_mul, nI_add]
theorem jl_x30 {o : Nat} : nI o * 3 = nI (3 * o) := by
  rw [show (3 : Int32) = nI 3 from rfl, pk_mul, Nat.mul_comm]
theorem jl_m30 {o : Nat} : 3 * nI o = nI (3 * o) := by
  rw [show (3 : Int32) = nI 3 from rfl, pk_mul]

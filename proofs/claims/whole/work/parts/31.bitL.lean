/-! The library's bit count. -/
variable {E : am_E} {u : am_M}
theorem w64_sub {a b : Nat} (h : b ≤ a) (ha : a < 9223372036854775808) : w64 ((a : Int) - (b : Int)) = ((a - b : Nat) : Int) := by rw [w64_of (by omega) (by omega)]; omega
theorem w64_add {a b : Nat} (h : a + b < 9223372036854775808) : w64 ((a : Int) + (b : Int)) = ((a + b : Nat) : Int) := by rw [w64_of (by omega) (by omega)]; omega
theorem byv_drop : ∀ (l : List Nat) (k : Nat), byv (l.drop k) = l.getD k 0 + 256 * byv (l.drop (k + 1)) := by
  intro l
  induction l with
  | nil => intro k; simp [byv]
  | cons b l ih =>
    intro k
    cases k with
    | zero => simp [byv]
    | succ k => simpa using ih k
theorem la_5 {a : Nat} (ha : a < 9223372036854775808) : l_and (a : Int) 6148914691236517205 = ((a &&& 6148914691236517205 : Nat) : Int) := l_and_c ha (by decide) (by decide +kernel)
theorem la_3 {a : Nat} (ha : a < 9223372036854775808) : l_and (a : Int) 3689348814741910323 = ((a &&& 3689348814741910323 : Nat) : Int) := l_and_c ha (by decide) (by decide +kernel)
theorem la_f {a : Nat} (ha : a < 9223372036854775808) : l_and (a : Int) 1085102592571150095 = ((a &&& 1085102592571150095 : Nat) : Int) := l_and_c ha (by decide) (by decide +kernel)

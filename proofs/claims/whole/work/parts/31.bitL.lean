/-! The library's bit count. -/
variable {E : am_E} {u : am_M}
theorem w64_sub {a b : Nat} (h : b ≤ a) (ha : a < 9223372036854775808) : w64 ((a : Int) - (b : Int)) = ((a - b : Nat) : Int) := by rw [w64_of (by omega) (by omega)]; omega
theorem w64_add {a b : Nat} (h : a + b < 9223372036854775808) : w64 ((a : Int) + (b : Int)) = ((a + b : Nat) : Int) := by rw [w64_of (by omega) (by omega)]; omega
theorem byv_drop : ∀ (l : List Nat) (k : Nat), byv (l.drop k) = l.getD k 0 + 256 * byv (l.drop (k + 1)) := by
  intro l
  induction l with
  | nil => intro k; simp [byv]
  | cons b l ih =>
    intro k
    cases k with
    | zero => simp [byv]
    | succ k => simpa using ih k
theorem la_5 {a : Nat} (ha : a < 9223372036854775808) : l_and (a : Int) 6148914691236517205 = ((a &&& 6148914691236517205 : Nat) : Int) := l_and_c ha (by decide) (by decide +kernel)
theorem la_3 {a : Nat} (ha : a < 9223372036854775808) : l_and (a : Int) 3689348814741910323 = ((a &&& 3689348814741910323 : Nat) : Int) := l_and_c ha (by decide) (by decide +kernel)
theorem la_f {a : Nat} (ha : a < 9223372036854775808) : l_and (a : Int) 1085102592571150095 = ((a &&& 1085102592571150095 : Nat) : Int) := l_and_c ha (by decide) (by decide +kernel)
theorem by_last {i : Nat} {r : Nat} (h : i % 4294967296 < 2147483648) (g : i % 4294967296 % 128 = r) : i_and (w32 (i : Int)) 127 = (r : Int) := by
  have t17 : w32 (i : Int) = ((i % 4294967296 : Nat) : Int) := by clear g; unfold w32; omega
  have t : i_and ((i % 4294967296 : Nat) : Int) ((127 : Nat) : Int) = (((i % 4294967296) &&& 127 : Nat) : Int) := i_and_n h (by decide)
  have e : (i % 4294967296) &&& 127 = r := by rw [← g]; exact Nat.and_two_pow_sub_one_eq_mod _ 7
  rw [t17, ← e]
  exact t

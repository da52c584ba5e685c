/-! The library's bit count. -/
variable {E : am_E} {u : am_M}
theorem w64_sub {a b : Nat} (h : b ≤ a) (ha : a < 9223372036854775808) : w64 ((a : Int) - (b : Int)) = ((a - b : Nat) : Int) := by rw [w64_of (by omega) (by omega)]; omega
theorem w64_add {a b : Nat} (h : a + b < 9223372036854775808) : w64 ((a : Int) + (b : Int)) = ((a + b : Nat) : Int) := by rw [w64_of (by omega) (by omega)]; omega
theorem byv_drop : ∀ (l : List Nat) (k : Nat), byv (l.drop k) = l.getD k 0 + 256 * byv (l.drop (k + 1)) := by
  intro l
  induction l with
  | nil => intro k; simp [byv]
  | cons b l ih =>
    intro k
    cases k with
    | zero => simp [byv]
    | succ k => simpa using ih k
theorem la_5 {a : Nat} (ha : a < 9223372036854775808) : l_and (a : Int) 6148914691236517205 = ((a &&& 6148914691236517205 : Nat) : Int) := l_and_c ha (by decide) (by decide +kernel)
theorem la_3 {a : Nat} (ha : a < 9223372036854775808) : l_and (a : Int) 3689348814741910323 = ((a &&& 3689348814741910323 : Nat) : Int) := l_and_c ha (by decide) (by decide +kernel)
theorem la_f {a : Nat} (ha : a < 9223372036854775808) : l_and (a : Int) 1085102592571150095 = ((a &&& 1085102592571150095 : Nat) : Int) := l_and_c ha (by decide) (by decide +kernel)
theorem by_last {i : Nat} {r : Nat} (h : i % 4294967296 < 2147483648) (g : i % 4294967296 % 128 = r) : i_and (w32 (i : Int)) 127 = (r : Int) := by
  have t17 : w32 (i : Int) = ((i % 4294967296 : Nat) : Int) := by clear g; unfold w32; omega
  have t : i_and ((i % 4294967296 : Nat) : Int) ((127 : Nat) : Int) = (((i % 4294967296) &&& 127 : Nat) : Int) := i_and_n h (by decide)
  have e : (i % 4294967296) &&& 127 = r := by rw [← g]; exact Nat.and_two_pow_sub_one_eq_mod _ 7
  rw [t17, ← e]
  exact t
theorem la_r {a m : Nat} {K : Int} (h : l_and (a : Int) K = ((a &&& m : Nat) : Int)) : ∃ r : Nat, l_and (a : Int) K = (r : Int) ∧ r ≤ a ∧ a &&& m = r := ⟨_, h, Nat.and_le_left, rfl⟩
theorem by_parts {x : Nat} (hx : x < 562949953421312) : ∃ a1 a b1 b2 c : Nat, l_and ((x / 2 : Nat) : Int) 6148914691236517205 = (a1 : Int) ∧ a1 ≤ x / 2 ∧ a = x - a1 ∧ l_and (a : Int) 3689348814741910323 = (b1 : Int) ∧ b1 ≤ a ∧ l_and ((a / 4 : Nat) : Int) 3689348814741910323 = (b2 : Int) ∧ b2 ≤ a / 4 ∧ l_and ((b1 + b2 + (b1 + b2) / 16 : Nat) : Int) 1085102592571150095 = (c : Int) ∧ c ≤ b1 + b2 + (b1 + b2) / 16 ∧ by_all x = c := by
  obtain ⟨a1, p1, p2, p3⟩ := la_r (la_5 (a := x / 2) (by omega))
  have ha : x - a1 < 562949953421312 := Nat.lt_of_le_of_lt (Nat.sub_le _ _) hx
  have ha4 : (x - a1) / 4 < 562949953421312 := Nat.lt_of_le_of_lt (Nat.div_le_self _ _) ha
  obtain ⟨b1, q1, q2, q3⟩ := la_r (la_3 (a := x - a1) (Nat.lt_of_lt_of_le ha (by decide)))
  obtain ⟨b2, r1, r2, r3⟩ := la_r (la_3 (a := (x - a1) / 4) (Nat.lt_of_lt_of_le ha4 (by decide)))
  have hb1 : b1 < 562949953421312 := Nat.lt_of_le_of_lt q2 ha
  have hb2 : b2 < 562949953421312 := Nat.lt_of_le_of_lt r2 ha4
  have hb : b1 + b2 + (b1 + b2) / 16 < 9223372036854775808 := by clear p1 p2 p3 q1 q2 q3 r1 r2 r3 ha ha4 hx; omega
  obtain ⟨c, s1, s2, s3⟩ := la_r (la_f (a := b1 + b2 + (b1 + b2) / 16) hb)
  refine ⟨a1, x - a1, b1, b2, c, p1, p2, rfl, q1, q2, r1, r2, s1, s2, ?_⟩
  unfold by_all
  dsimp only
  rw [p3, q3, r3, s3]

/-! The bits counted as the library does. -/
theorem ad_2 {x y p q z w : Nat} (h : x = p + 256 * z) (g : y = q + 256 * w) : x + y = (p + q) + 256 * (z + w) := by omega
theorem dv_2 {x a y b z : Nat} (h : x = a + 256 * y) (g : y = b + 256 * z) (ha : a < 256) (hb : b < 256) : x / 65536 = z := by omega
theorem dv_4 {x a y b z c w d q : Nat} (h0 : x = a + 256 * y) (h1 : y = b + 256 * z) (h2 : z = c + 256 * w) (h3 : w = d + 256 * q) (ha : a < 256) (hb : b < 256) (hc : c < 256) (hd : d < 128) : x / 4294967296 = q ∧ x % 4294967296 < 2147483648 ∧ x % 4294967296 % 128 = a % 128 := by
  have e : x = (a + 256 * b + 65536 * c + 16777216 * d) + 4294967296 * q := by omega
  have l : a + 256 * b + 65536 * c + 16777216 * d < 2147483648 := by omega
  have m : (a + 256 * b + 65536 * c + 16777216 * d) % 128 = a % 128 := by omega
  clear h0 h1 h2 h3
  generalize a + 256 * b + 65536 * c + 16777216 * d = y at e l m
  subst e
  have e1 : (y + 4294967296 * q) % 4294967296 = y := by omega
  have e2 : (y + 4294967296 * q) / 4294967296 = q := by omega
  rw [e1, e2]
  exact ⟨rfl, l, m⟩
/-- the sums at the end -/
theorem by_end (c p : Nat → Nat) (h : ∀ k, c k = p k + 256 * c (k + 1)) (hp : ∀ k, p k ≤ 8) : ∃ i1 i2 i3 : Nat, i1 = c 0 + c 0 / 256 ∧ i2 = i1 + i1 / 65536 ∧ i3 = i2 + i2 / 4294967296 ∧ i3 % 4294967296 < 2147483648 ∧ i3 % 4294967296 % 128 = p 0 + p 1 + p 2 + p 3 + p 4 + p 5 + p 6 + p 7 := by
  obtain ⟨j, hj⟩ : ∃ j : Nat → Nat, ∀ k, j k = c k + c (k + 1) := ⟨_, fun _ => rfl⟩
  obtain ⟨m, hm⟩ : ∃ m : Nat → Nat, ∀ k, m k = j k + j (k + 2) := ⟨_, fun _ => rfl⟩
  obtain ⟨n, hn⟩ : ∃ n : Nat → Nat, ∀ k, n k = m k + m (k + 4) := ⟨_, fun _ => rfl⟩
  have gj : ∀ k, j k = (p k + p (k + 1)) + 256 * j (k + 1) := fun k => by rw [hj k, hj (k + 1)]; exact ad_2 (h k) (h (k + 1))
  have gm : ∀ k, m k = (p k + p (k + 1) + (p (k + 2) + p (k + 3))) + 256 * m (k + 1) := fun k => by rw [hm k, hm (k + 1)]; exact ad_2 (gj k) (gj (k + 2))
  have gn : ∀ k, n k = (p k + p (k + 1) + (p (k + 2) + p (k + 3)) + (p (k + 4) + p (k + 5) + (p (k + 6) + p (k + 7)))) + 256 * n (k + 1) := fun k => by rw [hn k, hn (k + 1)]; exact ad_2 (gm k) (gm (k + 4))
  have b2 : ∀ k, p k + p (k + 1) < 256 := fun k => by
    have := hp k; have := hp (k + 1); clear h gj gm gn hj hm hn; omega
  have b4 : ∀ k, p k + p (k + 1) + (p (k + 2) + p (k + 3)) ≤ 32 := fun k => by
    have := hp k; have := hp (k + 1); have := hp (k + 2); have := hp (k + 3); clear h gj gm gn hj hm hn; omega
  have b8 : ∀ k, p k + p (k + 1) + (p (k + 2) + p (k + 3)) + (p (k + 4) + p (k + 5) + (p (k + 6) + p (k + 7))) ≤ 64 := fun k => Nat.add_le_add (b4 k) (b4 (k + 4))
  have f1 : c 0 / 256 = c 1 := by
    have h0 : c 0 = p 0 + 256 * c 1 := h 0; have h1 := hp 0; clear h gj gm gn hj hm hn b2 b4 b8; omega
  have f2 : j 0 / 65536 = j 2 := dv_2 (gj 0) (gj 1) (b2 0) (b2 1)
  have f3 : m 0 / 4294967296 = m 4 := (dv_4 (gm 0) (gm 1) (gm 2) (gm 3) (Nat.lt_of_le_of_lt (b4 0) (by decide)) (Nat.lt_of_le_of_lt (b4 1) (by decide)) (Nat.lt_of_le_of_lt (b4 2) (by decide)) (Nat.lt_of_le_of_lt (b4 3) (by decide))).1
  have f4 := (dv_4 (gn 0) (gn 1) (gn 2) (gn 3) (Nat.lt_of_le_of_lt (b8 0) (by decide)) (Nat.lt_of_le_of_lt (b8 1) (by decide)) (Nat.lt_of_le_of_lt (b8 2) (by decide)) (Nat.lt_of_le_of_lt (b8 3) (by decide))).2
  refine ⟨j 0, m 0, n 0, by rw [f1]; exact hj 0, by rw [f2]; exact hm 0, by rw [f3]; exact hn 0, f4.1, ?_⟩
  rw [f4.2, Nat.mod_eq_of_lt (Nat.lt_of_le_of_lt (b8 0) (by decide))]
  simp only [Nat.zero_add, Nat.add_assoc]

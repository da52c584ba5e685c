/-! Small methods of the class. -/
theorem al_map : True := trivial
variable {E : am_E} {u : am_M} {k : Nat}
theorem r_isIn (a b c : Int) : Rn m_A_isIn 0 [vI a, vI b, vI c] [] E u = some (some (vI (bI (decide (b ≤ a ∧ a ≤ c)))), E, u) := by
  simp only [x_A_isIn]
  by_cases h1 : a < b
  · rw [if_pos h1, decide_eq_false (by omega)]; rfl
  · rw [if_neg h1]
    by_cases h2 : c < a
    · rw [if_pos h2, decide_eq_false (by omega)]; rfl
    · rw [if_neg h2, decide_eq_true (by omega)]; rfl
theorem r_look {r : Nat} {n : Nat} (hk : am_kn E r = 10) (hl : am_len 10 E r = n) (i : Int) : Rn m_A_look 0 [vR (some r), vI i] [] E u = some (some (vI (if 0 ≤ i ∧ i < n then u r i.toNat else 0)), E, u) := by
  simp only [x_A_look, hk, hl]
  by_cases h1 : i < 0
  · rw [if_pos h1, if_neg (by omega)]
  · rw [if_neg h1]
    by_cases h2 : i < n
    · rw [if_pos h2, if_pos (by omega)]
      simp (disch := omega) only [x_A_look, hl]
    · rw [if_neg h2, if_neg (by omega)]
theorem r_lay {r : Nat} {n : Nat} (hk : am_kn E r = 10) (hl : am_len 10 E r = n) (i a : Int) : Rn m_A_lay 0 [vR (some r), vI i, vI a] [] E u = some (none, E, if 0 ≤ i ∧ i < n then am_up u r i.toNat a else u) := by
  simp only [x_A_lay, hk, hl]
  by_cases h1 : i < 0
  · rw [if_pos h1, if_neg (by omega)]
  · rw [if_neg h1]
    by_cases h2 : i < n
    · rw [if_pos h2, if_pos (by omega)]
      simp (disch := omega) only [x_A_lay, hl]
    · rw [if_neg h2, if_neg (by omega)]
theorem r_C_isPin (hE : SE E) (hk : cuB k) (p : Int) : Rn m_C_isPin 0 [vR (some k), vI p] [] E u = some (some (vI (bI (decide (0 ≤ p ∧ p < u k 2)))), E, u) := by
  simp only [x_C_isPin, hE, hk]
  by_cases h1 : p < 0
  · rw [if_pos h1, decide_eq_false (by omega)]; rfl
  · rw [if_neg h1]
    by_cases h2 : p < u k 2
    · rw [if_pos h2, decide_eq_true (by omega)]; rfl
    · rw [if_neg h2, decide_eq_false (by omega)]; rfl

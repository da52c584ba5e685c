/-! Sets of pins, of threads, of courses; the holes counted. -/
variable {E : am_E} {u : am_M} {k : Nat} {n : am_Row}
theorem bits_yes {f : Nat → Bool} {m : Nat} (hm : m < 31) (h : f m = true) : i_or ((bits f m : Nat) : Int) (i_shl 1 (m : Int)) = ((bits f (m + 1) : Nat) : Int) := by
  have h1 := bits_lt f m
  have h2 : 2 ^ m < 2 ^ 31 := Nat.pow_lt_pow_right (by decide) hm
  rw [i_shl1 m hm, i_or_n (by omega) (by omega)]
  congr 1
  refine bits_ext fun i => ?_
  rw [Nat.testBit_or, bits_tb, Nat.testBit_two_pow]
  by_cases e : m = i
  · subst e; simp [h]
  · by_cases e2 : i < m
    · simp [e, e2, show i < m + 1 by omega]
    · simp [e, e2, show ¬ i < m + 1 by omega]
theorem bits_no {f : Nat → Bool} {m : Nat} (h : f m = false) : bits f (m + 1) = bits f m := by
  symm
  refine bits_ext fun i => ?_
  rw [bits_tb]
  by_cases e : m = i
  · subst e; simp [h]
  · by_cases e2 : i < m
    · simp [e2, show i < m + 1 by omega]
    · simp [e2, show ¬ i < m + 1 by omega]
theorem bits_or0 {f : Nat → Bool} {m : Nat} (hm : m < 31) : i_or ((bits f m : Nat) : Int) 0 = ((bits f m : Nat) : Int) := by
  have h1 := bits_lt f m
  have h2 : 2 ^ m < 2 ^ 31 := Nat.pow_lt_pow_right (by decide) hm
  rw [show (0 : Int) = ((0 : Nat) : Int) from rfl, i_or_n (by omega) (by decide), Nat.or_zero]
def s_out (n : am_Row) (p : Nat) : Bool := decide (s_C n (p : Int) = -4)
def s_hold (n : am_Row) (t : Nat) : Bool := s_holds n (t : Int)
def s_outs (n : am_Row) : Int := (bits (s_out n) (n 2).toNat : Nat)
def s_held (n : am_Row) : Int := (bits (s_hold n) (n 3).toNat : Nat)
def s_may (n : am_Row) (p : Int) (v : Nat) : Bool := s_mayGo n p (s_beside n (s_C n p) (v : Int))
def s_ways (n : am_Row) (p : Int) : Int := if s_C n p = -4 then 0 else (bits (s_may n p) 4 : Nat)
theorem c_outSet (h : CU E u k n) : Rn m_C_outSet 0 [vR (some k), vB false, vB false] [] E u = some (some (vI (s_outs n)), E, u) := by
  obtain ⟨hE, hk, hR, hV⟩ := h
  have h2 := hV.2.2.1
  have hu2 := hR.2.2.1
  obtain ⟨m, hm⟩ : ∃ m : Nat, n 2 = (m : Int) := ⟨(n 2).toNat, by omega⟩
  let f : Nat → am_Z := fun i => Rn m_C_outSet 4 [vR (some k), vI (bits (s_out n) i : Nat), vI (i : Int)] [] E u
  have start : Rn m_C_outSet 0 [vR (some k), vB false, vB false] [] E u = f 0 := by
    simp only [x_C_outSet, fx_R, fx_I]; rfl
  have step : ∀ i, i < m → f i = f (i + 1) := by
    intro i hi
    have q2 := (hR.2.2.2.2.2.2.2.2.1 (i : Int) (by omega) (by omega)).2.1
    simp only [f]
    rw [h_C_outSet_4]
    by_cases e : s_C n (i : Int) = -4
    · rw [← bits_yes (show i < 31 by omega) (show s_out n i = true by simp [s_out, e])]
      simp (disch := first | assumption | omega) only [x_C_outSet, hu2, hm, show (i : Int) < (m : Int) by omega, ↓reduceIte, r_look7 hE hk (j := 2) (by decide), bdI_s, q2, e, fx_R, fx_I, w32_of]
      rfl
    · rw [bits_no (show s_out n i = false by simp [s_out, e])]
      simp (disch := first | assumption | omega) only [x_C_outSet, hu2, hm, show (i : Int) < (m : Int) by omega, ↓reduceIte, r_look7 hE hk (j := 2) (by decide), bdI_s, q2, e, fx_R, fx_I, w32_of]
      rfl
  rw [start, q_loop f m step]
  simp only [f]
  rw [h_C_outSet_4]
  simp (disch := first | assumption | omega) only [x_C_outSet, hu2, hm, show ¬ (m : Int) < (m : Int) by omega, ↓reduceIte]
  unfold s_outs
  rw [show (n 2).toNat = m by omega]
theorem m_outs (h : MU E u n) : Rn m_M_outs 0 [vR (some 149), vB false, vB false] [] E u = some (some (vI (s_outs n)), E, u) := by
  obtain ⟨hE, hn, hV⟩ := h
  have al := (al_m hE).1
  have h2 := hV.2.2.1
  have s2 : (2 : Int).toNat = 2 := rfl
  obtain ⟨m, hm⟩ : ∃ m : Nat, n 2 = (m : Int) := ⟨(n 2).toNat, by omega⟩
  let f : Nat → am_Z := fun i => Rn m_M_outs 4 [vR (some 149), vI (bits (s_out n) i : Nat), vI (i : Int)] [] E u
  have start : Rn m_M_outs 0 [vR (some 149), vB false, vB false] [] E u = f 0 := by
    simp only [x_M_outs, fx_R, fx_I]; rfl
  have step : ∀ i, i < m → f i = f (i + 1) := by
    intro i hi
    simp only [f]
    rw [h_M_outs_4]
    by_cases e : s_C n (i : Int) = -4
    · rw [← bits_yes (show i < 31 by omega) (show s_out n i = true by simp [s_out, e])]
      have io := m_isOut (u := u) hE hn (show (0 : Int) ≤ (i : Int) by omega) (show (i : Int) < 7 by omega)
      rw [decide_eq_true e] at io
      simp (disch := first | assumption | omega) only [x_M_outs, hn, s2, hm, show (i : Int) < (m : Int) by omega, ↓reduceIte, io, bdI_s, bI_0, Bool.true_eq_false, fx_R, fx_I, w32_of]
      rfl
    · rw [bits_no (show s_out n i = false by simp [s_out, e])]
      have io := m_isOut (u := u) hE hn (show (0 : Int) ≤ (i : Int) by omega) (show (i : Int) < 7 by omega)
      rw [decide_eq_false e] at io
      simp (disch := first | assumption | omega) only [x_M_outs, hn, s2, hm, show (i : Int) < (m : Int) by omega, ↓reduceIte, io, bdI_s, bI_0, fx_R, fx_I, w32_of, bits_or0]
      rfl
  rw [start, q_loop f m step]
  simp only [f]
  rw [h_M_outs_4]
  simp (disch := first | assumption | omega) only [x_M_outs, hn, s2, hm, show ¬ (m : Int) < (m : Int) by omega, ↓reduceIte]
  unfold s_outs
  rw [show (n 2).toNat = m by omega]
theorem c_holdSet (h : CU E u k n) : Rn m_C_holdSet 0 [vR (some k), vB false, vB false] [] E u = some (some (vI (s_held n)), E, u) := by
  have h' := h
  obtain ⟨hE, hk, hR, hV⟩ := h
  have h2 := hV.2.2.2.1
  have hu2 := hR.2.2.2.1
  obtain ⟨m, hm⟩ : ∃ m : Nat, n 3 = (m : Int) := ⟨(n 3).toNat, by omega⟩
  let f : Nat → am_Z := fun i => Rn m_C_holdSet 4 [vR (some k), vI (bits (s_hold n) i : Nat), vI (i : Int)] [] E u
  have start : Rn m_C_holdSet 0 [vR (some k), vB false, vB false] [] E u = f 0 := by
    simp only [x_C_holdSet, fx_R, fx_I]; rfl
  have step : ∀ i, i < m → f i = f (i + 1) := by
    intro i hi
    have ho := c_holds h' (show (0 : Int) ≤ (i : Int) by omega) (show (i : Int) < n 3 by omega)
    simp only [f]
    rw [h_C_holdSet_4]
    cases e : s_holds n (i : Int) with
    | true =>
      rw [← bits_yes (show i < 31 by omega) (show s_hold n i = true from e)]
      rw [e] at ho
      simp (disch := first | assumption | omega) only [x_C_holdSet, hu2, hm, show (i : Int) < (m : Int) by omega, ↓reduceIte, ho, bdI_s, bI_0, Bool.true_eq_false, fx_R, fx_I, w32_of]
      rfl
    | false =>
      rw [bits_no (show s_hold n i = false from e)]
      rw [e] at ho
      simp (disch := first | assumption | omega) only [x_C_holdSet, hu2, hm, show (i : Int) < (m : Int) by omega, ↓reduceIte, ho, bdI_s, bI_0, fx_R, fx_I, w32_of]
      rfl
  rw [start, q_loop f m step]
  simp only [f]
  rw [h_C_holdSet_4]
  simp (disch := first | assumption | omega) only [x_C_holdSet, hu2, hm, show ¬ (m : Int) < (m : Int) by omega, ↓reduceIte]
  unfold s_held
  rw [show (n 3).toNat = m by omega]
theorem m_held (h : MU E u n) : Rn m_M_held 0 [vR (some 149), vB false, vB false] [] E u = some (some (vI (s_held n)), E, u) := by
  have h' := h
  obtain ⟨hE, hn, hV⟩ := h
  have al := (al_m hE).1
  have h2 := hV.2.2.2.1
  have s2 : (3 : Int).toNat = 3 := rfl
  obtain ⟨m, hm⟩ : ∃ m : Nat, n 3 = (m : Int) := ⟨(n 3).toNat, by omega⟩
  let f : Nat → am_Z := fun i => Rn m_M_held 4 [vR (some 149), vI (bits (s_hold n) i : Nat), vI (i : Int)] [] E u
  have start : Rn m_M_held 0 [vR (some 149), vB false, vB false] [] E u = f 0 := by
    simp only [x_M_held, fx_R, fx_I]; rfl
  have step : ∀ i, i < m → f i = f (i + 1) := by
    intro i hi
    have ho := m_holds h' (show (0 : Int) ≤ (i : Int) by omega) (show (i : Int) < n 3 by omega)
    simp only [f]
    rw [h_M_held_4]
    cases e : s_holds n (i : Int) with
    | true =>
      rw [← bits_yes (show i < 31 by omega) (show s_hold n i = true from e)]
      rw [e] at ho
      simp (disch := first | assumption | omega) only [x_M_held, hn, s2, hm, show (i : Int) < (m : Int) by omega, ↓reduceIte, ho, bdI_s, bI_0, Bool.true_eq_false, fx_R, fx_I, w32_of]
      rfl
    | false =>
      rw [bits_no (show s_hold n i = false from e)]
      rw [e] at ho
      simp (disch := first | assumption | omega) only [x_M_held, hn, s2, hm, show (i : Int) < (m : Int) by omega, ↓reduceIte, ho, bdI_s, bI_0, fx_R, fx_I, w32_of, bits_or0]
      rfl
  rw [start, q_loop f m step]
  simp only [f]
  rw [h_M_held_4]
  simp (disch := first | assumption | omega) only [x_M_held, hn, s2, hm, show ¬ (m : Int) < (m : Int) by omega, ↓reduceIte]
  unfold s_held
  rw [show (n 3).toNat = m by omega]
theorem c_waysOf (h : CU E u k n) {p : Int} (p0 : 0 ≤ p) (p1 : p < n 2) (hp : s_C n p ≠ -4) : Rn m_C_waysOf 0 [vR (some k), vI p, vB false, vB false] [] E u = some (some (vI (s_ways n p)), E, u) := by
  have h' := h
  obtain ⟨hE, hk, hR, hV⟩ := h
  have h2 := hV.2.2.1
  have hc := Vn_on hV p0 p1 hp
  have q2 := (hR.2.2.2.2.2.2.2.2.1 p p0 p1).2.1
  let f : Nat → am_Z := fun i => Rn m_C_waysOf 4 [vR (some k), vI p, vI (bits (s_may n p) i : Nat), vI (i : Int)] [] E u
  have start : Rn m_C_waysOf 0 [vR (some k), vI p, vB false, vB false] [] E u = f 0 := by
    simp only [x_C_waysOf, fx_R, fx_I, fx_B]; rfl
  have step : ∀ i, i < 4 → f i = f (i + 1) := by
    intro i hi
    have hbs := s_beside_in hV (v := (i : Int)) hc.1 hc.2
    have ho := c_mayGo h' p0 p1 hbs
    simp only [f]
    rw [h_C_waysOf_4]
    cases e : s_mayGo n p (s_beside n (s_C n p) (i : Int)) with
    | true =>
      rw [← bits_yes (show i < 31 by omega) (show s_may n p i = true from e)]
      rw [e] at ho
      simp (disch := first | assumption | omega) only [x_C_waysOf, show (i : Int) < 4 by omega, ↓reduceIte, r_look7 hE hk (j := 2) (by decide), q2, c_beside h', ho, bdI_s, bI_0, Bool.true_eq_false, fx_R, fx_I, w32_of]
      rfl
    | false =>
      rw [bits_no (show s_may n p i = false from e)]
      rw [e] at ho
      simp (disch := first | assumption | omega) only [x_C_waysOf, show (i : Int) < 4 by omega, ↓reduceIte, r_look7 hE hk (j := 2) (by decide), q2, c_beside h', ho, bdI_s, bI_0, fx_R, fx_I, w32_of]
      rfl
  rw [start, q_loop f 4 step]
  simp only [f]
  rw [h_C_waysOf_4]
  simp (disch := first | assumption | omega) only [x_C_waysOf, show ¬ ((4 : Nat) : Int) < 4 by omega, ↓reduceIte]
  unfold s_ways
  rw [if_neg hp]
theorem m_waysOf (h : MU E u n) {p : Int} (p0 : 0 ≤ p) (p1 : p < n 2) : Rn m_M_waysOf 0 [vR (some 149), vI p, vB false, vB false] [] E u = some (some (vI (s_ways n p)), E, u) := by
  have h' := h
  obtain ⟨hE, hn, hV⟩ := h
  have h2 := hV.2.2.1
  have hcl := s_cells_of hV
  have io := m_isOut (u := u) hE hn p0 (show p < 7 by omega)
  unfold s_ways
  let f : Nat → am_Z := fun i => Rn m_M_waysOf 4 [vR (some 149), vI p, vI (bits (s_may n p) i : Nat), vI (i : Int)] [] E u
  have start : Rn m_M_waysOf 0 [vR (some 149), vI p, vB false, vB false] [] E u = f 0 := by
    simp only [x_M_waysOf, fx_R, fx_I, fx_B]; rfl
  by_cases hp : s_C n p = -4
  · rw [if_pos hp, start]
    rw [decide_eq_true hp] at io
    simp only [f]
    rw [h_M_waysOf_4]
    simp (disch := first | assumption | omega) only [x_M_waysOf, show ((0 : Nat) : Int) < 4 by omega, ↓reduceIte, io, bdI_s, bI_0, Bool.true_eq_false]
    rfl
  rw [if_neg hp]
  rw [decide_eq_false hp] at io
  have hc := Vn_on hV p0 p1 hp
  have step : ∀ i, i < 4 → f i = f (i + 1) := by
    intro i hi
    have hbs := s_beside_in hV (v := (i : Int)) hc.1 hc.2
    have ho := m_mayGo h' (p := p) (c := s_beside n (s_C n p) (i : Int)) (by omega)
    simp only [f]
    rw [h_M_waysOf_4]
    cases e : s_mayGo n p (s_beside n (s_C n p) (i : Int)) with
    | true =>
      rw [← bits_yes (show i < 31 by omega) (show s_may n p i = true from e)]
      rw [e] at ho
      simp (disch := first | assumption | omega) only [x_M_waysOf, show (i : Int) < 4 by omega, ↓reduceIte, io, m_cellOf hE hn, m_beside h', ho, bdI_s, bI_0, Bool.true_eq_false, fx_R, fx_I, w32_of]
      rfl
    | false =>
      rw [bits_no (show s_may n p i = false from e)]
      rw [e] at ho
      simp (disch := first | assumption | omega) only [x_M_waysOf, show (i : Int) < 4 by omega, ↓reduceIte, io, m_cellOf hE hn, m_beside h', ho, bdI_s, bI_0, fx_R, fx_I, w32_of, bits_or0]
      rfl
  rw [start, q_loop f 4 step]
  simp only [f]
  rw [h_M_waysOf_4]
  simp (disch := first | assumption | omega) only [x_M_waysOf, show ¬ ((4 : Nat) : Int) < 4 by omega, ↓reduceIte]

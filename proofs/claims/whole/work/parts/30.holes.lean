/-! The reference counts its holes. -/
variable {E : am_E} {u : am_M} {n : am_Row}
def s_hole (n : am_Row) (c : Nat) : Bool := decide (s_H n (c : Int) = 1)
def s_count (n : am_Row) : Int := (cntB (s_hole n) 49 : Nat)
theorem m_holesNow (h : MU E u n) : Rn m_M_holesNow 0 [vR (some 149), vB false, vB false] [] E u = some (some (vI (s_count n)), E, u) := by
  have h' := h
  obtain ⟨hE, hn, hV⟩ := h
  have al := (al_m hE).1
  have hcl := s_cells_of hV
  obtain ⟨m, hm⟩ : ∃ m : Nat, s_cells n = (m : Int) := ⟨(s_cells n).toNat, by omega⟩
  let f : Nat → am_Z := fun i => Rn m_M_holesNow 4 [vR (some 149), vI (cntB (s_hole n) i : Nat), vI (i : Int)] [] E u
  have start : Rn m_M_holesNow 0 [vR (some 149), vB false, vB false] [] E u = f 0 := by
    simp only [x_M_holesNow, fx_R, fx_I]; rfl
  have step : ∀ i, i < m → f i = f (i + 1) := by
    intro i hi
    have hle := cntB_le (s_hole n) i
    have h01 := hV.2.2.2.2.2.2.2.2.1 (i : Int) (by omega) (by omega)
    have e1 : n (51 + (i : Int)).toNat = s_H n (i : Int) := rfl
    have e2 : ((cntB (s_hole n) (i + 1) : Nat) : Int) = ((cntB (s_hole n) i : Nat) : Int) + s_H n (i : Int) := by
      simp only [cntB, s_hole, decide_eq_true_eq]
      split <;> omega
    simp only [f]
    rw [h_M_holesNow_4, e2]
    simp (disch := first | assumption | omega) only [x_M_holesNow, m_cells h', bdI_s, hm, show (i : Int) < (m : Int) by omega, ↓reduceIte, hn, e1, fx_R, fx_I, w32_of]
    rfl
  rw [start, q_loop f m step]
  simp only [f]
  rw [h_M_holesNow_4]
  simp (disch := first | assumption | omega) only [x_M_holesNow, m_cells h', bdI_s, hm, show ¬ (m : Int) < (m : Int) by omega, ↓reduceIte]
  have hend : cntB (s_hole n) 49 = cntB (s_hole n) m := by
    have key : ∀ b, m + b ≤ 49 → cntB (s_hole n) (m + b) = cntB (s_hole n) m := by
      intro b
      induction b with
      | zero => intro _; rfl
      | succ b ih =>
        intro hb
        have hz : s_hole n (m + b) = false := by
          have := hV.2.2.2.2.2.2.2.2.2.1 ((m + b : Nat) : Int) (by omega) (by omega)
          simp only [s_hole, decide_eq_false_iff_not]
          omega
        rw [show m + (b + 1) = (m + b) + 1 by omega]
        simp only [cntB, hz, Bool.false_eq_true, ↓reduceIte, Nat.add_zero]
        exact ih (by omega)
    have := key (49 - m) (by omega)
    rw [show m + (49 - m) = 49 by omega] at this
    exact this
  unfold s_count
  rw [hend]

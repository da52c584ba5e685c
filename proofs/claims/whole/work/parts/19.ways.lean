/-! Threads that hold, where a pin may go, the nearest hole. -/
variable {E : am_E} {u : am_M} {k : Nat} {n : am_Row}
theorem Vn_pin (hV : Vn n) {p : Int} (h0 : 0 ≤ p) (h1 : p < n 2) : s_C n p = -4 ∨ (0 ≤ s_C n p ∧ s_C n p < 49 ∧ s_C n p < s_cells n) := by
  have hc := s_cells_of hV
  rcases (hV.2.2.2.2.2.2.1 p h0 h1).2.1 with h | h
  · exact Or.inl h
  · exact Or.inr ⟨h.1, by omega, h.2.1⟩
theorem Vn_thr (hV : Vn n) {t : Int} (h0 : 0 ≤ t) (h1 : t < n 3) : (0 ≤ s_A n t ∧ s_A n t < n 2) ∧ (0 ≤ s_B n t ∧ s_B n t < n 2) ∧ s_A n t ≠ s_B n t ∧ (1 ≤ s_L n t ∧ s_L n t ≤ 12) ∧ (s_X n t = 0 ∨ s_X n t = 1) := hV.2.2.2.2.2.2.2.1 t h0 h1
theorem s_holds_eq (hV : Vn n) {t : Int} (h0 : 0 ≤ t) (h1 : t < n 3) : s_holds n t = (decide (s_X n t = 0) && (decide (s_C n (s_A n t) ≠ -4) && (decide (s_C n (s_B n t) ≠ -4) && decide (s_far n (s_C n (s_A n t)) (s_C n (s_B n t)) ≤ s_L n t)))) := by
  obtain ⟨ha, hb, -⟩ := Vn_thr hV h0 h1
  unfold s_holds s_holdsIf s_one s_two
  rw [if_neg (by omega), if_neg (by omega)]
theorem c_holds (h : CU E u k n) {t : Int} (h0 : 0 ≤ t) (h1 : t < n 3) : Rn m_C_holds 0 [vR (some k), vI t, vB false, vB false] [] E u = some (some (vI (bI (s_holds n t))), E, u) := by
  have h' := h
  obtain ⟨hE, hk, hR, hV⟩ := h
  obtain ⟨ha, hb, hab, hl, hx⟩ := Vn_thr hV h0 h1
  have h2 := hV.2.2.1
  have h3 := hV.2.2.2.1
  obtain ⟨-, -, -, -, -, -, -, -, hp, -, ht⟩ := hR
  obtain ⟨t4, t5, t6⟩ := ht t h0 h1
  have pa := (hp _ ha.1 ha.2).2.1
  have pb := (hp _ hb.1 hb.2).2.1
  have ca := Vn_pin hV ha.1 ha.2
  have cb := Vn_pin hV hb.1 hb.2
  rw [s_holds_eq hV h0 h1]
  have it : decide (0 ≤ t ∧ t < n 3) = true := decide_eq_true ⟨h0, h1⟩
  rcases hx with hx | hx
  · have hx1 : ¬ s_X n t = 1 := by omega
    simp (disch := first | assumption | omega) only [x_C_holds, c_isThread h', c_isCut h' h0 h1, bdI_s, bI_0, it, hx1, decide_false, decide_true, Bool.true_eq_false, ↓reduceIte, r_look6 hE hk (j := 4) (by decide), r_look6 hE hk (j := 5) (by decide), r_look6 hE hk (j := 6) (by decide), r_look7 hE hk (j := 2) (by decide), t4, t5, t6, pa, pb, fx_I]
    by_cases ea : s_C n (s_A n t) = -4
    · simp [hx, ea, bI]
    · by_cases eb : s_C n (s_B n t) = -4
      · simp [hx, ea, eb, bI]
      · simp (disch := first | assumption | omega) only [ea, eb, ↓reduceIte, c_far h', bdI_s, x_C_holds, r_look6 hE hk (j := 6) (by decide), t6]
        by_cases ef : s_far n (s_C n (s_A n t)) (s_C n (s_B n t)) ≤ s_L n t
        · rw [if_neg (by omega)]
          simp [hx, ea, eb, ef, bI]
        · rw [if_pos (by omega)]
          simp [hx, ea, eb, ef, bI]
  · simp (disch := first | assumption | omega) only [x_C_holds, c_isThread h', c_isCut h' h0 h1, bdI_s, bI_0, it, hx, decide_true, Bool.true_eq_false, ↓reduceIte]
    rfl
theorem c_beside (h : CU E u k n) {c v : Int} (h0 : 0 ≤ c) (h1 : c < s_cells n) (v0 : 0 ≤ v) (v1 : v ≤ 3) : Rn m_C_beside 0 [vR (some k), vI c, vI v, vB false] [] E u = some (some (vI (s_beside n c v)), E, u) := by
  have h' := h
  obtain ⟨hE, hk, hR, hV⟩ := h
  have hc := s_cells_of hV
  have hn := hV.2.1
  obtain ⟨p1, p2, p3, p4, p5⟩ := dm_of hV h0 (by omega)
  have e0 : decide (0 ≤ c ∧ c < s_cells n) = true := decide_eq_true ⟨h0, h1⟩
  have hn1 : ¬ n 1 < 1 := by omega
  have hn0 : n 1 ≠ 0 := by omega
  have ev : v = 0 ∨ v = 1 ∨ v = 2 ∨ v = 3 := by omega
  unfold s_beside
  rcases ev with rfl | rfl | rfl | rfl
  · simp (disch := first | assumption | omega) only [x_C_beside, c_isCell h', bdI_s, bI_0, e0, Bool.true_eq_false, ↓reduceIte, hR.2.1, hn1, tmod_nn, w32_of, fx_I]
    by_cases e : c < n 1 <;> simp (disch := first | assumption | omega) only [e, ↓reduceIte, x_C_beside, hE, hk, hR.2.1, w32_of]
  · simp (disch := first | assumption | omega) only [x_C_beside, c_isCell h', bdI_s, bI_0, e0, Bool.true_eq_false, ↓reduceIte, hR.2.1, hn1, tmod_nn, w32_of, fx_I, (by decide : ¬ (1 : Int) = 0)]
    by_cases e : c + n 1 < s_cells n
    · rw [decide_eq_true (show 0 ≤ c + n 1 ∧ c + n 1 < s_cells n by omega)]
      simp only [Bool.true_eq_false, ↓reduceIte, e]
    · rw [decide_eq_false (show ¬ (0 ≤ c + n 1 ∧ c + n 1 < s_cells n) by omega)]
      simp only [↓reduceIte, e]
  · simp (disch := first | assumption | omega) only [x_C_beside, c_isCell h', bdI_s, bI_0, e0, Bool.true_eq_false, ↓reduceIte, hR.2.1, hn1, tmod_nn, w32_of, fx_I, (by decide : ¬ (2 : Int) = 0), (by decide : ¬ (2 : Int) = 1)]
    by_cases e : c % n 1 = 0 <;> simp (disch := first | assumption | omega) only [e, ↓reduceIte, x_C_beside, w32_of]
  · simp (disch := first | assumption | omega) only [x_C_beside, c_isCell h', bdI_s, bI_0, e0, Bool.true_eq_false, ↓reduceIte, hR.2.1, hn1, tmod_nn, w32_of, fx_I, (by decide : ¬ (3 : Int) = 0), (by decide : ¬ (3 : Int) = 1), (by decide : ¬ (3 : Int) = 2)]
    by_cases e : c % n 1 = n 1 - 1 <;> simp (disch := first | assumption | omega) only [e, ↓reduceIte, x_C_beside, w32_of]

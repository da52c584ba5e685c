/-! What the class asks of a cushion. -/
def CU (E : am_E) (u : am_M) (k : Nat) (n : am_Row) : Prop := SE E ∧ cuB k ∧ RC u k n ∧ Vn n
variable {E : am_E} {u : am_M} {k : Nat} {n : am_Row}
theorem w32_cells (hV : Vn n) : w32 (n 0 * n 1) = s_cells n := by
  have h := s_cells_of hV
  unfold s_cells at h ⊢
  exact w32_of (by omega) (by omega)
theorem r_isIn (a b c : Int) : Rn m_A_isIn 0 [vI a, vI b, vI c] [] E u = some (some (vI (bI (decide (b ≤ a ∧ a ≤ c)))), E, u) := by
  simp only [x_A_isIn]
  repeat' split
  all_goals first | (rw [decide_eq_true (by omega)]; rfl) | (rw [decide_eq_false (by omega)]; rfl)
theorem r_has {a t : Nat} (ha : a < 2147483648) (ht : t < 31) : Rn m_A_has 0 [vI (a : Int), vI (t : Int)] [] E u = some (some (vI (bI (a.testBit t))), E, u) := by
  simp only [x_A_has, i_bit ha ht, bI_0]
  cases a.testBit t <;> rfl
theorem r_look {r : Nat} {m : Int} (hk : am_kn E r = 10) (hl : am_len 10 E r = m) (i : Int) : Rn m_A_look 0 [vR (some r), vI i] [] E u = some (some (vI (if 0 ≤ i ∧ i < m then u r i.toNat else 0)), E, u) := by
  simp only [x_A_look, hk, hl]
  by_cases h1 : i < 0
  · rw [if_pos h1, if_neg (by omega)]
  · rw [if_neg h1]
    by_cases h2 : i < m
    · rw [if_pos h2, if_pos (by omega)]
      simp (disch := omega) only [x_A_look, hl]
    · rw [if_neg h2, if_neg (by omega)]
theorem r_lay {r : Nat} {m : Int} (hk : am_kn E r = 10) (hl : am_len 10 E r = m) (i a : Int) : Rn m_A_lay 0 [vR (some r), vI i, vI a] [] E u = some (none, E, if 0 ≤ i ∧ i < m then am_up u r i.toNat a else u) := by
  simp only [x_A_lay, hk, hl]
  by_cases h1 : i < 0
  · rw [if_pos h1, if_neg (by omega)]
  · rw [if_neg h1]
    by_cases h2 : i < m
    · rw [if_pos h2, if_pos (by omega)]
      simp (disch := omega) only [x_A_lay, hl]
    · rw [if_neg h2, if_neg (by omega)]
/-- look and lay over the rows of a cushion -/
theorem r_look7 (hE : SE E) (hk : cuB k) {j : Nat} (hj : j = 1 ∨ j = 2 ∨ j = 3) {i : Int} (h0 : 0 ≤ i) (h1 : i < 7) : Rn m_A_look 0 [vR (some (k + j)), vI i] [] E u = some (some (vI (u (k + j) i.toNat)), E, u) := by
  have al := al_c hE hk
  have kn := kn_c hE hk
  rcases hj with rfl | rfl | rfl
  · rw [r_look kn.1 al.1, if_pos ⟨h0, h1⟩]
  · rw [r_look kn.2.1 al.2.1, if_pos ⟨h0, h1⟩]
  · rw [r_look kn.2.2.1 al.2.2.1, if_pos ⟨h0, h1⟩]
theorem r_look6 (hE : SE E) (hk : cuB k) {j : Nat} (hj : j = 4 ∨ j = 5 ∨ j = 6) {i : Int} (h0 : 0 ≤ i) (h1 : i < 6) : Rn m_A_look 0 [vR (some (k + j)), vI i] [] E u = some (some (vI (u (k + j) i.toNat)), E, u) := by
  have al := al_c hE hk
  have kn := kn_c hE hk
  rcases hj with rfl | rfl | rfl
  · rw [r_look kn.2.2.2.1 al.2.2.2.1, if_pos ⟨h0, h1⟩]
  · rw [r_look kn.2.2.2.2.1 al.2.2.2.2.1, if_pos ⟨h0, h1⟩]
  · rw [r_look kn.2.2.2.2.2 al.2.2.2.2.2, if_pos ⟨h0, h1⟩]
theorem r_lay7 (hE : SE E) (hk : cuB k) {j : Nat} (hj : j = 1 ∨ j = 2 ∨ j = 3) {i a : Int} (h0 : 0 ≤ i) (h1 : i < 7) : Rn m_A_lay 0 [vR (some (k + j)), vI i, vI a] [] E u = some (none, E, am_up u (k + j) i.toNat a) := by
  have al := al_c hE hk
  have kn := kn_c hE hk
  rcases hj with rfl | rfl | rfl
  · rw [r_lay kn.1 al.1, if_pos ⟨h0, h1⟩]
  · rw [r_lay kn.2.1 al.2.1, if_pos ⟨h0, h1⟩]
  · rw [r_lay kn.2.2.1 al.2.2.1, if_pos ⟨h0, h1⟩]
theorem r_lay6 (hE : SE E) (hk : cuB k) {j : Nat} (hj : j = 4 ∨ j = 5 ∨ j = 6) {i a : Int} (h0 : 0 ≤ i) (h1 : i < 6) : Rn m_A_lay 0 [vR (some (k + j)), vI i, vI a] [] E u = some (none, E, am_up u (k + j) i.toNat a) := by
  have al := al_c hE hk
  have kn := kn_c hE hk
  rcases hj with rfl | rfl | rfl
  · rw [r_lay kn.2.2.2.1 al.2.2.2.1, if_pos ⟨h0, h1⟩]
  · rw [r_lay kn.2.2.2.2.1 al.2.2.2.2.1, if_pos ⟨h0, h1⟩]
  · rw [r_lay kn.2.2.2.2.2 al.2.2.2.2.2, if_pos ⟨h0, h1⟩]
theorem c_isPin (h : CU E u k n) (p : Int) : Rn m_C_isPin 0 [vR (some k), vI p] [] E u = some (some (vI (bI (decide (0 ≤ p ∧ p < n 2)))), E, u) := by
  obtain ⟨hE, hk, hR, hV⟩ := h
  simp only [x_C_isPin, hE, hk, hR.2.2.1]
  repeat' split
  all_goals first | (rw [decide_eq_true (by omega)]; rfl) | (rw [decide_eq_false (by omega)]; rfl)
theorem c_isThread (h : CU E u k n) (p : Int) : Rn m_C_isThread 0 [vR (some k), vI p] [] E u = some (some (vI (bI (decide (0 ≤ p ∧ p < n 3)))), E, u) := by
  obtain ⟨hE, hk, hR, hV⟩ := h
  simp only [x_C_isThread, hE, hk, hR.2.2.2.1]
  repeat' split
  all_goals first | (rw [decide_eq_true (by omega)]; rfl) | (rw [decide_eq_false (by omega)]; rfl)
theorem c_isCell (h : CU E u k n) (c : Int) : Rn m_C_isCell 0 [vR (some k), vI c] [] E u = some (some (vI (bI (decide (0 ≤ c ∧ c < s_cells n)))), E, u) := by
  obtain ⟨hE, hk, hR, hV⟩ := h
  simp only [x_C_isCell, hE, hk, hR.1, hR.2.1, w32_cells hV]
  repeat' split
  all_goals first | (rw [decide_eq_true (by omega)]; rfl) | (rw [decide_eq_false (by omega)]; rfl)
theorem c_cellCount (h : CU E u k n) : Rn m_C_cellCount 0 [vR (some k)] [] E u = some (some (vI (s_cells n)), E, u) := by
  obtain ⟨hE, hk, hR, hV⟩ := h
  simp only [x_C_cellCount, hE, hk, hR.1, hR.2.1, w32_cells hV]
theorem s_pinR_spec (n : am_Row) (c : Int) : ∀ m : Nat, (s_pinR n c m = -4 ∧ ∀ p : Int, 0 ≤ p → p < m → s_C n p ≠ c) ∨ (0 ≤ s_pinR n c m ∧ s_pinR n c m < m ∧ s_C n (s_pinR n c m) = c) := by
  intro m
  induction m with
  | zero => exact Or.inl ⟨rfl, fun p h1 h2 => by omega⟩
  | succ m ih =>
    simp only [s_pinR]
    by_cases h : s_C n (m : Int) = c
    · rw [if_pos h]
      exact Or.inr ⟨by omega, by omega, h⟩
    · rw [if_neg h]
      rcases ih with ⟨h1, h2⟩ | ⟨h1, h2, h3⟩
      · refine Or.inl ⟨h1, fun p hp hp2 => ?_⟩
        by_cases e : p = m
        · subst e; exact h
        · exact h2 p hp (by omega)
      · exact Or.inr ⟨h1, by omega, h3⟩
theorem s_pinOn_spec {n : am_Row} (hV : Vn n) (c : Int) : (s_pinOn n c = -4 ∧ ∀ p : Int, 0 ≤ p → p < n 2 → s_C n p ≠ c) ∨ (0 ≤ s_pinOn n c ∧ s_pinOn n c < n 2 ∧ s_C n (s_pinOn n c) = c) := by
  have h2 := hV.2.2.1
  rcases s_pinR_spec n c (n 2).toNat with ⟨a, b⟩ | ⟨a, b, d⟩
  · exact Or.inl ⟨a, fun p h0 h1 => b p h0 (by omega)⟩
  · refine Or.inr ⟨a, ?_, d⟩
    show s_pinR n c (n 2).toNat < n 2
    omega
theorem c_pinOn (h : CU E u k n) {c : Int} (hc : c ≠ -4) : Rn m_C_pinOn 0 [vR (some k), vI c, vB false] [] E u = some (some (vI (s_pinOn n c)), E, u) := by
  obtain ⟨hE, hk, hR, hV⟩ := h
  obtain ⟨al1, al2, al3, al4, al5, al6⟩ := al_c hE hk
  have kn := kn_c hE hk
  have kn2 := kn.2.1
  obtain ⟨-, -, -, -, -, -, -, -, hp, hq, -⟩ := hR
  have h2 := hV.2.2.1
  have start : Rn m_C_pinOn 0 [vR (some k), vI c, vB false] [] E u = Rn m_C_pinOn 2 [vR (some k), vI c, vI ((0 : Nat) : Int)] [] E u := by
    simp only [x_C_pinOn, fx_I]; rfl
  have step : ∀ i : Nat, i < 7 → u (k + 2) i ≠ c → Rn m_C_pinOn 2 [vR (some k), vI c, vI (i : Int)] [] E u = Rn m_C_pinOn 2 [vR (some k), vI c, vI ((i + 1 : Nat) : Int)] [] E u := by
    intro i hi hne
    have hi7 : (i : Int) < 7 := by omega
    rw [h_C_pinOn_2]
    simp (disch := first | assumption | omega) only [x_C_pinOn, al2, hi7, ↓reduceIte, Int.toNat_natCast, hne, w32_of, fx_I]
    rfl
  have at_ : ∀ i : Nat, i < 7 → u (k + 2) i = c → Rn m_C_pinOn 2 [vR (some k), vI c, vI (i : Int)] [] E u = some (some (vI (i : Int)), E, u) := by
    intro i hi he
    have hi7 : (i : Int) < 7 := by omega
    rw [h_C_pinOn_2]
    simp (disch := first | assumption | omega) only [x_C_pinOn, al2, hi7, ↓reduceIte, Int.toNat_natCast, he]
  have run : ∀ m : Nat, m ≤ 7 → (∀ i, i < m → u (k + 2) i ≠ c) → Rn m_C_pinOn 2 [vR (some k), vI c, vI ((0 : Nat) : Int)] [] E u = Rn m_C_pinOn 2 [vR (some k), vI c, vI (m : Int)] [] E u := fun m hm hne =>
    q_loop (fun i => Rn m_C_pinOn 2 [vR (some k), vI c, vI (i : Int)] [] E u) m (fun i hi => step i (by omega) (hne i hi))
  rw [start]
  rcases s_pinOn_spec hV c with ⟨e1, e2⟩ | ⟨e1, e2, e3⟩
  · rw [run 7 (Nat.le_refl _) (fun i hi => ?_), e1]
    · rw [h_C_pinOn_2]
      simp (disch := first | assumption | omega) only [x_C_pinOn, al2]
      rfl
    · by_cases hl : (i : Int) < n 2
      · have := (hp i (by omega) hl).2.1
        rw [Int.toNat_natCast] at this
        rw [this]
        exact e2 i (by omega) hl
      · have := hq i (by omega) (by omega)
        rw [Int.toNat_natCast] at this
        rw [this]
        exact fun z => hc z.symm
  · obtain ⟨q, hqe⟩ : ∃ q : Nat, s_pinOn n c = (q : Int) := ⟨(s_pinOn n c).toNat, by omega⟩
    rw [hqe] at e1 e2 e3 ⊢
    have hcell : ∀ i : Nat, (i : Int) < n 2 → u (k + 2) i = s_C n i := fun i hi => by
      have := (hp i (by omega) hi).2.1
      rw [Int.toNat_natCast] at this
      exact this
    rw [run q (by omega) (fun i hi z => ?_), at_ q (by omega) (by rw [hcell q e2]; exact e3)]
    rw [hcell i (by omega)] at z
    have := hV.2.2.2.2.2.2.2.2.2.2 i q (by omega) (by omega) e1 e2 (by rw [z, e3]) (by rw [z]; exact hc)
    omega
theorem c_thingOn (h : CU E u k n) {c : Int} (h0 : 0 ≤ c) (h1 : c < s_cells n) : Rn m_C_thingOn 0 [vR (some k), vI c] [] E u = some (some (vI (if s_H n c = 1 then 100 else s_pinOn n c)), E, u) := by
  have h' := h
  obtain ⟨hE, hk, hR, hV⟩ := h
  have hc := s_cells_of hV
  obtain ⟨t, rfl⟩ : ∃ t : Nat, c = (t : Int) := ⟨c.toNat, by omega⟩
  have hb := bits_lt (fun c => decide (s_H n c = 1)) 49
  have hbit := l_bit (a := bits (fun c => decide (s_H n c = 1)) 49) (t := t) (by omega) (by omega)
  rw [bits_tb] at hbit
  simp only [x_C_thingOn, hE, hk, hR.2.2.2.2.2.2.2.1, hbit, l_cmp0]
  have ht : t < 49 := by omega
  by_cases hh : s_H n (t : Int) = 1
  · rw [if_neg (by simp [ht, hh]), if_pos hh]
  · rw [if_pos (by simp [hh]), if_neg hh, c_pinOn h' (by omega)]
    simp only [bdI_s, x_C_thingOn]
theorem c_isCut (h : CU E u k n) {t : Int} (h0 : 0 ≤ t) (h1 : t < n 3) : Rn m_C_isCut 0 [vR (some k), vI t] [] E u = some (some (vI (bI (decide (s_X n t = 1)))), E, u) := by
  obtain ⟨hE, hk, hR, hV⟩ := h
  have h3 := hV.2.2.2.1
  obtain ⟨t, rfl⟩ : ∃ t' : Nat, t = (t' : Int) := ⟨t.toNat, by omega⟩
  have hb := bits_lt (fun t => decide ((t : Int) < n 3) && decide (s_X n t = 1)) 6
  have hbit := i_bit (a := bits (fun t => decide ((t : Int) < n 3) && decide (s_X n t = 1)) 6) (t := t) (by omega) (by omega)
  rw [bits_tb] at hbit
  have ht : t < 6 := by omega
  simp only [ht, h1, decide_true, Bool.true_and] at hbit
  simp only [x_C_isCut, hE, hk, hR.2.2.2.2.2.2.1, hbit, bI_0]
  by_cases hh : s_X n (t : Int) = 1 <;> simp [hh, bI]
theorem tdiv_nn {a b : Int} (h : 0 ≤ a) : a.tdiv b = a / b := Int.tdiv_eq_ediv_of_nonneg h
theorem tmod_nn {a b : Int} (h : 0 ≤ a) : a.tmod b = a % b := Int.tmod_eq_emod_of_nonneg h
/-- a cell's row and column are small -/
theorem dm_of (hV : Vn n) {a : Int} (h0 : 0 ≤ a) (h1 : a < 49) : 0 ≤ a / n 1 ∧ a / n 1 ≤ 16 ∧ 0 ≤ a % n 1 ∧ a % n 1 < n 1 ∧ a = n 1 * (a / n 1) + a % n 1 := by
  have h := hV.2.1
  have e : n 1 = 3 ∨ n 1 = 4 ∨ n 1 = 5 ∨ n 1 = 6 ∨ n 1 = 7 := by omega
  rcases e with e | e | e | e | e <;> rw [e] <;> omega
theorem c_far (h : CU E u k n) {a b : Int} (a0 : 0 ≤ a) (a1 : a < 49) (b0 : 0 ≤ b) (b1 : b < 49) : Rn m_C_far 0 [vR (some k), vI a, vI b, vB false, vB false, vB false] [] E u = some (some (vI (s_far n a b)), E, u) := by
  obtain ⟨hE, hk, hR, hV⟩ := h
  obtain ⟨p1, p2, p3, p4, -⟩ := dm_of hV a0 a1
  obtain ⟨q1, q2, q3, q4, -⟩ := dm_of hV b0 b1
  have h1 := hV.2.1
  have hn1 : ¬ n 1 < 1 := by omega
  simp (disch := first | assumption | omega) only [x_C_far, hE, hk, hR.2.1, hn1, ↓reduceIte, fx_I, tdiv_nn, tmod_nn, w32_of]
  unfold s_far s_abs
  repeat' split
  all_goals simp (disch := first | assumption | omega) only [x_C_far, hE, hk, hR.2.1, hn1, ↓reduceIte, fx_I, tdiv_nn, tmod_nn, w32_of]
  all_goals (repeat' split)
  all_goals first | omega | simp (disch := first | assumption | omega) only [x_C_far, w32_of]

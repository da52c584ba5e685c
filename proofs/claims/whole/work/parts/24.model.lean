/-! The reference: what it asks of its row. -/
/-- the reference's row becomes another -/
def sN (u : am_M) (n : am_Row) : am_M := fun i => if i = 150 then n else u i
theorem sN_150 (u : am_M) (n : am_Row) : sN u n 150 = n := by unfold sN; rw [if_pos rfl]
theorem sN_ne (u : am_M) (n : am_Row) {i : Nat} (h : i ≠ 150) : sN u n i = u i := by unfold sN; rw [if_neg h]
theorem sN_sN (u : am_M) (n m : am_Row) : sN (sN u n) m = sN u m := by funext i; unfold sN; split <;> rfl
theorem sN_self (u : am_M) : sN u (u 150) = u := by
  funext i
  unfold sN
  split
  · rename_i h; rw [h]
  · rfl
theorem sN_up (u : am_M) (j : Nat) (v : Int) : am_up u 150 j v = sN u (s_up (u 150) j v) := by
  funext i x
  unfold am_up sN s_up
  by_cases h : i = 150
  · subst h; simp
  · simp [h]
theorem sN_ups (u : am_M) (n : am_Row) (j : Nat) (v : Int) : am_up (sN u n) 150 j v = sN u (s_up n j v) := by rw [sN_up, sN_sN, sN_150]
variable {E : am_E} {u : am_M}
theorem lc_lt (a b : Int) : (l_cmp a b < 0) = (a < b) := by
  apply propext; unfold l_cmp; repeat' split
  all_goals omega
theorem lc_gt (a b : Int) : (0 < l_cmp a b) = (b < a) := by
  apply propext; unfold l_cmp; repeat' split
  all_goals omega
theorem lc_eq (a b : Int) : (l_cmp a b = 0) = (a = b) := by
  apply propext; unfold l_cmp; repeat' split
  all_goals omega
theorem m_in (a b c : Int) : Rn m_M_in 0 [vL a, vB false, vL b, vB false, vL c, vB false] [] E u = some (some (vI (bI (decide (b ≤ a ∧ a ≤ c)))), E, u) := by
  simp only [x_M_in, lc_lt, lc_gt]
  repeat' split
  all_goals first | (rw [decide_eq_true (by omega)]; rfl) | (rw [decide_eq_false (by omega)]; rfl)
def MU (E : am_E) (u : am_M) (n : am_Row) : Prop := SE E ∧ u 150 = n ∧ Vn n
variable {n : am_Row}
theorem m_cells (h : MU E u n) : Rn m_M_cells 0 [vR (some 149)] [] E u = some (some (vI (s_cells n)), E, u) := by
  obtain ⟨hE, hn, hV⟩ := h
  have al := (al_m hE).1
  simp (disch := first | assumption | omega) only [x_M_cells, hn, Int.toNat_zero, Int.toNat_one, w32_cells hV]
theorem m_isCell (h : MU E u n) {c : Int} : Rn m_M_isCell 0 [vR (some 149), vI c] [] E u = some (some (vI (bI (decide (0 ≤ c ∧ c < s_cells n)))), E, u) := by
  have h' := h
  obtain ⟨hE, hn, hV⟩ := h
  have hcl := s_cells_of hV
  simp (disch := first | assumption | omega) only [x_M_isCell, m_cells h', bdI_s, w32_of, m_in]
  rw [decide_eq_decide.mpr (show (0 ≤ c ∧ c ≤ s_cells n - 1) ↔ (0 ≤ c ∧ c < s_cells n) by omega)]
theorem m_isPin (h : MU E u n) {c : Int} : Rn m_M_isPin 0 [vR (some 149), vI c] [] E u = some (some (vI (bI (decide (0 ≤ c ∧ c < n 2)))), E, u) := by
  obtain ⟨hE, hn, hV⟩ := h
  have al := (al_m hE).1
  have h2 := hV.2.2.1
  simp (disch := first | assumption | omega) only [x_M_isPin, hn, bdI_s, w32_of, m_in, show (2 : Int).toNat = 2 from rfl]
  rw [decide_eq_decide.mpr (show (0 ≤ c ∧ c ≤ n 2 - 1) ↔ (0 ≤ c ∧ c < n 2) by omega)]
theorem m_isThread (h : MU E u n) {c : Int} : Rn m_M_isThread 0 [vR (some 149), vI c] [] E u = some (some (vI (bI (decide (0 ≤ c ∧ c < n 3)))), E, u) := by
  obtain ⟨hE, hn, hV⟩ := h
  have al := (al_m hE).1
  have h2 := hV.2.2.2.1
  simp (disch := first | assumption | omega) only [x_M_isThread, hn, bdI_s, w32_of, m_in, show (3 : Int).toNat = 3 from rfl]
  rw [decide_eq_decide.mpr (show (0 ≤ c ∧ c ≤ n 3 - 1) ↔ (0 ≤ c ∧ c < n 3) by omega)]
theorem m_ofPin (hE : SE E) {p w : Int} (p0 : 0 ≤ p) (p1 : p < 7) (w0 : 0 ≤ w) (w1 : w < 3) : Rn m_M_ofPin 0 [vR (some 149), vI p, vI w] [] E u = some (some (vI (u 150 (6 + 3 * p + w).toNat)), E, u) := by
  have al := (al_m hE).1
  simp (disch := first | assumption | omega) only [x_M_ofPin, w32_of]
theorem m_K (hE : SE E) (hn : u 150 = n) {p : Int} (p0 : 0 ≤ p) (p1 : p < 7) : Rn m_M_ofPin 0 [vR (some 149), vI p, vI 0] [] E u = some (some (vI (s_K n p)), E, u) := by
  rw [m_ofPin hE p0 p1 (by omega) (by omega), hn, Int.add_zero]; rfl
theorem m_Cc (hE : SE E) (hn : u 150 = n) {p : Int} (p0 : 0 ≤ p) (p1 : p < 7) : Rn m_M_ofPin 0 [vR (some 149), vI p, vI 1] [] E u = some (some (vI (s_C n p)), E, u) := by
  rw [m_ofPin hE p0 p1 (by omega) (by omega), hn]; rfl
theorem m_V (hE : SE E) (hn : u 150 = n) {p : Int} (p0 : 0 ≤ p) (p1 : p < 7) : Rn m_M_ofPin 0 [vR (some 149), vI p, vI 2] [] E u = some (some (vI (s_V n p)), E, u) := by
  rw [m_ofPin hE p0 p1 (by omega) (by omega), hn]; rfl
theorem m_cellOf (hE : SE E) (hn : u 150 = n) {p : Int} (p0 : 0 ≤ p) (p1 : p < 7) : Rn m_M_cellOf 0 [vR (some 149), vI p] [] E u = some (some (vI (s_C n p)), E, u) := by
  simp (disch := first | assumption | omega) only [x_M_cellOf, m_Cc hE hn, bdI_s]
theorem m_isOut (hE : SE E) (hn : u 150 = n) {p : Int} (p0 : 0 ≤ p) (p1 : p < 7) : Rn m_M_isOut 0 [vR (some 149), vI p] [] E u = some (some (vI (bI (decide (s_C n p = -4)))), E, u) := by
  simp (disch := first | assumption | omega) only [x_M_isOut, m_cellOf hE hn, bdI_s]
  by_cases e : s_C n p = -4 <;> simp [e, bI]
theorem m_ofThread (hE : SE E) {t w : Int} (t0 : 0 ≤ t) (t1 : t < 6) (w0 : 0 ≤ w) (w1 : w < 4) : Rn m_M_ofThread 0 [vR (some 149), vI t, vI w] [] E u = some (some (vI (u 150 (27 + 4 * t + w).toNat)), E, u) := by
  have al := (al_m hE).1
  simp (disch := first | assumption | omega) only [x_M_ofThread, w32_of]
theorem m_A (hE : SE E) (hn : u 150 = n) {t : Int} (t0 : 0 ≤ t) (t1 : t < 6) : Rn m_M_ofThread 0 [vR (some 149), vI t, vI 0] [] E u = some (some (vI (s_A n t)), E, u) := by
  rw [m_ofThread hE t0 t1 (by omega) (by omega), hn, Int.add_zero]; rfl
theorem m_B (hE : SE E) (hn : u 150 = n) {t : Int} (t0 : 0 ≤ t) (t1 : t < 6) : Rn m_M_ofThread 0 [vR (some 149), vI t, vI 1] [] E u = some (some (vI (s_B n t)), E, u) := by
  rw [m_ofThread hE t0 t1 (by omega) (by omega), hn]; rfl
theorem m_Ln (hE : SE E) (hn : u 150 = n) {t : Int} (t0 : 0 ≤ t) (t1 : t < 6) : Rn m_M_ofThread 0 [vR (some 149), vI t, vI 2] [] E u = some (some (vI (s_L n t)), E, u) := by
  rw [m_ofThread hE t0 t1 (by omega) (by omega), hn]; rfl
theorem m_X (hE : SE E) (hn : u 150 = n) {t : Int} (t0 : 0 ≤ t) (t1 : t < 6) : Rn m_M_ofThread 0 [vR (some 149), vI t, vI 3] [] E u = some (some (vI (s_X n t)), E, u) := by
  rw [m_ofThread hE t0 t1 (by omega) (by omega), hn]; rfl
theorem m_isHole (hE : SE E) (hn : u 150 = n) {c : Int} (c0 : 0 ≤ c) (c1 : c < 49) : Rn m_M_isHole 0 [vR (some 149), vI c] [] E u = some (some (vI (bI (decide (s_H n c = 1)))), E, u) := by
  have al := (al_m hE).1
  simp (disch := first | assumption | omega) only [x_M_isHole, hn, w32_of]
  have e : n (51 + c).toNat = s_H n c := rfl
  rw [e]
  by_cases e : s_H n c = 1 <;> simp [e, bI]
theorem m_pinOn (h : MU E u n) (c : Int) : Rn m_M_pinOn 0 [vR (some 149), vI c, vB false, vB false] [] E u = some (some (vI (s_pinOn n c)), E, u) := by
  obtain ⟨hE, hn, hV⟩ := h
  have al := (al_m hE).1
  have h2 := hV.2.2.1
  obtain ⟨m, hm⟩ : ∃ m : Nat, n 2 = (m : Int) := ⟨(n 2).toNat, by omega⟩
  let f : Nat → am_Z := fun i => Rn m_M_pinOn 5 [vR (some 149), vI c, vI (s_pinR n c i), vI (i : Int)] [] E u
  have start : Rn m_M_pinOn 0 [vR (some 149), vI c, vB false, vB false] [] E u = f 0 := by
    simp only [x_M_pinOn, fx_I]; rfl
  have step : ∀ i, i < m → f i = f (i + 1) := by
    intro i hi
    simp only [f]
    rw [h_M_pinOn_5]
    simp (disch := first | assumption | omega) only [x_M_pinOn, hn, show (2 : Int).toNat = 2 from rfl, hm, show (i : Int) < (m : Int) by omega, ↓reduceIte, m_cellOf hE hn, bdI_s]
    simp only [s_pinR]
    by_cases e : s_C n (i : Int) = c
    · simp (disch := first | assumption | omega) only [e, ↓reduceIte, x_M_pinOn, fx_I, w32_of]
      rfl
    · simp (disch := first | assumption | omega) only [e, ↓reduceIte, x_M_pinOn, fx_I, w32_of]
      rfl
  rw [start, q_loop f m step]
  simp only [f]
  rw [h_M_pinOn_5]
  simp (disch := first | assumption | omega) only [x_M_pinOn, hn, show (2 : Int).toNat = 2 from rfl, hm, show ¬ (m : Int) < (m : Int) by omega, ↓reduceIte]
  unfold s_pinOn
  rw [show (n 2).toNat = m by omega]
theorem m_apart {a b : Int} (a0 : -100 ≤ a) (a1 : a ≤ 100) (b0 : -100 ≤ b) (b1 : b ≤ 100) : Rn m_M_apart 0 [vI a, vI b] [] E u = some (some (vI (s_abs (a - b))), E, u) := by
  simp (disch := first | assumption | omega) only [x_M_apart, w32_of]
  unfold s_abs
  repeat' split
  all_goals first | rfl | omega | (congr 4; omega)
theorem m_far (h : MU E u n) {a b : Int} (a0 : 0 ≤ a) (a1 : a < 49) (b0 : 0 ≤ b) (b1 : b < 49) : Rn m_M_far 0 [vR (some 149), vI a, vI b, vB false] [] E u = some (some (vI (s_far n a b)), E, u) := by
  obtain ⟨hE, hn, hV⟩ := h
  have al := (al_m hE).1
  have h1 := hV.2.1
  obtain ⟨p1, p2, p3, p4, -⟩ := dm_of hV a0 a1
  obtain ⟨q1, q2, q3, q4, -⟩ := dm_of hV b0 b1
  have hs1 : 0 ≤ s_abs (a / n 1 - b / n 1) ∧ s_abs (a / n 1 - b / n 1) ≤ 16 := by unfold s_abs; split <;> omega
  have hs2 : 0 ≤ s_abs (a % n 1 - b % n 1) ∧ s_abs (a % n 1 - b % n 1) ≤ 16 := by unfold s_abs; split <;> omega
  simp (disch := first | assumption | omega) only [x_M_far, hn, show (1 : Int).toNat = 1 from rfl, fx_I, tdiv_nn, tmod_nn, w32_of, m_apart, bdI_s]
  rfl
theorem m_holdsIf (h : MU E u n) {t p c : Int} (t0 : 0 ≤ t) (t1 : t < n 3) (hc : c = -4 ∨ (0 ≤ c ∧ c < 49)) : Rn m_M_holdsIf 0 [vR (some 149), vI t, vI p, vI c, vB false, vB false, vB false, vB false] [] E u = some (some (vI (bI (s_holdsIf n t p c))), E, u) := by
  have h' := h
  obtain ⟨hE, hn, hV⟩ := h
  have h2 := hV.2.2.1
  have h3 := hV.2.2.2.1
  obtain ⟨ha, hb, hab, hl, hx⟩ := Vn_thr hV t0 t1
  have ca := Vn_pin hV ha.1 ha.2
  have cb := Vn_pin hV hb.1 hb.2
  have h1 : s_one n t p c = -4 ∨ (0 ≤ s_one n t p c ∧ s_one n t p c < 49) := by unfold s_one; split <;> omega
  have h2' : s_two n t p c = -4 ∨ (0 ≤ s_two n t p c ∧ s_two n t p c < 49) := by unfold s_two; split <;> omega
  have cut : ∀ one two : Int, (one = -4 ∨ (0 ≤ one ∧ one < 49)) → (two = -4 ∨ (0 ≤ two ∧ two < 49)) → Rn m_M_holdsIf 52 [vR (some 149), vI t, vI p, vI c, vI (s_A n t), vI (s_B n t), vI one, vI two] [] E u = some (some (vI (bI (decide (s_X n t = 0) && (decide (one ≠ -4) && (decide (two ≠ -4) && decide (s_far n one two ≤ s_L n t)))))), E, u) := by
    intro one two o1 o2
    simp (disch := first | assumption | omega) only [x_M_holdsIf, m_X hE hn, bdI_s]
    by_cases ex : s_X n t = 0
    case neg => simp [ex, bI]
    by_cases e1 : one = -4
    · simp [ex, e1, bI]
    by_cases e2 : two = -4
    · simp [ex, e1, e2, bI]
    simp (disch := first | assumption | omega) only [ex, e1, e2, ↓reduceIte, m_far h', bdI_s, x_M_holdsIf, m_Ln hE hn]
    by_cases e3 : s_far n one two ≤ s_L n t
    · rw [if_neg (by omega)]; simp [e1, e2, e3, bI]
    · rw [if_pos (by omega)]; simp [e1, e2, e3, bI]
  unfold s_holdsIf
  rw [← cut _ _ h1 h2']
  unfold s_one s_two
  by_cases ea : s_A n t = p
  · by_cases eb : s_B n t = p
    · exact absurd (ea.trans eb.symm) hab
    · simp (disch := first | assumption | omega) only [x_M_holdsIf, m_A hE hn, m_B hE hn, bdI_s, fx_I, ea, eb, ↓reduceIte, m_cellOf hE hn]
  · by_cases eb : s_B n t = p
    · simp (disch := first | assumption | omega) only [x_M_holdsIf, m_A hE hn, m_B hE hn, bdI_s, fx_I, ea, eb, ↓reduceIte, m_cellOf hE hn]
    · simp (disch := first | assumption | omega) only [x_M_holdsIf, m_A hE hn, m_B hE hn, bdI_s, fx_I, ea, eb, ↓reduceIte, m_cellOf hE hn]
theorem m_holds (h : MU E u n) {t : Int} (t0 : 0 ≤ t) (t1 : t < n 3) : Rn m_M_holds 0 [vR (some 149), vI t] [] E u = some (some (vI (bI (s_holds n t))), E, u) := by
  have hE := h.1
  simp (disch := first | assumption | omega) only [x_M_holds, m_holdsIf h t0 t1 (Or.inl rfl), bdI_s]
  rfl
theorem m_isOf (hE : SE E) (hn : u 150 = n) {t p : Int} (t0 : 0 ≤ t) (t1 : t < 6) : Rn m_M_isOf 0 [vR (some 149), vI t, vI p] [] E u = some (some (vI (bI (s_isOf n t p))), E, u) := by
  simp (disch := first | assumption | omega) only [x_M_isOf, m_A hE hn, m_B hE hn, bdI_s]
  unfold s_isOf
  by_cases ea : s_A n t = p
  · simp [ea, bI]
  · by_cases eb : s_B n t = p
    · simp [ea, eb, bI]
    · simp [ea, eb, bI]

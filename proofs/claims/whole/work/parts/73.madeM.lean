/-! The reference's object, as its constructor leaves it; the law up to its loop. -/
variable {E : am_E} {u : am_M} {k b : Nat} {l1 : am_V}
theorem M_0 {l1 : am_V} (hk : E.1[k]? = some (5, 17)) (hl : E.1.length = b) (hb : k < b) : ∃ E' u', Rn m_M_init 4 [vR (some k), l1] [] E u = Rn m_M_init 12 [vR (some k), l1] [] E' u' ∧ aP E E' k 0 10 100 b ∧ (∀ i, i ≠ b → u' i = u i) ∧ ∀ x, u' b x = 0 := by
  refine ⟨aA E k 0 10 100, am_zr u b, ?_, aP_aA hl hb, fun i hi => zr_ne hi, fun x => zr_eq⟩
  subst hl
  rw [x_M_init.2.2.1, x_M_init.2.2.2.1, x_M_init.2.2.2.2.1 _ _ _ _ _ _ (show (0 : Int) ≤ 100 ∧ (100 : Int) ≤ 10000 by omega), x_M_init.2.2.2.2.2.1 _ _ _ _ _ _ _ (gA hk)]
  rfl
theorem M_1 {l1 : am_V} (hk : E.1[k]? = some (5, 17)) (hl : E.1.length = b) (hb : k < b) : ∃ E' u', Rn m_M_init 12 [vR (some k), l1] [] E u = Rn m_M_init 20 [vR (some k), l1] [] E' u' ∧ aP E E' k 1 10 120 b ∧ (∀ i, i ≠ b → u' i = u i) ∧ ∀ x, u' b x = 0 := by
  refine ⟨aA E k 1 10 120, am_zr u b, ?_, aP_aA hl hb, fun i hi => zr_ne hi, fun x => zr_eq⟩
  subst hl
  rw [x_M_init.2.2.2.2.2.2.1, x_M_init.2.2.2.2.2.2.2.1, x_M_init.2.2.2.2.2.2.2.2.1 _ _ _ _ _ _ (show (0 : Int) ≤ 120 ∧ (120 : Int) ≤ 10000 by omega), x_M_init.2.2.2.2.2.2.2.2.2.1 _ _ _ _ _ _ _ (gA hk)]
  rfl
theorem M_5 {l1 : am_V} (hk : E.1[k]? = some (5, 17)) (hl : E.1.length = b) (hb : k < b) : ∃ E' u', Rn m_M_init 20 [vR (some k), l1] [] E u = Rn m_M_init 28 [vR (some k), l1] [] E' u' ∧ aP E E' k 5 10 51 b ∧ (∀ i, i ≠ b → u' i = u i) ∧ ∀ x, u' b x = 0 := by
  refine ⟨aA E k 5 10 51, am_zr u b, ?_, aP_aA hl hb, fun i hi => zr_ne hi, fun x => zr_eq⟩
  subst hl
  rw [x_M_init.2.2.2.2.2.2.2.2.2.2.1, x_M_init.2.2.2.2.2.2.2.2.2.2.2.1, x_M_init.2.2.2.2.2.2.2.2.2.2.2.2.1 _ _ _ _ _ _ (show (0 : Int) ≤ 51 ∧ (51 : Int) ≤ 10000 by omega), x_M_init.2.2.2.2.2.2.2.2.2.2.2.2.2.1 _ _ _ _ _ _ _ (gA hk)]
  rfl
theorem M_6 {l1 : am_V} (hk : E.1[k]? = some (5, 17)) (hl : E.1.length = b) (hb : k < b) : ∃ E' u', Rn m_M_init 28 [vR (some k), l1] [] E u = Rn m_M_init 36 [vR (some k), l1] [] E' u' ∧ aP E E' k 6 10 49 b ∧ (∀ i, i ≠ b → u' i = u i) ∧ ∀ x, u' b x = 0 := by
  refine ⟨aA E k 6 10 49, am_zr u b, ?_, aP_aA hl hb, fun i hi => zr_ne hi, fun x => zr_eq⟩
  subst hl
  rw [x_M_init.2.2.2.2.2.2.2.2.2.2.2.2.2.2.1, x_M_init.2.2.2.2.2.2.2.2.2.2.2.2.2.2.2.1, x_M_init.2.2.2.2.2.2.2.2.2.2.2.2.2.2.2.2.1 _ _ _ _ _ _ (show (0 : Int) ≤ 49 ∧ (49 : Int) ≤ 10000 by omega), x_M_init.2.2.2.2.2.2.2.2.2.2.2.2.2.2.2.2.2.1 _ _ _ _ _ _ _ (gA hk)]
  rfl
theorem M_7 {l1 : am_V} (hk : E.1[k]? = some (5, 17)) (hl : E.1.length = b) (hb : k < b) : ∃ E' u', Rn m_M_init 36 [vR (some k), l1] [] E u = Rn m_M_init 45 [vR (some k), l1] [] E' u' ∧ aP E E' k 7 10 568 b ∧ (∀ i, i ≠ b → u' i = u i) ∧ ∀ x, u' b x = 0 := by
  refine ⟨aA E k 7 10 568, am_zr u b, ?_, aP_aA hl hb, fun i hi => zr_ne hi, fun x => zr_eq⟩
  subst hl
  rw [x_M_init.2.2.2.2.2.2.2.2.2.2.2.2.2.2.2.2.2.2.1, x_M_init.2.2.2.2.2.2.2.2.2.2.2.2.2.2.2.2.2.2.2.1, x_M_init.2.2.2.2.2.2.2.2.2.2.2.2.2.2.2.2.2.2.2.2.1 _ _ _ _ _ _ (show (0 : Int) ≤ 568 ∧ (568 : Int) ≤ 10000 by omega), x_M_init.2.2.2.2.2.2.2.2.2.2.2.2.2.2.2.2.2.2.2.2.2.1 _ _ _ _ _ _ _ (gA hk)]
  rfl
theorem M_9 {l1 : am_V} (hk : E.1[k]? = some (5, 17)) (hl : E.1.length = b) (hb : k < b) : ∃ E' u', Rn m_M_init 45 [vR (some k), l1] [] E u = Rn m_M_init 53 [vR (some k), l1] [] E' u' ∧ aP E E' k 9 10 100 b ∧ (∀ i, i ≠ b → u' i = u i) ∧ ∀ x, u' b x = 0 := by
  refine ⟨aA E k 9 10 100, am_zr u b, ?_, aP_aA hl hb, fun i hi => zr_ne hi, fun x => zr_eq⟩
  subst hl
  rw [x_M_init.2.2.2.2.2.2.2.2.2.2.2.2.2.2.2.2.2.2.2.2.2.2.1, x_M_init.2.2.2.2.2.2.2.2.2.2.2.2.2.2.2.2.2.2.2.2.2.2.2.1, x_M_init.2.2.2.2.2.2.2.2.2.2.2.2.2.2.2.2.2.2.2.2.2.2.2.2.1 _ _ _ _ _ _ (show (0 : Int) ≤ 100 ∧ (100 : Int) ≤ 10000 by omega), x_M_init.2.2.2.2.2.2.2.2.2.2.2.2.2.2.2.2.2.2.2.2.2.2.2.2.2.1 _ _ _ _ _ _ _ (gA hk)]
  rfl
theorem M_10 {l1 : am_V} (hk : E.1[k]? = some (5, 17)) (hl : E.1.length = b) (hb : k < b) : ∃ E' u', Rn m_M_init 53 [vR (some k), l1] [] E u = Rn m_M_init 62 [vR (some k), l1] [] E' u' ∧ aP E E' k 10 10 668 b ∧ (∀ i, i ≠ b → u' i = u i) ∧ ∀ x, u' b x = 0 := by
  refine ⟨aA E k 10 10 668, am_zr u b, ?_, aP_aA hl hb, fun i hi => zr_ne hi, fun x => zr_eq⟩
  subst hl
  rw [x_M_init.2.2.2.2.2.2.2.2.2.2.2.2.2.2.2.2.2.2.2.2.2.2.2.2.2.2.1, x_M_init.2.2.2.2.2.2.2.2.2.2.2.2.2.2.2.2.2.2.2.2.2.2.2.2.2.2.2.1, x_M_init.2.2.2.2.2.2.2.2.2.2.2.2.2.2.2.2.2.2.2.2.2.2.2.2.2.2.2.2.1 _ _ _ _ _ _ (show (0 : Int) ≤ 668 ∧ (668 : Int) ≤ 10000 by omega), x_M_init.2.2.2.2.2.2.2.2.2.2.2.2.2.2.2.2.2.2.2.2.2.2.2.2.2.2.2.2.2.1 _ _ _ _ _ _ _ (gA hk)]
  rfl
theorem M_13 {l1 : am_V} (hk : E.1[k]? = some (5, 17)) (hl : E.1.length = b) (hb : k < b) : ∃ E' u', Rn m_M_init 62 [vR (some k), l1] [] E u = Rn m_M_init 69 [vR (some k), l1] [] E' u' ∧ aP E E' k 13 10 4 b ∧ (∀ i, i ≠ b → u' i = u i) ∧ ∀ x, u' b x = 0 := by
  refine ⟨aA E k 13 10 4, am_zr u b, ?_, aP_aA hl hb, fun i hi => zr_ne hi, fun x => zr_eq⟩
  subst hl
  rw [x_M_init.2.2.2.2.2.2.2.2.2.2.2.2.2.2.2.2.2.2.2.2.2.2.2.2.2.2.2.2.2.2.1, x_M_init.2.2.2.2.2.2.2.2.2.2.2.2.2.2.2.2.2.2.2.2.2.2.2.2.2.2.2.2.2.2.2.1, x_M_init.2.2.2.2.2.2.2.2.2.2.2.2.2.2.2.2.2.2.2.2.2.2.2.2.2.2.2.2.2.2.2.2.1 _ _ _ _ _ _ (show (0 : Int) ≤ 4 ∧ (4 : Int) ≤ 10000 by omega), x_M_init.2.2.2.2.2.2.2.2.2.2.2.2.2.2.2.2.2.2.2.2.2.2.2.2.2.2.2.2.2.2.2.2.2.1 _ _ _ _ _ _ _ (gA hk)]
  rfl
theorem M_14 {l1 : am_V} (hk : E.1[k]? = some (5, 17)) (hl : E.1.length = b) (hb : k < b) : ∃ E' u', Rn m_M_init 69 [vR (some k), l1] [] E u = Rn m_M_init 76 [vR (some k), l1] [] E' u' ∧ aP E E' k 14 10 4 b ∧ (∀ i, i ≠ b → u' i = u i) ∧ ∀ x, u' b x = 0 := by
  refine ⟨aA E k 14 10 4, am_zr u b, ?_, aP_aA hl hb, fun i hi => zr_ne hi, fun x => zr_eq⟩
  subst hl
  rw [x_M_init.2.2.2.2.2.2.2.2.2.2.2.2.2.2.2.2.2.2.2.2.2.2.2.2.2.2.2.2.2.2.2.2.2.2.1, x_M_init.2.2.2.2.2.2.2.2.2.2.2.2.2.2.2.2.2.2.2.2.2.2.2.2.2.2.2.2.2.2.2.2.2.2.2.1, x_M_init.2.2.2.2.2.2.2.2.2.2.2.2.2.2.2.2.2.2.2.2.2.2.2.2.2.2.2.2.2.2.2.2.2.2.2.2.1 _ _ _ _ _ _ (show (0 : Int) ≤ 4 ∧ (4 : Int) ≤ 10000 by omega), x_M_init.2.2.2.2.2.2.2.2.2.2.2.2.2.2.2.2.2.2.2.2.2.2.2.2.2.2.2.2.2.2.2.2.2.2.2.2.2.1 _ _ _ _ _ _ _ (gA hk)]
  rfl
theorem M_15 {l1 : am_V} (hk : E.1[k]? = some (5, 17)) (hl : E.1.length = b) (hb : k < b) : ∃ E' u', Rn m_M_init 76 [vR (some k), l1] [] E u = Rn m_M_init 84 [vR (some k), l1] [] E' u' ∧ aP E E' k 15 11 96 b ∧ (∀ i, i ≠ b → u' i = u i) ∧ ∀ x, u' b x = 0 := by
  refine ⟨aA E k 15 11 96, am_zr u b, ?_, aP_aA hl hb, fun i hi => zr_ne hi, fun x => zr_eq⟩
  subst hl
  rw [x_M_init.2.2.2.2.2.2.2.2.2.2.2.2.2.2.2.2.2.2.2.2.2.2.2.2.2.2.2.2.2.2.2.2.2.2.2.2.2.2.1, x_M_init.2.2.2.2.2.2.2.2.2.2.2.2.2.2.2.2.2.2.2.2.2.2.2.2.2.2.2.2.2.2.2.2.2.2.2.2.2.2.2.1, x_M_init.2.2.2.2.2.2.2.2.2.2.2.2.2.2.2.2.2.2.2.2.2.2.2.2.2.2.2.2.2.2.2.2.2.2.2.2.2.2.2.2.1 _ _ _ _ _ _ (show (0 : Int) ≤ 96 ∧ (96 : Int) ≤ 10000 by omega), x_M_init.2.2.2.2.2.2.2.2.2.2.2.2.2.2.2.2.2.2.2.2.2.2.2.2.2.2.2.2.2.2.2.2.2.2.2.2.2.2.2.2.2.1 _ _ _ _ _ _ _ (gA hk)]
  rfl
theorem M_16 {l1 : am_V} (hk : E.1[k]? = some (5, 17)) (hl : E.1.length = b) (hb : k < b) : ∃ E' u', Rn m_M_init 84 [vR (some k), l1] [] E u = Rn m_M_init 92 [vR (some k), l1] [] E' u' ∧ aP E E' k 16 11 24 b ∧ (∀ i, i ≠ b → u' i = u i) ∧ ∀ x, u' b x = 0 := by
  refine ⟨aA E k 16 11 24, am_zr u b, ?_, aP_aA hl hb, fun i hi => zr_ne hi, fun x => zr_eq⟩
  subst hl
  rw [x_M_init.2.2.2.2.2.2.2.2.2.2.2.2.2.2.2.2.2.2.2.2.2.2.2.2.2.2.2.2.2.2.2.2.2.2.2.2.2.2.2.2.2.2.1, x_M_init.2.2.2.2.2.2.2.2.2.2.2.2.2.2.2.2.2.2.2.2.2.2.2.2.2.2.2.2.2.2.2.2.2.2.2.2.2.2.2.2.2.2.2.1, x_M_init.2.2.2.2.2.2.2.2.2.2.2.2.2.2.2.2.2.2.2.2.2.2.2.2.2.2.2.2.2.2.2.2.2.2.2.2.2.2.2.2.2.2.2.2.1 _ _ _ _ _ _ (show (0 : Int) ≤ 24 ∧ (24 : Int) ≤ 10000 by omega), x_M_init.2.2.2.2.2.2.2.2.2.2.2.2.2.2.2.2.2.2.2.2.2.2.2.2.2.2.2.2.2.2.2.2.2.2.2.2.2.2.2.2.2.2.2.2.2.1 _ _ _ _ _ _ _ (gA hk)]
  rfl
def mL : List (Nat × Nat) := [(10, 100), (10, 120), (10, 51), (10, 49), (10, 568), (10, 100), (10, 668), (10, 4), (10, 4), (11, 96), (11, 24)]
def fL : List (Nat × Nat) := (aL ++ [(5, 17)]) ++ mL
theorem fL_a1 : ∀ i, i < 8 → fL[17 + 7 * i]? = some (0, 14) ∧ fL[17 + 7 * i + 1]? = some (10, 7) ∧ fL[17 + 7 * i + 2]? = some (10, 7) ∧ fL[17 + 7 * i + 3]? = some (10, 7) ∧ fL[17 + 7 * i + 4]? = some (10, 6) ∧ fL[17 + 7 * i + 5]? = some (10, 6) ∧ fL[17 + 7 * i + 6]? = some (10, 6) := by decide +kernel
theorem fL_a2 : ∀ i, i < 8 → fL[82 + 7 * i]? = some (0, 14) ∧ fL[82 + 7 * i + 1]? = some (10, 7) ∧ fL[82 + 7 * i + 2]? = some (10, 7) ∧ fL[82 + 7 * i + 3]? = some (10, 7) ∧ fL[82 + 7 * i + 4]? = some (10, 6) ∧ fL[82 + 7 * i + 5]? = some (10, 6) ∧ fL[82 + 7 * i + 6]? = some (10, 6) := by decide +kernel
theorem fL_c : ∀ k, (k = 1 ∨ k = 8 ∨ k = 73) → fL[k]? = some (0, 14) ∧ fL[k + 1]? = some (10, 7) ∧ fL[k + 2]? = some (10, 7) ∧ fL[k + 3]? = some (10, 7) ∧ fL[k + 4]? = some (10, 6) ∧ fL[k + 5]? = some (10, 6) ∧ fL[k + 6]? = some (10, 6) := by
  intro k h
  rcases h with h | h | h <;> subst h <;> decide +kernel
theorem fL_s : ∀ i, i < 4 → fL[141 + 2 * i]? = some (2, 4) ∧ fL[141 + 2 * i + 1]? = some (11, 24) := by decide +kernel
theorem fL_p : (fL[15]? = some (1, 3) ∧ fL[15 + 1]? = some (12, 8)) ∧ fL[80]? = some (1, 3) ∧ fL[80 + 1]? = some (12, 8) := by decide +kernel
theorem fL_o : fL[138]? = some (3, 3) ∧ fL[139]? = some (10, 120) ∧ fL[0]? = some (4, 8) ∧ fL[140]? = some (13, 4) := by decide +kernel
theorem fL_m : fL[149]? = some (5, 17) ∧ fL[150]? = some (10, 100) ∧ fL[151]? = some (10, 120) ∧ fL[152]? = some (10, 51) ∧ fL[153]? = some (10, 49) ∧ fL[154]? = some (10, 568) ∧ fL[155]? = some (10, 100) ∧ fL[156]? = some (10, 668) ∧ fL[157]? = some (10, 4) ∧ fL[158]? = some (10, 4) ∧ fL[159]? = some (11, 96) ∧ fL[160]? = some (11, 24) := by decide +kernel
theorem fL_z : fL.length = 161 ∧ (fL.map (fun q => q.2)).sum ≤ 100000 := by decide +kernel
theorem aL_len : aL.length = 149 := by decide +kernel
def RM (E : am_E) : Prop := E.2.1 149 0 = some 150 ∧ E.2.1 149 1 = some 151 ∧ E.2.1 149 5 = some 152 ∧ E.2.1 149 6 = some 153 ∧ E.2.1 149 7 = some 154 ∧ E.2.1 149 9 = some 155 ∧ E.2.1 149 10 = some 156 ∧ E.2.1 149 13 = some 157 ∧ E.2.1 149 14 = some 158 ∧ E.2.1 149 15 = some 159 ∧ E.2.1 149 16 = some 160
theorem SE_fL (h : E.1 = fL) (ha : RA E) (hm : RM E) : SE E := by
  obtain ⟨h1, h2, h3, h4, h5⟩ := ha
  unfold SE SE_cu SE_pa SE_sh SE_ot SE_mo
  rw [h]
  refine ⟨fun q hq => ?_, fun q hq => ?_, fun q hq => ?_, ?_, ?_⟩
  · obtain ⟨c1, c2, c3, c4, c5, c6⟩ := h1 q hq
    have H : fL[q]? = some (0, 14) ∧ fL[q + 1]? = some (10, 7) ∧ fL[q + 2]? = some (10, 7) ∧ fL[q + 3]? = some (10, 7) ∧ fL[q + 4]? = some (10, 6) ∧ fL[q + 5]? = some (10, 6) ∧ fL[q + 6]? = some (10, 6) := by
      rcases hq with h | h | h | ⟨i, hi, h⟩ | ⟨i, hi, h⟩
      · exact fL_c q (Or.inl h)
      · exact fL_c q (Or.inr (Or.inl h))
      · exact fL_c q (Or.inr (Or.inr h))
      · rw [h]; exact fL_a1 i hi
      · rw [h]; exact fL_a2 i hi
    obtain ⟨d0, d1, d2, d3, d4, d5, d6⟩ := H
    exact ⟨d0, d1, d2, d3, d4, d5, d6, c1, c2, c3, c4, c5, c6⟩
  · have H : fL[q]? = some (1, 3) ∧ fL[q + 1]? = some (12, 8) := by
      rcases hq with h | h <;> rw [h]
      · exact fL_p.1
      · exact fL_p.2
    exact ⟨H.1, H.2, h2 q hq⟩
  · have H : fL[q]? = some (2, 4) ∧ fL[q + 1]? = some (11, 24) := by
      obtain ⟨s, hs, e⟩ := hq
      rw [e]; exact fL_s s hs
    exact ⟨H.1, H.2, h3 q hq⟩
  · exact ⟨fL_o.1, fL_o.2.1, h4, fL_o.2.2.1, fL_o.2.2.2, h5⟩
  · obtain ⟨d0, d1, d2, d3, d4, d5, d6, d7, d8, d9, d10, d11⟩ := fL_m
    exact ⟨d0, d1, d2, d3, d4, d5, d6, d7, d8, d9, d10, d11, hm⟩
theorem n_I_up : s_up (s_fresh (fun _ => 0) 5 5) 5 1 = n_I := by
  funext x
  unfold s_up n_I s_fresh
  by_cases h : x = 5
  · subst h; rfl
  · rw [if_neg h]; dsimp only; rw [if_neg h]
def UM (u : am_M) : Prop := u 150 = n_I ∧ HM u [] ∧ u 149 12 = 0 ∧ u 149 2 = 0 ∧ ∀ s : Nat, s < 4 → u 157 s = -1 ∧ u 158 s = 0 ∧ ∀ i, u 159 i = 0
theorem up_ro {j : Nat} {v : Int} : am_up u k j v k = s_up (u k) j v := by
  funext x
  unfold am_up s_up
  by_cases h : x = j
  · rw [if_pos ⟨rfl, h⟩, if_pos h]
  · rw [if_neg (by omega), if_neg h]
theorem M_made (hl : E.1 = aL ++ [(5, 17)]) (hA : RA E) (hz : ∀ j, u 149 j = 0) : ∃ E' u', Rn m_M_init 0 [vR (some 149), vB false] [] E u = some (none, E', u') ∧ E'.1 = fL ∧ E'.2.2 = E.2.2 ∧ SE E' ∧ (∀ i, i < 149 → u' i = u i) ∧ UM u' := by
  have k0 : E.1[149]? = some (5, 17) := by rw [hl]; exact gC aL_len
  have l0 : E.1.length = 150 := by rw [hl, List.length_append, aL_len]; rfl
  obtain ⟨E1, u1, e1, ⟨a1, l1, t1, r1, s1, q1⟩, v1, z1⟩ := M_0 (u := u) (l1 := vB false) k0 l0 (by omega)
  have k1 : E1.1[149]? = some (5, 17) := by rw [a1]; exact gA k0
  obtain ⟨E2, u2, e2, ⟨a2, l2, t2, r2, s2, q2⟩, v2, z2⟩ := M_1 (u := u1) (l1 := vB false) k1 l1 (by omega)
  have k2 : E2.1[149]? = some (5, 17) := by rw [a2]; exact gA k1
  obtain ⟨E3, u3, e3, ⟨a3, l3, t3, r3, s3, q3⟩, v3, z3⟩ := M_5 (u := u2) (l1 := vB false) k2 l2 (by omega)
  have k3 : E3.1[149]? = some (5, 17) := by rw [a3]; exact gA k2
  obtain ⟨E4, u4, e4, ⟨a4, l4, t4, r4, s4, q4⟩, v4, z4⟩ := M_6 (u := u3) (l1 := vB false) k3 l3 (by omega)
  have k4 : E4.1[149]? = some (5, 17) := by rw [a4]; exact gA k3
  obtain ⟨E5, u5, e5, ⟨a5, l5, t5, r5, s5, q5⟩, v5, z5⟩ := M_7 (u := u4) (l1 := vB false) k4 l4 (by omega)
  have k5 : E5.1[149]? = some (5, 17) := by rw [a5]; exact gA k4
  obtain ⟨E6, u6, e6, ⟨a6, l6, t6, r6, s6, q6⟩, v6, z6⟩ := M_9 (u := u5) (l1 := vB false) k5 l5 (by omega)
  have k6 : E6.1[149]? = some (5, 17) := by rw [a6]; exact gA k5
  obtain ⟨E7, u7, e7, ⟨a7, l7, t7, r7, s7, q7⟩, v7, z7⟩ := M_10 (u := u6) (l1 := vB false) k6 l6 (by omega)
  have k7 : E7.1[149]? = some (5, 17) := by rw [a7]; exact gA k6
  obtain ⟨E8, u8, e8, ⟨a8, l8, t8, r8, s8, q8⟩, v8, z8⟩ := M_13 (u := u7) (l1 := vB false) k7 l7 (by omega)
  have k8 : E8.1[149]? = some (5, 17) := by rw [a8]; exact gA k7
  obtain ⟨E9, u9, e9, ⟨a9, l9, t9, r9, s9, q9⟩, v9, z9⟩ := M_14 (u := u8) (l1 := vB false) k8 l8 (by omega)
  have k9 : E9.1[149]? = some (5, 17) := by rw [a9]; exact gA k8
  obtain ⟨E10, u10, e10, ⟨a10, l10, t10, r10, s10, q10⟩, v10, z10⟩ := M_15 (u := u9) (l1 := vB false) k9 l9 (by omega)
  have k10 : E10.1[149]? = some (5, 17) := by rw [a10]; exact gA k9
  obtain ⟨E11, u11, e11, ⟨a11, l11, t11, r11, s11, q11⟩, v11, z11⟩ := M_16 (u := u10) (l1 := vB false) k10 l10 (by omega)
  have k11 : E11.1[149]? = some (5, 17) := by rw [a11]; exact gA k10
  have eL : E11.1 = fL := by
    rw [a11, a10, a9, a8, a7, a6, a5, a4, a3, a2, a1, hl]
    rfl
  have eQ : ∀ i, i < 149 → E11.2.1 i = E.2.1 i := fun i hi => by
    rw [q11 i (by omega) (by omega), q10 i (by omega) (by omega), q9 i (by omega) (by omega), q8 i (by omega) (by omega), q7 i (by omega) (by omega), q6 i (by omega) (by omega), q5 i (by omega) (by omega), q4 i (by omega) (by omega), q3 i (by omega) (by omega), q2 i (by omega) (by omega), q1 i (by omega) (by omega)]
  have eT : E11.2.2 = E.2.2 := by rw [t11, t10, t9, t8, t7, t6, t5, t4, t3, t2, t1]
  have eA : RA E11 := by
    obtain ⟨h1, h2, h3, h4, h5, h6, h7, h8, h9, h10, h11, h12⟩ := hA
    refine ⟨fun q hq => cuE_c (h1 q hq) (eQ q ?_), fun q hq => ?_, fun q hq => ?_, ?_, ?_, ?_, ?_, ?_, ?_, ?_, ?_, fun s hs => ?_⟩
    · have := cuB_lt hq; omega
    · have : q + 1 < 149 := by rcases hq with h | h <;> omega
      rw [eQ q (by omega), eQ (q + 1) (by omega)]
      exact h2 q hq
    · have : q < 149 := by obtain ⟨s, hs, e⟩ := hq; omega
      rw [eQ q (by omega)]
      exact h3 q hq
    · rw [eQ 138 (by omega)]; exact h4
    · rw [eQ 0 (by omega)]; exact h5
    · rw [eQ 0 (by omega)]; exact h6
    · rw [eQ 0 (by omega)]; exact h7
    · rw [eQ 0 (by omega)]; exact h8
    · rw [eQ 0 (by omega)]; exact h9
    · rw [eQ 0 (by omega)]; exact h10
    · rw [eQ 0 (by omega)]; exact h11
    · rw [eQ 140 (by omega)]; exact h12 s hs
  have eM : RM E11 := by
    refine ⟨?_, ?_, ?_, ?_, ?_, ?_, ?_, ?_, ?_, ?_, ?_⟩
    · rw [s11 0 (by omega), s10 0 (by omega), s9 0 (by omega), s8 0 (by omega), s7 0 (by omega), s6 0 (by omega), s5 0 (by omega), s4 0 (by omega), s3 0 (by omega), s2 0 (by omega), r1]
    · rw [s11 1 (by omega), s10 1 (by omega), s9 1 (by omega), s8 1 (by omega), s7 1 (by omega), s6 1 (by omega), s5 1 (by omega), s4 1 (by omega), s3 1 (by omega), r2]
    · rw [s11 5 (by omega), s10 5 (by omega), s9 5 (by omega), s8 5 (by omega), s7 5 (by omega), s6 5 (by omega), s5 5 (by omega), s4 5 (by omega), r3]
    · rw [s11 6 (by omega), s10 6 (by omega), s9 6 (by omega), s8 6 (by omega), s7 6 (by omega), s6 6 (by omega), s5 6 (by omega), r4]
    · rw [s11 7 (by omega), s10 7 (by omega), s9 7 (by omega), s8 7 (by omega), s7 7 (by omega), s6 7 (by omega), r5]
    · rw [s11 9 (by omega), s10 9 (by omega), s9 9 (by omega), s8 9 (by omega), s7 9 (by omega), r6]
    · rw [s11 10 (by omega), s10 10 (by omega), s9 10 (by omega), s8 10 (by omega), r7]
    · rw [s11 13 (by omega), s10 13 (by omega), s9 13 (by omega), r8]
    · rw [s11 14 (by omega), s10 14 (by omega), r9]
    · rw [s11 15 (by omega), r10]
    · rw [r11]
  have hE : SE E11 := SE_fL eL eA eM
  have hv : ∀ i, i < 150 → u11 i = u i := fun i hi => by
    rw [v11 i (by omega), v10 i (by omega), v9 i (by omega), v8 i (by omega), v7 i (by omega), v6 i (by omega), v5 i (by omega), v4 i (by omega), v3 i (by omega), v2 i (by omega), v1 i (by omega)]
  have o0 : ∀ x, u11 150 x = 0 := fun x => by
    rw [v11 150 (by omega), v10 150 (by omega), v9 150 (by omega), v8 150 (by omega), v7 150 (by omega), v6 150 (by omega), v5 150 (by omega), v4 150 (by omega), v3 150 (by omega), v2 150 (by omega), z1]
  have o7 : ∀ x, u11 157 x = 0 := fun x => by
    rw [v11 157 (by omega), v10 157 (by omega), v9 157 (by omega), z8]
  have o8 : ∀ x, u11 158 x = 0 := fun x => by
    rw [v11 158 (by omega), v10 158 (by omega), z9]
  have o9 : ∀ x, u11 159 x = 0 := fun x => by
    rw [v11 159 (by omega), z10]
  have h150 : u11 150 = fun _ => 0 := funext o0
  obtain ⟨d0, d1, d2, d3, d4, d5, d6, d7, d8, d9, d10, d11⟩ := fL_m
  rw [← eL] at d1 d8
  generalize hw : am_up (am_up (sN u11 (s_fresh (fun _ => 0) 5 5)) 149 8 0) 150 ((5 : Int)).toNat 1 = v
  have w1 : v 150 = n_I := by rw [← hw, up_ro, up_fn (by omega), sN_150]; exact n_I_up
  have w2 : ∀ i, i ≠ 150 → i ≠ 149 → v i = u11 i := fun i hi hj => by rw [← hw, up_fn hi, up_fn hj, sN_ne _ _ hi]
  have w3 : ∀ x, x ≠ 8 → v 149 x = 0 := fun x hx => by rw [← hw, up_fn (by omega), up_nj hx, sN_ne _ _ (by omega), hv 149 (by omega), hz]
  have w4 : v 149 8 = 0 := by rw [← hw, up_fn (by omega), up_eq]
  let f : Nat → am_Z := fun i => Rn m_M_init 107 [vR (some 149), vI (i : Int)] [] E11 (aS v 157 (s_fil (v 157) (fun _ => -1) 0 i))
  have start : Rn m_M_init 0 [vR (some 149), vB false] [] E u = f 0 := by
    simp only [f, s_fil_0, aS_self]
    rw [x_M_init.1, x_M_init.2.1, e1, e2, e3, e4, e5, e6, e7, e8, e9, e10, e11, x_M_init.2.2.2.2.2.2.2.2.2.2.2.2.2.2.2.2.2.2.2.2.2.2.2.2.2.2.2.2.2.2.2.2.2.2.2.2.2.2.2.2.2.2.2.2.2.2.1, x_M_init.2.2.2.2.2.2.2.2.2.2.2.2.2.2.2.2.2.2.2.2.2.2.2.2.2.2.2.2.2.2.2.2.2.2.2.2.2.2.2.2.2.2.2.2.2.2.2.1, x_M_init.2.2.2.2.2.2.2.2.2.2.2.2.2.2.2.2.2.2.2.2.2.2.2.2.2.2.2.2.2.2.2.2.2.2.2.2.2.2.2.2.2.2.2.2.2.2.2.2.1, x_M_init.2.2.2.2.2.2.2.2.2.2.2.2.2.2.2.2.2.2.2.2.2.2.2.2.2.2.2.2.2.2.2.2.2.2.2.2.2.2.2.2.2.2.2.2.2.2.2.2.2.1 _ _ _ _ _ _ _ k11, m_fresh hE h150, bdV_s, x_M_init.2.2.2.2.2.2.2.2.2.2.2.2.2.2.2.2.2.2.2.2.2.2.2.2.2.2.2.2.2.2.2.2.2.2.2.2.2.2.2.2.2.2.2.2.2.2.2.2.2.2.1, g_M_init_99 _ _ _ _ _ _ k11, eM.1, x_M_init.2.2.2.2.2.2.2.2.2.2.2.2.2.2.2.2.2.2.2.2.2.2.2.2.2.2.2.2.2.2.2.2.2.2.2.2.2.2.2.2.2.2.2.2.2.2.2.2.2.2.2.2.1, x_M_init.2.2.2.2.2.2.2.2.2.2.2.2.2.2.2.2.2.2.2.2.2.2.2.2.2.2.2.2.2.2.2.2.2.2.2.2.2.2.2.2.2.2.2.2.2.2.2.2.2.2.2.2.2.1, x_M_init.2.2.2.2.2.2.2.2.2.2.2.2.2.2.2.2.2.2.2.2.2.2.2.2.2.2.2.2.2.2.2.2.2.2.2.2.2.2.2.2.2.2.2.2.2.2.2.2.2.2.2.2.2.2.1 _ _ 150 5 _ _ E11 _ (by omega) (by rw [al_of d1]; omega), x_M_init.2.2.2.2.2.2.2.2.2.2.2.2.2.2.2.2.2.2.2.2.2.2.2.2.2.2.2.2.2.2.2.2.2.2.2.2.2.2.2.2.2.2.2.2.2.2.2.2.2.2.2.2.2.2.2.1, x_M_init.2.2.2.2.2.2.2.2.2.2.2.2.2.2.2.2.2.2.2.2.2.2.2.2.2.2.2.2.2.2.2.2.2.2.2.2.2.2.2.2.2.2.2.2.2.2.2.2.2.2.2.2.2.2.2.2.1, fx_R, hw]
    rfl
  have step : ∀ i, i < 4 → f i = f (i + 1) := by
    intro i hi
    simp only [f]
    rw [h_M_init_107, x_M_init.2.2.2.2.2.2.2.2.2.2.2.2.2.2.2.2.2.2.2.2.2.2.2.2.2.2.2.2.2.2.2.2.2.2.2.2.2.2.2.2.2.2.2.2.2.2.2.2.2.2.2.2.2.2.2.2.2.1, x_M_init.2.2.2.2.2.2.2.2.2.2.2.2.2.2.2.2.2.2.2.2.2.2.2.2.2.2.2.2.2.2.2.2.2.2.2.2.2.2.2.2.2.2.2.2.2.2.2.2.2.2.2.2.2.2.2.2.2.2.1, if_pos (by omega), x_M_init.2.2.2.2.2.2.2.2.2.2.2.2.2.2.2.2.2.2.2.2.2.2.2.2.2.2.2.2.2.2.2.2.2.2.2.2.2.2.2.2.2.2.2.2.2.2.2.2.2.2.2.2.2.2.2.2.2.2.2.1, g_M_init_113 _ _ _ _ _ _ k11, eM.2.2.2.2.2.2.2.1, x_M_init.2.2.2.2.2.2.2.2.2.2.2.2.2.2.2.2.2.2.2.2.2.2.2.2.2.2.2.2.2.2.2.2.2.2.2.2.2.2.2.2.2.2.2.2.2.2.2.2.2.2.2.2.2.2.2.2.2.2.2.2.2.1, x_M_init.2.2.2.2.2.2.2.2.2.2.2.2.2.2.2.2.2.2.2.2.2.2.2.2.2.2.2.2.2.2.2.2.2.2.2.2.2.2.2.2.2.2.2.2.2.2.2.2.2.2.2.2.2.2.2.2.2.2.2.2.2.2.1, x_M_init.2.2.2.2.2.2.2.2.2.2.2.2.2.2.2.2.2.2.2.2.2.2.2.2.2.2.2.2.2.2.2.2.2.2.2.2.2.2.2.2.2.2.2.2.2.2.2.2.2.2.2.2.2.2.2.2.2.2.2.2.2.2.2.1 _ _ 157 (i : Int) _ _ E11 _ (by omega) (by rw [al_of d8]; omega), x_M_init.2.2.2.2.2.2.2.2.2.2.2.2.2.2.2.2.2.2.2.2.2.2.2.2.2.2.2.2.2.2.2.2.2.2.2.2.2.2.2.2.2.2.2.2.2.2.2.2.2.2.2.2.2.2.2.2.2.2.2.2.2.2.2.2.1, fx_R, w_suc (by omega), x_M_init.2.2.2.2.2.2.2.2.2.2.2.2.2.2.2.2.2.2.2.2.2.2.2.2.2.2.2.2.2.2.2.2.2.2.2.2.2.2.2.2.2.2.2.2.2.2.2.2.2.2.2.2.2.2.2.2.2.2.2.2.2.2.2.2.2.1, Int.toNat_natCast, aS_up, s_fil_s (by omega) rfl]
  refine ⟨E11, aS v 157 (s_fil (v 157) (fun _ => -1) 0 4), ?_, eL, eT, hE, fun i hi => ?_, ?_, ⟨?_, by show 0 ≤ 8; omega, fun i r hr => by simp at hr⟩, ?_, ?_, fun s hs => ⟨?_, ?_, fun i => ?_⟩⟩
  · rw [start, q_loop f 4 step]
    simp only [f]
    rw [h_M_init_107, x_M_init.2.2.2.2.2.2.2.2.2.2.2.2.2.2.2.2.2.2.2.2.2.2.2.2.2.2.2.2.2.2.2.2.2.2.2.2.2.2.2.2.2.2.2.2.2.2.2.2.2.2.2.2.2.2.2.2.2.1, x_M_init.2.2.2.2.2.2.2.2.2.2.2.2.2.2.2.2.2.2.2.2.2.2.2.2.2.2.2.2.2.2.2.2.2.2.2.2.2.2.2.2.2.2.2.2.2.2.2.2.2.2.2.2.2.2.2.2.2.2.1, if_neg (by omega), x_M_init.2.2.2.2.2.2.2.2.2.2.2.2.2.2.2.2.2.2.2.2.2.2.2.2.2.2.2.2.2.2.2.2.2.2.2.2.2.2.2.2.2.2.2.2.2.2.2.2.2.2.2.2.2.2.2.2.2.2.2.2.2.2.2.2.2.2]
  · rw [aS_ne _ _ (by omega), w2 i (by omega) (by omega), hv i (by omega)]
  · rw [aS_ne _ _ (by omega), w1]
  · rw [aS_ne _ _ (by omega), w4]; rfl
  · rw [aS_ne _ _ (by omega), w3 _ (by omega)]
  · rw [aS_ne _ _ (by omega), w3 _ (by omega)]
  · rw [aS_eq, s_fil_in (by omega)]
  · rw [aS_ne _ _ (by omega), w2 _ (by omega) (by omega), o8]
  · rw [aS_ne _ _ (by omega), w2 _ (by omega) (by omega), o9]
def S_I : am_S := (n_I, [], none, [], fun _ => (-1, 0, fun _ => 0))
theorem OKS_0 : OKS S_I := by
  have hV : Vn n_I := Vn_fresh (by omega) (by omega)
  have h4 : n_I 4 = 0 := rfl
  have h5 : n_I 5 = 1 := rfl
  refine ⟨⟨hV, ?_, ?_, ?_⟩, ⟨fun i r hr => ?_, ?_⟩, fun m J h => ?_, ⟨?_, fun i c hc => ?_⟩, fun s hs => ?_⟩
  · show n_I 4 ≤ 9999; omega
  · show 0 ≤ n_I 5 ∧ n_I 5 ≤ 2147483647; omega
  · exact Zn_fresh (fun j hj => by show (if j = 5 then (1 : Int) else 0) = 0; rw [if_neg (by omega)]) 5 5
  · simp [S_I] at hr
  · show 0 ≤ 8; omega
  · simp [S_I] at h
  · show 0 ≤ 120; omega
  · simp [S_I] at hc
  · show (-1 ≤ (-1 : Int) ∧ (-1 : Int) ≤ 3) ∧ (0 ≤ (0 : Int) ∧ (0 : Int) ≤ 24); omega
theorem CS_0 (hE : SE E) (h : UA u) : CS E u S_I := by
  obtain ⟨h0, h1, h2, h3, h4⟩ := h
  refine ⟨hE, h1, ⟨by rw [h2]; rfl, by show 0 ≤ 8; omega, by rw [h2]; omega, fun i r hr => by simp [S_I] at hr⟩, Or.inl ⟨rfl, h0⟩, ⟨by rw [h3]; rfl, fun i c hc => by simp [S_I] at hc⟩, fun s hs => ?_⟩
  obtain ⟨a1, a2, a3⟩ := h4 s hs
  exact ⟨a1, fun h => by have h' : (0 : Int) ≤ -1 := h; omega, a2, fun i _ => a3 i⟩
theorem MS_0 (hE : SE E) (h : UM u) : MS E u S_I := by
  obtain ⟨h0, h1, h2, h3, h4⟩ := h
  exact ⟨hE, h0, h1, Or.inl ⟨rfl, h2⟩, ⟨by rw [h3]; rfl, fun i c hc => by simp [S_I] at hc⟩, fun s hs => ⟨(h4 s hs).1, (h4 s hs).2.1, fun i _ => (h4 s hs).2.2 _⟩⟩
theorem UA_c {u' : am_M} (h : UA u) (e : ∀ i, i < 149 → u' i = u i) : UA u' := by
  obtain ⟨h0, h1, h2, h3, h4⟩ := h
  refine ⟨by rw [e 0 (by omega)]; exact h0, RC_congr (fun z z0 z1 => e z (by omega)) h1, fun j => by rw [e 15 (by omega)]; exact h2 j, by rw [e 138 (by omega)]; exact h3, fun m hm => ?_⟩
  rw [e (141 + 2 * m) (by omega), e (142 + 2 * m) (by omega)]
  exact h4 m hm
theorem L_made (L : Nat) (xs : Nat → Int) : ∃ E u, Rn m_L_law 0 [vB true, vB false, vB false, vB false] [] (am_E0 L xs) am_u0 = Rn m_L_law 18 [vB true, vR (some 0), vR (some 149), vI 0] [] E u ∧ E.1 = fL ∧ E.2.2 = (L, xs) ∧ CS E u S_I ∧ MS E u S_I := by
  have q0 : ([(4, 8)] : List (Nat × Nat))[0]? = some (4, 8) := rfl
  obtain ⟨E1, u1, e1, a1, t1, R1, U1⟩ := A_made (E := ([(4, 8)], am_zq (fun _ _ => none) 0, L, xs)) (u := am_zr am_u0 0) rfl (fun j => zr_eq)
  have L1 : E1.1.length = 149 := by rw [a1, aL_len]
  have k2 : (E1.1 ++ [(5, 17)])[149]? = some (5, 17) := gC L1
  have R2 : RA ((E1.1 ++ [(5, 17)], am_zq E1.2.1 149, E1.2.2) : am_E) := by
    obtain ⟨h1, h2, h3, h4, h5, h6, h7, h8, h9, h10, h11, h12⟩ := R1
    have eQ : ∀ i, i < 149 → am_zq E1.2.1 149 i = E1.2.1 i := fun i hi => zq_ne (by omega)
    refine ⟨fun q hq => cuE_c (h1 q hq) (eQ q ?_), fun q hq => ?_, fun q hq => ?_, ?_, ?_, ?_, ?_, ?_, ?_, ?_, ?_, fun s hs => ?_⟩ <;> try dsimp only
    · have := cuB_lt hq; omega
    · have : q + 1 < 149 := by rcases hq with h | h <;> omega
      rw [eQ q (by omega), eQ (q + 1) (by omega)]
      exact h2 q hq
    · have : q < 149 := by obtain ⟨s, hs, e⟩ := hq; omega
      rw [eQ q (by omega)]
      exact h3 q hq
    · rw [eQ 138 (by omega)]; exact h4
    · rw [eQ 0 (by omega)]; exact h5
    · rw [eQ 0 (by omega)]; exact h6
    · rw [eQ 0 (by omega)]; exact h7
    · rw [eQ 0 (by omega)]; exact h8
    · rw [eQ 0 (by omega)]; exact h9
    · rw [eQ 0 (by omega)]; exact h10
    · rw [eQ 0 (by omega)]; exact h11
    · rw [eQ 140 (by omega)]; exact h12 s hs
  obtain ⟨E3, u3, e3, a3, t3, hE, hu, U3⟩ := M_made (E := (E1.1 ++ [(5, 17)], am_zq E1.2.1 149, E1.2.2)) (u := am_zr u1 149) (by rw [a1]) R2 (fun j => zr_eq)
  refine ⟨E3, u3, ?_, a3, t3.trans t1, CS_0 hE (UA_c U1 fun i hi => by rw [hu i hi, zr_ne (by omega)]), MS_0 hE U3⟩
  have s1 : Rn m_L_law 0 [vB true, vB false, vB false, vB false] [] (am_E0 L xs) am_u0 = Rn m_L_law 3 [vB true, vB false, vB false, vB false] [vR (some 0)] ([(4, 8)], am_zq (fun _ _ => none) 0, L, xs) (am_zr am_u0 0) := x_L_law.1 _ _ _ _ _ _ _
  rw [s1, x_L_law.2.2.1, x_L_law.2.2.2.1 _ _ _ _ _ _ _ _ q0, e1, bdV_s, x_L_law.2.2.2.2.1, x_L_law.2.2.2.2.2.1, L1, x_L_law.2.2.2.2.2.2.2.1, x_L_law.2.2.2.2.2.2.2.2.1 _ _ _ _ _ _ _ _ k2, e3, bdV_s, x_L_law.2.2.2.2.2.2.2.2.2.1, x_L_law.2.2.2.2.2.2.2.2.2.2.1, x_L_law.2.2.2.2.2.2.2.2.2.2.2.1]
  rfl

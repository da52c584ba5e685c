/-! The reference reads a pin, a thread, a thing. -/
variable {E : am_E} {u : am_M} {k : Nat} {n : am_Row} {T : List Int}
theorem h0_of {c : Int} (h : c ≠ -1) : s_h0 c = c := by unfold s_h0; rw [if_neg h]
theorem h0_no {c d : Int} (h : c ≠ d) (hd : d ≠ 0) : s_h0 c ≠ d := by
  unfold s_h0
  split <;> omega
theorem m_readPin (hE : SE E) (hT : OKt T) (hS : MSt u T) {r o : am_Row} (hV : Vn n) (hP : PR n r o) {K : Int} {q : Nat} (hq : q < T.length) : m_red E u (p_pin T n K q) (Rn m_M_readPin 0 [vR (some 149), vI K, vB false, vB false, vB false, vB false] [] E (ZS u (q : Int) 0 r o)) := by
  obtain ⟨l0, l1, l2, l3, l4, l5, l6, l7, l8, l9, l10⟩ := al_m hE
  have l120 := hT.1
  have hcl := s_cells_of hV
  have h2 := hV.2.2.1
  have h6 : q < 1000000 := by omega
  have e2 : (2 : Int).toNat = 2 := rfl
  have r2 : r 2 = n 2 := hP.1.2.2.1
  have a0 : (0 : Int) ≤ 2 := by omega
  have a1 : (2 : Int) < am_len 10 E 152 := by omega
  have z1 : ¬ (1 : Int) = 0 := by decide
  unfold p_pin
  by_cases h7 : 7 ≤ n 2
  · rw [if_pos h7]
    have c7 : ¬ n 2 < 7 := by omega
    have mf := m_mustF (u := u) (r := r) (o := o) hE h6
    obtain ⟨v, fc⟩ := m_freeX (u := u) (r := r) (o := o) hE h6
    refine ⟨r, o, ?_, fun z => by cases z⟩
    simp (disch := assumption) only [↓reduceIte, Int.reduceEq, Int.reduceLT, bdI_s, bdV_s, bdR_s, bdL_s, fx_I, fx_R, fx_B, fx_L, x_M_readPin, zr_r, e2, r2, c7, mf, fc, zr_4, zr_3, z1, w_add0 h6, zs_3]
    rfl
  rw [if_neg h7]
  have c7 : n 2 < 7 := by omega
  have mt := m_mustT (u := u) (r := r) (o := o) hE h6
  obtain ⟨v, fc, hv⟩ := m_freeCell (u := u) (q := q + 1) hE hT hS hV hP hq
  have ok := p_cell_ok hV hT (q := q + 1) hq
  generalize p_cell T n (q + 1) = C at *
  obtain ⟨ok1, okb, okc⟩ := ok
  have hC6 : C.2 < 1000000 := by omega
  by_cases h4 : C.1 = -4
  · rw [if_pos h4] at fc ⊢
    refine ⟨r, o, ?_, fun z => by cases z⟩
    simp (disch := assumption) only [↓reduceIte, Int.reduceEq, Int.reduceLT, bdI_s, bdV_s, bdR_s, bdL_s, fx_I, fx_R, fx_B, fx_L, x_M_readPin, zr_r, e2, r2, c7, mt, fc, zr_4, zr_3, z1, w_add0 hC6, zs_3]
    rfl
  rw [if_neg h4] at fc ⊢
  obtain ⟨c1, c2, c3, c4, -⟩ := okc h4
  have ev := hv h4
  rw [ev] at fc
  have hh := m_here (u := u) (f := 0) (r := r) (o := o) hE hT hS ok1
  have sl := s_sk_le ok1
  have hs6 : s_sk T C.2 < 1000000 := by omega
  have b1 : C.1 < am_len 10 E 153 := by omega
  have j0 : (0 : Int) ≤ 6 + 3 * n 2 := by omega
  have j1 : (6 + 3 * n 2 : Int) < am_len 10 E 152 := by omega
  have j2 : (0 : Int) ≤ 6 + 3 * n 2 + 1 := by omega
  have j3 : (6 + 3 * n 2 + 1 : Int) < am_len 10 E 152 := by omega
  have j4 : (0 : Int) ≤ 6 + 3 * n 2 + 2 := by omega
  have j5 : (6 + 3 * n 2 + 2 : Int) < am_len 10 E 152 := by omega
  have w1 : w32 (3 * n 2) = 3 * n 2 := w32_sm (by omega) (by omega)
  have w2 : w32 (6 + 3 * n 2) = 6 + 3 * n 2 := w32_sm (by clear w1; omega) (by clear w1; omega)
  have w3 : w32 (6 + 3 * n 2 + 1) = 6 + 3 * n 2 + 1 := w32_sm (by clear w1 w2; omega) (by clear w1 w2; omega)
  have w4 : w32 (6 + 3 * n 2 + 2) = 6 + 3 * n 2 + 2 := w32_sm (by clear w1 w2 w3; omega) (by clear w1 w2 w3; omega)
  have w5 : w32 (n 2 + 1) = n 2 + 1 := w32_sm (by clear w1 w2 w3 w4; omega) (by clear w1 w2 w3 w4; omega)
  have r2' : ∀ v : Int, (s_up (s_up (s_up r (6 + 3 * n 2).toNat K) (6 + 3 * n 2 + 1).toNat C.1) (6 + 3 * n 2 + 2).toNat v) 2 = n 2 := fun v => by
    clear w1 w2 w3 w4 w5
    rw [su_ne (by omega), su_ne (by omega), su_ne (by omega)]
    exact r2
  have hh1 : s_H n C.1 ≠ 1 := by rw [c3]; decide
  have PP : ∀ v : Int, PR (s_addPin n K C.1 v) (s_pinW n r K C.1 v) (s_up o C.1.toNat 1) := fun v => PR_pin hV c7 hP c1 hh1
  generalize hL : s_ch T (s_sk T C.2) = L at *
  have d0 : ¬ (0 : Int) < 0 := by decide
  have d1 : ¬ (1 : Int) < 0 := by decide
  have d2 : ¬ (2 : Int) < 0 := by decide
  have d3 : ¬ (3 : Int) < 0 := by decide
  by_cases y1 : L = 117
  · subst y1
    refine ⟨_, _, ?_, fun _ => PP 0⟩
    have hk : s_h0 117 = 117 := by decide
    rw [hk] at hh
    rw [if_neg (by decide)]
    simp (disch := assumption) only [↓reduceIte, Int.reduceEq, Int.reduceLT, bdI_s, bdV_s, bdR_s, bdL_s, fx_I, fx_R, fx_B, fx_L, x_M_readPin, zr_r, e2, r2, c7, mt, fc, zr_4, zr_3, hh, d0, w_suc hs6, zs_3, w1, w2, w3, w4, w5, zs_6, zs_5, r2']
    rfl
  by_cases y2 : L = 100
  · subst y2
    refine ⟨_, _, ?_, fun _ => PP 1⟩
    have hk : s_h0 100 = 100 := by decide
    rw [hk] at hh
    rw [if_neg (by decide)]
    simp (disch := assumption) only [↓reduceIte, Int.reduceEq, Int.reduceLT, bdI_s, bdV_s, bdR_s, bdL_s, fx_I, fx_R, fx_B, fx_L, x_M_readPin, zr_r, e2, r2, c7, mt, fc, zr_4, zr_3, hh, d1, w_suc hs6, zs_3, w1, w2, w3, w4, w5, zs_6, zs_5, r2']
    rfl
  by_cases y3 : L = 108
  · subst y3
    refine ⟨_, _, ?_, fun _ => PP 2⟩
    have hk : s_h0 108 = 108 := by decide
    rw [hk] at hh
    rw [if_neg (by decide)]
    simp (disch := assumption) only [↓reduceIte, Int.reduceEq, Int.reduceLT, bdI_s, bdV_s, bdR_s, bdL_s, fx_I, fx_R, fx_B, fx_L, x_M_readPin, zr_r, e2, r2, c7, mt, fc, zr_4, zr_3, hh, d2, w_suc hs6, zs_3, w1, w2, w3, w4, w5, zs_6, zs_5, r2']
    rfl
  by_cases y4 : L = 114
  · subst y4
    refine ⟨_, _, ?_, fun _ => PP 3⟩
    have hk : s_h0 114 = 114 := by decide
    rw [hk] at hh
    rw [if_neg (by decide)]
    simp (disch := assumption) only [↓reduceIte, Int.reduceEq, Int.reduceLT, bdI_s, bdV_s, bdR_s, bdL_s, fx_I, fx_R, fx_B, fx_L, x_M_readPin, zr_r, e2, r2, c7, mt, fc, zr_4, zr_3, hh, d3, w_suc hs6, zs_3, w1, w2, w3, w4, w5, zs_6, zs_5, r2']
    rfl
  · have x1 := h0_no y1 (by decide)
    have x2 := h0_no y2 (by decide)
    have x3 := h0_no y3 (by decide)
    have x4 := h0_no y4 (by decide)
    have ec : s_crs L = -4 := by unfold s_crs; rw [if_neg y2, if_neg y3, if_neg y4, if_neg y1]
    rw [if_pos ec]
    refine ⟨_, _, ?_, fun _ => PP 3⟩
    have dm : (-1 : Int) < 0 := by decide
    simp (disch := assumption) only [↓reduceIte, Int.reduceEq, Int.reduceLT, bdI_s, bdV_s, bdR_s, bdL_s, fx_I, fx_R, fx_B, fx_L, x_M_readPin, zr_r, e2, r2, c7, mt, fc, zr_4, zr_3, hh, x1, x2, x3, x4, dm, w_add0 hs6, zs_3, w1, w2, w3, w4, w5, zs_6, zs_5, r2']
    rfl

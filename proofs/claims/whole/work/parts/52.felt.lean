/-! Sheets: felt, film. -/
variable {E : am_E} {u : am_M} {k : Nat} {n : am_Row}
/-- a pin's kind, or course -/
def s_as (n : am_Row) (p w : Int) (v : Nat) : am_Row := if w = 0 then s_up n (6 + 3 * p).toNat (v : Int) else s_up n (6 + 3 * p + 2).toNat (v : Int)
theorem Vn_kind (hV : Vn n) {p v : Int} (p0 : 0 ≤ p) (p1 : p < 7) (v0 : 0 ≤ v ∧ v ≤ 4) : Vn (s_up n (6 + 3 * p).toNat v) := by
  have hV' := hV
  obtain ⟨h0, h1, h2, h3, h4, h5, hp, ht, hh, hz, hd⟩ := hV
  have hcl := s_cells_of hV'
  have L : ∀ i : Nat, i < 6 → s_up n (6 + 3 * p).toNat v i = n i := fun i hi => su_ne (by omega)
  have K : ∀ i : Nat, 27 ≤ i → s_up n (6 + 3 * p).toNat v i = n i := fun i hi => su_ne (by omega)
  have eC : ∀ q : Int, 0 ≤ q → s_C (s_up n (6 + 3 * p).toNat v) q = s_C n q := fun q q0 => su_ne (by omega)
  have eH : ∀ q : Int, 0 ≤ q → s_H (s_up n (6 + 3 * p).toNat v) q = s_H n q := fun q q0 => K _ (by omega)
  have ec : s_cells (s_up n (6 + 3 * p).toNat v) = s_cells n := s_cells_up (by omega)
  refine ⟨?_, ?_, ?_, ?_, ?_, Decidable.em _, fun q q0 q1 => ?_, fun t t0 t1 => ?_, fun d d0 d1 => ?_, fun d d0 d1 => ?_, fun a b a0 a1 b0 b1 e1 e2 => ?_⟩
  · rw [L 0 (by omega)]; exact h0
  · rw [L 1 (by omega)]; exact h1
  · rw [L 2 (by omega)]; exact h2
  · rw [L 3 (by omega)]; exact h3
  · rw [L 4 (by omega)]; exact h4
  · rw [L 2 (by omega)] at q1
    have eV : s_V (s_up n (6 + 3 * p).toNat v) q = s_V n q := su_ne (by omega)
    rw [eV, eC q q0, ec]
    obtain ⟨x, y, z⟩ := hp q q0 q1
    refine ⟨?_, ?_, z⟩
    · by_cases e : q = p
      · subst e
        have : s_K (s_up n (6 + 3 * q).toNat v) q = v := su_eq
        rw [this]; exact v0
      · have : s_K (s_up n (6 + 3 * p).toNat v) q = s_K n q := su_ne (by omega)
        rw [this]; exact x
    · rcases y with y | ⟨y1, y2, y3⟩
      · exact Or.inl y
      · exact Or.inr ⟨y1, y2, by rw [eH _ y1]; exact y3⟩
  · rw [L 3 (by omega)] at t1
    have := ht t t0 t1
    rw [L 2 (by omega)]
    unfold s_A s_B s_L s_X at *
    rw [K _ (by omega), K _ (by omega), K _ (by omega), K _ (by omega)]
    exact this
  · rw [eH d d0]; exact hh d d0 d1
  · rw [ec] at d0; rw [eH d (by omega)]; exact hz d d0 d1
  · rw [L 2 (by omega)] at a1 b1
    rw [eC a a0] at e1 e2
    rw [eC b b0] at e1
    exact hd a b a0 a1 b0 b1 e1 e2
theorem Vn_as (hV : Vn n) (hz : Zn n) {p w : Int} (p0 : 0 ≤ p) (p1 : p < 7) {v : Nat} (hv : v < if w = 0 then 5 else 4) : Vn (s_as n p w v) ∧ Zn (s_as n p w v) ∧ ∀ i, i < 6 → s_as n p w v i = n i := by
  unfold s_as
  by_cases h : w = 0
  · rw [if_pos h] at hv ⊢
    exact ⟨Vn_kind hV p0 p1 (by omega), Zn_up hz (by omega), fun i hi => su_ne (by omega)⟩
  · rw [if_neg h] at hv ⊢
    exact ⟨Vn_course hV p0 p1 (by omega) (by omega), Zn_up hz (by omega), fun i hi => su_ne (by omega)⟩
/-- whether a pin is on the told cells, day by day -/
def s_fl (r : am_Row) (p : Int) (g : am_Row) (i k : Nat) : Bool := decide (s_C (s_days r (k + 1)) p = g (i + k))
def s_felt (r : am_Row) (p : Int) (g : am_Row) (i m : Nat) : Bool := s_all (s_fl r p g i) m
theorem w_add {i j : Nat} (h : i + j < 1000000) : w32 ((i : Int) + (j : Int)) = ((i + j : Nat) : Int) := by rw [w32_of (by omega) (by omega)]; omega
theorem c_isFelt {r g : am_Row} (h : CU E u 8 r) {p : Int} (p0 : 0 ≤ p) (p1 : p < r 2) {K : Nat} (hK : shB K) (hg : ∀ j, j < 24 → u (K + 1) j = g j) {i m : Nat} (him : i + m ≤ 24) (hd : r 4 ≤ 1000000) : ∃ u', Rn m_A_isFelt 0 [vR (some 0), vI p, vR (some K), vI (i : Int), vI (m : Int), vB false] [] E u = some (some (vI (bI (s_felt r p g i m))), E, u') ∧ FR 8 u u' := by
  have hE := h.1
  have cu8 := cuB_8
  have hV := h.2.2.2
  have hKn : 141 ≤ K ∧ K < 149 := by
    obtain ⟨s, hs, e⟩ := hK
    omega
  have loop : ∀ (d j : Nat), j + d = m → ∀ v, CU E v 8 (s_days r j) → FR 8 u v → s_all (s_fl r p g i) j = true → ∃ u', Rn m_A_isFelt 3 [vR (some 0), vI p, vR (some K), vI (i : Int), vI (m : Int), vI (j : Int)] [] E v = some (some (vI (bI (s_felt r p g i m))), E, u') ∧ FR 8 u u' := by
    intro d
    induction d with
    | zero =>
      intro j hj v hv fv ht
      have : j = m := by omega
      subst this
      refine ⟨v, ?_, fv⟩
      have e : s_felt r p g i j = true := ht
      rw [e, bI_t, h_A_isFelt_3]
      have lt : ¬ (j : Int) < (j : Int) := by omega
      simp (disch := assumption) only [↓reduceIte, Int.reduceEq, Int.reduceLT, bdI_s, bdV_s, bdR_s, bdL_s, fx_I, fx_R, fx_B, fx_L, x_A_isFelt, lt]
    | succ d ih =>
      intro j hj v hv fv ht
      obtain ⟨vi, di, li⟩ := Vn_days hV j
      obtain ⟨vi2, di2, li2⟩ := Vn_days hV (j + 1)
      obtain ⟨v1, e1, h1, f1⟩ := c_goesOn hv (by rw [di]; omega)
      have h1' : CU E v1 8 (s_days r (j + 1)) := h1
      have lk := lk_C h1' p0 (by rw [li2 2 (by omega) (by omega)]; exact p1)
      have fv1 := fv.tr f1
      have it := c_itemAt (E := E) (u := v1) hE hK (i := i + j) (by omega)
      have eg : v1 (K + 1) (i + j) = g (i + j) := by rw [fv1 (K + 1) (by omega)]; exact hg _ (by omega)
      rw [eg] at it
      have h6 : i + j < 1000000 := by omega
      have h7 : j < 1000000 := by omega
      have lt : (j : Int) < (m : Int) := by omega
      rw [h_A_isFelt_3]
      by_cases e : s_C (s_days r (j + 1)) p = g (i + j)
      · have ht2 : s_all (s_fl r p g i) (j + 1) = true := by
          simp only [s_all, ht, Bool.true_and]
          exact decide_eq_true e
        obtain ⟨u', e', f'⟩ := ih (j + 1) (by omega) v1 h1' fv1 ht2
        refine ⟨u', ?_, f'⟩
        rw [← e']
        simp (disch := assumption) only [↓reduceIte, Int.reduceEq, Int.reduceLT, bdI_s, bdV_s, bdR_s, bdL_s, fx_I, fx_R, fx_B, fx_L, x_A_isFelt, lt, e1, lk, w_add h6, it, lc_eq, e, w_suc h7]
      · have hf : s_felt r p g i m = false := by
          refine s_all_le (i := j + 1) (by omega) ?_
          simp only [s_all, ht, Bool.true_and]
          exact decide_eq_false e
        refine ⟨v1, ?_, fv1⟩
        rw [hf, bI_f]
        simp (disch := assumption) only [↓reduceIte, Int.reduceEq, Int.reduceLT, bdI_s, bdV_s, bdR_s, bdL_s, fx_I, fx_R, fx_B, fx_L, x_A_isFelt, lt, e1, lk, w_add h6, it, lc_eq, e]
  obtain ⟨u', e, f⟩ := loop m 0 (by omega) u h FR.rf rfl
  refine ⟨u', ?_, f⟩
  rw [← e]
  simp (disch := assumption) only [↓reduceIte, Int.reduceEq, Int.reduceLT, bdI_s, bdV_s, bdR_s, bdL_s, fx_I, fx_R, fx_B, fx_L, x_A_isFelt]
  rfl
theorem m_isSo {r : am_Row} (hr : MU E u r) (zr : Zn r) (zn : Zn n) (ha : ∀ j, j < 100 → u 155 j = n j) {p : Int} (p0 : 0 ≤ p) (p1 : p < r 2) {a m : Nat} (ham : a + m ≤ 96) (hd : r 4 ≤ 1000000) : Rn m_M_isSo 0 [vR (some 149), vI p, vI (a : Int), vI (m : Int), vB false, vB false] [] E u = some (some (vI (bI (s_felt r p (u 159) a m))), E, sN u n) := by
  have hE := hr.1
  have hV := hr.2.2
  have h2 := hV.2.2.1
  obtain ⟨l0, l1, l2, l3, l4, l5, l6, l7, l8, l9, l10⟩ := al_m hE
  have out : ∀ i : Nat, Rn m_M_backs 0 [vR (some 149), vB false] [] E (sN u (s_days r i)) = some (none, E, sN u n) := fun i => by
    rw [m_backs hE (n := n) (by rw [sN_150]; exact Zn_days hV zr i) zn (by intro j hj; rw [sN_ne _ _ (by omega)]; exact ha j hj), sN_sN]
  let f : Nat → am_Z := fun j => Rn m_M_isSo 6 [vR (some 149), vI p, vI (a : Int), vI (m : Int), vI (bI (s_all (s_fl r p (u 159) a) j)), vI (j : Int)] [] E (sN u (s_days r j))
  have start : Rn m_M_isSo 0 [vR (some 149), vI p, vI (a : Int), vI (m : Int), vB false, vB false] [] E u = f 0 := by
    have z : sN u (s_days r 0) = u := sN_id hr.2.1
    simp only [f]
    rw [z]
    simp (disch := assumption) only [↓reduceIte, Int.reduceEq, Int.reduceLT, bdI_s, bdV_s, bdR_s, bdL_s, fx_I, fx_R, fx_B, fx_L, x_M_isSo]
    rfl
  have step : ∀ j, j < m → f j = f (j + 1) := by
    intro j hj
    obtain ⟨vi, di, li⟩ := Vn_days hV j
    have hMU : MU E (sN u (s_days r j)) (s_days r j) := hr.to vi
    have st := m_goesBy hMU (by rw [di]; omega)
    rw [sN_sN] at st
    have e1 : s_day (s_days r j) = s_days r (j + 1) := rfl
    rw [e1] at st
    have ce := m_cellOf (u := sN u (s_days r (j + 1))) hE (sN_150 _ _) p0 (show p < 7 by omega)
    have r9 : (sN u (s_days r (j + 1))) 159 = u 159 := sN_ne _ _ (by omega)
    have h6 : a + j < 1000000 := by omega
    have h7 : j < 1000000 := by omega
    have lt : (j : Int) < (m : Int) := by omega
    have a0 : (0 : Int) ≤ ((a + j : Nat) : Int) := by omega
    have a1 : ((a + j : Nat) : Int) < am_len 11 E 159 := by omega
    simp only [f]
    rw [h_M_isSo_6]
    cases hb : s_all (s_fl r p (u 159) a) j with
    | false =>
      have hb2 : s_all (s_fl r p (u 159) a) (j + 1) = false := by simp only [s_all, hb, Bool.false_and]
      rw [hb2, bI_f]
      simp (disch := assumption) only [↓reduceIte, Int.reduceEq, Int.reduceLT, bdI_s, bdV_s, bdR_s, bdL_s, fx_I, fx_R, fx_B, fx_L, x_M_isSo, lt, st, w_suc h7]
    | true =>
      by_cases e : s_C (s_days r (j + 1)) p = u 159 (a + j)
      · have hb2 : s_all (s_fl r p (u 159) a) (j + 1) = true := by
          simp only [s_all, hb, Bool.true_and]
          exact decide_eq_true e
        rw [hb2, bI_t]
        simp (disch := assumption) only [↓reduceIte, Int.reduceEq, Int.reduceLT, bdI_s, bdV_s, bdR_s, bdL_s, fx_I, fx_R, fx_B, fx_L, x_M_isSo, lt, st, ce, w_add h6, r9, Int.toNat_natCast, lc_eq, e, w_suc h7]
      · have hb2 : s_all (s_fl r p (u 159) a) (j + 1) = false := by
          simp only [s_all, hb, Bool.true_and]
          exact decide_eq_false e
        rw [hb2, bI_t, bI_f]
        simp (disch := assumption) only [↓reduceIte, Int.reduceEq, Int.reduceLT, bdI_s, bdV_s, bdR_s, bdL_s, fx_I, fx_R, fx_B, fx_L, x_M_isSo, lt, st, ce, w_add h6, r9, Int.toNat_natCast, lc_eq, e, w_suc h7]
  rw [start, q_loop f m step]
  simp only [f]
  rw [h_M_isSo_6]
  have lt : ¬ (m : Int) < (m : Int) := by omega
  have o := out m
  have ef : s_all (s_fl r p (u 159) a) m = s_felt r p (u 159) a m := rfl
  rw [ef]
  simp (disch := assumption) only [↓reduceIte, Int.reduceEq, Int.reduceLT, bdI_s, bdV_s, bdR_s, bdL_s, fx_I, fx_R, fx_B, fx_L, x_M_isSo, lt, o]

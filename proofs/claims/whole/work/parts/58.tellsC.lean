/-! The class tells a cushion's text. -/
variable {E : am_E} {u : am_M} {k : Nat} {n : am_Row} {T : List Int}
theorem s_H5 {x c : Int} (c0 : 0 ≤ c) : s_H (s_up n 5 x) c = s_H n c := su_ne (by omega)
theorem s_pinR5 {x c : Int} : ∀ m, s_pinR (s_up n 5 x) c m = s_pinR n c m := by
  intro m
  induction m with
  | zero => rfl
  | succ m ih => simp only [s_pinR]; rw [ih, s_C_up (by omega)]
theorem s_pin5 {x c : Int} : s_pinOn (s_up n 5 x) c = s_pinOn n c := by
  unfold s_pinOn
  rw [su_ne (by omega), s_pinR5]
/-- the trial is the row, whatever its draw -/
def TC (E : am_E) (u : am_M) (n : am_Row) : Prop := CU E u 8 (s_up n 5 (u 8 5)) ∧ Vn n
theorem TC.pl (h : TC E u n) {v : Int} : TC E (am_up u 138 2 v) n := by
  have e : (am_up u 138 2 v) 8 5 = u 8 5 := by rw [up_fn (by omega)]
  refine ⟨⟨h.1.1, h.1.2.1, ?_, h.1.2.2.2⟩, h.2⟩
  rw [e]
  exact RC_congr (fun z z0 z1 => up_fn (by omega)) h.1.2.2.1
theorem tc_thing (h : TC E u n) {c : Int} (c0 : 0 ≤ c) (c1 : c < s_cells n) : Rn m_C_thingOn 0 [vR (some 8), vI c] [] E u = some (some (vI (if s_H n c = 1 then 100 else s_pinOn n c)), E, u) := by
  have := c_thingOn h.1 c0 (by rw [s_cells_up (by omega)]; exact c1)
  rw [s_H5 c0, s_pin5] at this
  exact this
theorem c_freeCell (hE : SE E) (hT : OKt T) {q : Nat} (h : TP u T q) (hq : q ≤ T.length) (ht : TC E u n) : Rn m_T_freeCell 0 [vR (some 138), vR (some 8), vB false, vB false, vB false] [] E u = some (some (vI (p_cell T n q).1), E, am_up u 138 2 (((p_cell T n q).2 : Nat) : Int)) := by
  have cu8 := cuB_8
  have hV := ht.2
  have hcl := s_cells_of hV
  have n0 := hV.1
  have n1 := hV.2.1
  have r0 : u 8 0 = n 0 := by rw [ht.1.2.2.1.1, su_ne (by omega)]
  have r1 : u 8 1 = n 1 := by rw [ht.1.2.2.1.2.1, su_ne (by omega)]
  have w0 : w32 (n 0 - 1) = n 0 - 1 := w32_sm (by omega) (by omega)
  have l120 := hT.1
  have ok := p_cell_ok hV hT hq
  unfold p_cell
  unfold p_cell at ok
  by_cases h1 : s_dg T 0 (n 0 - 1) (s_sk T q)
  · rw [if_pos h1] at ok ⊢
    have d1 := c_digT hE hT h hq h1
    obtain ⟨a1, a2⟩ := sk_next hT hq (dg_ne (Int.le_refl 0) h1)
    have h' := h.up (s_sk T q + 1)
    have r1' : (am_up u 138 2 ((s_sk T q + 1 : Nat) : Int)) 8 1 = n 1 := by rw [up_fn (by omega)]; exact r1
    have na : ¬ s_ch T (s_sk T q) - 48 = -4 := by have := h1.1; clear w0; omega
    by_cases h2 : s_dg T 0 (n 1 - 1) (s_sk T (s_sk T q + 1))
    · rw [if_pos h2] at ok ⊢
      have d2 := c_digT hE hT h' a2 h2
      rw [up_up] at d2
      obtain ⟨b1, b2⟩ := sk_next hT a2 (dg_ne (Int.le_refl 0) h2)
      have nb : ¬ s_ch T (s_sk T (s_sk T q + 1)) - 48 = -4 := by have := h2.1; clear w0; omega
      have r1'' : (am_up u 138 2 ((s_sk T (s_sk T q + 1) + 1 : Nat) : Int)) 8 1 = n 1 := by rw [up_fn (by omega)]; exact r1
      have hcc : 0 ≤ p_cv T n q ∧ p_cv T n q < s_cells n := by
        clear w0
        unfold p_cv s_cells
        have e : n 1 = 3 ∨ n 1 = 4 ∨ n 1 = 5 ∨ n 1 = 6 ∨ n 1 = 7 := by omega
        obtain ⟨x1, x2⟩ := h1
        obtain ⟨y1, y2⟩ := h2
        clear na nb d1 d2 ok
        generalize s_ch T (s_sk T q) - 48 = x at *
        generalize s_ch T (s_sk T (s_sk T q + 1)) - 48 = y at *
        rcases e with e | e | e | e | e <;> rw [e] at y2 ⊢ <;> omega
      have hx : 0 ≤ (s_ch T (s_sk T q) - 48) * n 1 ∧ (s_ch T (s_sk T q) - 48) * n 1 ≤ 100 := by
        have hy := h2.1
        have hcc2 := hcc.2
        unfold p_cv at hcc2
        refine ⟨Int.mul_nonneg h1.1 (by clear w0; omega), ?_⟩
        generalize (s_ch T (s_sk T q) - 48) * n 1 = z at *
        clear w0 d1 d2 ok
        omega
      have wc1 : w32 ((s_ch T (s_sk T q) - 48) * n 1) = (s_ch T (s_sk T q) - 48) * n 1 := w32_sm (by have := hx.1; clear w0; omega) (by have := hx.2; clear w0; omega)
      have wc2 : w32 ((s_ch T (s_sk T q) - 48) * n 1 + (s_ch T (s_sk T (s_sk T q + 1)) - 48)) = p_cv T n q := w32_sm (by have := hcc.1; clear w0 wc1; unfold p_cv at this; omega) (by have := hcc.2; clear w0 wc1; unfold p_cv at this; omega)
      have w1 : w32 (n 1 - 1) = n 1 - 1 := w32_sm (by clear w0 wc1 wc2; omega) (by clear w0 wc1 wc2; omega)
      have th := tc_thing (ht.pl (v := ((s_sk T (s_sk T q + 1) + 1 : Nat) : Int))) hcc.1 hcc.2
      have l6 : s_sk T (s_sk T q + 1) + 1 < 1000000 := by clear w0 w1 wc1 wc2; omega
      have wm : w32 (((s_sk T (s_sk T q + 1) + 1 : Nat) : Int) - 1) = ((s_sk T (s_sk T q + 1) : Nat) : Int) := by
        have := w_subn (q := s_sk T (s_sk T q + 1) + 1) (b := 1) (by clear w0 w1 wc1 wc2; omega) l6
        exact this
      by_cases h3 : s_H n (p_cv T n q) ≠ 1 ∧ s_pinOn n (p_cv T n q) = -4
      · rw [if_pos h3]
        rw [if_neg h3.1, h3.2] at th
        simp (disch := assumption) only [↓reduceIte, Int.reduceEq, Int.reduceLT, bdI_s, bdV_s, bdR_s, bdL_s, fx_I, fx_R, fx_B, fx_L, x_T_freeCell, r0, w0, d1, na, r1', w1, d2, nb, r1'', wc1, wc2, th]
      · rw [if_neg h3]
        have th' : ¬ (if s_H n (p_cv T n q) = 1 then 100 else s_pinOn n (p_cv T n q)) = -4 := by
          by_cases hh : s_H n (p_cv T n q) = 1
          · rw [if_pos hh]; decide
          · rw [if_neg hh]; exact fun z => h3 ⟨hh, z⟩
        simp (disch := assumption) only [↓reduceIte, Int.reduceEq, Int.reduceLT, bdI_s, bdV_s, bdR_s, bdL_s, fx_I, fx_R, fx_B, fx_L, x_T_freeCell, r0, w0, d1, na, r1', w1, d2, nb, r1'', wc1, wc2, th, th', up_eq, wm, up_up]
    · rw [if_neg h2]
      have d2 := c_digF hE hT h' a2 h2
      rw [up_up] at d2
      have w1 : w32 (n 1 - 1) = n 1 - 1 := w32_sm (by clear w0; omega) (by clear w0; omega)
      simp (disch := assumption) only [↓reduceIte, Int.reduceEq, Int.reduceLT, bdI_s, bdV_s, bdR_s, bdL_s, fx_I, fx_R, fx_B, fx_L, x_T_freeCell, r0, w0, d1, na, r1', w1, d2]
  · rw [if_neg h1]
    have d1 := c_digF hE hT h hq h1
    simp (disch := assumption) only [↓reduceIte, Int.reduceEq, Int.reduceLT, bdI_s, bdV_s, bdR_s, bdL_s, fx_I, fx_R, fx_B, fx_L, x_T_freeCell, r0, w0, d1]
theorem c_courseOf (c : Int) : Rn m_T_courseOf 0 [vI c] [] E u = some (some (vI (s_crs c)), E, u) := by
  unfold s_crs
  by_cases h1 : c = 100
  · rw [if_pos h1]; simp (disch := assumption) only [↓reduceIte, Int.reduceEq, Int.reduceLT, bdI_s, bdV_s, bdR_s, bdL_s, fx_I, fx_R, fx_B, fx_L, x_T_courseOf, h1]
  rw [if_neg h1]
  by_cases h2 : c = 108
  · rw [if_pos h2]; simp (disch := assumption) only [↓reduceIte, Int.reduceEq, Int.reduceLT, bdI_s, bdV_s, bdR_s, bdL_s, fx_I, fx_R, fx_B, fx_L, x_T_courseOf, h2]
  rw [if_neg h2]
  by_cases h3 : c = 114
  · rw [if_pos h3]; simp (disch := assumption) only [↓reduceIte, Int.reduceEq, Int.reduceLT, bdI_s, bdV_s, bdR_s, bdL_s, fx_I, fx_R, fx_B, fx_L, x_T_courseOf, h3]
  rw [if_neg h3]
  by_cases h4 : c = 117
  · rw [if_pos h4]; simp (disch := assumption) only [↓reduceIte, Int.reduceEq, Int.reduceLT, bdI_s, bdV_s, bdR_s, bdL_s, fx_I, fx_R, fx_B, fx_L, x_T_courseOf, h4]
  · rw [if_neg h4]; simp (disch := assumption) only [↓reduceIte, Int.reduceEq, Int.reduceLT, bdI_s, bdV_s, bdR_s, bdL_s, fx_I, fx_R, fx_B, fx_L, x_T_courseOf, h1, h2, h3, h4]
/-- what a thing's telling does: the answer, the place, the trial's row -/
def c_told (E : am_E) (u : am_M) (z : Bool × Nat × am_Row) (o : am_Z) (T : List Int) : Prop := ∃ u', o = some (some (vI (bI z.1)), E, u') ∧ TP u' T z.2.1 ∧ (∀ i, (i < 8 ∨ 15 ≤ i) → i ≠ 138 → u' i = u i) ∧ (∀ j, j ≠ 2 → u' 138 j = u 138 j) ∧ u' 8 5 = u 8 5 ∧ (z.1 = true → TC E u' z.2.2)
theorem c_told_pl {z : Bool × Nat × am_Row} (h : TP u T k) (e : z.1 = false) {o : am_Z} (ho : o = some (some (vI 0), E, am_up u 138 2 ((z.2.1 : Nat) : Int))) : c_told E u z o T := by
  refine ⟨_, by rw [ho, e]; rfl, h.up _, fun i _ hi => up_fn hi, fun j hj => up_nj hj, by rw [up_fn (by omega)], fun z => ?_⟩
  rw [e] at z
  cases z
theorem c_tellsPin (hE : SE E) (hT : OKt T) {q : Nat} (h : TP u T q) (hq : q < T.length) (ht : TC E u n) {K : Int} (hK : 0 ≤ K ∧ K ≤ 4) : c_told E u (p_pin T n K q) (Rn m_T_tellsPin 0 [vR (some 138), vR (some 8), vI K, vB false, vB false] [] E u) T := by
  have cu8 := cuB_8
  have hV := ht.2
  have h2 := hV.2.2.1
  have r2 : u 8 2 = n 2 := by rw [ht.1.2.2.1.2.2.1, su_ne (by omega)]
  have l120 := hT.1
  have hp2 := h.2
  have ok := p_cell_ok hV hT (q := q + 1) hq
  have ok2 := p_pin_ok hV hT hK hq
  unfold p_pin at ok2 ⊢
  by_cases h7 : 7 ≤ n 2
  · rw [if_pos h7]
    refine c_told_pl h rfl ?_
    have c : ¬ n 2 < 7 := by omega
    rw [up_self hp2]
    simp (disch := assumption) only [↓reduceIte, Int.reduceEq, Int.reduceLT, bdI_s, bdV_s, bdR_s, bdL_s, fx_I, fx_R, fx_B, fx_L, x_T_tellsPin, r2, c]
  rw [if_neg h7] at ok2 ⊢
  have c7 : n 2 < 7 := by omega
  have hq6 : q < 1000000 := by omega
  have fc := c_freeCell (q := q + 1) hE hT (h.up (q + 1)) hq (ht.pl (v := ((q + 1 : Nat) : Int)))
  rw [up_up] at fc
  by_cases h4 : (p_cell T n (q + 1)).1 = -4
  · rw [if_pos h4]
    refine c_told_pl h rfl ?_
    rw [h4] at fc
    simp (disch := assumption) only [↓reduceIte, Int.reduceEq, Int.reduceLT, bdI_s, bdV_s, bdR_s, bdL_s, fx_I, fx_R, fx_B, fx_L, x_T_tellsPin, r2, c7, hp2, w_suc hq6, fc]
  rw [if_neg h4] at ok2 ⊢
  obtain ⟨ok1, okb, okc⟩ := ok
  have nx := c_nx hE hT (h.up (p_cell T n (q + 1)).2) ok1
  rw [up_up] at nx
  have co := fun (w : am_M) => c_courseOf (E := E) (u := w) (s_ch T (s_sk T (p_cell T n (q + 1)).2))
  generalize hC : p_cell T n (q + 1) = C at *
  have sl := s_sk_le ok1
  have hs6 : s_sk T C.2 < 1000000 := by omega
  have add : ∀ (pl : Nat) (v : Int), ∃ u', Rn m_C_addPin 0 [vR (some 8), vI K, vI C.1, vI v, vB false] [] E (am_up u 138 2 (pl : Int)) = some (some (vI (n 2)), E, u') ∧ TP u' T pl ∧ (∀ i, (i < 8 ∨ 15 ≤ i) → i ≠ 138 → u' i = u i) ∧ (∀ j, j ≠ 2 → u' 138 j = u 138 j) ∧ u' 8 5 = u 8 5 ∧ RC u' 8 (s_up (s_addPin n K C.1 v) 5 (u' 8 5)) := by
    intro pl v
    have ht' := ht.pl (v := (pl : Int))
    have e5 : (am_up u 138 2 (pl : Int)) 8 5 = u 8 5 := by rw [up_fn (by omega)]
    obtain ⟨u', e', r', f', g'⟩ := c_addPin (u := am_up u 138 2 (pl : Int)) hE cuB_8 ht'.1.2.2.1 ht'.1.2.2.2 (by rw [su_ne (by omega)]; exact c7) K C.1 v
    rw [su_ne (by omega)] at e'
    refine ⟨u', e', TP_FR (h.up pl) f', fun i i0 i1 => by rw [f' i (by omega), up_fn i1], fun j hj => by rw [f' 138 (by omega), up_nj hj], by rw [g', e5], ?_⟩
    rw [e5] at r' g'
    rw [g']
    have ecm : s_addPin (s_up n 5 (u 8 5)) K C.1 v = s_up (s_addPin n K C.1 v) 5 (u 8 5) := by
      unfold s_addPin
      rw [su_ne (show (2 : Nat) ≠ 5 by omega), su_cm (i := 5) (by omega), su_cm (i := 5) (by omega), su_cm (i := 5) (by omega), su_cm (i := 5) (by omega)]
    rw [← ecm]
    exact r'
  by_cases hc : s_crs (s_ch T (s_sk T C.2)) = -4
  · rw [if_pos hc] at ok2 ⊢
    obtain ⟨u', e', t', g1, g2, g3, r'⟩ := add (s_sk T C.2) 3
    obtain ⟨vv, -, -⟩ := ok2.2.2 rfl
    refine ⟨u', ?_, t', g1, g2, g3, fun _ => ⟨⟨hE, cuB_8, r', Vn_draw vv _⟩, vv⟩⟩
    rw [hc] at co
    simp (disch := assumption) only [↓reduceIte, Int.reduceEq, Int.reduceLT, bdI_s, bdV_s, bdR_s, bdL_s, fx_I, fx_R, fx_B, fx_L, x_T_tellsPin, r2, c7, hp2, w_suc hq6, fc, h4, nx, co, e']
    rfl
  · rw [if_neg hc] at ok2 ⊢
    obtain ⟨u', e', t', g1, g2, g3, r'⟩ := add (s_sk T C.2 + 1) (s_crs (s_ch T (s_sk T C.2)))
    obtain ⟨vv, -, -⟩ := ok2.2.2 rfl
    refine ⟨u', ?_, t', g1, g2, g3, fun _ => ⟨⟨hE, cuB_8, r', Vn_draw vv _⟩, vv⟩⟩
    simp (disch := assumption) only [↓reduceIte, Int.reduceEq, Int.reduceLT, bdI_s, bdV_s, bdR_s, bdL_s, fx_I, fx_R, fx_B, fx_L, x_T_tellsPin, r2, c7, hp2, w_suc hq6, fc, h4, nx, co, hc, up_eq, w_suc hs6, up_up, e']
    rfl

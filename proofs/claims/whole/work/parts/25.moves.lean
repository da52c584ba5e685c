/-! The reference's row goes on. -/
variable {E : am_E} {u : am_M} {n : am_Row}
theorem sN_id (hn : u 150 = n) : sN u n = u := by subst hn; exact sN_self u
theorem MU.to (h : MU E u n) {r : am_Row} (hr : Vn r) : MU E (sN u r) r := ⟨h.1, sN_150 u r, hr⟩
theorem s_all_le {f : Nat → Bool} {i m : Nat} (h : i ≤ m) (hf : s_all f i = false) : s_all f m = false := by
  cases e : s_all f m with
  | false => rfl
  | true =>
    have := (s_all_iff f m).mp e
    have : s_all f i = true := (s_all_iff f i).mpr fun j hj => this j (by omega)
    rw [hf] at this
    cases this
theorem m_mayGo (h : MU E u n) {p c : Int} (hc : c = -4 ∨ (0 ≤ c ∧ c < 49)) : Rn m_M_mayGo 0 [vR (some 149), vI p, vI c, vB false, vB false] [] E u = some (some (vI (bI (s_mayGo n p c))), E, u) := by
  have h' := h
  obtain ⟨hE, hn, hV⟩ := h
  have al := (al_m hE).1
  have h3 := hV.2.2.2.1
  obtain ⟨m, hm⟩ : ∃ m : Nat, n 3 = (m : Int) := ⟨(n 3).toNat, by omega⟩
  have hmm : (n 3).toNat = m := by omega
  let b : Nat → Bool := fun i => decide (c ≠ -4) && (decide (s_pinOn n c = -4) && s_all (s_mayT n p c) i)
  let f : Nat → am_Z := fun i => Rn m_M_mayGo 25 [vR (some 149), vI p, vI c, vI (bI (b i)), vI (i : Int)] [] E u
  have start : Rn m_M_mayGo 0 [vR (some 149), vI p, vI c, vB false, vB false] [] E u = f 0 := by
    simp only [f, b, s_all, Bool.and_true]
    by_cases e : c = -4
    · simp only [x_M_mayGo, e, ↓reduceIte, fx_B]; rfl
    · simp (disch := first | assumption | omega) only [x_M_mayGo, e, ↓reduceIte, m_pinOn h', bdI_s, fx_B]
      by_cases e2 : s_pinOn n c = -4
      · simp only [e2, ↓reduceIte, x_M_mayGo, fx_B]; simp [e]; rfl
      · simp only [e2, ↓reduceIte, x_M_mayGo, fx_B]; simp; rfl
  have hres : s_mayGo n p c = b m := by simp only [b, s_mayGo, hmm]
  have go : ∀ d i : Nat, i + d = m → f i = some (some (vI (bI (b m))), E, u) := by
    intro d
    induction d with
    | zero =>
      intro i hi
      have : i = m := by omega
      subst this
      simp only [f]
      rw [h_M_mayGo_25]
      simp (disch := first | assumption | omega) only [x_M_mayGo, hn, show (3 : Int).toNat = 3 from rfl, hm, show ¬ (i : Int) < (i : Int) by omega, ↓reduceIte]
    | succ d ih =>
      intro i hi
      cases hb : b i with
      | false =>
        have hbm : b m = false := by
          simp only [b] at hb ⊢
          by_cases e : c = -4
          · simp [e]
          · by_cases e2 : s_pinOn n c = -4
            · simp only [ne_eq, e, not_false_eq_true, decide_true, e2, Bool.true_and] at hb ⊢
              exact s_all_le (by omega) hb
            · simp [e2]
        rw [hbm]
        simp only [f]
        rw [h_M_mayGo_25, hb]
        simp (disch := first | assumption | omega) only [x_M_mayGo, hn, show (3 : Int).toNat = 3 from rfl, hm, show (i : Int) < (m : Int) by omega, ↓reduceIte, bI_0]
      | true =>
        rw [← ih (i + 1) (by omega)]
        have hb' : b (i + 1) = s_mayT n p c i := by
          simp only [b, Bool.and_eq_true, decide_eq_true_eq] at hb
          simp only [b, s_all]
          simp [hb]
        simp only [f, hb']
        rw [h_M_mayGo_25, hb]
        simp (disch := first | assumption | omega) only [x_M_mayGo, hn, show (3 : Int).toNat = 3 from rfl, hm, show (i : Int) < (m : Int) by omega, ↓reduceIte, bI_0, Bool.true_eq_false, m_isOf hE hn, bdI_s]
        unfold s_mayT
        cases e1 : s_isOf n i p with
        | false =>
          simp (disch := first | assumption | omega) only [↓reduceIte, x_M_mayGo, fx_I, w32_of]
          rfl
        | true =>
          simp (disch := first | assumption | omega) only [↓reduceIte, Bool.true_eq_false, m_holds h', bdI_s, bI_0, x_M_mayGo]
          cases e2 : s_holds n i with
          | false =>
            simp (disch := first | assumption | omega) only [↓reduceIte, x_M_mayGo, fx_I, w32_of]
            rfl
          | true =>
            simp (disch := first | assumption | omega) only [↓reduceIte, Bool.true_eq_false, m_holdsIf h', bdI_s, bI_0, x_M_mayGo]
            cases e3 : s_holdsIf n i p c with
            | false =>
              simp (disch := first | assumption | omega) only [↓reduceIte, x_M_mayGo, fx_I, w32_of]
              rfl
            | true =>
              simp (disch := first | assumption | omega) only [↓reduceIte, Bool.true_eq_false, x_M_mayGo, fx_I, w32_of]
              rfl
  rw [start, go m 0 (by omega), hres]
theorem m_beside (h : MU E u n) {c v : Int} (c0 : 0 ≤ c) (c1 : c < s_cells n) (v0 : 0 ≤ v) (v1 : v ≤ 3) : Rn m_M_beside 0 [vR (some 149), vI c, vI v, vB false, vB false, vB false] [] E u = some (some (vI (s_beside n c v)), E, u) := by
  obtain ⟨hE, hn, hV⟩ := h
  have al := (al_m hE).1
  have hcl := s_cells_of hV
  have h0 := hV.1
  have h1 := hV.2.1
  have ev : v = 0 ∨ v = 1 ∨ v = 2 ∨ v = 3 := by omega
  have e : n 1 = 3 ∨ n 1 = 4 ∨ n 1 = 5 ∨ n 1 = 6 ∨ n 1 = 7 := by omega
  unfold s_cells at c1 hcl
  have D : ∀ a b : Int, decide (a ≤ b) = true ↔ a ≤ b := fun a b => decide_eq_true_iff
  unfold s_beside s_cells
  rcases e with e | e | e | e | e <;> rw [e] at c1 hcl <;> rcases ev with rfl | rfl | rfl | rfl
  all_goals
    simp (disch := first | assumption | omega) only [x_M_beside, hn, show (1 : Int).toNat = 1 from rfl, Int.toNat_zero, e, fx_I, fx_B, tdiv_nn, tmod_nn, w32_of, m_in, bdI_s, ↓reduceIte, bI_0, (by decide : ¬ (1 : Int) = 0), (by decide : ¬ (2 : Int) = 0), (by decide : ¬ (3 : Int) = 0), (by decide : ¬ (2 : Int) = 1), (by decide : ¬ (3 : Int) = 1), (by decide : ¬ (3 : Int) = 2), (by decide : ¬ (0 : Int) = 1), (by decide : ¬ (0 : Int) = 2), (by decide : ¬ (1 : Int) = 2), (by decide : ¬ (0 : Int) = 3), (by decide : ¬ (1 : Int) = 3), (by decide : ¬ (2 : Int) = 3), decide_eq_false_iff_not]
    repeat' split
    all_goals first
      | rfl
      | (exfalso; omega)
      | (congr 4; omega)
      | (simp (disch := first | assumption | omega) only [x_M_beside, e, w32_of]; congr 4; omega)
      | trace_state
theorem m_sets (h : MU E u n) {p c : Int} (p0 : 0 ≤ p) (p1 : p < n 2) (c0 : 0 ≤ c) (c1 : c < 49) : Rn m_M_sets 0 [vR (some 149), vI p, vI c] [] E u = some (none, E, sN u (s_sets n p c)) := by
  obtain ⟨hE, hn, hV⟩ := h
  have al := (al_m hE).1
  have h2 := hV.2.2.1
  simp (disch := first | assumption | omega) only [x_M_sets, w32_of, sN_up, sN_150, sN_sN, hn]
  rfl
theorem m_nearestHole (h : MU E u n) {cell : Int} (c0 : 0 ≤ cell) (c1 : cell < 49) : Rn m_M_nearestHole 0 [vR (some 149), vI cell, vB false, vB false] [] E u = some (some (vI (s_near n cell)), E, u) := by
  have h' := h
  obtain ⟨hE, hn, hV⟩ := h
  have hcl := s_cells_of hV
  obtain ⟨m, hm⟩ : ∃ m : Nat, s_cells n = (m : Int) := ⟨(s_cells n).toNat, by omega⟩
  let f : Nat → am_Z := fun i => Rn m_M_nearestHole 5 [vR (some 149), vI cell, vI (s_nearR n cell i), vI (i : Int)] [] E u
  have start : Rn m_M_nearestHole 0 [vR (some 149), vI cell, vB false, vB false] [] E u = f 0 := by
    simp only [x_M_nearestHole, fx_I, fx_B]; rfl
  have step : ∀ i, i < m → f i = f (i + 1) := by
    intro i hi
    have hin := s_nearR_in n cell i
    simp only [f, s_nearR]
    rw [h_M_nearestHole_5]
    simp (disch := first | assumption | omega) only [x_M_nearestHole, m_cells h', bdI_s, hm, show (i : Int) < (m : Int) by omega, ↓reduceIte, m_isHole hE hn, bI_0, decide_eq_false_iff_not]
    by_cases e : s_H n (i : Int) = 1
    · simp only [e, not_true_eq_false, ↓reduceIte, true_and]
      by_cases e2 : s_nearR n cell i = -4
      · simp (disch := first | assumption | omega) only [e2, ↓reduceIte, true_or, x_M_nearestHole, fx_I, w32_of]
        rfl
      · simp (disch := first | assumption | omega) only [e2, ↓reduceIte, false_or, m_far h', bdI_s, x_M_nearestHole, fx_I, w32_of]
        by_cases e3 : s_far n cell (i : Int) < s_far n cell (s_nearR n cell i)
        · simp (disch := first | assumption | omega) only [e3, ↓reduceIte, x_M_nearestHole, fx_I, w32_of]
          rfl
        · simp (disch := first | assumption | omega) only [e3, ↓reduceIte, x_M_nearestHole, fx_I, w32_of]
          rfl
    · simp (disch := first | assumption | omega) only [e, not_false_eq_true, ↓reduceIte, false_and, x_M_nearestHole, fx_I, w32_of]
      rfl
  rw [start, q_loop f m step]
  simp only [f]
  rw [h_M_nearestHole_5]
  simp (disch := first | assumption | omega) only [x_M_nearestHole, m_cells h', bdI_s, hm, show ¬ (m : Int) < (m : Int) by omega, ↓reduceIte]
  unfold s_near
  rw [show (s_cells n).toNat = m by omega]
/-- a pin that lies on a cell -/
theorem Vn_on (hV : Vn n) {p : Int} (p0 : 0 ≤ p) (p1 : p < n 2) (hp : s_C n p ≠ -4) : 0 ≤ s_C n p ∧ s_C n p < s_cells n := by
  rcases Vn_pin hV p0 p1 with e | ⟨e1, e2, e3⟩
  · exact absurd e hp
  · exact ⟨e1, e3⟩
theorem Vn_sails (hV : Vn n) {p v : Int} (p0 : 0 ≤ p) (p1 : p < n 2) (hp : s_C n p ≠ -4) (v0 : 0 ≤ v) (v1 : v ≤ 3) : Vn (s_sails n p v) := by
  have h2 := hV.2.2.1
  have hc := Vn_on hV p0 p1 hp
  obtain ⟨fx, fx0, fx1⟩ := s_flip_x v0 v1
  unfold s_sails
  split
  · rename_i hm
    obtain ⟨m1, m2, m3⟩ := s_mayGo_of hV hm
    have hb2 := (s_beside_in hV (v := v) hc.1 hc.2).resolve_left m1
    have e2 : s_sets (s_up n (6 + 3 * p + 2).toNat v) p (s_beside n (s_C n p) v) = s_up (s_sets n p (s_beside n (s_C n p) v)) (6 + 3 * p + 2).toNat v := by
      unfold s_sets
      rw [su_cm (i := (6 + 3 * p + 2).toNat) (by omega), su_cm (i := (6 + 3 * p + 2).toNat) (by omega)]
    rw [e2]
    exact Vn_course (Vn_sets hV p0 p1 hb2.1 hb2.2 m3) p0 (by omega) v0 v1
  · exact Vn_course hV p0 (by omega) fx0 fx1
theorem Vn_pull (hV : Vn n) {p : Int} (p0 : 0 ≤ p) (p1 : p < n 2) (hp : s_C n p ≠ -4) : Vn (s_pull n p) := by
  have hc := Vn_on hV p0 p1 hp
  unfold s_pull
  split
  · exact hV
  split
  · rename_i hm
    obtain ⟨m1, m2, m3⟩ := s_mayGo_of hV hm
    have hb2 := (s_beside_in hV (v := s_way n (s_C n p) (s_near n (s_C n p))) hc.1 hc.2).resolve_left m1
    exact Vn_sets hV p0 p1 hb2.1 hb2.2 m3
  · exact hV
theorem m_sails (h : MU E u n) {p v : Int} (p0 : 0 ≤ p) (p1 : p < n 2) (hp : s_C n p ≠ -4) (v0 : 0 ≤ v) (v1 : v ≤ 3) : Rn m_M_sails 0 [vR (some 149), vI p, vI v, vB false] [] E u = some (none, E, sN u (s_sails n p v)) := by
  have h' := h
  obtain ⟨hE, hn, hV⟩ := h
  have al := (al_m hE).1
  have h2 := hV.2.2.1
  have hcl := s_cells_of hV
  have hc := Vn_on hV p0 p1 hp
  obtain ⟨fx, fx0, fx1⟩ := s_flip_x v0 v1
  have hbs := s_beside_in hV (v := v) hc.1 hc.2
  have hbs' : s_beside n (s_C n p) v = -4 ∨ (0 ≤ s_beside n (s_C n p) v ∧ s_beside n (s_C n p) v < 49) := by omega
  unfold s_sails
  cases hm : s_mayGo n p (s_beside n (s_C n p) v) with
  | true =>
    obtain ⟨m1, m2, m3⟩ := s_mayGo_of hV hm
    have hb2 := hbs.resolve_left m1
    have hmc := h'.to (Vn_course hV p0 (by omega) v0 v1)
    have hst := m_sets hmc p0 (by rw [su_ne (by omega)]; exact p1) hb2.1 (by omega)
    rw [sN_sN] at hst
    simp (disch := first | assumption | omega) only [x_M_sails, m_cellOf hE hn, bdI_s, m_beside h', fx_I, fx_B, m_mayGo h', hm, bI_0, Bool.true_eq_false, ↓reduceIte, w32_of, sN_up, hn, hst, bdV_s]
  | false =>
    simp (disch := first | assumption | omega) only [x_M_sails, m_cellOf hE hn, bdI_s, m_beside h', fx_I, fx_B, m_mayGo h', hm, bI_0, Bool.false_eq_true, ↓reduceIte, w32_of, sN_up, hn, fx]
theorem m_isPulled (h : MU E u n) {p : Int} (p0 : 0 ≤ p) (p1 : p < n 2) (hp : s_C n p ≠ -4) : Rn m_M_isPulled 0 [vR (some 149), vI p, vB false, vB false, vB false, vB false, vB false, vB false] [] E u = some (none, E, sN u (s_pull n p)) := by
  have h' := h
  obtain ⟨hE, hn, hV⟩ := h
  have al := (al_m hE).1
  have h1 := hV.2.1
  have h2 := hV.2.2.1
  have hcl := s_cells_of hV
  have hc := Vn_on hV p0 p1 hp
  have hnin := s_nearR_in n (s_C n p) (s_cells n).toNat
  have hne : s_near n (s_C n p) = s_nearR n (s_C n p) (s_cells n).toNat := rfl
  rw [← hne] at hnin
  unfold s_pull
  by_cases hz : s_near n (s_C n p) = -4
  · rw [if_pos hz, sN_id hn]
    simp (disch := first | assumption | omega) only [x_M_isPulled, m_cellOf hE hn, bdI_s, fx_I, fx_B, m_nearestHole h', hz, ↓reduceIte]
  · rw [if_neg hz]
    have hg : 0 ≤ s_near n (s_C n p) ∧ s_near n (s_C n p) < 49 := by
      rcases hnin with e | ⟨e1, e2, e3⟩
      · exact absurd e hz
      · exact ⟨e1, by omega⟩
    obtain ⟨d1, d2, d3, d4, -⟩ := dm_of hV hc.1 (by omega)
    obtain ⟨g1, g2, g3, g4, -⟩ := dm_of hV hg.1 hg.2
    have cut : ∀ (l : am_V) (w : Int), 0 ≤ w → w ≤ 3 → Rn m_M_isPulled 72 [vR (some 149), vI p, vI (s_C n p), vI (s_near n (s_C n p)), vI (n 1), vI (s_near n (s_C n p) / n 1 - s_C n p / n 1), vB false, vB false] [vI w] E u = some (none, E, if s_mayGo n p (s_beside n (s_C n p) w) = true then sN u (s_sets n p (s_beside n (s_C n p) w)) else u) := by
      intro l w w0 w1
      have hbs := s_beside_in hV (v := w) hc.1 hc.2
      have hbs' : s_beside n (s_C n p) w = -4 ∨ (0 ≤ s_beside n (s_C n p) w ∧ s_beside n (s_C n p) w < 49) := by omega
      cases hm : s_mayGo n p (s_beside n (s_C n p) w) with
      | true =>
        obtain ⟨m1, m2, m3⟩ := s_mayGo_of hV hm
        have hb2 := hbs.resolve_left m1
        simp (disch := first | assumption | omega) only [x_M_isPulled, bdI_s, m_beside h', fx_I, fx_B, m_mayGo h', hm, bI_0, Bool.true_eq_false, ↓reduceIte, m_sets h', bdV_s]
      | false =>
        simp (disch := first | assumption | omega) only [x_M_isPulled, bdI_s, m_beside h', fx_I, fx_B, m_mayGo h', hm, bI_0, Bool.false_eq_true, ↓reduceIte]
    have hw : 0 ≤ s_way n (s_C n p) (s_near n (s_C n p)) ∧ s_way n (s_C n p) (s_near n (s_C n p)) ≤ 3 := by
      unfold s_way
      repeat' split
      all_goals omega
    have fin := cut (vB false) _ hw.1 hw.2
    have ee : (if s_mayGo n p (s_beside n (s_C n p) (s_way n (s_C n p) (s_near n (s_C n p)))) = true then sN u (s_sets n p (s_beside n (s_C n p) (s_way n (s_C n p) (s_near n (s_C n p))))) else u) = sN u (if s_mayGo n p (s_beside n (s_C n p) (s_way n (s_C n p) (s_near n (s_C n p)))) = true then s_sets n p (s_beside n (s_C n p) (s_way n (s_C n p) (s_near n (s_C n p)))) else n) := by
      split
      · rfl
      · rw [sN_id hn]
    rw [← ee, ← fin]
    unfold s_way
    by_cases q1 : s_near n (s_C n p) / n 1 - s_C n p / n 1 < 0
    · simp (disch := first | assumption | omega) only [x_M_isPulled, m_cellOf hE hn, bdI_s, fx_I, fx_B, m_nearestHole h', hz, ↓reduceIte, hn, show (1 : Int).toNat = 1 from rfl, tdiv_nn, w32_of, q1]
    by_cases q2 : 0 < s_near n (s_C n p) / n 1 - s_C n p / n 1
    · simp (disch := first | assumption | omega) only [x_M_isPulled, m_cellOf hE hn, bdI_s, fx_I, fx_B, m_nearestHole h', hz, ↓reduceIte, hn, show (1 : Int).toNat = 1 from rfl, tdiv_nn, w32_of, q1, q2]
    by_cases q3 : s_near n (s_C n p) % n 1 < s_C n p % n 1
    · simp (disch := first | assumption | omega) only [x_M_isPulled, m_cellOf hE hn, bdI_s, fx_I, fx_B, m_nearestHole h', hz, ↓reduceIte, hn, show (1 : Int).toNat = 1 from rfl, tdiv_nn, tmod_nn, w32_of, q1, q2, q3]
    · simp (disch := first | assumption | omega) only [x_M_isPulled, m_cellOf hE hn, bdI_s, fx_I, fx_B, m_nearestHole h', hz, ↓reduceIte, hn, show (1 : Int).toNat = 1 from rfl, tdiv_nn, tmod_nn, w32_of, q1, q2, q3]

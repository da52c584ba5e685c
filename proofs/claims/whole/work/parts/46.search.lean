/-! Calls: where a hole had better be, where a pin had better be put. -/
variable {E : am_E} {u : am_M} {k : Nat} {n : am_Row}
def s_try (b : Bool) (n : am_Row) (p : Int) (c : Nat) : am_Row := if b = true then s_sets n p (c : Int) else s_up n (51 + (c : Int)).toNat 1
def s_free (b : Bool) (n : am_Row) (c : Nat) : Bool := decide (s_pinOn n (c : Int) = -4) && (b || !decide (s_H n (c : Int) = 1))
def s_w (b : Bool) (n : am_Row) (p cell : Int) (c : Nat) : Int := if s_free b n c = true then s_when (s_try b n p c) p cell else 61
/-- the best so far: which, behind how many -/
def s_bs (w : Nat → Int) : Nat → Int × Int
  | 0 => (-4, 61)
  | c + 1 => if w c < (s_bs w c).2 then ((c : Int), w c) else s_bs w c
theorem s_bs_in {w : Nat → Int} (h : ∀ c, 0 ≤ w c ∧ w c ≤ 61) : ∀ c, (s_bs w c = (-4, 61)) ∨ (0 ≤ (s_bs w c).1 ∧ 0 ≤ (s_bs w c).2 ∧ (s_bs w c).2 ≤ 60) := by
  intro c
  induction c with
  | zero => exact Or.inl rfl
  | succ c ih =>
    simp only [s_bs]
    have := h c
    split
    · rename_i hlt
      right
      rcases ih with ih | ih
      · rw [ih] at hlt
        exact ⟨by show (0 : Int) ≤ (c : Int); omega, this.1, by show w c ≤ 60; have : w c < 61 := hlt; omega⟩
      · exact ⟨by show (0 : Int) ≤ (c : Int); omega, this.1, by show w c ≤ 60; omega⟩
    · exact ih
theorem s_bs_stop {w : Nat → Int} (h : ∀ c, 0 ≤ w c ∧ w c ≤ 61) {c : Nat} (h0 : (s_bs w c).2 = 0) : ∀ d, s_bs w (c + d) = s_bs w c := by
  intro d
  induction d with
  | zero => rfl
  | succ d ih =>
    rw [show c + (d + 1) = (c + d) + 1 by omega]
    simp only [s_bs]
    have := h (c + d)
    rw [ih, if_neg (by omega)]
def s_ans (w : Int) (r : Int × Int) : Int := if r.1 = -4 ∨ w = 0 then r.1 else r.2
theorem s_w_in (b : Bool) (n : am_Row) (p cell : Int) (c : Nat) : 0 ≤ s_w b n p cell c ∧ s_w b n p cell c ≤ 61 := by
  unfold s_w
  split
  · exact s_when_in _ _ _
  · omega
theorem Vn_try (hV : Vn n) {b : Bool} {p : Int} (p0 : 0 ≤ p) (p1 : p < n 2) {c : Nat} (c1 : (c : Int) < s_cells n) (hf : s_free b n c = true) : Vn (s_try b n p c) ∧ (s_try b n p c) 2 = n 2 ∧ (s_try b n p c) 4 = n 4 := by
  unfold s_free at hf
  simp only [Bool.and_eq_true, decide_eq_true_eq] at hf
  have hfree := s_pinOn_no hV hf.1
  unfold s_try
  cases b with
  | true => exact ⟨Vn_sets hV p0 p1 (by omega) c1 hfree, s_sets_lo _ p0 (by omega) (by omega), s_sets_lo _ p0 (by omega) (by omega)⟩
  | false => exact ⟨Vn_open hV (by omega) c1 hfree, su_ne (by omega), su_ne (by omega)⟩
theorem Zn_try (hz : Zn n) (b : Bool) {p : Int} (p0 : 0 ≤ p) (p1 : p < 7) {c : Nat} (c1 : c < 49) : Zn (s_try b n p c) := by
  unfold s_try
  cases b with
  | true => exact Zn_sets hz p0 p1 (by omega) (by omega)
  | false => exact Zn_up hz (by omega)
theorem c_bestCell {S : am_S} (hE : SE E) (hS : OKS S) (b : Bool) {p cell w : Int} (hp : 0 ≤ p ∧ p < S.1 2) (hc : 0 ≤ cell ∧ cell < s_cells S.1) (hu : CS E u S) : ∃ u', Rn m_A_bestCell 0 [vR (some 0), vI p, vI cell, vI w, vI (bI b), vB false, vB false, vB false, vB false] [] E u = some (some (vI (s_ans w (s_bs (s_w b S.1 p cell) (s_cells S.1).toNat))), E, u') ∧ FR 8 u u' := by
  have cu1 := cuB_1
  have cu8 := cuB_8
  have hV := hS.1.1
  have h2 := hV.2.2.1
  have d1 := hS.1.2.1
  have hcl := s_cells_of hV
  obtain ⟨C, hC⟩ : ∃ C : Nat, s_cells S.1 = (C : Int) := ⟨(s_cells S.1).toNat, by omega⟩
  rw [hC, Int.toNat_natCast]
  have win := s_w_in b S.1 p cell
  generalize hW : s_w b S.1 p cell = W at *
  have last : ∀ (r : Int × Int) (c x : am_V) (v : am_M), Rn m_A_bestCell 138 [vR (some 0), vI p, vI cell, vI w, vI (bI b), vI r.1, vI (r.2 - 1), c, x] [] E v = if -2147483648 ≤ r.2 ∧ r.2 ≤ 2147483647 then some (some (vI (s_ans w r)), E, v) else Rn m_A_bestCell 138 [vR (some 0), vI p, vI cell, vI w, vI (bI b), vI r.1, vI (r.2 - 1), c, x] [] E v := by
    intro r c x v
    by_cases hr : -2147483648 ≤ r.2 ∧ r.2 ≤ 2147483647
    · rw [if_pos hr]
      have e : w32 (r.2 - 1 + 1) = r.2 := by rw [show r.2 - 1 + 1 = r.2 by omega]; exact w32_of hr.1 hr.2
      unfold s_ans
      by_cases h1 : r.1 = -4
      · rw [if_pos (Or.inl h1)]
        simp only [x_A_bestCell, h1, ↓reduceIte]
      · by_cases h0 : w = 0
        · rw [if_pos (Or.inr h0)]
          simp only [x_A_bestCell, h1, h0, ↓reduceIte]
        · rw [if_neg (by omega)]
          simp only [x_A_bestCell, h1, h0, ↓reduceIte, e]
    · rw [if_neg hr]
  have loop : ∀ (d c : Nat), c + d = C → ∀ (v : am_M) (x : am_V), FR 8 u v → ∃ u', Rn m_A_bestCell 11 [vR (some 0), vI p, vI cell, vI w, vI (bI b), vI (s_bs W c).1, vI ((s_bs W c).2 - 1), vI (c : Int), x] [] E v = some (some (vI (s_ans w (s_bs W C))), E, u') ∧ FR 8 u u' := by
    intro d
    induction d with
    | zero =>
      intro c hcd v x fv
      have : c = C := by omega
      subst this
      have hcu : CU E v 1 S.1 := (CS_congr (fun i _ hi => fv i (by omega)) hu).cu hS
      have cc := c_cellCount hcu
      rw [hC] at cc
      have bin := s_bs_in win c
      refine ⟨v, ?_, fv⟩
      have q := last (s_bs W c) (vI (c : Int)) x v
      rw [if_pos (by rcases bin with e | e; rw [e]; decide; omega)] at q
      rw [← q, h_A_bestCell_11]
      simp (disch := first | assumption | omega) only [↓reduceIte, Int.reduceEq, Int.reduceLT, bdI_s, bdV_s, bdR_s, bdL_s, fx_I, fx_R, fx_B, fx_L, w32_of, x_A_bestCell, cc, show ¬ (c : Int) < (c : Int) by omega]
    | succ d ih =>
      intro c hcd v x fv
      have hcu : CU E v 1 S.1 := (CS_congr (fun i _ hi => fv i (by omega)) hu).cu hS
      have cc := c_cellCount hcu
      rw [hC] at cc
      have bin := s_bs_in win c
      have b2 : 0 ≤ (s_bs W c).2 ∧ (s_bs W c).2 ≤ 61 := by
        rcases bin with e | e
        · rw [e]; decide
        · omega
      by_cases h0 : (s_bs W c).2 = 0
      · refine ⟨v, ?_, fv⟩
        have st := s_bs_stop win h0 (C - c)
        rw [show c + (C - c) = C by omega] at st
        rw [st]
        have q := last (s_bs W c) (vI (c : Int)) x v
        rw [if_pos (by omega)] at q
        rw [← q, h_A_bestCell_11]
        simp (disch := first | assumption | omega) only [↓reduceIte, Int.reduceEq, Int.reduceLT, bdI_s, bdV_s, bdR_s, bdL_s, fx_I, fx_R, fx_B, fx_L, w32_of, x_A_bestCell, cc, show (c : Int) < (C : Int) by omega, show (s_bs W c).2 - 1 < 0 by omega]
      · obtain ⟨m, hm⟩ : ∃ m : Nat, (s_bs W c).2 = (m : Int) := ⟨(s_bs W c).2.toNat, by omega⟩
        have po := c_pinOn hcu (c := (c : Int)) (by omega)
        have th := c_thingOn hcu (c := (c : Int)) (by omega) (by omega)
        cases hfr : s_free b S.1 c with
        | false =>
          have ew : W c = 61 := by rw [← hW]; unfold s_w; rw [hfr]; rfl
          have eb : s_bs W (c + 1) = s_bs W c := by simp only [s_bs]; rw [ew, if_neg (by omega)]
          obtain ⟨u', e, f⟩ := ih (c + 1) (by omega) v x fv
          rw [eb] at e
          refine ⟨u', ?_, f⟩
          rw [← e, h_A_bestCell_11]
          have hcast : ((c + 1 : Nat) : Int) = (c : Int) + 1 := by omega
          unfold s_free at hfr
          cases b with
          | true =>
            have hpo : ¬ s_pinOn S.1 (c : Int) = -4 := by intro z; simp [z] at hfr
            rw [hcast]
            simp (disch := first | assumption | omega) only [↓reduceIte, Int.reduceEq, Int.reduceLT, bdI_s, bdV_s, bdR_s, bdL_s, fx_I, fx_R, fx_B, fx_L, w32_of, x_A_bestCell, cc, show (c : Int) < (C : Int) by omega, show ¬ (s_bs W c).2 - 1 < 0 by omega, bI_0, Bool.true_eq_false, po, hpo]
          | false =>
            have hth : ¬ (if s_H S.1 (c : Int) = 1 then 100 else s_pinOn S.1 (c : Int)) = -4 := by
              by_cases hh : s_H S.1 (c : Int) = 1
              · rw [if_pos hh]; decide
              · rw [if_neg hh]; intro z; simp [z, hh] at hfr
            rw [hcast]
            simp (disch := first | assumption | omega) only [↓reduceIte, Int.reduceEq, Int.reduceLT, bdI_s, bdV_s, bdR_s, bdL_s, fx_I, fx_R, fx_B, fx_L, w32_of, x_A_bestCell, cc, show (c : Int) < (C : Int) by omega, show ¬ (s_bs W c).2 - 1 < 0 by omega, bI_0, th, hth]
        | true =>
          obtain ⟨v1, e1, h1, f1⟩ := c_becomes (u := v) (k := 8) (j := 1) hE cuB_8 cuB_1 (by omega) hcu.2.2.1 hV
          obtain ⟨tV, t2, t4⟩ := Vn_try hV (b := b) hp.1 hp.2 (show (c : Int) < s_cells S.1 by omega) hfr
          have ew : W c = s_when (s_try b S.1 p c) p cell := by rw [← hW]; unfold s_w; rw [hfr]; rfl
          have hcast : ((c + 1 : Nat) : Int) = (c : Int) + 1 := by omega
          have hf2 := hfr
          unfold s_free at hf2
          simp only [Bool.and_eq_true, decide_eq_true_eq] at hf2
          have hfree := s_pinOn_no hV hf2.1
          have key : ∀ v2, CU E v2 8 (s_try b S.1 p c) → FR 8 u v2 → ∃ u', Rn m_A_bestCell 102 [vR (some 0), vI p, vI cell, vI w, vI (bI b), vI (s_bs W c).1, vI ((s_bs W c).2 - 1), vI (c : Int), x] [] E v2 = some (some (vI (s_ans w (s_bs W C))), E, u') ∧ FR 8 u u' := by
            intro v2 c2 fv2
            obtain ⟨v3, e3, f3⟩ := c_soonestW c2 hp.1 (by rw [t2]; exact hp.2) hc.1 m (by omega) (by rw [t4]; omega)
            rw [← ew, ← hm] at e3
            have wc := win c
            by_cases hlt : W c < (s_bs W c).2
            · rw [if_pos hlt] at e3
              obtain ⟨u', e, f⟩ := ih (c + 1) (by omega) v3 (vI (W c)) (fv2.tr f3)
              have eb : s_bs W (c + 1) = ((c : Int), W c) := by simp only [s_bs]; rw [if_pos hlt]
              rw [eb] at e
              refine ⟨u', ?_, f⟩
              rw [← e, hcast]
              simp (disch := first | assumption | omega) only [↓reduceIte, Int.reduceEq, Int.reduceLT, bdI_s, bdV_s, bdR_s, bdL_s, fx_I, fx_R, fx_B, fx_L, w32_of, x_A_bestCell, e3, show ¬ W c = -4 by omega]
            · rw [if_neg hlt] at e3
              obtain ⟨u', e, f⟩ := ih (c + 1) (by omega) v3 (vI (-4)) (fv2.tr f3)
              have eb : s_bs W (c + 1) = s_bs W c := by simp only [s_bs]; rw [if_neg hlt]
              rw [eb] at e
              refine ⟨u', ?_, f⟩
              rw [← e, hcast]
              simp (disch := first | assumption | omega) only [↓reduceIte, Int.reduceEq, Int.reduceLT, bdI_s, bdV_s, bdR_s, bdL_s, fx_I, fx_R, fx_B, fx_L, w32_of, x_A_bestCell, e3]
          cases b with
          | true =>
            obtain ⟨v2, e2, c2, f2⟩ := c_sets h1 hp.1 hp.2 (c := (c : Int)) (by omega) (by omega) hfree
            obtain ⟨u', e, f⟩ := key v2 c2 ((fv.tr f1).tr f2)
            refine ⟨u', ?_, f⟩
            rw [← e, h_A_bestCell_11]
            simp (disch := first | assumption | omega) only [↓reduceIte, Int.reduceEq, Int.reduceLT, bdI_s, bdV_s, bdR_s, bdL_s, fx_I, fx_R, fx_B, fx_L, w32_of, x_A_bestCell, cc, show (c : Int) < (C : Int) by omega, show ¬ (s_bs W c).2 - 1 < 0 by omega, bI_0, Bool.true_eq_false, po, hf2.1, e1, e2]
          | false =>
            have hh : ¬ s_H S.1 (c : Int) = 1 := by
              intro z
              have := hf2.2
              rw [decide_eq_true z] at this
              cases this
            rw [if_neg hh, hf2.1] at th
            obtain ⟨v2, e2, c2, f2⟩ := c_opens h1 (c := (c : Int)) (by omega) (by omega) hfree
            obtain ⟨u', e, f⟩ := key v2 c2 ((fv.tr f1).tr f2)
            refine ⟨u', ?_, f⟩
            rw [← e, h_A_bestCell_11]
            simp (disch := first | assumption | omega) only [↓reduceIte, Int.reduceEq, Int.reduceLT, bdI_s, bdV_s, bdR_s, bdL_s, fx_I, fx_R, fx_B, fx_L, w32_of, x_A_bestCell, cc, show (c : Int) < (C : Int) by omega, show ¬ (s_bs W c).2 - 1 < 0 by omega, bI_0, th, e1, e2]
  obtain ⟨u', e, f⟩ := loop C 0 (by omega) u (vB false) FR.rf
  refine ⟨u', ?_, f⟩
  rw [← e]
  simp (disch := first | assumption | omega) only [↓reduceIte, Int.reduceEq, Int.reduceLT, bdI_s, bdV_s, bdR_s, bdL_s, fx_I, fx_R, fx_B, fx_L, w32_of, x_A_bestCell]
  rfl
theorem m_holeT {S : am_S} (hE : SE E) (hS : OKS S) {p cell w : Int} (hp : 0 ≤ p ∧ p < S.1 2) (hc : 0 ≤ cell ∧ cell < s_cells S.1) (hw : 0 ≤ w ∧ w ≤ 1) (hu : MS E u S) : Rn m_M_hole 0 [vR (some 149), vI p, vI cell, vI w, vB false, vB false, vB false, vB false] [] E u = some (some (vI (s_ans w (s_bs (s_w false S.1 p cell) (s_cells S.1).toNat))), E, u_as u S.1) := by
  have hV := hS.1.1
  have h2 := hV.2.2.1
  have d1 := hS.1.2.1
  have hcl := s_cells_of hV
  have hm := u_as_mu (hu.mu hS)
  have al := (al_m hE).1
  obtain ⟨C, hC⟩ : ∃ C : Nat, s_cells S.1 = (C : Int) := ⟨(s_cells S.1).toNat, by omega⟩
  rw [hC, Int.toNat_natCast]
  have win := s_w_in false S.1 p cell
  generalize hW : s_w false S.1 p cell = W at *
  have cc := m_cells hm
  rw [hC] at cc
  have loop : ∀ (d c : Nat), c + d = C → ∀ (x : am_V), Rn m_M_hole 43 [vR (some 149), vI p, vI cell, vI w, vI (s_bs W c).1, vI (s_bs W c).2, vI (c : Int), x] [] E (u_as u S.1) = some (some (vI (s_ans w (s_bs W C))), E, u_as u S.1) := by
    intro d
    induction d with
    | zero =>
      intro c hcd x
      have : c = C := by omega
      subst this
      rw [h_M_hole_43]
      unfold s_ans
      by_cases h1 : (s_bs W c).1 = -4
      · rw [if_pos (Or.inl h1)]
        by_cases h0 : w = 0
        · simp (disch := first | assumption | omega) only [↓reduceIte, Int.reduceEq, Int.reduceLT, bdI_s, bdV_s, bdR_s, bdL_s, fx_I, fx_R, fx_B, fx_L, w32_of, x_M_hole, cc, show ¬ (c : Int) < (c : Int) by omega, h0]
        · simp (disch := first | assumption | omega) only [↓reduceIte, Int.reduceEq, Int.reduceLT, bdI_s, bdV_s, bdR_s, bdL_s, fx_I, fx_R, fx_B, fx_L, w32_of, x_M_hole, cc, show ¬ (c : Int) < (c : Int) by omega, h0, h1]
      · by_cases h0 : w = 0
        · rw [if_pos (Or.inr h0)]
          simp (disch := first | assumption | omega) only [↓reduceIte, Int.reduceEq, Int.reduceLT, bdI_s, bdV_s, bdR_s, bdL_s, fx_I, fx_R, fx_B, fx_L, w32_of, x_M_hole, cc, show ¬ (c : Int) < (c : Int) by omega, h0]
        · rw [if_neg (by omega)]
          simp (disch := first | assumption | omega) only [↓reduceIte, Int.reduceEq, Int.reduceLT, bdI_s, bdV_s, bdR_s, bdL_s, fx_I, fx_R, fx_B, fx_L, w32_of, x_M_hole, cc, show ¬ (c : Int) < (c : Int) by omega, h0, h1]
    | succ d ih =>
      intro c hcd x
      have bin := s_bs_in win c
      have b2 : 0 ≤ (s_bs W c).2 ∧ (s_bs W c).2 ≤ 61 := by
        rcases bin with e | e
        · rw [e]; decide
        · omega
      have hcast : ((c + 1 : Nat) : Int) = (c : Int) + 1 := by omega
      have po := m_pinOn hm (c : Int)
      have ho := m_isHole (u := u_as u S.1) hE hm.2.1 (c := (c : Int)) (by omega) (by omega)
      cases hfr : s_free false S.1 c with
      | false =>
        have ew : W c = 61 := by rw [← hW]; unfold s_w; rw [hfr]; rfl
        have eb : s_bs W (c + 1) = s_bs W c := by simp only [s_bs]; rw [ew, if_neg (by omega)]
        have e := ih (c + 1) (by omega) x
        rw [eb] at e
        rw [← e, h_M_hole_43, hcast]
        unfold s_free at hfr
        by_cases hpo : s_pinOn S.1 (c : Int) = -4
        · have hh : s_H S.1 (c : Int) = 1 := by
            by_cases hh : s_H S.1 (c : Int) = 1
            · exact hh
            · simp [hpo, hh] at hfr
          rw [decide_eq_true hh, bI_t] at ho
          simp (disch := first | assumption | omega) only [↓reduceIte, Int.reduceEq, Int.reduceLT, bdI_s, bdV_s, bdR_s, bdL_s, fx_I, fx_R, fx_B, fx_L, w32_of, x_M_hole, cc, show (c : Int) < (C : Int) by omega, po, hpo, ho]
        · simp (disch := first | assumption | omega) only [↓reduceIte, Int.reduceEq, Int.reduceLT, bdI_s, bdV_s, bdR_s, bdL_s, fx_I, fx_R, fx_B, fx_L, w32_of, x_M_hole, cc, show (c : Int) < (C : Int) by omega, po, hpo]
      | true =>
        obtain ⟨tV, t2, t4⟩ := Vn_try hV (b := false) hp.1 hp.2 (show (c : Int) < s_cells S.1 by omega) hfr
        have tZ := Zn_try hS.1.2.2.2 false hp.1 (show p < 7 by omega) (show c < 49 by omega)
        have ew : W c = s_when (s_try false S.1 p c) p cell := by rw [← hW]; unfold s_w; rw [hfr]; rfl
        have hf2 := hfr
        unfold s_free at hf2
        simp only [Bool.and_eq_true, decide_eq_true_eq] at hf2
        have hh : ¬ s_H S.1 (c : Int) = 1 := by
          intro z
          have := hf2.2
          rw [decide_eq_true z] at this
          cases this
        rw [decide_eq_false hh, bI_f] at ho
        have wo := m_whenOn (u := sN (u_as u S.1) (s_try false S.1 p c)) (n := S.1) (c := cell) (hm.to tV) tZ hS.1.2.2.2 (fun j hj => by rw [sN_ne _ _ (by omega)]; exact u_as_155 j hj) hp.1 (by rw [t2]; exact hp.2) (by rw [t4]; omega)
        rw [sN_sN, u_as_back hu.2.1, ← ew] at wo
        have n1 := hm.2.1
        have et : s_try false S.1 p c = s_up S.1 (51 + (c : Int)).toNat 1 := rfl
        rw [et] at wo
        have wc := win c
        by_cases hlt : W c < (s_bs W c).2
        · have e := ih (c + 1) (by omega) (vI (W c))
          have eb : s_bs W (c + 1) = ((c : Int), W c) := by simp only [s_bs]; rw [if_pos hlt]
          rw [eb] at e
          rw [← e, h_M_hole_43, hcast]
          simp (disch := first | assumption | omega) only [↓reduceIte, Int.reduceEq, Int.reduceLT, bdI_s, bdV_s, bdR_s, bdL_s, fx_I, fx_R, fx_B, fx_L, w32_of, x_M_hole, cc, show (c : Int) < (C : Int) by omega, po, hf2.1, ho, sN_up, n1, wo, hlt]
        · have e := ih (c + 1) (by omega) (vI (W c))
          have eb : s_bs W (c + 1) = s_bs W c := by simp only [s_bs]; rw [if_neg hlt]
          rw [eb] at e
          rw [← e, h_M_hole_43, hcast]
          simp (disch := first | assumption | omega) only [↓reduceIte, Int.reduceEq, Int.reduceLT, bdI_s, bdV_s, bdR_s, bdL_s, fx_I, fx_R, fx_B, fx_L, w32_of, x_M_hole, cc, show (c : Int) < (C : Int) by omega, po, hf2.1, ho, sN_up, n1, wo, hlt]
  have lo := loop C 0 (by omega) (vB false)
  have e1 := m_asides' hE hu.2.1
  rw [← lo]
  simp (disch := first | assumption | omega) only [↓reduceIte, Int.reduceEq, Int.reduceLT, bdI_s, bdV_s, bdR_s, bdL_s, fx_I, fx_R, fx_B, fx_L, w32_of, x_M_hole, m_isPinT (hu.mu hS), m_isCellT (hu.mu hS), m_inT, e1]
  rfl
theorem m_placeT {S : am_S} (hE : SE E) (hS : OKS S) {p cell w : Int} (hp : 0 ≤ p ∧ p < S.1 2) (ho : s_C S.1 p = -4) (hc : 0 ≤ cell ∧ cell < s_cells S.1) (hw : 0 ≤ w ∧ w ≤ 1) (hu : MS E u S) : Rn m_M_place 0 [vR (some 149), vI p, vI cell, vI w, vB false, vB false, vB false, vB false] [] E u = some (some (vI (s_ans w (s_bs (s_w true S.1 p cell) (s_cells S.1).toNat))), E, u_as u S.1) := by
  have hV := hS.1.1
  have h2 := hV.2.2.1
  have d1 := hS.1.2.1
  have hcl := s_cells_of hV
  have hm := u_as_mu (hu.mu hS)
  have al := (al_m hE).1
  obtain ⟨C, hC⟩ : ∃ C : Nat, s_cells S.1 = (C : Int) := ⟨(s_cells S.1).toNat, by omega⟩
  rw [hC, Int.toNat_natCast]
  have win := s_w_in true S.1 p cell
  generalize hW : s_w true S.1 p cell = W at *
  have cc := m_cells hm
  rw [hC] at cc
  have loop : ∀ (d c : Nat), c + d = C → ∀ (x : am_V), Rn m_M_place 54 [vR (some 149), vI p, vI cell, vI w, vI (s_bs W c).1, vI (s_bs W c).2, vI (c : Int), x] [] E (u_as u S.1) = some (some (vI (s_ans w (s_bs W C))), E, u_as u S.1) := by
    intro d
    induction d with
    | zero =>
      intro c hcd x
      have : c = C := by omega
      subst this
      rw [h_M_place_54]
      unfold s_ans
      by_cases h1 : (s_bs W c).1 = -4
      · rw [if_pos (Or.inl h1)]
        by_cases h0 : w = 0
        · simp (disch := first | assumption | omega) only [↓reduceIte, Int.reduceEq, Int.reduceLT, bdI_s, bdV_s, bdR_s, bdL_s, fx_I, fx_R, fx_B, fx_L, w32_of, x_M_place, cc, show ¬ (c : Int) < (c : Int) by omega, h0]
        · simp (disch := first | assumption | omega) only [↓reduceIte, Int.reduceEq, Int.reduceLT, bdI_s, bdV_s, bdR_s, bdL_s, fx_I, fx_R, fx_B, fx_L, w32_of, x_M_place, cc, show ¬ (c : Int) < (c : Int) by omega, h0, h1]
      · by_cases h0 : w = 0
        · rw [if_pos (Or.inr h0)]
          simp (disch := first | assumption | omega) only [↓reduceIte, Int.reduceEq, Int.reduceLT, bdI_s, bdV_s, bdR_s, bdL_s, fx_I, fx_R, fx_B, fx_L, w32_of, x_M_place, cc, show ¬ (c : Int) < (c : Int) by omega, h0]
        · rw [if_neg (by omega)]
          simp (disch := first | assumption | omega) only [↓reduceIte, Int.reduceEq, Int.reduceLT, bdI_s, bdV_s, bdR_s, bdL_s, fx_I, fx_R, fx_B, fx_L, w32_of, x_M_place, cc, show ¬ (c : Int) < (c : Int) by omega, h0, h1]
    | succ d ih =>
      intro c hcd x
      have bin := s_bs_in win c
      have b2 : 0 ≤ (s_bs W c).2 ∧ (s_bs W c).2 ≤ 61 := by
        rcases bin with e | e
        · rw [e]; decide
        · omega
      have hcast : ((c + 1 : Nat) : Int) = (c : Int) + 1 := by omega
      have po := m_pinOn hm (c : Int)
      cases hfr : s_free true S.1 c with
      | false =>
        have ew : W c = 61 := by rw [← hW]; unfold s_w; rw [hfr]; rfl
        have eb : s_bs W (c + 1) = s_bs W c := by simp only [s_bs]; rw [ew, if_neg (by omega)]
        have e := ih (c + 1) (by omega) x
        rw [eb] at e
        rw [← e, h_M_place_54, hcast]
        unfold s_free at hfr
        have hpo : ¬ s_pinOn S.1 (c : Int) = -4 := by intro z; simp [z] at hfr
        simp (disch := first | assumption | omega) only [↓reduceIte, Int.reduceEq, Int.reduceLT, bdI_s, bdV_s, bdR_s, bdL_s, fx_I, fx_R, fx_B, fx_L, w32_of, x_M_place, cc, show (c : Int) < (C : Int) by omega, po, hpo]
      | true =>
        obtain ⟨tV, t2, t4⟩ := Vn_try hV (b := true) hp.1 hp.2 (show (c : Int) < s_cells S.1 by omega) hfr
        have tZ := Zn_try hS.1.2.2.2 true hp.1 (show p < 7 by omega) (show c < 49 by omega)
        have ew : W c = s_when (s_try true S.1 p c) p cell := by rw [← hW]; unfold s_w; rw [hfr]; rfl
        have hf2 := hfr
        unfold s_free at hf2
        simp only [Bool.and_eq_true, decide_eq_true_eq] at hf2
        have st := m_sets hm hp.1 hp.2 (c := (c : Int)) (by omega) (by omega)
        have wo := m_whenOn (u := sN (u_as u S.1) (s_try true S.1 p c)) (n := S.1) (c := cell) (hm.to tV) tZ hS.1.2.2.2 (fun j hj => by rw [sN_ne _ _ (by omega)]; exact u_as_155 j hj) hp.1 (by rw [t2]; exact hp.2) (by rw [t4]; omega)
        rw [sN_sN, u_as_back hu.2.1, ← ew] at wo
        have et : s_try true S.1 p c = s_sets S.1 p (c : Int) := rfl
        rw [et] at wo
        have wc := win c
        by_cases hlt : W c < (s_bs W c).2
        · have e := ih (c + 1) (by omega) (vI (W c))
          have eb : s_bs W (c + 1) = ((c : Int), W c) := by simp only [s_bs]; rw [if_pos hlt]
          rw [eb] at e
          rw [← e, h_M_place_54, hcast]
          simp (disch := first | assumption | omega) only [↓reduceIte, Int.reduceEq, Int.reduceLT, bdI_s, bdV_s, bdR_s, bdL_s, fx_I, fx_R, fx_B, fx_L, w32_of, x_M_place, cc, show (c : Int) < (C : Int) by omega, po, hf2.1, st, wo, hlt]
        · have e := ih (c + 1) (by omega) (vI (W c))
          have eb : s_bs W (c + 1) = s_bs W c := by simp only [s_bs]; rw [if_neg hlt]
          rw [eb] at e
          rw [← e, h_M_place_54, hcast]
          simp (disch := first | assumption | omega) only [↓reduceIte, Int.reduceEq, Int.reduceLT, bdI_s, bdV_s, bdR_s, bdL_s, fx_I, fx_R, fx_B, fx_L, w32_of, x_M_place, cc, show (c : Int) < (C : Int) by omega, po, hf2.1, st, wo, hlt]
  have lo := loop C 0 (by omega) (vB false)
  have e1 := m_asides' hE hu.2.1
  have io := m_isOut hE hu.2.1 hp.1 (show p < 7 by omega)
  rw [decide_eq_true ho, bI_t] at io
  rw [← lo]
  simp (disch := first | assumption | omega) only [↓reduceIte, Int.reduceEq, Int.reduceLT, bdI_s, bdV_s, bdR_s, bdL_s, fx_I, fx_R, fx_B, fx_L, w32_of, x_M_place, m_isPinT (hu.mu hS), m_isCellT (hu.mu hS), m_inT, io, e1]
  rfl
theorem k_hole {S : am_S} (hE : SE E) (hS : OKS S) (p c w : Int) : BOTH E S (fun u => Rn m_A_hole 0 [vR (some 0), vI p, vI c, vI w] [] E u) (fun u => Rn m_M_hole 0 [vR (some 149), vI p, vI c, vI w, vB false, vB false, vB false, vB false] [] E u) := by
  have cu1 := cuB_1
  by_cases hp : 0 ≤ p ∧ p < S.1 2
  case neg => exact ⟨-1, S, hS, CA_id fun u hu => by simp (disch := first | assumption | omega) only [↓reduceIte, Int.reduceEq, Int.reduceLT, bdI_s, bdV_s, bdR_s, bdL_s, fx_I, fx_R, fx_B, fx_L, w32_of, x_A_hole, c_isPinF (hu.cu hS)], MA_id fun u hu => by simp (disch := first | assumption | omega) only [↓reduceIte, Int.reduceEq, Int.reduceLT, bdI_s, bdV_s, bdR_s, bdL_s, fx_I, fx_R, fx_B, fx_L, w32_of, x_M_hole, m_isPinF (hu.mu hS)]⟩
  by_cases hc : 0 ≤ c ∧ c < s_cells S.1
  case neg => exact ⟨-1, S, hS, CA_id fun u hu => by simp (disch := first | assumption | omega) only [↓reduceIte, Int.reduceEq, Int.reduceLT, bdI_s, bdV_s, bdR_s, bdL_s, fx_I, fx_R, fx_B, fx_L, w32_of, x_A_hole, c_isPinT (hu.cu hS), c_isCellF (hu.cu hS)], MA_id fun u hu => by simp (disch := first | assumption | omega) only [↓reduceIte, Int.reduceEq, Int.reduceLT, bdI_s, bdV_s, bdR_s, bdL_s, fx_I, fx_R, fx_B, fx_L, w32_of, x_M_hole, m_isPinT (hu.mu hS), m_isCellF (hu.mu hS)]⟩
  by_cases hw : 0 ≤ w ∧ w ≤ 1
  case neg => exact ⟨-1, S, hS, CA_id fun u hu => by simp (disch := first | assumption | omega) only [↓reduceIte, Int.reduceEq, Int.reduceLT, bdI_s, bdV_s, bdR_s, bdL_s, fx_I, fx_R, fx_B, fx_L, w32_of, x_A_hole, c_isPinT (hu.cu hS), c_isCellT (hu.cu hS), r_isInF], MA_id fun u hu => by simp (disch := first | assumption | omega) only [↓reduceIte, Int.reduceEq, Int.reduceLT, bdI_s, bdV_s, bdR_s, bdL_s, fx_I, fx_R, fx_B, fx_L, w32_of, x_M_hole, m_isPinT (hu.mu hS), m_isCellT (hu.mu hS), m_inF]⟩
  refine ⟨_, S, hS, CA_tr fun u hu => ?_, MA_tr fun u hu => ⟨u_as u S.1, m_holeT hE hS hp hc hw hu, fun i hi => u_as_ne hi⟩⟩
  obtain ⟨u', e, f⟩ := c_bestCell (w := w) hE hS false hp hc hu
  rw [bI_f] at e
  exact ⟨u', by simp (disch := first | assumption | omega) only [↓reduceIte, Int.reduceEq, Int.reduceLT, bdI_s, bdV_s, bdR_s, bdL_s, fx_I, fx_R, fx_B, fx_L, w32_of, x_A_hole, c_isPinT (hu.cu hS), c_isCellT (hu.cu hS), r_isInT, e], f⟩
theorem k_place {S : am_S} (hE : SE E) (hS : OKS S) (p c w : Int) : BOTH E S (fun u => Rn m_A_place 0 [vR (some 0), vI p, vI c, vI w] [] E u) (fun u => Rn m_M_place 0 [vR (some 149), vI p, vI c, vI w, vB false, vB false, vB false, vB false] [] E u) := by
  have cu1 := cuB_1
  have h2 := hS.1.1.2.2.1
  by_cases hp : 0 ≤ p ∧ p < S.1 2
  case neg => exact ⟨-1, S, hS, CA_id fun u hu => by simp (disch := first | assumption | omega) only [↓reduceIte, Int.reduceEq, Int.reduceLT, bdI_s, bdV_s, bdR_s, bdL_s, fx_I, fx_R, fx_B, fx_L, w32_of, x_A_place, c_isPinF (hu.cu hS)], MA_id fun u hu => by simp (disch := first | assumption | omega) only [↓reduceIte, Int.reduceEq, Int.reduceLT, bdI_s, bdV_s, bdR_s, bdL_s, fx_I, fx_R, fx_B, fx_L, w32_of, x_M_place, m_isPinF (hu.mu hS)]⟩
  by_cases hc : 0 ≤ c ∧ c < s_cells S.1
  case neg => exact ⟨-1, S, hS, CA_id fun u hu => by simp (disch := first | assumption | omega) only [↓reduceIte, Int.reduceEq, Int.reduceLT, bdI_s, bdV_s, bdR_s, bdL_s, fx_I, fx_R, fx_B, fx_L, w32_of, x_A_place, c_isPinT (hu.cu hS), c_isCellF (hu.cu hS)], MA_id fun u hu => by simp (disch := first | assumption | omega) only [↓reduceIte, Int.reduceEq, Int.reduceLT, bdI_s, bdV_s, bdR_s, bdL_s, fx_I, fx_R, fx_B, fx_L, w32_of, x_M_place, m_isPinT (hu.mu hS), m_isCellF (hu.mu hS)]⟩
  by_cases hw : 0 ≤ w ∧ w ≤ 1
  case neg => exact ⟨-1, S, hS, CA_id fun u hu => by simp (disch := first | assumption | omega) only [↓reduceIte, Int.reduceEq, Int.reduceLT, bdI_s, bdV_s, bdR_s, bdL_s, fx_I, fx_R, fx_B, fx_L, w32_of, x_A_place, c_isPinT (hu.cu hS), c_isCellT (hu.cu hS), r_isInF], MA_id fun u hu => by simp (disch := first | assumption | omega) only [↓reduceIte, Int.reduceEq, Int.reduceLT, bdI_s, bdV_s, bdR_s, bdL_s, fx_I, fx_R, fx_B, fx_L, w32_of, x_M_place, m_isPinT (hu.mu hS), m_isCellT (hu.mu hS), m_inF]⟩
  by_cases ho : s_C S.1 p = -4
  case neg =>
    refine ⟨-2, S, hS, CA_id fun u hu => ?_, MA_id fun u hu => ?_⟩
    · have lk := lk_C (hu.cu hS) hp.1 hp.2
      simp (disch := first | assumption | omega) only [↓reduceIte, Int.reduceEq, Int.reduceLT, bdI_s, bdV_s, bdR_s, bdL_s, fx_I, fx_R, fx_B, fx_L, w32_of, x_A_place, c_isPinT (hu.cu hS), c_isCellT (hu.cu hS), r_isInT, lk, ho]
    · have io := m_isOut hE hu.2.1 hp.1 (show p < 7 by omega)
      rw [decide_eq_false ho, bI_f] at io
      simp (disch := first | assumption | omega) only [↓reduceIte, Int.reduceEq, Int.reduceLT, bdI_s, bdV_s, bdR_s, bdL_s, fx_I, fx_R, fx_B, fx_L, w32_of, x_M_place, m_isPinT (hu.mu hS), m_isCellT (hu.mu hS), m_inT, io]
  refine ⟨_, S, hS, CA_tr fun u hu => ?_, MA_tr fun u hu => ⟨u_as u S.1, m_placeT hE hS hp ho hc hw hu, fun i hi => u_as_ne hi⟩⟩
  obtain ⟨u', e, f⟩ := c_bestCell (w := w) hE hS true hp hc hu
  rw [bI_t] at e
  have lk := lk_C (hu.cu hS) hp.1 hp.2
  exact ⟨u', by simp (disch := first | assumption | omega) only [↓reduceIte, Int.reduceEq, Int.reduceLT, bdI_s, bdV_s, bdR_s, bdL_s, fx_I, fx_R, fx_B, fx_L, w32_of, x_A_place, c_isPinT (hu.cu hS), c_isCellT (hu.cu hS), r_isInT, lk, ho, e], f⟩

/-! Calls: what is foretold by days; who is near, bound. -/
variable {E : am_E} {u : am_M} {k : Nat} {n : am_Row}
/-- the trial becomes now -/
theorem c_trial {S : am_S} (hE : SE E) (hS : OKS S) (hu : CS E u S) : ∃ u', Rn m_C_becomes 0 [vR (some 8), vR (some 1)] [] E u = some (none, E, u') ∧ CU E u' 8 S.1 ∧ FR 8 u u' := c_becomes hE cuB_8 cuB_1 (by omega) hu.2.1 hS.1.1
theorem lk_C (h : CU E u k n) {p : Int} (p0 : 0 ≤ p) (p1 : p < n 2) : Rn m_A_look 0 [vR (some (k + 2)), vI p] [] E u = some (some (vI (s_C n p)), E, u) := by
  have h2 := h.2.2.2.2.2.1
  rw [r_look7 h.1 h.2.1 (j := 2) (by decide) p0 (by omega), (h.2.2.1.2.2.2.2.2.2.2.2.1 p p0 p1).2.1]
/-- the row laid aside -/
def u_as (u : am_M) (n : am_Row) : am_M := aS u 155 (s_fil (u 155) n 0 100)
theorem u_as_150 (hn : u 150 = n) : u_as u n 150 = n := by unfold u_as; rw [aS_ne _ _ (by omega)]; exact hn
theorem u_as_155 (j : Nat) (hj : j < 100) : u_as u n 155 j = n j := by unfold u_as; rw [aS_eq, s_fil_in (by omega)]
theorem u_as_ne {i : Nat} (h : i ≠ 155) : u_as u n i = u i := by unfold u_as; rw [aS_ne _ _ h]
theorem u_as_mu (h : MU E u n) : MU E (u_as u n) n := ⟨h.1, u_as_150 h.2.1, h.2.2⟩
theorem u_as_back (hn : u 150 = n) : sN (u_as u n) n = u_as u n := sN_id (u_as_150 hn)
theorem m_asides' (hE : SE E) (hn : u 150 = n) : Rn m_M_asides 0 [vR (some 149), vB false] [] E u = some (none, E, u_as u n) := m_asides hE hn
theorem m_backs' (hE : SE E) (hn : u 150 = n) (hz : Zn n) {r : am_Row} (hr : Zn r) : Rn m_M_backs 0 [vR (some 149), vB false] [] E (sN (u_as u n) r) = some (none, E, u_as u n) := by
  rw [m_backs hE (n := n) (by rw [sN_150]; exact hr) hz (fun j hj => by rw [sN_ne _ _ (by omega)]; exact u_as_155 j hj), sN_sN, u_as_back hn]
theorem s_wh_s (f : Nat → Bool) (i d : Nat) : s_wh f i (d + 1) = if f i = true then (i : Int) else s_wh f (i + 1) d := rfl
theorem k_ahead {S : am_S} (hE : SE E) (hS : OKS S) (p m : Int) : BOTH E S (fun u => Rn m_A_ahead 0 [vR (some 0), vI p, vI m] [] E u) (fun u => Rn m_M_ahead 0 [vR (some 149), vI p, vI m, vB false] [] E u) := by
  have cu1 := cuB_1
  have cu8 := cuB_8
  have hV := hS.1.1
  have h2 := hV.2.2.1
  have d1 := hS.1.2.1
  by_cases hp : 0 ≤ p ∧ p < S.1 2
  case neg => exact ⟨-1, S, hS, CA_id fun u hu => by simp (disch := first | assumption | omega) only [↓reduceIte, Int.reduceEq, Int.reduceLT, bdI_s, bdV_s, bdR_s, bdL_s, fx_I, fx_R, fx_B, fx_L, w32_of, x_A_ahead, c_isPinF (hu.cu hS)], MA_id fun u hu => by simp (disch := first | assumption | omega) only [↓reduceIte, Int.reduceEq, Int.reduceLT, bdI_s, bdV_s, bdR_s, bdL_s, fx_I, fx_R, fx_B, fx_L, w32_of, x_M_ahead, m_isPinF (hu.mu hS)]⟩
  by_cases hm : 0 ≤ m ∧ m ≤ 60
  case neg => exact ⟨-1, S, hS, CA_id fun u hu => by simp (disch := first | assumption | omega) only [↓reduceIte, Int.reduceEq, Int.reduceLT, bdI_s, bdV_s, bdR_s, bdL_s, fx_I, fx_R, fx_B, fx_L, w32_of, x_A_ahead, c_isPinT (hu.cu hS), r_isInF], MA_id fun u hu => by simp (disch := first | assumption | omega) only [↓reduceIte, Int.reduceEq, Int.reduceLT, bdI_s, bdV_s, bdR_s, bdL_s, fx_I, fx_R, fx_B, fx_L, w32_of, x_M_ahead, m_isPinT (hu.mu hS), m_inF]⟩
  obtain ⟨M, hM⟩ : ∃ M : Nat, m = (M : Int) := ⟨m.toNat, by omega⟩
  subst hM
  obtain ⟨hv, dv, lv⟩ := Vn_days hV M
  refine ⟨s_C (s_days S.1 M) p, S, hS, CA_tr fun u hu => ?_, MA_tr fun u hu => ?_⟩
  · obtain ⟨u1, e1, h1, f1⟩ := c_trial hE hS hu
    obtain ⟨u2, e2, h2', f2⟩ := c_goesOnFor h1 M (by omega)
    refine ⟨u2, ?_, f1.tr f2⟩
    have q := lk_C h2' hp.1 (by rw [lv 2 (by omega) (by omega)]; exact hp.2)
    simp (disch := first | assumption | omega) only [↓reduceIte, Int.reduceEq, Int.reduceLT, bdI_s, bdV_s, bdR_s, bdL_s, fx_I, fx_R, fx_B, fx_L, w32_of, x_A_ahead, c_isPinT (hu.cu hS), r_isInT, e1, e2, q]
  · have e1 := m_asides' hE hu.2.1
    have e2 := m_goesOn (u_as_mu (hu.mu hS)) M (by omega)
    have e3 := m_cellOf (u := sN (u_as u S.1) (s_days S.1 M)) hE (sN_150 _ _) hp.1 (show p < 7 by omega)
    have e4 := m_backs' hE hu.2.1 hS.1.2.2.2 (Zn_days hV hS.1.2.2.2 M)
    refine ⟨u_as u S.1, ?_, fun i hi => u_as_ne hi⟩
    simp (disch := first | assumption | omega) only [↓reduceIte, Int.reduceEq, Int.reduceLT, bdI_s, bdV_s, bdR_s, bdL_s, fx_I, fx_R, fx_B, fx_L, w32_of, x_M_ahead, m_isPinT (hu.mu hS), m_inT, e1, e2, e3, e4]
theorem k_holes {S : am_S} (hE : SE E) (hS : OKS S) (m : Int) : BOTH E S (fun u => Rn m_A_holes 0 [vR (some 0), vI m] [] E u) (fun u => Rn m_M_holes 0 [vR (some 149), vI m, vB false] [] E u) := by
  have cu1 := cuB_1
  have cu8 := cuB_8
  have hV := hS.1.1
  have d1 := hS.1.2.1
  by_cases hm : 0 ≤ m ∧ m ≤ 60
  case neg => exact ⟨-1, S, hS, CA_id fun u hu => by simp (disch := first | assumption | omega) only [↓reduceIte, Int.reduceEq, Int.reduceLT, bdI_s, bdV_s, bdR_s, bdL_s, fx_I, fx_R, fx_B, fx_L, w32_of, x_A_holes, r_isInF], MA_id fun u hu => by simp (disch := first | assumption | omega) only [↓reduceIte, Int.reduceEq, Int.reduceLT, bdI_s, bdV_s, bdR_s, bdL_s, fx_I, fx_R, fx_B, fx_L, w32_of, x_M_holes, m_inF]⟩
  obtain ⟨M, hM⟩ : ∃ M : Nat, m = (M : Int) := ⟨m.toNat, by omega⟩
  subst hM
  obtain ⟨hv, dv, lv⟩ := Vn_days hV M
  refine ⟨s_count (s_days S.1 M), S, hS, CA_tr fun u hu => ?_, MA_tr fun u hu => ?_⟩
  · obtain ⟨u1, e1, h1, f1⟩ := c_trial hE hS hu
    obtain ⟨u2, e2, h2', f2⟩ := c_goesOnFor h1 M (by omega)
    refine ⟨u2, ?_, f1.tr f2⟩
    simp (disch := first | assumption | omega) only [↓reduceIte, Int.reduceEq, Int.reduceLT, bdI_s, bdV_s, bdR_s, bdL_s, fx_I, fx_R, fx_B, fx_L, w32_of, x_A_holes, r_isInT, e1, e2, c_holeCount h2']
  · have e1 := m_asides' hE hu.2.1
    have e2 := m_goesOn (u_as_mu (hu.mu hS)) M (by omega)
    have e3 := m_holesNow ((u_as_mu (hu.mu hS)).to hv)
    have e4 := m_backs' hE hu.2.1 hS.1.2.2.2 (Zn_days hV hS.1.2.2.2 M)
    refine ⟨u_as u S.1, ?_, fun i hi => u_as_ne hi⟩
    simp (disch := first | assumption | omega) only [↓reduceIte, Int.reduceEq, Int.reduceLT, bdI_s, bdV_s, bdR_s, bdL_s, fx_I, fx_R, fx_B, fx_L, w32_of, x_M_holes, m_inT, e1, e2, e3, e4]
theorem k_comes {S : am_S} (hE : SE E) (hS : OKS S) (p c : Int) : BOTH E S (fun u => Rn m_A_comes 0 [vR (some 0), vI p, vI c] [] E u) (fun u => Rn m_M_comes 0 [vR (some 149), vI p, vI c, vB false] [] E u) := by
  have cu1 := cuB_1
  have cu8 := cuB_8
  have hV := hS.1.1
  have d1 := hS.1.2.1
  by_cases hp : 0 ≤ p ∧ p < S.1 2
  case neg => exact ⟨-1, S, hS, CA_id fun u hu => by simp (disch := first | assumption | omega) only [↓reduceIte, Int.reduceEq, Int.reduceLT, bdI_s, bdV_s, bdR_s, bdL_s, fx_I, fx_R, fx_B, fx_L, w32_of, x_A_comes, c_isPinF (hu.cu hS)], MA_id fun u hu => by simp (disch := first | assumption | omega) only [↓reduceIte, Int.reduceEq, Int.reduceLT, bdI_s, bdV_s, bdR_s, bdL_s, fx_I, fx_R, fx_B, fx_L, w32_of, x_M_comes, m_isPinF (hu.mu hS)]⟩
  by_cases hc : 0 ≤ c ∧ c < s_cells S.1
  case neg => exact ⟨-1, S, hS, CA_id fun u hu => by simp (disch := first | assumption | omega) only [↓reduceIte, Int.reduceEq, Int.reduceLT, bdI_s, bdV_s, bdR_s, bdL_s, fx_I, fx_R, fx_B, fx_L, w32_of, x_A_comes, c_isPinT (hu.cu hS), c_isCellF (hu.cu hS)], MA_id fun u hu => by simp (disch := first | assumption | omega) only [↓reduceIte, Int.reduceEq, Int.reduceLT, bdI_s, bdV_s, bdR_s, bdL_s, fx_I, fx_R, fx_B, fx_L, w32_of, x_M_comes, m_isPinT (hu.mu hS), m_isCellF (hu.mu hS)]⟩
  refine ⟨if s_when S.1 p c < ((61 : Nat) : Int) then s_when S.1 p c else -4, S, hS, CA_tr fun u hu => ?_, MA_tr fun u hu => ?_⟩
  · obtain ⟨u1, e1, h1, f1⟩ := c_trial hE hS hu
    obtain ⟨u2, e2, f2⟩ := c_soonestW h1 hp.1 hp.2 hc.1 61 (by omega) (by omega)
    refine ⟨u2, ?_, f1.tr f2⟩
    rw [show ((61 : Nat) : Int) - 1 = 60 by omega] at e2
    simp (disch := first | assumption | omega) only [↓reduceIte, Int.reduceEq, Int.reduceLT, bdI_s, bdV_s, bdR_s, bdL_s, fx_I, fx_R, fx_B, fx_L, w32_of, x_A_comes, c_isPinT (hu.cu hS), c_isCellT (hu.cu hS), e1, e2]
  · have e1 := m_asides' hE hu.2.1
    have hm := u_as_mu (hu.mu hS)
    have e2 := m_whenOn (u := u_as u S.1) (n := S.1) (c := c) hm hS.1.2.2.2 hS.1.2.2.2 (fun j hj => u_as_155 j hj) hp.1 hp.2 (by omega)
    rw [u_as_back hu.2.1] at e2
    refine ⟨u_as u S.1, ?_, fun i hi => u_as_ne hi⟩
    by_cases hw : s_when S.1 p c < 61
    · rw [if_pos (by omega)]
      simp (disch := first | assumption | omega) only [↓reduceIte, Int.reduceEq, Int.reduceLT, bdI_s, bdV_s, bdR_s, bdL_s, fx_I, fx_R, fx_B, fx_L, w32_of, x_M_comes, m_isPinT (hu.mu hS), m_isCellT (hu.mu hS), e1, e2, hw]
    · rw [if_neg (by omega)]
      simp (disch := first | assumption | omega) only [↓reduceIte, Int.reduceEq, Int.reduceLT, bdI_s, bdV_s, bdR_s, bdL_s, fx_I, fx_R, fx_B, fx_L, w32_of, x_M_comes, m_isPinT (hu.mu hS), m_isCellT (hu.mu hS), e1, e2, hw]
/-- two pins are side by side -/
def s_by (n : am_Row) (p q : Int) (i : Nat) : Bool := decide (s_far n (s_C (s_days n i) p) (s_C (s_days n i) q) = 1)
theorem s_far_days (hV : Vn n) (m : Nat) (a b : Int) : s_far (s_days n m) a b = s_far n a b := by
  unfold s_far
  rw [(Vn_days hV m).2.2 1 (by omega) (by omega)]
theorem c_soonestBy (h : CU E u k n) {p q : Int} (p0 : 0 ≤ p) (p1 : p < n 2) (q0 : 0 ≤ q) (q1 : q < n 2) (hp : s_C n p ≠ -4) (hq : s_C n q ≠ -4) (hd : n 4 ≤ 1000000) : ∃ u', Rn m_C_soonestBeside 0 [vR (some k), vI p, vI q, vI 60, vB false] [] E u = some (some (vI (s_fst (s_by n p q) 0 61)), E, u') ∧ FR k u u' := by
  have hE := h.1
  have hk := h.2.1
  have hV := h.2.2.2
  have h2 := hV.2.2.1
  have loop : ∀ (d i : Nat), i + d = 61 → ∀ v : am_M, CU E v k (s_days n i) → ∃ u', Rn m_C_soonestBeside 32 [vR (some k), vI p, vI q, vI 60, vI (i : Int)] [] E v = some (some (vI (s_fst (s_by n p q) i d)), E, u') ∧ FR k v u' := by
    intro d
    induction d with
    | zero =>
      intro i hi v hv
      refine ⟨v, ?_, FR.rf⟩
      rw [h_C_soonestBeside_32]
      simp (disch := first | assumption | omega) only [↓reduceIte, Int.reduceEq, Int.reduceLT, bdI_s, bdV_s, bdR_s, bdL_s, fx_I, fx_R, fx_B, fx_L, w32_of, x_C_soonestBeside, show (60 : Int) < (i : Int) by omega, s_fst]
    | succ d ih =>
      intro i hi v hv
      obtain ⟨vi, di, li⟩ := Vn_days hV i
      have l2 := li 2 (by omega) (by omega)
      have lp := lk_C hv p0 (by rw [l2]; exact p1)
      have lq := lk_C hv q0 (by rw [l2]; exact q1)
      have op : s_C (s_days n i) p ≠ -4 := fun z => hp ((s_days_on hV p0 (by omega) i).mp z)
      have oq : s_C (s_days n i) q ≠ -4 := fun z => hq ((s_days_on hV q0 (by omega) i).mp z)
      have cp := Vn_pin vi p0 (by rw [l2]; exact p1)
      have cq := Vn_pin vi q0 (by rw [l2]; exact q1)
      have hf := c_far hv (a := s_C (s_days n i) p) (b := s_C (s_days n i) q) (by omega) (by omega) (by omega) (by omega)
      rw [s_far_days hV] at hf
      rw [h_C_soonestBeside_32]
      simp only [s_fst]
      by_cases e : s_far n (s_C (s_days n i) p) (s_C (s_days n i) q) = 1
      · have e' : s_by n p q i = true := by unfold s_by; exact decide_eq_true e
        refine ⟨v, ?_, FR.rf⟩
        rw [if_pos e']
        simp (disch := first | assumption | omega) only [↓reduceIte, Int.reduceEq, Int.reduceLT, bdI_s, bdV_s, bdR_s, bdL_s, fx_I, fx_R, fx_B, fx_L, w32_of, x_C_soonestBeside, show ¬ (60 : Int) < (i : Int) by omega, lp, lq, hf, e]
      · have e' : ¬ s_by n p q i = true := by unfold s_by; rw [decide_eq_false e]; decide
        rw [if_neg e']
        obtain ⟨u2, e2, hu2, f2⟩ := c_goesOn hv (by rw [di]; omega)
        obtain ⟨u3, e3, f3⟩ := ih (i + 1) (by omega) u2 hu2
        refine ⟨u3, ?_, f2.tr f3⟩
        rw [← e3]
        simp (disch := first | assumption | omega) only [↓reduceIte, Int.reduceEq, Int.reduceLT, bdI_s, bdV_s, bdR_s, bdL_s, fx_I, fx_R, fx_B, fx_L, w32_of, x_C_soonestBeside, show ¬ (60 : Int) < (i : Int) by omega, lp, lq, hf, e, e2]
        rfl
  obtain ⟨u1, e1, f1⟩ := loop 61 0 (by omega) u h
  refine ⟨u1, ?_, f1⟩
  rw [← e1]
  have lp := lk_C h p0 p1
  have lq := lk_C h q0 q1
  simp (disch := first | assumption | omega) only [↓reduceIte, Int.reduceEq, Int.reduceLT, bdI_s, bdV_s, bdR_s, bdL_s, fx_I, fx_R, fx_B, fx_L, w32_of, x_C_soonestBeside, lp, lq, hp, hq]
  rfl
theorem k_side {S : am_S} (hE : SE E) (hS : OKS S) (p q : Int) : BOTH E S (fun u => Rn m_A_side 0 [vR (some 0), vI p, vI q] [] E u) (fun u => Rn m_M_side 0 [vR (some 149), vI p, vI q, vB false] [] E u) := by
  have cu1 := cuB_1
  have cu8 := cuB_8
  have hV := hS.1.1
  have h2 := hV.2.2.1
  have d1 := hS.1.2.1
  by_cases hp : 0 ≤ p ∧ p < S.1 2
  case neg => exact ⟨-1, S, hS, CA_id fun u hu => by simp (disch := first | assumption | omega) only [↓reduceIte, Int.reduceEq, Int.reduceLT, bdI_s, bdV_s, bdR_s, bdL_s, fx_I, fx_R, fx_B, fx_L, w32_of, x_A_side, r_areTwoPinsF hE (hu.cu hS)], MA_id fun u hu => by simp (disch := first | assumption | omega) only [↓reduceIte, Int.reduceEq, Int.reduceLT, bdI_s, bdV_s, bdR_s, bdL_s, fx_I, fx_R, fx_B, fx_L, w32_of, x_M_side, m_isPinF (hu.mu hS)]⟩
  by_cases hq : 0 ≤ q ∧ q < S.1 2
  case neg => exact ⟨-1, S, hS, CA_id fun u hu => by simp (disch := first | assumption | omega) only [↓reduceIte, Int.reduceEq, Int.reduceLT, bdI_s, bdV_s, bdR_s, bdL_s, fx_I, fx_R, fx_B, fx_L, w32_of, x_A_side, r_areTwoPinsF hE (hu.cu hS)], MA_id fun u hu => by simp (disch := first | assumption | omega) only [↓reduceIte, Int.reduceEq, Int.reduceLT, bdI_s, bdV_s, bdR_s, bdL_s, fx_I, fx_R, fx_B, fx_L, w32_of, x_M_side, m_isPinT (hu.mu hS), m_isPinF (hu.mu hS)]⟩
  by_cases hpq : p = q
  · exact ⟨-1, S, hS, CA_id fun u hu => by simp (disch := first | assumption | omega) only [↓reduceIte, Int.reduceEq, Int.reduceLT, bdI_s, bdV_s, bdR_s, bdL_s, fx_I, fx_R, fx_B, fx_L, w32_of, x_A_side, r_areTwoPinsF hE (hu.cu hS)], MA_id fun u hu => by simp (disch := first | assumption | omega) only [↓reduceIte, Int.reduceEq, Int.reduceLT, bdI_s, bdV_s, bdR_s, bdL_s, fx_I, fx_R, fx_B, fx_L, w32_of, x_M_side, m_isPinT (hu.mu hS), hpq]⟩
  by_cases op : s_C S.1 p = -4
  · refine ⟨-4, S, hS, CA_tr fun u hu => ?_, MA_id fun u hu => ?_⟩
    · obtain ⟨u1, e1, h1, f1⟩ := c_trial hE hS hu
      have lp := lk_C h1 hp.1 hp.2
      exact ⟨u1, by simp (disch := first | assumption | omega) only [↓reduceIte, Int.reduceEq, Int.reduceLT, bdI_s, bdV_s, bdR_s, bdL_s, fx_I, fx_R, fx_B, fx_L, w32_of, x_A_side, r_areTwoPinsT hE (hu.cu hS), e1, x_C_soonestBeside, lp, op], f1⟩
    · have io := m_isOut hE hu.2.1 hp.1 (show p < 7 by omega)
      rw [decide_eq_true op, bI_t] at io
      simp (disch := first | assumption | omega) only [↓reduceIte, Int.reduceEq, Int.reduceLT, bdI_s, bdV_s, bdR_s, bdL_s, fx_I, fx_R, fx_B, fx_L, w32_of, x_M_side, m_isPinT (hu.mu hS), hpq, io]
  by_cases oq : s_C S.1 q = -4
  · refine ⟨-4, S, hS, CA_tr fun u hu => ?_, MA_id fun u hu => ?_⟩
    · obtain ⟨u1, e1, h1, f1⟩ := c_trial hE hS hu
      have lp := lk_C h1 hp.1 hp.2
      have lq := lk_C h1 hq.1 hq.2
      exact ⟨u1, by simp (disch := first | assumption | omega) only [↓reduceIte, Int.reduceEq, Int.reduceLT, bdI_s, bdV_s, bdR_s, bdL_s, fx_I, fx_R, fx_B, fx_L, w32_of, x_A_side, r_areTwoPinsT hE (hu.cu hS), e1, x_C_soonestBeside, lp, lq, op, oq], f1⟩
    · have io := m_isOut hE hu.2.1 hp.1 (show p < 7 by omega)
      rw [decide_eq_false op, bI_f] at io
      have io2 := m_isOut hE hu.2.1 hq.1 (show q < 7 by omega)
      rw [decide_eq_true oq, bI_t] at io2
      simp (disch := first | assumption | omega) only [↓reduceIte, Int.reduceEq, Int.reduceLT, bdI_s, bdV_s, bdR_s, bdL_s, fx_I, fx_R, fx_B, fx_L, w32_of, x_M_side, m_isPinT (hu.mu hS), hpq, io, io2]
  refine ⟨s_fst (s_by S.1 p q) 0 61, S, hS, CA_tr fun u hu => ?_, MA_tr fun u hu => ?_⟩
  · obtain ⟨u1, e1, h1, f1⟩ := c_trial hE hS hu
    obtain ⟨u2, e2, f2⟩ := c_soonestBy h1 hp.1 hp.2 hq.1 hq.2 op oq (by omega)
    exact ⟨u2, by simp (disch := first | assumption | omega) only [↓reduceIte, Int.reduceEq, Int.reduceLT, bdI_s, bdV_s, bdR_s, bdL_s, fx_I, fx_R, fx_B, fx_L, w32_of, x_A_side, r_areTwoPinsT hE (hu.cu hS), e1, e2], f1.tr f2⟩
  · have e1 := m_asides' hE hu.2.1
    have hm := u_as_mu (hu.mu hS)
    have io := m_isOut hE hu.2.1 hp.1 (show p < 7 by omega)
    rw [decide_eq_false op, bI_f] at io
    have io2 := m_isOut hE hu.2.1 hq.1 (show q < 7 by omega)
    rw [decide_eq_false oq, bI_f] at io2
    have fw := s_fst_wh (s_by S.1 p q) 61 0 0
    have bk : ∀ i, Rn m_M_backs 0 [vR (some 149), vB false] [] E (sN (u_as u S.1) (s_days S.1 i)) = some (none, E, u_as u S.1) := fun i => m_backs' hE hu.2.1 hS.1.2.2.2 (Zn_days hV hS.1.2.2.2 i)
    have fin : ∀ (w : Int) (i : Nat), Rn m_M_side 82 [vR (some 149), vI p, vI q, vI w] [] E (sN (u_as u S.1) (s_days S.1 i)) = some (some (vI (if w < 61 then w else -4)), E, u_as u S.1) := fun w i => by
      by_cases hw : w < 61
      · simp (disch := first | assumption | omega) only [↓reduceIte, Int.reduceEq, Int.reduceLT, bdI_s, bdV_s, bdR_s, bdL_s, fx_I, fx_R, fx_B, fx_L, w32_of, x_M_side, bk, hw]
      · simp (disch := first | assumption | omega) only [↓reduceIte, Int.reduceEq, Int.reduceLT, bdI_s, bdV_s, bdR_s, bdL_s, fx_I, fx_R, fx_B, fx_L, w32_of, x_M_side, bk, hw]
    have loop : ∀ (d i : Nat), i + d = 61 → Rn m_M_side 48 [vR (some 149), vI p, vI q, vI (i : Int)] [] E (sN (u_as u S.1) (s_days S.1 i)) = some (some (vI (if s_wh (s_by S.1 p q) i d < 61 then s_wh (s_by S.1 p q) i d else -4)), E, u_as u S.1) := by
      intro d
      induction d with
      | zero =>
        intro i hi
        rw [h_M_side_48]
        simp (disch := first | assumption | omega) only [↓reduceIte, Int.reduceEq, Int.reduceLT, bdI_s, bdV_s, bdR_s, bdL_s, fx_I, fx_R, fx_B, fx_L, w32_of, x_M_side, show ¬ (i : Int) < 61 by omega, fin, s_wh]
      | succ d ih =>
        intro i hi
        obtain ⟨vi, di, li⟩ := Vn_days hV i
        have l2 := li 2 (by omega) (by omega)
        have hMU : MU E (sN (u_as u S.1) (s_days S.1 i)) (s_days S.1 i) := hm.to vi
        have hp2 := m_cellOf (u := sN (u_as u S.1) (s_days S.1 i)) hE (sN_150 _ _) hp.1 (show p < 7 by omega)
        have hq2 := m_cellOf (u := sN (u_as u S.1) (s_days S.1 i)) hE (sN_150 _ _) hq.1 (show q < 7 by omega)
        have op' : s_C (s_days S.1 i) p ≠ -4 := fun z => op ((s_days_on hV hp.1 (by omega) i).mp z)
        have oq' : s_C (s_days S.1 i) q ≠ -4 := fun z => oq ((s_days_on hV hq.1 (by omega) i).mp z)
        have cp := Vn_pin vi hp.1 (by rw [l2]; exact hp.2)
        have cq := Vn_pin vi hq.1 (by rw [l2]; exact hq.2)
        have hf := m_far hMU (a := s_C (s_days S.1 i) p) (b := s_C (s_days S.1 i) q) (by omega) (by omega) (by omega) (by omega)
        rw [s_far_days hV] at hf
        rw [h_M_side_48]
        rw [s_wh_s]
        by_cases e : s_far S.1 (s_C (s_days S.1 i) p) (s_C (s_days S.1 i) q) = 1
        · have e' : s_by S.1 p q i = true := by unfold s_by; exact decide_eq_true e
          rw [if_pos e']
          simp (disch := first | assumption | omega) only [↓reduceIte, Int.reduceEq, Int.reduceLT, bdI_s, bdV_s, bdR_s, bdL_s, fx_I, fx_R, fx_B, fx_L, w32_of, x_M_side, show (i : Int) < 61 by omega, hp2, hq2, hf, e, fin]
        · have e' : ¬ s_by S.1 p q i = true := by unfold s_by; rw [decide_eq_false e]; decide
          have st := m_goesBy hMU (by rw [di]; omega)
          rw [sN_sN] at st
          rw [if_neg e', ← ih (i + 1) (by omega)]
          simp (disch := first | assumption | omega) only [↓reduceIte, Int.reduceEq, Int.reduceLT, bdI_s, bdV_s, bdR_s, bdL_s, fx_I, fx_R, fx_B, fx_L, w32_of, x_M_side, show (i : Int) < 61 by omega, hp2, hq2, hf, e, st]
          rfl
    have lo := loop 61 0 (by omega)
    have z : sN (u_as u S.1) (s_days S.1 0) = u_as u S.1 := u_as_back hu.2.1
    rw [z] at lo
    refine ⟨u_as u S.1, ?_, fun i hi => u_as_ne hi⟩
    have fw' : s_fst (s_by S.1 p q) 0 61 = if s_wh (s_by S.1 p q) 0 61 < 61 then s_wh (s_by S.1 p q) 0 61 else -4 := fw
    rw [fw', ← lo]
    simp (disch := first | assumption | omega) only [↓reduceIte, Int.reduceEq, Int.reduceLT, bdI_s, bdV_s, bdR_s, bdL_s, fx_I, fx_R, fx_B, fx_L, w32_of, x_M_side, m_isPinT (hu.mu hS), hpq, io, io2, e1]
    rfl
theorem k_nearest {S : am_S} (hE : SE E) (hS : OKS S) (c w : Int) : BOTH E S (fun u => Rn m_A_nearest 0 [vR (some 0), vI c, vI w, vB false] [] E u) (fun u => Rn m_M_nearest 0 [vR (some 149), vI c, vI w, vB false] [] E u) := by
  have cu1 := cuB_1
  have hV := hS.1.1
  have hcl := s_cells_of hV
  by_cases hc : 0 ≤ c ∧ c < s_cells S.1
  case neg => exact ⟨-1, S, hS, CA_id fun u hu => by simp (disch := first | assumption | omega) only [↓reduceIte, Int.reduceEq, Int.reduceLT, bdI_s, bdV_s, bdR_s, bdL_s, fx_I, fx_R, fx_B, fx_L, w32_of, x_A_nearest, c_isCellF (hu.cu hS)], MA_id fun u hu => by simp (disch := first | assumption | omega) only [↓reduceIte, Int.reduceEq, Int.reduceLT, bdI_s, bdV_s, bdR_s, bdL_s, fx_I, fx_R, fx_B, fx_L, w32_of, x_M_nearest, m_isCellF (hu.mu hS)]⟩
  by_cases hw : 0 ≤ w ∧ w ≤ 1
  case neg => exact ⟨-1, S, hS, CA_id fun u hu => by simp (disch := first | assumption | omega) only [↓reduceIte, Int.reduceEq, Int.reduceLT, bdI_s, bdV_s, bdR_s, bdL_s, fx_I, fx_R, fx_B, fx_L, w32_of, x_A_nearest, c_isCellT (hu.cu hS), r_isInF], MA_id fun u hu => by simp (disch := first | assumption | omega) only [↓reduceIte, Int.reduceEq, Int.reduceLT, bdI_s, bdV_s, bdR_s, bdL_s, fx_I, fx_R, fx_B, fx_L, w32_of, x_M_nearest, m_isCellT (hu.mu hS), m_inF]⟩
  have nin := s_nearR_in S.1 c (s_cells S.1).toNat
  have ne : s_near S.1 c = s_nearR S.1 c (s_cells S.1).toNat := rfl
  rw [← ne] at nin
  by_cases hz : s_near S.1 c = -4
  · refine ⟨-4, S, hS, CA_id fun u hu => ?_, MA_id fun u hu => ?_⟩
    · have q := c_nearestHole (hu.cu hS) hc.1 hc.2
      simp (disch := first | assumption | omega) only [↓reduceIte, Int.reduceEq, Int.reduceLT, bdI_s, bdV_s, bdR_s, bdL_s, fx_I, fx_R, fx_B, fx_L, w32_of, x_A_nearest, c_isCellT (hu.cu hS), r_isInT, q, hz]
    · have q := m_nearestHole (hu.mu hS) hc.1 (show c < 49 by omega)
      by_cases hw0 : w = 0
      · simp (disch := first | assumption | omega) only [↓reduceIte, Int.reduceEq, Int.reduceLT, bdI_s, bdV_s, bdR_s, bdL_s, fx_I, fx_R, fx_B, fx_L, w32_of, x_M_nearest, m_isCellT (hu.mu hS), m_inT, q, hz, hw0]
      · simp (disch := first | assumption | omega) only [↓reduceIte, Int.reduceEq, Int.reduceLT, bdI_s, bdV_s, bdR_s, bdL_s, fx_I, fx_R, fx_B, fx_L, w32_of, x_M_nearest, m_isCellT (hu.mu hS), m_inT, q, hz, hw0]
  have hin : 0 ≤ s_near S.1 c ∧ s_near S.1 c < 49 := by omega
  by_cases hw0 : w = 0
  · refine ⟨s_near S.1 c, S, hS, CA_id fun u hu => ?_, MA_id fun u hu => ?_⟩
    · have q := c_nearestHole (hu.cu hS) hc.1 hc.2
      simp (disch := first | assumption | omega) only [↓reduceIte, Int.reduceEq, Int.reduceLT, bdI_s, bdV_s, bdR_s, bdL_s, fx_I, fx_R, fx_B, fx_L, w32_of, x_A_nearest, c_isCellT (hu.cu hS), r_isInT, q, hz, hw0]
    · have q := m_nearestHole (hu.mu hS) hc.1 (show c < 49 by omega)
      simp (disch := first | assumption | omega) only [↓reduceIte, Int.reduceEq, Int.reduceLT, bdI_s, bdV_s, bdR_s, bdL_s, fx_I, fx_R, fx_B, fx_L, w32_of, x_M_nearest, m_isCellT (hu.mu hS), m_inT, q, hz, hw0]
  · refine ⟨s_far S.1 c (s_near S.1 c), S, hS, CA_id fun u hu => ?_, MA_id fun u hu => ?_⟩
    · have q := c_nearestHole (hu.cu hS) hc.1 hc.2
      have f := c_far (hu.cu hS) hc.1 (show c < 49 by omega) hin.1 hin.2
      simp (disch := first | assumption | omega) only [↓reduceIte, Int.reduceEq, Int.reduceLT, bdI_s, bdV_s, bdR_s, bdL_s, fx_I, fx_R, fx_B, fx_L, w32_of, x_A_nearest, c_isCellT (hu.cu hS), r_isInT, q, hz, hw0, f]
    · have q := m_nearestHole (hu.mu hS) hc.1 (show c < 49 by omega)
      have f := m_far (hu.mu hS) hc.1 (show c < 49 by omega) hin.1 hin.2
      simp (disch := first | assumption | omega) only [↓reduceIte, Int.reduceEq, Int.reduceLT, bdI_s, bdV_s, bdR_s, bdL_s, fx_I, fx_R, fx_B, fx_L, w32_of, x_M_nearest, m_isCellT (hu.mu hS), m_inT, q, hz, hw0, f]
theorem k_bound {S : am_S} (hE : SE E) (hS : OKS S) (p : Int) : BOTH E S (fun u => Rn m_A_bound 0 [vR (some 0), vI p, vB false, vB false] [] E u) (fun u => Rn m_M_bound 0 [vR (some 149), vI p, vB false, vB false] [] E u) := by
  have cu1 := cuB_1
  have hV := hS.1.1
  have h2 := hV.2.2.1
  by_cases hp : 0 ≤ p ∧ p < S.1 2
  case neg => exact ⟨-1, S, hS, CA_id fun u hu => by simp (disch := first | assumption | omega) only [↓reduceIte, Int.reduceEq, Int.reduceLT, bdI_s, bdV_s, bdR_s, bdL_s, fx_I, fx_R, fx_B, fx_L, w32_of, x_A_bound, c_isPinF (hu.cu hS)], MA_id fun u hu => by simp (disch := first | assumption | omega) only [↓reduceIte, Int.reduceEq, Int.reduceLT, bdI_s, bdV_s, bdR_s, bdL_s, fx_I, fx_R, fx_B, fx_L, w32_of, x_M_bound, m_isPinF (hu.mu hS)]⟩
  obtain ⟨P, hP⟩ : ∃ P : Nat, p = (P : Int) := ⟨p.toNat, by omega⟩
  subst hP
  have p7 : P < 7 := by omega
  have sh := i_shl1 P (by omega)
  have lt := s_it_lt (n := S.1) hV (pow_lt128 p7)
  refine ⟨(s_it S.1 (2 ^ P) 6 : Nat), S, hS, CA_id fun u hu => ?_, MA_id fun u hu => ?_⟩
  · let f : Nat → am_Z := fun i => Rn m_A_bound 19 [vR (some 0), vI (P : Int), vI (s_it S.1 (2 ^ P) i : Nat), vI (1 + (i : Int))] [] E u
    have start : Rn m_A_bound 0 [vR (some 0), vI (P : Int), vB false, vB false] [] E u = f 0 := by
      simp (disch := first | assumption | omega) only [↓reduceIte, Int.reduceEq, Int.reduceLT, bdI_s, bdV_s, bdR_s, bdL_s, fx_I, fx_R, fx_B, fx_L, w32_of, x_A_bound, c_isPinT (hu.cu hS), sh]
      rfl
    have step : ∀ i, i < 6 → f i = f (i + 1) := by
      intro i hi
      have st := c_spreads (hu.cu hS) (lt i)
      simp only [f]
      rw [h_A_bound_19]
      simp (disch := first | assumption | omega) only [↓reduceIte, Int.reduceEq, Int.reduceLT, bdI_s, bdV_s, bdR_s, bdL_s, fx_I, fx_R, fx_B, fx_L, w32_of, x_A_bound, show 1 + (i : Int) < 7 by omega, st]
      rw [show 1 + ((i + 1 : Nat) : Int) = 1 + (i : Int) + 1 by omega]
      rfl
    rw [start, q_loop f 6 step]
    simp only [f]
    rw [h_A_bound_19]
    simp (disch := first | assumption | omega) only [↓reduceIte, Int.reduceEq, Int.reduceLT, bdI_s, bdV_s, bdR_s, bdL_s, fx_I, fx_R, fx_B, fx_L, w32_of, x_A_bound, show ¬ 1 + ((6 : Nat) : Int) < 7 by omega]
  · rw [← s_it_7 hV p7]
    let f : Nat → am_Z := fun i => Rn m_M_bound 16 [vR (some 149), vI (P : Int), vI (s_it S.1 (2 ^ P) i : Nat), vI (i : Int)] [] E u
    have start : Rn m_M_bound 0 [vR (some 149), vI (P : Int), vB false, vB false] [] E u = f 0 := by
      simp (disch := first | assumption | omega) only [↓reduceIte, Int.reduceEq, Int.reduceLT, bdI_s, bdV_s, bdR_s, bdL_s, fx_I, fx_R, fx_B, fx_L, w32_of, x_M_bound, m_isPinT (hu.mu hS), sh]
      rfl
    have step : ∀ i, i < 7 → f i = f (i + 1) := by
      intro i hi
      have st := m_andNext (hu.mu hS) (lt i)
      simp only [f]
      rw [h_M_bound_16]
      simp (disch := first | assumption | omega) only [↓reduceIte, Int.reduceEq, Int.reduceLT, bdI_s, bdV_s, bdR_s, bdL_s, fx_I, fx_R, fx_B, fx_L, w32_of, x_M_bound, show (i : Int) < 7 by omega, st]
      rfl
    rw [start, q_loop f 7 step]
    simp only [f]
    rw [h_M_bound_16]
    simp (disch := first | assumption | omega) only [↓reduceIte, Int.reduceEq, Int.reduceLT, bdI_s, bdV_s, bdR_s, bdL_s, fx_I, fx_R, fx_B, fx_L, w32_of, x_M_bound, show ¬ ((7 : Nat) : Int) < 7 by omega]
theorem k_between {S : am_S} (hE : SE E) (hS : OKS S) (p q : Int) : BOTH E S (fun u => Rn m_A_between 0 [vR (some 0), vI p, vI q, vB false, vB false] [] E u) (fun u => Rn m_M_between 0 [vR (some 149), vI p, vI q, vB false, vB false] [] E u) := by
  have cu1 := cuB_1
  have hV := hS.1.1
  have h2 := hV.2.2.1
  by_cases hp : 0 ≤ p ∧ p < S.1 2
  case neg => exact ⟨-1, S, hS, CA_id fun u hu => by simp (disch := first | assumption | omega) only [↓reduceIte, Int.reduceEq, Int.reduceLT, bdI_s, bdV_s, bdR_s, bdL_s, fx_I, fx_R, fx_B, fx_L, w32_of, x_A_between, r_areTwoPinsF hE (hu.cu hS)], MA_id fun u hu => by simp (disch := first | assumption | omega) only [↓reduceIte, Int.reduceEq, Int.reduceLT, bdI_s, bdV_s, bdR_s, bdL_s, fx_I, fx_R, fx_B, fx_L, w32_of, x_M_between, m_isPinF (hu.mu hS)]⟩
  by_cases hq : 0 ≤ q ∧ q < S.1 2
  case neg => exact ⟨-1, S, hS, CA_id fun u hu => by simp (disch := first | assumption | omega) only [↓reduceIte, Int.reduceEq, Int.reduceLT, bdI_s, bdV_s, bdR_s, bdL_s, fx_I, fx_R, fx_B, fx_L, w32_of, x_A_between, r_areTwoPinsF hE (hu.cu hS)], MA_id fun u hu => by simp (disch := first | assumption | omega) only [↓reduceIte, Int.reduceEq, Int.reduceLT, bdI_s, bdV_s, bdR_s, bdL_s, fx_I, fx_R, fx_B, fx_L, w32_of, x_M_between, m_isPinT (hu.mu hS), m_isPinF (hu.mu hS)]⟩
  by_cases hpq : p = q
  · exact ⟨-1, S, hS, CA_id fun u hu => by simp (disch := first | assumption | omega) only [↓reduceIte, Int.reduceEq, Int.reduceLT, bdI_s, bdV_s, bdR_s, bdL_s, fx_I, fx_R, fx_B, fx_L, w32_of, x_A_between, r_areTwoPinsF hE (hu.cu hS)], MA_id fun u hu => by simp (disch := first | assumption | omega) only [↓reduceIte, Int.reduceEq, Int.reduceLT, bdI_s, bdV_s, bdR_s, bdL_s, fx_I, fx_R, fx_B, fx_L, w32_of, x_M_between, m_isPinT (hu.mu hS), hpq]⟩
  obtain ⟨P, hP⟩ : ∃ P : Nat, p = (P : Int) := ⟨p.toNat, by omega⟩
  subst hP
  obtain ⟨Q, hQ⟩ : ∃ Q : Nat, q = (Q : Int) := ⟨q.toNat, by omega⟩
  subst hQ
  have p7 : P < 7 := by omega
  have sh := i_shl1 P (by omega)
  have lt := s_it_lt (n := S.1) hV (pow_lt128 p7)
  have r0 : (s_it S.1 (2 ^ P) 0).testBit Q = false := by
    show (2 ^ P).testBit Q = false
    rw [Nat.testBit_two_pow]
    exact decide_eq_false (by omega)
  let g : Nat → Bool := fun i => (s_it S.1 (2 ^ P) i).testBit Q
  have fw := s_fst_wh g 7 0 0
  have f1 : s_fst g 0 7 = s_fst g 1 6 := by
    simp only [s_fst, g, r0]
    rfl
  refine ⟨s_fst g 1 6, S, hS, CA_id fun u hu => ?_, MA_id fun u hu => ?_⟩
  · have loop : ∀ (d i : Nat), i + d = 6 → Rn m_A_between 18 [vR (some 0), vI (P : Int), vI (Q : Int), vI (s_it S.1 (2 ^ P) i : Nat), vI (1 + (i : Int))] [] E u = some (some (vI (s_fst g (1 + i) d)), E, u) := by
      intro d
      induction d with
      | zero =>
        intro i hi
        rw [h_A_between_18]
        simp (disch := first | assumption | omega) only [↓reduceIte, Int.reduceEq, Int.reduceLT, bdI_s, bdV_s, bdR_s, bdL_s, fx_I, fx_R, fx_B, fx_L, w32_of, x_A_between, show ¬ 1 + (i : Int) < 7 by omega, s_fst]
      | succ d ih =>
        intro i hi
        have st := c_spreads (hu.cu hS) (lt i)
        have l1 := lt (i + 1)
        have hh := r_has (E := E) (u := u) (a := s_it S.1 (2 ^ P) (i + 1)) (t := Q) (by omega) (by omega)
        have e1 : s_next S.1 (s_it S.1 (2 ^ P) i) = s_it S.1 (2 ^ P) (i + 1) := rfl
        rw [e1] at st
        rw [h_A_between_18]
        simp only [s_fst]
        cases e : g (1 + i) with
        | true =>
          have e' : (s_it S.1 (2 ^ P) (i + 1)).testBit Q = true := by rw [show i + 1 = 1 + i by omega]; exact e
          rw [e', bI_t] at hh
          rw [if_pos rfl]
          simp (disch := first | assumption | omega) only [↓reduceIte, Int.reduceEq, Int.reduceLT, bdI_s, bdV_s, bdR_s, bdL_s, fx_I, fx_R, fx_B, fx_L, w32_of, x_A_between, show 1 + (i : Int) < 7 by omega, st, hh]
          rw [show ((1 + i : Nat) : Int) = 1 + (i : Int) by omega]
        | false =>
          have e' : (s_it S.1 (2 ^ P) (i + 1)).testBit Q = false := by rw [show i + 1 = 1 + i by omega]; exact e
          rw [e', bI_f] at hh
          rw [if_neg (by decide), show 1 + i + 1 = 1 + (i + 1) by omega, ← ih (i + 1) (by omega)]
          simp (disch := first | assumption | omega) only [↓reduceIte, Int.reduceEq, Int.reduceLT, bdI_s, bdV_s, bdR_s, bdL_s, fx_I, fx_R, fx_B, fx_L, w32_of, x_A_between, show 1 + (i : Int) < 7 by omega, st, hh]
          rw [show 1 + ((i + 1 : Nat) : Int) = 1 + (i : Int) + 1 by omega]
    have := loop 6 0 (by omega)
    rw [← this]
    simp (disch := first | assumption | omega) only [↓reduceIte, Int.reduceEq, Int.reduceLT, bdI_s, bdV_s, bdR_s, bdL_s, fx_I, fx_R, fx_B, fx_L, w32_of, x_A_between, r_areTwoPinsT hE (hu.cu hS), sh]
    rfl
  · have loop : ∀ (d i : Nat), i + d = 7 → Rn m_M_between 30 [vR (some 149), vI (P : Int), vI (Q : Int), vI (s_it S.1 (2 ^ P) i : Nat), vI (i : Int)] [] E u = some (some (vI (if s_wh g i d < 7 then s_wh g i d else -4)), E, u) := by
      intro d
      induction d with
      | zero =>
        intro i hi
        rw [h_M_between_30]
        simp (disch := first | assumption | omega) only [↓reduceIte, Int.reduceEq, Int.reduceLT, bdI_s, bdV_s, bdR_s, bdL_s, fx_I, fx_R, fx_B, fx_L, w32_of, x_M_between, show ¬ (i : Int) < 7 by omega, s_wh]
      | succ d ih =>
        intro i hi
        have st := m_andNext (hu.mu hS) (lt i)
        have l1 := lt i
        have hb := i_bit (a := s_it S.1 (2 ^ P) i) (t := Q) (by omega) (by omega)
        have e1 : s_next S.1 (s_it S.1 (2 ^ P) i) = s_it S.1 (2 ^ P) (i + 1) := rfl
        rw [e1] at st
        rw [h_M_between_30]
        rw [s_wh_s]
        cases e : g i with
        | true =>
          have e' : (s_it S.1 (2 ^ P) i).testBit Q = true := e
          rw [e', bI_t] at hb
          rw [if_pos rfl, if_pos (show (i : Int) < 7 by omega)]
          simp (disch := first | assumption | omega) only [↓reduceIte, Int.reduceEq, Int.reduceLT, bdI_s, bdV_s, bdR_s, bdL_s, fx_I, fx_R, fx_B, fx_L, w32_of, x_M_between, show (i : Int) < 7 by omega, hb]
        | false =>
          have e' : (s_it S.1 (2 ^ P) i).testBit Q = false := e
          rw [e', bI_f] at hb
          rw [if_neg (show ¬ (false = true) by decide), ← ih (i + 1) (by omega)]
          simp (disch := first | assumption | omega) only [↓reduceIte, Int.reduceEq, Int.reduceLT, bdI_s, bdV_s, bdR_s, bdL_s, fx_I, fx_R, fx_B, fx_L, w32_of, x_M_between, show (i : Int) < 7 by omega, hb, st]
          rfl
    have lo := loop 7 0 (by omega)
    have fw' : s_fst g 1 6 = if s_wh g 0 7 < 7 then s_wh g 0 7 else -4 := by rw [← f1]; exact fw
    rw [fw', ← lo]
    simp (disch := first | assumption | omega) only [↓reduceIte, Int.reduceEq, Int.reduceLT, bdI_s, bdV_s, bdR_s, bdL_s, fx_I, fx_R, fx_B, fx_L, w32_of, x_M_between, m_isPinT (hu.mu hS), hpq, sh]
    rfl
theorem m_whichT (h : MU E u n) {w : Int} (w0 : w = 0 ∨ w = 1) : Rn m_M_which 0 [vR (some 149), vI w, vB false, vB false, vB false, vB false, vB false] [] E u = some (some (vI (if w = 0 then s_alone n else s_taut n)), E, u) := by
  have h' := h
  obtain ⟨hE, hn, hV⟩ := h
  obtain ⟨l0, -⟩ := al_m hE
  have h2 := hV.2.2.1
  have h3 := hV.2.2.2.1
  have e2 : (2 : Int).toNat = 2 := rfl
  have e3 : (3 : Int).toNat = 3 := rfl
  have win : 0 ≤ w ∧ w ≤ 1 := by omega
  obtain ⟨m, hm⟩ : ∃ m : Nat, n 3 = (m : Int) := ⟨(n 3).toNat, by omega⟩
  obtain ⟨x, hx⟩ : ∃ x : Nat, n 2 = (x : Int) := ⟨(n 2).toNat, by omega⟩
  let J : Nat → Nat := fun t => bits (fun p => s_out n p || s_jn n t p) x
  have hJ : ∀ t, J t < 128 := fun t => Nat.lt_of_lt_of_le (bits_lt _ x) (pow_le128 (by omega))
  have loop : ∀ t : Nat, t ≤ m → ∃ (y z : am_V), Rn m_M_which 0 [vR (some 149), vI w, vB false, vB false, vB false, vB false, vB false] [] E u = Rn m_M_which 22 [vR (some 149), vI w, vI (bits (s_tt n) t : Nat), vI (J t : Nat), vI (t : Int), y, z] [] E u := by
    intro t
    induction t with
    | zero =>
      intro _
      have ho := m_outs h'
      have e0 : s_outs n = (J 0 : Nat) := by
        unfold s_outs
        rw [hx, Int.toNat_natCast]
        congr 1
        exact bits_congr fun i hi => by simp only [s_jn, Bool.or_false]
      rw [e0] at ho
      refine ⟨vB false, vB false, ?_⟩
      simp (disch := first | assumption | omega) only [↓reduceIte, Int.reduceEq, Int.reduceLT, bdI_s, bdV_s, bdR_s, bdL_s, fx_I, fx_R, fx_B, fx_L, w32_of, x_M_which, m_inT, ho]
      rfl
    | succ t ih =>
      intro ht
      obtain ⟨y, z, e1⟩ := ih (by omega)
      obtain ⟨a, b, ea, eb, a2, b2, a7, b7, -⟩ := Vn_ab hV (t := t) (by omega)
      have pa := m_A (u := u) hE hn (t := (t : Int)) (by omega) (by omega)
      have pb := m_B (u := u) hE hn (t := (t : Int)) (by omega) (by omega)
      have pl := m_Ln (u := u) hE hn (t := (t : Int)) (by omega) (by omega)
      rw [ea] at pa
      rw [eb] at pb
      have ho := m_holds h' (t := (t : Int)) (by omega) (by omega)
      have he := s_holds_eq hV (t := (t : Int)) (by omega) (by omega)
      rw [ea, eb] at he
      have q1 := pow_lt128 a7
      have q2 := pow_lt128 b7
      have q3 := i_or_lt q1 q2
      have qJ := hJ t
      have hi : i_or ((2 ^ a : Nat) : Int) ((2 ^ b : Nat) : Int) = ((2 ^ a ||| 2 ^ b : Nat) : Int) := i_or_n (by omega) (by omega)
      refine ⟨vI (a : Int), vI (b : Int), ?_⟩
      rw [e1, h_M_which_22]
      cases hh : s_holds n (t : Int) with
      | false =>
        rw [hh, bI_f] at ho
        have eJ : J (t + 1) = J t := by simp only [J, s_jn, hh, Bool.false_and, Bool.or_false]
        rw [eJ, bits_no (show s_tt n t = false by unfold s_tt; rw [hh]; rfl)]
        simp (disch := first | assumption | omega) only [↓reduceIte, Int.reduceEq, Int.reduceLT, bdI_s, bdV_s, bdR_s, bdL_s, fx_I, fx_R, fx_B, fx_L, w32_of, x_M_which, hn, e3, hm, show (t : Int) < (m : Int) by omega, pa, pb, ho]
        rfl
      | true =>
        rw [hh, bI_t] at ho
        rw [hh] at he
        have na : s_C n (a : Int) ≠ -4 := by intro z; rw [z] at he; simp at he
        have nb : s_C n (b : Int) ≠ -4 := by intro z; rw [z] at he; simp at he
        have ra := Vn_pin hV (p := (a : Int)) (by omega) a2
        have rb := Vn_pin hV (p := (b : Int)) (by omega) b2
        have ca := m_cellOf (u := u) hE hn (p := (a : Int)) (by omega) (by omega)
        have cb := m_cellOf (u := u) hE hn (p := (b : Int)) (by omega) (by omega)
        have hf := m_far h' (a := s_C n (a : Int)) (b := s_C n (b : Int)) (by omega) (by omega) (by omega) (by omega)
        have eJ : i_or (J t : Nat) ((2 ^ a ||| 2 ^ b : Nat) : Int) = (J (t + 1) : Nat) := by
          rw [i_or_n (by omega) (by omega)]
          congr 1
          refine bits_ext fun i => ?_
          rw [Nat.testBit_or, bits_tb, both_tb]
          simp only [s_jn, hh, Bool.true_and, ea, eb]
          have d1 : decide ((a : Int) = (i : Int)) = decide (a = i) := decide_eq_decide.mpr (by omega)
          have d2 : decide ((b : Int) = (i : Int)) = decide (b = i) := decide_eq_decide.mpr (by omega)
          rw [d1, d2]
          by_cases iw : i < x
          · rw [decide_eq_true iw]
            cases s_out n i <;> cases s_jn n t i <;> cases decide (a = i) <;> cases decide (b = i) <;> rfl
          · rw [decide_eq_false iw, decide_eq_false (show ¬ a = i by omega), decide_eq_false (show ¬ b = i by omega)]
            rfl
        by_cases ef : s_far n (s_C n (a : Int)) (s_C n (b : Int)) = s_L n (t : Int)
        · rw [← bits_yes (show t < 31 by omega) (show s_tt n t = true by unfold s_tt; rw [hh, ea, eb, decide_eq_true ef]; rfl)]
          simp (disch := first | assumption | omega) only [↓reduceIte, Int.reduceEq, Int.reduceLT, bdI_s, bdV_s, bdR_s, bdL_s, fx_I, fx_R, fx_B, fx_L, w32_of, x_M_which, hn, e3, hm, show (t : Int) < (m : Int) by omega, pa, pb, ho, i_shl1, hi, eJ, ca, cb, hf, pl, ef]
          rfl
        · rw [bits_no (show s_tt n t = false by unfold s_tt; rw [hh, ea, eb, decide_eq_false ef]; rfl)]
          simp (disch := first | assumption | omega) only [↓reduceIte, Int.reduceEq, Int.reduceLT, bdI_s, bdV_s, bdR_s, bdL_s, fx_I, fx_R, fx_B, fx_L, w32_of, x_M_which, hn, e3, hm, show (t : Int) < (m : Int) by omega, pa, pb, ho, i_shl1, hi, eJ, ca, cb, hf, pl, ef, bits_or0]
          rfl
  obtain ⟨y, z, e1⟩ := loop m (Nat.le_refl m)
  rw [e1, h_M_which_22]
  rcases w0 with rfl | rfl
  · rw [if_pos rfl]
    have qJ := hJ m
    have hp : 2 ^ x < 2 ^ 31 := Nat.pow_lt_pow_right (by decide) (by omega)
    have ef : i_and ((2 ^ x - 1 : Nat) : Int) (i_xor (J m : Nat) (-1)) = s_alone n := by
      unfold s_alone
      rw [hm, hx, Int.toNat_natCast, Int.toNat_natCast, i_andn (by omega) (by omega)]
      congr 1
      refine bits_ext fun i => ?_
      rw [Nat.testBit_xor, Nat.testBit_and, bits_tb, Nat.testBit_two_pow_sub_one]
      cases (s_out n i || s_jn n m i) <;> cases decide (i < x) <;> rfl
    simp (disch := first | assumption | omega) only [↓reduceIte, Int.reduceEq, Int.reduceLT, bdI_s, bdV_s, bdR_s, bdL_s, fx_I, fx_R, fx_B, fx_L, w32_of, x_M_which, hn, e3, e2, hm, hx, show ¬ (m : Int) < (m : Int) by omega, i_shl1, w32_pow, ef]
  · rw [if_neg (by decide)]
    simp (disch := first | assumption | omega) only [↓reduceIte, Int.reduceEq, Int.reduceLT, bdI_s, bdV_s, bdR_s, bdL_s, fx_I, fx_R, fx_B, fx_L, w32_of, x_M_which, hn, e3, hm, show ¬ (m : Int) < (m : Int) by omega]
    unfold s_taut
    rw [hm, Int.toNat_natCast]
theorem k_which {S : am_S} (hE : SE E) (hS : OKS S) (w : Int) : BOTH E S (fun u => Rn m_A_which 0 [vR (some 0), vI w] [] E u) (fun u => Rn m_M_which 0 [vR (some 149), vI w, vB false, vB false, vB false, vB false, vB false] [] E u) := by
  have cu1 := cuB_1
  by_cases hw : w = 0 ∨ w = 1
  · refine ⟨if w = 0 then s_alone S.1 else s_taut S.1, S, hS, CA_id fun u hu => ?_, MA_id fun u hu => m_whichT (hu.mu hS) hw⟩
    rcases hw with rfl | rfl
    · rw [if_pos rfl]
      simp (disch := first | assumption | omega) only [↓reduceIte, Int.reduceEq, Int.reduceLT, bdI_s, bdV_s, bdR_s, bdL_s, fx_I, fx_R, fx_B, fx_L, w32_of, x_A_which, c_aloneSet (hu.cu hS)]
    · rw [if_neg (by decide)]
      simp (disch := first | assumption | omega) only [↓reduceIte, Int.reduceEq, Int.reduceLT, bdI_s, bdV_s, bdR_s, bdL_s, fx_I, fx_R, fx_B, fx_L, w32_of, x_A_which, c_tautSet (hu.cu hS)]
  · exact ⟨-1, S, hS, CA_id fun u hu => by simp (disch := first | assumption | omega) only [↓reduceIte, Int.reduceEq, Int.reduceLT, bdI_s, bdV_s, bdR_s, bdL_s, fx_I, fx_R, fx_B, fx_L, w32_of, x_A_which, show ¬ w = 0 by omega, show ¬ w = 1 by omega], MA_id fun u hu => by simp (disch := first | assumption | omega) only [↓reduceIte, Int.reduceEq, Int.reduceLT, bdI_s, bdV_s, bdR_s, bdL_s, fx_I, fx_R, fx_B, fx_L, w32_of, x_M_which, m_inF]⟩

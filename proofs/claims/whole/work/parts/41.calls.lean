/-! Calls: cells, pins, threads. -/
variable {E : am_E} {u : am_M} {k : Nat} {n : am_Row}
theorem s_same.rf : s_same n n := fun _ _ => rfl
theorem s_same.tr {a b c : am_Row} (h : s_same a b) (h' : s_same b c) : s_same a c := fun x hx => (h x hx).trans (h' x hx)
theorem s_same.sy {a b : am_Row} (h : s_same a b) : s_same b a := fun x hx => (h x hx).symm
theorem WH_nil (n : am_Row) : WH n [] := fun i r hr => by simp at hr
theorem WH_push {n' : am_Row} {H : List am_Row} (hn : Wn n) (hH : WH n H) (hs : s_same n' n) : WH n' (s_push H n) := by
  intro i r hr
  unfold s_push at hr
  have key : ∀ (j : Nat) (q : am_Row), (if H.length = 8 then H.tail else H)[j]? = some q → Wn q ∧ s_same n' q := by
    intro j q hq
    by_cases h8 : H.length = 8
    · rw [if_pos h8, List.getElem?_tail] at hq
      obtain ⟨a, b⟩ := hH _ _ hq
      exact ⟨a, hs.tr b⟩
    · rw [if_neg h8] at hq
      obtain ⟨a, b⟩ := hH _ _ hq
      exact ⟨a, hs.tr b⟩
  generalize (if H.length = 8 then H.tail else H) = L at hr key
  by_cases hi : i < L.length
  · rw [List.getElem?_append_left hi] at hr
    exact key i r hr
  · rw [List.getElem?_append_right (by omega)] at hr
    cases hd : i - L.length with
    | zero =>
      rw [hd] at hr
      cases hr
      exact ⟨hn, hs⟩
    | succ m =>
      rw [hd] at hr
      simp at hr
theorem push_len {H : List am_Row} (h : H.length ≤ 8) : (s_push H n).length ≤ 8 := by
  unfold s_push
  by_cases h8 : H.length = 8
  · rw [if_pos h8]; simp [h8]
  · rw [if_neg h8]; simp; omega
theorem OKS_now {S : am_S} {n' : am_Row} {H' : List am_Row} (hS : OKS S) (hn : Wn n') (hH : WH n' H') (hl : H'.length ≤ 8) : OKS (n', H', S.2.2) := ⟨hn, ⟨hH, hl⟩, hS.2.2⟩
theorem CS_now {u' : am_M} {S : am_S} {n' : am_Row} {H' : List am_Row} (h : CS E u S) (h0 : u' 0 = u 0) (hh : ∀ i, 73 ≤ i → i < 149 → u' i = u i) (hR : RC u' 1 n') (hH : HR u' 15 H') : CS E u' (n', H', S.2.2) := by
  obtain ⟨a, b, c, d, e, f⟩ := h
  exact ⟨a, hR, hH, CSi_congr (by rw [h0]) (fun i i0 i1 => hh i i0 (by omega)) d, CSt_congr (by rw [hh 138 (by omega) (by omega)]) (hh 139 (by omega) (by omega)) e, CSs_congr (fun i i0 i1 => hh i (by omega) i1) f⟩
theorem MS_now {u' : am_M} {S : am_S} {n' : am_Row} {H' : List am_Row} (h : MS E u S) (hh : ∀ i, 151 ≤ i → i ≠ 154 → i ≠ 155 → u' i = u i) (h9 : ∀ j, j ≠ 8 → u' 149 j = u 149 j) (hn : u' 150 = n') (hH : HM u' H') : MS E u' (n', H', S.2.2) := by
  obtain ⟨a, b, c, d, e, f⟩ := h
  exact ⟨a, hn, hH, MSi_congr (h9 12 (by omega)) (h9 11 (by omega)) (hh 156 (by omega) (by omega) (by omega)) d, MSt_congr (h9 2 (by omega)) (hh 151 (by omega) (by omega) (by omega)) e, MSs_congr (hh 157 (by omega) (by omega) (by omega)) (hh 158 (by omega) (by omega) (by omega)) (hh 159 (by omega) (by omega) (by omega)) f⟩
theorem HM_nil : HM (am_up u 149 8 0) [] := ⟨by rw [up_eq]; rfl, by show 0 ≤ 8; omega, fun i r hr => by simp at hr⟩
/-- the row becomes another and what may be undone is forgotten -/
theorem MS_forget {S : am_S} (h : MS E u S) (n' : am_Row) : MS E (am_up (sN u n') 149 8 0) (n', [], S.2.2) := MS_now h (fun i i0 _ _ => by rw [up_fn (by omega), sN_ne _ _ (by omega)]) (fun j hj => by rw [up_nj hj, sN_ne _ _ (by omega)]) (by rw [up_fn (by omega), sN_150]) HM_nil
theorem CS_forget {S : am_S} {u1 : am_M} {n' : am_Row} (h : CS E u S) (hR : RC u1 1 n') (f : FR 1 u u1) : CS E (am_up u1 15 2 0) (n', [], S.2.2) := by
  have h15 : HR u1 15 S.2.1 := HR_congr (fun z z0 z1 => f z (by omega)) h.2.2.1
  exact CS_now h (by rw [up_fn (by omega), f 0 (by omega)]) (fun i i0 i1 => by rw [up_fn (by omega), f i (by omega)]) (RC_congr (fun z z0 z1 => up_fn (by omega)) hR) (HR_nil h15)
theorem LO_forget {u1 : am_M} (f : FR 1 u u1) : LO u (am_up u1 15 2 0) := (LO_FR f (by omega)).tr (LO_up (by omega))
theorem Wn_fresh (h : Wn n) {r c : Int} (h4 : 3 ≤ r ∧ r ≤ 7) (h5 : 3 ≤ c ∧ c ≤ 7) : Wn (s_fresh n r c) := by
  refine ⟨Vn_fresh h4 h5, ?_, ?_, Zn_fresh h.2.2.2 r c⟩
  · show (0 : Int) ≤ 9999; omega
  · have e : s_fresh n r c 5 = n 5 := rfl
    rw [e]; exact h.2.2.1
theorem k_cushion {S : am_S} (hE : SE E) (hS : OKS S) (r c : Int) : BOTH E S (fun u => Rn m_A_cushion 0 [vR (some 0), vI r, vI c] [] E u) (fun u => Rn m_M_cushion 0 [vR (some 149), vI r, vI c] [] E u) := by
  have cu1 := cuB_1
  have p15 := paB_15
  by_cases h1 : 3 ≤ r ∧ r ≤ 7
  · by_cases h2 : 3 ≤ c ∧ c ≤ 7
    · have hW := Wn_fresh hS.1 h1 h2
      refine ⟨s_cells (s_fresh S.1 r c), (s_fresh S.1 r c, [], S.2.2), OKS_now hS hW (WH_nil _) (by show 0 ≤ 8; omega), fun u hu => ?_, fun u hu => ?_⟩
      · obtain ⟨u1, e1, f1, g1, g2⟩ := c_empties (u := u) hE cuB_1 r c
        have hR := g2 S.1 hu.2.1.2.2.2.2.2.1.symm
        have hc : CU E (am_up u1 15 2 0) 1 (s_fresh S.1 r c) := ⟨hE, cuB_1, RC_congr (fun z z0 z1 => up_fn (by omega)) hR, hW.1⟩
        refine ⟨am_up u1 15 2 0, ?_, CS_forget hu hR f1, LO_forget f1⟩
        simp (disch := first | assumption | omega) only [↓reduceIte, Int.reduceEq, Int.reduceLT, bdI_s, bdV_s, bdR_s, bdL_s, fx_I, fx_R, fx_B, fx_L, w32_of, x_A_cushion, r_isInT, e1, p_forgets hE paB_15, c_cellCount hc]
      · have hm : MU E (am_up (sN u (s_fresh S.1 r c)) 149 8 0) (s_fresh S.1 r c) := ⟨hE, by rw [up_fn (by omega), sN_150], hW.1⟩
        refine ⟨_, ?_, MS_forget hu _, (HI_sN).tr (HI_up (by omega))⟩
        simp (disch := first | assumption | omega) only [↓reduceIte, Int.reduceEq, Int.reduceLT, bdI_s, bdV_s, bdR_s, bdL_s, fx_I, fx_R, fx_B, fx_L, w32_of, x_M_cushion, m_inT, m_fresh hE hu.2.1, m_cells hm]
    · exact ⟨-1, S, hS, CA_id fun u hu => by simp (disch := first | assumption | omega) only [↓reduceIte, Int.reduceEq, Int.reduceLT, bdI_s, bdV_s, bdR_s, bdL_s, fx_I, fx_R, fx_B, fx_L, w32_of, x_A_cushion, r_isInT, r_isInF], MA_id fun u hu => by simp (disch := first | assumption | omega) only [↓reduceIte, Int.reduceEq, Int.reduceLT, bdI_s, bdV_s, bdR_s, bdL_s, fx_I, fx_R, fx_B, fx_L, w32_of, x_M_cushion, m_inT, m_inF]⟩
  · exact ⟨-1, S, hS, CA_id fun u hu => by simp (disch := first | assumption | omega) only [↓reduceIte, Int.reduceEq, Int.reduceLT, bdI_s, bdV_s, bdR_s, bdL_s, fx_I, fx_R, fx_B, fx_L, w32_of, x_A_cushion, r_isInF], MA_id fun u hu => by simp (disch := first | assumption | omega) only [↓reduceIte, Int.reduceEq, Int.reduceLT, bdI_s, bdV_s, bdR_s, bdL_s, fx_I, fx_R, fx_B, fx_L, w32_of, x_M_cushion, m_inF]⟩
theorem Wn_addPin (h : Wn n) (h7 : n 2 < 7) {K c v : Int} (K0 : 0 ≤ K ∧ K ≤ 4) (c0 : 0 ≤ c) (c1 : c < s_cells n) (hh0 : s_H n c = 0) (hc : ∀ q : Int, 0 ≤ q → q < n 2 → s_C n q ≠ c) (v0 : 0 ≤ v ∧ v ≤ 3) : Wn (s_addPin n K c v) := by
  obtain ⟨hV, hd, hr, hz⟩ := h
  have h2 := hV.2.2.1
  refine ⟨Vn_addPin hV h7 K0 c0 c1 hh0 hc v0, ?_, ?_, Zn_addPin hz h2.1 h7 K c v⟩
  · rw [s_addPin_ne h2.1 (by omega) (by omega)]; exact hd
  · rw [s_addPin_ne h2.1 (by omega) (by omega)]; exact hr
theorem k_pin {S : am_S} (hE : SE E) (hS : OKS S) (K c : Int) : BOTH E S (fun u => Rn m_A_pin 0 [vR (some 0), vI K, vI c] [] E u) (fun u => Rn m_M_pin 0 [vR (some 149), vI K, vI c] [] E u) := by
  have cu1 := cuB_1
  have p15 := paB_15
  have hV := hS.1.1
  have h2 := hV.2.2.1
  have hcl := s_cells_of hV
  have e2 : (2 : Int).toNat = 2 := rfl
  by_cases h1 : 0 ≤ K ∧ K ≤ 4
  case neg => exact ⟨-1, S, hS, CA_id fun u hu => by simp (disch := first | assumption | omega) only [↓reduceIte, Int.reduceEq, Int.reduceLT, bdI_s, bdV_s, bdR_s, bdL_s, fx_I, fx_R, fx_B, fx_L, w32_of, x_A_pin, r_isInF], MA_id fun u hu => by simp (disch := first | assumption | omega) only [↓reduceIte, Int.reduceEq, Int.reduceLT, bdI_s, bdV_s, bdR_s, bdL_s, fx_I, fx_R, fx_B, fx_L, w32_of, x_M_pin, m_inF]⟩
  by_cases hc : 0 ≤ c ∧ c < s_cells S.1
  case neg => exact ⟨-1, S, hS, CA_id fun u hu => by simp (disch := first | assumption | omega) only [↓reduceIte, Int.reduceEq, Int.reduceLT, bdI_s, bdV_s, bdR_s, bdL_s, fx_I, fx_R, fx_B, fx_L, w32_of, x_A_pin, r_isInT, c_isCellF (hu.cu hS)], MA_id fun u hu => by simp (disch := first | assumption | omega) only [↓reduceIte, Int.reduceEq, Int.reduceLT, bdI_s, bdV_s, bdR_s, bdL_s, fx_I, fx_R, fx_B, fx_L, w32_of, x_M_pin, m_inT, m_isCellF (hu.mu hS)]⟩
  have hpo := s_pinOn_spec hV c
  by_cases hh : s_H S.1 c = 1
  · refine ⟨-2, S, hS, CA_id fun u hu => ?_, MA_id fun u hu => ?_⟩
    · have ht := c_thingOn (hu.cu hS) hc.1 hc.2
      rw [if_pos hh] at ht
      simp (disch := first | assumption | omega) only [↓reduceIte, Int.reduceEq, Int.reduceLT, bdI_s, bdV_s, bdR_s, bdL_s, fx_I, fx_R, fx_B, fx_L, w32_of, x_A_pin, r_isInT, c_isCellT (hu.cu hS), ht]
    · have hq := m_isHole hE hu.2.1 hc.1 (show c < 49 by omega)
      rw [decide_eq_true hh] at hq
      by_cases hp : s_pinOn S.1 c = -4
      · simp (disch := first | assumption | omega) only [↓reduceIte, Int.reduceEq, Int.reduceLT, bdI_s, bdV_s, bdR_s, bdL_s, fx_I, fx_R, fx_B, fx_L, w32_of, x_M_pin, m_inT, m_isCellT (hu.mu hS), m_pinOn (hu.mu hS), hp, hq, bI_0, Bool.true_eq_false]
      · simp (disch := first | assumption | omega) only [↓reduceIte, Int.reduceEq, Int.reduceLT, bdI_s, bdV_s, bdR_s, bdL_s, fx_I, fx_R, fx_B, fx_L, w32_of, x_M_pin, m_inT, m_isCellT (hu.mu hS), m_pinOn (hu.mu hS), hp]
  by_cases hp : s_pinOn S.1 c = -4
  case neg =>
    refine ⟨-2, S, hS, CA_id fun u hu => ?_, MA_id fun u hu => ?_⟩
    · have ht := c_thingOn (hu.cu hS) hc.1 hc.2
      rw [if_neg hh] at ht
      simp (disch := first | assumption | omega) only [↓reduceIte, Int.reduceEq, Int.reduceLT, bdI_s, bdV_s, bdR_s, bdL_s, fx_I, fx_R, fx_B, fx_L, w32_of, x_A_pin, r_isInT, c_isCellT (hu.cu hS), ht, hp]
    · simp (disch := first | assumption | omega) only [↓reduceIte, Int.reduceEq, Int.reduceLT, bdI_s, bdV_s, bdR_s, bdL_s, fx_I, fx_R, fx_B, fx_L, w32_of, x_M_pin, m_inT, m_isCellT (hu.mu hS), m_pinOn (hu.mu hS), hp]
  by_cases h7 : S.1 2 = 7
  · refine ⟨-3, S, hS, CA_id fun u hu => ?_, MA_id fun u hu => ?_⟩
    · have ht := c_thingOn (hu.cu hS) hc.1 hc.2
      rw [if_neg hh, hp] at ht
      have hu2 := hu.2.1.2.2.1
      simp (disch := first | assumption | omega) only [↓reduceIte, Int.reduceEq, Int.reduceLT, bdI_s, bdV_s, bdR_s, bdL_s, fx_I, fx_R, fx_B, fx_L, w32_of, x_A_pin, r_isInT, c_isCellT (hu.cu hS), ht, hu2, h7]
    · have hq := m_isHole hE hu.2.1 hc.1 (show c < 49 by omega)
      rw [decide_eq_false hh] at hq
      have al := (al_m hE).1
      have hn := hu.2.1
      simp (disch := first | assumption | omega) only [↓reduceIte, Int.reduceEq, Int.reduceLT, bdI_s, bdV_s, bdR_s, bdL_s, fx_I, fx_R, fx_B, fx_L, w32_of, x_M_pin, m_inT, m_isCellT (hu.mu hS), m_pinOn (hu.mu hS), hp, hq, bI_0, hn, e2, h7]
  have h00 : s_H S.1 c = 0 := by
    rcases hV.2.2.2.2.2.2.2.2.1 c hc.1 (by omega) with q | q
    · exact q
    · exact absurd q hh
  have hW := Wn_addPin (v := 3) hS.1 (show S.1 2 < 7 by omega) h1 hc.1 hc.2 h00 (s_pinOn_no hV hp) (by omega)
  refine ⟨S.1 2, (s_addPin S.1 K c 3, [], S.2.2), OKS_now hS hW (WH_nil _) (by show 0 ≤ 8; omega), fun u hu => ?_, fun u hu => ?_⟩
  · have ht := c_thingOn (hu.cu hS) hc.1 hc.2
    rw [if_neg hh, hp] at ht
    have hu2 := hu.2.1.2.2.1
    have hR : RC (am_up u 15 2 0) 1 S.1 := RC_congr (fun z z0 z1 => up_fn (by omega)) hu.2.1
    obtain ⟨u1, e1, r1, f1, -⟩ := c_addPin (u := am_up u 15 2 0) hE cuB_1 hR hV (by omega) K c 3
    have h15 : HR (am_up u 15 2 0) 15 [] := HR_nil hu.2.2.1
    refine ⟨u1, ?_, ?_, (LO_up (by omega)).tr (LO_FR f1 (by omega))⟩
    · simp (disch := first | assumption | omega) only [↓reduceIte, Int.reduceEq, Int.reduceLT, bdI_s, bdV_s, bdR_s, bdL_s, fx_I, fx_R, fx_B, fx_L, w32_of, x_A_pin, r_isInT, c_isCellT (hu.cu hS), ht, hu2, show S.1 2 < 7 by omega, p_forgets hE paB_15, e1]
    · exact CS_now hu (by rw [f1 0 (by omega), up_fn (by omega)]) (fun i i0 i1 => by rw [f1 i (by omega), up_fn (by omega)]) r1 (HR_congr (fun z z0 z1 => f1 z (by omega)) h15)
  · have hq := m_isHole hE hu.2.1 hc.1 (show c < 49 by omega)
    rw [decide_eq_false hh] at hq
    have al := (al_m hE).1
    have hn := hu.2.1
    have hn' : (am_up (sN u (s_addPin S.1 K c 3)) 149 8 0) 150 2 = S.1 2 + 1 := by rw [up_fn (by omega), sN_150, s_addPin_2]
    refine ⟨_, ?_, MS_forget hu _, (HI_sN).tr (HI_up (by omega))⟩
    simp (disch := first | assumption | omega) only [↓reduceIte, Int.reduceEq, Int.reduceLT, bdI_s, bdV_s, bdR_s, bdL_s, fx_I, fx_R, fx_B, fx_L, w32_of, x_M_pin, m_inT, m_isCellT (hu.mu hS), m_pinOn (hu.mu hS), hp, hq, bI_0, hn, e2, h7, m_pinComes (hu.mu hS) (show S.1 2 < 7 by omega), hn']
    rw [show S.1 2 + 1 - 1 = S.1 2 by omega]
theorem Wn_addThr (h : Wn n) (h6 : n 3 < 6) {a b l : Int} (a0 : 0 ≤ a ∧ a < n 2) (b0 : 0 ≤ b ∧ b < n 2) (hab : a ≠ b) (l0 : 1 ≤ l ∧ l ≤ 12) : Wn (s_addThr n a b l) := by
  obtain ⟨hV, hd, hr, hz⟩ := h
  have h3 := hV.2.2.2.1
  refine ⟨Vn_addThr hV h6 a0 b0 hab l0, ?_, ?_, Zn_addThr hz h3.1 h6 a b l⟩
  · rw [s_addThr_ne h3.1 (by omega) (by omega)]; exact hd
  · rw [s_addThr_ne h3.1 (by omega) (by omega)]; exact hr
theorem k_thread {S : am_S} (hE : SE E) (hS : OKS S) (a b l : Int) : BOTH E S (fun u => Rn m_A_thread 0 [vR (some 0), vI a, vI b, vI l] [] E u) (fun u => Rn m_M_thread 0 [vR (some 149), vI a, vI b, vI l] [] E u) := by
  have cu1 := cuB_1
  have p15 := paB_15
  have hV := hS.1.1
  have h3 := hV.2.2.2.1
  have e3 : (3 : Int).toNat = 3 := rfl
  by_cases ha : 0 ≤ a ∧ a < S.1 2
  case neg => exact ⟨-1, S, hS, CA_id fun u hu => by simp (disch := first | assumption | omega) only [↓reduceIte, Int.reduceEq, Int.reduceLT, bdI_s, bdV_s, bdR_s, bdL_s, fx_I, fx_R, fx_B, fx_L, w32_of, x_A_thread, r_areTwoPinsF hE (hu.cu hS)], MA_id fun u hu => by simp (disch := first | assumption | omega) only [↓reduceIte, Int.reduceEq, Int.reduceLT, bdI_s, bdV_s, bdR_s, bdL_s, fx_I, fx_R, fx_B, fx_L, w32_of, x_M_thread, m_isPinF (hu.mu hS)]⟩
  by_cases hb : 0 ≤ b ∧ b < S.1 2
  case neg => exact ⟨-1, S, hS, CA_id fun u hu => by simp (disch := first | assumption | omega) only [↓reduceIte, Int.reduceEq, Int.reduceLT, bdI_s, bdV_s, bdR_s, bdL_s, fx_I, fx_R, fx_B, fx_L, w32_of, x_A_thread, r_areTwoPinsF hE (hu.cu hS)], MA_id fun u hu => by simp (disch := first | assumption | omega) only [↓reduceIte, Int.reduceEq, Int.reduceLT, bdI_s, bdV_s, bdR_s, bdL_s, fx_I, fx_R, fx_B, fx_L, w32_of, x_M_thread, m_isPinT (hu.mu hS), m_isPinF (hu.mu hS)]⟩
  by_cases hab : a = b
  · exact ⟨-1, S, hS, CA_id fun u hu => by simp (disch := first | assumption | omega) only [↓reduceIte, Int.reduceEq, Int.reduceLT, bdI_s, bdV_s, bdR_s, bdL_s, fx_I, fx_R, fx_B, fx_L, w32_of, x_A_thread, r_areTwoPinsF hE (hu.cu hS)], MA_id fun u hu => by simp (disch := first | assumption | omega) only [↓reduceIte, Int.reduceEq, Int.reduceLT, bdI_s, bdV_s, bdR_s, bdL_s, fx_I, fx_R, fx_B, fx_L, w32_of, x_M_thread, m_isPinT (hu.mu hS), hab]⟩
  by_cases hl : 1 ≤ l ∧ l ≤ 12
  case neg => exact ⟨-1, S, hS, CA_id fun u hu => by simp (disch := first | assumption | omega) only [↓reduceIte, Int.reduceEq, Int.reduceLT, bdI_s, bdV_s, bdR_s, bdL_s, fx_I, fx_R, fx_B, fx_L, w32_of, x_A_thread, r_areTwoPinsT hE (hu.cu hS), r_isInF], MA_id fun u hu => by simp (disch := first | assumption | omega) only [↓reduceIte, Int.reduceEq, Int.reduceLT, bdI_s, bdV_s, bdR_s, bdL_s, fx_I, fx_R, fx_B, fx_L, w32_of, x_M_thread, m_isPinT (hu.mu hS), hab, m_inF]⟩
  by_cases h6 : S.1 3 = 6
  · refine ⟨-3, S, hS, CA_id fun u hu => ?_, MA_id fun u hu => ?_⟩
    · have hu3 := hu.2.1.2.2.2.1
      simp (disch := first | assumption | omega) only [↓reduceIte, Int.reduceEq, Int.reduceLT, bdI_s, bdV_s, bdR_s, bdL_s, fx_I, fx_R, fx_B, fx_L, w32_of, x_A_thread, r_areTwoPinsT hE (hu.cu hS), r_isInT, hu3, h6]
    · have al := (al_m hE).1
      have hn := hu.2.1
      simp (disch := first | assumption | omega) only [↓reduceIte, Int.reduceEq, Int.reduceLT, bdI_s, bdV_s, bdR_s, bdL_s, fx_I, fx_R, fx_B, fx_L, w32_of, x_M_thread, m_isPinT (hu.mu hS), hab, m_inT, hn, e3, h6]
  have hW := Wn_addThr hS.1 (show S.1 3 < 6 by omega) ha hb hab hl
  refine ⟨S.1 3, (s_addThr S.1 a b l, [], S.2.2), OKS_now hS hW (WH_nil _) (by show 0 ≤ 8; omega), fun u hu => ?_, fun u hu => ?_⟩
  · have hu3 := hu.2.1.2.2.2.1
    have hR : RC (am_up u 15 2 0) 1 S.1 := RC_congr (fun z z0 z1 => up_fn (by omega)) hu.2.1
    obtain ⟨u1, e1, r1, f1, -⟩ := c_addThread (u := am_up u 15 2 0) (l := l) hE cuB_1 hR hV (by omega) hab
    have h15 : HR (am_up u 15 2 0) 15 [] := HR_nil hu.2.2.1
    refine ⟨u1, ?_, ?_, (LO_up (by omega)).tr (LO_FR f1 (by omega))⟩
    · simp (disch := first | assumption | omega) only [↓reduceIte, Int.reduceEq, Int.reduceLT, bdI_s, bdV_s, bdR_s, bdL_s, fx_I, fx_R, fx_B, fx_L, w32_of, x_A_thread, r_areTwoPinsT hE (hu.cu hS), r_isInT, hu3, show S.1 3 < 6 by omega, p_forgets hE paB_15, e1]
    · exact CS_now hu (by rw [f1 0 (by omega), up_fn (by omega)]) (fun i i0 i1 => by rw [f1 i (by omega), up_fn (by omega)]) r1 (HR_congr (fun z z0 z1 => f1 z (by omega)) h15)
  · have al := (al_m hE).1
    have hn := hu.2.1
    have hn' : (am_up (sN u (s_addThr S.1 a b l)) 149 8 0) 150 3 = S.1 3 + 1 := by rw [up_fn (by omega), sN_150, s_addThr_3]
    refine ⟨_, ?_, MS_forget hu _, (HI_sN).tr (HI_up (by omega))⟩
    simp (disch := first | assumption | omega) only [↓reduceIte, Int.reduceEq, Int.reduceLT, bdI_s, bdV_s, bdR_s, bdL_s, fx_I, fx_R, fx_B, fx_L, w32_of, x_M_thread, m_isPinT (hu.mu hS), hab, m_inT, hn, e3, h6, m_threadComes (hu.mu hS) (show S.1 3 < 6 by omega), hn']
    rw [show S.1 3 + 1 - 1 = S.1 3 by omega]

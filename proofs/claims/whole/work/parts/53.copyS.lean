/-! Sheets: copy, felt, film. -/
variable {E : am_E} {u : am_M} {k : Nat} {n : am_Row}
def s_cpy (x y : am_Sh) (i j m : Nat) : am_Sh := (y.1, y.2.1, fun k => if j ≤ k ∧ k < j + m then x.2.2 (i + (k - j)) else y.2.2 k)
theorem k_copy {S : am_S} (hE : SE E) (hS : OKS S) (a i b j m : Int) (hi : -2147483648 ≤ i ∧ i ≤ 2147483647) (hj : -2147483648 ≤ j ∧ j ≤ 2147483647) (hm : -2147483648 ≤ m ∧ m ≤ 2147483647) : BOTH E S (fun u => Rn m_A_copy 0 [vR (some 0), vI a, vI i, vI b, vI j, vI m, vB false, vB false] [] E u) (fun u => Rn m_M_copy 0 [vR (some 149), vI a, vI i, vI b, vI j, vI m, vB false, vB false] [] E u) := by
  by_cases ha : 0 ≤ a ∧ a ≤ 3
  case neg =>
    refine ⟨-1, S, hS, CA_id fun u hu => ?_, MA_id fun u hu => by simp (disch := first | assumption | omega) only [↓reduceIte, Int.reduceEq, Int.reduceLT, bdI_s, bdV_s, bdR_s, bdL_s, fx_I, fx_R, fx_B, fx_L, w32_of, x_M_copy, m_isSheetF]⟩
    by_cases hb : 0 ≤ b ∧ b ≤ 3
    · obtain ⟨b', hb'⟩ : ∃ b' : Nat, b = (b' : Int) := ⟨b.toNat, by omega⟩
      subst hb'
      have sb := r_sheetOfT (u := u) hE (show b' < 4 by omega)
      simp (disch := first | assumption | omega) only [↓reduceIte, Int.reduceEq, Int.reduceLT, bdI_s, bdV_s, bdR_s, bdL_s, fx_I, fx_R, fx_B, fx_L, w32_of, x_A_copy, r_sheetOfF hE, sb]
    · simp (disch := first | assumption | omega) only [↓reduceIte, Int.reduceEq, Int.reduceLT, bdI_s, bdV_s, bdR_s, bdL_s, fx_I, fx_R, fx_B, fx_L, w32_of, x_A_copy, r_sheetOfF hE]
  obtain ⟨a', ha'⟩ : ∃ a' : Nat, a = (a' : Int) := ⟨a.toNat, by omega⟩
  subst ha'
  have a4 : a' < 4 := by omega
  by_cases hb : 0 ≤ b ∧ b ≤ 3
  case neg => exact ⟨-1, S, hS, CA_id fun u hu => by have sa := r_sheetOfT (u := u) hE a4; simp (disch := first | assumption | omega) only [↓reduceIte, Int.reduceEq, Int.reduceLT, bdI_s, bdV_s, bdR_s, bdL_s, fx_I, fx_R, fx_B, fx_L, w32_of, x_A_copy, sa, r_sheetOfF hE], MA_id fun u hu => by simp (disch := first | assumption | omega) only [↓reduceIte, Int.reduceEq, Int.reduceLT, bdI_s, bdV_s, bdR_s, bdL_s, fx_I, fx_R, fx_B, fx_L, w32_of, x_M_copy, m_isSheetT, m_isSheetF]⟩
  obtain ⟨b', hb'⟩ : ∃ b' : Nat, b = (b' : Int) := ⟨b.toNat, by omega⟩
  subst hb'
  have b4 : b' < 4 := by omega
  have hKa := sh_B a4
  have hKb := sh_B b4
  have la := hS.2.2.2.2 a' a4
  have lb := hS.2.2.2.2 b' b4
  obtain ⟨l0, l1, l2, l3, l4, l5, l6, l7, l8, l9, l10⟩ := al_m hE
  by_cases na : (S.2.2.2.2 a').1 < 0
  · refine ⟨-11, S, hS, CA_id fun u hu => ?_, MA_id fun u hu => ?_⟩
    · obtain ⟨q1, -⟩ := CSs.sh hu.2.2.2.2.2 a4
      rw [decide_eq_true na, bI_t] at q1
      have sa := r_sheetOfT (u := u) hE a4
      have sb := r_sheetOfT (u := u) hE b4
      simp (disch := first | assumption | omega) only [↓reduceIte, Int.reduceEq, Int.reduceLT, bdI_s, bdV_s, bdR_s, bdL_s, fx_I, fx_R, fx_B, fx_L, w32_of, x_A_copy, sa, sb, q1]
    · obtain ⟨p, -⟩ := hu.2.2.2.2.2 a' a4
      simp (disch := first | assumption | omega) only [↓reduceIte, Int.reduceEq, Int.reduceLT, bdI_s, bdV_s, bdR_s, bdL_s, fx_I, fx_R, fx_B, fx_L, w32_of, x_M_copy, m_isSheetT, Int.toNat_natCast, p, na]
  by_cases nb : (S.2.2.2.2 b').1 < 0
  · refine ⟨-11, S, hS, CA_id fun u hu => ?_, MA_id fun u hu => ?_⟩
    · obtain ⟨q1, -⟩ := CSs.sh hu.2.2.2.2.2 a4
      rw [decide_eq_false na, bI_f] at q1
      obtain ⟨q2, -⟩ := CSs.sh hu.2.2.2.2.2 b4
      rw [decide_eq_true nb, bI_t] at q2
      have sa := r_sheetOfT (u := u) hE a4
      have sb := r_sheetOfT (u := u) hE b4
      simp (disch := first | assumption | omega) only [↓reduceIte, Int.reduceEq, Int.reduceLT, bdI_s, bdV_s, bdR_s, bdL_s, fx_I, fx_R, fx_B, fx_L, w32_of, x_A_copy, sa, sb, q1, q2]
    · obtain ⟨p, -⟩ := hu.2.2.2.2.2 a' a4
      obtain ⟨p2, -⟩ := hu.2.2.2.2.2 b' b4
      simp (disch := first | assumption | omega) only [↓reduceIte, Int.reduceEq, Int.reduceLT, bdI_s, bdV_s, bdR_s, bdL_s, fx_I, fx_R, fx_B, fx_L, w32_of, x_M_copy, m_isSheetT, Int.toNat_natCast, p, na, p2, nb]
  have wb : ∀ u, MS E u S → ∀ l, Rn m_M_why 0 [vR (some 149), vI (b' : Int), vI l, vI j, vI m] [] E u = some (some (vI (s_why (S.2.2.2.2 b') l j m)), E, u) := fun u hu l => m_why hE hu.2.2.2.2.2 hS.2.2.2.2 b4 hj hm
  have wa : ∀ u, MS E u S → ∀ l, Rn m_M_why 0 [vR (some 149), vI (a' : Int), vI l, vI i, vI m] [] E u = some (some (vI (s_why (S.2.2.2.2 a') l i m)), E, u) := fun u hu l => m_why hE hu.2.2.2.2.2 hS.2.2.2.2 a4 hi hm
  have ab : ∀ u, CS E u S → u (141 + 2 * a') 1 = 0 ∧ u (141 + 2 * b') 1 = 0 ∧ u (141 + 2 * a') 2 = (S.2.2.2.2 a').1 ∧ u (141 + 2 * b') 2 = (S.2.2.2.2 b').1 := fun u hu => by
    obtain ⟨q1, q2, -⟩ := CSs.sh hu.2.2.2.2.2 a4
    obtain ⟨q3, q4, -⟩ := CSs.sh hu.2.2.2.2.2 b4
    rw [decide_eq_false na, bI_f] at q1
    rw [decide_eq_false nb, bI_f] at q3
    exact ⟨q1, q3, q2 (by omega), q4 (by omega)⟩
  by_cases hl : (S.2.2.2.2 a').1 = (S.2.2.2.2 b').1
  case neg =>
    refine ⟨-12, S, hS, CA_id fun u hu => ?_, MA_id fun u hu => ?_⟩
    · obtain ⟨r1, r2, r3, r4⟩ := ab u hu
      have sa := r_sheetOfT (u := u) hE a4
      have sb := r_sheetOfT (u := u) hE b4
      simp (disch := first | assumption | omega) only [↓reduceIte, Int.reduceEq, Int.reduceLT, bdI_s, bdV_s, bdR_s, bdL_s, fx_I, fx_R, fx_B, fx_L, w32_of, x_A_copy, sa, sb, r1, r2, r3, r4, hl]
    · obtain ⟨p, -⟩ := hu.2.2.2.2.2 a' a4
      obtain ⟨p2, -⟩ := hu.2.2.2.2.2 b' b4
      have q := wb u hu (S.2.2.2.2 a').1
      have e : s_why (S.2.2.2.2 b') (S.2.2.2.2 a').1 j m = -12 := by
        unfold s_why
        rw [if_neg nb, if_pos (fun z => hl z.symm)]
      rw [e] at q
      simp (disch := first | assumption | omega) only [↓reduceIte, Int.reduceEq, Int.reduceLT, bdI_s, bdV_s, bdR_s, bdL_s, fx_I, fx_R, fx_B, fx_L, w32_of, x_M_copy, m_isSheetT, Int.toNat_natCast, p, na, p2, nb, q]
  have hia : ∀ u, CS E u S → u (141 + 2 * a') 3 = (S.2.2.2.2 a').2.1 := fun u hu => (CSs.sh hu.2.2.2.2.2 a4).2.2.1
  have hib : ∀ u, CS E u S → u (141 + 2 * b') 3 = (S.2.2.2.2 b').2.1 := fun u hu => (CSs.sh hu.2.2.2.2.2 b4).2.2.1
  have ya : s_why (S.2.2.2.2 a') (S.2.2.2.2 a').1 i m = if 0 ≤ m ∧ 0 ≤ i ∧ i ≤ (S.2.2.2.2 a').2.1 - m then 0 else -13 := by
    unfold s_why
    rw [if_neg na, if_neg (fun z => z rfl)]
  have yb : s_why (S.2.2.2.2 b') (S.2.2.2.2 a').1 j m = if 0 ≤ m ∧ 0 ≤ j ∧ j ≤ (S.2.2.2.2 b').2.1 - m then 0 else -13 := by
    unfold s_why
    rw [if_neg nb, if_neg (fun z => z hl.symm)]
  by_cases ia : 0 ≤ m ∧ 0 ≤ i ∧ i ≤ (S.2.2.2.2 a').2.1 - m
  case neg =>
    refine ⟨-13, S, hS, CA_id fun u hu => ?_, MA_id fun u hu => ?_⟩
    · obtain ⟨r1, r2, r3, r4⟩ := ab u hu
      have sa := r_sheetOfT (u := u) hE a4
      have sb := r_sheetOfT (u := u) hE b4
      have q := c_hasItemsF hE hKa (hia u hu) la.2 hm.2 ia
      simp (disch := first | assumption | omega) only [↓reduceIte, Int.reduceEq, Int.reduceLT, bdI_s, bdV_s, bdR_s, bdL_s, fx_I, fx_R, fx_B, fx_L, w32_of, x_A_copy, sa, sb, r1, r2, r3, r4, hl, q]
    · obtain ⟨p, -⟩ := hu.2.2.2.2.2 a' a4
      obtain ⟨p2, -⟩ := hu.2.2.2.2.2 b' b4
      have q := wb u hu (S.2.2.2.2 a').1
      have q2 := wa u hu (S.2.2.2.2 a').1
      rw [ya, if_neg ia] at q2
      rw [yb] at q
      by_cases ib : 0 ≤ m ∧ 0 ≤ j ∧ j ≤ (S.2.2.2.2 b').2.1 - m
      · rw [if_pos ib] at q
        simp (disch := first | assumption | omega) only [↓reduceIte, Int.reduceEq, Int.reduceLT, bdI_s, bdV_s, bdR_s, bdL_s, fx_I, fx_R, fx_B, fx_L, w32_of, x_M_copy, m_isSheetT, Int.toNat_natCast, p, na, p2, nb, q, q2]
      · rw [if_neg ib] at q
        simp (disch := first | assumption | omega) only [↓reduceIte, Int.reduceEq, Int.reduceLT, bdI_s, bdV_s, bdR_s, bdL_s, fx_I, fx_R, fx_B, fx_L, w32_of, x_M_copy, m_isSheetT, Int.toNat_natCast, p, na, p2, nb, q]
  by_cases ib : 0 ≤ m ∧ 0 ≤ j ∧ j ≤ (S.2.2.2.2 b').2.1 - m
  case neg =>
    refine ⟨-13, S, hS, CA_id fun u hu => ?_, MA_id fun u hu => ?_⟩
    · obtain ⟨r1, r2, r3, r4⟩ := ab u hu
      have sa := r_sheetOfT (u := u) hE a4
      have sb := r_sheetOfT (u := u) hE b4
      have q := c_hasItemsT hE hKa (hia u hu) la.2 hm.2 ia
      have q2 := c_hasItemsF hE hKb (hib u hu) lb.2 hm.2 ib
      simp (disch := first | assumption | omega) only [↓reduceIte, Int.reduceEq, Int.reduceLT, bdI_s, bdV_s, bdR_s, bdL_s, fx_I, fx_R, fx_B, fx_L, w32_of, x_A_copy, sa, sb, r1, r2, r3, r4, hl, q, q2]
    · obtain ⟨p, -⟩ := hu.2.2.2.2.2 a' a4
      obtain ⟨p2, -⟩ := hu.2.2.2.2.2 b' b4
      have q := wb u hu (S.2.2.2.2 a').1
      rw [yb, if_neg ib] at q
      simp (disch := first | assumption | omega) only [↓reduceIte, Int.reduceEq, Int.reduceLT, bdI_s, bdV_s, bdR_s, bdL_s, fx_I, fx_R, fx_B, fx_L, w32_of, x_M_copy, m_isSheetT, Int.toNat_natCast, p, na, p2, nb, q]
  obtain ⟨m', hm'⟩ : ∃ m' : Nat, m = (m' : Int) := ⟨m.toNat, by omega⟩
  subst hm'
  obtain ⟨i', hi'⟩ : ∃ i' : Nat, i = (i' : Int) := ⟨i.toNat, by omega⟩
  subst hi'
  obtain ⟨j', hj'⟩ : ∃ j' : Nat, j = (j' : Int) := ⟨j.toNat, by omega⟩
  subst hj'
  have i24 : i' + m' ≤ 24 := by omega
  have j24 : j' + m' ≤ 24 := by omega
  refine ⟨(m' : Int), (S.1, S.2.1, S.2.2.1, S.2.2.2.1, s_fs S.2.2.2.2 b' (s_cpy (S.2.2.2.2 a') (S.2.2.2.2 b') i' j' m')), OKS_sheet hS (OKs_fs hS.2.2.2.2 lb), fun u hu => ?_, fun u hu => ?_⟩
  · obtain ⟨r1, r2, r3, r4⟩ := ab u hu
    have sa := r_sheetOfT (u := u) hE a4
    have sb := r_sheetOfT (u := u) hE b4
    have q := c_hasItemsT hE hKa (hia u hu) la.2 hm.2 ia
    have q2 := c_hasItemsT hE hKb (hib u hu) lb.2 hm.2 ib
    obtain ⟨xa1, xa2, xa3, xa4⟩ := CSs.sh hu.2.2.2.2.2 a4
    obtain ⟨xb1, xb2, xb3, xb4⟩ := CSs.sh hu.2.2.2.2.2 b4
    obtain ⟨ala, kna⟩ := al_h hE hKa
    obtain ⟨alb, knb⟩ := al_h hE hKb
    have tk : Rn m_S_takes 0 [vR (some (141 + 2 * b')), vI (j' : Int), vR (some (141 + 2 * a')), vI (i' : Int), vI (m' : Int)] [] E u = some (none, E, am_cp u (141 + 2 * a' + 1) i' (141 + 2 * b' + 1) j' m') := by
      simp (disch := first | assumption | omega) only [↓reduceIte, Int.reduceEq, Int.reduceLT, bdI_s, bdV_s, bdR_s, bdL_s, fx_I, fx_R, fx_B, fx_L, w32_of, x_S_takes, q, q2, Int.toNat_natCast]
    have g0 : ∀ i, i ≠ 141 + 2 * b' + 1 → am_cp u (141 + 2 * a' + 1) i' (141 + 2 * b' + 1) j' m' i = u i := fun i i0 => cp_ne i0
    refine ⟨am_cp u (141 + 2 * a' + 1) i' (141 + 2 * b' + 1) j' m', ?_, CS_sheet b4 hu (fun i _ i0 i1 _ => g0 i (by omega)) ⟨by rw [g0 _ (by omega)]; exact xb1, fun z => by rw [g0 _ (by omega)]; exact xb2 z, by rw [g0 _ (by omega)]; exact xb3, fun t ht => ?_⟩, fun i hi => g0 i (by omega)⟩
    · simp (disch := first | assumption | omega) only [↓reduceIte, Int.reduceEq, Int.reduceLT, bdI_s, bdV_s, bdR_s, bdL_s, fx_I, fx_R, fx_B, fx_L, w32_of, x_A_copy, sa, sb, r1, r2, r3, r4, hl, q, q2, tk]
    · show am_cp u (141 + 2 * a' + 1) i' (141 + 2 * b' + 1) j' m' (141 + 2 * b' + 1) t = if j' ≤ t ∧ t < j' + m' then (S.2.2.2.2 a').2.2 (i' + (t - j')) else (S.2.2.2.2 b').2.2 t
      unfold am_cp
      by_cases hin : j' ≤ t ∧ t < j' + m'
      · rw [if_pos ⟨rfl, hin⟩, if_pos hin]
        exact xa4 _ (by omega)
      · rw [if_neg (fun z => hin z.2), if_neg hin]
        exact xb4 t ht
  · obtain ⟨p, p', p''⟩ := hu.2.2.2.2.2 a' a4
    obtain ⟨p2, p2', p2''⟩ := hu.2.2.2.2.2 b' b4
    have q := wb u hu (S.2.2.2.2 a').1
    have q2 := wa u hu (S.2.2.2.2 a').1
    rw [ya, if_pos ia] at q2
    rw [yb, if_pos ib] at q
    let g1 : am_Row := fun x => u 159 (24 * a' + i' + x)
    let w : am_M := aS u 160 (s_fil (u 160) g1 0 m')
    let g2 : am_Row := fun x => u 159 (24 * a' + i' + (x - (24 * b' + j')))
    let f1 : Nat → am_Z := fun t => Rn m_M_copy 91 [vR (some 149), vI (a' : Int), vI (i' : Int), vI (b' : Int), vI (j' : Int), vI (m' : Int), vI 0, vI (t : Int)] [] E (aS u 160 (s_fil (u 160) g1 0 t))
    let f2 : Nat → am_Z := fun t => Rn m_M_copy 128 [vR (some 149), vI (a' : Int), vI (i' : Int), vI (b' : Int), vI (j' : Int), vI (m' : Int), vI 0, vI (t : Int)] [] E (aS w 159 (s_fil (u 159) g2 (24 * b' + j') t))
    have start : Rn m_M_copy 0 [vR (some 149), vI (a' : Int), vI (i' : Int), vI (b' : Int), vI (j' : Int), vI (m' : Int), vB false, vB false] [] E u = f1 0 := by
      simp only [f1, s_fil_0, aS_self]
      simp (disch := first | assumption | omega) only [↓reduceIte, Int.reduceEq, Int.reduceLT, bdI_s, bdV_s, bdR_s, bdL_s, fx_I, fx_R, fx_B, fx_L, w32_of, x_M_copy, m_isSheetT, Int.toNat_natCast, p, na, p2, nb, q, q2]
      rfl
    have step1 : ∀ t, t < m' → f1 t = f1 (t + 1) := by
      intro t ht
      simp only [f1]
      rw [h_M_copy_91]
      simp (disch := first | assumption | omega) only [↓reduceIte, x_M_copy, show (t : Int) < (m' : Int) by omega, aS_ne, aS_up, Int.toNat_natCast, w32_of, fx_I]
      rw [s_fil_s (by omega) (by simp only [g1]; congr 1 <;> omega)]
      rfl
    have mid : f1 m' = f2 0 := by
      have z := aS_self w 159
      have w9 : w 159 = u 159 := aS_ne _ _ (by omega)
      rw [w9] at z
      simp only [f1, f2, s_fil_0]
      rw [z, h_M_copy_91]
      simp (disch := first | assumption | omega) only [↓reduceIte, x_M_copy, show ¬ (m' : Int) < (m' : Int) by omega, fx_I]
      rfl
    have step2 : ∀ t, t < m' → f2 t = f2 (t + 1) := by
      intro t ht
      have wv : (aS w 159 (s_fil (u 159) g2 (24 * b' + j') t)) 160 t = g1 t := by
        rw [aS_ne _ _ (by omega)]
        simp only [w]
        rw [aS_eq, s_fil_in (by omega)]
      simp only [f2]
      rw [h_M_copy_128]
      simp (disch := first | assumption | omega) only [↓reduceIte, x_M_copy, show (t : Int) < (m' : Int) by omega, Int.toNat_natCast, wv, aS_up, w32_of, fx_I]
      rw [s_fil_s (by omega) (by simp only [g1, g2]; congr 1 <;> omega)]
      rfl
    have g0 : ∀ i, i ≠ 159 → i ≠ 160 → aS w 159 (s_fil (u 159) g2 (24 * b' + j') m') i = u i := fun i i0 i1 => by rw [aS_ne _ _ i0]; exact aS_ne _ _ i1
    refine ⟨aS w 159 (s_fil (u 159) g2 (24 * b' + j') m'), ?_, MS_sheet (u' := aS w 159 (s_fil (u 159) g2 (24 * b' + j') m')) hu (fun i _ _ _ _ i0 i1 => g0 i i0 i1) (fun t ht => ?_), fun i hi => g0 i (by omega) (by omega)⟩
    · show Rn m_M_copy 0 [vR (some 149), vI (a' : Int), vI (i' : Int), vI (b' : Int), vI (j' : Int), vI (m' : Int), vB false, vB false] [] E u = _
      rw [start, q_loop f1 m' step1, mid, q_loop f2 m' step2]
      simp only [f2]
      rw [h_M_copy_128]
      simp (disch := first | assumption | omega) only [↓reduceIte, x_M_copy, show ¬ (m' : Int) < (m' : Int) by omega]
    · rw [g0 157 (by omega) (by omega), g0 158 (by omega) (by omega), aS_eq]
      by_cases et : t = b'
      · subst et
        rw [s_fs_eq]
        refine ⟨p2, p2', fun x hx => ?_⟩
        show s_fil (u 159) g2 (24 * t + j') m' (24 * t + x) = if j' ≤ x ∧ x < j' + m' then (S.2.2.2.2 a').2.2 (i' + (x - j')) else (S.2.2.2.2 t).2.2 x
        by_cases hin : j' ≤ x ∧ x < j' + m'
        · rw [if_pos hin, s_fil_in (by omega), ← p'' _ (by omega)]
          simp only [g2]
          congr 1 <;> omega
        · rw [if_neg hin, s_fil_out (by omega)]
          exact p2'' x hx
      · rw [s_fs_ne et]
        obtain ⟨z1, z2, z3⟩ := hu.2.2.2.2.2 t ht
        exact ⟨z1, z2, fun x hx => by rw [s_fil_out (by omega)]; exact z3 x hx⟩

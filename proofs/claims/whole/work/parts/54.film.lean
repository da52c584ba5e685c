/-! Calls: felt, film. -/
variable {E : am_E} {u : am_M} {k : Nat} {n : am_Row}
theorem s_all_congr {f g : Nat → Bool} : ∀ m, (∀ i, i < m → f i = g i) → s_all f m = s_all g m := by
  intro m
  induction m with
  | zero => intro _; rfl
  | succ m ih => intro h; simp only [s_all]; rw [ih (fun i hi => h i (by omega)), h m (by omega)]
theorem s_felt_congr {r : am_Row} {p : Int} {g h : am_Row} {i j m : Nat} (e : ∀ t, t < m → g (i + t) = h (j + t)) : s_felt r p g i m = s_felt r p h j m := s_all_congr m fun t ht => by unfold s_fl; rw [e t ht]
/-- the set of kinds, or courses, by which it would be so -/
def s_fset (n : am_Row) (p w : Int) (g : am_Row) (i m v : Nat) : Bool := s_felt (s_as n p w v) p g i m
def s_fK (w : Int) : Nat := if w = 0 then 5 else 4
theorem c_feltT {S : am_S} (hE : SE E) (hS : OKS S) {p l w : Int} {s i m : Nat} (hp : 0 ≤ p ∧ p < S.1 2) (s4 : s < 4) (him : i + m ≤ 24) (hu : CS E u S) (ho : s_C S.1 p ≠ -4) : ∃ u', Rn m_A_felt 92 [vR (some 0), vI p, vI (s : Int), vI l, vI (i : Int), vI (m : Int), vI w, vR (some (141 + 2 * s)), vI 0, vB false, vB false] [] E u = some (some (vI (bits (s_fset S.1 p w (S.2.2.2.2 s).2.2 i m) (s_fK w) : Nat)), E, u') ∧ FR 8 u u' := by
  have cu1 := cuB_1
  have cu8 := cuB_8
  have hK := sh_B s4
  have hV := hS.1.1
  have h2 := hV.2.2.1
  have d1 := hS.1.2.1
  have hz := hS.1.2.2.2
  obtain ⟨q1, q2, q3, q4⟩ := CSs.sh hu.2.2.2.2.2 s4
  have hT : s_fK w ≤ 5 := by unfold s_fK; split <;> omega
  have hTw : ∀ v : Nat, v < s_fK w → v < if w = 0 then 5 else 4 := fun v hv => hv
  have head : ∀ (v : Nat) (b : Nat) (x : am_M), Rn m_A_felt 98 [vR (some 0), vI p, vI (s : Int), vI l, vI (i : Int), vI (m : Int), vI w, vR (some (141 + 2 * s)), vI 0, vI (b : Int), vI (v : Int)] [] E x = if v < s_fK w then Rn m_A_felt 113 [vR (some 0), vI p, vI (s : Int), vI l, vI (i : Int), vI (m : Int), vI w, vR (some (141 + 2 * s)), vI 0, vI (b : Int), vI (v : Int)] [] E x else some (some (vI (b : Int)), E, x) := by
    intro v b x
    rw [h_A_felt_98]
    unfold s_fK
    by_cases hw : w = 0
    · rw [if_pos hw]
      by_cases hv : v < 5
      · rw [if_pos hv]
        have c : (v : Int) < 5 := by omega
        simp (disch := assumption) only [↓reduceIte, Int.reduceEq, Int.reduceLT, bdI_s, bdV_s, bdR_s, bdL_s, fx_I, fx_R, fx_B, fx_L, x_A_felt, hw, c]
      · rw [if_neg hv]
        have c : ¬ (v : Int) < 5 := by omega
        simp (disch := assumption) only [↓reduceIte, Int.reduceEq, Int.reduceLT, bdI_s, bdV_s, bdR_s, bdL_s, fx_I, fx_R, fx_B, fx_L, x_A_felt, hw, c]
    · rw [if_neg hw]
      by_cases hv : v < 4
      · rw [if_pos hv]
        have c : (v : Int) < 4 := by omega
        simp (disch := assumption) only [↓reduceIte, Int.reduceEq, Int.reduceLT, bdI_s, bdV_s, bdR_s, bdL_s, fx_I, fx_R, fx_B, fx_L, x_A_felt, hw, c]
      · rw [if_neg hv]
        have c : ¬ (v : Int) < 4 := by omega
        simp (disch := assumption) only [↓reduceIte, Int.reduceEq, Int.reduceLT, bdI_s, bdV_s, bdR_s, bdL_s, fx_I, fx_R, fx_B, fx_L, x_A_felt, hw, c]
  have loop : ∀ (d v : Nat), v + d = s_fK w → ∀ x, FR 8 u x → ∃ u', Rn m_A_felt 98 [vR (some 0), vI p, vI (s : Int), vI l, vI (i : Int), vI (m : Int), vI w, vR (some (141 + 2 * s)), vI 0, vI (bits (s_fset S.1 p w (S.2.2.2.2 s).2.2 i m) v : Nat), vI (v : Int)] [] E x = some (some (vI (bits (s_fset S.1 p w (S.2.2.2.2 s).2.2 i m) (s_fK w) : Nat)), E, u') ∧ FR 8 u u' := by
    intro d
    induction d with
    | zero =>
      intro v hv x fx
      have : v = s_fK w := by omega
      subst this
      exact ⟨x, by rw [head, if_neg (by omega)], fx⟩
    | succ d ih =>
      intro v hv x fx
      have hcu : CU E x 1 S.1 := (CS_congr (fun i _ hi => fx i (by omega)) hu).cu hS
      obtain ⟨x1, e1, h1, f1⟩ := c_becomes (u := x) (k := 8) (j := 1) hE cuB_8 cuB_1 (by omega) hcu.2.2.1 hV
      obtain ⟨aV, aZ, aL⟩ := Vn_as hV hz (w := w) hp.1 (show p < 7 by omega) (hTw v (by omega))
      have hv5 : v < 31 := by omega
      have wv := w_suc (i := v) (by omega)
      have fin : ∀ (x2 : am_M), CU E x2 8 (s_as S.1 p w v) → FR 8 x1 x2 → Rn m_A_felt 113 [vR (some 0), vI p, vI (s : Int), vI l, vI (i : Int), vI (m : Int), vI w, vR (some (141 + 2 * s)), vI 0, vI (bits (s_fset S.1 p w (S.2.2.2.2 s).2.2 i m) v : Nat), vI (v : Int)] [] E x = Rn m_A_felt 152 [vR (some 0), vI p, vI (s : Int), vI l, vI (i : Int), vI (m : Int), vI w, vR (some (141 + 2 * s)), vI 0, vI (bits (s_fset S.1 p w (S.2.2.2.2 s).2.2 i m) v : Nat), vI (v : Int)] [] E x2 → ∃ u', Rn m_A_felt 98 [vR (some 0), vI p, vI (s : Int), vI l, vI (i : Int), vI (m : Int), vI w, vR (some (141 + 2 * s)), vI 0, vI (bits (s_fset S.1 p w (S.2.2.2.2 s).2.2 i m) v : Nat), vI (v : Int)] [] E x = some (some (vI (bits (s_fset S.1 p w (S.2.2.2.2 s).2.2 i m) (s_fK w) : Nat)), E, u') ∧ FR 8 u u' := by
        intro x2 c2 f2 hrun
        have fx2 := (fx.tr f1).tr f2
        have hg : ∀ j, j < 24 → x2 (141 + 2 * s + 1) j = (S.2.2.2.2 s).2.2 j := fun j hj => by
          rw [fx2 _ (by omega)]
          exact q4 j hj
        obtain ⟨x3, e3, f3⟩ := c_isFelt c2 hp.1 (by rw [aL 2 (by omega)]; exact hp.2) hK hg him (by rw [aL 4 (by omega)]; clear wv; omega)
        obtain ⟨u', e', f'⟩ := ih (v + 1) (by clear wv; omega) x3 (fx2.tr f3)
        refine ⟨u', ?_, f'⟩
        rw [head, if_pos (by clear wv; omega), hrun, ← e']
        cases hb : s_felt (s_as S.1 p w v) p (S.2.2.2.2 s).2.2 i m with
        | false =>
          rw [hb, bI_f] at e3
          rw [bits_no (show s_fset S.1 p w (S.2.2.2.2 s).2.2 i m v = false from hb)]
          simp (disch := assumption) only [↓reduceIte, Int.reduceEq, Int.reduceLT, bdI_s, bdV_s, bdR_s, bdL_s, fx_I, fx_R, fx_B, fx_L, x_A_felt, e3, wv]
        | true =>
          rw [hb, bI_t] at e3
          rw [← bits_yes hv5 (show s_fset S.1 p w (S.2.2.2.2 s).2.2 i m v = true from hb)]
          simp (disch := assumption) only [↓reduceIte, Int.reduceEq, Int.reduceLT, bdI_s, bdV_s, bdR_s, bdL_s, fx_I, fx_R, fx_B, fx_L, x_A_felt, e3, wv]
      by_cases hw : w = 0
      · have c2 : CU E (am_up x1 (8 + 1) p.toNat (v : Int)) 8 (s_as S.1 p w v) := by
          refine ⟨hE, cuB_8, ?_, aV⟩
          have := RC_kind h1.2.2.1 (v := (v : Int)) hp.1 (show p < 7 by omega)
          unfold s_as
          rw [if_pos hw]
          exact this
        have ly := r_lay7 (u := x1) (a := (v : Int)) hE cuB_8 (j := 1) (by decide) hp.1 (show p < 7 by omega)
        refine fin _ c2 (FR.up (by omega)) ?_
        simp (disch := assumption) only [↓reduceIte, Int.reduceEq, Int.reduceLT, bdI_s, bdV_s, bdR_s, bdL_s, fx_I, fx_R, fx_B, fx_L, x_A_felt, e1, hw, ly]
      · have c2 : CU E (am_up x1 (8 + 3) p.toNat (v : Int)) 8 (s_as S.1 p w v) := by
          refine ⟨hE, cuB_8, ?_, aV⟩
          have := RC_course h1.2.2.1 (v := (v : Int)) hp.1 (show p < 7 by omega)
          unfold s_as
          rw [if_neg hw]
          exact this
        have ly := r_lay7 (u := x1) (a := (v : Int)) hE cuB_8 (j := 3) (by decide) hp.1 (show p < 7 by omega)
        refine fin _ c2 (FR.up (by omega)) ?_
        simp (disch := assumption) only [↓reduceIte, Int.reduceEq, Int.reduceLT, bdI_s, bdV_s, bdR_s, bdL_s, fx_I, fx_R, fx_B, fx_L, x_A_felt, e1, hw, ly]
  obtain ⟨u', e, f⟩ := loop (s_fK w) 0 (by omega) u FR.rf
  refine ⟨u', ?_, f⟩
  rw [← e]
  simp (disch := assumption) only [↓reduceIte, Int.reduceEq, Int.reduceLT, bdI_s, bdV_s, bdR_s, bdL_s, fx_I, fx_R, fx_B, fx_L, x_A_felt]
  rfl
theorem m_feltT {S : am_S} (hE : SE E) (hS : OKS S) {p l w : Int} {s i m : Nat} (hp : 0 ≤ p ∧ p < S.1 2) (s4 : s < 4) (him : i + m ≤ 24) (hw : w = 0 ∨ w = 1) (hu : MS E u S) : Rn m_M_felt 79 [vR (some 149), vI p, vI (s : Int), vI l, vI (i : Int), vI (m : Int), vI w, vI 0, vB false, vB false] [] E u = some (some (vI (bits (s_fset S.1 p w (S.2.2.2.2 s).2.2 i m) (s_fK w) : Nat)), E, u_as u S.1) := by
  have hV := hS.1.1
  have h2 := hV.2.2.1
  have d1 := hS.1.2.1
  have hz := hS.1.2.2.2
  have hm := u_as_mu (hu.mu hS)
  have n1 := hm.2.1
  have al := (al_m hE).1
  obtain ⟨q1, q2, q4⟩ := hu.2.2.2.2.2 s s4
  have e1 := m_asides' hE hu.2.1
  have hT : s_fK w ≤ 5 := by unfold s_fK; split <;> omega
  have head : ∀ (v : Nat) (b : Nat) (x : am_M), Rn m_M_felt 89 [vR (some 149), vI p, vI (s : Int), vI l, vI (i : Int), vI (m : Int), vI w, vI 0, vI (b : Int), vI (v : Int)] [] E x = if v < s_fK w then Rn m_M_felt 104 [vR (some 149), vI p, vI (s : Int), vI l, vI (i : Int), vI (m : Int), vI w, vI 0, vI (b : Int), vI (v : Int)] [] E x else some (some (vI (b : Int)), E, x) := by
    intro v b x
    rw [h_M_felt_89]
    unfold s_fK
    by_cases hw : w = 0
    · rw [if_pos hw]
      by_cases hv : v < 5
      · rw [if_pos hv]
        have c : (v : Int) < 5 := by omega
        simp (disch := assumption) only [↓reduceIte, Int.reduceEq, Int.reduceLT, bdI_s, bdV_s, bdR_s, bdL_s, fx_I, fx_R, fx_B, fx_L, x_M_felt, hw, c]
      · rw [if_neg hv]
        have c : ¬ (v : Int) < 5 := by omega
        simp (disch := assumption) only [↓reduceIte, Int.reduceEq, Int.reduceLT, bdI_s, bdV_s, bdR_s, bdL_s, fx_I, fx_R, fx_B, fx_L, x_M_felt, hw, c]
    · rw [if_neg hw]
      by_cases hv : v < 4
      · rw [if_pos hv]
        have c : (v : Int) < 4 := by omega
        simp (disch := assumption) only [↓reduceIte, Int.reduceEq, Int.reduceLT, bdI_s, bdV_s, bdR_s, bdL_s, fx_I, fx_R, fx_B, fx_L, x_M_felt, hw, c]
      · rw [if_neg hv]
        have c : ¬ (v : Int) < 4 := by omega
        simp (disch := assumption) only [↓reduceIte, Int.reduceEq, Int.reduceLT, bdI_s, bdV_s, bdR_s, bdL_s, fx_I, fx_R, fx_B, fx_L, x_M_felt, hw, c]
  let f : Nat → am_Z := fun v => Rn m_M_felt 89 [vR (some 149), vI p, vI (s : Int), vI l, vI (i : Int), vI (m : Int), vI w, vI 0, vI (bits (s_fset S.1 p w (S.2.2.2.2 s).2.2 i m) v : Nat), vI (v : Int)] [] E (u_as u S.1)
  have start : Rn m_M_felt 79 [vR (some 149), vI p, vI (s : Int), vI l, vI (i : Int), vI (m : Int), vI w, vI 0, vB false, vB false] [] E u = f 0 := by
    simp (disch := assumption) only [↓reduceIte, Int.reduceEq, Int.reduceLT, bdI_s, bdV_s, bdR_s, bdL_s, fx_I, fx_R, fx_B, fx_L, x_M_felt, e1]
    rfl
  have step : ∀ v, v < s_fK w → f v = f (v + 1) := by
    intro v hv
    obtain ⟨aV, aZ, aL⟩ := Vn_as hV hz (w := w) hp.1 (show p < 7 by omega) (show v < if w = 0 then 5 else 4 from hv)
    have hv5 : v < 31 := by omega
    have is := m_isSo (u := sN (u_as u S.1) (s_as S.1 p w v)) (n := S.1) (a := 24 * s + i) (m := m) (hm.to aV) aZ hz (fun j hj => by rw [sN_ne _ _ (by omega)]; exact u_as_155 j hj) hp.1 (by rw [aL 2 (by omega)]; exact hp.2) (by omega) (by rw [aL 4 (by omega)]; omega)
    rw [sN_sN, u_as_back hu.2.1] at is
    have e9 : (sN (u_as u S.1) (s_as S.1 p w v)) 159 = u 159 := by rw [sN_ne _ _ (by omega), u_as_ne (by omega)]
    have ef : s_felt (s_as S.1 p w v) p (u 159) (24 * s + i) m = s_felt (s_as S.1 p w v) p (S.2.2.2.2 s).2.2 i m := s_felt_congr fun t ht => by
      rw [Nat.add_assoc]
      exact q4 _ (by omega)
    rw [e9, ef] at is
    have ev : ((v + 1 : Nat) : Int) = (v : Int) + 1 := by omega
    have eidx : ∀ (z : Int), (24 * (s : Int) + (i : Int)) = ((24 * s + i : Nat) : Int) := fun _ => by omega
    simp only [f]
    rw [head v, if_pos hv]
    cases hb : s_felt (s_as S.1 p w v) p (S.2.2.2.2 s).2.2 i m with
    | false =>
      rw [hb, bI_f] at is
      rw [bits_no (show s_fset S.1 p w (S.2.2.2.2 s).2.2 i m v = false from hb), ev]
      rcases hw with hw | hw
      · unfold s_as at is
        rw [if_pos hw] at is
        simp (disch := first | assumption | omega) only [↓reduceIte, Int.reduceEq, Int.reduceLT, bdI_s, bdV_s, bdR_s, bdL_s, fx_I, fx_R, fx_B, fx_L, w32_of, x_M_felt, hw, sN_up, n1, eidx 0, Int.mul_zero, Int.add_zero, is, bits_or0]
      · unfold s_as at is
        rw [if_neg (by omega)] at is
        simp (disch := first | assumption | omega) only [↓reduceIte, Int.reduceEq, Int.reduceLT, bdI_s, bdV_s, bdR_s, bdL_s, fx_I, fx_R, fx_B, fx_L, w32_of, x_M_felt, hw, sN_up, n1, eidx 0, Int.mul_one, is, bits_or0]
    | true =>
      rw [hb, bI_t] at is
      rw [← bits_yes hv5 (show s_fset S.1 p w (S.2.2.2.2 s).2.2 i m v = true from hb), ev]
      rcases hw with hw | hw
      · unfold s_as at is
        rw [if_pos hw] at is
        simp (disch := first | assumption | omega) only [↓reduceIte, Int.reduceEq, Int.reduceLT, bdI_s, bdV_s, bdR_s, bdL_s, fx_I, fx_R, fx_B, fx_L, w32_of, x_M_felt, hw, sN_up, n1, eidx 0, Int.mul_zero, Int.add_zero, is]
      · unfold s_as at is
        rw [if_neg (by omega)] at is
        simp (disch := first | assumption | omega) only [↓reduceIte, Int.reduceEq, Int.reduceLT, bdI_s, bdV_s, bdR_s, bdL_s, fx_I, fx_R, fx_B, fx_L, w32_of, x_M_felt, hw, sN_up, n1, eidx 0, Int.mul_one, is]
  rw [start, q_loop f (s_fK w) step]
  simp only [f]
  rw [head, if_neg (by omega)]
theorem k_felt {S : am_S} (hE : SE E) (hS : OKS S) (p s l i m w : Int) (hi : -2147483648 ≤ i ∧ i ≤ 2147483647) : BOTH E S (fun u => Rn m_A_felt 0 [vR (some 0), vI p, vI s, vI l, vI i, vI m, vI w, vB false, vB false, vB false, vB false] [] E u) (fun u => Rn m_M_felt 0 [vR (some 149), vI p, vI s, vI l, vI i, vI m, vI w, vB false, vB false, vB false] [] E u) := by
  have cu1 := cuB_1
  have h2 := hS.1.1.2.2.1
  by_cases hp : 0 ≤ p ∧ p < S.1 2
  case neg =>
    refine ⟨-1, S, hS, CA_id fun u hu => ?_, MA_id fun u hu => by simp (disch := first | assumption | omega) only [↓reduceIte, Int.reduceEq, Int.reduceLT, bdI_s, bdV_s, bdR_s, bdL_s, fx_I, fx_R, fx_B, fx_L, w32_of, x_M_felt, m_isPinF (hu.mu hS)]⟩
    by_cases hs : 0 ≤ s ∧ s ≤ 3
    · obtain ⟨s', hs'⟩ : ∃ s' : Nat, s = (s' : Int) := ⟨s.toNat, by omega⟩
      subst hs'
      have sT := r_sheetOfT (u := u) hE (show s' < 4 by omega)
      simp (disch := first | assumption | omega) only [↓reduceIte, Int.reduceEq, Int.reduceLT, bdI_s, bdV_s, bdR_s, bdL_s, fx_I, fx_R, fx_B, fx_L, w32_of, x_A_felt, sT, c_isPinF (hu.cu hS)]
    · simp (disch := first | assumption | omega) only [↓reduceIte, Int.reduceEq, Int.reduceLT, bdI_s, bdV_s, bdR_s, bdL_s, fx_I, fx_R, fx_B, fx_L, w32_of, x_A_felt, r_sheetOfF hE]
  by_cases hs : 0 ≤ s ∧ s ≤ 3
  case neg => exact ⟨-1, S, hS, CA_id fun u hu => by simp (disch := first | assumption | omega) only [↓reduceIte, Int.reduceEq, Int.reduceLT, bdI_s, bdV_s, bdR_s, bdL_s, fx_I, fx_R, fx_B, fx_L, w32_of, x_A_felt, r_sheetOfF hE], MA_id fun u hu => by simp (disch := first | assumption | omega) only [↓reduceIte, Int.reduceEq, Int.reduceLT, bdI_s, bdV_s, bdR_s, bdL_s, fx_I, fx_R, fx_B, fx_L, w32_of, x_M_felt, m_isPinT (hu.mu hS), m_isSheetF]⟩
  obtain ⟨s', hs'⟩ : ∃ s' : Nat, s = (s' : Int) := ⟨s.toNat, by omega⟩
  subst hs'
  have s4 : s' < 4 := by omega
  have hK := sh_B s4
  by_cases hl : 0 ≤ l ∧ l ≤ 3
  case neg => exact ⟨-1, S, hS, CA_id fun u hu => by have sT := r_sheetOfT (u := u) hE s4; simp (disch := first | assumption | omega) only [↓reduceIte, Int.reduceEq, Int.reduceLT, bdI_s, bdV_s, bdR_s, bdL_s, fx_I, fx_R, fx_B, fx_L, w32_of, x_A_felt, sT, c_isPinT (hu.cu hS), r_isLaneF], MA_id fun u hu => by simp (disch := first | assumption | omega) only [↓reduceIte, Int.reduceEq, Int.reduceLT, bdI_s, bdV_s, bdR_s, bdL_s, fx_I, fx_R, fx_B, fx_L, w32_of, x_M_felt, m_isPinT (hu.mu hS), m_isSheetT, m_isLaneF]⟩
  by_cases hm : 1 ≤ m ∧ m ≤ 8
  case neg => exact ⟨-1, S, hS, CA_id fun u hu => by have sT := r_sheetOfT (u := u) hE s4; simp (disch := first | assumption | omega) only [↓reduceIte, Int.reduceEq, Int.reduceLT, bdI_s, bdV_s, bdR_s, bdL_s, fx_I, fx_R, fx_B, fx_L, w32_of, x_A_felt, sT, c_isPinT (hu.cu hS), r_isLaneT, r_isInF], MA_id fun u hu => by simp (disch := first | assumption | omega) only [↓reduceIte, Int.reduceEq, Int.reduceLT, bdI_s, bdV_s, bdR_s, bdL_s, fx_I, fx_R, fx_B, fx_L, w32_of, x_M_felt, m_isPinT (hu.mu hS), m_isSheetT, m_isLaneT, m_inF]⟩
  by_cases hw : 0 ≤ w ∧ w ≤ 1
  case neg => exact ⟨-1, S, hS, CA_id fun u hu => by have sT := r_sheetOfT (u := u) hE s4; simp (disch := first | assumption | omega) only [↓reduceIte, Int.reduceEq, Int.reduceLT, bdI_s, bdV_s, bdR_s, bdL_s, fx_I, fx_R, fx_B, fx_L, w32_of, x_A_felt, sT, c_isPinT (hu.cu hS), r_isLaneT, r_isInT, r_isInF], MA_id fun u hu => by simp (disch := first | assumption | omega) only [↓reduceIte, Int.reduceEq, Int.reduceLT, bdI_s, bdV_s, bdR_s, bdL_s, fx_I, fx_R, fx_B, fx_L, w32_of, x_M_felt, m_isPinT (hu.mu hS), m_isSheetT, m_isLaneT, m_inT, m_inF]⟩
  have hF := hS.2.2.2.2 s' s4
  have rf : ∀ u, CS E u S → Rn m_S_refusal 0 [vR (some (141 + 2 * s')), vI l, vI i, vI m] [] E u = some (some (vI (s_why (S.2.2.2.2 s') l i m)), E, u) := fun u hu => c_refusal hE hK (CSs.sh hu.2.2.2.2.2 s4) hF.2 (by omega)
  have wy : ∀ u, MS E u S → Rn m_M_why 0 [vR (some 149), vI (s' : Int), vI l, vI i, vI m] [] E u = some (some (vI (s_why (S.2.2.2.2 s') l i m)), E, u) := fun u hu => m_why hE hu.2.2.2.2.2 hS.2.2.2.2 s4 hi (by omega)
  rcases s_why_or (S.2.2.2.2 s') l i m with hwy | ⟨hwy, x0, xl, -, i0, i1⟩
  · refine ⟨s_why (S.2.2.2.2 s') l i m, S, hS, CA_id fun u hu => ?_, MA_id fun u hu => ?_⟩
    · have sT := r_sheetOfT (u := u) hE s4
      have q := rf u hu
      generalize s_why (S.2.2.2.2 s') l i m = W at *
      simp (disch := first | assumption | omega) only [↓reduceIte, Int.reduceEq, Int.reduceLT, bdI_s, bdV_s, bdR_s, bdL_s, fx_I, fx_R, fx_B, fx_L, w32_of, x_A_felt, sT, c_isPinT (hu.cu hS), r_isLaneT, r_isInT, q, show ¬ W = 0 by omega]
    · have q := wy u hu
      generalize s_why (S.2.2.2.2 s') l i m = W at *
      simp (disch := first | assumption | omega) only [↓reduceIte, Int.reduceEq, Int.reduceLT, bdI_s, bdV_s, bdR_s, bdL_s, fx_I, fx_R, fx_B, fx_L, w32_of, x_M_felt, m_isPinT (hu.mu hS), m_isSheetT, m_isLaneT, m_inT, q, hwy]
  rw [hwy] at rf wy
  by_cases ho : s_C S.1 p = -4
  · refine ⟨-2, S, hS, CA_id fun u hu => ?_, MA_id fun u hu => ?_⟩
    · have sT := r_sheetOfT (u := u) hE s4
      have q := rf u hu
      have lk := lk_C (hu.cu hS) hp.1 hp.2
      simp (disch := first | assumption | omega) only [↓reduceIte, Int.reduceEq, Int.reduceLT, bdI_s, bdV_s, bdR_s, bdL_s, fx_I, fx_R, fx_B, fx_L, w32_of, x_A_felt, sT, c_isPinT (hu.cu hS), r_isLaneT, r_isInT, q, lk, ho]
    · have q := wy u hu
      have io := m_isOut hE hu.2.1 hp.1 (show p < 7 by omega)
      rw [decide_eq_true ho, bI_t] at io
      simp (disch := first | assumption | omega) only [↓reduceIte, Int.reduceEq, Int.reduceLT, bdI_s, bdV_s, bdR_s, bdL_s, fx_I, fx_R, fx_B, fx_L, w32_of, x_M_felt, m_isPinT (hu.mu hS), m_isSheetT, m_isLaneT, m_inT, q, io]
  obtain ⟨i', hi'⟩ : ∃ i' : Nat, i = (i' : Int) := ⟨i.toNat, by omega⟩
  subst hi'
  obtain ⟨m', hm'⟩ : ∃ m' : Nat, m = (m' : Int) := ⟨m.toNat, by omega⟩
  subst hm'
  have him : i' + m' ≤ 24 := by omega
  refine ⟨(bits (s_fset S.1 p w (S.2.2.2.2 s').2.2 i' m') (s_fK w) : Nat), S, hS, CA_tr fun u hu => ?_, MA_tr fun u hu => ⟨u_as u S.1, ?_, fun i hi => u_as_ne hi⟩⟩
  · obtain ⟨u', e, f⟩ := c_feltT (l := l) (w := w) hE hS hp s4 him hu ho
    refine ⟨u', ?_, f⟩
    have sT := r_sheetOfT (u := u) hE s4
    have q := rf u hu
    have lk := lk_C (hu.cu hS) hp.1 hp.2
    rw [← e]
    clear e
    simp (disch := first | assumption | omega) only [↓reduceIte, Int.reduceEq, Int.reduceLT, bdI_s, bdV_s, bdR_s, bdL_s, fx_I, fx_R, fx_B, fx_L, w32_of, x_A_felt, sT, c_isPinT (hu.cu hS), r_isLaneT, r_isInT, q, lk, ho]
  · have q := wy u hu
    have io := m_isOut hE hu.2.1 hp.1 (show p < 7 by omega)
    rw [decide_eq_false ho, bI_f] at io
    rw [← m_feltT (l := l) (w := w) hE hS hp s4 him (by omega) hu]
    simp (disch := first | assumption | omega) only [↓reduceIte, Int.reduceEq, Int.reduceLT, bdI_s, bdV_s, bdR_s, bdL_s, fx_I, fx_R, fx_B, fx_L, w32_of, x_M_felt, m_isPinT (hu.mu hS), m_isSheetT, m_isLaneT, m_inT, q, io]
theorem s_nar_sm {l v : Int} (h : -4 ≤ v ∧ v ≤ 48) : s_nar l v = v := by
  have a : w32 v = v := w32_of (by omega) (by omega)
  unfold s_nar
  rw [a]
  clear a
  split
  · unfold w8; omega
  · split
    · unfold w16; omega
    · split
      · rfl
      · rfl
/-- the cells behind 1, 2, .. days -/
def s_film (n : am_Row) (p : Int) (o : Nat) : am_Row := fun x => s_C (s_days n (x - o + 1)) p
theorem c_filmT {S : am_S} (hE : SE E) (hS : OKS S) {p l : Int} {s i m : Nat} (hp : 0 ≤ p ∧ p < S.1 2) (s4 : s < 4) (him : i + m ≤ 24) (hl : (S.2.2.2.2 s).1 = l) (l0 : 0 ≤ l) (hu : CS E u S) : ∃ u', Rn m_A_film 63 [vR (some 0), vI p, vI (m : Int), vI (s : Int), vI l, vI (i : Int), vR (some (141 + 2 * s)), vI 0, vB false] [] E u = some (some (vI (m : Int)), E, u') ∧ (∀ j, (j < 8 ∨ 15 ≤ j) → j ≠ 141 + 2 * s + 1 → u' j = u j) ∧ ∀ x, x < 24 → u' (141 + 2 * s + 1) x = s_fil (S.2.2.2.2 s).2.2 (s_film S.1 p i) i m x := by
  have cu1 := cuB_1
  have cu8 := cuB_8
  have hK := sh_B s4
  have hV := hS.1.1
  have h2 := hV.2.2.1
  have d1 := hS.1.2.1
  obtain ⟨q1, q2, q3, q4⟩ := CSs.sh hu.2.2.2.2.2 s4
  have q2' := q2 (by omega)
  rw [hl] at q2'
  have loop : ∀ (d k : Nat), k + d = m → ∀ v, CU E v 8 (s_days S.1 k) → (∀ j, (j < 8 ∨ 15 ≤ j) → j ≠ 141 + 2 * s + 1 → v j = u j) → (∀ x, x < 24 → v (141 + 2 * s + 1) x = s_fil (S.2.2.2.2 s).2.2 (s_film S.1 p i) i k x) → ∃ u', Rn m_A_film 77 [vR (some 0), vI p, vI (m : Int), vI (s : Int), vI l, vI (i : Int), vR (some (141 + 2 * s)), vI 0, vI (k : Int)] [] E v = some (some (vI (m : Int)), E, u') ∧ (∀ j, (j < 8 ∨ 15 ≤ j) → j ≠ 141 + 2 * s + 1 → u' j = u j) ∧ ∀ x, x < 24 → u' (141 + 2 * s + 1) x = s_fil (S.2.2.2.2 s).2.2 (s_film S.1 p i) i m x := by
    intro d
    induction d with
    | zero =>
      intro k hk v hv g1 g2
      have : k = m := by omega
      subst this
      refine ⟨v, ?_, g1, g2⟩
      have lt : ¬ (k : Int) < (k : Int) := by omega
      rw [h_A_film_77]
      simp (disch := assumption) only [↓reduceIte, Int.reduceEq, Int.reduceLT, bdI_s, bdV_s, bdR_s, bdL_s, fx_I, fx_R, fx_B, fx_L, x_A_film, lt]
    | succ d ih =>
      intro k hk v hv g1 g2
      obtain ⟨vi, di, li⟩ := Vn_days hV k
      obtain ⟨vi2, di2, li2⟩ := Vn_days hV (k + 1)
      obtain ⟨v1, e1, h1, f1⟩ := c_goesOn hv (by rw [di]; omega)
      have h1' : CU E v1 8 (s_days S.1 (k + 1)) := h1
      have lk := lk_C h1' hp.1 (by rw [li2 2 (by omega) (by omega)]; exact hp.2)
      have hcp := Vn_pin vi2 hp.1 (by rw [li2 2 (by omega) (by omega)]; exact hp.2)
      have sm := s_nar_sm (l := l) (v := s_C (s_days S.1 (k + 1)) p) (by omega)
      have vK : v1 (141 + 2 * s) 2 = l := by
        rw [f1 _ (by omega), g1 _ (by omega) (by omega)]
        exact q2'
      have wr := c_writes (u := v1) (v := s_C (s_days S.1 (k + 1)) p) hE hK vK (i := i + k) (by omega)
      rw [sm] at wr
      have h6 : i + k < 1000000 := by omega
      have h7 : k < 1000000 := by omega
      have lt : (k : Int) < (m : Int) := by omega
      obtain ⟨u', e', g1', g2'⟩ := ih (k + 1) (by omega) (am_up v1 (141 + 2 * s + 1) (i + k) (s_C (s_days S.1 (k + 1)) p)) ⟨hE, cuB_8, RC_congr (fun z z0 z1 => up_fn (by omega)) h1'.2.2.1, vi2⟩ (fun j j0 j1 => by rw [up_fn j1, f1 j (by omega)]; exact g1 j j0 j1) (fun x hx => by
        rw [← s_fil_s (j := i + k) (v := s_C (s_days S.1 (k + 1)) p) rfl (by unfold s_film; rw [show i + k - i + 1 = k + 1 by omega])]
        by_cases ex : x = i + k
        · subst ex; rw [up_eq, su_eq]
        · rw [up_nj ex, su_ne ex, f1 _ (by omega)]
          exact g2 x hx)
      refine ⟨u', ?_, g1', g2'⟩
      rw [← e', h_A_film_77]
      simp (disch := assumption) only [↓reduceIte, Int.reduceEq, Int.reduceLT, bdI_s, bdV_s, bdR_s, bdL_s, fx_I, fx_R, fx_B, fx_L, x_A_film, lt, e1, lk, w_add h6, wr, w_suc h7]
  obtain ⟨u1, e1, h1, f1⟩ := c_trial hE hS hu
  obtain ⟨u', e, g1, g2⟩ := loop m 0 (by omega) u1 h1 (fun j j0 _ => f1 j (by omega)) (fun x hx => by rw [s_fil_0, f1 _ (by omega)]; exact q4 x hx)
  refine ⟨u', ?_, g1, g2⟩
  rw [← e]
  simp (disch := assumption) only [↓reduceIte, Int.reduceEq, Int.reduceLT, bdI_s, bdV_s, bdR_s, bdL_s, fx_I, fx_R, fx_B, fx_L, x_A_film, e1]
  rfl
theorem sN_aS9 (u : am_M) (X r : am_Row) : sN (aS u 159 X) r = aS (sN u r) 159 X := by
  funext i
  show (if i = 150 then r else if i = 159 then X else u i) = (if i = 159 then X else if i = 150 then r else u i)
  by_cases h : i = 150
  · subst h; rfl
  · rw [if_neg h, if_neg h]
theorem m_filmT {S : am_S} (hE : SE E) (hS : OKS S) {p l : Int} {s i m : Nat} (hp : 0 ≤ p ∧ p < S.1 2) (s4 : s < 4) (him : i + m ≤ 24) (hu : MS E u S) : Rn m_M_film 57 [vR (some 149), vI p, vI (m : Int), vI (s : Int), vI l, vI (i : Int), vI 0, vB false] [] E u = some (some (vI (m : Int)), E, aS (u_as u S.1) 159 (s_fil (u 159) (s_film S.1 p (24 * s + i)) (24 * s + i) m)) := by
  have hV := hS.1.1
  have h2 := hV.2.2.1
  have d1 := hS.1.2.1
  have hz := hS.1.2.2.2
  have hm := u_as_mu (hu.mu hS)
  obtain ⟨l0, l1, l2, l3, l4, l5, l6, l7, l8, l9, l10⟩ := al_m hE
  have e1 := m_asides' hE hu.2.1
  have z9 : aS (u_as u S.1) 159 (u 159) = u_as u S.1 := by
    have := aS_self (u_as u S.1) 159
    rw [show u_as u S.1 159 = u 159 from u_as_ne (by omega)] at this
    exact this
  let f : Nat → am_Z := fun k => Rn m_M_film 64 [vR (some 149), vI p, vI (m : Int), vI (s : Int), vI l, vI (i : Int), vI 0, vI (k : Int)] [] E (aS (sN (u_as u S.1) (s_days S.1 k)) 159 (s_fil (u 159) (s_film S.1 p (24 * s + i)) (24 * s + i) k))
  have start : Rn m_M_film 57 [vR (some 149), vI p, vI (m : Int), vI (s : Int), vI l, vI (i : Int), vI 0, vB false] [] E u = f 0 := by
    have z : sN (u_as u S.1) (s_days S.1 0) = u_as u S.1 := u_as_back hu.2.1
    simp only [f, s_fil_0]
    rw [z, z9]
    simp (disch := assumption) only [↓reduceIte, Int.reduceEq, Int.reduceLT, bdI_s, bdV_s, bdR_s, bdL_s, fx_I, fx_R, fx_B, fx_L, x_M_film, e1]
    rfl
  have step : ∀ k, k < m → f k = f (k + 1) := by
    intro k hk
    obtain ⟨vi, di, li⟩ := Vn_days hV k
    have hMU : MU E (aS (sN (u_as u S.1) (s_days S.1 k)) 159 (s_fil (u 159) (s_film S.1 p (24 * s + i)) (24 * s + i) k)) (s_days S.1 k) := ⟨hE, by rw [aS_ne _ _ (by omega), sN_150], vi⟩
    have st := m_goesBy hMU (by rw [di]; omega)
    rw [sN_aS9, sN_sN] at st
    have e2 : s_day (s_days S.1 k) = s_days S.1 (k + 1) := rfl
    rw [e2] at st
    have ce := m_cellOf (u := aS (sN (u_as u S.1) (s_days S.1 (k + 1))) 159 (s_fil (u 159) (s_film S.1 p (24 * s + i)) (24 * s + i) k)) (n := s_days S.1 (k + 1)) hE (by rw [aS_ne _ _ (by omega), sN_150]) hp.1 (show p < 7 by omega)
    have hx : (24 * (s : Int) + (i : Int) + (k : Int)).toNat = 24 * s + i + k := by omega
    simp only [f]
    rw [h_M_film_64]
    simp (disch := first | assumption | omega) only [↓reduceIte, Int.reduceEq, Int.reduceLT, bdI_s, bdV_s, bdR_s, bdL_s, fx_I, fx_R, fx_B, fx_L, w32_of, x_M_film, show (k : Int) < (m : Int) by omega, st, ce, aS_up]
    rw [s_fil_s (o := 24 * s + i) (i := k) hx (by unfold s_film; rw [hx, show 24 * s + i + k - (24 * s + i) + 1 = k + 1 by omega])]
    rfl
  rw [start, q_loop f m step]
  simp only [f]
  rw [h_M_film_64]
  have lt : ¬ (m : Int) < (m : Int) := by omega
  have bk := m_backs (u := aS (sN (u_as u S.1) (s_days S.1 m)) 159 (s_fil (u 159) (s_film S.1 p (24 * s + i)) (24 * s + i) m)) (n := S.1) hE (by rw [aS_ne _ _ (by omega), sN_150]; exact Zn_days hV hz m) hz (fun j hj => by rw [aS_ne _ _ (by omega), sN_ne _ _ (by omega)]; exact u_as_155 j hj)
  rw [sN_aS9, sN_sN, u_as_back hu.2.1] at bk
  simp (disch := assumption) only [↓reduceIte, Int.reduceEq, Int.reduceLT, bdI_s, bdV_s, bdR_s, bdL_s, fx_I, fx_R, fx_B, fx_L, x_M_film, lt, bk]
theorem k_film {S : am_S} (hE : SE E) (hS : OKS S) (p m s l i : Int) (hi : -2147483648 ≤ i ∧ i ≤ 2147483647) : BOTH E S (fun u => Rn m_A_film 0 [vR (some 0), vI p, vI m, vI s, vI l, vI i, vB false, vB false, vB false] [] E u) (fun u => Rn m_M_film 0 [vR (some 149), vI p, vI m, vI s, vI l, vI i, vB false, vB false] [] E u) := by
  have cu1 := cuB_1
  have h2 := hS.1.1.2.2.1
  by_cases hp : 0 ≤ p ∧ p < S.1 2
  case neg =>
    refine ⟨-1, S, hS, CA_id fun u hu => ?_, MA_id fun u hu => by simp (disch := first | assumption | omega) only [↓reduceIte, Int.reduceEq, Int.reduceLT, bdI_s, bdV_s, bdR_s, bdL_s, fx_I, fx_R, fx_B, fx_L, w32_of, x_M_film, m_isPinF (hu.mu hS)]⟩
    by_cases hs : 0 ≤ s ∧ s ≤ 3
    · obtain ⟨s', hs'⟩ : ∃ s' : Nat, s = (s' : Int) := ⟨s.toNat, by omega⟩
      subst hs'
      have sT := r_sheetOfT (u := u) hE (show s' < 4 by omega)
      simp (disch := first | assumption | omega) only [↓reduceIte, Int.reduceEq, Int.reduceLT, bdI_s, bdV_s, bdR_s, bdL_s, fx_I, fx_R, fx_B, fx_L, w32_of, x_A_film, sT, c_isPinF (hu.cu hS)]
    · simp (disch := first | assumption | omega) only [↓reduceIte, Int.reduceEq, Int.reduceLT, bdI_s, bdV_s, bdR_s, bdL_s, fx_I, fx_R, fx_B, fx_L, w32_of, x_A_film, r_sheetOfF hE]
  by_cases hm : 1 ≤ m ∧ m ≤ 24
  case neg =>
    refine ⟨-1, S, hS, CA_id fun u hu => ?_, MA_id fun u hu => by simp (disch := first | assumption | omega) only [↓reduceIte, Int.reduceEq, Int.reduceLT, bdI_s, bdV_s, bdR_s, bdL_s, fx_I, fx_R, fx_B, fx_L, w32_of, x_M_film, m_isPinT (hu.mu hS), m_inF]⟩
    by_cases hs : 0 ≤ s ∧ s ≤ 3
    · obtain ⟨s', hs'⟩ : ∃ s' : Nat, s = (s' : Int) := ⟨s.toNat, by omega⟩
      subst hs'
      have sT := r_sheetOfT (u := u) hE (show s' < 4 by omega)
      simp (disch := first | assumption | omega) only [↓reduceIte, Int.reduceEq, Int.reduceLT, bdI_s, bdV_s, bdR_s, bdL_s, fx_I, fx_R, fx_B, fx_L, w32_of, x_A_film, sT, c_isPinT (hu.cu hS), r_isInF]
    · simp (disch := first | assumption | omega) only [↓reduceIte, Int.reduceEq, Int.reduceLT, bdI_s, bdV_s, bdR_s, bdL_s, fx_I, fx_R, fx_B, fx_L, w32_of, x_A_film, r_sheetOfF hE]
  by_cases hs : 0 ≤ s ∧ s ≤ 3
  case neg => exact ⟨-1, S, hS, CA_id fun u hu => by simp (disch := first | assumption | omega) only [↓reduceIte, Int.reduceEq, Int.reduceLT, bdI_s, bdV_s, bdR_s, bdL_s, fx_I, fx_R, fx_B, fx_L, w32_of, x_A_film, r_sheetOfF hE], MA_id fun u hu => by simp (disch := first | assumption | omega) only [↓reduceIte, Int.reduceEq, Int.reduceLT, bdI_s, bdV_s, bdR_s, bdL_s, fx_I, fx_R, fx_B, fx_L, w32_of, x_M_film, m_isPinT (hu.mu hS), m_inT, m_isSheetF]⟩
  obtain ⟨s', hs'⟩ : ∃ s' : Nat, s = (s' : Int) := ⟨s.toNat, by omega⟩
  subst hs'
  have s4 : s' < 4 := by omega
  have hK := sh_B s4
  by_cases hl : 0 ≤ l ∧ l ≤ 3
  case neg => exact ⟨-1, S, hS, CA_id fun u hu => by have sT := r_sheetOfT (u := u) hE s4; simp (disch := first | assumption | omega) only [↓reduceIte, Int.reduceEq, Int.reduceLT, bdI_s, bdV_s, bdR_s, bdL_s, fx_I, fx_R, fx_B, fx_L, w32_of, x_A_film, sT, c_isPinT (hu.cu hS), r_isInT, r_isLaneF], MA_id fun u hu => by simp (disch := first | assumption | omega) only [↓reduceIte, Int.reduceEq, Int.reduceLT, bdI_s, bdV_s, bdR_s, bdL_s, fx_I, fx_R, fx_B, fx_L, w32_of, x_M_film, m_isPinT (hu.mu hS), m_inT, m_isSheetT, m_isLaneF]⟩
  have hF := hS.2.2.2.2 s' s4
  have rf : ∀ u, CS E u S → Rn m_S_refusal 0 [vR (some (141 + 2 * s')), vI l, vI i, vI m] [] E u = some (some (vI (s_why (S.2.2.2.2 s') l i m)), E, u) := fun u hu => c_refusal hE hK (CSs.sh hu.2.2.2.2.2 s4) hF.2 (by omega)
  have wy : ∀ u, MS E u S → Rn m_M_why 0 [vR (some 149), vI (s' : Int), vI l, vI i, vI m] [] E u = some (some (vI (s_why (S.2.2.2.2 s') l i m)), E, u) := fun u hu => m_why hE hu.2.2.2.2.2 hS.2.2.2.2 s4 hi (by omega)
  rcases s_why_or (S.2.2.2.2 s') l i m with hwy | ⟨hwy, x0, xl, -, i0, i1⟩
  · refine ⟨s_why (S.2.2.2.2 s') l i m, S, hS, CA_id fun u hu => ?_, MA_id fun u hu => ?_⟩
    · have sT := r_sheetOfT (u := u) hE s4
      have q := rf u hu
      generalize s_why (S.2.2.2.2 s') l i m = W at *
      simp (disch := first | assumption | omega) only [↓reduceIte, Int.reduceEq, Int.reduceLT, bdI_s, bdV_s, bdR_s, bdL_s, fx_I, fx_R, fx_B, fx_L, w32_of, x_A_film, sT, c_isPinT (hu.cu hS), r_isLaneT, r_isInT, q, show ¬ W = 0 by omega]
    · have q := wy u hu
      generalize s_why (S.2.2.2.2 s') l i m = W at *
      simp (disch := first | assumption | omega) only [↓reduceIte, Int.reduceEq, Int.reduceLT, bdI_s, bdV_s, bdR_s, bdL_s, fx_I, fx_R, fx_B, fx_L, w32_of, x_M_film, m_isPinT (hu.mu hS), m_isSheetT, m_isLaneT, m_inT, q, hwy]
  rw [hwy] at rf wy
  obtain ⟨i', hi'⟩ : ∃ i' : Nat, i = (i' : Int) := ⟨i.toNat, by omega⟩
  subst hi'
  obtain ⟨m', hm'⟩ : ∃ m' : Nat, m = (m' : Int) := ⟨m.toNat, by omega⟩
  subst hm'
  have him : i' + m' ≤ 24 := by omega
  refine ⟨(m' : Int), (S.1, S.2.1, S.2.2.1, S.2.2.2.1, s_fs S.2.2.2.2 s' ((S.2.2.2.2 s').1, (S.2.2.2.2 s').2.1, s_fil (S.2.2.2.2 s').2.2 (s_film S.1 p i') i' m')), OKS_sheet hS (OKs_fs hS.2.2.2.2 hF), fun u hu => ?_, fun u hu => ?_⟩
  · obtain ⟨u', e, g1, g2⟩ := c_filmT (l := l) hE hS hp s4 him xl (by omega) hu
    obtain ⟨q1, q2, q3, q4⟩ := CSs.sh hu.2.2.2.2.2 s4
    have sT := r_sheetOfT (u := u) hE s4
    have q := rf u hu
    refine ⟨u', ?_, CS_sheet s4 hu (fun j _ j0 j1 j2 => g1 j j2 (by omega)) ⟨by rw [g1 _ (by omega) (by omega)]; exact q1, fun z => by rw [g1 _ (by omega) (by omega)]; exact q2 z, by rw [g1 _ (by omega) (by omega)]; exact q3, fun t ht => g2 t ht⟩, fun j hj => g1 j (by omega) (by omega)⟩
    rw [← e]
    clear e
    simp (disch := first | assumption | omega) only [↓reduceIte, Int.reduceEq, Int.reduceLT, bdI_s, bdV_s, bdR_s, bdL_s, fx_I, fx_R, fx_B, fx_L, w32_of, x_A_film, sT, c_isPinT (hu.cu hS), r_isLaneT, r_isInT, q]
  · have q := wy u hu
    have g0 : ∀ j, j ≠ 155 → j ≠ 159 → aS (u_as u S.1) 159 (s_fil (u 159) (s_film S.1 p (24 * s' + i')) (24 * s' + i') m') j = u j := fun j j0 j1 => by rw [aS_ne _ _ j1, u_as_ne j0]
    refine ⟨aS (u_as u S.1) 159 (s_fil (u 159) (s_film S.1 p (24 * s' + i')) (24 * s' + i') m'), ?_, MS_sheet (u' := aS (u_as u S.1) 159 (s_fil (u 159) (s_film S.1 p (24 * s' + i')) (24 * s' + i') m')) hu (fun j _ j0 _ _ j1 _ => g0 j j0 j1) (fun t ht => ?_), fun j hj => g0 j (by omega) (by omega)⟩
    · rw [← m_filmT (l := l) hE hS hp s4 him hu]
      simp (disch := first | assumption | omega) only [↓reduceIte, Int.reduceEq, Int.reduceLT, bdI_s, bdV_s, bdR_s, bdL_s, fx_I, fx_R, fx_B, fx_L, w32_of, x_M_film, m_isPinT (hu.mu hS), m_isSheetT, m_isLaneT, m_inT, q]
    · rw [g0 157 (by omega) (by omega), g0 158 (by omega) (by omega), aS_eq]
      obtain ⟨z1, z2, z3⟩ := hu.2.2.2.2.2 t ht
      by_cases et : t = s'
      · subst et
        rw [s_fs_eq]
        refine ⟨z1, z2, fun x hx => ?_⟩
        show s_fil (u 159) (s_film S.1 p (24 * t + i')) (24 * t + i') m' (24 * t + x) = s_fil (S.2.2.2.2 t).2.2 (s_film S.1 p i') i' m' x
        by_cases hin : i' ≤ x ∧ x < i' + m'
        · rw [s_fil_in (by omega), s_fil_in hin]
          unfold s_film
          rw [show 24 * t + x - (24 * t + i') + 1 = x - i' + 1 by omega]
        · rw [s_fil_out (by omega), s_fil_out hin]
          exact z3 x hx
      · rw [s_fs_ne et]
        exact ⟨z1, z2, fun x hx => by rw [s_fil_out (by omega)]; exact z3 x hx⟩

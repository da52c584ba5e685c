/-! Sheets. -/
variable {E : am_E} {u : am_M} {k : Nat} {n : am_Row}
abbrev am_Sh : Type := Int × Int × (Nat → Int)
theorem r_sheetOfT (hE : SE E) {s : Nat} (hs : s < 4) : Rn m_A_sheetOf 0 [vR (some 0), vI (s : Int)] [] E u = some (some (vR (some (141 + 2 * s))), E, u) := by
  obtain ⟨al, kn⟩ := al_s hE
  have ss := SE_ss hE hs
  have c1 : ¬ (s : Int) < 0 := by omega
  have c2 : (s : Int) < 4 := by omega
  have c3 : (0 : Int) ≤ (s : Int) := by omega
  have c4 : (s : Int) < am_len 13 E 140 := by omega
  simp (disch := assumption) only [↓reduceIte, Int.reduceEq, Int.reduceLT, bdI_s, bdV_s, bdR_s, bdL_s, fx_I, fx_R, fx_B, fx_L, x_A_sheetOf, c1, al, kn, c2, Int.toNat_natCast, ss]
theorem r_sheetOfF (hE : SE E) {s : Int} (hs : ¬ (0 ≤ s ∧ s ≤ 3)) : Rn m_A_sheetOf 0 [vR (some 0), vI s] [] E u = some (some (vR none), E, u) := by
  obtain ⟨al, kn⟩ := al_s hE
  by_cases c1 : s < 0
  · simp (disch := assumption) only [↓reduceIte, Int.reduceEq, Int.reduceLT, bdI_s, bdV_s, bdR_s, bdL_s, fx_I, fx_R, fx_B, fx_L, x_A_sheetOf, c1]
  · have c2 : ¬ s < 4 := by omega
    simp (disch := assumption) only [↓reduceIte, Int.reduceEq, Int.reduceLT, bdI_s, bdV_s, bdR_s, bdL_s, fx_I, fx_R, fx_B, fx_L, x_A_sheetOf, c1, al, kn, c2]
theorem r_isLaneT {l : Int} (h : 0 ≤ l ∧ l ≤ 3) : Rn m_A_isLane 0 [vI l] [] E u = some (some (vI 1), E, u) := by
  simp (disch := first | assumption | omega) only [↓reduceIte, Int.reduceEq, Int.reduceLT, bdI_s, bdV_s, bdR_s, bdL_s, fx_I, fx_R, fx_B, fx_L, w32_of, x_A_isLane, r_isInT]
theorem r_isLaneF {l : Int} (h : ¬ (0 ≤ l ∧ l ≤ 3)) : Rn m_A_isLane 0 [vI l] [] E u = some (some (vI 0), E, u) := by
  simp (disch := first | assumption | omega) only [↓reduceIte, Int.reduceEq, Int.reduceLT, bdI_s, bdV_s, bdR_s, bdL_s, fx_I, fx_R, fx_B, fx_L, w32_of, x_A_isLane, r_isInF]
theorem m_isLaneT {l : Int} (h : 0 ≤ l ∧ l ≤ 3) : Rn m_M_isLane 0 [vI l] [] E u = some (some (vI 1), E, u) := by
  simp (disch := first | assumption | omega) only [↓reduceIte, Int.reduceEq, Int.reduceLT, bdI_s, bdV_s, bdR_s, bdL_s, fx_I, fx_R, fx_B, fx_L, w32_of, x_M_isLane, m_inT]
theorem m_isLaneF {l : Int} (h : ¬ (0 ≤ l ∧ l ≤ 3)) : Rn m_M_isLane 0 [vI l] [] E u = some (some (vI 0), E, u) := by
  simp (disch := first | assumption | omega) only [↓reduceIte, Int.reduceEq, Int.reduceLT, bdI_s, bdV_s, bdR_s, bdL_s, fx_I, fx_R, fx_B, fx_L, w32_of, x_M_isLane, m_inF]
theorem m_isSheetT {l : Int} (h : 0 ≤ l ∧ l ≤ 3) : Rn m_M_isSheet 0 [vI l] [] E u = some (some (vI 1), E, u) := by
  simp (disch := first | assumption | omega) only [↓reduceIte, Int.reduceEq, Int.reduceLT, bdI_s, bdV_s, bdR_s, bdL_s, fx_I, fx_R, fx_B, fx_L, w32_of, x_M_isSheet, m_inT]
theorem m_isSheetF {l : Int} (h : ¬ (0 ≤ l ∧ l ≤ 3)) : Rn m_M_isSheet 0 [vI l] [] E u = some (some (vI 0), E, u) := by
  simp (disch := first | assumption | omega) only [↓reduceIte, Int.reduceEq, Int.reduceLT, bdI_s, bdV_s, bdR_s, bdL_s, fx_I, fx_R, fx_B, fx_L, w32_of, x_M_isSheet, m_inF]
/-- a sheet of the class -/
def SH (u : am_M) (K : Nat) (x : am_Sh) : Prop := u K 1 = bI (decide (x.1 < 0)) ∧ (0 ≤ x.1 → u K 2 = x.1) ∧ u K 3 = x.2.1 ∧ ∀ i, i < 24 → u (K + 1) i = x.2.2 i
theorem CSs.sh {F : Nat → am_Sh} (h : CSs u F) {s : Nat} (hs : s < 4) : SH u (141 + 2 * s) (F s) := by
  obtain ⟨a, b, c, d⟩ := h s hs
  refine ⟨a, b, c, fun i hi => ?_⟩
  rw [show 141 + 2 * s + 1 = 142 + 2 * s by omega]
  exact d i hi
theorem CSs.of {F : Nat → am_Sh} (h : ∀ s, s < 4 → SH u (141 + 2 * s) (F s)) : CSs u F := fun s hs => by
  obtain ⟨a, b, c, d⟩ := h s hs
  refine ⟨a, b, c, fun i hi => ?_⟩
  rw [show 142 + 2 * s = 141 + 2 * s + 1 by omega]
  exact d i hi
theorem SH_congr {u' : am_M} {K : Nat} {x : am_Sh} (h0 : u' K = u K) (h1 : u' (K + 1) = u (K + 1)) (h : SH u K x) : SH u' K x := by
  unfold SH
  rw [h0, h1]
  exact h
/-- one sheet becomes another -/
def s_fs (F : Nat → am_Sh) (s : Nat) (x : am_Sh) : Nat → am_Sh := fun t => if t = s then x else F t
theorem s_fs_eq {F : Nat → am_Sh} {s : Nat} {x : am_Sh} : s_fs F s x s = x := by unfold s_fs; rw [if_pos rfl]
theorem s_fs_ne {F : Nat → am_Sh} {s t : Nat} {x : am_Sh} (h : t ≠ s) : s_fs F s x t = F t := by unfold s_fs; rw [if_neg h]
theorem OKs_fs {F : Nat → am_Sh} (h : OKs F) {s : Nat} {x : am_Sh} (hx : (-1 ≤ x.1 ∧ x.1 ≤ 3) ∧ (0 ≤ x.2.1 ∧ x.2.1 ≤ 24)) : OKs (s_fs F s x) := fun t ht => by
  by_cases e : t = s
  · subst e; rw [s_fs_eq]; exact hx
  · rw [s_fs_ne e]; exact h t ht
/-- why items are refused; 0 -/
def s_why (x : am_Sh) (l i m : Int) : Int := if x.1 < 0 then -11 else if x.1 ≠ l then -12 else if 0 ≤ m ∧ 0 ≤ i ∧ i ≤ x.2.1 - m then 0 else -13
theorem s_why_or (x : am_Sh) (l i m : Int) : s_why x l i m < 0 ∨ (s_why x l i m = 0 ∧ 0 ≤ x.1 ∧ x.1 = l ∧ 0 ≤ m ∧ 0 ≤ i ∧ i ≤ x.2.1 - m) := by
  unfold s_why
  split
  · left; omega
  split
  · left; omega
  split
  · rename_i h1 h2 h3
    right
    exact ⟨rfl, by omega, by omega, h3⟩
  · left; omega
theorem c_hasItemsT (hE : SE E) {K : Nat} (hK : shB K) {len i m : Int} (h3 : u K 3 = len) (hl : 0 ≤ len ∧ len ≤ 24) (hm : m ≤ 2147483647) (h : 0 ≤ m ∧ 0 ≤ i ∧ i ≤ len - m) : Rn m_S_hasItems 0 [vR (some K), vI i, vI m] [] E u = some (some (vI 1), E, u) := by
  have c1 : ¬ m < 0 := by omega
  have c2 : ¬ i < 0 := by omega
  have c3 : ¬ len - m < i := by omega
  have w : w32 (len - m) = len - m := w32_of (by omega) (by omega)
  simp (disch := assumption) only [↓reduceIte, Int.reduceEq, Int.reduceLT, bdI_s, bdV_s, bdR_s, bdL_s, fx_I, fx_R, fx_B, fx_L, x_S_hasItems, c1, c2, h3, w, c3]
theorem c_hasItemsF (hE : SE E) {K : Nat} (hK : shB K) {len i m : Int} (h3 : u K 3 = len) (hl : 0 ≤ len ∧ len ≤ 24) (hm : m ≤ 2147483647) (h : ¬ (0 ≤ m ∧ 0 ≤ i ∧ i ≤ len - m)) : Rn m_S_hasItems 0 [vR (some K), vI i, vI m] [] E u = some (some (vI 0), E, u) := by
  by_cases c1 : m < 0
  · simp (disch := assumption) only [↓reduceIte, Int.reduceEq, Int.reduceLT, bdI_s, bdV_s, bdR_s, bdL_s, fx_I, fx_R, fx_B, fx_L, x_S_hasItems, c1]
  by_cases c2 : i < 0
  · simp (disch := assumption) only [↓reduceIte, Int.reduceEq, Int.reduceLT, bdI_s, bdV_s, bdR_s, bdL_s, fx_I, fx_R, fx_B, fx_L, x_S_hasItems, c1, c2]
  have c3 : len - m < i := by omega
  have w : w32 (len - m) = len - m := w32_of (by omega) (by omega)
  simp (disch := assumption) only [↓reduceIte, Int.reduceEq, Int.reduceLT, bdI_s, bdV_s, bdR_s, bdL_s, fx_I, fx_R, fx_B, fx_L, x_S_hasItems, c1, c2, h3, w, c3]
theorem c_refusal (hE : SE E) {K : Nat} (hK : shB K) {x : am_Sh} (h : SH u K x) (hl : 0 ≤ x.2.1 ∧ x.2.1 ≤ 24) {l i m : Int} (hm : m ≤ 2147483647) : Rn m_S_refusal 0 [vR (some K), vI l, vI i, vI m] [] E u = some (some (vI (s_why x l i m)), E, u) := by
  obtain ⟨h1, h2, h3, h4⟩ := h
  unfold s_why
  by_cases c1 : x.1 < 0
  · rw [decide_eq_true c1, bI_t] at h1
    rw [if_pos c1]
    simp (disch := assumption) only [↓reduceIte, Int.reduceEq, Int.reduceLT, bdI_s, bdV_s, bdR_s, bdL_s, fx_I, fx_R, fx_B, fx_L, x_S_refusal, h1]
  rw [decide_eq_false c1, bI_f] at h1
  rw [if_neg c1]
  have h2' := h2 (by omega)
  by_cases c2 : l = x.1
  · rw [if_neg (by omega)]
    by_cases c3 : 0 ≤ m ∧ 0 ≤ i ∧ i ≤ x.2.1 - m
    · rw [if_pos c3]
      have q := c_hasItemsT hE hK h3 hl hm c3
      simp (disch := assumption) only [↓reduceIte, Int.reduceEq, Int.reduceLT, bdI_s, bdV_s, bdR_s, bdL_s, fx_I, fx_R, fx_B, fx_L, x_S_refusal, h1, h2', c2, q]
    · rw [if_neg c3]
      have q := c_hasItemsF hE hK h3 hl hm c3
      simp (disch := assumption) only [↓reduceIte, Int.reduceEq, Int.reduceLT, bdI_s, bdV_s, bdR_s, bdL_s, fx_I, fx_R, fx_B, fx_L, x_S_refusal, h1, h2', c2, q]
  · rw [if_pos (fun z => c2 z.symm)]
    simp (disch := assumption) only [↓reduceIte, Int.reduceEq, Int.reduceLT, bdI_s, bdV_s, bdR_s, bdL_s, fx_I, fx_R, fx_B, fx_L, x_S_refusal, h1, h2', c2]
theorem m_why (hE : SE E) {F : Nat → am_Sh} (h : MSs u F) (hF : OKs F) {s : Nat} (hs : s < 4) {l i m : Int} (hi : -2147483648 ≤ i ∧ i ≤ 2147483647) (hm : -2147483648 ≤ m ∧ m ≤ 2147483647) : Rn m_M_why 0 [vR (some 149), vI (s : Int), vI l, vI i, vI m] [] E u = some (some (vI (s_why (F s) l i m)), E, u) := by
  obtain ⟨l0, l1, l2, l3, l4, l5, l6, l7, l8, l9, l10⟩ := al_m hE
  obtain ⟨a, b, c⟩ := h s hs
  obtain ⟨-, hl⟩ := hF s hs
  generalize F s = x at *
  have a0 : (0 : Int) ≤ (s : Int) := by omega
  have a7 : (s : Int) < am_len 10 E 157 := by omega
  have a8 : (s : Int) < am_len 10 E 158 := by omega
  have w : w64 (i + m) = i + m := w64_of (by omega) (by omega)
  unfold s_why
  by_cases c1 : x.1 < 0
  · rw [if_pos c1]
    simp (disch := assumption) only [↓reduceIte, Int.reduceEq, Int.reduceLT, bdI_s, bdV_s, bdR_s, bdL_s, fx_I, fx_R, fx_B, fx_L, x_M_why, Int.toNat_natCast, a, c1]
  rw [if_neg c1]
  by_cases c2 : x.1 = l
  · have c1' : ¬ l < 0 := by omega
    rw [if_neg (by omega)]
    by_cases c3 : i < 0
    · rw [if_neg (by omega)]
      simp (disch := assumption) only [↓reduceIte, Int.reduceEq, Int.reduceLT, bdI_s, bdV_s, bdR_s, bdL_s, fx_I, fx_R, fx_B, fx_L, x_M_why, Int.toNat_natCast, a, c1', c2, c3]
    by_cases c4 : m < 0
    · rw [if_neg (by omega)]
      simp (disch := assumption) only [↓reduceIte, Int.reduceEq, Int.reduceLT, bdI_s, bdV_s, bdR_s, bdL_s, fx_I, fx_R, fx_B, fx_L, x_M_why, Int.toNat_natCast, a, c1', c2, c3, c4]
    by_cases c5 : x.2.1 < i + m
    · rw [if_neg (by omega)]
      simp (disch := assumption) only [↓reduceIte, Int.reduceEq, Int.reduceLT, bdI_s, bdV_s, bdR_s, bdL_s, fx_I, fx_R, fx_B, fx_L, x_M_why, Int.toNat_natCast, a, b, c1', c2, c3, c4, w, lc_gt, c5]
    · rw [if_pos (by omega)]
      simp (disch := assumption) only [↓reduceIte, Int.reduceEq, Int.reduceLT, bdI_s, bdV_s, bdR_s, bdL_s, fx_I, fx_R, fx_B, fx_L, x_M_why, Int.toNat_natCast, a, b, c1', c2, c3, c4, w, lc_gt, c5]
  · rw [if_pos c2]
    simp (disch := assumption) only [↓reduceIte, Int.reduceEq, Int.reduceLT, bdI_s, bdV_s, bdR_s, bdL_s, fx_I, fx_R, fx_B, fx_L, x_M_why, Int.toNat_natCast, a, c1, c2]
/-- a number narrowed to a lane -/
def s_nar (l v : Int) : Int := if l = 0 then w8 (w32 v) else if l = 1 then w16 (w32 v) else if l = 2 then w32 v else v
theorem c_narrowed (hE : SE E) {K : Nat} (hK : shB K) {l v : Int} (h2 : u K 2 = l) : Rn m_S_narrowed 0 [vR (some K), vL v, vB false] [] E u = some (some (vL (s_nar l v)), E, u) := by
  unfold s_nar
  by_cases c0 : l = 0
  · rw [if_pos c0]
    simp (disch := assumption) only [↓reduceIte, Int.reduceEq, Int.reduceLT, bdI_s, bdV_s, bdR_s, bdL_s, fx_I, fx_R, fx_B, fx_L, x_S_narrowed, h2, c0]
  by_cases c1 : l = 1
  · rw [if_neg c0, if_pos c1]
    simp (disch := assumption) only [↓reduceIte, Int.reduceEq, Int.reduceLT, bdI_s, bdV_s, bdR_s, bdL_s, fx_I, fx_R, fx_B, fx_L, x_S_narrowed, h2, c1]
  by_cases c2 : l = 2
  · rw [if_neg c0, if_neg c1, if_pos c2]
    simp (disch := assumption) only [↓reduceIte, Int.reduceEq, Int.reduceLT, bdI_s, bdV_s, bdR_s, bdL_s, fx_I, fx_R, fx_B, fx_L, x_S_narrowed, h2, c2]
  · rw [if_neg c0, if_neg c1, if_neg c2]
    simp (disch := assumption) only [↓reduceIte, Int.reduceEq, Int.reduceLT, bdI_s, bdV_s, bdR_s, bdL_s, fx_I, fx_R, fx_B, fx_L, x_S_narrowed, h2, c0, c1, c2]
theorem c_writes (hE : SE E) {K : Nat} (hK : shB K) {l v : Int} (h2 : u K 2 = l) {i : Nat} (hi : i < 24) : Rn m_S_writes 0 [vR (some K), vI (i : Int), vL v, vB false] [] E u = some (none, E, am_up u (K + 1) i (s_nar l v)) := by
  obtain ⟨al, kn⟩ := al_h hE hK
  have c1 : ¬ (i : Int) < 0 := by omega
  have c2 : (i : Int) < 24 := by omega
  have c3 : (0 : Int) ≤ (i : Int) := by omega
  have c4 : (i : Int) < am_len 11 E (K + 1) := by omega
  simp (disch := assumption) only [↓reduceIte, Int.reduceEq, Int.reduceLT, bdI_s, bdV_s, bdR_s, bdL_s, fx_I, fx_R, fx_B, fx_L, x_S_writes, c1, al, kn, c2, c_narrowed hE hK h2, Int.toNat_natCast]
theorem c_itemAt (hE : SE E) {K : Nat} (hK : shB K) {i : Nat} (hi : i < 24) : Rn m_S_itemAt 0 [vR (some K), vI (i : Int)] [] E u = some (some (vL (u (K + 1) i)), E, u) := by
  obtain ⟨al, kn⟩ := al_h hE hK
  have c1 : ¬ (i : Int) < 0 := by omega
  have c2 : (i : Int) < 24 := by omega
  have c3 : (0 : Int) ≤ (i : Int) := by omega
  have c4 : (i : Int) < am_len 11 E (K + 1) := by omega
  simp (disch := assumption) only [↓reduceIte, Int.reduceEq, Int.reduceLT, bdI_s, bdV_s, bdR_s, bdL_s, fx_I, fx_R, fx_B, fx_L, x_S_itemAt, c1, al, kn, c2, Int.toNat_natCast]
theorem j_fillL {a m : Nat} {v : Int} (ha : am_kn E a = 11) (la : am_len 11 E a = m) (hm : m ≤ 10000) : Rn m_J_fillL 0 [vR (some a), vL v, vB false, vB false, vB false] [] E u = some (none, E, aS u a (s_fil (u a) (fun _ => v) 0 m)) := by
  let f : Nat → am_Z := fun i => Rn m_J_fillL 6 [vR (some a), vL v, vB false, vI (i : Int), vI (m : Int)] [] E (aS u a (s_fil (u a) (fun _ => v) 0 i))
  have start : Rn m_J_fillL 0 [vR (some a), vL v, vB false, vB false, vB false] [] E u = f 0 := by
    simp only [f, s_fil_0, aS_self]
    simp (disch := first | assumption | omega) only [↓reduceIte, x_J_fillL, ha, la, fx_B, fx_I]
    rfl
  have step : ∀ i, i < m → f i = f (i + 1) := by
    intro i hi
    simp only [f]
    rw [h_J_fillL_6]
    simp (disch := first | assumption | omega) only [↓reduceIte, x_J_fillL, la, show (i : Int) < (m : Int) by omega, Int.toNat_natCast, aS_up, w32_of, fx_I, fx_R, fx_B]
    rw [s_fil_s (by omega) rfl]
    rfl
  rw [start, q_loop f m step]
  simp only [f]
  rw [h_J_fillL_6]
  simp (disch := first | assumption | omega) only [↓reduceIte, x_J_fillL, la, show ¬ (m : Int) < (m : Int) by omega]
theorem sh_B {s : Nat} (hs : s < 4) : shB (141 + 2 * s) := ⟨s, hs, rfl⟩
/-- a sheet changes, nothing else does -/
theorem CS_sheet {S : am_S} {u' : am_M} {s : Nat} {x : am_Sh} (hs : s < 4) (h : CS E u S) (g : ∀ i, i < 149 → i ≠ 141 + 2 * s → i ≠ 142 + 2 * s → (i < 8 ∨ 15 ≤ i) → u' i = u i) (hx : SH u' (141 + 2 * s) x) : CS E u' (S.1, S.2.1, S.2.2.1, S.2.2.2.1, s_fs S.2.2.2.2 s x) := by
  obtain ⟨a, b, c, d, e, f⟩ := h
  refine ⟨a, RC_congr (fun z z0 z1 => g z (by omega) (by omega) (by omega) (by omega)) b, HR_congr (fun z z0 z1 => g z (by omega) (by omega) (by omega) (by omega)) c, CSi_congr (by rw [g 0 (by omega) (by omega) (by omega) (by omega)]) (fun i i0 i1 => g i (by omega) (by omega) (by omega) (by omega)) d, CSt_congr (by rw [g 138 (by omega) (by omega) (by omega) (by omega)]) (g 139 (by omega) (by omega) (by omega) (by omega)) e, CSs.of fun t ht => ?_⟩
  show SH u' (141 + 2 * t) (s_fs S.2.2.2.2 s x t)
  by_cases et : t = s
  · subst et
    rw [s_fs_eq]
    exact hx
  · rw [s_fs_ne et]
    exact SH_congr (g _ (by omega) (by omega) (by omega) (by omega)) (g _ (by omega) (by omega) (by omega) (by omega)) (CSs.sh f ht)
theorem MS_sheet {S : am_S} {u' : am_M} (h : MS E u S) (g : ∀ i, 149 ≤ i → i ≠ 155 → i ≠ 157 → i ≠ 158 → i ≠ 159 → i ≠ 160 → u' i = u i) {F' : Nat → am_Sh} (hF : MSs u' F') : MS E u' (S.1, S.2.1, S.2.2.1, S.2.2.2.1, F') := by
  obtain ⟨a, b, c, d, e, f⟩ := h
  have g9 := g 149 (by omega) (by omega) (by omega) (by omega) (by omega) (by omega)
  exact ⟨a, by rw [g 150 (by omega) (by omega) (by omega) (by omega) (by omega) (by omega)]; exact b, HM_congr (by rw [g9]) (g 154 (by omega) (by omega) (by omega) (by omega) (by omega) (by omega)) c, MSi_congr (by rw [g9]) (by rw [g9]) (g 156 (by omega) (by omega) (by omega) (by omega) (by omega) (by omega)) d, MSt_congr (by rw [g9]) (g 151 (by omega) (by omega) (by omega) (by omega) (by omega) (by omega)) e, hF⟩
theorem OKS_sheet {S : am_S} (hS : OKS S) {F' : Nat → am_Sh} (hF : OKs F') : OKS (S.1, S.2.1, S.2.2.1, S.2.2.2.1, F') := ⟨hS.1, hS.2.1, hS.2.2.1, hS.2.2.2.1, hF⟩
theorem k_sheet {S : am_S} (hE : SE E) (hS : OKS S) (s l m : Int) : BOTH E S (fun u => Rn m_A_sheet 0 [vR (some 0), vI s, vI l, vI m, vB false] [] E u) (fun u => Rn m_M_sheet 0 [vR (some 149), vI s, vI l, vI m, vB false] [] E u) := by
  by_cases hs : 0 ≤ s ∧ s ≤ 3
  case neg => exact ⟨-1, S, hS, CA_id fun u hu => by simp (disch := first | assumption | omega) only [↓reduceIte, Int.reduceEq, Int.reduceLT, bdI_s, bdV_s, bdR_s, bdL_s, fx_I, fx_R, fx_B, fx_L, w32_of, x_A_sheet, r_sheetOfF hE], MA_id fun u hu => by simp (disch := first | assumption | omega) only [↓reduceIte, Int.reduceEq, Int.reduceLT, bdI_s, bdV_s, bdR_s, bdL_s, fx_I, fx_R, fx_B, fx_L, w32_of, x_M_sheet, m_isSheetF]⟩
  obtain ⟨s', hs'⟩ : ∃ s' : Nat, s = (s' : Int) := ⟨s.toNat, by omega⟩
  subst hs'
  have s4 : s' < 4 := by omega
  by_cases hl : 0 ≤ l ∧ l ≤ 3
  case neg => exact ⟨-1, S, hS, CA_id fun u hu => by simp (disch := first | assumption | omega) only [↓reduceIte, Int.reduceEq, Int.reduceLT, bdI_s, bdV_s, bdR_s, bdL_s, fx_I, fx_R, fx_B, fx_L, w32_of, x_A_sheet, r_sheetOfT hE s4, r_isLaneF], MA_id fun u hu => by simp (disch := first | assumption | omega) only [↓reduceIte, Int.reduceEq, Int.reduceLT, bdI_s, bdV_s, bdR_s, bdL_s, fx_I, fx_R, fx_B, fx_L, w32_of, x_M_sheet, m_isSheetT, m_isLaneF]⟩
  by_cases h24 : 24 < m
  · exact ⟨-1, S, hS, CA_id fun u hu => by simp (disch := first | assumption | omega) only [↓reduceIte, Int.reduceEq, Int.reduceLT, bdI_s, bdV_s, bdR_s, bdL_s, fx_I, fx_R, fx_B, fx_L, w32_of, x_A_sheet, r_sheetOfT hE s4, r_isLaneT, h24], MA_id fun u hu => by simp (disch := first | assumption | omega) only [↓reduceIte, Int.reduceEq, Int.reduceLT, bdI_s, bdV_s, bdR_s, bdL_s, fx_I, fx_R, fx_B, fx_L, w32_of, x_M_sheet, m_isSheetT, m_isLaneT, h24]⟩
  by_cases h0 : m < 0
  · exact ⟨-14, S, hS, CA_id fun u hu => by simp (disch := first | assumption | omega) only [↓reduceIte, Int.reduceEq, Int.reduceLT, bdI_s, bdV_s, bdR_s, bdL_s, fx_I, fx_R, fx_B, fx_L, w32_of, x_A_sheet, r_sheetOfT hE s4, r_isLaneT, h24, h0], MA_id fun u hu => by simp (disch := first | assumption | omega) only [↓reduceIte, Int.reduceEq, Int.reduceLT, bdI_s, bdV_s, bdR_s, bdL_s, fx_I, fx_R, fx_B, fx_L, w32_of, x_M_sheet, m_isSheetT, m_isLaneT, h24, h0]⟩
  refine ⟨m, (S.1, S.2.1, S.2.2.1, S.2.2.2.1, s_fs S.2.2.2.2 s' (l, m, fun _ => 0)), OKS_sheet hS (OKs_fs hS.2.2.2.2 ⟨by show -1 ≤ l ∧ l ≤ 3; omega, by show 0 ≤ m ∧ m ≤ 24; omega⟩), fun u hu => ?_, fun u hu => ?_⟩
  · have hK := sh_B s4
    have hsh := CSs.sh hu.2.2.2.2.2 s4
    have sT := r_sheetOfT (u := u) hE s4
    obtain ⟨al, kn⟩ := al_h hE hK
    have g0 : ∀ i, i ≠ 141 + 2 * s' → i ≠ 142 + 2 * s' → aS (am_up (am_up (am_up u (141 + 2 * s') 1 0) (141 + 2 * s') 2 l) (141 + 2 * s') 3 m) (141 + 2 * s' + 1) (s_fil (u (141 + 2 * s' + 1)) (fun _ => 0) 0 24) i = u i := fun i i0 i1 => by rw [aS_ne _ _ (by omega), up_fn i0, up_fn i0, up_fn i0]
    refine ⟨_, ?_, CS_sheet s4 hu (fun i _ i0 i1 _ => g0 i i0 i1) ⟨?_, fun _ => ?_, ?_, fun i hi => ?_⟩, fun i hi => g0 i (by omega) (by omega)⟩
    · have fl : ∀ {w : am_M}, Rn m_J_fillL 0 [vR (some (141 + 2 * s' + 1)), vL 0, vB false, vB false, vB false] [] E w = some (none, E, aS w (141 + 2 * s' + 1) (s_fil (w (141 + 2 * s' + 1)) (fun _ => 0) 0 24)) := fun {w} => j_fillL (m := 24) kn (by rw [al]; rfl) (by omega)
      have ff : ∀ (j : Nat) (v : Int) (w : am_M), am_up w (141 + 2 * s') j v (141 + 2 * s' + 1) = w (141 + 2 * s' + 1) := fun j v w => up_fn (by omega)
      have z0 : (0 : Int) = 0 ∨ (0 : Int) = 1 := Or.inl rfl
      simp (disch := first | assumption | omega) only [↓reduceIte, Int.reduceEq, Int.reduceLT, bdI_s, bdV_s, bdR_s, bdL_s, fx_I, fx_R, fx_B, fx_L, w32_of, x_A_sheet, sT, r_isLaneT, h24, h0, x_S_begins, fl, ff]
    · rw [aS_ne _ _ (by omega), up_nj (by omega), up_nj (by omega), up_eq, decide_eq_false (by show ¬ l < 0; omega)]; rfl
    · rw [aS_ne _ _ (by omega), up_nj (by omega), up_eq]
    · rw [aS_ne _ _ (by omega), up_eq]
    · rw [aS_eq, s_fil_in (by omega)]
  · obtain ⟨l0, l1, l2, l3, l4, l5, l6, l7, l8, l9, l10⟩ := al_m hE
    obtain ⟨a, b, c, d, e, f⟩ := hu
    let w : am_M := am_up (am_up u 157 s' l) 158 s' m
    let fl : Nat → am_Z := fun i => Rn m_M_sheet 46 [vR (some 149), vI (s' : Int), vI l, vI m, vI (i : Int)] [] E (aS w 159 (s_fil (u 159) (fun _ => 0) (24 * s') i))
    have w9 : w 159 = u 159 := by simp only [w]; rw [up_fn (by omega), up_fn (by omega)]
    have start : Rn m_M_sheet 0 [vR (some 149), vI (s' : Int), vI l, vI m, vB false] [] E u = fl 0 := by
      have z := aS_self w 159
      rw [w9] at z
      simp only [fl, s_fil_0]
      rw [z]
      simp (disch := first | assumption | omega) only [↓reduceIte, Int.reduceEq, Int.reduceLT, bdI_s, bdV_s, bdR_s, bdL_s, fx_I, fx_R, fx_B, fx_L, w32_of, x_M_sheet, m_isSheetT, m_isLaneT, h24, h0, Int.toNat_natCast]
      rfl
    have step : ∀ i, i < 24 → fl i = fl (i + 1) := by
      intro i hi
      simp only [fl]
      rw [h_M_sheet_46]
      simp (disch := first | assumption | omega) only [↓reduceIte, x_M_sheet, show (i : Int) < 24 by omega, aS_up, w32_of, fx_I]
      rw [s_fil_s (by omega) rfl]
      rfl
    have g0 : ∀ i, i ≠ 157 → i ≠ 158 → i ≠ 159 → aS w 159 (s_fil (u 159) (fun _ => 0) (24 * s') 24) i = u i := fun i i0 i1 i2 => by rw [aS_ne _ _ i2]; simp only [w]; rw [up_fn i1, up_fn i0]
    refine ⟨aS w 159 (s_fil (u 159) (fun _ => 0) (24 * s') 24), ?_, MS_sheet ⟨a, b, c, d, e, f⟩ (fun i _ _ i0 i1 i2 _ => g0 i i0 i1 i2) (fun t ht => ?_), fun i hi => g0 i (by omega) (by omega) (by omega)⟩
    · show Rn m_M_sheet 0 [vR (some 149), vI (s' : Int), vI l, vI m, vB false] [] E u = _
      rw [start, q_loop fl 24 step]
      simp only [fl]
      rw [h_M_sheet_46]
      simp (disch := first | assumption | omega) only [↓reduceIte, x_M_sheet, show ¬ ((24 : Nat) : Int) < 24 by omega]
    · obtain ⟨p, q, r⟩ := f t ht
      have e7 : (aS w 159 (s_fil (u 159) (fun _ => 0) (24 * s') 24)) 157 = (am_up u 157 s' l) 157 := by rw [aS_ne _ _ (by omega)]; simp only [w]; rw [up_fn (by omega)]
      have e8 : (aS w 159 (s_fil (u 159) (fun _ => 0) (24 * s') 24)) 158 = (am_up (am_up u 157 s' l) 158 s' m) 158 := by rw [aS_ne _ _ (by omega)]
      rw [e7, e8, aS_eq]
      by_cases et : t = s'
      · subst et
        rw [s_fs_eq, up_eq, up_eq]
        exact ⟨rfl, rfl, fun i hi => by rw [s_fil_in (by omega)]⟩
      · rw [s_fs_ne et, up_nj et, up_nj et, up_fn (by omega)]
        exact ⟨p, q, fun i hi => by rw [s_fil_out (by omega)]; exact r i hi⟩
theorem k_drop {S : am_S} (hE : SE E) (hS : OKS S) (s : Int) : BOTH E S (fun u => Rn m_A_drop 0 [vR (some 0), vI s, vB false] [] E u) (fun u => Rn m_M_drop 0 [vR (some 149), vI s] [] E u) := by
  by_cases hs : 0 ≤ s ∧ s ≤ 3
  case neg => exact ⟨-1, S, hS, CA_id fun u hu => by simp (disch := first | assumption | omega) only [↓reduceIte, Int.reduceEq, Int.reduceLT, bdI_s, bdV_s, bdR_s, bdL_s, fx_I, fx_R, fx_B, fx_L, w32_of, x_A_drop, r_sheetOfF hE], MA_id fun u hu => by simp (disch := first | assumption | omega) only [↓reduceIte, Int.reduceEq, Int.reduceLT, bdI_s, bdV_s, bdR_s, bdL_s, fx_I, fx_R, fx_B, fx_L, w32_of, x_M_drop, m_isSheetF]⟩
  obtain ⟨s', hs'⟩ : ∃ s' : Nat, s = (s' : Int) := ⟨s.toNat, by omega⟩
  subst hs'
  have s4 : s' < 4 := by omega
  have hK := sh_B s4
  obtain ⟨l0, l1, l2, l3, l4, l5, l6, l7, l8, l9, l10⟩ := al_m hE
  have hF := hS.2.2.2.2 s' s4
  by_cases hm : (S.2.2.2.2 s').1 < 0
  · refine ⟨-11, S, hS, CA_id fun u hu => ?_, MA_id fun u hu => ?_⟩
    · obtain ⟨q1, q2, q3, q4⟩ := CSs.sh hu.2.2.2.2.2 s4
      rw [decide_eq_true hm, bI_t] at q1
      have sT := r_sheetOfT (u := u) hE s4
      simp (disch := first | assumption | omega) only [↓reduceIte, Int.reduceEq, Int.reduceLT, bdI_s, bdV_s, bdR_s, bdL_s, fx_I, fx_R, fx_B, fx_L, w32_of, x_A_drop, sT, q1]
    · obtain ⟨p, q, r⟩ := hu.2.2.2.2.2 s' s4
      simp (disch := first | assumption | omega) only [↓reduceIte, Int.reduceEq, Int.reduceLT, bdI_s, bdV_s, bdR_s, bdL_s, fx_I, fx_R, fx_B, fx_L, w32_of, x_M_drop, m_isSheetT, Int.toNat_natCast, p, hm]
  refine ⟨(S.2.2.2.2 s').2.1, (S.1, S.2.1, S.2.2.1, S.2.2.2.1, s_fs S.2.2.2.2 s' (-1, (S.2.2.2.2 s').2.1, (S.2.2.2.2 s').2.2)), OKS_sheet hS (OKs_fs hS.2.2.2.2 ⟨by show (-1 : Int) ≤ -1 ∧ (-1 : Int) ≤ 3; omega, hF.2⟩), fun u hu => ?_, fun u hu => ?_⟩
  · obtain ⟨q1, q2, q3, q4⟩ := CSs.sh hu.2.2.2.2.2 s4
    rw [decide_eq_false hm, bI_f] at q1
    have sT := r_sheetOfT (u := u) hE s4
    have z1 : (1 : Int) = 0 ∨ (1 : Int) = 1 := Or.inr rfl
    refine ⟨am_up u (141 + 2 * s') 1 1, ?_, CS_sheet s4 hu (fun i _ i0 i1 _ => up_fn i0) ⟨by rw [up_eq]; rfl, fun z => by have : (0 : Int) ≤ -1 := z; omega, by rw [up_nj (by omega)]; exact q3, fun i hi => by rw [up_fn (by omega)]; exact q4 i hi⟩, LO_up (by omega)⟩
    simp (disch := first | assumption | omega) only [↓reduceIte, Int.reduceEq, Int.reduceLT, bdI_s, bdV_s, bdR_s, bdL_s, fx_I, fx_R, fx_B, fx_L, w32_of, x_A_drop, sT, q1, up_nj, q3]
  · obtain ⟨a, b, c, d, e, f⟩ := hu
    obtain ⟨p, q, r⟩ := f s' s4
    refine ⟨am_up u 157 s' (-1), ?_, MS_sheet (u' := am_up u 157 s' (-1)) ⟨a, b, c, d, e, f⟩ (fun i _ _ i0 _ _ _ => up_fn i0) (fun t ht => ?_), HI_up (by omega)⟩
    · simp (disch := first | assumption | omega) only [↓reduceIte, Int.reduceEq, Int.reduceLT, bdI_s, bdV_s, bdR_s, bdL_s, fx_I, fx_R, fx_B, fx_L, w32_of, x_M_drop, m_isSheetT, Int.toNat_natCast, p, hm, up_ne, q]
    · rw [up_fn (i := 158) (by omega), up_fn (i := 159) (by omega)]
      by_cases et : t = s'
      · subst et
        rw [s_fs_eq, up_eq]
        exact ⟨rfl, q, r⟩
      · rw [s_fs_ne et, up_nj et]
        exact f t ht
theorem k_item {S : am_S} (hE : SE E) (hS : OKS S) (s l i v : Int) (hi : -2147483648 ≤ i ∧ i ≤ 2147483647) : BOTH E S (fun u => Rn m_A_item 0 [vR (some 0), vI s, vI l, vI i, vL v, vB false, vB false, vB false] [] E u) (fun u => Rn m_M_item 0 [vR (some 149), vI s, vI l, vI i, vL v, vB false, vB false] [] E u) := by
  by_cases hs : 0 ≤ s ∧ s ≤ 3
  case neg => exact ⟨-1, S, hS, CA_id fun u hu => by simp (disch := first | assumption | omega) only [↓reduceIte, Int.reduceEq, Int.reduceLT, bdI_s, bdV_s, bdR_s, bdL_s, fx_I, fx_R, fx_B, fx_L, w32_of, x_A_item, r_sheetOfF hE], MA_id fun u hu => by simp (disch := first | assumption | omega) only [↓reduceIte, Int.reduceEq, Int.reduceLT, bdI_s, bdV_s, bdR_s, bdL_s, fx_I, fx_R, fx_B, fx_L, w32_of, x_M_item, m_isSheetF]⟩
  obtain ⟨s', hs'⟩ : ∃ s' : Nat, s = (s' : Int) := ⟨s.toNat, by omega⟩
  subst hs'
  have s4 : s' < 4 := by omega
  have hK := sh_B s4
  by_cases hl : 0 ≤ l ∧ l ≤ 3
  case neg => exact ⟨-1, S, hS, CA_id fun u hu => by have sT := r_sheetOfT (u := u) hE s4; simp (disch := first | assumption | omega) only [↓reduceIte, Int.reduceEq, Int.reduceLT, bdI_s, bdV_s, bdR_s, bdL_s, fx_I, fx_R, fx_B, fx_L, w32_of, x_A_item, sT, r_isLaneF], MA_id fun u hu => by simp (disch := first | assumption | omega) only [↓reduceIte, Int.reduceEq, Int.reduceLT, bdI_s, bdV_s, bdR_s, bdL_s, fx_I, fx_R, fx_B, fx_L, w32_of, x_M_item, m_isSheetT, m_isLaneF]⟩
  have hF := hS.2.2.2.2 s' s4
  have rf : ∀ u, CS E u S → Rn m_S_refusal 0 [vR (some (141 + 2 * s')), vI l, vI i, vI 1] [] E u = some (some (vI (s_why (S.2.2.2.2 s') l i 1)), E, u) := fun u hu => c_refusal hE hK (CSs.sh hu.2.2.2.2.2 s4) hF.2 (by omega)
  have wy : ∀ u, MS E u S → Rn m_M_why 0 [vR (some 149), vI (s' : Int), vI l, vI i, vI 1] [] E u = some (some (vI (s_why (S.2.2.2.2 s') l i 1)), E, u) := fun u hu => m_why hE hu.2.2.2.2.2 hS.2.2.2.2 s4 hi (by omega)
  rcases s_why_or (S.2.2.2.2 s') l i 1 with hw | ⟨hw, x0, xl, -, i0, i1⟩
  · refine ⟨s_why (S.2.2.2.2 s') l i 1, S, hS, CA_id fun u hu => ?_, MA_id fun u hu => ?_⟩
    · have sT := r_sheetOfT (u := u) hE s4
      have q := rf u hu
      generalize s_why (S.2.2.2.2 s') l i 1 = W at *
      simp (disch := first | assumption | omega) only [↓reduceIte, Int.reduceEq, Int.reduceLT, bdI_s, bdV_s, bdR_s, bdL_s, fx_I, fx_R, fx_B, fx_L, w32_of, x_A_item, sT, r_isLaneT, q, show ¬ W = 0 by omega]
    · have q := wy u hu
      generalize s_why (S.2.2.2.2 s') l i 1 = W at *
      simp (disch := first | assumption | omega) only [↓reduceIte, Int.reduceEq, Int.reduceLT, bdI_s, bdV_s, bdR_s, bdL_s, fx_I, fx_R, fx_B, fx_L, w32_of, x_M_item, m_isSheetT, m_isLaneT, q, hw]
  rw [hw] at rf wy
  obtain ⟨i', hi'⟩ : ∃ i' : Nat, i = (i' : Int) := ⟨i.toNat, by omega⟩
  subst hi'
  have i24 : i' < 24 := by omega
  refine ⟨1, (S.1, S.2.1, S.2.2.1, S.2.2.2.1, s_fs S.2.2.2.2 s' ((S.2.2.2.2 s').1, (S.2.2.2.2 s').2.1, s_up (S.2.2.2.2 s').2.2 i' (s_nar l v))), OKS_sheet hS (OKs_fs hS.2.2.2.2 hF), fun u hu => ?_, fun u hu => ?_⟩
  · obtain ⟨q1, q2, q3, q4⟩ := CSs.sh hu.2.2.2.2.2 s4
    have sT := r_sheetOfT (u := u) hE s4
    have q := rf u hu
    have wr := c_writes (u := u) (v := v) hE hK (l := l) (by rw [q2 x0]; exact xl) i24
    refine ⟨am_up u (141 + 2 * s' + 1) i' (s_nar l v), ?_, CS_sheet s4 hu (fun j _ j0 j1 _ => up_fn (by omega)) ⟨by rw [up_fn (by omega)]; exact q1, fun z => by rw [up_fn (by omega)]; exact q2 z, by rw [up_fn (by omega)]; exact q3, fun j hj => ?_⟩, LO_up (by omega)⟩
    · simp (disch := first | assumption | omega) only [↓reduceIte, Int.reduceEq, Int.reduceLT, bdI_s, bdV_s, bdR_s, bdL_s, fx_I, fx_R, fx_B, fx_L, w32_of, x_A_item, sT, r_isLaneT, q, wr]
    · show am_up u (141 + 2 * s' + 1) i' (s_nar l v) (141 + 2 * s' + 1) j = s_up (S.2.2.2.2 s').2.2 i' (s_nar l v) j
      by_cases ej : j = i'
      · subst ej; rw [up_eq, su_eq]
      · rw [up_nj ej, su_ne ej]; exact q4 j hj
  · obtain ⟨a, b, c, d, e, f⟩ := hu
    obtain ⟨p, q, r⟩ := f s' s4
    obtain ⟨l0, l1, l2, l3, l4, l5, l6, l7, l8, l9, l10⟩ := al_m hE
    have q' := wy u ⟨a, b, c, d, e, f⟩
    have ix : (24 * (s' : Int) + (i' : Int)).toNat = 24 * s' + i' := by omega
    refine ⟨am_up u 159 (24 * s' + i') (s_nar l v), ?_, MS_sheet (u' := am_up u 159 (24 * s' + i') (s_nar l v)) ⟨a, b, c, d, e, f⟩ (fun j _ _ _ _ j0 _ => up_fn j0) (fun t ht => ?_), HI_up (by omega)⟩
    · unfold s_nar
      by_cases c0 : l = 0
      · rw [c0] at q'
        simp (disch := first | assumption | omega) only [↓reduceIte, Int.reduceEq, Int.reduceLT, bdI_s, bdV_s, bdR_s, bdL_s, fx_I, fx_R, fx_B, fx_L, w32_of, x_M_item, m_isSheetT, m_isLaneT, q', c0, ix]
      by_cases c1 : l = 1
      · rw [c1] at q'
        simp (disch := first | assumption | omega) only [↓reduceIte, Int.reduceEq, Int.reduceLT, bdI_s, bdV_s, bdR_s, bdL_s, fx_I, fx_R, fx_B, fx_L, w32_of, x_M_item, m_isSheetT, m_isLaneT, q', c1, ix]
      by_cases c2 : l = 2
      · rw [c2] at q'
        simp (disch := first | assumption | omega) only [↓reduceIte, Int.reduceEq, Int.reduceLT, bdI_s, bdV_s, bdR_s, bdL_s, fx_I, fx_R, fx_B, fx_L, w32_of, x_M_item, m_isSheetT, m_isLaneT, q', c2, ix]
      · simp (disch := first | assumption | omega) only [↓reduceIte, Int.reduceEq, Int.reduceLT, bdI_s, bdV_s, bdR_s, bdL_s, fx_I, fx_R, fx_B, fx_L, w32_of, x_M_item, m_isSheetT, m_isLaneT, q', c0, c1, c2, ix]
    · rw [up_fn (i := 157) (by omega), up_fn (i := 158) (by omega)]
      by_cases et : t = s'
      · subst et
        rw [s_fs_eq]
        refine ⟨p, q, fun j hj => ?_⟩
        show am_up u 159 (24 * t + i') (s_nar l v) 159 (24 * t + j) = s_up (S.2.2.2.2 t).2.2 i' (s_nar l v) j
        by_cases ej : j = i'
        · subst ej; rw [up_eq, su_eq]
        · rw [up_nj (by omega), su_ne ej]; exact r j hj
      · rw [s_fs_ne et]
        obtain ⟨p', q'', r'⟩ := f t ht
        exact ⟨p', q'', fun j hj => by rw [up_nj (by omega)]; exact r' j hj⟩

/-! The reference reads a cell, a pin, a hole, a thread. -/
variable {E : am_E} {u : am_M} {k : Nat} {n : am_Row} {T : List Int}
/-- what the reference holds of a row that it reads -/
def PR (n ρ o : am_Row) : Prop :=
  (ρ 0 = n 0 ∧ ρ 1 = n 1 ∧ ρ 2 = n 2 ∧ ρ 3 = n 3) ∧
  (∀ p : Int, 0 ≤ p → p < n 2 → ρ (6 + 3 * p).toNat = s_K n p ∧ ρ (6 + 3 * p + 1).toNat = s_C n p ∧ ρ (6 + 3 * p + 2).toNat = s_V n p) ∧
  (∀ t : Int, 0 ≤ t → t < n 3 → s_A n t = (if ρ (27 + 4 * t).toNat < ρ (27 + 4 * t + 1).toNat then ρ (27 + 4 * t).toNat else ρ (27 + 4 * t + 1).toNat) ∧ s_B n t = (if ρ (27 + 4 * t).toNat < ρ (27 + 4 * t + 1).toNat then ρ (27 + 4 * t + 1).toNat else ρ (27 + 4 * t).toNat) ∧ s_L n t = ρ (27 + 4 * t + 2).toNat ∧ s_X n t = 0) ∧
  ∀ c : Int, 0 ≤ c → c < 49 → (o c.toNat = 0 ↔ s_H n c ≠ 1 ∧ ∀ p : Int, 0 ≤ p → p < n 2 → s_C n p ≠ c) ∧ (o c.toNat = 2 ↔ s_H n c = 1)
theorem s_c0_iff (hV : Vn n) {c : Int} : (s_H n c ≠ 1 ∧ s_pinOn n c = -4) ↔ (s_H n c ≠ 1 ∧ ∀ p : Int, 0 ≤ p → p < n 2 → s_C n p ≠ c) := by
  have sp := s_pinOn_spec hV c
  constructor
  · rintro ⟨a, b⟩
    exact ⟨a, s_pinOn_no hV b⟩
  · rintro ⟨a, b⟩
    refine ⟨a, ?_⟩
    rcases sp with sp | ⟨x, y, z⟩
    · exact sp.1
    · exact absurd z (b _ x y)
theorem ex_and {P Q : Int → Prop} (h : ∃ v, P v) (q : ∀ v, Q v) : ∃ v, P v ∧ Q v := by
  obtain ⟨v, h⟩ := h
  exact ⟨v, h, q v⟩
/-- a faulted reader goes on, and changes nothing -/
theorem m_freeX (hE : SE E) {q : Nat} (hq : q < 1000000) {r o : am_Row} : ∃ v, Rn m_M_freeCell 0 [vR (some 149), vB false, vB false, vB false] [] E (ZS u (q : Int) 1 r o) = some (some (vI v), E, ZS u (q : Int) 1 r o) := by
  obtain ⟨l0, l1, l2, l3, l4, l5, l6, l7, l8, l9, l10⟩ := al_m hE
  have a0 : (0 : Int) ≤ 0 := by omega
  have a1 : (0 : Int) ≤ 1 := by omega
  have a2 : (0 : Int) < am_len 10 E 152 := by omega
  have a3 : (1 : Int) < am_len 10 E 152 := by omega
  obtain ⟨v, e⟩ := m_digX (u := u) (r := r) (o := o) (lo := 0) (hi := w32 (r 0 - 1)) hE hq
  have i1 := m_inF (E := E) (u := ZS u (q : Int) 1 r o) (a := -1) (b := 0) (c := w32 (r 1 - 1)) (by omega)
  have mx := m_mustX (u := u) (r := r) (o := o) (v := 0) hE hq
  exact ⟨_, by simp (disch := assumption) only [↓reduceIte, Int.reduceEq, Int.reduceLT, bdI_s, bdV_s, bdR_s, bdL_s, fx_I, fx_R, fx_B, fx_L, x_M_freeCell, zr_r, zr_4, Int.toNat_zero, Int.toNat_one, e, i1, mx]; rfl⟩
theorem m_freeCell (hE : SE E) (hT : OKt T) (hS : MSt u T) {r o : am_Row} (hV : Vn n) (hP : PR n r o) {q : Nat} (hq : q ≤ T.length) : ∃ v, Rn m_M_freeCell 0 [vR (some 149), vB false, vB false, vB false] [] E (ZS u (q : Int) 0 r o) = some (some (vI v), E, ZS u (((p_cell T n q).2 : Nat) : Int) (if (p_cell T n q).1 = -4 then 1 else 0) r o) ∧ ((p_cell T n q).1 ≠ -4 → v = (p_cell T n q).1) := by
  obtain ⟨l0, l1, l2, l3, l4, l5, l6, l7, l8, l9, l10⟩ := al_m hE
  have a0 : (0 : Int) ≤ 0 := by omega
  have a1 : (0 : Int) ≤ 1 := by omega
  have a2 : (0 : Int) < am_len 10 E 152 := by omega
  have a3 : (1 : Int) < am_len 10 E 152 := by omega
  have hcl := s_cells_of hV
  have n0 := hV.1
  have n1 := hV.2.1
  have r0 : r 0 = n 0 := hP.1.1
  have r1 : r 1 = n 1 := hP.1.2.1
  have w0 : w32 (n 0 - 1) = n 0 - 1 := w32_sm (by omega) (by omega)
  have w1 : w32 (n 1 - 1) = n 1 - 1 := w32_sm (by clear w0; omega) (by clear w0; omega)
  have l120 := hT.1
  have ok := p_cell_ok hV hT hq
  have sl := s_sk_le hq
  unfold p_cell
  unfold p_cell at ok
  by_cases h1 : s_dg T 0 (n 0 - 1) (s_sk T q)
  · rw [if_pos h1] at ok ⊢
    have d1 := m_digT (r := r) (o := o) hE hT hS hq (Int.le_refl 0) h1
    obtain ⟨b1, b2⟩ := sk_next hT hq (dg_ne (Int.le_refl 0) h1)
    have s2 := s_sk_le b2
    have h6 : s_sk T (s_sk T q + 1) < 1000000 := by clear w0 w1; omega
    have hh := m_here (f := 0) (r := r) (o := o) hE hT hS b2
    have w48 := w_h48 hT (s_sk T (s_sk T q + 1))
    by_cases h2 : s_dg T 0 (n 1 - 1) (s_sk T (s_sk T q + 1))
    · rw [if_pos h2] at ok ⊢
      have hcc : 0 ≤ p_cv T n q ∧ p_cv T n q < s_cells n := by
        clear w0 w1 w48
        unfold p_cv s_cells
        have e : n 1 = 3 ∨ n 1 = 4 ∨ n 1 = 5 ∨ n 1 = 6 ∨ n 1 = 7 := by omega
        obtain ⟨x1, x2⟩ := h1
        obtain ⟨y1, y2⟩ := h2
        clear d1 ok hh
        generalize s_ch T (s_sk T q) - 48 = x at *
        generalize s_ch T (s_sk T (s_sk T q + 1)) - 48 = y at *
        rcases e with e | e | e | e | e <;> rw [e] at y2 ⊢ <;> omega
      have hx : 0 ≤ (s_ch T (s_sk T q) - 48) * n 1 ∧ (s_ch T (s_sk T q) - 48) * n 1 ≤ 100 := by
        have hy := h2.1
        have hcc2 := hcc.2
        unfold p_cv at hcc2
        refine ⟨Int.mul_nonneg h1.1 (by clear w0 w1 w48; omega), ?_⟩
        generalize (s_ch T (s_sk T q) - 48) * n 1 = z at *
        clear w0 w1 w48 d1 ok hh
        omega
      have wc1 : w32 ((s_ch T (s_sk T q) - 48) * n 1) = (s_ch T (s_sk T q) - 48) * n 1 := w32_sm (by have := hx.1; clear w0 w1 w48; omega) (by have := hx.2; clear w0 w1 w48; omega)
      have wc2 : w32 ((s_ch T (s_sk T q) - 48) * n 1 + (s_ch T (s_sk T (s_sk T q + 1)) - 48)) = p_cv T n q := w32_sm (by have := hcc.1; clear w0 w1 w48 wc1; unfold p_cv at this; omega) (by have := hcc.2; clear w0 w1 w48 wc1; unfold p_cv at this; omega)
      have c1 : p_cv T n q < am_len 10 E 153 := by clear w0 w1 w48 wc1 wc2; omega
      have c0 := hcc.1
      have hd := s_dg_eq (T := T) (Int.le_refl 0) h2
      rw [hd] at hh w48
      have i1 := m_inT (E := E) (u := ZS u ((s_sk T (s_sk T q + 1) : Nat) : Int) 0 r o) h2
      have po := (hP.2.2.2 (p_cv T n q) c0 (by clear w0 w1 w48 wc1 wc2; omega)).1
      rw [← s_c0_iff hV] at po
      by_cases h3 : s_H n (p_cv T n q) ≠ 1 ∧ s_pinOn n (p_cv T n q) = -4
      · rw [if_pos h3] at ok ⊢
        have p0 := po.mpr h3
        have mt := m_mustT (u := u) (r := r) (o := o) hE h6
        have c4 : ¬ p_cv T n q = -4 := by clear w0 w1 w48 wc1 wc2; omega
        refine ⟨p_cv T n q, ?_, fun _ => rfl⟩
        rw [if_neg c4]
        simp (disch := assumption) only [↓reduceIte, Int.reduceEq, Int.reduceLT, bdI_s, bdV_s, bdR_s, bdL_s, fx_I, fx_R, fx_B, fx_L, x_M_freeCell, zr_r, zr_o, zr_4, Int.toNat_zero, Int.toNat_one, r0, w0, d1, hh, w48, r1, w1, i1, wc1, wc2, p0, mt]
      · rw [if_neg h3]
        have p0 : ¬ o (p_cv T n q).toNat = 0 := fun z => h3 (po.mp z)
        have mt := m_mustF (u := u) (r := r) (o := o) hE h6
        refine ⟨p_cv T n q, ?_, fun z => absurd rfl z⟩
        rw [if_pos rfl]
        simp (disch := assumption) only [↓reduceIte, Int.reduceEq, Int.reduceLT, bdI_s, bdV_s, bdR_s, bdL_s, fx_I, fx_R, fx_B, fx_L, x_M_freeCell, zr_r, zr_o, zr_4, Int.toNat_zero, Int.toNat_one, r0, w0, d1, hh, w48, r1, w1, i1, wc1, wc2, p0, mt]
    · rw [if_neg h2]
      have i1 := m_inF (E := E) (u := ZS u ((s_sk T (s_sk T q + 1) : Nat) : Int) 0 r o) (fun z => h2 ((s_dg_h (Int.le_refl 0)).mpr z))
      have mt := m_mustF (u := u) (r := r) (o := o) hE h6
      refine ex_and ?_ (fun v z => absurd rfl z)
      exact ⟨_, by rw [if_pos rfl]; simp (disch := assumption) only [↓reduceIte, Int.reduceEq, Int.reduceLT, bdI_s, bdV_s, bdR_s, bdL_s, fx_I, fx_R, fx_B, fx_L, x_M_freeCell, zr_r, zr_o, zr_4, Int.toNat_zero, Int.toNat_one, r0, w0, d1, hh, w48, r1, w1, i1, mt]; rfl⟩
  · rw [if_neg h1]
    obtain ⟨v, d1⟩ := m_digF (r := r) (o := o) hE hT hS hq (Int.le_refl 0) h1
    have h6 : s_sk T q < 1000000 := by clear w0 w1; omega
    have i1 := m_inF (E := E) (u := ZS u ((s_sk T q : Nat) : Int) 1 r o) (a := -1) (b := 0) (c := n 1 - 1) (by omega)
    have mx := m_mustX (u := u) (r := r) (o := o) (v := 0) hE h6
    refine ex_and ?_ (fun v z => absurd rfl z)
    exact ⟨_, by rw [if_pos rfl]; simp (disch := assumption) only [↓reduceIte, Int.reduceEq, Int.reduceLT, bdI_s, bdV_s, bdR_s, bdL_s, fx_I, fx_R, fx_B, fx_L, x_M_freeCell, zr_r, zr_4, Int.toNat_zero, Int.toNat_one, r0, w0, d1, r1, w1, i1, mx]; rfl⟩

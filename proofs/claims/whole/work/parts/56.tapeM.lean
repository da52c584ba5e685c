/-! The tape, as the reference reads it. -/
variable {E : am_E} {u : am_M} {k : Nat} {n : am_Row} {T : List Int}
/-- the reference's reader: a place, a fault, the row told, what is on the cells -/
def ZS (u : am_M) (q f : Int) (r o : am_Row) : am_M := am_up (am_up (aS (aS u 152 r) 153 o) 149 3 q) 149 4 f
theorem zs_3 {q f v : Int} {r o : am_Row} : am_up (ZS u q f r o) 149 3 v = ZS u v f r o := by
  funext a b
  simp only [ZS, am_up]
  by_cases h : a = 149 ∧ b = 3
  · rw [if_pos h, if_neg (by omega), if_pos h]
  · rw [if_neg h, if_neg h, if_neg h]
theorem zs_4 {q f v : Int} {r o : am_Row} : am_up (ZS u q f r o) 149 4 v = ZS u q v r o := up_up
theorem zs_5 {q f v : Int} {r o : am_Row} {j : Nat} : am_up (ZS u q f r o) 152 j v = ZS u q f (s_up r j v) o := by
  funext a b
  simp only [ZS, am_up, aS, s_up]
  by_cases h : a = 152
  · subst h; simp; rfl
  · simp [h]
theorem zs_6 {q f v : Int} {r o : am_Row} {j : Nat} : am_up (ZS u q f r o) 153 j v = ZS u q f r (s_up o j v) := by
  funext a b
  simp only [ZS, am_up, aS, s_up]
  by_cases h : a = 153
  · subst h; simp; rfl
  · simp [h]
theorem zr_3 {q f : Int} {r o : am_Row} : (ZS u q f r o) 149 3 = q := by unfold ZS; rw [up_nj (by omega), up_eq]
theorem zr_4 {q f : Int} {r o : am_Row} : (ZS u q f r o) 149 4 = f := by unfold ZS; rw [up_eq]
theorem zr_2 {q f : Int} {r o : am_Row} : (ZS u q f r o) 149 2 = u 149 2 := by unfold ZS; rw [up_nj (by omega), up_nj (by omega), aS_ne _ _ (by omega), aS_ne _ _ (by omega)]
theorem zr_r {q f : Int} {r o : am_Row} : (ZS u q f r o) 152 = r := by unfold ZS; rw [up_fn (by omega), up_fn (by omega), aS_ne _ _ (by omega), aS_eq]
theorem zr_o {q f : Int} {r o : am_Row} : (ZS u q f r o) 153 = o := by unfold ZS; rw [up_fn (by omega), up_fn (by omega), aS_eq]
theorem zr_i {q f : Int} {r o : am_Row} {i : Nat} (h9 : i ≠ 149) (h2 : i ≠ 152) (h3 : i ≠ 153) : (ZS u q f r o) i = u i := by unfold ZS; rw [up_fn h9, up_fn h9, aS_ne _ _ h3, aS_ne _ _ h2]
theorem zr_9 {q f : Int} {r o : am_Row} {j : Nat} (h3 : j ≠ 3) (h4 : j ≠ 4) : (ZS u q f r o) 149 j = u 149 j := by unfold ZS; rw [up_nj h4, up_nj h3, aS_ne _ _ (by omega), aS_ne _ _ (by omega)]
theorem zs_id {q f : Int} (h3 : u 149 3 = q) (h4 : u 149 4 = f) : ZS u q f (u 152) (u 153) = u := by
  have e1 : aS u 152 (u 152) = u := aS_self u 152
  unfold ZS
  rw [e1, aS_self u 153, up_self h3, up_self h4]
/-- a letter of the reference: 0 at the end -/
def s_h0 (c : Int) : Int := if c = -1 then 0 else c
theorem m_letter {q f : Int} {r o : am_Row} (hT : OKt T) (h : MSt u T) {i : Nat} (hi : i < T.length) : (ZS u q f r o) 151 i = s_ch T i := by rw [zr_i (by omega) (by omega) (by omega)]; exact h.2 i _ (s_ch_in hT hi).1
theorem m_hr (hE : SE E) (hT : OKt T) (h : MSt u T) {f : Int} {r o : am_Row} : ∀ (d q : Nat), q + d = T.length → Rn m_M_here 0 [vR (some 149)] [] E (ZS u (q : Int) f r o) = some (some (vI (s_h0 (s_ch T (s_sk T q)))), E, ZS u ((s_sk T q : Nat) : Int) f r o) := by
  obtain ⟨l0, l1, l2, l3, l4, l5, l6, l7, l8, l9, l10⟩ := al_m hE
  have l120 := hT.1
  have h2 := h.1
  intro d
  induction d with
  | zero =>
    intro q hq
    have e : q = T.length := by omega
    have ec := s_ch_end (T := T) (i := q) (by omega)
    have es : s_sk T q = q := s_sk_no (by rw [ec]; decide)
    have lt : ¬ (q : Int) < (T.length : Int) := by omega
    have e0 : s_h0 (-1) = 0 := by decide
    rw [es, ec, e0, h_M_here_0]
    simp (disch := assumption) only [↓reduceIte, Int.reduceEq, Int.reduceLT, bdI_s, bdV_s, bdR_s, bdL_s, fx_I, fx_R, fx_B, fx_L, x_M_here, zr_3, zr_2, h2, lt]
  | succ d ih =>
    intro q hq
    have hlt : q < T.length := by omega
    have lt : (q : Int) < (T.length : Int) := by omega
    have a0 : (0 : Int) ≤ (q : Int) := by omega
    have a1 : (q : Int) < am_len 10 E 151 := by omega
    have lt' := @m_letter u T (q : Int) f r o hT h q hlt
    have h7 : q < 1000000 := by omega
    rw [h_M_here_0]
    by_cases e : s_ch T q = 32
    · have e' := ih (q + 1) (by omega)
      rw [s_sk_32 hT e, ← e']
      simp (disch := assumption) only [↓reduceIte, Int.reduceEq, Int.reduceLT, bdI_s, bdV_s, bdR_s, bdL_s, fx_I, fx_R, fx_B, fx_L, x_M_here, zr_3, zr_2, h2, lt, Int.toNat_natCast, lt', e, w_suc h7, zs_3]
    · have eh : s_h0 (s_ch T q) = s_ch T q := by
        unfold s_h0
        rw [if_neg (by have := (s_ch_in hT hlt).2; omega)]
      rw [s_sk_no e, eh]
      simp (disch := assumption) only [↓reduceIte, Int.reduceEq, Int.reduceLT, bdI_s, bdV_s, bdR_s, bdL_s, fx_I, fx_R, fx_B, fx_L, x_M_here, zr_3, zr_2, h2, lt, Int.toNat_natCast, lt', e]
theorem m_here (hE : SE E) (hT : OKt T) (h : MSt u T) {f : Int} {r o : am_Row} {q : Nat} (hq : q ≤ T.length) : Rn m_M_here 0 [vR (some 149)] [] E (ZS u (q : Int) f r o) = some (some (vI (s_h0 (s_ch T (s_sk T q)))), E, ZS u ((s_sk T q : Nat) : Int) f r o) := m_hr hE hT h (T.length - q) q (by omega)
theorem w_add0 {q : Nat} (h : q < 1000000) : w32 ((q : Int) + 0) = (q : Int) := by rw [Int.add_zero]; exact w32_of (by omega) (by omega)
theorem m_mustT (hE : SE E) {q : Nat} (hq : q < 1000000) {r o : am_Row} : Rn m_M_must 0 [vR (some 149), vI 1] [] E (ZS u (q : Int) 0 r o) = some (none, E, ZS u ((q + 1 : Nat) : Int) 0 r o) := by
  have z0 : (0 : Int) = 0 ∨ (0 : Int) = 1 := Or.inl rfl
  simp (disch := assumption) only [↓reduceIte, Int.reduceEq, Int.reduceLT, bdI_s, bdV_s, bdR_s, bdL_s, fx_I, fx_R, fx_B, fx_L, x_M_must, zr_3, zr_4, zs_3, zs_4, w_suc hq]
theorem m_mustF (hE : SE E) {q : Nat} (hq : q < 1000000) {r o : am_Row} : Rn m_M_must 0 [vR (some 149), vI 0] [] E (ZS u (q : Int) 0 r o) = some (none, E, ZS u (q : Int) 1 r o) := by
  have z0 : (1 : Int) = 0 ∨ (1 : Int) = 1 := Or.inr rfl
  simp (disch := assumption) only [↓reduceIte, Int.reduceEq, Int.reduceLT, bdI_s, bdV_s, bdR_s, bdL_s, fx_I, fx_R, fx_B, fx_L, x_M_must, zr_3, zr_4, zs_3, zs_4, w_add0 hq]
theorem m_mustX (hE : SE E) {q : Nat} (hq : q < 1000000) {v : Int} {r o : am_Row} : Rn m_M_must 0 [vR (some 149), vI v] [] E (ZS u (q : Int) 1 r o) = some (none, E, ZS u (q : Int) 1 r o) := by
  have z0 : (1 : Int) = 0 ∨ (1 : Int) = 1 := Or.inr rfl
  simp (disch := assumption) only [↓reduceIte, Int.reduceEq, Int.reduceLT, bdI_s, bdV_s, bdR_s, bdL_s, fx_I, fx_R, fx_B, fx_L, x_M_must, zr_3, zr_4, zs_3, zs_4, w_add0 hq]
theorem w_h48 (hT : OKt T) (q : Nat) : w32 (s_h0 (s_ch T q) - 48) = s_h0 (s_ch T q) - 48 := by
  unfold s_h0
  rcases s_ch_r hT q with h | h
  · rw [h]; decide
  · exact w32_of (by split <;> omega) (by split <;> omega)
/-- a digit that may stand there: the same letter on both sides -/
theorem s_dg_h {lo hi : Int} (l0 : 0 ≤ lo) {q : Nat} : s_dg T lo hi q ↔ lo ≤ s_h0 (s_ch T q) - 48 ∧ s_h0 (s_ch T q) - 48 ≤ hi := by
  unfold s_dg s_h0
  by_cases h : s_ch T q = -1
  · rw [if_pos h, h]; omega
  · rw [if_neg h]
theorem s_dg_eq {lo hi : Int} (l0 : 0 ≤ lo) {q : Nat} (h : s_dg T lo hi q) : s_h0 (s_ch T q) = s_ch T q := by
  unfold s_dg at h
  unfold s_h0
  rw [if_neg (by omega)]
theorem m_digT (hE : SE E) (hT : OKt T) (h : MSt u T) {q : Nat} (hq : q ≤ T.length) {r o : am_Row} {lo hi : Int} (l0 : 0 ≤ lo) (hd : s_dg T lo hi (s_sk T q)) : Rn m_M_digit 0 [vR (some 149), vI lo, vI hi, vB false] [] E (ZS u (q : Int) 0 r o) = some (some (vI (s_ch T (s_sk T q) - 48)), E, ZS u ((s_sk T q + 1 : Nat) : Int) 0 r o) := by
  have nx := @m_here E u T hE hT h 0 r o q hq
  have sl := s_sk_le hq
  have l120 := hT.1
  have h7 : s_sk T q < 1000000 := by omega
  have w := w_h48 hT (s_sk T q)
  have i1 := m_inT (E := E) (u := ZS u ((s_sk T q : Nat) : Int) 0 r o) ((s_dg_h l0).mp hd)
  rw [s_dg_eq l0 hd] at nx w i1
  simp (disch := assumption) only [↓reduceIte, Int.reduceEq, Int.reduceLT, bdI_s, bdV_s, bdR_s, bdL_s, fx_I, fx_R, fx_B, fx_L, x_M_digit, zr_4, nx, w, i1, m_mustT hE h7]
theorem m_digF (hE : SE E) (hT : OKt T) (h : MSt u T) {q : Nat} (hq : q ≤ T.length) {r o : am_Row} {lo hi : Int} (l0 : 0 ≤ lo) (hd : ¬ s_dg T lo hi (s_sk T q)) : ∃ v, Rn m_M_digit 0 [vR (some 149), vI lo, vI hi, vB false] [] E (ZS u (q : Int) 0 r o) = some (some (vI v), E, ZS u ((s_sk T q : Nat) : Int) 1 r o) := by
  have nx := @m_here E u T hE hT h 0 r o q hq
  have sl := s_sk_le hq
  have l120 := hT.1
  have h7 : s_sk T q < 1000000 := by omega
  have w := w_h48 hT (s_sk T q)
  have i1 := m_inF (E := E) (u := ZS u ((s_sk T q : Nat) : Int) 0 r o) (fun z => hd ((s_dg_h l0).mpr z))
  exact ⟨_, by simp (disch := assumption) only [↓reduceIte, Int.reduceEq, Int.reduceLT, bdI_s, bdV_s, bdR_s, bdL_s, fx_I, fx_R, fx_B, fx_L, x_M_digit, zr_4, nx, w, i1, m_mustF hE h7]; rfl⟩
theorem m_digX (hE : SE E) {q : Nat} (hq : q < 1000000) {r o : am_Row} {lo hi : Int} : ∃ v, Rn m_M_digit 0 [vR (some 149), vI lo, vI hi, vB false] [] E (ZS u (q : Int) 1 r o) = some (some (vI v), E, ZS u (q : Int) 1 r o) := by
  have i1 := m_in (E := E) (u := ZS u (q : Int) 1 r o) (-1) lo hi
  exact ⟨_, by simp (disch := assumption) only [↓reduceIte, Int.reduceEq, Int.reduceLT, bdI_s, bdV_s, bdR_s, bdL_s, fx_I, fx_R, fx_B, fx_L, x_M_digit, zr_4, i1, m_mustX hE hq]; rfl⟩
theorem s_is_h {q : Nat} : s_is T q ↔ 48 ≤ s_h0 (s_ch T q) ∧ s_h0 (s_ch T q) ≤ 57 := by
  unfold s_is s_h0
  by_cases h : s_ch T q = -1
  · rw [if_pos h, h]; omega
  · rw [if_neg h]
theorem m_numE (hE : SE E) {q : Nat} {v s c : Int} {r o : am_Row} : Rn m_M_number 139 [vR (some 149), vI 1, vI 12, vI c, vI s, vI v] [] E (ZS u (q : Int) 0 r o) = some (some (vI v), E, if 1 ≤ v ∧ v ≤ 12 then ZS u (q : Int) 0 r o else ZS u s 1 r o) := by
  have z0 : (1 : Int) = 0 ∨ (1 : Int) = 1 := Or.inr rfl
  by_cases h : 1 ≤ v ∧ v ≤ 12
  · rw [if_pos h]
    have i1 := m_inT (E := E) (u := ZS u (q : Int) 0 r o) h
    simp (disch := assumption) only [↓reduceIte, Int.reduceEq, Int.reduceLT, bdI_s, bdV_s, bdR_s, bdL_s, fx_I, fx_R, fx_B, fx_L, x_M_number, zr_4, i1]
  · rw [if_neg h]
    have i1 := m_inF (E := E) (u := ZS u (q : Int) 0 r o) h
    simp (disch := assumption) only [↓reduceIte, Int.reduceEq, Int.reduceLT, bdI_s, bdV_s, bdR_s, bdL_s, fx_I, fx_R, fx_B, fx_L, x_M_number, zr_4, i1, zs_4, zs_3]
theorem n_1m {a : Int} (ha : 48 ≤ a ∧ a ≤ 57) : w32 (w32 (w32 (10 * 0) + a) - 48) = a - 48 := by
  have := n_1 ha
  rw [Int.mul_comm 10 0]
  exact this
theorem n_2m {a b : Int} (ha : 48 ≤ a ∧ a ≤ 57) (hb : 48 ≤ b ∧ b ≤ 57) : w32 (w32 (w32 (10 * (a - 48)) + b) - 48) = (a - 48) * 10 + b - 48 := by
  have := n_2 ha hb
  rw [Int.mul_comm 10 (a - 48)]
  exact this
theorem w_subn {q b : Nat} (h : b ≤ q) (hq : q < 1000000) : w32 ((q : Int) - (b : Int)) = ((q - b : Nat) : Int) := by rw [w32_of (by omega) (by omega)]; omega
theorem m_numL (hE : SE E) (hT : OKt T) (h : MSt u T) {q b : Nat} (hq : q < T.length) (hd : s_is T q) (hb : b ≤ q) (h2 : q - b < 2) {v v' c : Int} {r o : am_Row} (wv : w32 (w32 (w32 (10 * v) + s_ch T q) - 48) = v') : Rn m_M_number 55 [vR (some 149), vI 1, vI 12, vI c, vI (b : Int), vI v] [] E (ZS u (q : Int) 0 r o) = Rn m_M_number 55 [vR (some 149), vI 1, vI 12, vI c, vI (b : Int), vI v'] [] E (ZS u ((q + 1 : Nat) : Int) 0 r o) := by
  obtain ⟨l0, l1, l2, l3, l4, l5, l6, l7, l8, l9, l10⟩ := al_m hE
  have l120 := hT.1
  have hl := h.1
  have lt : (q : Int) < (T.length : Int) := by omega
  have a0 : (0 : Int) ≤ (q : Int) := by omega
  have a1 : (q : Int) < am_len 10 E 151 := by omega
  have lt' := @m_letter u T (q : Int) 0 r o hT h q hq
  have h7 : q < 1000000 := by omega
  have c2 : ((q - b : Nat) : Int) < 2 := by omega
  have i1 := m_inT (E := E) (u := ZS u (q : Int) 0 r o) hd
  rw [h_M_number_55]
  simp (disch := assumption) only [↓reduceIte, Int.reduceEq, Int.reduceLT, bdI_s, bdV_s, bdR_s, bdL_s, fx_I, fx_R, fx_B, fx_L, x_M_number, zr_4, zr_3, zr_2, hl, lt, w_subn hb h7, c2, Int.toNat_natCast, lt', i1, wv, w_suc h7, zs_3]
theorem m_numX (hE : SE E) (hT : OKt T) (h : MSt u T) {q b : Nat} (hq : q ≤ T.length) (hb : b ≤ q) (hd : ¬ q - b < 2 ∨ ¬ s_is T q) {v c : Int} {r o : am_Row} : Rn m_M_number 55 [vR (some 149), vI 1, vI 12, vI c, vI (b : Int), vI v] [] E (ZS u (q : Int) 0 r o) = some (some (vI v), E, if 1 ≤ v ∧ v ≤ 12 then ZS u (q : Int) 0 r o else ZS u (b : Int) 1 r o) := by
  obtain ⟨l0, l1, l2, l3, l4, l5, l6, l7, l8, l9, l10⟩ := al_m hE
  have l120 := hT.1
  have hl := h.1
  have h7 : q < 1000000 := by omega
  rw [← m_numE hE (c := c), h_M_number_55]
  by_cases hlt : q < T.length
  · have lt : (q : Int) < (T.length : Int) := by omega
    have a0 : (0 : Int) ≤ (q : Int) := by omega
    have a1 : (q : Int) < am_len 10 E 151 := by omega
    have lt' := @m_letter u T (q : Int) 0 r o hT h q hlt
    by_cases h2 : q - b < 2
    · have c2 : ((q - b : Nat) : Int) < 2 := by omega
      have i1 := m_inF (E := E) (u := ZS u (q : Int) 0 r o) (hd.resolve_left (fun z => z h2))
      simp (disch := assumption) only [↓reduceIte, Int.reduceEq, Int.reduceLT, bdI_s, bdV_s, bdR_s, bdL_s, fx_I, fx_R, fx_B, fx_L, x_M_number, zr_4, zr_3, zr_2, hl, lt, w_subn hb h7, c2, Int.toNat_natCast, lt', i1]
    · have c2 : ¬ ((q - b : Nat) : Int) < 2 := by omega
      simp (disch := assumption) only [↓reduceIte, Int.reduceEq, Int.reduceLT, bdI_s, bdV_s, bdR_s, bdL_s, fx_I, fx_R, fx_B, fx_L, x_M_number, zr_4, zr_3, zr_2, hl, lt, w_subn hb h7, c2]
  · have lt : ¬ (q : Int) < (T.length : Int) := by omega
    simp (disch := assumption) only [↓reduceIte, Int.reduceEq, Int.reduceLT, bdI_s, bdV_s, bdR_s, bdL_s, fx_I, fx_R, fx_B, fx_L, x_M_number, zr_4, zr_3, zr_2, hl, lt]
theorem m_num (hE : SE E) (hT : OKt T) (h : MSt u T) {q : Nat} (hq : q ≤ T.length) {r o : am_Row} : ∃ v, Rn m_M_number 0 [vR (some 149), vI 1, vI 12, vB false, vB false, vB false] [] E (ZS u (q : Int) 0 r o) = some (some (vI v), E, if 1 ≤ (s_nv T (s_sk T q)).1 ∧ (s_nv T (s_sk T q)).1 ≤ 12 then ZS u (((s_nv T (s_sk T q)).2 : Nat) : Int) 0 r o else ZS u ((s_sk T q : Nat) : Int) 1 r o) ∧ (1 ≤ (s_nv T (s_sk T q)).1 → v = (s_nv T (s_sk T q)).1) := by
  have nx := @m_here E u T hE hT h 0 r o q hq
  have sl := s_sk_le hq
  have l120 := hT.1
  have h7 : s_sk T q < 1000000 := by omega
  by_cases hd : s_is T (s_sk T q)
  · have lt : s_sk T q < T.length := s_ch_lt hT (by have := hd.1; omega)
    have i1 := m_inT (E := E) (u := ZS u ((s_sk T q : Nat) : Int) 0 r o) (s_is_h.mp hd)
    have z0 : (0 : Int) = 0 ∨ (0 : Int) = 1 := Or.inl rfl
    have go : Rn m_M_number 0 [vR (some 149), vI 1, vI 12, vB false, vB false, vB false] [] E (ZS u (q : Int) 0 r o) = Rn m_M_number 55 [vR (some 149), vI 1, vI 12, vI (s_h0 (s_ch T (s_sk T q))), vI ((s_sk T q : Nat) : Int), vI 0] [] E (ZS u ((s_sk T q : Nat) : Int) 0 r o) := by
      simp (disch := assumption) only [↓reduceIte, Int.reduceEq, Int.reduceLT, bdI_s, bdV_s, bdR_s, bdL_s, fx_I, fx_R, fx_B, fx_L, x_M_number, zr_4, nx, zr_3, i1, zs_4]
    have s1 := m_numL (r := r) (o := o) (c := s_h0 (s_ch T (s_sk T q))) (v := 0) hE hT h lt hd (Nat.le_refl _) (by omega) (n_1m hd)
    rw [go, s1]
    by_cases hd2 : s_is T (s_sk T q + 1)
    · have lt2 : s_sk T q + 1 < T.length := s_ch_lt hT (by have := hd2.1; omega)
      have s2 := m_numL (r := r) (o := o) (c := s_h0 (s_ch T (s_sk T q))) (b := s_sk T q) (v := s_ch T (s_sk T q) - 48) hE hT h lt2 hd2 (by omega) (by omega) (n_2m hd hd2)
      have e : s_nv T (s_sk T q) = ((s_ch T (s_sk T q) - 48) * 10 + s_ch T (s_sk T q + 1) - 48, s_sk T q + 2) := by unfold s_nv; rw [if_pos hd, if_pos hd2]
      refine ⟨_, ?_, fun _ => rfl⟩
      rw [s2, m_numX hE hT h (by omega) (by omega) (Or.inl (by omega)), e]
    · have e : s_nv T (s_sk T q) = (s_ch T (s_sk T q) - 48, s_sk T q + 1) := by unfold s_nv; rw [if_pos hd, if_neg hd2]
      refine ⟨_, ?_, fun _ => rfl⟩
      rw [m_numX hE hT h (by omega) (by omega) (Or.inr hd2), e]
  · have e : s_nv T (s_sk T q) = (-1, s_sk T q) := by unfold s_nv; rw [if_neg hd]
    have i1 := m_inF (E := E) (u := ZS u ((s_sk T q : Nat) : Int) 0 r o) (fun z => hd (s_is_h.mpr z))
    have z0 : (1 : Int) = 0 ∨ (1 : Int) = 1 := Or.inr rfl
    refine ⟨0, ?_, fun z => ?_⟩
    · rw [e, if_neg (by intro z; have : (1 : Int) ≤ -1 := z.1; omega)]
      have hd55 : Rn m_M_number 55 [vR (some 149), vI 1, vI 12, vI (s_h0 (s_ch T (s_sk T q))), vI ((s_sk T q : Nat) : Int), vI 0] [] E (ZS u ((s_sk T q : Nat) : Int) 1 r o) = some (some (vI 0), E, ZS u ((s_sk T q : Nat) : Int) 1 r o) := by
        rw [h_M_number_55]
        simp (disch := assumption) only [↓reduceIte, Int.reduceEq, Int.reduceLT, bdI_s, bdV_s, bdR_s, bdL_s, fx_I, fx_R, fx_B, fx_L, x_M_number, zr_4]
      rw [← hd55]
      simp (disch := assumption) only [↓reduceIte, Int.reduceEq, Int.reduceLT, bdI_s, bdV_s, bdR_s, bdL_s, fx_I, fx_R, fx_B, fx_L, x_M_number, zr_4, nx, zr_3, i1, zs_4]
    · rw [e] at z
      have : (1 : Int) ≤ -1 := z
      omega
theorem m_numXX (hE : SE E) {q : Nat} {r o : am_Row} : ∃ v, Rn m_M_number 0 [vR (some 149), vI 1, vI 12, vB false, vB false, vB false] [] E (ZS u (q : Int) 1 r o) = some (some (vI v), E, ZS u (q : Int) 1 r o) := by
  have z0 : (1 : Int) = 0 ∨ (1 : Int) = 1 := Or.inr rfl
  have hd55 : Rn m_M_number 55 [vR (some 149), vI 1, vI 12, vI 0, vI (q : Int), vI 0] [] E (ZS u (q : Int) 1 r o) = some (some (vI 0), E, ZS u (q : Int) 1 r o) := by
    rw [h_M_number_55]
    simp (disch := assumption) only [↓reduceIte, Int.reduceEq, Int.reduceLT, bdI_s, bdV_s, bdR_s, bdL_s, fx_I, fx_R, fx_B, fx_L, x_M_number, zr_4]
  refine ⟨0, ?_⟩
  rw [← hd55]
  simp (disch := assumption) only [↓reduceIte, Int.reduceEq, Int.reduceLT, bdI_s, bdV_s, bdR_s, bdL_s, fx_I, fx_R, fx_B, fx_L, x_M_number, zr_4, zr_3, zs_4]

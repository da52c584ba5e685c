/-! The class's cushion goes on. -/
variable {E : am_E} {u : am_M} {k : Nat} {n : am_Row}
theorem s_pinOn_no (hV : Vn n) {c : Int} (h : s_pinOn n c = -4) : ∀ q : Int, 0 ≤ q → q < n 2 → s_C n q ≠ c := by
  rcases s_pinOn_spec hV c with ⟨-, h2⟩ | ⟨h1, -, -⟩
  · exact h2
  · omega
theorem s_mayGo_of (hV : Vn n) {p c : Int} (h : s_mayGo n p c = true) : c ≠ -4 ∧ s_pinOn n c = -4 ∧ ∀ q : Int, 0 ≤ q → q < n 2 → s_C n q ≠ c := by
  unfold s_mayGo at h
  simp only [Bool.and_eq_true, decide_eq_true_eq] at h
  exact ⟨h.1, h.2.1, s_pinOn_no hV h.2.1⟩
theorem s_beside_in (hV : Vn n) {c v : Int} (c0 : 0 ≤ c) (c1 : c < s_cells n) : s_beside n c v = -4 ∨ (0 ≤ s_beside n c v ∧ s_beside n c v < s_cells n) := by
  have hcl := s_cells_of hV
  have hn := hV.2.1
  obtain ⟨p1, p2, p3, p4, p5⟩ := dm_of hV c0 (by omega)
  unfold s_beside
  split
  · split <;> omega
  split
  · split <;> omega
  split
  · split
    · omega
    · rename_i z
      have : 0 ≤ n 1 * (c / n 1) := Int.mul_nonneg (by omega) p1
      omega
  split
  · split
    · omega
    · rename_i z
      -- c isn't the last of its row, so it isn't the last at all
      right
      refine ⟨by omega, ?_⟩
      unfold s_cells at c1 ⊢
      have e : n 1 = 3 ∨ n 1 = 4 ∨ n 1 = 5 ∨ n 1 = 6 ∨ n 1 = 7 := by omega
      rcases e with e | e | e | e | e <;> rw [e] at c1 z ⊢ <;> omega
  · omega
theorem bits_hole (n : am_Row) {c w : Int} (c0 : 0 ≤ c) (hw : w = 0 ∨ w = 1) : bits (fun d => decide (s_H (s_up n (51 + c).toNat w) d = 1)) 49 = bits (fun d => if d = c.toNat then decide (w = 1) else decide (s_H n d = 1)) 49 := by
  refine bits_congr fun d _ => ?_
  unfold s_H
  by_cases e : d = c.toNat
  · rw [if_pos e, e, show (51 + ((c.toNat : Nat) : Int)).toNat = (51 + c).toNat by omega, su_eq]
  · rw [if_neg e, su_ne (by omega)]
theorem c_opens (h : CU E u k n) {c : Int} (c0 : 0 ≤ c) (c1 : c < s_cells n) (hc : ∀ q : Int, 0 ≤ q → q < n 2 → s_C n q ≠ c) : ∃ u', Rn m_C_opens 0 [vR (some k), vI c] [] E u = some (none, E, u') ∧ CU E u' k (s_up n (51 + c).toNat 1) ∧ FR k u u' := by
  obtain ⟨hE, hk, hR, hV⟩ := h
  have hcl := s_cells_of hV
  obtain ⟨t, rfl⟩ : ∃ t : Nat, c = (t : Int) := ⟨c.toNat, by omega⟩
  have hb := bits_lt (fun c => decide (s_H n c = 1)) 49
  have h2t : 2 ^ t < 2 ^ 49 := Nat.pow_lt_pow_right (by decide) (by omega)
  have e1 : l_or (u k 7) (l_shl 1 (t : Int)) = ((bits (fun d => decide (s_H (s_up n (51 + (t : Int)).toNat 1) d = 1)) 49 : Nat) : Int) := by
    rw [hR.2.2.2.2.2.2.2.1, l_shl1 t (by omega), l_or_n (by omega) (by omega), bits_or1 _ (show t < 49 by omega), bits_hole n c0 (Or.inr rfl)]
    congr 1
    refine bits_congr fun d _ => ?_
    by_cases e : d = t <;> simp [e]
  refine ⟨am_up u k 7 (l_or (u k 7) (l_shl 1 (t : Int))), ?_, ⟨hE, hk, ?_, Vn_open hV c0 c1 hc⟩, FR.up (by omega)⟩
  · simp (disch := first | assumption | omega) only [x_C_opens]
  · rw [e1]
    exact RC_hole hR c0 (by omega) rfl hV.2.2.2.1.2 hV.2.2.1.2
theorem c_sets (h : CU E u k n) {p c : Int} (p0 : 0 ≤ p) (p1 : p < n 2) (c0 : 0 ≤ c) (c1 : c < s_cells n) (hc : ∀ q : Int, 0 ≤ q → q < n 2 → s_C n q ≠ c) : ∃ u', Rn m_C_sets 0 [vR (some k), vI p, vI c] [] E u = some (none, E, u') ∧ CU E u' k (s_sets n p c) ∧ FR k u u' := by
  obtain ⟨hE, hk, hR, hV⟩ := h
  have hcl := s_cells_of hV
  have h2 := hV.2.2.1
  obtain ⟨t, rfl⟩ : ∃ t : Nat, c = (t : Int) := ⟨c.toNat, by omega⟩
  have hR1 := RC_cell (v := (t : Int)) hR p0 p1 h2.2
  have hb := bits_lt (fun c => decide (s_H (s_up n (6 + 3 * p + 1).toNat (t : Int)) c = 1)) 49
  have h2t : 2 ^ t < 2 ^ 49 := Nat.pow_lt_pow_right (by decide) (by omega)
  have e1 : l_and (am_up u (k + 2) p.toNat (t : Int) k 7) (l_xor (l_shl 1 (t : Int)) (-1)) = ((bits (fun d => decide (s_H (s_sets n p (t : Int)) d = 1)) 49 : Nat) : Int) := by
    unfold s_sets
    rw [hR1.2.2.2.2.2.2.2.1, l_shl1 t (by omega), l_andn (by omega) (by omega), bits_clr, bits_hole _ c0 (Or.inl rfl)]
    congr 1
    refine bits_congr fun d _ => ?_
    by_cases e : d = t <;> simp [e]
  refine ⟨am_up (am_up u (k + 2) p.toNat (t : Int)) k 7 (l_and (am_up u (k + 2) p.toNat (t : Int) k 7) (l_xor (l_shl 1 (t : Int)) (-1))), ?_, ⟨hE, hk, ?_, Vn_sets hV p0 p1 c0 c1 hc⟩, (FR.up (by omega)).tr (FR.up (by omega))⟩
  · simp (disch := first | assumption | omega) only [x_C_sets, r_lay7 hE hk (j := 2) (by decide), bdV_s]
  · rw [e1]
    refine RC_hole hR1 c0 (by omega) rfl ?_ ?_
    · rw [su_ne (by omega)]; exact hV.2.2.2.1.2
    · rw [su_ne (by omega)]; exact h2.2
theorem s_flip_x {v : Int} (v0 : 0 ≤ v) (v1 : v ≤ 3) : i_xor v 1 = s_flip v ∧ 0 ≤ s_flip v ∧ s_flip v ≤ 3 := by
  have e : v = 0 ∨ v = 1 ∨ v = 2 ∨ v = 3 := by omega
  rcases e with rfl | rfl | rfl | rfl <;> decide
theorem CU_course (h : CU E u k n) {p v : Int} (p0 : 0 ≤ p) (p1 : p < 7) (v0 : 0 ≤ v) (v1 : v ≤ 3) : CU E (am_up u (k + 3) p.toNat v) k (s_up n (6 + 3 * p + 2).toNat v) := ⟨h.1, h.2.1, RC_course h.2.2.1 p0 p1, Vn_course h.2.2.2 p0 p1 v0 v1⟩
theorem c_sails (h : CU E u k n) {p v : Int} (p0 : 0 ≤ p) (p1 : p < n 2) (hp : s_C n p ≠ -4) (v0 : 0 ≤ v) (v1 : v ≤ 3) : ∃ u', Rn m_C_sails 0 [vR (some k), vI p, vI v, vB false] [] E u = some (none, E, u') ∧ CU E u' k (s_sails n p v) ∧ FR k u u' := by
  have h' := h
  obtain ⟨hE, hk, hR, hV⟩ := h
  have hcl := s_cells_of hV
  have h2 := hV.2.2.1
  have hcell := (hR.2.2.2.2.2.2.2.2.1 p p0 p1).2.1
  have hc : 0 ≤ s_C n p ∧ s_C n p < s_cells n := by
    rcases Vn_pin hV p0 p1 with e | ⟨e1, e2, e3⟩
    · exact absurd e hp
    · exact ⟨e1, e3⟩
  have hbs := s_beside_in hV (v := v) hc.1 hc.2
  obtain ⟨fx, fx0, fx1⟩ := s_flip_x v0 v1
  unfold s_sails
  cases hm : s_mayGo n p (s_beside n (s_C n p) v) with
  | true =>
    obtain ⟨m1, m2, m3⟩ := s_mayGo_of hV hm
    have hb2 : 0 ≤ s_beside n (s_C n p) v ∧ s_beside n (s_C n p) v < s_cells n := hbs.resolve_left m1
    obtain ⟨u1, e1, h1, f1⟩ := c_sets h' p0 p1 hb2.1 hb2.2 m3
    refine ⟨am_up u1 (k + 3) p.toNat v, ?_, ?_, f1.tr (FR.up (by omega))⟩
    · simp (disch := first | assumption | omega) only [x_C_sails, r_look7 hE hk (j := 2) (by decide), bdI_s, hcell, c_beside h', fx_I, c_mayGo h' p0 p1 hbs, hm, bI_0, Bool.true_eq_false, ↓reduceIte, e1, bdV_s, r_lay7 hE hk (j := 3) (by decide)]
    · rw [if_pos rfl]
      have := CU_course (v := v) h1 p0 (by omega) v0 v1
      have e2 : s_sets (s_up n (6 + 3 * p + 2).toNat v) p (s_beside n (s_C n p) v) = s_up (s_sets n p (s_beside n (s_C n p) v)) (6 + 3 * p + 2).toNat v := by
        unfold s_sets
        rw [su_cm (i := (6 + 3 * p + 2).toNat) (by omega), su_cm (i := (6 + 3 * p + 2).toNat) (by omega)]
      rw [e2]
      exact this
  | false =>
    refine ⟨am_up u (k + 3) p.toNat (s_flip v), ?_, ?_, FR.up (by omega)⟩
    · simp (disch := first | assumption | omega) only [x_C_sails, r_look7 hE hk (j := 2) (by decide), bdI_s, hcell, c_beside h', fx_I, c_mayGo h' p0 p1 hbs, hm, bI_0, ↓reduceIte, fx, bdV_s, r_lay7 hE hk (j := 3) (by decide)]
    · rw [if_neg (by decide)]
      exact CU_course h' p0 (by omega) fx0 fx1
theorem c_seeks (h : CU E u k n) {p : Int} (p0 : 0 ≤ p) (p1 : p < n 2) (hp : s_C n p ≠ -4) : ∃ u', Rn m_C_seeks 0 [vR (some k), vI p, vB false, vB false] [] E u = some (none, E, u') ∧ CU E u' k (s_pull n p) ∧ FR k u u' := by
  have h' := h
  obtain ⟨hE, hk, hR, hV⟩ := h
  have hcl := s_cells_of hV
  have h2 := hV.2.2.1
  have hcell := (hR.2.2.2.2.2.2.2.2.1 p p0 p1).2.1
  have hc : 0 ≤ s_C n p ∧ s_C n p < s_cells n ∧ s_H n (s_C n p) = 0 := by
    rcases (hV.2.2.2.2.2.2.1 p p0 p1).2.1 with e | e
    · exact absurd e hp
    · exact e
  have hnin := s_nearR_in n (s_C n p) (s_cells n).toNat
  have hne : s_near n (s_C n p) = s_nearR n (s_C n p) (s_cells n).toNat := rfl
  rw [← hne] at hnin
  unfold s_pull
  by_cases hz : s_near n (s_C n p) = -4
  · rw [if_pos hz]
    refine ⟨u, ?_, h', FR.rf⟩
    have en : Rn m_C_nearer 0 [vR (some k), vI (s_C n p), vI (-4), vB false] [] E u = some (some (vI (-4)), E, u) := by
      simp (disch := first | assumption | omega) only [x_C_nearer, c_isCell h', bdI_s, bI_0, decide_eq_true (show 0 ≤ s_C n p ∧ s_C n p < s_cells n from ⟨hc.1, hc.2.1⟩), decide_eq_false (show ¬ (0 ≤ (-4 : Int) ∧ (-4 : Int) < s_cells n) by omega), Bool.true_eq_false, ↓reduceIte]
    have em : s_mayGo n p (-4) = false := rfl
    simp (disch := first | assumption | omega) only [x_C_seeks, r_look7 hE hk (j := 2) (by decide), bdI_s, hcell, c_nearestHole h' hc.1 hc.2.1, hz, en, fx_I, c_mayGo h' p0 p1 (Or.inl rfl), em, bI_0, ↓reduceIte]
  · rw [if_neg hz]
    have hg : 0 ≤ s_near n (s_C n p) ∧ s_near n (s_C n p) < s_cells n ∧ s_H n (s_near n (s_C n p)) = 1 := by
      rcases hnin with e | ⟨e1, e2, e3⟩
      · exact absurd e hz
      · exact ⟨e1, by omega, e3⟩
    have hneq : s_near n (s_C n p) ≠ s_C n p := fun z => by rw [z] at hg; omega
    have hbs := s_beside_in hV (v := s_way n (s_C n p) (s_near n (s_C n p))) hc.1 hc.2.1
    generalize hto : s_beside n (s_C n p) (s_way n (s_C n p) (s_near n (s_C n p))) = to at hbs ⊢
    have en := c_nearer h' hc.1 hc.2.1 hg.1 hg.2.1 hneq
    rw [hto] at en
    cases hm : s_mayGo n p to with
    | true =>
      obtain ⟨m1, m2, m3⟩ := s_mayGo_of hV hm
      have hb2 : 0 ≤ to ∧ to < s_cells n := hbs.resolve_left m1
      obtain ⟨u1, e1, h1, f1⟩ := c_sets h' p0 p1 hb2.1 hb2.2 m3
      refine ⟨u1, ?_, by rw [if_pos rfl]; exact h1, f1⟩
      simp (disch := first | assumption | omega) only [x_C_seeks, r_look7 hE hk (j := 2) (by decide), bdI_s, hcell, c_nearestHole h' hc.1 hc.2.1, en, fx_I, c_mayGo h' p0 p1 hbs, hm, bI_0, Bool.true_eq_false, ↓reduceIte, e1, bdV_s]
    | false =>
      refine ⟨u, ?_, by rw [if_neg (by decide)]; exact h', FR.rf⟩
      simp (disch := first | assumption | omega) only [x_C_seeks, r_look7 hE hk (j := 2) (by decide), bdI_s, hcell, c_nearestHole h' hc.1 hc.2.1, en, fx_I, c_mayGo h' p0 p1 hbs, hm, bI_0, ↓reduceIte]
/-- what a turn leaves -/
theorem s_sets_lo (n : am_Row) {p c : Int} (p0 : 0 ≤ p) (c0 : 0 ≤ c) {i : Nat} (hi : i < 6) : s_sets n p c i = n i := by unfold s_sets; rw [su_ne (by omega), su_ne (by omega)]
theorem s_turn_lo (hV : Vn n) {p : Int} (p0 : 0 ≤ p) (p1 : p < n 2) {i : Nat} (hi : i < 6) : s_turn n p i = n i := by
  unfold s_turn
  split
  · rfl
  rename_i hp
  have hc : 0 ≤ s_C n p ∧ s_C n p < s_cells n := by
    rcases Vn_pin hV p0 p1 with e | ⟨e1, e2, e3⟩
    · exact absurd e hp
    · exact ⟨e1, e3⟩
  have SA : ∀ v : Int, s_sails n p v i = n i := fun v => by
    unfold s_sails
    split
    · rename_i hm
      obtain ⟨m1, -⟩ := s_mayGo_of hV hm
      have := (s_beside_in hV (v := v) hc.1 hc.2).resolve_left m1
      rw [s_sets_lo _ p0 this.1 hi, su_ne (by omega)]
    · rw [su_ne (by omega)]
  split
  · exact SA _
  split
  · exact SA _
  split
  · unfold s_pull
    split
    · rfl
    split
    · rename_i hm
      obtain ⟨m1, -⟩ := s_mayGo_of hV hm
      have := (s_beside_in hV (v := s_way n (s_C n p) (s_near n (s_C n p))) hc.1 hc.2).resolve_left m1
      exact s_sets_lo _ p0 this.1 hi
    · rfl
  · rfl

/-! Days of the class's cushion. -/
variable {E : am_E} {u : am_M} {k : Nat} {n : am_Row}
theorem i_odd {d : Int} (d0 : 0 ≤ d) (d1 : d ≤ 2147483647) : i_and d 1 = d % 2 := by
  obtain ⟨t, rfl⟩ : ∃ t : Nat, d = (t : Int) := ⟨d.toNat, by omega⟩
  rw [show (1 : Int) = ((1 : Nat) : Int) from rfl, i_and_n (by omega) (by decide), Nat.and_one_is_mod]
  omega
theorem c_turn (h : CU E u k n) {p : Int} (p0 : 0 ≤ p) (p1 : p < n 2) (hd : n 4 ≤ 2147483647) : ∃ u', Rn m_C_goesOn 2 [vR (some k), vI p] [] E u = Rn m_C_goesOn 2 [vR (some k), vI (p + 1)] [] E u' ∧ CU E u' k (s_turn n p) ∧ FR k u u' := by
  have h' := h
  obtain ⟨hE, hk, hR, hV⟩ := h
  have h2 := hV.2.2.1
  have hu2 := hR.2.2.1
  have hu4 := hR.2.2.2.2.1
  obtain ⟨q1, q2, q3⟩ := hR.2.2.2.2.2.2.2.2.1 p p0 p1
  obtain ⟨hK, -, hVv⟩ := hV.2.2.2.2.2.2.1 p p0 p1
  have hodd := i_odd hV.2.2.2.2.1 hd
  unfold s_turn
  rw [h_C_goesOn_2]
  by_cases hp : s_C n p = -4
  · rw [if_pos hp]
    refine ⟨u, ?_, h', FR.rf⟩
    simp (disch := first | assumption | omega) only [x_C_goesOn, hu2, p1, ↓reduceIte, r_look7 hE hk (j := 2) (by decide), bdI_s, q2, hp, w32_of, fx_R]
  rw [if_neg hp]
  have ek : s_K n p = 0 ∨ s_K n p = 1 ∨ s_K n p = 2 ∨ s_K n p = 3 ∨ s_K n p = 4 := by omega
  rcases ek with e | e | e | e | e
  · rw [if_neg (by omega), if_neg (by omega), if_neg (by omega)]
    refine ⟨u, ?_, h', FR.rf⟩
    simp (disch := first | assumption | omega) only [x_C_goesOn, hu2, p1, ↓reduceIte, r_look7 hE hk (j := 2) (by decide), r_look7 hE hk (j := 1) (by decide), bdI_s, q1, q2, hp, w32_of, fx_R, e, (by decide : ¬ (0 : Int) = 1), (by decide : ¬ (0 : Int) = 2), (by decide : ¬ (0 : Int) = 3), (by decide : ¬ (0 : Int) = 4)]
  · rw [if_pos e]
    obtain ⟨u1, e1, h1, f1⟩ := c_sails h' p0 p1 hp hVv.1 hVv.2
    refine ⟨u1, ?_, h1, f1⟩
    simp (disch := first | assumption | omega) only [x_C_goesOn, hu2, p1, ↓reduceIte, r_look7 hE hk (j := 2) (by decide), r_look7 hE hk (j := 1) (by decide), r_look7 hE hk (j := 3) (by decide), bdI_s, bdV_s, q1, q2, q3, hp, w32_of, fx_R, e, e1]
  · rw [if_neg (by omega), if_neg (by omega)]
    by_cases hev : n 4 % 2 = 0
    · rw [if_pos (Or.inr ⟨e, hev⟩)]
      obtain ⟨u1, e1, h1, f1⟩ := c_seeks h' p0 p1 hp
      refine ⟨u1, ?_, h1, f1⟩
      simp (disch := first | assumption | omega) only [x_C_goesOn, hu2, hu4, p1, ↓reduceIte, r_look7 hE hk (j := 2) (by decide), r_look7 hE hk (j := 1) (by decide), bdI_s, bdV_s, q1, q2, hp, w32_of, fx_R, e, e1, hodd, hev, (by decide : ¬ (2 : Int) = 1)]
    · rw [if_neg (by omega)]
      refine ⟨u, ?_, h', FR.rf⟩
      simp (disch := first | assumption | omega) only [x_C_goesOn, hu2, hu4, p1, ↓reduceIte, r_look7 hE hk (j := 2) (by decide), r_look7 hE hk (j := 1) (by decide), bdI_s, bdV_s, q1, q2, hp, w32_of, fx_R, e, hodd, hev, (by decide : ¬ (2 : Int) = 1)]
  · rw [if_neg (by omega), if_pos e]
    obtain ⟨u1, e1, h1, f1⟩ := c_sails h' p0 p1 hp (v := 0) (by omega) (by omega)
    refine ⟨u1, ?_, h1, f1⟩
    simp (disch := first | assumption | omega) only [x_C_goesOn, hu2, p1, ↓reduceIte, r_look7 hE hk (j := 2) (by decide), r_look7 hE hk (j := 1) (by decide), bdI_s, bdV_s, q1, q2, hp, w32_of, fx_R, e, e1, (by decide : ¬ (3 : Int) = 1), (by decide : ¬ (3 : Int) = 2)]
  · rw [if_neg (by omega), if_neg (by omega), if_pos (Or.inl e)]
    obtain ⟨u1, e1, h1, f1⟩ := c_seeks h' p0 p1 hp
    refine ⟨u1, ?_, h1, f1⟩
    simp (disch := first | assumption | omega) only [x_C_goesOn, hu2, p1, ↓reduceIte, r_look7 hE hk (j := 2) (by decide), r_look7 hE hk (j := 1) (by decide), bdI_s, bdV_s, q1, q2, hp, w32_of, fx_R, e, e1, (by decide : ¬ (4 : Int) = 1), (by decide : ¬ (4 : Int) = 2), (by decide : ¬ (4 : Int) = 3)]
theorem c_turns (h : CU E u k n) (hd : n 4 ≤ 2147483647) : ∀ m : Nat, (m : Int) ≤ n 2 → ∃ u', Rn m_C_goesOn 2 [vR (some k), vI ((0 : Nat) : Int)] [] E u = Rn m_C_goesOn 2 [vR (some k), vI (m : Int)] [] E u' ∧ CU E u' k (s_turns n m) ∧ FR k u u' ∧ ∀ i, i < 6 → s_turns n m i = n i := by
  intro m
  induction m with
  | zero => intro _; exact ⟨u, rfl, h, FR.rf, fun _ _ => rfl⟩
  | succ m ih =>
    intro hm
    obtain ⟨u1, e1, h1, f1, l1⟩ := ih (by omega)
    have p1 : (m : Int) < (s_turns n m) 2 := by rw [l1 2 (by omega)]; omega
    obtain ⟨u2, e2, h2, f2⟩ := c_turn h1 (show (0 : Int) ≤ (m : Int) by omega) p1 (by rw [l1 4 (by omega)]; exact hd)
    refine ⟨u2, by rw [e1, e2]; rfl, h2, f1.tr f2, fun i hi => ?_⟩
    show s_turn (s_turns n m) (m : Int) i = n i
    rw [s_turn_lo h1.2.2.2 (by omega) p1 hi, l1 i hi]
theorem c_goesOn (h : CU E u k n) (hd : n 4 < 2147483647) : ∃ u', Rn m_C_goesOn 0 [vR (some k), vB false] [] E u = some (none, E, u') ∧ CU E u' k (s_day n) ∧ FR k u u' := by
  have hV := h.2.2.2
  have h2 := hV.2.2.1
  obtain ⟨u1, e1, h1, f1, l1⟩ := c_turns h (by omega) (n 2).toNat (by omega)
  have hu2 := h1.2.2.1.2.2.1
  have hu4 := h1.2.2.1.2.2.2.2.1
  rw [l1 2 (by omega)] at hu2
  rw [l1 4 (by omega)] at hu4
  have hE := h.1
  have hk := h.2.1
  refine ⟨am_up u1 k 4 (n 4 + 1), ?_, ⟨hE, hk, RC_day h1.2.2.1 (Or.inl rfl), Vn_day h1.2.2.2 (by have := hV.2.2.2.2.1; omega)⟩, f1.tr (FR.up (by omega))⟩
  have start : Rn m_C_goesOn 0 [vR (some k), vB false] [] E u = Rn m_C_goesOn 2 [vR (some k), vI ((0 : Nat) : Int)] [] E u := by
    simp only [x_C_goesOn, fx_R]; rfl
  have e2 : ((n 2).toNat : Int) = n 2 := by omega
  have d0 := hV.2.2.2.2.1
  rw [start, e1, h_C_goesOn_2]
  simp (disch := first | assumption | omega) only [x_C_goesOn, hu2, hu4, e2, show ¬ n 2 < n 2 by omega, ↓reduceIte, w32_of]
theorem s_day_lo (h : CU E u k n) (hd : n 4 < 2147483647) : s_day n 4 = n 4 + 1 ∧ ∀ i, i < 6 → i ≠ 4 → s_day n i = n i := by
  have h2 := h.2.2.2.2.2.1
  obtain ⟨u1, e1, h1, f1, l1⟩ := c_turns h (by omega) (n 2).toNat (by omega)
  refine ⟨su_eq, fun i hi hne => ?_⟩
  unfold s_day
  rw [su_ne hne, l1 i hi]
/-- many days: what they keep -/
theorem c_days (h : CU E u k n) : ∀ m : Nat, n 4 + m < 2147483648 → ∃ u', CU E u' k (s_days n m) ∧ FR k u u' ∧ s_days n m 4 = n 4 + m ∧ ∀ i, i < 6 → i ≠ 4 → s_days n m i = n i := by
  intro m
  induction m with
  | zero => intro _; exact ⟨u, h, FR.rf, by show n 4 = n 4 + 0; omega, fun _ _ _ => rfl⟩
  | succ m ih =>
    intro hm
    obtain ⟨u1, h1, f1, d1, l1⟩ := ih (by omega)
    obtain ⟨u2, e2, h2, f2⟩ := c_goesOn h1 (by rw [d1]; omega)
    obtain ⟨d2, l2⟩ := s_day_lo h1 (by rw [d1]; omega)
    exact ⟨u2, h2, f1.tr f2, by show s_day (s_days n m) 4 = _; rw [d2, d1]; omega, fun i hi hne => by show s_day (s_days n m) i = _; rw [l2 i hi hne, l1 i hi hne]⟩
theorem c_goesOnFor (h : CU E u k n) (m : Nat) (hd : n 4 + m < 2147483648) : ∃ u', Rn m_C_goesOnFor 0 [vR (some k), vI (m : Int), vB false] [] E u = some (none, E, u') ∧ CU E u' k (s_days n m) ∧ FR k u u' := by
  have hE := h.1
  have hk := h.2.1
  have loop : ∀ j : Nat, j ≤ m → ∃ u', Rn m_C_goesOnFor 2 [vR (some k), vI (m : Int), vI ((0 : Nat) : Int)] [] E u = Rn m_C_goesOnFor 2 [vR (some k), vI (m : Int), vI (j : Int)] [] E u' ∧ CU E u' k (s_days n j) ∧ FR k u u' ∧ s_days n j 4 = n 4 + j := by
    intro j
    induction j with
    | zero => intro _; exact ⟨u, rfl, h, FR.rf, by show n 4 = n 4 + 0; omega⟩
    | succ j ih =>
      intro hj
      obtain ⟨u1, e1, h1, f1, d1⟩ := ih (by omega)
      obtain ⟨u2, e2, h2, f2⟩ := c_goesOn h1 (by rw [d1]; omega)
      refine ⟨u2, ?_, h2, f1.tr f2, by show s_day (s_days n j) 4 = _; rw [(s_day_lo h1 (by rw [d1]; omega)).1, d1]; omega⟩
      rw [e1, h_C_goesOnFor_2]
      have d0 := h.2.2.2.2.2.2.2.1
      simp (disch := first | assumption | omega) only [x_C_goesOnFor, show (j : Int) < (m : Int) by omega, ↓reduceIte, e2, bdV_s, w32_of, fx_I]
      rfl
  obtain ⟨u1, e1, h1, f1, -⟩ := loop m (Nat.le_refl _)
  refine ⟨u1, ?_, h1, f1⟩
  have start : Rn m_C_goesOnFor 0 [vR (some k), vI (m : Int), vB false] [] E u = Rn m_C_goesOnFor 2 [vR (some k), vI (m : Int), vI ((0 : Nat) : Int)] [] E u := by
    simp only [x_C_goesOnFor, fx_I]; rfl
  rw [start, e1, h_C_goesOnFor_2]
  simp (disch := first | assumption | omega) only [x_C_goesOnFor, show ¬ (m : Int) < (m : Int) by omega, ↓reduceIte]
/-- the first of some numbers; -4 -/
def s_fst (f : Nat → Bool) : Nat → Nat → Int
  | _, 0 => -4
  | i, m + 1 => if f i = true then (i : Int) else s_fst f (i + 1) m
theorem c_soonest (h : CU E u k n) {p c : Int} (p0 : 0 ≤ p) (p1 : p < n 2) (hp : s_C n p ≠ -4) (m : Nat) (hm : m ≤ 100000) (hd : n 4 ≤ 1000000) : ∃ u', Rn m_C_soonest 0 [vR (some k), vI p, vI c, vI ((m : Int) - 1), vB false] [] E u = some (some (vI (s_fst (fun i => decide (s_C (s_days n i) p = c)) 0 m)), E, u') ∧ FR k u u' := by
  have hE := h.1
  have hk := h.2.1
  have h2 := h.2.2.2.2.2.1
  have LK : ∀ {v : am_M} {r : am_Row}, CU E v k r → r 2 = n 2 → Rn m_A_look 0 [vR (some (k + 2)), vI p] [] E v = some (some (vI (s_C r p)), E, v) := fun hv hr => by
    rw [r_look7 hE hk (j := 2) (by decide) p0 (by omega)]
    rw [(hv.2.2.1.2.2.2.2.2.2.2.2.1 p p0 (by rw [hr]; exact p1)).2.1]
  have loop : ∀ (d i : Nat), i + d = m → ∀ v : am_M, CU E v k (s_days n i) → (s_days n i) 2 = n 2 → (s_days n i) 4 = n 4 + i → ∃ u', Rn m_C_soonest 19 [vR (some k), vI p, vI c, vI ((m : Int) - 1), vI (i : Int)] [] E v = some (some (vI (s_fst (fun i => decide (s_C (s_days n i) p = c)) i d)), E, u') ∧ FR k v u' := by
    intro d
    induction d with
    | zero =>
      intro i hi v hv h2i h4i
      refine ⟨v, ?_, FR.rf⟩
      rw [h_C_soonest_19]
      simp (disch := first | assumption | omega) only [x_C_soonest, show (m : Int) - 1 < (i : Int) by omega, ↓reduceIte, s_fst]
    | succ d ih =>
      intro i hi v hv h2i h4i
      rw [h_C_soonest_19]
      simp (disch := first | assumption | omega) only [x_C_soonest, show ¬ (m : Int) - 1 < (i : Int) by omega, ↓reduceIte, LK hv h2i, bdI_s, s_fst, decide_eq_true_eq]
      by_cases hc : s_C (s_days n i) p = c
      · refine ⟨v, ?_, FR.rf⟩
        simp (disch := first | assumption | omega) only [hc, ↓reduceIte, x_C_soonest]
      · obtain ⟨u2, e2, hu2, f2⟩ := c_goesOn hv (by rw [h4i]; omega)
        obtain ⟨d2, l2⟩ := s_day_lo hv (by rw [h4i]; omega)
        obtain ⟨u3, e3, f3⟩ := ih (i + 1) (by omega) u2 hu2 (by show s_day (s_days n i) 2 = _; rw [l2 2 (by omega) (by omega), h2i]) (by show s_day (s_days n i) 4 = _; rw [d2, h4i]; omega)
        refine ⟨u3, ?_, f2.tr f3⟩
        simp (disch := first | assumption | omega) only [hc, ↓reduceIte, x_C_soonest, e2, bdV_s, w32_of, fx_I]
        exact e3
  obtain ⟨u1, e1, f1⟩ := loop m 0 (by omega) u h rfl (by show n 4 = n 4 + 0; omega)
  refine ⟨u1, ?_, f1⟩
  rw [← e1]
  simp (disch := first | assumption | omega) only [x_C_soonest, LK h rfl, bdI_s, hp, ↓reduceIte, fx_I]
  rfl

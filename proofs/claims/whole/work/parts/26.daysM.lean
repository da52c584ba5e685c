/-! Days of the reference's row. -/
variable {E : am_E} {u : am_M} {n : am_Row}
theorem Vn_turn (hV : Vn n) {p : Int} (p0 : 0 ≤ p) (p1 : p < n 2) : Vn (s_turn n p) := by
  obtain ⟨hK, -, hVv⟩ := hV.2.2.2.2.2.2.1 p p0 p1
  unfold s_turn
  split
  · exact hV
  rename_i hp
  split
  · exact Vn_sails hV p0 p1 hp hVv.1 hVv.2
  split
  · exact Vn_sails hV p0 p1 hp (by omega) (by omega)
  split
  · exact Vn_pull hV p0 p1 hp
  · exact hV
theorem Vn_turns (hV : Vn n) : ∀ m : Nat, (m : Int) ≤ n 2 → Vn (s_turns n m) ∧ ∀ i, i < 6 → s_turns n m i = n i := by
  intro m
  induction m with
  | zero => intro _; exact ⟨hV, fun _ _ => rfl⟩
  | succ m ih =>
    intro hm
    obtain ⟨h1, l1⟩ := ih (by omega)
    have p1 : (m : Int) < (s_turns n m) 2 := by rw [l1 2 (by omega)]; omega
    refine ⟨Vn_turn h1 (by omega) p1, fun i hi => ?_⟩
    show s_turn (s_turns n m) (m : Int) i = n i
    rw [s_turn_lo h1 (by omega) p1 hi, l1 i hi]
theorem Vn_aday (hV : Vn n) : Vn (s_day n) ∧ s_day n 4 = n 4 + 1 ∧ ∀ i, i < 6 → i ≠ 4 → s_day n i = n i := by
  have h2 := hV.2.2.1
  obtain ⟨h1, l1⟩ := Vn_turns hV (n 2).toNat (by omega)
  refine ⟨Vn_day h1 (by have := hV.2.2.2.2.1; omega), su_eq, fun i hi hne => ?_⟩
  unfold s_day
  rw [su_ne hne, l1 i hi]
theorem Vn_days (hV : Vn n) : ∀ m : Nat, Vn (s_days n m) ∧ s_days n m 4 = n 4 + m ∧ ∀ i, i < 6 → i ≠ 4 → s_days n m i = n i := by
  intro m
  induction m with
  | zero => exact ⟨hV, by show n 4 = n 4 + 0; omega, fun _ _ _ => rfl⟩
  | succ m ih =>
    obtain ⟨h1, d1, l1⟩ := ih
    obtain ⟨h2, d2, l2⟩ := Vn_aday h1
    exact ⟨h2, by show s_day (s_days n m) 4 = _; rw [d2, d1]; omega, fun i hi hne => by show s_day (s_days n m) i = _; rw [l2 i hi hne, l1 i hi hne]⟩
theorem m_turn (h : MU E u n) {p : Int} (p0 : 0 ≤ p) (p1 : p < n 2) (a : am_V) : ∃ b, Rn m_M_goesBy 2 [vR (some 149), vI p, a] [] E u = Rn m_M_goesBy 2 [vR (some 149), vI (p + 1), b] [] E (sN u (s_turn n p)) := by
  have h' := h
  obtain ⟨hE, hn, hV⟩ := h
  have al := (al_m hE).1
  have h2 := hV.2.2.1
  have hd := hV.2.2.2.2.1
  obtain ⟨hK, -, hVv⟩ := hV.2.2.2.2.2.2.1 p p0 p1
  have s2 : (2 : Int).toNat = 2 := rfl
  have s4 : (4 : Int).toNat = 4 := rfl
  unfold s_turn
  rw [h_M_goesBy_2]
  have ek : s_K n p = 0 ∨ s_K n p = 1 ∨ s_K n p = 2 ∨ s_K n p = 3 ∨ s_K n p = 4 := by omega
  by_cases hp : s_C n p = -4
  · rw [if_pos hp, sN_id hn]
    have iso := m_isOut (u := u) hE hn p0 (show p < 7 by omega)
    rw [decide_eq_true hp] at iso
    rcases ek with e | e | e | e | e <;>
    · simp (disch := first | assumption | omega) only [x_M_goesBy, hn, s2, p1, ↓reduceIte, m_K hE hn, bdI_s, fx_I, iso, bI_0, Bool.true_eq_false, w32_of, fx_R, e, Int.reduceEq]
      exact ⟨_, rfl⟩
  rw [if_neg hp]
  rcases ek with e | e | e | e | e
  · rw [if_neg (by omega), if_neg (by omega), if_neg (by omega), sN_id hn]
    simp (disch := first | assumption | omega) only [x_M_goesBy, hn, s2, p1, ↓reduceIte, m_K hE hn, bdI_s, fx_I, m_isOut hE hn, bI_0, hp, decide_false, e, w32_of, fx_R, (by decide : ¬ (0 : Int) = 1), (by decide : ¬ (0 : Int) = 2), (by decide : ¬ (0 : Int) = 3), (by decide : ¬ (0 : Int) = 4)]
    exact ⟨_, rfl⟩
  · rw [if_pos e]
    simp (disch := first | assumption | omega) only [x_M_goesBy, hn, s2, p1, ↓reduceIte, m_K hE hn, bdI_s, fx_I, m_isOut hE hn, bI_0, hp, decide_false, e, w32_of, fx_R, (by decide : ¬ (1 : Int) = 3), m_V hE hn, m_sails h' p0 p1 hp hVv.1 hVv.2, bdV_s]
    by_cases eo : s_C (s_sails n p (s_V n p)) p = -4
    · simp (disch := first | assumption | omega) only [m_isOut hE (sN_150 u (s_sails n p (s_V n p))), bdI_s, bI_0, decide_eq_true eo, Bool.true_eq_false, ↓reduceIte, x_M_goesBy, fx_R, w32_of]
      exact ⟨_, rfl⟩
    · simp (disch := first | assumption | omega) only [m_isOut hE (sN_150 u (s_sails n p (s_V n p))), bdI_s, bI_0, decide_eq_false eo, ↓reduceIte, x_M_goesBy, fx_R, w32_of, (by decide : ¬ (1 : Int) = 4), (by decide : ¬ (1 : Int) = 2)]
      exact ⟨_, rfl⟩
  · rw [if_neg (by omega), if_neg (by omega)]
    by_cases hev : n 4 % 2 = 0
    · rw [if_pos (Or.inr ⟨e, hev⟩)]
      simp (disch := first | assumption | omega) only [x_M_goesBy, hn, s2, s4, p1, ↓reduceIte, m_K hE hn, bdI_s, fx_I, m_isOut hE hn, bI_0, hp, decide_false, e, w32_of, fx_R, (by decide : ¬ (2 : Int) = 1), (by decide : ¬ (2 : Int) = 3), (by decide : ¬ (2 : Int) = 4), tmod_nn, hev, m_isPulled h' p0 p1 hp, bdV_s]
      exact ⟨_, rfl⟩
    · rw [if_neg (by omega), sN_id hn]
      simp (disch := first | assumption | omega) only [x_M_goesBy, hn, s2, s4, p1, ↓reduceIte, m_K hE hn, bdI_s, fx_I, m_isOut hE hn, bI_0, hp, decide_false, e, w32_of, fx_R, (by decide : ¬ (2 : Int) = 1), (by decide : ¬ (2 : Int) = 3), (by decide : ¬ (2 : Int) = 4), tmod_nn, hev]
      exact ⟨_, rfl⟩
  · rw [if_neg (by omega), if_pos e]
    simp (disch := first | assumption | omega) only [x_M_goesBy, hn, s2, p1, ↓reduceIte, m_K hE hn, bdI_s, fx_I, m_isOut hE hn, bI_0, hp, decide_false, e, w32_of, fx_R, (by decide : ¬ (3 : Int) = 1), m_sails h' p0 p1 hp (show (0 : Int) ≤ 0 by omega) (show (0 : Int) ≤ 3 by omega), bdV_s]
    by_cases eo : s_C (s_sails n p 0) p = -4
    · simp (disch := first | assumption | omega) only [m_isOut hE (sN_150 u (s_sails n p 0)), bdI_s, bI_0, decide_eq_true eo, Bool.true_eq_false, ↓reduceIte, x_M_goesBy, fx_R, w32_of]
      exact ⟨_, rfl⟩
    · simp (disch := first | assumption | omega) only [m_isOut hE (sN_150 u (s_sails n p 0)), bdI_s, bI_0, decide_eq_false eo, ↓reduceIte, x_M_goesBy, fx_R, w32_of, (by decide : ¬ (3 : Int) = 4), (by decide : ¬ (3 : Int) = 2)]
      exact ⟨_, rfl⟩
  · rw [if_neg (by omega), if_neg (by omega), if_pos (Or.inl e)]
    simp (disch := first | assumption | omega) only [x_M_goesBy, hn, s2, s4, p1, ↓reduceIte, m_K hE hn, bdI_s, fx_I, m_isOut hE hn, bI_0, hp, decide_false, e, w32_of, fx_R, (by decide : ¬ (4 : Int) = 1), (by decide : ¬ (4 : Int) = 3), m_isPulled h' p0 p1 hp, bdV_s]
    exact ⟨_, rfl⟩
theorem m_goesBy (h : MU E u n) (hd : n 4 < 2147483647) : Rn m_M_goesBy 0 [vR (some 149), vB false, vB false] [] E u = some (none, E, sN u (s_day n)) := by
  have h' := h
  obtain ⟨hE, hn, hV⟩ := h
  have al := (al_m hE).1
  have h2 := hV.2.2.1
  have d0 := hV.2.2.2.2.1
  have loop : ∀ m : Nat, (m : Int) ≤ n 2 → ∃ b, Rn m_M_goesBy 0 [vR (some 149), vB false, vB false] [] E u = Rn m_M_goesBy 2 [vR (some 149), vI (m : Int), b] [] E (sN u (s_turns n m)) := by
    intro m
    induction m with
    | zero =>
      intro _
      refine ⟨vB false, ?_⟩
      show _ = Rn m_M_goesBy 2 [vR (some 149), vI 0, vB false] [] E (sN u n)
      rw [sN_id hn]
      simp only [x_M_goesBy, fx_R]
    | succ m ih =>
      intro hm
      obtain ⟨b, e1⟩ := ih (by omega)
      obtain ⟨hv, l1⟩ := Vn_turns hV m (by omega)
      obtain ⟨b', e2⟩ := m_turn (h'.to hv) (show (0 : Int) ≤ (m : Int) by omega) (by rw [l1 2 (by omega)]; omega) b
      exact ⟨b', by rw [e1, e2, sN_sN]; rfl⟩
  obtain ⟨b, e1⟩ := loop (n 2).toNat (by omega)
  obtain ⟨hv, l1⟩ := Vn_turns hV (n 2).toNat (by omega)
  have e2 : ((n 2).toNat : Int) = n 2 := by omega
  have g2 := l1 2 (by omega)
  have g4 := l1 4 (by omega)
  rw [e1, h_M_goesBy_2]
  simp (disch := first | assumption | omega) only [x_M_goesBy, sN_150, show (2 : Int).toNat = 2 from rfl, show (4 : Int).toNat = 4 from rfl, g2, g4, e2, show ¬ n 2 < n 2 by omega, ↓reduceIte, w32_of, sN_ups]
  rfl
theorem m_goesOn (h : MU E u n) (m : Nat) (hd : n 4 + m < 2147483648) : Rn m_M_goesOn 0 [vR (some 149), vI (m : Int), vB false] [] E u = some (none, E, sN u (s_days n m)) := by
  have h' := h
  obtain ⟨hE, hn, hV⟩ := h
  have d0 := hV.2.2.2.2.1
  have loop : ∀ j : Nat, j ≤ m → Rn m_M_goesOn 0 [vR (some 149), vI (m : Int), vB false] [] E u = Rn m_M_goesOn 2 [vR (some 149), vI (m : Int), vI (j : Int)] [] E (sN u (s_days n j)) := by
    intro j
    induction j with
    | zero =>
      intro _
      show _ = Rn m_M_goesOn 2 [vR (some 149), vI (m : Int), vI 0] [] E (sN u n)
      rw [sN_id hn]
      simp only [x_M_goesOn, fx_I]
    | succ j ih =>
      intro hj
      obtain ⟨hv, d1, l1⟩ := Vn_days hV j
      have st := m_goesBy (h'.to hv) (by rw [d1]; omega)
      rw [sN_sN] at st
      rw [ih (by omega), h_M_goesOn_2]
      simp (disch := first | assumption | omega) only [x_M_goesOn, show (j : Int) < (m : Int) by omega, ↓reduceIte, st, bdV_s, fx_I, w32_of]
      rfl
  rw [loop m (Nat.le_refl m), h_M_goesOn_2]
  simp (disch := first | assumption | omega) only [x_M_goesOn, show ¬ (m : Int) < (m : Int) by omega, ↓reduceIte]

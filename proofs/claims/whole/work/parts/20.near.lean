/-! Where a pin may go; the nearest hole; the next cell. -/
variable {E : am_E} {u : am_M} {k : Nat} {n : am_Row}
/-- a loop that leaves other locals behind -/
theorem q_run {α : Type} (f : Nat → α → am_Z) (m : Nat) (h : ∀ i a, i < m → ∃ b, f i a = f (i + 1) b) : ∀ a, ∃ b, f 0 a = f m b := by
  induction m with
  | zero => exact fun a => ⟨a, rfl⟩
  | succ m ih =>
    intro a
    obtain ⟨b, hb⟩ := ih (fun i a hi => h i a (Nat.lt_succ_of_lt hi)) a
    obtain ⟨d, hd⟩ := h m b (Nat.lt_succ_self m)
    exact ⟨d, hb.trans hd⟩
theorem s_all_first {f : Nat → Bool} : ∀ {m : Nat}, s_all f m = false → ∃ i, i < m ∧ f i = false ∧ ∀ j, j < i → f j = true := by
  intro m
  induction m with
  | zero => intro h; simp [s_all] at h
  | succ m ih =>
    intro h
    cases hm : s_all f m with
    | false =>
      obtain ⟨i, h1, h2⟩ := ih hm
      exact ⟨i, by omega, h2⟩
    | true =>
      simp only [s_all, hm, Bool.true_and] at h
      exact ⟨m, by omega, h, (s_all_iff f m).mp hm⟩
theorem c_mayGo (h : CU E u k n) {p c : Int} (p0 : 0 ≤ p) (p1 : p < n 2) (hc : c = -4 ∨ (0 ≤ c ∧ c < s_cells n)) : Rn m_C_mayGo 0 [vR (some k), vI p, vI c, vB false, vB false, vB false, vB false] [] E u = some (some (vI (bI (s_mayGo n p c))), E, u) := by
  have h' := h
  obtain ⟨hE, hk, hR, hV⟩ := h
  have hcl := s_cells_of hV
  have h2 := hV.2.2.1
  have h3 := hV.2.2.2.1
  rcases hc with rfl | ⟨c0, c1⟩
  · simp (disch := first | assumption | omega) only [x_C_mayGo, c_isCell h', bdI_s, bI_0, decide_eq_false (show ¬ (0 ≤ (-4 : Int) ∧ (-4 : Int) < s_cells n) by omega), ↓reduceIte]
    rfl
  have ec : decide (0 ≤ c ∧ c < s_cells n) = true := decide_eq_true ⟨c0, c1⟩
  have cne : c ≠ -4 := by omega
  simp (disch := first | assumption | omega) only [x_C_mayGo, c_isCell h', bdI_s, bI_0, ec, Bool.true_eq_false, ↓reduceIte, c_pinOn h' cne]
  by_cases hpin : s_pinOn n c = -4
  case neg =>
    rw [if_neg hpin]
    simp [s_mayGo, hpin, bI]
  rw [if_pos hpin]
  simp (disch := first | assumption | omega) only [x_C_mayGo, fx_I]
  obtain ⟨m, hm⟩ : ∃ m : Nat, n 3 = (m : Int) := ⟨(n 3).toNat, by omega⟩
  have hmm : (n 3).toNat = m := by omega
  have hthr : u k 3 = (m : Int) := by rw [hR.2.2.2.1, hm]
  have FT : ∀ t : Nat, t < m → u (k + 4) t = s_A n t ∧ u (k + 5) t = s_B n t ∧ u (k + 6) t = s_L n t := by
    intro t ht
    have := hR.2.2.2.2.2.2.2.2.2.2 (t : Int) (by omega) (by omega)
    rw [Int.toNat_natCast] at this
    exact this
  have FP : ∀ q : Int, 0 ≤ q → q < n 2 → u (k + 2) q.toNat = s_C n q := fun q q0 q1 => (hR.2.2.2.2.2.2.2.2.1 q q0 q1).2.1
  let f : Nat → am_V × am_V × am_V → am_Z := fun i a => Rn m_C_mayGo 22 [vR (some k), vI p, vI c, vI (i : Int), a.1, a.2.1, a.2.2] [] E u
  -- a thread's round
  have round : ∀ (i : Nat) (a : am_V × am_V × am_V), i < m → (s_mayT n p c i = true → ∃ b, f i a = f (i + 1) b) ∧ (s_mayT n p c i = false → f i a = some (some (vI 0), E, u)) := by
    intro i a hi
    obtain ⟨a1, a2, a3⟩ := a
    have hi3 : (i : Int) < (m : Int) := by omega
    have hi0 : (0 : Int) ≤ (i : Int) := by omega
    have hin : (i : Int) < n 3 := by omega
    obtain ⟨t4, t5, t6⟩ := FT i hi
    obtain ⟨ha, hb, hab, hl, hx⟩ := Vn_thr hV hi0 hin
    have pa := FP _ ha.1 ha.2
    have pb := FP _ hb.1 hb.2
    have ca := Vn_pin hV ha.1 ha.2
    have cb := Vn_pin hV hb.1 hb.2
    have hho := c_holds h' hi0 hin
    have heq := s_holds_eq hV hi0 hin
    simp only [f]
    rw [h_C_mayGo_22]
    simp (disch := first | assumption | omega) only [x_C_mayGo, hthr, hi3, ↓reduceIte, r_look6 hE hk (j := 4) (by decide), r_look6 hE hk (j := 5) (by decide), bdI_s, Int.toNat_natCast, t4, t5, fx_I, hho, bI_0, w32_of]
    by_cases eA : s_A n i = p
    · have eB : ¬ s_B n i = p := fun z => hab (eA.trans z.symm)
      simp only [eA, ↓reduceIte]
      cases hh : s_holds n i with
      | false =>
        simp only [↓reduceIte]
        refine ⟨fun _ => ⟨(_, _, _), rfl⟩, fun z => ?_⟩
        simp [s_mayT, hh] at z
      | true =>
        rw [hh] at heq
        have heq := heq.symm
        simp only [Bool.and_eq_true, decide_eq_true_eq] at heq
        obtain ⟨g1, g2, g3, g4⟩ := heq
        simp (disch := first | assumption | omega) only [Bool.true_eq_false, ↓reduceIte, r_look7 hE hk (j := 2) (by decide), bdI_s, pb, x_C_mayGo, fx_I, c_far h', r_look6 hE hk (j := 6) (by decide), Int.toNat_natCast, t6]
        have e1 : s_mayT n p c i = decide (s_far n c (s_C n (s_B n i)) ≤ s_L n i) := by
          simp [s_mayT, s_isOf, eA, hh, s_holdsIf, s_one, s_two, eB, g1, cne, g3]
        rw [e1]
        by_cases ef : s_far n c (s_C n (s_B n i)) ≤ s_L n i
        · rw [if_neg (by omega)]
          simp (disch := first | assumption | omega) only [x_C_mayGo, w32_of]
          exact ⟨fun _ => ⟨(_, _, _), rfl⟩, fun z => by simp [ef] at z⟩
        · rw [if_pos (by omega)]
          exact ⟨fun z => by simp [ef] at z, fun _ => rfl⟩
    · simp only [eA, ↓reduceIte]
      by_cases eB : s_B n i = p
      · simp only [eB, ↓reduceIte]
        cases hh : s_holds n i with
        | false =>
          simp only [↓reduceIte]
          refine ⟨fun _ => ⟨(_, _, _), rfl⟩, fun z => ?_⟩
          simp [s_mayT, hh] at z
        | true =>
          rw [hh] at heq
          have heq := heq.symm
          simp only [Bool.and_eq_true, decide_eq_true_eq] at heq
          obtain ⟨g1, g2, g3, g4⟩ := heq
          simp (disch := first | assumption | omega) only [Bool.true_eq_false, ↓reduceIte, r_look7 hE hk (j := 2) (by decide), bdI_s, pa, x_C_mayGo, fx_I, c_far h', r_look6 hE hk (j := 6) (by decide), Int.toNat_natCast, t6]
          have e1 : s_mayT n p c i = decide (s_far n c (s_C n (s_A n i)) ≤ s_L n i) := by
            simp [s_mayT, s_isOf, eA, eB, hh, s_holdsIf, s_one, s_two, g1, cne, g2, s_far_cm n c]
          rw [e1]
          by_cases ef : s_far n c (s_C n (s_A n i)) ≤ s_L n i
          · rw [if_neg (by omega)]
            simp (disch := first | assumption | omega) only [x_C_mayGo, w32_of]
            exact ⟨fun _ => ⟨(_, _, _), rfl⟩, fun z => by simp [ef] at z⟩
          · rw [if_pos (by omega)]
            exact ⟨fun z => by simp [ef] at z, fun _ => rfl⟩
      · simp only [eB, ↓reduceIte]
        refine ⟨fun _ => ⟨(_, _, _), rfl⟩, fun z => ?_⟩
        simp [s_mayT, s_isOf, eA, eB] at z
  have start : Rn m_C_mayGo 22 [vR (some k), vI p, vI c, vI 0, vB false, vB false, vB false] [] E u = f 0 (vB false, vB false, vB false) := rfl
  rw [start]
  have hg : s_mayGo n p c = s_all (s_mayT n p c) m := by simp [s_mayGo, cne, hpin, hmm]
  rw [hg]
  cases hall : s_all (s_mayT n p c) m with
  | true =>
    have ht := (s_all_iff _ _).mp hall
    obtain ⟨b, hb⟩ := q_run f m (fun i a hi => (round i a hi).1 (ht i hi)) (vB false, vB false, vB false)
    rw [hb]
    simp only [f]
    rw [h_C_mayGo_22]
    simp (disch := first | assumption | omega) only [x_C_mayGo, hthr, show ¬ (m : Int) < (m : Int) by omega, ↓reduceIte]
    rfl
  | false =>
    obtain ⟨i, h1, h2, h3⟩ := s_all_first hall
    obtain ⟨b, hb⟩ := q_run f i (fun j a hj => (round j a (by omega)).1 (h3 j hj)) (vB false, vB false, vB false)
    rw [hb, (round i b h1).2 h2]
    rfl
theorem s_far_lt (hV : Vn n) {a b : Int} (a0 : 0 ≤ a) (a1 : a < 49) (b0 : 0 ≤ b) (b1 : b < 49) : 0 ≤ s_far n a b ∧ s_far n a b ≤ 32 := by
  obtain ⟨p1, p2, p3, p4, -⟩ := dm_of hV a0 a1
  obtain ⟨q1, q2, q3, q4, -⟩ := dm_of hV b0 b1
  have h1 := hV.2.1
  unfold s_far s_abs
  repeat' split
  all_goals omega
theorem s_nearR_in (n : am_Row) (cell : Int) : ∀ m : Nat, s_nearR n cell m = -4 ∨ (0 ≤ s_nearR n cell m ∧ s_nearR n cell m < m ∧ s_H n (s_nearR n cell m) = 1) := by
  intro m
  induction m with
  | zero => exact Or.inl rfl
  | succ m ih =>
    simp only [s_nearR]
    split
    · rename_i h
      exact Or.inr ⟨by omega, by omega, h.1⟩
    · rcases ih with h | ⟨h1, h2, h3⟩
      · exact Or.inl h
      · exact Or.inr ⟨h1, by omega, h3⟩
theorem s_nearR_end {n : am_Row} {cell : Int} {i m : Nat} (him : i ≤ m) (h : ∀ c : Nat, i ≤ c → c < m → s_H n (c : Int) ≠ 1) : s_nearR n cell m = s_nearR n cell i := by
  induction m with
  | zero => rw [show i = 0 by omega]
  | succ m ih =>
    by_cases e : i = m + 1
    · rw [e]
    · simp only [s_nearR]
      rw [if_neg (fun z => h m (by omega) (by omega) z.1)]
      exact ih (by omega) (fun c h1 h2 => h c h1 (by omega))
theorem s_near_49 (hV : Vn n) (cell : Int) : s_near n cell = s_nearR n cell 49 := by
  have hc := s_cells_of hV
  exact (s_nearR_end (by omega) (fun c h1 h2 z => by
    have := hV.2.2.2.2.2.2.2.2.2.1 (c : Int) (by omega) (by omega)
    omega)).symm
theorem c_nearestHole (h : CU E u k n) {cell : Int} (c0 : 0 ≤ cell) (c1 : cell < s_cells n) : Rn m_C_nearestHole 0 [vR (some k), vI cell, vB false, vB false, vB false, vB false, vB false, vB false] [] E u = some (some (vI (s_near n cell)), E, u) := by
  have h' := h
  obtain ⟨hE, hk, hR, hV⟩ := h
  have hcl := s_cells_of hV
  rw [s_near_49 hV]
  obtain ⟨B, hB⟩ : ∃ B : Nat, B = bits (fun c => decide (s_H n c = 1)) 49 := ⟨_, rfl⟩
  have hBl : B < 2 ^ 49 := by rw [hB]; exact bits_lt _ _
  have hu7 : u k 7 = (B : Int) := by rw [hR.2.2.2.2.2.2.2.1, hB]
  have hbit : ∀ i, i < 49 → B.testBit i = decide (s_H n (i : Int) = 1) := by
    intro i hi
    rw [hB, bits_tb]
    simp [hi]
  let lst : Nat → Int := fun i => if s_nearR n cell i = -4 then 0 else s_far n cell (s_nearR n cell i)
  let f : Nat → am_V → am_Z := fun i a => Rn m_C_nearestHole 14 [vR (some k), vI cell, vI (s_nearR n cell i), vI (lst i), vL ((B >>> i : Nat) : Int), vB false, vI (i : Int), a] [] E u
  have hsh : ∀ i, B >>> i < 9223372036854775808 := fun i => by
    have : B >>> i ≤ B := by rw [Nat.shiftRight_eq_div_pow]; exact Nat.div_le_self _ _
    omega
  have start : Rn m_C_nearestHole 0 [vR (some k), vI cell, vB false, vB false, vB false, vB false, vB false, vB false] [] E u = f 0 (vB false) := by
    simp (disch := first | assumption | omega) only [x_C_nearestHole, fx_I, fx_B, hu7]
    rfl
  have l0 : ∀ x : Nat, x < 9223372036854775808 → (l_cmp (x : Int) 0 = 0) = (x = 0) := by
    intro x _
    apply propext
    unfold l_cmp
    split
    · omega
    · split
      · omega
      · omega
  have fin : ∀ (i : Nat) (a : am_V), i ≤ 49 → (i = 49 ∨ B >>> i = 0) → f i a = some (some (vI (s_nearR n cell 49)), E, u) := by
    intro i a hi he
    have hend : s_nearR n cell 49 = s_nearR n cell i := by
      refine s_nearR_end hi (fun c h1 h2 z => ?_)
      rcases he with he | he
      · omega
      · have h1 := hbit c h2
        rw [z] at h1
        have h3 : (B >>> i).testBit (c - i) = B.testBit c := by rw [Nat.testBit_shiftRight]; congr 1; omega
        rw [he, h1] at h3
        simp at h3
    simp only [f]
    rw [h_C_nearestHole_14, hend]
    rcases he with rfl | he
    · simp (disch := first | assumption | omega) only [x_C_nearestHole]
      rfl
    · by_cases h49 : (i : Int) < 49
      · simp (disch := first | assumption | omega) only [x_C_nearestHole, h49, ↓reduceIte, he]
        rfl
      · simp (disch := first | assumption | omega) only [x_C_nearestHole, h49, ↓reduceIte]
  have step : ∀ (i : Nat) (a : am_V), i < 49 → ¬ B >>> i = 0 → ∃ b, f i a = f (i + 1) b := by
    intro i a hi hne
    have h49 : (i : Int) < 49 := by omega
    have hz := l0 (B >>> i) (hsh i)
    have e1 : l_and ((B >>> i : Nat) : Int) 1 = bI (B.testBit i) := by
      have := l_bit (a := B) (t := i) (by omega) (by omega)
      rw [l_ush_n (by omega) (by omega)] at this
      exact this
    have e2 : l_ush ((B >>> i : Nat) : Int) 1 = ((B >>> (i + 1) : Nat) : Int) := by
      have := l_ush_n (a := B >>> i) (t := 1) (hsh i) (by decide)
      rw [← Nat.shiftRight_add] at this
      exact this
    simp only [f]
    rw [h_C_nearestHole_14]
    simp (disch := first | assumption | omega) only [x_C_nearestHole, h49, ↓reduceIte, hz, hne, e1, l_cmp0, hbit i hi, e2, fx_I, fx_B, fx_L, w32_of]
    have hin := s_nearR_in n cell i
    by_cases hh : s_H n (i : Int) = 1
    · simp only [hh, decide_true, Bool.true_eq_false, ↓reduceIte]
      simp (disch := first | assumption | omega) only [c_far h', bdI_s, x_C_nearestHole, fx_I, fx_B, fx_L]
      have hfl := s_far_lt hV c0 (by omega) (show (0 : Int) ≤ (i : Int) by omega) h49
      by_cases q0 : s_nearR n cell i = -4
      · have r1 : s_nearR n cell (i + 1) = (i : Int) := by simp only [s_nearR, hh, q0, true_or, true_and, ↓reduceIte]
        have r2 : lst (i + 1) = s_far n cell (i : Int) := by
          show (if s_nearR n cell (i + 1) = -4 then 0 else s_far n cell (s_nearR n cell (i + 1))) = _
          rw [r1, if_neg (by omega)]
        rw [r1, r2]
        simp (disch := first | assumption | omega) only [q0, ↓reduceIte, x_C_nearestHole, fx_I, fx_B, fx_L, e2, w32_of]
        exact ⟨_, rfl⟩
      have el : lst i = s_far n cell (s_nearR n cell i) := by
        simp only [lst]
        rw [if_neg q0]
      have r1 : s_nearR n cell (i + 1) = if s_far n cell (i : Int) < lst i then (i : Int) else s_nearR n cell i := by
        simp only [s_nearR, hh, true_and, el, q0, false_or]
      have r2 : lst (i + 1) = if s_far n cell (i : Int) < lst i then s_far n cell (i : Int) else lst i := by
        show (if s_nearR n cell (i + 1) = -4 then 0 else s_far n cell (s_nearR n cell (i + 1))) = _
        rw [r1]
        by_cases q : s_far n cell (i : Int) < lst i
        · rw [if_pos q, if_pos q, if_neg (by omega)]
        · rw [if_neg q, if_neg q, if_neg q0, el]
      rw [r1, r2]
      by_cases q : s_far n cell (i : Int) < lst i
      · simp (disch := first | assumption | omega) only [q0, q, ↓reduceIte, x_C_nearestHole, fx_I, fx_B, fx_L, e2, w32_of]
        exact ⟨_, rfl⟩
      · simp (disch := first | assumption | omega) only [q0, q, ↓reduceIte, x_C_nearestHole, fx_I, fx_B, fx_L, e2, w32_of]
        exact ⟨_, rfl⟩
    · simp only [hh, decide_false, ↓reduceIte]
      have r1 : s_nearR n cell (i + 1) = s_nearR n cell i := by simp only [s_nearR, hh, false_and, ↓reduceIte]
      have r2 : lst (i + 1) = lst i := by
        show (if s_nearR n cell (i + 1) = -4 then 0 else s_far n cell (s_nearR n cell (i + 1))) = _
        rw [r1]
      rw [r1, r2]
      exact ⟨_, rfl⟩
  rw [start]
  -- as far as holes are left
  have go : ∀ d i : Nat, i + d = 49 → ∀ a, f i a = some (some (vI (s_nearR n cell 49)), E, u) := by
    intro d
    induction d with
    | zero => intro i hi a; exact fin i a (by omega) (Or.inl (by omega))
    | succ d ih =>
      intro i hi a
      by_cases hz : B >>> i = 0
      · exact fin i a (by omega) (Or.inr hz)
      · obtain ⟨b, hb⟩ := step i a (by omega) hz
        rw [hb]
        exact ih (i + 1) (by omega) b
  exact go 49 0 rfl _
theorem c_nearer (h : CU E u k n) {a g : Int} (a0 : 0 ≤ a) (a1 : a < s_cells n) (g0 : 0 ≤ g) (g1 : g < s_cells n) (hne : g ≠ a) : Rn m_C_nearer 0 [vR (some k), vI a, vI g, vB false] [] E u = some (some (vI (s_beside n a (s_way n a g))), E, u) := by
  have h' := h
  obtain ⟨hE, hk, hR, hV⟩ := h
  have hcl := s_cells_of hV
  have hn := hV.2.1
  obtain ⟨p1, p2, p3, p4, p5⟩ := dm_of hV a0 (by omega)
  obtain ⟨q1, q2, q3, q4, q5⟩ := dm_of hV g0 (by omega)
  have ea : decide (0 ≤ a ∧ a < s_cells n) = true := decide_eq_true ⟨a0, a1⟩
  have eg : decide (0 ≤ g ∧ g < s_cells n) = true := decide_eq_true ⟨g0, g1⟩
  have hn1 : ¬ n 1 < 1 := by omega
  have hn0 : n 1 ≠ 0 := by omega
  simp (disch := first | assumption | omega) only [x_C_nearer, c_isCell h', bdI_s, bI_0, ea, eg, Bool.true_eq_false, ↓reduceIte, hR.2.1, hn1, tdiv_nn, w32_of, fx_I]
  unfold s_way
  by_cases d0 : g / n 1 - a / n 1 = 0
  · have ed : g / n 1 = a / n 1 := by omega
    rw [if_pos d0, if_neg (show ¬ g / n 1 - a / n 1 < 0 by omega), if_neg (show ¬ 0 < g / n 1 - a / n 1 by omega)]
    rw [ed] at q5
    generalize n 1 * (a / n 1) = z at p5 q5
    by_cases hlt : a < g
    · rw [if_pos hlt, if_neg (show ¬ g % n 1 < a % n 1 by omega)]
      simp (disch := first | assumption | omega) only [x_C_nearer, c_beside h', bdI_s]
    · rw [if_neg hlt, if_pos (show g % n 1 < a % n 1 by omega)]
      simp (disch := first | assumption | omega) only [x_C_nearer, c_beside h', bdI_s]
  · rw [if_neg d0]
    by_cases hlt : 0 < g / n 1 - a / n 1
    · rw [if_pos hlt, if_neg (show ¬ g / n 1 - a / n 1 < 0 by omega), if_pos hlt]
      simp (disch := first | assumption | omega) only [x_C_nearer, c_beside h', bdI_s]
    · rw [if_neg hlt, if_pos (show g / n 1 - a / n 1 < 0 by omega)]
      simp (disch := first | assumption | omega) only [x_C_nearer, c_beside h', bdI_s]

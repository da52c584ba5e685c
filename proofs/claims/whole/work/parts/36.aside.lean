/-! The reference lays its row aside and back; it gets pins and threads, is made fresh. -/
variable {E : am_E} {u : am_M} {n : am_Row}
/-- nothing beyond the row's hundred numbers -/
def Zn (n : am_Row) : Prop := ∀ j, 100 ≤ j → n j = 0
theorem Zn_up (h : Zn n) {j : Nat} {v : Int} (hj : j < 100) : Zn (s_up n j v) := fun i hi => by rw [su_ne (by omega)]; exact h i hi
theorem Zn_sets (h : Zn n) {p c : Int} (p0 : 0 ≤ p) (p1 : p < 7) (c0 : 0 ≤ c) (c1 : c < 49) : Zn (s_sets n p c) := Zn_up (Zn_up h (by omega)) (by omega)
theorem Zn_turn (hV : Vn n) (h : Zn n) {p : Int} (p0 : 0 ≤ p) (p1 : p < n 2) : Zn (s_turn n p) := by
  have h2 := hV.2.2.1
  have hcl := s_cells_of hV
  unfold s_turn
  split
  · exact h
  rename_i hp
  have hc := Vn_on hV p0 p1 hp
  have SA : ∀ v : Int, Zn (s_sails n p v) := fun v => by
    unfold s_sails
    split
    · rename_i hm
      obtain ⟨m1, -⟩ := s_mayGo_of hV hm
      have := (s_beside_in hV (v := v) hc.1 hc.2).resolve_left m1
      exact Zn_sets (Zn_up h (by omega)) p0 (by omega) this.1 (by omega)
    · exact Zn_up h (by omega)
  split
  · exact SA _
  split
  · exact SA _
  split
  · unfold s_pull
    split
    · exact h
    split
    · rename_i hm
      obtain ⟨m1, -⟩ := s_mayGo_of hV hm
      have := (s_beside_in hV (v := s_way n (s_C n p) (s_near n (s_C n p))) hc.1 hc.2).resolve_left m1
      exact Zn_sets h p0 (by omega) this.1 (by omega)
    · exact h
  · exact h
theorem Zn_turns (hV : Vn n) (h : Zn n) : ∀ m : Nat, (m : Int) ≤ n 2 → Zn (s_turns n m) := by
  intro m
  induction m with
  | zero => intro _; exact h
  | succ m ih =>
    intro hm
    obtain ⟨h1, l1⟩ := Vn_turns hV m (by omega)
    exact Zn_turn h1 (ih (by omega)) (by omega) (by rw [l1 2 (by omega)]; omega)
theorem Zn_day (hV : Vn n) (h : Zn n) : Zn (s_day n) := Zn_up (Zn_turns hV h _ (by have := hV.2.2.1; omega)) (by omega)
theorem Zn_days (hV : Vn n) (h : Zn n) : ∀ m : Nat, Zn (s_days n m) := by
  intro m
  induction m with
  | zero => exact h
  | succ m ih => exact Zn_day (Vn_days hV m).1 ih
theorem Zn_cuts (h : Zn n) (h6 : n 3 ≤ 6) (S : Nat) : Zn (s_cuts n S) := fun j hj => by rw [s_cuts_ne (by omega)]; exact h j hj
theorem Zn_fresh (h : Zn n) (r c : Int) : Zn (s_fresh n r c) := fun j hj => by
  unfold s_fresh
  rw [if_neg (by omega), if_neg (by omega), if_neg (by omega), if_neg (by omega)]
  exact h j hj
theorem Zn_addPin (h : Zn n) (h2 : 0 ≤ n 2) (h7 : n 2 < 7) (K c v : Int) : Zn (s_addPin n K c v) := fun j hj => by rw [s_addPin_ne h2 (by omega) (by omega)]; exact h j hj
theorem Zn_addThr (h : Zn n) (h2 : 0 ≤ n 3) (h7 : n 3 < 6) (a b l : Int) : Zn (s_addThr n a b l) := fun j hj => by rw [s_addThr_ne h2 (by omega) (by omega)]; exact h j hj
theorem fil_all {r a n : am_Row} (hr : Zn r) (hn : Zn n) (h : ∀ j, j < 100 → a j = n j) : s_fil r a 0 100 = n := by
  funext j
  by_cases hj : j < 100
  · rw [s_fil_in (by omega)]; exact h j hj
  · rw [s_fil_out (by omega), hr j (by omega), hn j (by omega)]
theorem m_asides (hE : SE E) (hn : u 150 = n) : Rn m_M_asides 0 [vR (some 149), vB false] [] E u = some (none, E, aS u 155 (s_fil (u 155) n 0 100)) := by
  obtain ⟨l0, l1, l2, l3, l4, l5, l6, l7, l8, l9, l10⟩ := al_m hE
  let f : Nat → am_Z := fun i => Rn m_M_asides 2 [vR (some 149), vI (i : Int)] [] E (aS u 155 (s_fil (u 155) n 0 i))
  have start : Rn m_M_asides 0 [vR (some 149), vB false] [] E u = f 0 := by
    simp only [f, s_fil_0, aS_self]
    simp (disch := first | assumption | omega) only [↓reduceIte, x_M_asides, fx_R]
    rfl
  have step : ∀ i, i < 100 → f i = f (i + 1) := by
    intro i hi
    simp only [f]
    rw [h_M_asides_2]
    simp (disch := first | assumption | omega) only [↓reduceIte, x_M_asides, show (i : Int) < 100 by omega, Int.toNat_natCast, aS_ne, hn, aS_up, w32_of, fx_R]
    rw [s_fil_s (by omega) rfl]
    rfl
  rw [start, q_loop f 100 step]
  simp only [f]
  rw [h_M_asides_2]
  simp (disch := first | assumption | omega) only [↓reduceIte, x_M_asides, show ¬ ((100 : Nat) : Int) < 100 by omega]
theorem m_backs (hE : SE E) (hr : Zn (u 150)) (hn : Zn n) (ha : ∀ j, j < 100 → u 155 j = n j) : Rn m_M_backs 0 [vR (some 149), vB false] [] E u = some (none, E, sN u n) := by
  obtain ⟨l0, l1, l2, l3, l4, l5, l6, l7, l8, l9, l10⟩ := al_m hE
  let f : Nat → am_Z := fun i => Rn m_M_backs 2 [vR (some 149), vI (i : Int)] [] E (aS u 150 (s_fil (u 150) (u 155) 0 i))
  have start : Rn m_M_backs 0 [vR (some 149), vB false] [] E u = f 0 := by
    simp only [f, s_fil_0, aS_self]
    simp (disch := first | assumption | omega) only [↓reduceIte, x_M_backs, fx_R]
    rfl
  have step : ∀ i, i < 100 → f i = f (i + 1) := by
    intro i hi
    simp only [f]
    rw [h_M_backs_2]
    simp (disch := first | assumption | omega) only [↓reduceIte, x_M_backs, show (i : Int) < 100 by omega, Int.toNat_natCast, aS_ne, aS_up, w32_of, fx_R]
    rw [s_fil_s (by omega) rfl]
    rfl
  rw [start, q_loop f 100 step]
  simp only [f]
  rw [h_M_backs_2]
  simp (disch := first | assumption | omega) only [↓reduceIte, x_M_backs, show ¬ ((100 : Nat) : Int) < 100 by omega]
  rw [fil_all hr hn ha]
  rfl
theorem sN_aS (u : am_M) (n : am_Row) : sN u n = aS u 150 n := rfl
theorem m_pinComes (h : MU E u n) (h7 : n 2 < 7) (K c v : Int) : Rn m_M_pinComes 0 [vR (some 149), vI K, vI c, vI v, vB false] [] E u = some (none, E, am_up (sN u (s_addPin n K c v)) 149 8 0) := by
  obtain ⟨hE, hn, hV⟩ := h
  have h2 := hV.2.2.1
  obtain ⟨l0, l1, l2, l3, l4, l5, l6, l7, l8, l9, l10⟩ := al_m hE
  have e2 : (2 : Int).toNat = 2 := rfl
  have r2 : (s_up (s_up (s_up n (6 + 3 * n 2).toNat K) (6 + 3 * n 2 + 1).toNat c) (6 + 3 * n 2 + 2).toNat v) 2 = n 2 := by
    rw [su_ne (by omega), su_ne (by omega), su_ne (by omega)]
  simp (disch := first | assumption | omega) only [↓reduceIte, x_M_pinComes, hn, e2, w32_of, fx_I, sN_up, sN_ups, sN_sN, sN_150, r2]
  rfl
theorem m_threadComes (h : MU E u n) (h6 : n 3 < 6) (a b l : Int) : Rn m_M_threadComes 0 [vR (some 149), vI a, vI b, vI l, vB false] [] E u = some (none, E, am_up (sN u (s_addThr n a b l)) 149 8 0) := by
  obtain ⟨hE, hn, hV⟩ := h
  have h3 := hV.2.2.2.1
  obtain ⟨l0, l1, l2, l3, l4, l5, l6, l7, l8, l9, l10⟩ := al_m hE
  have e3 : (3 : Int).toNat = 3 := rfl
  have key : ∀ x y : Int, (s_up (s_up (s_up (s_up n (27 + 4 * n 3).toNat x) (27 + 4 * n 3 + 1).toNat y) (27 + 4 * n 3 + 2).toNat l) (27 + 4 * n 3 + 3).toNat 0) 3 = n 3 := fun x y => by
    rw [su_ne (by omega), su_ne (by omega), su_ne (by omega), su_ne (by omega)]
  unfold s_addThr
  by_cases hab : a < b
  · rw [if_pos hab, if_pos hab]
    simp (disch := first | assumption | omega) only [↓reduceIte, x_M_threadComes, hn, e3, w32_of, fx_I, sN_up, sN_ups, sN_sN, sN_150, key, hab]
  · rw [if_neg hab, if_neg hab]
    simp (disch := first | assumption | omega) only [↓reduceIte, x_M_threadComes, hn, e3, w32_of, fx_I, sN_up, sN_ups, sN_sN, sN_150, key, hab]
theorem m_fresh (hE : SE E) (hn : u 150 = n) (r c : Int) : Rn m_M_fresh 0 [vR (some 149), vI r, vI c, vB false] [] E u = some (none, E, am_up (sN u (s_fresh n r c)) 149 8 0) := by
  obtain ⟨l0, l1, l2, l3, l4, l5, l6, l7, l8, l9, l10⟩ := al_m hE
  let n1 : am_Row := s_up (s_up n 0 r) 1 c
  let n2 : am_Row := s_fil n1 (fun _ => 0) 2 3
  let f : Nat → am_Z := fun i => Rn m_M_fresh 16 [vR (some 149), vI r, vI c, vI (2 + (i : Int))] [] E (sN u (s_fil n1 (fun _ => 0) 2 i))
  let g : Nat → am_Z := fun i => Rn m_M_fresh 36 [vR (some 149), vI r, vI c, vI (i : Int)] [] E (sN u (s_fil n2 (fun _ => 0) 51 i))
  have start : Rn m_M_fresh 0 [vR (some 149), vI r, vI c, vB false] [] E u = f 0 := by
    simp only [f, s_fil_0, n1]
    simp (disch := first | assumption | omega) only [↓reduceIte, x_M_fresh, hn, Int.toNat_zero, Int.toNat_one, sN_up, sN_ups, sN_sN, sN_150, fx_I]
    rfl
  have step : ∀ i, i < 3 → f i = f (i + 1) := by
    intro i hi
    simp only [f]
    rw [h_M_fresh_16]
    simp (disch := first | assumption | omega) only [↓reduceIte, x_M_fresh, show 2 + (i : Int) < 5 by omega, sN_ups, w32_of, fx_I]
    rw [s_fil_s (by omega) rfl, show (2 : Int) + ((i + 1 : Nat) : Int) = 2 + (i : Int) + 1 by omega]
  have mid : f 3 = g 0 := by
    simp only [f, g, s_fil_0]
    rw [h_M_fresh_16]
    simp (disch := first | assumption | omega) only [↓reduceIte, x_M_fresh, show ¬ 2 + ((3 : Nat) : Int) < 5 by omega, fx_I]
    rfl
  have step2 : ∀ i, i < 49 → g i = g (i + 1) := by
    intro i hi
    simp only [g]
    rw [h_M_fresh_36]
    simp (disch := first | assumption | omega) only [↓reduceIte, x_M_fresh, show (i : Int) < 49 by omega, sN_ups, w32_of, fx_I]
    rw [s_fil_s (by omega) rfl]
    rfl
  rw [start, q_loop f 3 step, mid, q_loop g 49 step2]
  simp only [g]
  rw [h_M_fresh_36]
  simp (disch := first | assumption | omega) only [↓reduceIte, x_M_fresh, show ¬ ((49 : Nat) : Int) < 49 by omega]
  have e : s_fil n2 (fun _ => 0) 51 49 = s_fresh n r c := by
    funext x
    simp only [n2, n1]
    unfold s_fresh s_fil s_up
    by_cases x0 : x = 0
    · subst x0; rfl
    by_cases x1 : x = 1
    · subst x1; rfl
    by_cases x5 : x < 5
    · simp only [if_neg x0, if_neg x1, if_pos x5, if_neg (show ¬ (51 ≤ x ∧ x < 51 + 49) by omega), if_pos (show 2 ≤ x ∧ x < 2 + 3 by omega)]
    · by_cases x6 : 51 ≤ x ∧ x < 100
      · simp only [if_neg x0, if_neg x1, if_neg x5, if_pos x6, if_pos (show 51 ≤ x ∧ x < 51 + 49 by omega)]
      · simp only [if_neg x0, if_neg x1, if_neg x5, if_neg x6, if_neg (show ¬ (51 ≤ x ∧ x < 51 + 49) by omega), if_neg (show ¬ (2 ≤ x ∧ x < 2 + 3) by omega)]
  rw [e]

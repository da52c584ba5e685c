/-! The reference sets down what it read. -/
variable {E : am_E} {u : am_M} {k : Nat} {n : am_Row} {T : List Int}
def AS (u : am_M) (m : am_Row) : am_M := am_up (sN u m) 149 8 0
theorem as_i {m : am_Row} {i : Nat} (h : i ≠ 149) (h' : i ≠ 150) : AS u m i = u i := by unfold AS; rw [up_fn h, sN_ne _ _ h']
theorem as_150 {m : am_Row} : AS u m 150 = m := by unfold AS; rw [up_fn (by omega), sN_150]
theorem as_sN {m m' : am_Row} : am_up (sN (AS u m) m') 149 8 0 = AS u m' := by
  funext a b
  unfold AS
  by_cases h : a = 149
  · subst h
    by_cases h8 : b = 8
    · subst h8; rw [up_eq, up_eq]
    · rw [up_nj h8, up_nj h8, sN_ne _ _ (by omega), sN_ne _ _ (by omega), up_nj h8, sN_ne _ _ (by omega)]
  · rw [up_fn h, up_fn h]
    by_cases h1 : a = 150
    · subst h1; rw [sN_150, sN_150]
    · rw [sN_ne _ _ h1, sN_ne _ _ h1, up_fn h, sN_ne _ _ h1]
theorem as_up {m : am_Row} {j : Nat} {v : Int} : am_up (AS u m) 150 j v = AS u (s_up m j v) := by
  funext a b
  simp only [AS, am_up, sN, s_up]
  by_cases h : a = 150
  · subst h; simp; rfl
  · simp [h]
theorem m_pinComesA (hE : SE E) {m : am_Row} (h2 : 0 ≤ m 2) (h7 : m 2 < 7) (K c v : Int) : Rn m_M_pinComes 0 [vR (some 149), vI K, vI c, vI v, vB false] [] E (AS u m) = some (none, E, AS u (s_addPin m K c v)) := by
  obtain ⟨l0, l1, l2, l3, l4, l5, l6, l7, l8, l9, l10⟩ := al_m hE
  have e2 : (2 : Int).toNat = 2 := rfl
  have r2 : (s_up (s_up (s_up m (6 + 3 * m 2).toNat K) (6 + 3 * m 2 + 1).toNat c) (6 + 3 * m 2 + 2).toNat v) 2 = m 2 := by
    rw [su_ne (by omega), su_ne (by omega), su_ne (by omega)]
  have e8 : ∀ m' : am_Row, am_up (AS u m') 149 8 0 = AS u m' := fun m' => by unfold AS; exact up_up
  simp (disch := first | assumption | omega) only [↓reduceIte, x_M_pinComes, as_150, e2, w32_of, fx_I, as_up, r2, e8]
  rfl
theorem m_threadComesA (hE : SE E) {m : am_Row} (h2 : 0 ≤ m 3) (h7 : m 3 < 6) (a b l : Int) : Rn m_M_threadComes 0 [vR (some 149), vI a, vI b, vI l, vB false] [] E (AS u m) = some (none, E, AS u (s_addThr m a b l)) := by
  obtain ⟨l0, l1, l2, l3, l4, l5, l6, l7, l8, l9, l10⟩ := al_m hE
  have e3 : (3 : Int).toNat = 3 := rfl
  have key : ∀ x y : Int, (s_up (s_up (s_up (s_up m (27 + 4 * m 3).toNat x) (27 + 4 * m 3 + 1).toNat y) (27 + 4 * m 3 + 2).toNat l) (27 + 4 * m 3 + 3).toNat 0) 3 = m 3 := fun x y => by
    rw [su_ne (by omega), su_ne (by omega), su_ne (by omega), su_ne (by omega)]
  have e8 : ∀ m' : am_Row, am_up (AS u m') 149 8 0 = AS u m' := fun m' => by unfold AS; exact up_up
  unfold s_addThr
  by_cases hab : a < b
  · rw [if_pos hab, if_pos hab]
    simp (disch := first | assumption | omega) only [↓reduceIte, x_M_threadComes, as_150, e3, w32_of, fx_I, as_up, key, hab, e8]
  · rw [if_neg hab, if_neg hab]
    simp (disch := first | assumption | omega) only [↓reduceIte, x_M_threadComes, as_150, e3, w32_of, fx_I, as_up, key, hab, e8]
def s_pins (m r : am_Row) : Nat → am_Row
  | 0 => m
  | i + 1 => s_addPin (s_pins m r i) (r (6 + 3 * (i : Int)).toNat) (r (6 + 3 * (i : Int) + 1).toNat) (r (6 + 3 * (i : Int) + 2).toNat)
def s_thrs (m r : am_Row) : Nat → am_Row
  | 0 => m
  | i + 1 => s_addThr (s_thrs m r i) (r (27 + 4 * (i : Int)).toNat) (r (27 + 4 * (i : Int) + 1).toNat) (r (27 + 4 * (i : Int) + 2).toNat)
theorem s_pins_2 {m r : am_Row} (h : m 2 = 0) : ∀ i : Nat, s_pins m r i 2 = (i : Int) := by
  intro i
  induction i with
  | zero => exact h
  | succ i ih => simp only [s_pins]; rw [s_addPin_2, ih]; omega
theorem s_thrs_3 {m r : am_Row} (h : m 3 = 0) : ∀ i : Nat, s_thrs m r i 3 = (i : Int) := by
  intro i
  induction i with
  | zero => exact h
  | succ i ih => simp only [s_thrs]; rw [s_addThr_3, ih]; omega
theorem s_pins_out {m r : am_Row} (h : m 2 = 0) {x : Nat} (x2 : x ≠ 2) : ∀ i : Nat, ¬ (6 ≤ x ∧ x < 6 + 3 * i) → s_pins m r i x = m x := by
  intro i
  induction i with
  | zero => intro _; rfl
  | succ i ih =>
    intro hx
    have e := s_pins_2 (r := r) h i
    simp only [s_pins]
    rw [s_addPin_ne (by rw [e]; omega) x2 (by rw [e]; omega), ih (by omega)]
theorem s_pins_in {m r : am_Row} (h : m 2 = 0) {x : Nat} (x6 : 6 ≤ x) : ∀ i : Nat, x < 6 + 3 * i → s_pins m r i x = r x := by
  intro i
  induction i with
  | zero => intro hx; omega
  | succ i ih =>
    intro hx
    have e := s_pins_2 (r := r) h i
    simp only [s_pins]
    by_cases c : x < 6 + 3 * i
    · rw [s_addPin_ne (by rw [e]; omega) (by omega) (by rw [e]; omega), ih c]
    · have k0 := s_addPin_K (n := s_pins m r i) (K := r (6 + 3 * (i : Int)).toNat) (c := r (6 + 3 * (i : Int) + 1).toNat) (v := r (6 + 3 * (i : Int) + 2).toNat) (by rw [e]; omega)
      have k1 := s_addPin_C (n := s_pins m r i) (K := r (6 + 3 * (i : Int)).toNat) (c := r (6 + 3 * (i : Int) + 1).toNat) (v := r (6 + 3 * (i : Int) + 2).toNat) (by rw [e]; omega)
      have k2 := s_addPin_V (n := s_pins m r i) (K := r (6 + 3 * (i : Int)).toNat) (c := r (6 + 3 * (i : Int) + 1).toNat) (v := r (6 + 3 * (i : Int) + 2).toNat) (by rw [e]; omega)
      unfold s_K at k0
      unfold s_C at k1
      unfold s_V at k2
      rw [e] at k0 k1 k2
      rcases (by omega : x = (6 + 3 * (i : Int)).toNat ∨ x = (6 + 3 * (i : Int) + 1).toNat ∨ x = (6 + 3 * (i : Int) + 2).toNat) with c | c | c
      · rw [c]; exact k0
      · rw [c]; exact k1
      · rw [c]; exact k2
theorem s_thrs_out {m r : am_Row} (h : m 3 = 0) {x : Nat} (x2 : x ≠ 3) : ∀ i : Nat, ¬ (27 ≤ x ∧ x < 27 + 4 * i) → s_thrs m r i x = m x := by
  intro i
  induction i with
  | zero => intro _; rfl
  | succ i ih =>
    intro hx
    have e := s_thrs_3 (r := r) h i
    simp only [s_thrs]
    rw [s_addThr_ne (by rw [e]; omega) x2 (by rw [e]; omega), ih (by omega)]
/-- a thread set down is the thread told -/
theorem s_thrs_in {m r z : am_Row} (h : m 3 = 0) {N : Int} (hz : ∀ t : Int, 0 ≤ t → t < N → s_A z t = (if r (27 + 4 * t).toNat < r (27 + 4 * t + 1).toNat then r (27 + 4 * t).toNat else r (27 + 4 * t + 1).toNat) ∧ s_B z t = (if r (27 + 4 * t).toNat < r (27 + 4 * t + 1).toNat then r (27 + 4 * t + 1).toNat else r (27 + 4 * t).toNat) ∧ s_L z t = r (27 + 4 * t + 2).toNat ∧ s_X z t = 0) {x : Nat} (x6 : 27 ≤ x) : ∀ i : Nat, (i : Int) ≤ N → x < 27 + 4 * i → s_thrs m r i x = z x := by
  intro i
  induction i with
  | zero => intro _ hx; omega
  | succ i ih =>
    intro hN hx
    have e := s_thrs_3 (r := r) h i
    simp only [s_thrs]
    by_cases c : x < 27 + 4 * i
    · rw [s_addThr_ne (by rw [e]; omega) (by omega) (by rw [e]; omega), ih (by omega) c]
    · have hh := hz (i : Int) (by omega) (by omega)
      have k0 := s_addThr_A (n := s_thrs m r i) (a := r (27 + 4 * (i : Int)).toNat) (b := r (27 + 4 * (i : Int) + 1).toNat) (l := r (27 + 4 * (i : Int) + 2).toNat) (by rw [e]; omega)
      have k1 := s_addThr_B (n := s_thrs m r i) (a := r (27 + 4 * (i : Int)).toNat) (b := r (27 + 4 * (i : Int) + 1).toNat) (l := r (27 + 4 * (i : Int) + 2).toNat) (by rw [e]; omega)
      have k2 := s_addThr_L (n := s_thrs m r i) (a := r (27 + 4 * (i : Int)).toNat) (b := r (27 + 4 * (i : Int) + 1).toNat) (l := r (27 + 4 * (i : Int) + 2).toNat) (by rw [e]; omega)
      have k3 := s_addThr_X (n := s_thrs m r i) (a := r (27 + 4 * (i : Int)).toNat) (b := r (27 + 4 * (i : Int) + 1).toNat) (l := r (27 + 4 * (i : Int) + 2).toNat) (by rw [e]; omega)
      rw [e] at k0 k1 k2 k3
      replace k0 := k0.trans hh.1.symm
      replace k1 := k1.trans hh.2.1.symm
      replace k2 := k2.trans hh.2.2.1.symm
      replace k3 := k3.trans hh.2.2.2.symm
      unfold s_A at k0
      unfold s_B at k1
      unfold s_L at k2
      unfold s_X at k3
      rcases (by omega : x = (27 + 4 * (i : Int)).toNat ∨ x = (27 + 4 * (i : Int) + 1).toNat ∨ x = (27 + 4 * (i : Int) + 2).toNat ∨ x = (27 + 4 * (i : Int) + 3).toNat) with c | c | c | c
      · rw [c]; exact k0
      · rw [c]; exact k1
      · rw [c]; exact k2
      · rw [c]; exact k3

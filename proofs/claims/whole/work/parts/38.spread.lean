/-! Who is bound to whom; alone, taut; small sets counted; threads of a set cut. -/
variable {E : am_E} {u : am_M} {k : Nat} {n : am_Row}
theorem i_or_lt {a b : Nat} (ha : a < 128) (hb : b < 128) : a ||| b < 128 := Nat.or_lt_two_pow (n := 7) ha hb
theorem pow_lt128 {a : Nat} (h : a < 7) : 2 ^ a < 128 := by
  show 2 ^ a < 2 ^ 7
  exact Nat.pow_lt_pow_right (by decide) h
theorem pow_le128 {a : Nat} (h : a ≤ 7) : 2 ^ a ≤ 128 := by
  show 2 ^ a ≤ 2 ^ 7
  exact Nat.pow_le_pow_right (by decide) h
theorem pow_lt64 {a : Nat} (h : a < 6) : 2 ^ a < 64 := by
  show 2 ^ a < 2 ^ 6
  exact Nat.pow_lt_pow_right (by decide) h
theorem pow_le64 {a : Nat} (h : a ≤ 6) : 2 ^ a ≤ 64 := by
  show 2 ^ a ≤ 2 ^ 6
  exact Nat.pow_le_pow_right (by decide) h
/-- a set, and what is joined to it by the first threads -/
def s_nx (n : am_Row) (S : Nat) : Nat → Nat
  | 0 => S
  | t + 1 => if (s_holds n (t : Int) && (S.testBit (s_A n (t : Int)).toNat || S.testBit (s_B n (t : Int)).toNat)) = true then s_nx n S t ||| (2 ^ (s_A n (t : Int)).toNat ||| 2 ^ (s_B n (t : Int)).toNat) else s_nx n S t
def s_next (n : am_Row) (S : Nat) : Nat := s_nx n S (n 3).toNat
theorem Vn_ab (hV : Vn n) {t : Nat} (ht : (t : Int) < n 3) : ∃ a b : Nat, s_A n (t : Int) = (a : Int) ∧ s_B n (t : Int) = (b : Int) ∧ (a : Int) < n 2 ∧ (b : Int) < n 2 ∧ a < 7 ∧ b < 7 ∧ a ≠ b := by
  have h2 := hV.2.2.1
  obtain ⟨x, y, z, -⟩ := Vn_thr hV (t := (t : Int)) (by omega) ht
  exact ⟨(s_A n (t : Int)).toNat, (s_B n (t : Int)).toNat, by omega, by omega, by omega, by omega, by omega, by omega, by omega⟩
theorem s_nx_lt (hV : Vn n) {S : Nat} (hS : S < 128) : ∀ t : Nat, (t : Int) ≤ n 3 → s_nx n S t < 128 := by
  intro t
  induction t with
  | zero => intro _; exact hS
  | succ t ih =>
    intro ht
    obtain ⟨a, b, ea, eb, -, -, a7, b7, -⟩ := Vn_ab hV (t := t) (by omega)
    simp only [s_nx, ea, eb, Int.toNat_natCast]
    split
    · exact i_or_lt (ih (by omega)) (i_or_lt (pow_lt128 a7) (pow_lt128 b7))
    · exact ih (by omega)
theorem s_next_lt (hV : Vn n) {S : Nat} (hS : S < 128) : s_next n S < 128 := s_nx_lt hV hS _ (by have := hV.2.2.2.1; omega)
theorem c_spreads (h : CU E u k n) {S : Nat} (hS : S < 128) : Rn m_C_spreads 0 [vR (some k), vI (S : Int), vB false, vB false, vB false, vB false] [] E u = some (some (vI (s_next n S : Nat)), E, u) := by
  have h' := h
  obtain ⟨hE, hk, hR, hV⟩ := h
  have h3 := hV.2.2.2.1
  have hu3 := hR.2.2.2.1
  obtain ⟨m, hm⟩ : ∃ m : Nat, n 3 = (m : Int) := ⟨(n 3).toNat, by omega⟩
  have loop : ∀ t : Nat, t ≤ m → ∃ (x y : am_V), Rn m_C_spreads 0 [vR (some k), vI (S : Int), vB false, vB false, vB false, vB false] [] E u = Rn m_C_spreads 4 [vR (some k), vI (S : Int), vI (s_nx n S t : Nat), vI (t : Int), x, y] [] E u ∧ am_fx x = x := by
    intro t
    induction t with
    | zero =>
      intro _
      refine ⟨vB false, vB false, ?_, rfl⟩
      simp (disch := first | assumption | omega) only [↓reduceIte, x_C_spreads, fx_I]
      rfl
    | succ t ih =>
      intro ht
      obtain ⟨x, y, e1, e2⟩ := ih (by omega)
      obtain ⟨a, b, ea, eb, a2, b2, a7, b7, -⟩ := Vn_ab hV (t := t) (by omega)
      obtain ⟨p4, p5, -⟩ := hR.2.2.2.2.2.2.2.2.2.2 (t : Int) (by omega) (by omega)
      have hW := s_nx_lt hV hS t (by omega)
      have ho := c_holds h' (t := (t : Int)) (by omega) (by omega)
      have ha := r_has (E := E) (u := u) (a := S) (t := a) (by omega) (by omega)
      have hb := r_has (E := E) (u := u) (a := S) (t := b) (by omega) (by omega)
      have q1 := pow_lt128 a7
      have q2 := pow_lt128 b7
      have q3 := i_or_lt q1 q2
      rw [ea] at p4
      rw [eb] at p5
      refine ⟨vI (a : Int), vI (b : Int), ?_, rfl⟩
      rw [e1, h_C_spreads_4]
      simp only [s_nx, ea, eb, Int.toNat_natCast]
      cases hh : s_holds n (t : Int) with
      | false =>
        rw [hh] at ho
        cases sa : S.testBit a <;> cases sb : S.testBit b <;> rw [sa] at ha <;> rw [sb] at hb <;>
        · simp (disch := first | assumption | omega) only [↓reduceIte, x_C_spreads, hu3, hm, show (t : Int) < (m : Int) by omega, r_look6 hE hk (j := 4) (by decide), r_look6 hE hk (j := 5) (by decide), p4, p5, bdI_s, fx_I, e2, ha, hb, ho, bI_0, Bool.true_eq_false, w32_of]
          rfl
      | true =>
        rw [hh] at ho
        cases sa : S.testBit a <;> cases sb : S.testBit b <;> rw [sa] at ha <;> rw [sb] at hb <;>
        · simp (disch := first | assumption | omega) only [↓reduceIte, x_C_spreads, hu3, hm, show (t : Int) < (m : Int) by omega, r_look6 hE hk (j := 4) (by decide), r_look6 hE hk (j := 5) (by decide), p4, p5, bdI_s, fx_I, e2, ha, hb, ho, bI_0, Bool.true_eq_false, w32_of, i_shl1, i_or_n]
          rfl
  obtain ⟨x, y, e1, e2⟩ := loop m (Nat.le_refl m)
  rw [e1, h_C_spreads_4]
  simp (disch := first | assumption | omega) only [↓reduceIte, x_C_spreads, hu3, hm, show ¬ (m : Int) < (m : Int) by omega]
  unfold s_next
  rw [hm, Int.toNat_natCast]
theorem both_0 {a b S : Nat} : ((2 ^ a ||| 2 ^ b) &&& S = 0) ↔ (S.testBit a || S.testBit b) = false := by
  constructor
  · intro h
    have ta : ((2 ^ a ||| 2 ^ b) &&& S).testBit a = false := by rw [h]; exact Nat.zero_testBit a
    have tb : ((2 ^ a ||| 2 ^ b) &&& S).testBit b = false := by rw [h]; exact Nat.zero_testBit b
    rw [Nat.testBit_and, Nat.testBit_or, Nat.testBit_two_pow, Nat.testBit_two_pow] at ta tb
    simp at ta tb
    simp [ta, tb]
  · intro h
    simp only [Bool.or_eq_false_iff] at h
    apply Nat.eq_of_testBit_eq
    intro i
    rw [Nat.testBit_and, Nat.testBit_or, Nat.testBit_two_pow, Nat.testBit_two_pow, Nat.zero_testBit]
    by_cases e1 : a = i
    · subst e1; simp [h.1]
    · by_cases e2 : b = i
      · subst e2; simp [h.2]
      · simp [e1, e2]
theorem m_andNext (h : MU E u n) {S : Nat} (hS : S < 128) : Rn m_M_andNext 0 [vR (some 149), vI (S : Int), vB false, vB false, vB false] [] E u = some (some (vI (s_next n S : Nat)), E, u) := by
  have h' := h
  obtain ⟨hE, hn, hV⟩ := h
  obtain ⟨l0, -⟩ := al_m hE
  have h3 := hV.2.2.2.1
  have e3 : (3 : Int).toNat = 3 := rfl
  obtain ⟨m, hm⟩ : ∃ m : Nat, n 3 = (m : Int) := ⟨(n 3).toNat, by omega⟩
  have loop : ∀ t : Nat, t ≤ m → ∃ (x : am_V), Rn m_M_andNext 0 [vR (some 149), vI (S : Int), vB false, vB false, vB false] [] E u = Rn m_M_andNext 4 [vR (some 149), vI (S : Int), vI (s_nx n S t : Nat), vI (t : Int), x] [] E u := by
    intro t
    induction t with
    | zero =>
      intro _
      refine ⟨vB false, ?_⟩
      simp (disch := first | assumption | omega) only [↓reduceIte, x_M_andNext, fx_I]
      rfl
    | succ t ih =>
      intro ht
      obtain ⟨x, e1⟩ := ih (by omega)
      obtain ⟨a, b, ea, eb, a2, b2, a7, b7, -⟩ := Vn_ab hV (t := t) (by omega)
      have pa := m_A (u := u) hE hn (t := (t : Int)) (by omega) (by omega)
      have pb := m_B (u := u) hE hn (t := (t : Int)) (by omega) (by omega)
      rw [ea] at pa
      rw [eb] at pb
      have hW := s_nx_lt hV hS t (by omega)
      have ho := m_holds h' (t := (t : Int)) (by omega) (by omega)
      have q1 := pow_lt128 a7
      have q2 := pow_lt128 b7
      have q3 := i_or_lt q1 q2
      have hi : i_or ((2 ^ a : Nat) : Int) ((2 ^ b : Nat) : Int) = ((2 ^ a ||| 2 ^ b : Nat) : Int) := i_or_n (by omega) (by omega)
      have hj : i_and ((2 ^ a ||| 2 ^ b : Nat) : Int) (S : Int) = (((2 ^ a ||| 2 ^ b) &&& S : Nat) : Int) := i_and_n (by omega) (by omega)
      have hor : i_or ((s_nx n S t : Nat) : Int) ((2 ^ a ||| 2 ^ b : Nat) : Int) = ((s_nx n S t ||| (2 ^ a ||| 2 ^ b) : Nat) : Int) := i_or_n (by omega) (by omega)
      have hor0 : i_or ((s_nx n S t : Nat) : Int) 0 = ((s_nx n S t : Nat) : Int) := by
        rw [show (0 : Int) = ((0 : Nat) : Int) from rfl, i_or_n (by omega) (by omega), Nat.or_zero]
      refine ⟨vI ((2 ^ a ||| 2 ^ b : Nat) : Int), ?_⟩
      rw [e1, h_M_andNext_4]
      simp only [s_nx, ea, eb, Int.toNat_natCast]
      cases hh : s_holds n (t : Int) with
      | false =>
        rw [hh] at ho
        simp (disch := first | assumption | omega) only [↓reduceIte, x_M_andNext, hn, e3, hm, show (t : Int) < (m : Int) by omega, pa, pb, bdI_s, fx_I, ho, bI_0, w32_of, i_shl1, hi, hor0]
        rfl
      | true =>
        rw [hh] at ho
        cases hs : (S.testBit a || S.testBit b) with
        | false =>
          have hz : (2 ^ a ||| 2 ^ b) &&& S = 0 := both_0.mpr hs
          have hz' : (((2 ^ a ||| 2 ^ b) &&& S : Nat) : Int) = 0 := by rw [hz]; rfl
          simp (disch := first | assumption | omega) only [↓reduceIte, x_M_andNext, hn, e3, hm, show (t : Int) < (m : Int) by omega, pa, pb, bdI_s, fx_I, ho, bI_0, Bool.true_eq_false, w32_of, i_shl1, hi, hj, hz', hor0]
          rfl
        | true =>
          have hz : ¬ (((2 ^ a ||| 2 ^ b) &&& S : Nat) : Int) = 0 := by
            intro z
            have : (2 ^ a ||| 2 ^ b) &&& S = 0 := by omega
            rw [both_0.mp this] at hs
            cases hs
          simp (disch := first | assumption | omega) only [↓reduceIte, x_M_andNext, hn, e3, hm, show (t : Int) < (m : Int) by omega, pa, pb, bdI_s, fx_I, ho, bI_0, Bool.true_eq_false, w32_of, i_shl1, hi, hj, hz, hor]
          rfl
  obtain ⟨x, e1⟩ := loop m (Nat.le_refl m)
  rw [e1, h_M_andNext_4]
  simp (disch := first | assumption | omega) only [↓reduceIte, x_M_andNext, hn, e3, hm, show ¬ (m : Int) < (m : Int) by omega]
  unfold s_next
  rw [hm, Int.toNat_natCast]
/-- many steps -/
def s_it (n : am_Row) (S : Nat) : Nat → Nat
  | 0 => S
  | i + 1 => s_next n (s_it n S i)
theorem s_it_lt (hV : Vn n) {S : Nat} (hS : S < 128) : ∀ i, s_it n S i < 128 := by
  intro i
  induction i with
  | zero => exact hS
  | succ i ih => exact s_next_lt hV ih
theorem s_nx_mono {S i : Nat} (h : S.testBit i = true) : ∀ t, (s_nx n S t).testBit i = true := by
  intro t
  induction t with
  | zero => exact h
  | succ t ih =>
    simp only [s_nx]
    split
    · rw [Nat.testBit_or, ih]; rfl
    · exact ih
theorem bits_of {S m : Nat} (h : S < 2 ^ m) : bits S.testBit m = S := by
  symm
  refine bits_ext fun i => ?_
  by_cases hi : i < m
  · simp [hi]
  · rw [decide_eq_false hi, Bool.false_and]
    exact Nat.testBit_lt_two_pow (Nat.lt_of_lt_of_le h (Nat.pow_le_pow_right (by decide) (by omega)))
theorem cntB_mono {f g : Nat → Bool} (h : ∀ i, f i = true → g i = true) : ∀ m, cntB f m ≤ cntB g m := by
  intro m
  induction m with
  | zero => exact Nat.le_refl _
  | succ m ih =>
    simp only [cntB]
    by_cases e : f m = true
    · rw [if_pos e, if_pos (h m e)]; omega
    · rw [if_neg e]; split <;> omega
theorem cntB_eq {f g : Nat → Bool} (h : ∀ i, f i = true → g i = true) : ∀ m, cntB f m = cntB g m → ∀ i, i < m → f i = g i := by
  intro m
  induction m with
  | zero => intro _ i hi; omega
  | succ m ih =>
    intro he i hi
    simp only [cntB] at he
    have hm := cntB_mono h m
    by_cases e : f m = true
    · rw [if_pos e, if_pos (h m e)] at he
      by_cases him : i = m
      · subst him; rw [e, h i e]
      · exact ih (by omega) i (by omega)
    · rw [if_neg e] at he
      by_cases e2 : g m = true
      · rw [if_pos e2] at he; omega
      · rw [if_neg e2] at he
        by_cases him : i = m
        · subst him
          simp only [Bool.not_eq_true] at e e2
          rw [e, e2]
        · exact ih (by omega) i (by omega)
theorem cntB_full {f : Nat → Bool} : ∀ m, m ≤ cntB f m → ∀ i, i < m → f i = true := by
  intro m
  induction m with
  | zero => intro _ i hi; omega
  | succ m ih =>
    intro he i hi
    simp only [cntB] at he
    have hl := cntB_le f m
    by_cases e : f m = true
    · rw [if_pos e] at he
      by_cases him : i = m
      · subst him; exact e
      · exact ih (by omega) i (by omega)
    · rw [if_neg e] at he; omega
/-- seven pins: six steps are enough -/
theorem s_it_7 (hV : Vn n) {p : Nat} (hp : p < 7) : s_it n (2 ^ p) 7 = s_it n (2 ^ p) 6 := by
  have lt := s_it_lt (n := n) hV (pow_lt128 hp)
  have mono : ∀ i j, (s_it n (2 ^ p) i).testBit j = true → (s_it n (2 ^ p) (i + 1)).testBit j = true := fun i j h => s_nx_mono h _
  have key : ∀ i, s_it n (2 ^ p) (i + 1) = s_it n (2 ^ p) i ∨ i + 1 ≤ cntB (s_it n (2 ^ p) i).testBit 7 := by
    intro i
    induction i with
    | zero =>
      right
      show 1 ≤ cntB (2 ^ p).testBit 7
      have e : p = 0 ∨ p = 1 ∨ p = 2 ∨ p = 3 ∨ p = 4 ∨ p = 5 ∨ p = 6 := by omega
      rcases e with rfl | rfl | rfl | rfl | rfl | rfl | rfl <;> decide
    | succ i ih =>
      rcases ih with ih | ih
      · left
        show s_next n (s_it n (2 ^ p) (i + 1)) = s_it n (2 ^ p) (i + 1)
        rw [ih]
        exact ih
      · by_cases e : s_it n (2 ^ p) (i + 1) = s_it n (2 ^ p) i
        · left
          show s_next n (s_it n (2 ^ p) (i + 1)) = s_it n (2 ^ p) (i + 1)
          rw [e]
          exact e
        · right
          have hm := cntB_mono (mono i) 7
          by_cases e2 : cntB (s_it n (2 ^ p) i).testBit 7 = cntB (s_it n (2 ^ p) (i + 1)).testBit 7
          · exfalso
            apply e
            have hq := cntB_eq (mono i) 7 e2
            rw [← bits_of (show s_it n (2 ^ p) (i + 1) < 2 ^ 7 from lt _), ← bits_of (show s_it n (2 ^ p) i < 2 ^ 7 from lt _)]
            exact bits_congr fun j hj => (hq j hj).symm
          · omega
  rcases key 6 with h | h
  · exact h
  · have full := cntB_full 7 h
    have full' : ∀ i, i < 7 → (s_it n (2 ^ p) 7).testBit i = true := fun i hi => mono 6 i (full i hi)
    rw [← bits_of (show s_it n (2 ^ p) 7 < 2 ^ 7 from lt _), ← bits_of (show s_it n (2 ^ p) 6 < 2 ^ 7 from lt _)]
    exact bits_congr fun j hj => by rw [full j hj, full' j hj]
/-- pins that are joined to others by the first threads -/
def s_jn (n : am_Row) : Nat → Nat → Bool
  | 0, _ => false
  | t + 1, p => s_jn n t p || (s_holds n (t : Int) && (decide (s_A n (t : Int) = (p : Int)) || decide (s_B n (t : Int) = (p : Int))))
def s_alone (n : am_Row) : Int := (bits (fun p => !(s_out n p || s_jn n (n 3).toNat p)) (n 2).toNat : Nat)
def s_tt (n : am_Row) (t : Nat) : Bool := s_holds n (t : Int) && decide (s_far n (s_C n (s_A n (t : Int))) (s_C n (s_B n (t : Int))) = s_L n (t : Int))
def s_taut (n : am_Row) : Int := (bits (s_tt n) (n 3).toNat : Nat)
theorem both_tb {a b i : Nat} : (2 ^ a ||| 2 ^ b).testBit i = (decide (a = i) || decide (b = i)) := by
  rw [Nat.testBit_or, Nat.testBit_two_pow, Nat.testBit_two_pow]
theorem c_aloneSet (h : CU E u k n) : Rn m_C_aloneSet 0 [vR (some k), vB false, vB false] [] E u = some (some (vI (s_alone n)), E, u) := by
  have h' := h
  obtain ⟨hE, hk, hR, hV⟩ := h
  have h2 := hV.2.2.1
  have h3 := hV.2.2.2.1
  have hu2 := hR.2.2.1
  have hu3 := hR.2.2.2.1
  obtain ⟨m, hm⟩ : ∃ m : Nat, n 3 = (m : Int) := ⟨(n 3).toNat, by omega⟩
  obtain ⟨w, hw⟩ : ∃ w : Nat, n 2 = (w : Int) := ⟨(n 2).toNat, by omega⟩
  let F : Nat → Nat := fun t => bits (fun p => !(s_out n p || s_jn n t p)) w
  have hF : ∀ t, F t < 128 := fun t => Nat.lt_of_lt_of_le (bits_lt _ w) (pow_le128 (by omega))
  let f : Nat → am_Z := fun t => Rn m_C_aloneSet 18 [vR (some k), vI (F t : Int), vI (t : Int)] [] E u
  have start : Rn m_C_aloneSet 0 [vR (some k), vB false, vB false] [] E u = f 0 := by
    have ho := c_outSet h'
    unfold s_outs at ho
    rw [hw, Int.toNat_natCast] at ho
    have hb := bits_lt (s_out n) w
    have hp : 2 ^ w < 2 ^ 31 := Nat.pow_lt_pow_right (by decide) (by omega)
    have e0 : i_and ((2 ^ w - 1 : Nat) : Int) (i_xor (bits (s_out n) w : Nat) (-1)) = (F 0 : Nat) := by
      rw [i_andn (by omega) (by omega)]
      congr 1
      refine bits_ext fun i => ?_
      rw [Nat.testBit_xor, Nat.testBit_and, bits_tb, Nat.testBit_two_pow_sub_one]
      simp only [s_jn, Bool.or_false]
      cases s_out n i <;> cases decide (i < w) <;> rfl
    simp only [f]
    simp (disch := first | assumption | omega) only [↓reduceIte, x_C_aloneSet, hu2, hw, i_shl1, w32_pow, ho, bdI_s, e0, fx_R, fx_I]
    rfl
  have step : ∀ t, t < m → f t = f (t + 1) := by
    intro t ht
    obtain ⟨a, b, ea, eb, a2, b2, a7, b7, -⟩ := Vn_ab hV (t := t) (by omega)
    obtain ⟨p4, p5, -⟩ := hR.2.2.2.2.2.2.2.2.2.2 (t : Int) (by omega) (by omega)
    rw [ea] at p4
    rw [eb] at p5
    have ho := c_holds h' (t := (t : Int)) (by omega) (by omega)
    have q1 := pow_lt128 a7
    have q2 := pow_lt128 b7
    have q3 := i_or_lt q1 q2
    have qF := hF t
    have hi : i_or ((2 ^ a : Nat) : Int) ((2 ^ b : Nat) : Int) = ((2 ^ a ||| 2 ^ b : Nat) : Int) := i_or_n (by omega) (by omega)
    simp only [f]
    rw [h_C_aloneSet_18]
    cases hh : s_holds n (t : Int) with
    | false =>
      rw [hh] at ho
      have eF : F (t + 1) = F t := by simp only [F, s_jn, hh, Bool.false_and, Bool.or_false]
      rw [eF]
      simp (disch := first | assumption | omega) only [↓reduceIte, x_C_aloneSet, hu3, hm, show (t : Int) < (m : Int) by omega, ho, bdI_s, bI_0, w32_of, fx_I]
      rfl
    | true =>
      rw [hh] at ho
      have eF : i_and (F t : Nat) (i_xor ((2 ^ a ||| 2 ^ b : Nat) : Int) (-1)) = (F (t + 1) : Nat) := by
        rw [i_andn (by omega) (by omega)]
        congr 1
        refine bits_ext fun i => ?_
        rw [Nat.testBit_xor, Nat.testBit_and, bits_tb, both_tb]
        simp only [s_jn, hh, Bool.true_and, ea, eb]
        have d1 : decide ((a : Int) = (i : Int)) = decide (a = i) := decide_eq_decide.mpr (by omega)
        have d2 : decide ((b : Int) = (i : Int)) = decide (b = i) := decide_eq_decide.mpr (by omega)
        rw [d1, d2]
        cases s_out n i <;> cases s_jn n t i <;> cases decide (a = i) <;> cases decide (b = i) <;> cases decide (i < w) <;> rfl
      simp (disch := first | assumption | omega) only [↓reduceIte, x_C_aloneSet, hu3, hm, show (t : Int) < (m : Int) by omega, ho, bdI_s, bI_0, Bool.true_eq_false, r_look6 hE hk (j := 4) (by decide), r_look6 hE hk (j := 5) (by decide), p4, p5, i_shl1, hi, eF, w32_of, fx_I, fx_R]
      rfl
  rw [start, q_loop f m step]
  simp only [f]
  rw [h_C_aloneSet_18]
  simp (disch := first | assumption | omega) only [↓reduceIte, x_C_aloneSet, hu3, hm, show ¬ (m : Int) < (m : Int) by omega]
  unfold s_alone
  rw [hm, hw, Int.toNat_natCast, Int.toNat_natCast]
theorem c_tautSet (h : CU E u k n) : Rn m_C_tautSet 0 [vR (some k), vB false, vB false, vB false, vB false] [] E u = some (some (vI (s_taut n)), E, u) := by
  have h' := h
  obtain ⟨hE, hk, hR, hV⟩ := h
  have h2 := hV.2.2.1
  have h3 := hV.2.2.2.1
  have hu3 := hR.2.2.2.1
  obtain ⟨m, hm⟩ : ∃ m : Nat, n 3 = (m : Int) := ⟨(n 3).toNat, by omega⟩
  have loop : ∀ t : Nat, t ≤ m → ∃ (x y : am_V), Rn m_C_tautSet 0 [vR (some k), vB false, vB false, vB false, vB false] [] E u = Rn m_C_tautSet 4 [vR (some k), vI (bits (s_tt n) t : Nat), vI (t : Int), x, y] [] E u := by
    intro t
    induction t with
    | zero =>
      intro _
      refine ⟨vB false, vB false, ?_⟩
      simp (disch := first | assumption | omega) only [↓reduceIte, x_C_tautSet, fx_I, fx_R]
      rfl
    | succ t ih =>
      intro ht
      obtain ⟨x, y, e1⟩ := ih (by omega)
      obtain ⟨a, b, ea, eb, a2, b2, a7, b7, -⟩ := Vn_ab hV (t := t) (by omega)
      obtain ⟨p4, p5, p6⟩ := hR.2.2.2.2.2.2.2.2.2.2 (t : Int) (by omega) (by omega)
      rw [ea] at p4
      rw [eb] at p5
      have ca := (hR.2.2.2.2.2.2.2.2.1 (a : Int) (by omega) a2).2.1
      have cb := (hR.2.2.2.2.2.2.2.2.1 (b : Int) (by omega) b2).2.1
      have ho := c_holds h' (t := (t : Int)) (by omega) (by omega)
      have he := s_holds_eq hV (t := (t : Int)) (by omega) (by omega)
      rw [ea, eb] at he
      refine ⟨vI (s_C n (a : Int)), vI (s_C n (b : Int)), ?_⟩
      rw [e1, h_C_tautSet_4]
      cases hh : s_holds n (t : Int) with
      | false =>
        rw [hh] at ho
        rw [bits_no (show s_tt n t = false by unfold s_tt; rw [hh]; rfl)]
        simp (disch := first | assumption | omega) only [↓reduceIte, x_C_tautSet, hu3, hm, show (t : Int) < (m : Int) by omega, r_look6 hE hk (j := 4) (by decide), r_look6 hE hk (j := 5) (by decide), r_look7 hE hk (j := 2) (by decide), p4, p5, ca, cb, ho, bdI_s, bI_0, w32_of, fx_I, fx_R]
        rfl
      | true =>
        rw [hh] at ho he
        have na : s_C n (a : Int) ≠ -4 := by intro z; rw [z] at he; simp at he
        have nb : s_C n (b : Int) ≠ -4 := by intro z; rw [z] at he; simp at he
        have ra := Vn_pin hV (p := (a : Int)) (by omega) a2
        have rb := Vn_pin hV (p := (b : Int)) (by omega) b2
        have hf := c_far h' (a := s_C n (a : Int)) (b := s_C n (b : Int)) (by omega) (by omega) (by omega) (by omega)
        by_cases ef : s_far n (s_C n (a : Int)) (s_C n (b : Int)) = s_L n (t : Int)
        · rw [← bits_yes (show t < 31 by omega) (show s_tt n t = true by unfold s_tt; rw [hh, ea, eb, decide_eq_true ef]; rfl)]
          simp (disch := first | assumption | omega) only [↓reduceIte, x_C_tautSet, hu3, hm, show (t : Int) < (m : Int) by omega, r_look6 hE hk (j := 4) (by decide), r_look6 hE hk (j := 5) (by decide), r_look6 hE hk (j := 6) (by decide), r_look7 hE hk (j := 2) (by decide), p4, p5, p6, ca, cb, ho, hf, ef, bdI_s, bI_0, Bool.true_eq_false, w32_of, fx_I, fx_R]
          rfl
        · rw [bits_no (show s_tt n t = false by unfold s_tt; rw [hh, ea, eb, decide_eq_false ef]; rfl)]
          simp (disch := first | assumption | omega) only [↓reduceIte, x_C_tautSet, hu3, hm, show (t : Int) < (m : Int) by omega, r_look6 hE hk (j := 4) (by decide), r_look6 hE hk (j := 5) (by decide), r_look6 hE hk (j := 6) (by decide), r_look7 hE hk (j := 2) (by decide), p4, p5, p6, ca, cb, ho, hf, ef, bdI_s, bI_0, Bool.true_eq_false, w32_of, fx_I, fx_R]
          rfl
  obtain ⟨x, y, e1⟩ := loop m (Nat.le_refl m)
  rw [e1, h_C_tautSet_4]
  simp (disch := first | assumption | omega) only [↓reduceIte, x_C_tautSet, hu3, hm, show ¬ (m : Int) < (m : Int) by omega]
  unfold s_taut
  rw [hm, Int.toNat_natCast]

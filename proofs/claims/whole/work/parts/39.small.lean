/-! Small sets counted; threads of a set cut, in the reference; which pins stay out; the first day. -/
variable {E : am_E} {u : am_M} {k : Nat} {n : am_Row}
def s_pc (x : Nat) : Nat := x % 2 + x / 2 % 2 + x / 4 % 2 + x / 8 % 2 + x / 16 % 2 + x / 32 % 2
def bi (x : Int) : Int :=
  i_and (w32 (w32 (i_and (w32 (w32 (i_and (w32 (x - i_and (i_ush x 1) 1431655765)) 858993459 + i_and (i_ush (w32 (x - i_and (i_ush x 1) 1431655765)) 2) 858993459) + i_ush (w32 (i_and (w32 (x - i_and (i_ush x 1) 1431655765)) 858993459 + i_and (i_ush (w32 (x - i_and (i_ush x 1) 1431655765)) 2) 858993459)) 4)) 252645135 + i_ush (i_and (w32 (w32 (i_and (w32 (x - i_and (i_ush x 1) 1431655765)) 858993459 + i_and (i_ush (w32 (x - i_and (i_ush x 1) 1431655765)) 2) 858993459) + i_ush (w32 (i_and (w32 (x - i_and (i_ush x 1) 1431655765)) 858993459 + i_and (i_ush (w32 (x - i_and (i_ush x 1) 1431655765)) 2) 858993459)) 4)) 252645135) 8) + i_ush (w32 (i_and (w32 (w32 (i_and (w32 (x - i_and (i_ush x 1) 1431655765)) 858993459 + i_and (i_ush (w32 (x - i_and (i_ush x 1) 1431655765)) 2) 858993459) + i_ush (w32 (i_and (w32 (x - i_and (i_ush x 1) 1431655765)) 858993459 + i_and (i_ush (w32 (x - i_and (i_ush x 1) 1431655765)) 2) 858993459)) 4)) 252645135 + i_ush (i_and (w32 (w32 (i_and (w32 (x - i_and (i_ush x 1) 1431655765)) 858993459 + i_and (i_ush (w32 (x - i_and (i_ush x 1) 1431655765)) 2) 858993459) + i_ush (w32 (i_and (w32 (x - i_and (i_ush x 1) 1431655765)) 858993459 + i_and (i_ush (w32 (x - i_and (i_ush x 1) 1431655765)) 2) 858993459)) 4)) 252645135) 8)) 16)) 63
theorem bi_pc : ∀ x : Nat, x < 64 → bi (x : Int) = (s_pc x : Int) := by decide +kernel
theorem j_bitI {x : Nat} (hx : x < 64) : Rn m_J_bitI 0 [vI (x : Int)] [] E u = some (some (vI (s_pc x : Nat)), E, u) := by
  rw [← bi_pc x hx]
  unfold bi
  simp only [x_J_bitI]
theorem mn_step : ∀ x : Nat, x < 64 → x ≠ 0 → i_and (x : Int) (w32 ((x : Int) - 1)) = ((x &&& (x - 1) : Nat) : Int) ∧ (x &&& (x - 1)) < 64 ∧ s_pc (x &&& (x - 1)) + 1 = s_pc x := by decide +kernel
theorem s_pc_0 : ∀ x : Nat, x < 64 → s_pc x = 0 → x = 0 := by decide +kernel
theorem s_pc_le (x : Nat) : s_pc x ≤ 6 := by unfold s_pc; omega
theorem m_many {x : Nat} (hx : x < 64) : Rn m_M_many 0 [vI (x : Int), vB false, vB false] [] E u = some (some (vI (s_pc x : Nat)), E, u) := by
  have loop : ∀ (c y i : Nat), y < 64 → s_pc y = c → i + c ≤ 6 → Rn m_M_many 4 [vI (x : Int), vI (i : Int), vI (y : Int)] [] E u = some (some (vI ((i + c : Nat) : Int)), E, u) := by
    intro c
    induction c with
    | zero =>
      intro y i hy hc hi
      have : y = 0 := s_pc_0 y hy hc
      subst this
      rw [h_M_many_4]
      simp (disch := first | assumption | omega) only [↓reduceIte, x_M_many, show ((0 : Nat) : Int) = 0 from rfl]
      rfl
    | succ c ih =>
      intro y i hy hc hi
      have y0 : y ≠ 0 := by intro z; subst z; rw [show s_pc 0 = 0 from rfl] at hc; omega
      obtain ⟨e1, e2, e3⟩ := mn_step y hy y0
      rw [w32_of (by omega) (by omega)] at e1
      rw [h_M_many_4]
      simp (disch := first | assumption | omega) only [↓reduceIte, x_M_many, show ¬ (y : Int) = 0 by omega, w32_of, e1, fx_I]
      have := ih (y &&& (y - 1)) (i + 1) e2 (by omega) (by omega)
      rw [show (i : Int) + 1 = ((i + 1 : Nat) : Int) by omega, this, show i + 1 + c = i + (c + 1) by omega]
  have hp := s_pc_le x
  have := loop (s_pc x) x 0 hx rfl (by omega)
  rw [Nat.zero_add] at this
  rw [← this]
  simp (disch := first | assumption | omega) only [↓reduceIte, x_M_many, fx_I]
  rfl
/-- the first threads of a set are cut -/
def s_cutN (n : am_Row) (S i : Nat) : am_Row := fun x => if 27 ≤ x ∧ x < 27 + 4 * i ∧ x % 4 = 2 ∧ S.testBit ((x - 30) / 4) = true then 1 else n x
theorem s_cutN_all (hV : Vn n) (S : Nat) : s_cutN n S (n 3).toNat = s_cuts n S := by
  have h3 := hV.2.2.2.1
  funext x
  unfold s_cutN s_cuts
  by_cases h : 27 ≤ x ∧ (x : Int) < 27 + 4 * n 3 ∧ x % 4 = 2 ∧ S.testBit ((x - 30) / 4) = true
  · rw [if_pos h, if_pos ⟨h.1, by omega, h.2.2⟩]
  · rw [if_neg h, if_neg (fun g => h ⟨g.1, by omega, g.2.2⟩)]
theorem s_cutN_s {S i : Nat} {v : Int} (hv : v = if S.testBit i = true then 1 else s_X n (i : Int)) : s_up (s_cutN n S i) (27 + 4 * (i : Int) + 3).toNat v = s_cutN n S (i + 1) := by
  subst hv
  funext x
  unfold s_up s_cutN
  by_cases e : x = (27 + 4 * (i : Int) + 3).toNat
  · rw [if_pos e]
    have e2 : (x - 30) / 4 = i := by omega
    rw [e2]
    by_cases hb : S.testBit i = true
    · rw [if_pos hb, if_pos ⟨by omega, by omega, by omega, hb⟩]
    · rw [if_neg hb, if_neg (fun g => hb g.2.2.2)]
      unfold s_X
      rw [e]
  · rw [if_neg e]
    by_cases h : 27 ≤ x ∧ x < 27 + 4 * i ∧ x % 4 = 2 ∧ S.testBit ((x - 30) / 4) = true
    · rw [if_pos h, if_pos ⟨h.1, by omega, h.2.2⟩]
    · rw [if_neg h, if_neg (fun g => h ⟨g.1, by omega, g.2.2⟩)]
theorem m_cutsAll (h : MU E u n) {S : Nat} (s0 : S < 64) : Rn m_M_cutsAll 0 [vR (some 149), vI (S : Int), vB false] [] E u = some (none, E, sN u (s_cuts n S)) := by
  obtain ⟨hE, hn, hV⟩ := h
  obtain ⟨l0, -⟩ := al_m hE
  have h3 := hV.2.2.2.1
  have e3 : (3 : Int).toNat = 3 := rfl
  obtain ⟨m, hm⟩ : ∃ m : Nat, n 3 = (m : Int) := ⟨(n 3).toNat, by omega⟩
  let f : Nat → am_Z := fun i => Rn m_M_cutsAll 2 [vR (some 149), vI (S : Int), vI (i : Int)] [] E (sN u (s_cutN n S i))
  have z : s_cutN n S 0 = n := by funext x; unfold s_cutN; rw [if_neg (by omega)]
  have start : Rn m_M_cutsAll 0 [vR (some 149), vI (S : Int), vB false] [] E u = f 0 := by
    simp only [f]
    rw [z, sN_id hn]
    simp (disch := first | assumption | omega) only [↓reduceIte, x_M_cutsAll, fx_I]
    rfl
  have r3 : ∀ i, s_cutN n S i 3 = (m : Int) := fun i => by unfold s_cutN; rw [if_neg (by omega)]; exact hm
  have step : ∀ i, i < m → f i = f (i + 1) := by
    intro i hi
    have hb := i_bit (a := S) (t := i) (by omega) (by omega)
    have hX : s_cutN n S i (27 + 4 * (i : Int) + 3).toNat = s_X n (i : Int) := by unfold s_cutN; rw [if_neg (by omega)]; rfl
    have h01 := (Vn_thr hV (t := (i : Int)) (by omega) (by omega)).2.2.2.2
    have ho : i_or (s_X n (i : Int)) (bI (S.testBit i)) = if S.testBit i = true then 1 else s_X n (i : Int) := by
      rcases h01 with e | e <;> rw [e] <;> cases S.testBit i <;> decide
    simp only [f]
    rw [h_M_cutsAll_2]
    simp (disch := first | assumption | omega) only [↓reduceIte, x_M_cutsAll, sN_150, e3, r3, show (i : Int) < (m : Int) by omega, w32_of, hb, hX, ho, sN_ups, fx_I]
    rw [s_cutN_s rfl]
    rfl
  rw [start, q_loop f m step]
  simp only [f]
  rw [h_M_cutsAll_2]
  simp (disch := first | assumption | omega) only [↓reduceIte, x_M_cutsAll, sN_150, e3, r3, show ¬ (m : Int) < (m : Int) by omega]
  rw [← s_cutN_all hV S, hm, Int.toNat_natCast]
/-- a pin's turn takes no pin out, puts none back -/
theorem s_C_up {j : Nat} {v p : Int} (h : j ≠ (6 + 3 * p + 1).toNat) : s_C (s_up n j v) p = s_C n p := by
  unfold s_C
  rw [su_ne (fun z => h z.symm)]
theorem s_C_sets {p q c : Int} (p0 : 0 ≤ p) (p1 : p < 7) (q0 : 0 ≤ q) (q1 : q < 7) (c0 : 0 ≤ c) : s_C (s_sets n q c) p = if p = q then c else s_C n p := by
  unfold s_sets
  rw [s_C_up (by omega)]
  by_cases e : p = q
  · subst e; unfold s_C; rw [su_eq, if_pos rfl]
  · rw [s_C_up (by omega), if_neg e]
theorem s_turn_on (hV : Vn n) {p q : Int} (p0 : 0 ≤ p) (p1 : p < 7) (q0 : 0 ≤ q) (q1 : q < n 2) : s_C (s_turn n q) p = -4 ↔ s_C n p = -4 := by
  have h2 := hV.2.2.1
  unfold s_turn
  split
  · exact Iff.rfl
  rename_i hq
  have hc := Vn_on hV q0 q1 hq
  have SE' : ∀ r : am_Row, s_C r p = s_C n p → ∀ c : Int, 0 ≤ c → (s_C (s_sets r q c) p = -4 ↔ s_C n p = -4) := fun r hr c c0 => by
    rw [s_C_sets p0 p1 q0 (by omega) c0]
    by_cases e : p = q
    · subst e
      rw [if_pos rfl]
      constructor
      · intro z; omega
      · intro z; exact absurd z hq
    · rw [if_neg e, hr]
  have SA : ∀ v : Int, (s_C (s_sails n q v) p = -4 ↔ s_C n p = -4) := fun v => by
    unfold s_sails
    split
    · rename_i hm
      obtain ⟨m1, -⟩ := s_mayGo_of hV hm
      have := (s_beside_in hV (v := v) hc.1 hc.2).resolve_left m1
      exact SE' _ (s_C_up (by omega)) _ this.1
    · rw [s_C_up (by omega)]
  split
  · exact SA _
  split
  · exact SA _
  split
  · unfold s_pull
    split
    · exact Iff.rfl
    split
    · rename_i hm
      obtain ⟨m1, -⟩ := s_mayGo_of hV hm
      have := (s_beside_in hV (v := s_way n (s_C n q) (s_near n (s_C n q))) hc.1 hc.2).resolve_left m1
      exact SE' _ rfl _ this.1
    · exact Iff.rfl
  · exact Iff.rfl
theorem s_turns_on (hV : Vn n) {p : Int} (p0 : 0 ≤ p) (p1 : p < 7) : ∀ m : Nat, (m : Int) ≤ n 2 → (s_C (s_turns n m) p = -4 ↔ s_C n p = -4) := by
  intro m
  induction m with
  | zero => intro _; exact Iff.rfl
  | succ m ih =>
    intro hm
    obtain ⟨h1, l1⟩ := Vn_turns hV m (by omega)
    show s_C (s_turn (s_turns n m) (m : Int)) p = -4 ↔ _
    rw [s_turn_on h1 p0 p1 (by omega) (by rw [l1 2 (by omega)]; omega)]
    exact ih (by omega)
theorem s_day_on (hV : Vn n) {p : Int} (p0 : 0 ≤ p) (p1 : p < 7) : s_C (s_day n) p = -4 ↔ s_C n p = -4 := by
  unfold s_day
  rw [s_C_up (by omega)]
  exact s_turns_on hV p0 p1 _ (by have := hV.2.2.1; omega)
theorem s_days_on (hV : Vn n) {p : Int} (p0 : 0 ≤ p) (p1 : p < 7) : ∀ m : Nat, s_C (s_days n m) p = -4 ↔ s_C n p = -4 := by
  intro m
  induction m with
  | zero => exact Iff.rfl
  | succ m ih =>
    show s_C (s_day (s_days n m)) p = -4 ↔ _
    rw [s_day_on (Vn_days hV m).1 p0 p1]
    exact ih
/-- the first of some numbers; the one behind the last -/
def s_wh (f : Nat → Bool) : Nat → Nat → Int
  | i, 0 => (i : Int)
  | i, m + 1 => if f i = true then (i : Int) else s_wh f (i + 1) m
theorem s_wh_in (f : Nat → Bool) : ∀ m i : Nat, (i : Int) ≤ s_wh f i m ∧ s_wh f i m ≤ (i : Int) + m := by
  intro m
  induction m with
  | zero => intro i; simp only [s_wh]; omega
  | succ m ih =>
    intro i
    simp only [s_wh]
    have := ih (i + 1)
    split <;> omega
theorem s_fst_wh (f : Nat → Bool) : ∀ m i d : Nat, s_fst f i m = if s_wh f i (m + d) < (i : Int) + m then s_wh f i (m + d) else -4 := by
  intro m
  induction m with
  | zero =>
    intro i d
    have := s_wh_in f (0 + d) i
    simp only [s_fst]
    rw [if_neg (by omega)]
  | succ m ih =>
    intro i d
    have q : s_wh f i (m + 1 + d) = if f i = true then (i : Int) else s_wh f (i + 1) (m + d) := by
      rw [show m + 1 + d = (m + d) + 1 by omega]
      rfl
    have r : s_fst f i (m + 1) = if f i = true then (i : Int) else s_fst f (i + 1) m := rfl
    rw [q, r]
    by_cases h : f i = true
    · rw [if_pos h, if_pos h, if_pos (by omega)]
    · rw [if_neg h, if_neg h, ih (i + 1) d]
      by_cases h2 : s_wh f (i + 1) (m + d) < ((i + 1 : Nat) : Int) + m
      · rw [if_pos h2, if_pos (by omega)]
      · rw [if_neg h2, if_neg (by omega)]
theorem s_wh_never {f : Nat → Bool} (h : ∀ i, f i = false) : ∀ m i : Nat, s_wh f i m = (i : Int) + m := by
  intro m
  induction m with
  | zero => intro i; simp only [s_wh]; omega
  | succ m ih =>
    intro i
    simp only [s_wh, h i, Bool.false_eq_true, ↓reduceIte]
    rw [ih (i + 1)]; omega
/-- a pin comes to a cell -/
def s_at (n : am_Row) (p c : Int) (i : Nat) : Bool := decide (s_C (s_days n i) p = c)
def s_when (n : am_Row) (p c : Int) : Int := s_wh (s_at n p c) 0 61
theorem s_when_in (n : am_Row) (p c : Int) : 0 ≤ s_when n p c ∧ s_when n p c ≤ 61 := by
  have := s_wh_in (s_at n p c) 61 0
  unfold s_when
  omega
theorem s_when_out (hV : Vn n) {p c : Int} (p0 : 0 ≤ p) (p1 : p < 7) (hp : s_C n p = -4) (c0 : 0 ≤ c) : s_when n p c = 61 := by
  unfold s_when
  rw [s_wh_never (fun i => ?_)]
  · rfl
  · unfold s_at
    rw [(s_days_on hV p0 p1 i).mpr hp]
    exact decide_eq_false (by omega)
theorem c_soonestW (h : CU E u k n) {p c : Int} (p0 : 0 ≤ p) (p1 : p < n 2) (c0 : 0 ≤ c) (m : Nat) (hm : m ≤ 61) (hd : n 4 ≤ 1000000) : ∃ u', Rn m_C_soonest 0 [vR (some k), vI p, vI c, vI ((m : Int) - 1), vB false] [] E u = some (some (vI (if s_when n p c < (m : Int) then s_when n p c else -4)), E, u') ∧ FR k u u' := by
  have h2 := h.2.2.2.2.2.1
  by_cases hp : s_C n p = -4
  · refine ⟨u, ?_, FR.rf⟩
    rw [s_when_out h.2.2.2 p0 (by omega) hp c0, if_neg (by omega)]
    have hE := h.1
    have hk := h.2.1
    have lk : Rn m_A_look 0 [vR (some (k + 2)), vI p] [] E u = some (some (vI (s_C n p)), E, u) := by
      rw [r_look7 hE hk (j := 2) (by decide) p0 (by omega)]
      rw [(h.2.2.1.2.2.2.2.2.2.2.2.1 p p0 p1).2.1]
    simp (disch := first | assumption | omega) only [↓reduceIte, x_C_soonest, lk, bdI_s, hp]
  · obtain ⟨u1, e1, f1⟩ := c_soonest h p0 p1 (c := c) hp m (by omega) hd
    refine ⟨u1, ?_, f1⟩
    rw [e1]
    have := s_fst_wh (s_at n p c) m 0 (61 - m)
    rw [show m + (61 - m) = 61 by omega, show ((0 : Nat) : Int) + (m : Int) = (m : Int) by omega] at this
    unfold s_when
    rw [← this]
    rfl
/-- the reference's search for the day -/
theorem m_whenOn {r : am_Row} (hr : MU E u r) (zr : Zn r) (zn : Zn n) (ha : ∀ j, j < 100 → u 155 j = n j) {p c : Int} (p0 : 0 ≤ p) (p1 : p < r 2) (hd : r 4 ≤ 1000000) : Rn m_M_whenOn 0 [vR (some 149), vI p, vI c, vB false] [] E u = some (some (vI (s_when r p c)), E, sN u n) := by
  have hE := hr.1
  have hV := hr.2.2
  have h2 := hV.2.2.1
  have out : ∀ i : Nat, Rn m_M_backs 0 [vR (some 149), vB false] [] E (sN u (s_days r i)) = some (none, E, sN u n) := fun i => by
    rw [m_backs hE (n := n) (by rw [sN_150]; exact Zn_days hV zr i) zn (by intro j hj; rw [sN_ne _ _ (by omega)]; exact ha j hj), sN_sN]
  have loop : ∀ (d i : Nat), i + d = 61 → Rn m_M_whenOn 2 [vR (some 149), vI p, vI c, vI (i : Int)] [] E (sN u (s_days r i)) = some (some (vI (s_wh (s_at r p c) i d)), E, sN u n) := by
    intro d
    induction d with
    | zero =>
      intro i hi
      rw [h_M_whenOn_2]
      simp (disch := first | assumption | omega) only [↓reduceIte, x_M_whenOn, show ¬ (i : Int) < 61 by omega, out, bdV_s]
      rfl
    | succ d ih =>
      intro i hi
      obtain ⟨hv, d1, l1⟩ := Vn_days hV i
      have hMU : MU E (sN u (s_days r i)) (s_days r i) := hr.to hv
      have hcell := m_cellOf (u := sN u (s_days r i)) hE (sN_150 _ _) p0 (show p < 7 by omega)
      rw [h_M_whenOn_2]
      simp only [s_wh]
      by_cases e : s_C (s_days r i) p = c
      · have e' : s_at r p c i = true := by unfold s_at; exact decide_eq_true e
        rw [if_pos e']
        simp (disch := first | assumption | omega) only [↓reduceIte, x_M_whenOn, show (i : Int) < 61 by omega, hcell, bdI_s, e, out, bdV_s]
      · have e' : ¬ s_at r p c i = true := by unfold s_at; rw [decide_eq_false e]; decide
        have st := m_goesBy hMU (by rw [d1]; omega)
        rw [sN_sN] at st
        rw [if_neg e', ← ih (i + 1) (by omega)]
        simp (disch := first | assumption | omega) only [↓reduceIte, x_M_whenOn, show (i : Int) < 61 by omega, hcell, bdI_s, e, st, bdV_s, w32_of, fx_I]
        rfl
  have := loop 61 0 (by omega)
  have z : sN u (s_days r 0) = u := sN_id hr.2.1
  rw [z] at this
  rw [show s_when r p c = s_wh (s_at r p c) 0 61 from rfl, ← this]
  simp (disch := first | assumption | omega) only [↓reduceIte, x_M_whenOn, fx_I]
  rfl

/-! The odds, in the reference. -/
variable {E : am_E} {u : am_M} {k : Nat} {n : am_Row}
/-- a set's weight, thread by thread -/
def s_part (H c S : Nat) : Nat → Nat
  | 0 => 1
  | t + 1 => s_part H c S t * (if H.testBit t = false then 1 else if S.testBit t = true then c else 10 - c)
theorem s_part_wt : ∀ H : Nat, H < 64 → ∀ S : Nat, S < 64 → s_sub S H = true → ∀ c : Nat, c < 11 → s_part H c S 6 = s_wt H c S := by decide +kernel
theorem s_part_le {H c S : Nat} (hc : c ≤ 10) : ∀ t, s_part H c S t ≤ 10 ^ t := by
  intro t
  induction t with
  | zero => exact Nat.le_refl _
  | succ t ih =>
    rw [Nat.pow_succ]
    refine Nat.mul_le_mul ih ?_
    split
    · omega
    · split <;> omega
theorem s_part_m {H c S m : Nat} (hH : H < 2 ^ m) : ∀ d, s_part H c S (m + d) = s_part H c S m := by
  intro d
  induction d with
  | zero => rfl
  | succ d ih =>
    rw [show m + (d + 1) = (m + d) + 1 by omega]
    simp only [s_part]
    rw [ih, if_pos (Nat.testBit_lt_two_pow (Nat.lt_of_lt_of_le hH (Nat.pow_le_pow_right (by decide) (by omega)))), Nat.mul_one]
theorem m_brFin (hE : SE E) {p cell w N c H : Int} {A B G : Nat} (gz : (G : Int) ≠ 0) (hA : A ≤ 1000000) (hB : B ≤ 1000000) (y z : am_V) (v : am_M) : Rn m_M_breaks 232 [vR (some 149), vI p, vI cell, vI N, vI c, vI w, vI H, vI (A : Int), vI (B : Int), vI (G : Int), y, z] [] E v = some (some (vI (if w = 0 then ((A / G : Nat) : Int) else ((B / G : Nat) : Int))), E, v) := by
  have w1 : w32 ((A / G : Nat) : Int) = ((A / G : Nat) : Int) := w32_nat (Nat.le_trans (Nat.div_le_self _ _) (Nat.le_trans hA (by decide)))
  have w2 : w32 ((B / G : Nat) : Int) = ((B / G : Nat) : Int) := w32_nat (Nat.le_trans (Nat.div_le_self _ _) (Nat.le_trans hB (by decide)))
  by_cases hw0 : w = 0
  · rw [if_pos hw0]
    simp (disch := assumption) only [↓reduceIte, Int.reduceEq, Int.reduceLT, bdI_s, bdV_s, bdR_s, bdL_s, fx_I, fx_R, fx_B, fx_L, x_M_breaks_0, x_M_breaks_1, hw0, tdiv_n, w1]
  · rw [if_neg hw0]
    simp (disch := assumption) only [↓reduceIte, Int.reduceEq, Int.reduceLT, bdI_s, bdV_s, bdR_s, bdL_s, fx_I, fx_R, fx_B, fx_L, x_M_breaks_0, x_M_breaks_1, hw0, tdiv_n, w2]
theorem m_brZero (hE : SE E) {p cell w N c H : Int} {A B a : Nat} (hA : A ≤ 1000000) (hB : B ≤ 1000000) (ha : 0 < a) (x : am_V) (v : am_M) : Rn m_M_breaks 209 [vR (some 149), vI p, vI cell, vI N, vI c, vI w, vI H, vI (A : Int), vI (B : Int), vI (a : Int), vI 0, x] [] E v = some (some (vI (if w = 0 then ((A / a : Nat) : Int) else ((B / a : Nat) : Int))), E, v) := by
  have gz : (a : Int) ≠ 0 := by omega
  rw [← m_brFin (p := p) (cell := cell) (N := N) (c := c) (H := H) hE gz hA hB (vI 0) x v, h_M_breaks_209]
  simp (disch := assumption) only [↓reduceIte, Int.reduceEq, Int.reduceLT, bdI_s, bdV_s, bdR_s, bdL_s, fx_I, fx_R, fx_B, fx_L, x_M_breaks_0, x_M_breaks_1]
theorem m_brOne (hE : SE E) {p cell w N c H A B : Int} {a b : Nat} (b0 : b ≠ 0) (hb : b ≤ 1000000) (x : am_V) (v : am_M) : Rn m_M_breaks 209 [vR (some 149), vI p, vI cell, vI N, vI c, vI w, vI H, vI A, vI B, vI (a : Int), vI (b : Int), x] [] E v = Rn m_M_breaks 209 [vR (some 149), vI p, vI cell, vI N, vI c, vI w, vI H, vI A, vI B, vI (b : Int), vI ((a % b : Nat) : Int), vI ((a % b : Nat) : Int)] [] E v := by
  have h1 : a % b < b := Nat.mod_lt _ (by omega)
  have bz : (b : Int) ≠ 0 := by omega
  have ew : w32 ((a % b : Nat) : Int) = ((a % b : Nat) : Int) := w32_nat (Nat.le_trans (Nat.le_of_lt h1) (Nat.le_trans hb (by decide)))
  rw [h_M_breaks_209]
  simp (disch := assumption) only [↓reduceIte, Int.reduceEq, Int.reduceLT, bdI_s, bdV_s, bdR_s, bdL_s, fx_I, fx_R, fx_B, fx_L, x_M_breaks_0, x_M_breaks_1, bz, tmod_n, ew]
theorem m_brGcd (hE : SE E) {p cell w N c H : Int} {A B : Nat} (hA : A ≤ 1000000) (hB : B ≤ 1000000) (v : am_M) : ∀ (j a b : Nat) (x : am_V), b < 2 ^ j → a ≤ 1000000 → b ≤ 1000000 → 0 < Nat.gcd a b → Rn m_M_breaks 209 [vR (some 149), vI p, vI cell, vI N, vI c, vI w, vI H, vI (A : Int), vI (B : Int), vI (a : Int), vI (b : Int), x] [] E v = some (some (vI (if w = 0 then ((A / Nat.gcd a b : Nat) : Int) else ((B / Nat.gcd a b : Nat) : Int))), E, v) := by
  intro j
  induction j with
  | zero =>
    intro a b x hb ha hb2 hg
    have : b = 0 := by rw [Nat.pow_zero] at hb; omega
    subst this
    rw [Nat.gcd_zero_right] at hg ⊢
    exact m_brZero hE hA hB hg x v
  | succ j ih =>
    intro a b x hb ha hb2 hg
    by_cases b0 : b = 0
    · subst b0
      rw [Nat.gcd_zero_right] at hg ⊢
      exact m_brZero hE hA hB hg x v
    · have h1 : a % b < b := Nat.mod_lt _ (by omega)
      rw [gcd_step] at hg
      rw [m_brOne hE b0 hb2 x v, gcd_step]
      by_cases r0 : a % b = 0
      · rw [r0, Nat.gcd_zero_right] at hg ⊢
        exact m_brZero hE hA hB hg _ v
      · rw [gcd_step] at hg
        rw [m_brOne hE r0 (by omega) _ v, gcd_step]
        have h2 : b % (a % b) < a % b := Nat.mod_lt _ (by omega)
        exact ih (a % b) (b % (a % b)) _ (half_mod h1 r0 hb) (by omega) (by omega) hg
theorem m_brNo (hE : SE E) {p cell w N c H A B s s1 Z : Int} (y z : am_V) (lt : ¬ H < s) (is : i_and s (i_xor H (-1)) = Z) (zz : ¬ Z = 0) (ws : w32 (s + 1) = s1) : Rn m_M_breaks 73 [vR (some 149), vI p, vI cell, vI N, vI c, vI w, vI H, vI A, vI B, vI s, y, z] [] E u = Rn m_M_breaks 73 [vR (some 149), vI p, vI cell, vI N, vI c, vI w, vI H, vI A, vI B, vI s1, y, z] [] E u := by
  rw [h_M_breaks_73]
  simp (disch := assumption) only [↓reduceIte, Int.reduceEq, Int.reduceLT, bdI_s, bdV_s, bdR_s, bdL_s, fx_I, fx_R, fx_B, fx_L, x_M_breaks_0, x_M_breaks_1, lt, is, zz, ws]
theorem m_brIn (hE : SE E) {p cell w N c H A B s Z : Int} (y z : am_V) (lt : ¬ H < s) (is : i_and s (i_xor H (-1)) = Z) (zz : Z = 0) : Rn m_M_breaks 73 [vR (some 149), vI p, vI cell, vI N, vI c, vI w, vI H, vI A, vI B, vI s, y, z] [] E u = Rn m_M_breaks 96 [vR (some 149), vI p, vI cell, vI N, vI c, vI w, vI H, vI A, vI B, vI s, vI 1, vI 0] [] E u := by
  rw [h_M_breaks_73]
  simp (disch := assumption) only [↓reduceIte, Int.reduceEq, Int.reduceLT, bdI_s, bdV_s, bdR_s, bdL_s, fx_I, fx_R, fx_B, fx_L, x_M_breaks_0, x_M_breaks_1, lt, is, zz]
theorem m_brEnd (hE : SE E) {p cell w N c H A B s P t m : Int} (hn : u 150 = n) (hm : n 3 = m) (lt : ¬ t < m) : Rn m_M_breaks 96 [vR (some 149), vI p, vI cell, vI N, vI c, vI w, vI H, vI A, vI B, vI s, vI P, vI t] [] E u = Rn m_M_breaks 153 [vR (some 149), vI p, vI cell, vI N, vI c, vI w, vI H, vI A, vI B, vI s, vI P, vI t] [] E u := by
  have al := (al_m hE).1
  have e3 : (3 : Int).toNat = 3 := rfl
  have a0 : (0 : Int) ≤ 3 := by decide
  have a1 : (3 : Int) < am_len 10 E 150 := by rw [al]; decide
  rw [h_M_breaks_96]
  simp (disch := assumption) only [↓reduceIte, Int.reduceEq, Int.reduceLT, bdI_s, bdV_s, bdR_s, bdL_s, fx_I, fx_R, fx_B, fx_L, x_M_breaks_0, x_M_breaks_1, hn, e3, hm, lt]
theorem m_brMul (hE : SE E) {p cell w N c H A B s P P1 t t1 m : Int} {b1 b2 : Bool} (hn : u 150 = n) (hm : n 3 = m) (lt : t < m) (h1 : i_and (i_shr H t) 1 = bI b1) (h2 : i_and (i_shr s t) 1 = bI b2) (wc : w32 (10 - c) = 10 - c) (mu : w32 (P * (if b1 = false then 1 else if b2 = true then c else 10 - c)) = P1) (wt : w32 (t + 1) = t1) : Rn m_M_breaks 96 [vR (some 149), vI p, vI cell, vI N, vI c, vI w, vI H, vI A, vI B, vI s, vI P, vI t] [] E u = Rn m_M_breaks 96 [vR (some 149), vI p, vI cell, vI N, vI c, vI w, vI H, vI A, vI B, vI s, vI P1, vI t1] [] E u := by
  have al := (al_m hE).1
  have e3 : (3 : Int).toNat = 3 := rfl
  have a0 : (0 : Int) ≤ 3 := by decide
  have a1 : (3 : Int) < am_len 10 E 150 := by rw [al]; decide
  rw [h_M_breaks_96]
  cases b1 with
  | false =>
    rw [bI_f] at h1
    rw [if_pos rfl] at mu
    simp (disch := assumption) only [↓reduceIte, Int.reduceEq, Int.reduceLT, bdI_s, bdV_s, bdR_s, bdL_s, fx_I, fx_R, fx_B, fx_L, x_M_breaks_0, x_M_breaks_1, hn, e3, hm, lt, h1, mu, wt]
  | true =>
    rw [bI_t] at h1
    rw [if_neg (by decide)] at mu
    cases b2 with
    | false =>
      rw [bI_f] at h2
      rw [if_neg (by decide)] at mu
      simp (disch := assumption) only [↓reduceIte, Int.reduceEq, Int.reduceLT, bdI_s, bdV_s, bdR_s, bdL_s, fx_I, fx_R, fx_B, fx_L, x_M_breaks_0, x_M_breaks_1, hn, e3, hm, lt, h1, h2, wc, mu, wt]
    | true =>
      rw [bI_t] at h2
      rw [if_pos rfl] at mu
      simp (disch := assumption) only [↓reduceIte, Int.reduceEq, Int.reduceLT, bdI_s, bdV_s, bdR_s, bdL_s, fx_I, fx_R, fx_B, fx_L, x_M_breaks_0, x_M_breaks_1, hn, e3, hm, lt, h1, h2, mu, wt]
theorem m_brAdd (hE : SE E) {p cell w N c H A B s s1 P t C : Int} {v1 v2 : am_M} (ca : Rn m_M_cutsAll 0 [vR (some 149), vI s, vB false] [] E u = some (none, E, v1)) (go : Rn m_M_goesOn 0 [vR (some 149), vI N, vB false] [] E v1 = some (none, E, v2)) (ce : Rn m_M_cellOf 0 [vR (some 149), vI p] [] E v2 = some (some (vI C), E, v2)) (bk : Rn m_M_backs 0 [vR (some 149), vB false] [] E v2 = some (none, E, u)) (wb : w32 (B + P) = B + P) (wa : w32 (A + P) = A + P) (wz : w32 (A + 0) = A) (ws : w32 (s + 1) = s1) : Rn m_M_breaks 153 [vR (some 149), vI p, vI cell, vI N, vI c, vI w, vI H, vI A, vI B, vI s, vI P, vI t] [] E u = Rn m_M_breaks 73 [vR (some 149), vI p, vI cell, vI N, vI c, vI w, vI H, vI (if C = cell then A + P else A), vI (B + P), vI s1, vI P, vI t] [] E u := by
  by_cases hc : C = cell
  · simp (disch := assumption) only [↓reduceIte, Int.reduceEq, Int.reduceLT, bdI_s, bdV_s, bdR_s, bdL_s, fx_I, fx_R, fx_B, fx_L, x_M_breaks_0, x_M_breaks_1, ca, go, ce, bk, hc, wb, wa, ws]
  · simp (disch := assumption) only [↓reduceIte, Int.reduceEq, Int.reduceLT, bdI_s, bdV_s, bdR_s, bdL_s, fx_I, fx_R, fx_B, fx_L, x_M_breaks_0, x_M_breaks_1, ca, go, ce, bk, hc, wb, wz, ws]
theorem m_brMult {H c s t : Nat} (hc : c ≤ 10) (ht : t < 6) : w32 (((s_part H c s t : Nat) : Int) * (if H.testBit t = false then 1 else if s.testBit t = true then (c : Int) else 10 - (c : Int))) = ((s_part H c s (t + 1) : Nat) : Int) := by
  have er : (if H.testBit t = false then 1 else if s.testBit t = true then (c : Int) else 10 - (c : Int)) = ((if H.testBit t = false then 1 else if s.testBit t = true then c else 10 - c : Nat) : Int) := by
    split
    · rfl
    · split
      · rfl
      · omega
  have e0 : ((s_part H c s t : Nat) : Int) * ((if H.testBit t = false then 1 else if s.testBit t = true then c else 10 - c : Nat) : Int) = ((s_part H c s (t + 1) : Nat) : Int) := by
    rw [← Int.natCast_mul]
    rfl
  rw [er, e0]
  exact w32_nat (Nat.le_trans (Nat.le_trans (s_part_le hc (t + 1)) (pw_le (Nat.le_refl _) (by omega))) (by decide))
theorem m_brPart (hE : SE E) {p cell w N A B : Int} {H c s m : Nat} (hn : u 150 = n) (hm : n 3 = (m : Int)) (m6 : m ≤ 6) (H64 : H < 64) (s64 : s < 64) (hc : c ≤ 10) : ∀ (e t : Nat), t + e = m → Rn m_M_breaks 96 [vR (some 149), vI p, vI cell, vI N, vI (c : Int), vI w, vI (H : Int), vI A, vI B, vI (s : Int), vI ((s_part H c s t : Nat) : Int), vI (t : Int)] [] E u = Rn m_M_breaks 153 [vR (some 149), vI p, vI cell, vI N, vI (c : Int), vI w, vI (H : Int), vI A, vI B, vI (s : Int), vI ((s_part H c s m : Nat) : Int), vI (m : Int)] [] E u := by
  intro e
  induction e with
  | zero =>
    intro t ht
    have : t = m := by omega
    subst this
    exact m_brEnd hE hn hm (by omega)
  | succ e ih =>
    intro t ht
    have b1 := i_bit (a := H) (t := t) (by omega) (by omega)
    have b2 := i_bit (a := s) (t := t) (by omega) (by omega)
    rw [← ih (t + 1) (by omega)]
    exact m_brMul hE hn hm (by omega) b1 b2 (w32_sm (by omega) (by omega)) (m_brMult hc (by omega)) (w_suc (by omega))
theorem m_breaksT {S : am_S} (hE : SE E) (hS : OKS S) {p cell w : Int} {N c : Nat} (hp : 0 ≤ p ∧ p < S.1 2) (hc : 0 ≤ cell ∧ cell < s_cells S.1) (hN : N ≤ 30) (hcc : c ≤ 10) (hw : 0 ≤ w ∧ w ≤ 1) (hu : MS E u S) : Rn m_M_breaks 0 [vR (some 149), vI p, vI cell, vI (N : Int), vI (c : Int), vI w, vB false, vB false, vB false, vB false, vB false, vB false] [] E u = some (some (vI (s_odds w (s_ab (s_hs S.1) c (s_hit S.1 p cell N) (s_hs S.1 + 1)) (10 ^ s_pc (s_hs S.1)))), E, u_as u S.1) := by
  have hV := hS.1.1
  have h2 := hV.2.2.1
  have h3 := hV.2.2.2.1
  have d1 := hS.1.2.1
  have c2' : ∀ s, (s_cuts S.1 s) 2 = S.1 2 := fun s => s_cuts_ne (by omega)
  have c4' : ∀ s, (s_cuts S.1 s) 4 = S.1 4 := fun s => s_cuts_ne (by omega)
  have hm' := u_as_mu (hu.mu hS)
  have n1 := hm'.2.1
  obtain ⟨H2, H64⟩ := s_hs_lt hV
  have hh := m_held (hu.mu hS)
  have ehh : s_held S.1 = ((s_hs S.1 : Nat) : Int) := rfl
  rw [ehh] at hh
  obtain ⟨m, hm⟩ : ∃ m : Nat, S.1 3 = (m : Int) := ⟨(S.1 3).toNat, by omega⟩
  rw [hm, Int.toNat_natCast] at H2
  clear ehh
  generalize s_hs S.1 = H at *
  have e1 := m_asides' hE hu.2.1
  have lH := s_pc_le H
  have m6 : m ≤ 6 := by omega
  have loop : ∀ (d s : Nat), s + d = H + 1 → ∀ (y z : am_V), Rn m_M_breaks 73 [vR (some 149), vI p, vI cell, vI (N : Int), vI (c : Int), vI w, vI (H : Int), vI ((s_ab H c (s_hit S.1 p cell N) s : Nat) : Int), vI ((s_bl H c s : Nat) : Int), vI (s : Int), y, z] [] E (u_as u S.1) = some (some (vI (s_odds w (s_ab H c (s_hit S.1 p cell N) (H + 1)) (10 ^ s_pc H))), E, u_as u S.1) := by
    intro d
    induction d with
    | zero =>
      intro s hs y z
      have : s = H + 1 := by omega
      subst this
      have hA : s_ab H c (s_hit S.1 p cell N) (H + 1) ≤ 1000000 := Nat.le_trans (s_ab_le _ _ _ _) (s_bl_le H64 (by omega) (Nat.le_refl _))
      have hB := pw_le (b := 10) (Nat.le_refl _) lH
      have hB0 : 0 < 10 ^ s_pc H := Nat.pow_pos (by decide)
      rw [s_bl_all H H64 c (by omega), h_M_breaks_73]
      have g1 : 0 < Nat.gcd (s_ab H c (s_hit S.1 p cell N) (H + 1)) (10 ^ s_pc H) := Nat.gcd_pos_of_pos_right _ hB0
      unfold s_odds
      generalize 10 ^ s_pc H = B at *
      have q := m_brGcd (p := p) (cell := cell) (w := w) (N := (N : Int)) (c := (c : Int)) (H := (H : Int)) hE hA hB (u_as u S.1) 20 (s_ab H c (s_hit S.1 p cell N) (H + 1)) B z (Nat.lt_of_le_of_lt hB (by decide)) hA hB g1
      rw [← q]
      have lt : (H : Int) < ((H + 1 : Nat) : Int) := by omega
      simp (disch := assumption) only [↓reduceIte, Int.reduceEq, Int.reduceLT, bdI_s, bdV_s, bdR_s, bdL_s, fx_I, fx_R, fx_B, fx_L, x_M_breaks_0, x_M_breaks_1, lt]
    | succ d ih =>
      intro s hs y z
      have s64 : s < 64 := by omega
      have is := i_sub (S := s) (M := H) s64 H64
      have lt : ¬ (H : Int) < (s : Int) := by omega
      have ws := w_suc (i := s) (by omega)
      cases hsb : s_sub s H with
      | false =>
        have nz : ¬ ((s ^^^ (s &&& H) : Nat) : Int) = 0 := by
          have := of_decide_eq_false hsb
          omega
        have e' := ih (s + 1) (by omega) y z
        have ea : s_ab H c (s_hit S.1 p cell N) (s + 1) = s_ab H c (s_hit S.1 p cell N) s := by
          simp only [s_ab, hsb]
          rw [if_neg (fun z => by cases z.1)]
        have eb : s_bl H c (s + 1) = s_bl H c s := by
          simp only [s_bl, hsb]
          rw [if_neg (by decide)]
        rw [ea, eb] at e'
        rw [m_brNo hE y z lt is nz ws]
        exact e'
      | true =>
        have zz : ((s ^^^ (s &&& H) : Nat) : Int) = 0 := by
          have := of_decide_eq_true hsb
          omega
        have qB := s_bl_le H64 (show c < 11 by omega) (show s ≤ H + 1 by omega)
        have qA := Nat.le_trans (s_ab_le H c (s_hit S.1 p cell N) s) qB
        have qW := (s_wt_le (c := c) H64 s64 hsb hcc).1
        have ca := m_cutsAll hm' (S := s) s64
        have tV := Vn_cuts hV s
        have tZ := Zn_cuts hS.1.2.2.2 (show S.1 3 ≤ 6 by omega) s
        have go := m_goesOn (hm'.to tV) N (by rw [c4' s]; omega)
        rw [sN_sN] at go
        have ce := m_cellOf (u := sN (u_as u S.1) (s_days (s_cuts S.1 s) N)) hE (sN_150 _ _) hp.1 (show p < 7 by omega)
        have bk := m_backs' hE hu.2.1 hS.1.2.2.2 (Zn_days tV tZ N)
        have ept : s_part H c s m = s_wt H c s := by
          rw [← s_part_wt H H64 s s64 hsb c (by omega)]
          have := s_part_m (c := c) (S := s) H2 (6 - m)
          rw [show m + (6 - m) = 6 by omega] at this
          exact this.symm
        have i0 := m_brPart (p := p) (cell := cell) (w := w) (N := (N : Int)) (A := ((s_ab H c (s_hit S.1 p cell N) s : Nat) : Int)) (B := ((s_bl H c s : Nat) : Int)) hE n1 hm m6 H64 s64 hcc m 0 (by omega)
        rw [ept] at i0
        have add := m_brAdd (cell := cell) (w := w) (c := (c : Int)) (H := (H : Int)) (A := ((s_ab H c (s_hit S.1 p cell N) s : Nat) : Int)) (B := ((s_bl H c s : Nat) : Int)) (P := ((s_wt H c s : Nat) : Int)) (t := (m : Int)) hE ca go ce bk (w32_sm (by omega) (by omega)) (w32_sm (by omega) (by omega)) (by rw [Int.add_zero]; exact w32_sm (by omega) (by omega)) ws
        have e' := ih (s + 1) (by omega) (vI ((s_wt H c s : Nat) : Int)) (vI (m : Int))
        have eB : ((s_bl H c (s + 1) : Nat) : Int) = ((s_bl H c s : Nat) : Int) + ((s_wt H c s : Nat) : Int) := by
          simp only [s_bl, hsb]
          rw [if_pos trivial, Int.natCast_add]
        have eA : (if s_C (s_days (s_cuts S.1 s) N) p = cell then ((s_ab H c (s_hit S.1 p cell N) s : Nat) : Int) + ((s_wt H c s : Nat) : Int) else ((s_ab H c (s_hit S.1 p cell N) s : Nat) : Int)) = ((s_ab H c (s_hit S.1 p cell N) (s + 1) : Nat) : Int) := by
          simp only [s_ab]
          by_cases q1 : s_C (s_days (s_cuts S.1 s) N) p = cell
          · rw [if_pos q1, if_pos ⟨hsb, decide_eq_true q1⟩, Int.natCast_add]
          · rw [if_neg q1, if_neg (fun z => q1 (of_decide_eq_true z.2))]
        rw [eA, ← eB] at add
        rw [m_brIn hE y z lt is zz]
        exact i0.trans (add.trans e')
  have lo := loop (H + 1) 0 (by omega) (vB false) (vB false)
  rw [← lo]
  clear lo loop
  simp (disch := first | assumption | omega) only [↓reduceIte, Int.reduceEq, Int.reduceLT, bdI_s, bdV_s, bdR_s, bdL_s, fx_I, fx_R, fx_B, fx_L, w32_of, x_M_breaks_0, x_M_breaks_1, m_isPinT (hu.mu hS), m_isCellT (hu.mu hS), m_inT, hh, e1]
  rfl
theorem k_breaks {S : am_S} (hE : SE E) (hS : OKS S) (p cell N c w : Int) : BOTH E S (fun u => Rn m_A_breaks 0 [vR (some 0), vI p, vI cell, vI N, vI c, vI w, vB false, vB false, vB false, vB false, vB false, vB false] [] E u) (fun u => Rn m_M_breaks 0 [vR (some 149), vI p, vI cell, vI N, vI c, vI w, vB false, vB false, vB false, vB false, vB false, vB false] [] E u) := by
  have cu1 := cuB_1
  by_cases hp : 0 ≤ p ∧ p < S.1 2
  case neg => exact ⟨-1, S, hS, CA_id fun u hu => by simp (disch := first | assumption | omega) only [↓reduceIte, Int.reduceEq, Int.reduceLT, bdI_s, bdV_s, bdR_s, bdL_s, fx_I, fx_R, fx_B, fx_L, w32_of, x_A_breaks_0, x_A_breaks_1, c_isPinF (hu.cu hS)], MA_id fun u hu => by simp (disch := first | assumption | omega) only [↓reduceIte, Int.reduceEq, Int.reduceLT, bdI_s, bdV_s, bdR_s, bdL_s, fx_I, fx_R, fx_B, fx_L, w32_of, x_M_breaks_0, x_M_breaks_1, m_isPinF (hu.mu hS)]⟩
  by_cases hc : 0 ≤ cell ∧ cell < s_cells S.1
  case neg => exact ⟨-1, S, hS, CA_id fun u hu => by simp (disch := first | assumption | omega) only [↓reduceIte, Int.reduceEq, Int.reduceLT, bdI_s, bdV_s, bdR_s, bdL_s, fx_I, fx_R, fx_B, fx_L, w32_of, x_A_breaks_0, x_A_breaks_1, c_isPinT (hu.cu hS), c_isCellF (hu.cu hS)], MA_id fun u hu => by simp (disch := first | assumption | omega) only [↓reduceIte, Int.reduceEq, Int.reduceLT, bdI_s, bdV_s, bdR_s, bdL_s, fx_I, fx_R, fx_B, fx_L, w32_of, x_M_breaks_0, x_M_breaks_1, m_isPinT (hu.mu hS), m_isCellF (hu.mu hS)]⟩
  by_cases hN : 0 ≤ N ∧ N ≤ 30
  case neg => exact ⟨-1, S, hS, CA_id fun u hu => by simp (disch := first | assumption | omega) only [↓reduceIte, Int.reduceEq, Int.reduceLT, bdI_s, bdV_s, bdR_s, bdL_s, fx_I, fx_R, fx_B, fx_L, w32_of, x_A_breaks_0, x_A_breaks_1, c_isPinT (hu.cu hS), c_isCellT (hu.cu hS), r_isInF], MA_id fun u hu => by simp (disch := first | assumption | omega) only [↓reduceIte, Int.reduceEq, Int.reduceLT, bdI_s, bdV_s, bdR_s, bdL_s, fx_I, fx_R, fx_B, fx_L, w32_of, x_M_breaks_0, x_M_breaks_1, m_isPinT (hu.mu hS), m_isCellT (hu.mu hS), m_inF]⟩
  by_cases hcc : 0 ≤ c ∧ c ≤ 10
  case neg => exact ⟨-1, S, hS, CA_id fun u hu => by simp (disch := first | assumption | omega) only [↓reduceIte, Int.reduceEq, Int.reduceLT, bdI_s, bdV_s, bdR_s, bdL_s, fx_I, fx_R, fx_B, fx_L, w32_of, x_A_breaks_0, x_A_breaks_1, c_isPinT (hu.cu hS), c_isCellT (hu.cu hS), r_isInT, r_isInF], MA_id fun u hu => by simp (disch := first | assumption | omega) only [↓reduceIte, Int.reduceEq, Int.reduceLT, bdI_s, bdV_s, bdR_s, bdL_s, fx_I, fx_R, fx_B, fx_L, w32_of, x_M_breaks_0, x_M_breaks_1, m_isPinT (hu.mu hS), m_isCellT (hu.mu hS), m_inT, m_inF]⟩
  by_cases hw : 0 ≤ w ∧ w ≤ 1
  case neg => exact ⟨-1, S, hS, CA_id fun u hu => by simp (disch := first | assumption | omega) only [↓reduceIte, Int.reduceEq, Int.reduceLT, bdI_s, bdV_s, bdR_s, bdL_s, fx_I, fx_R, fx_B, fx_L, w32_of, x_A_breaks_0, x_A_breaks_1, c_isPinT (hu.cu hS), c_isCellT (hu.cu hS), r_isInT, r_isInF], MA_id fun u hu => by simp (disch := first | assumption | omega) only [↓reduceIte, Int.reduceEq, Int.reduceLT, bdI_s, bdV_s, bdR_s, bdL_s, fx_I, fx_R, fx_B, fx_L, w32_of, x_M_breaks_0, x_M_breaks_1, m_isPinT (hu.mu hS), m_isCellT (hu.mu hS), m_inT, m_inF]⟩
  obtain ⟨N', hN'⟩ : ∃ N' : Nat, N = (N' : Int) := ⟨N.toNat, by omega⟩
  subst hN'
  obtain ⟨c', hc'⟩ : ∃ c' : Nat, c = (c' : Int) := ⟨c.toNat, by omega⟩
  subst hc'
  exact ⟨_, S, hS, CA_tr fun u hu => c_breaksT hE hS hp hc (by omega) (by omega) hw hu, MA_tr fun u hu => ⟨u_as u S.1, m_breaksT hE hS hp hc (by omega) (by omega) hw hu, fun i hi => u_as_ne hi⟩⟩

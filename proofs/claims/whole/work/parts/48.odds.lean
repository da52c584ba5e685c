/-! Calls: the odds, if threads break. -/
variable {E : am_E} {u : am_M} {k : Nat} {n : am_Row}
def s_wt (H c S : Nat) : Nat := c ^ s_pc S * (10 - c) ^ (s_pc H - s_pc S)
/-- the weights of the sets below N, summed; of those that hit -/
def s_bl (H c : Nat) : Nat → Nat
  | 0 => 0
  | S + 1 => if s_sub S H = true then s_bl H c S + s_wt H c S else s_bl H c S
def s_ab (H c : Nat) (hit : Nat → Bool) : Nat → Nat
  | 0 => 0
  | S + 1 => if s_sub S H = true ∧ hit S = true then s_ab H c hit S + s_wt H c S else s_ab H c hit S
theorem s_bl_all : ∀ H : Nat, H < 64 → ∀ c : Nat, c < 11 → s_bl H c (H + 1) = 10 ^ s_pc H := by decide +kernel
theorem s_ab_le (H c : Nat) (hit : Nat → Bool) : ∀ N, s_ab H c hit N ≤ s_bl H c N := by
  intro N
  induction N with
  | zero => exact Nat.le_refl _
  | succ N ih =>
    simp only [s_ab, s_bl]
    by_cases h1 : s_sub N H = true
    · by_cases h2 : hit N = true
      · rw [if_pos ⟨h1, h2⟩, if_pos h1]; omega
      · rw [if_neg (fun z => h2 z.2), if_pos h1]; omega
    · rw [if_neg (fun z => h1 z.1), if_neg h1]; exact ih
theorem s_bl_mono (H c : Nat) : ∀ d N, s_bl H c N ≤ s_bl H c (N + d) := by
  intro d
  induction d with
  | zero => intro N; exact Nat.le_refl _
  | succ d ih =>
    intro N
    rw [show N + (d + 1) = (N + d) + 1 by omega]
    have := ih N
    simp only [s_bl]
    split <;> omega
theorem pw_le {b i : Nat} (hb : b ≤ 10) (hi : i ≤ 6) : b ^ i ≤ 1000000 := Nat.le_trans (Nat.pow_le_pow_left hb i) (Nat.pow_le_pow_right (n := 10) (by decide) hi)
theorem s_bl_le {H c N : Nat} (hH : H < 64) (hc : c < 11) (hN : N ≤ H + 1) : s_bl H c N ≤ 1000000 := by
  have h1 := s_bl_mono H c (H + 1 - N) N
  rw [show N + (H + 1 - N) = H + 1 by omega, s_bl_all H hH c hc] at h1
  exact Nat.le_trans h1 (pw_le (Nat.le_refl _) (s_pc_le H))
theorem r_power {b e : Nat} (hb : b ≤ 10) (he : e ≤ 6) : Rn m_A_power 0 [vI (b : Int), vI (e : Int), vB false, vB false] [] E u = some (some (vI ((b ^ e : Nat) : Int)), E, u) := by
  let f : Nat → am_Z := fun i => Rn m_A_power 4 [vI (b : Int), vI (e : Int), vI ((b ^ i : Nat) : Int), vI (i : Int)] [] E u
  have start : Rn m_A_power 0 [vI (b : Int), vI (e : Int), vB false, vB false] [] E u = f 0 := by
    simp (disch := first | assumption | omega) only [↓reduceIte, Int.reduceEq, Int.reduceLT, bdI_s, bdV_s, bdR_s, bdL_s, fx_I, fx_R, fx_B, fx_L, w32_of, x_A_power]
    rfl
  have step : ∀ i, i < e → f i = f (i + 1) := by
    intro i hi
    have h1 := pw_le (i := i + 1) hb (by omega)
    have ew : w32 (((b ^ i : Nat) : Int) * (b : Int)) = ((b ^ (i + 1) : Nat) : Int) := by
      have e0 : ((b ^ i : Nat) : Int) * (b : Int) = ((b ^ (i + 1) : Nat) : Int) := by rw [Nat.pow_succ, Int.natCast_mul]
      rw [e0]
      exact w32_of (by omega) (by omega)
    simp only [f]
    rw [h_A_power_4]
    simp (disch := first | assumption | omega) only [↓reduceIte, Int.reduceEq, Int.reduceLT, bdI_s, bdV_s, bdR_s, bdL_s, fx_I, fx_R, fx_B, fx_L, w32_of, x_A_power, show (i : Int) < (e : Int) by omega, ew]
    rfl
  rw [start, q_loop f e step]
  simp only [f]
  rw [h_A_power_4]
  simp (disch := first | assumption | omega) only [↓reduceIte, Int.reduceEq, Int.reduceLT, bdI_s, bdV_s, bdR_s, bdL_s, fx_I, fx_R, fx_B, fx_L, w32_of, x_A_power, show ¬ (e : Int) < (e : Int) by omega]
theorem gcd_step (a b : Nat) : Nat.gcd a b = Nat.gcd b (a % b) := by rw [Nat.gcd_comm a b, Nat.gcd_rec b a, Nat.gcd_comm]
theorem tmod_n (a b : Nat) : ((a : Int)).tmod (b : Int) = ((a % b : Nat) : Int) := by rw [tmod_nn (by omega)]; rfl
theorem half_mod {b r j : Nat} (hr : r < b) (r0 : r ≠ 0) (hb : b < 2 ^ (j + 1)) : b % r < 2 ^ j := by
  have h1 : b % r < r := Nat.mod_lt _ (by omega)
  have h2 : r + b % r ≤ b := by
    have := Nat.div_add_mod b r
    have h3 : 1 ≤ b / r := by
      rw [Nat.le_div_iff_mul_le (by omega)]
      omega
    have h4 : r * 1 ≤ r * (b / r) := Nat.mul_le_mul_left r h3
    omega
  have h5 : 2 ^ (j + 1) = 2 * 2 ^ j := by rw [Nat.pow_succ]; omega
  omega
theorem r_common : ∀ (j i a b : Nat) (x : am_V), b < 2 ^ j → i + 2 * j ≤ 64 → a ≤ 1000000 → b ≤ 1000000 → Rn m_A_commonDivisor 2 [vI (a : Int), vI (b : Int), vI (i : Int), x] [] E u = some (some (vI ((Nat.gcd a b : Nat) : Int)), E, u) := by
  have zero : ∀ (i a : Nat) (x : am_V), Rn m_A_commonDivisor 2 [vI (a : Int), vI 0, vI (i : Int), x] [] E u = some (some (vI (a : Int)), E, u) := by
    intro i a x
    rw [h_A_commonDivisor_2]
    by_cases hi : (i : Int) < 64
    · simp (disch := first | assumption | omega) only [↓reduceIte, Int.reduceEq, Int.reduceLT, bdI_s, bdV_s, bdR_s, bdL_s, fx_I, fx_R, fx_B, fx_L, w32_of, x_A_commonDivisor, hi]
    · simp (disch := first | assumption | omega) only [↓reduceIte, Int.reduceEq, Int.reduceLT, bdI_s, bdV_s, bdR_s, bdL_s, fx_I, fx_R, fx_B, fx_L, w32_of, x_A_commonDivisor, hi]
  have one : ∀ (i a b : Nat) (x : am_V), b ≠ 0 → i < 64 → b ≤ 1000000 → Rn m_A_commonDivisor 2 [vI (a : Int), vI (b : Int), vI (i : Int), x] [] E u = Rn m_A_commonDivisor 2 [vI (b : Int), vI ((a % b : Nat) : Int), vI ((i + 1 : Nat) : Int), vI ((a % b : Nat) : Int)] [] E u := by
    intro i a b x b0 hi hb
    have h1 : a % b < b := Nat.mod_lt _ (by omega)
    have ew : w32 ((a % b : Nat) : Int) = ((a % b : Nat) : Int) := w32_of (by omega) (by omega)
    rw [h_A_commonDivisor_2]
    simp (disch := first | assumption | omega) only [↓reduceIte, Int.reduceEq, Int.reduceLT, bdI_s, bdV_s, bdR_s, bdL_s, fx_I, fx_R, fx_B, fx_L, w32_of, x_A_commonDivisor, show (i : Int) < 64 by omega, show ¬ (b : Int) = 0 by omega, tmod_n, ew]
    rfl
  intro j
  induction j with
  | zero =>
    intro i a b x hb hi ha hb2
    have : b = 0 := by rw [Nat.pow_zero] at hb; omega
    subst this
    rw [Nat.gcd_zero_right]
    exact zero i a x
  | succ j ih =>
    intro i a b x hb hi ha hb2
    by_cases b0 : b = 0
    · subst b0
      rw [Nat.gcd_zero_right]
      exact zero i a x
    · have h1 : a % b < b := Nat.mod_lt _ (by omega)
      rw [one i a b x b0 (by omega) hb2, gcd_step]
      by_cases r0 : a % b = 0
      · rw [r0, Nat.gcd_zero_right]
        exact zero (i + 1) b _
      · rw [one (i + 1) b (a % b) _ r0 (by omega) (by omega), gcd_step]
        have h2 : b % (a % b) < a % b := Nat.mod_lt _ (by omega)
        exact ih (i + 1 + 1) (a % b) (b % (a % b)) _ (half_mod h1 r0 hb) (by omega) (by omega) (by omega)
def s_hit (n : am_Row) (p cell : Int) (N S : Nat) : Bool := decide (s_C (s_days (s_cuts n S) N) p = cell)
def s_hs (n : am_Row) : Nat := bits (s_hold n) (n 3).toNat
theorem s_hs_lt (hV : Vn n) : s_hs n < 2 ^ (n 3).toNat ∧ s_hs n < 64 := by
  have h3 := hV.2.2.2.1
  have h := bits_lt (s_hold n) (n 3).toNat
  exact ⟨h, Nat.lt_of_lt_of_le h (pow_le64 (by omega))⟩
theorem s_pc_sub : ∀ H : Nat, H < 64 → ∀ S : Nat, S < 64 → s_sub S H = true → s_pc S ≤ s_pc H := by decide +kernel
theorem s_wt_le {H c S : Nat} (hH : H < 64) (hS : S < 64) (hs : s_sub S H = true) (hc : c ≤ 10) : s_wt H c S ≤ 1000000 ∧ c ^ s_pc S ≤ 1000000 ∧ (10 - c) ^ (s_pc H - s_pc S) ≤ 1000000 := by
  have h1 := s_pc_sub H hH S hS hs
  have h2 := s_pc_le H
  have h3 : s_wt H c S ≤ 10 ^ s_pc S * 10 ^ (s_pc H - s_pc S) := Nat.mul_le_mul (Nat.pow_le_pow_left hc _) (Nat.pow_le_pow_left (by omega) _)
  rw [← Nat.pow_add, show s_pc S + (s_pc H - s_pc S) = s_pc H by omega] at h3
  exact ⟨Nat.le_trans h3 (pw_le (Nat.le_refl _) h2), pw_le hc (by omega), pw_le (by omega) (by omega)⟩
def s_odds (w : Int) (a b : Nat) : Int := if w = 0 then ((a / Nat.gcd a b : Nat) : Int) else ((b / Nat.gcd a b : Nat) : Int)
theorem tdiv_n (a b : Nat) : ((a : Int)).tdiv (b : Int) = ((a / b : Nat) : Int) := by rw [tdiv_nn (by omega)]; rfl
theorem w32_nat {x : Nat} (h : x ≤ 2000000) : w32 (x : Int) = (x : Int) := w32_of (by omega) (by omega)
theorem c_brLast (hE : SE E) {p cell w N c H : Int} {K A B G : Nat} (x y z : am_V) {v : am_M} (hp' : Rn m_A_power 0 [vI 10, vI (K : Int), vB false, vB false] [] E v = some (some (vI (B : Int)), E, v)) (hcd : Rn m_A_commonDivisor 0 [vI (A : Int), vI (B : Int), vB false, vB false] [] E v = some (some (vI (G : Int)), E, v)) (gn : ¬ (G : Int) < 1) (gz : (G : Int) ≠ 0) (w1 : w32 ((A / G : Nat) : Int) = ((A / G : Nat) : Int)) (w2 : w32 ((B / G : Nat) : Int) = ((B / G : Nat) : Int)) : Rn m_A_breaks 184 [vR (some 0), vI p, vI cell, vI N, vI c, vI w, vI H, vI (K : Int), vI (A : Int), x, y, z] [] E v = some (some (vI (if w = 0 then ((A / G : Nat) : Int) else ((B / G : Nat) : Int))), E, v) := by
  by_cases hw0 : w = 0
  · rw [if_pos hw0]
    simp (disch := assumption) only [↓reduceIte, Int.reduceEq, Int.reduceLT, bdI_s, bdV_s, bdR_s, bdL_s, fx_I, fx_R, fx_B, fx_L, x_A_breaks_0, x_A_breaks_1, hp', hcd, hw0, gn, tdiv_n, w1]
  · rw [if_neg hw0]
    simp (disch := assumption) only [↓reduceIte, Int.reduceEq, Int.reduceLT, bdI_s, bdV_s, bdR_s, bdL_s, fx_I, fx_R, fx_B, fx_L, x_A_breaks_0, x_A_breaks_1, hp', hcd, hw0, gn, tdiv_n, w2]
theorem c_brNo (hE : SE E) {p cell w N c H K A s s1 Z : Int} (y z : am_V) {v : am_M} (lt : ¬ H < s) (is : i_and s (i_xor H (-1)) = Z) (zz : ¬ Z = 0) (ws : w32 (s + 1) = s1) : Rn m_A_breaks 79 [vR (some 0), vI p, vI cell, vI N, vI c, vI w, vI H, vI K, vI A, vI s, y, z] [] E u = Rn m_A_breaks 79 [vR (some 0), vI p, vI cell, vI N, vI c, vI w, vI H, vI K, vI A, vI s1, y, z] [] E u := by
  rw [h_A_breaks_79]
  simp (disch := assumption) only [↓reduceIte, Int.reduceEq, Int.reduceLT, bdI_s, bdV_s, bdR_s, bdL_s, fx_I, fx_R, fx_B, fx_L, x_A_breaks_0, x_A_breaks_1, lt, is, zz, ws]
theorem c_brCut (hE : SE E) {p cell w N c H K A s P X Y W Z : Int} (y z : am_V) {v v1 : am_M} (lt : ¬ H < s) (is : i_and s (i_xor H (-1)) = Z) (zz : Z = 0) (pcs : Rn m_J_bitI 0 [vI s] [] E v = some (some (vI P), E, v)) (p1 : Rn m_A_power 0 [vI c, vI P, vB false, vB false] [] E v = some (some (vI X), E, v)) (w1 : w32 (10 - c) = 10 - c) (w2 : w32 (K - P) = K - P) (p2 : Rn m_A_power 0 [vI (10 - c), vI (K - P), vB false, vB false] [] E v = some (some (vI Y), E, v)) (ww : w32 (X * Y) = W) (e1 : Rn m_C_becomesCut 0 [vR (some 8), vR (some 1), vI s] [] E v = some (none, E, v1)) : Rn m_A_breaks 79 [vR (some 0), vI p, vI cell, vI N, vI c, vI w, vI H, vI K, vI A, vI s, y, z] [] E v = Rn m_A_breaks 139 [vR (some 0), vI p, vI cell, vI N, vI c, vI w, vI H, vI K, vI A, vI s, vI P, vI W] [] E v1 := by
  have cu1 := cuB_1
  have cu8 := cuB_8
  rw [h_A_breaks_79]
  simp (disch := assumption) only [↓reduceIte, Int.reduceEq, Int.reduceLT, bdI_s, bdV_s, bdR_s, bdL_s, fx_I, fx_R, fx_B, fx_L, x_A_breaks_0, x_A_breaks_1, lt, is, zz, pcs, p1, w1, w2, p2, ww, e1]
theorem c_brAdd (hE : SE E) {p cell w N c H K A s s1 P W M C : Int} {v1 v2 : am_M} (hM : M = if W = 0 then 0 else N) (e2 : Rn m_C_goesOnFor 0 [vR (some 8), vI M, vB false] [] E v1 = some (none, E, v2)) (lk : Rn m_A_look 0 [vR (some (8 + 2)), vI p] [] E v2 = some (some (vI C), E, v2)) (ha : w32 (A + W) = A + W) (ws : w32 (s + 1) = s1) : Rn m_A_breaks 139 [vR (some 0), vI p, vI cell, vI N, vI c, vI w, vI H, vI K, vI A, vI s, vI P, vI W] [] E v1 = Rn m_A_breaks 79 [vR (some 0), vI p, vI cell, vI N, vI c, vI w, vI H, vI K, vI (if C = cell then A + W else A), vI s1, vI P, vI W] [] E v2 := by
  have cu8 := cuB_8
  by_cases hW : W = 0
  · rw [if_pos hW] at hM
    subst hM
    by_cases hc : C = cell
    · simp (disch := assumption) only [↓reduceIte, Int.reduceEq, Int.reduceLT, bdI_s, bdV_s, bdR_s, bdL_s, fx_I, fx_R, fx_B, fx_L, x_A_breaks_0, x_A_breaks_1, hW, e2, lk, hc, ws]
      rw [hW] at ha
      rw [ha]
    · simp (disch := assumption) only [↓reduceIte, Int.reduceEq, Int.reduceLT, bdI_s, bdV_s, bdR_s, bdL_s, fx_I, fx_R, fx_B, fx_L, x_A_breaks_0, x_A_breaks_1, hW, e2, lk, hc, ws]
  · rw [if_neg hW] at hM
    subst hM
    by_cases hc : C = cell
    · simp (disch := assumption) only [↓reduceIte, Int.reduceEq, Int.reduceLT, bdI_s, bdV_s, bdR_s, bdL_s, fx_I, fx_R, fx_B, fx_L, x_A_breaks_0, x_A_breaks_1, hW, e2, lk, hc, ha, ws]
    · simp (disch := assumption) only [↓reduceIte, Int.reduceEq, Int.reduceLT, bdI_s, bdV_s, bdR_s, bdL_s, fx_I, fx_R, fx_B, fx_L, x_A_breaks_0, x_A_breaks_1, hW, e2, lk, hc, ws]
theorem c_brOdds (hE : SE E) {p cell w N c H : Int} {K A : Nat} (hK : K ≤ 6) (hA : A ≤ 1000000) (x y z : am_V) (v : am_M) : Rn m_A_breaks 184 [vR (some 0), vI p, vI cell, vI N, vI c, vI w, vI H, vI (K : Int), vI (A : Int), x, y, z] [] E v = some (some (vI (s_odds w A (10 ^ K))), E, v) := by
  have hp' := r_power (E := E) (u := v) (b := 10) (e := K) (Nat.le_refl _) hK
  have hB := pw_le (b := 10) (Nat.le_refl _) hK
  have hB0 : 0 < 10 ^ K := Nat.pow_pos (by decide)
  unfold s_odds
  generalize 10 ^ K = B at *
  have hg := r_common (E := E) (u := v) 20 0 A B (vB false) (Nat.lt_of_le_of_lt hB (by decide)) (by decide) hA hB
  have hcd : Rn m_A_commonDivisor 0 [vI (A : Int), vI (B : Int), vB false, vB false] [] E v = some (some (vI ((Nat.gcd A B : Nat) : Int)), E, v) := by
    rw [← hg]
    simp (disch := assumption) only [↓reduceIte, Int.reduceEq, Int.reduceLT, bdI_s, bdV_s, bdR_s, bdL_s, fx_I, fx_R, fx_B, fx_L, x_A_commonDivisor]
    rfl
  have g1 : 0 < Nat.gcd A B := Nat.gcd_pos_of_pos_right A hB0
  generalize Nat.gcd A B = G at *
  have hAG : A / G ≤ A := Nat.div_le_self _ _
  have hBG : B / G ≤ B := Nat.div_le_self _ _
  clear hg
  exact c_brLast hE x y z hp' hcd (by omega) (by omega) (w32_nat (Nat.le_trans (Nat.le_trans hAG hA) (by decide))) (w32_nat (Nat.le_trans (Nat.le_trans hBG hB) (by decide)))
theorem w32_sm {a : Int} (h0 : -1000 ≤ a) (h1 : a ≤ 3000000) : w32 a = a := w32_of (by omega) (by omega)
theorem c_breaksT {S : am_S} (hE : SE E) (hS : OKS S) {p cell w : Int} {N c : Nat} (hp : 0 ≤ p ∧ p < S.1 2) (hc : 0 ≤ cell ∧ cell < s_cells S.1) (hN : N ≤ 30) (hcc : c ≤ 10) (hw : 0 ≤ w ∧ w ≤ 1) (hu : CS E u S) : ∃ u', Rn m_A_breaks 0 [vR (some 0), vI p, vI cell, vI (N : Int), vI (c : Int), vI w, vB false, vB false, vB false, vB false, vB false, vB false] [] E u = some (some (vI (s_odds w (s_ab (s_hs S.1) c (s_hit S.1 p cell N) (s_hs S.1 + 1)) (10 ^ s_pc (s_hs S.1)))), E, u') ∧ FR 8 u u' := by
  have cu1 := cuB_1
  have cu8 := cuB_8
  have hV := hS.1.1
  have h2 := hV.2.2.1
  have h3 := hV.2.2.2.1
  have d1 := hS.1.2.1
  have c2' : ∀ s, (s_cuts S.1 s) 2 = S.1 2 := fun s => s_cuts_ne (by omega)
  have c4' : ∀ s, (s_cuts S.1 s) 4 = S.1 4 := fun s => s_cuts_ne (by omega)
  obtain ⟨H2, H64⟩ := s_hs_lt hV
  have hsub := fun (T : Nat) (h : s_sub T (s_hs S.1) = true) => s_unc_sub hV H2 h
  have hh := c_holdSet (hu.cu hS)
  have ehh : s_held S.1 = ((s_hs S.1 : Nat) : Int) := rfl
  rw [ehh] at hh
  clear H2 ehh
  generalize s_hs S.1 = H at *
  have pcH := j_bitI (E := E) (u := u) (x := H) H64
  have lH := s_pc_le H
  have loop : ∀ (d s : Nat), s + d = H + 1 → ∀ (v : am_M) (y z : am_V), FR 8 u v → ∃ u', Rn m_A_breaks 79 [vR (some 0), vI p, vI cell, vI (N : Int), vI (c : Int), vI w, vI (H : Int), vI ((s_pc H : Nat) : Int), vI ((s_ab H c (s_hit S.1 p cell N) s : Nat) : Int), vI (s : Int), y, z] [] E v = some (some (vI (s_odds w (s_ab H c (s_hit S.1 p cell N) (H + 1)) (10 ^ s_pc H))), E, u') ∧ FR 8 u u' := by
    intro d
    induction d with
    | zero =>
      intro s hs v y z fv
      have : s = H + 1 := by omega
      subst this
      refine ⟨v, ?_, fv⟩
      have hA : s_ab H c (s_hit S.1 p cell N) (H + 1) ≤ 1000000 := Nat.le_trans (s_ab_le _ _ _ _) (s_bl_le H64 (by omega) (Nat.le_refl _))
      have lt : (H : Int) < ((H + 1 : Nat) : Int) := by omega
      rw [← c_brOdds (p := p) (cell := cell) (w := w) (N := (N : Int)) (c := (c : Int)) (H := (H : Int)) hE lH hA (vI ((H + 1 : Nat) : Int)) y z v, h_A_breaks_79]
      simp (disch := assumption) only [↓reduceIte, Int.reduceEq, Int.reduceLT, bdI_s, bdV_s, bdR_s, bdL_s, fx_I, fx_R, fx_B, fx_L, x_A_breaks_0, x_A_breaks_1, lt]
    | succ d ih =>
      intro s hs v y z fv
      have hcu : CU E v 1 S.1 := (CS_congr (fun i _ hi => fv i (by omega)) hu).cu hS
      have s64 : s < 64 := by omega
      have is := i_sub (S := s) (M := H) s64 H64
      have ws := w_suc (i := s) (by omega)
      have lt : ¬ (H : Int) < (s : Int) := by omega
      cases hsb : s_sub s H with
      | false =>
        have nz : ¬ ((s ^^^ (s &&& H) : Nat) : Int) = 0 := by
          have := of_decide_eq_false hsb
          omega
        obtain ⟨u', e', f'⟩ := ih (s + 1) (by omega) v y z fv
        have ea : s_ab H c (s_hit S.1 p cell N) (s + 1) = s_ab H c (s_hit S.1 p cell N) s := by
          simp only [s_ab, hsb]
          rw [if_neg (fun z => by cases z.1)]
        rw [ea] at e'
        exact ⟨u', by rw [c_brNo (v := v) hE y z lt is nz ws]; exact e', f'⟩
      | true =>
        have zz : ((s ^^^ (s &&& H) : Nat) : Int) = 0 := by
          have := of_decide_eq_true hsb
          omega
        have hA1 : s_ab H c (s_hit S.1 p cell N) s + s_wt H c s ≤ 2000000 := by
          have q1 := Nat.le_trans (s_ab_le H c (s_hit S.1 p cell N) s) (s_bl_le H64 (show c < 11 by omega) (show s ≤ H + 1 by omega))
          have q2 := (s_wt_le (c := c) H64 s64 hsb hcc).1
          omega
        have pcs := j_bitI (E := E) (u := v) (x := s) s64
        have hle := s_pc_sub H H64 s s64 hsb
        have p1 := r_power (E := E) (u := v) (b := c) (e := s_pc s) hcc (by omega)
        have p2 := r_power (E := E) (u := v) (b := 10 - c) (e := s_pc H - s_pc s) (by omega) (by omega)
        rw [show ((10 - c : Nat) : Int) = 10 - (c : Int) by omega, show ((s_pc H - s_pc s : Nat) : Int) = ((s_pc H : Nat) : Int) - ((s_pc s : Nat) : Int) by omega] at p2
        have ewt : ((c ^ s_pc s : Nat) : Int) * (((10 - c) ^ (s_pc H - s_pc s) : Nat) : Int) = ((s_wt H c s : Nat) : Int) := by unfold s_wt; rw [Int.natCast_mul]
        have ww : w32 (((c ^ s_pc s : Nat) : Int) * (((10 - c) ^ (s_pc H - s_pc s) : Nat) : Int)) = ((s_wt H c s : Nat) : Int) := by rw [ewt]; exact w32_nat (by clear ewt p1 p2; omega)
        clear ewt
        obtain ⟨v1, e1, h1, f1⟩ := c_becomesCut (u := v) (k := 8) (j := 1) hE cuB_8 cuB_1 (by decide) hcu.2.2.1 hV (S := s) (hsub s hsb) s64
        have c2 := c2' s
        have c4 := c4' s
        have cut := c_brCut (p := p) (cell := cell) (w := w) (N := (N : Int)) (A := ((s_ab H c (s_hit S.1 p cell N) s : Nat) : Int)) hE y z lt is zz pcs p1 (w32_sm (by clear ww p1 p2; omega) (by clear ww p1 p2; omega)) (w32_sm (by clear ww p1 p2; omega) (by clear ww p1 p2; omega)) p2 ww e1
        clear ww p1 p2
        have ha : w32 (((s_ab H c (s_hit S.1 p cell N) s : Nat) : Int) + ((s_wt H c s : Nat) : Int)) = ((s_ab H c (s_hit S.1 p cell N) s : Nat) : Int) + ((s_wt H c s : Nat) : Int) := w32_sm (by omega) (by omega)
        have go : ∃ (T : Nat) (M : Int), (M : Int) = (if ((s_wt H c s : Nat) : Int) = 0 then 0 else (N : Int)) ∧ M = (T : Int) ∧ T ≤ 30 ∧ (s_wt H c s = 0 ∨ T = N) := by
          by_cases hz : s_wt H c s = 0
          · exact ⟨0, 0, by rw [hz]; rfl, rfl, by omega, Or.inl hz⟩
          · exact ⟨N, N, by rw [if_neg (by omega)], rfl, hN, Or.inr rfl⟩
        obtain ⟨T, M, hM, hT, hT30, hTN⟩ := go
        obtain ⟨v2, e2, h2', f2⟩ := c_goesOnFor h1 T (by rw [c4]; clear ha; omega)
        rw [← hT] at e2
        obtain ⟨-, -, l2⟩ := Vn_days (Vn_cuts hV s) T
        have lk := lk_C h2' hp.1 (by rw [l2 2 (by decide) (by decide), c2]; exact hp.2)
        have add := c_brAdd (p := p) (cell := cell) (w := w) (c := (c : Int)) (H := (H : Int)) (K := ((s_pc H : Nat) : Int)) (P := ((s_pc s : Nat) : Int)) hE hM e2 lk ha ws
        obtain ⟨u', e', f'⟩ := ih (s + 1) (by clear ha; omega) v2 (vI ((s_pc s : Nat) : Int)) (vI ((s_wt H c s : Nat) : Int)) ((fv.tr f1).tr f2)
        refine ⟨u', ?_, f'⟩
        have eA : (if s_C (s_days (s_cuts S.1 s) T) p = cell then ((s_ab H c (s_hit S.1 p cell N) s : Nat) : Int) + ((s_wt H c s : Nat) : Int) else ((s_ab H c (s_hit S.1 p cell N) s : Nat) : Int)) = ((s_ab H c (s_hit S.1 p cell N) (s + 1) : Nat) : Int) := by
          simp only [s_ab]
          rcases hTN with hz | hz
          · rw [hz]
            by_cases q1 : s_C (s_days (s_cuts S.1 s) T) p = cell
            · rw [if_pos q1]; split <;> simp
            · rw [if_neg q1]; split <;> simp
          · rw [hz]
            by_cases q1 : s_C (s_days (s_cuts S.1 s) N) p = cell
            · rw [if_pos q1, if_pos ⟨hsb, decide_eq_true q1⟩, Int.natCast_add]
            · rw [if_neg q1, if_neg (fun z => q1 (of_decide_eq_true z.2))]
        rw [eA] at add
        rw [cut, add]
        exact e'
  obtain ⟨u', e, f⟩ := loop (H + 1) 0 (by omega) u (vB false) (vB false) FR.rf
  refine ⟨u', ?_, f⟩
  rw [← e]
  clear e loop pcH
  have pcH := j_bitI (E := E) (u := u) (x := H) H64
  simp (disch := first | assumption | omega) only [↓reduceIte, Int.reduceEq, Int.reduceLT, bdI_s, bdV_s, bdR_s, bdL_s, fx_I, fx_R, fx_B, fx_L, w32_of, x_A_breaks_0, x_A_breaks_1, c_isPinT (hu.cu hS), c_isCellT (hu.cu hS), r_isInT, hh, pcH]
  rfl

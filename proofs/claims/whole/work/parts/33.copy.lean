/-! Cells written and copied; a cushion becomes another, is emptied, gets pins and threads. -/
variable {E : am_E} {u : am_M} {k : Nat} {n : am_Row}
/-- an array becomes another -/
def aS (u : am_M) (k : Nat) (a : am_Row) : am_M := fun i => if i = k then a else u i
theorem aS_eq (u : am_M) (k : Nat) (a : am_Row) : aS u k a k = a := by unfold aS; rw [if_pos rfl]
theorem aS_ne (u : am_M) {k i : Nat} (a : am_Row) (h : i ≠ k) : aS u k a i = u i := by unfold aS; rw [if_neg h]
theorem aS_aS (u : am_M) (k : Nat) (a b : am_Row) : aS (aS u k a) k b = aS u k b := by funext i; unfold aS; split <;> rfl
theorem aS_self (u : am_M) (k : Nat) : aS u k (u k) = u := by
  funext i
  unfold aS
  split
  · rename_i h; rw [h]
  · rfl
theorem aS_up (u : am_M) (k : Nat) (a : am_Row) (j : Nat) (v : Int) : am_up (aS u k a) k j v = aS u k (s_up a j v) := by
  funext i x
  unfold am_up aS s_up
  by_cases h : i = k
  · subst h; simp
  · simp [h]
theorem up_aS (u : am_M) (k j : Nat) (v : Int) : am_up u k j v = aS u k (s_up (u k) j v) := by
  funext i x
  unfold am_up aS s_up
  by_cases h : i = k
  · subst h; simp
  · simp [h]
theorem up_fn {u : am_M} {k j i : Nat} {v : Int} (h : i ≠ k) : am_up u k j v i = u i := by funext x; unfold am_up; rw [if_neg (by omega)]
theorem cp_ne {u : am_M} {a i b j n z : Nat} (h : z ≠ b) : am_cp u a i b j n z = u z := by funext x; unfold am_cp; rw [if_neg (by omega)]
theorem cp_eq {u : am_M} {a b n x : Nat} (h : x < n) : am_cp u a 0 b 0 n b x = u a x := by
  unfold am_cp
  rw [if_pos ⟨rfl, Nat.zero_le x, by omega⟩, Nat.zero_add, Nat.sub_zero]
/-- places o, o + 1, .. of a row, as they are filled from another -/
def s_fil (a g : am_Row) (o i : Nat) : am_Row := fun x => if o ≤ x ∧ x < o + i then g x else a x
theorem s_fil_0 (a g : am_Row) (o : Nat) : s_fil a g o 0 = a := by funext x; unfold s_fil; rw [if_neg (by omega)]
theorem s_fil_s {a g : am_Row} {o i j : Nat} {v : Int} (hj : j = o + i) (hv : v = g j) : s_up (s_fil a g o i) j v = s_fil a g o (i + 1) := by
  subst hj; subst hv
  funext x
  unfold s_up s_fil
  by_cases h : x = o + i
  · rw [if_pos h, if_pos (by omega), h]
  · rw [if_neg h]
    by_cases h2 : o ≤ x ∧ x < o + i
    · rw [if_pos h2, if_pos (by omega)]
    · rw [if_neg h2, if_neg (by omega)]
theorem s_fil_in {a g : am_Row} {o i x : Nat} (h : o ≤ x ∧ x < o + i) : s_fil a g o i x = g x := by unfold s_fil; rw [if_pos h]
theorem s_fil_out {a g : am_Row} {o i x : Nat} (h : ¬ (o ≤ x ∧ x < o + i)) : s_fil a g o i x = a x := by unfold s_fil; rw [if_neg h]
theorem r_layAll {a b : Nat} {m : Int} (ha : am_kn E a = 10) (hb : am_kn E b = 10) (la : am_len 10 E a = m) (lb : am_len 10 E b = m) (m0 : 0 ≤ m) : Rn m_A_layAll 0 [vR (some a), vR (some b)] [] E u = some (none, E, am_cp u a 0 b 0 m.toNat) := by
  simp (disch := first | assumption | omega) only [↓reduceIte, x_A_layAll, ha, hb, la, lb, ite_self, Int.toNat_zero]
theorem j_fillI {a : Nat} {m : Nat} {v : Int} (ha : am_kn E a = 10) (la : am_len 10 E a = m) (hm : m ≤ 10000) : Rn m_J_fillI 0 [vR (some a), vI v, vB false, vB false] [] E u = some (none, E, aS u a (s_fil (u a) (fun _ => v) 0 m)) := by
  let f : Nat → am_Z := fun i => Rn m_J_fillI 5 [vR (some a), vI v, vI (i : Int), vI (m : Int)] [] E (aS u a (s_fil (u a) (fun _ => v) 0 i))
  have start : Rn m_J_fillI 0 [vR (some a), vI v, vB false, vB false] [] E u = f 0 := by
    simp only [f, s_fil_0, aS_self]
    simp (disch := first | assumption | omega) only [↓reduceIte, x_J_fillI, ha, la, fx_B, fx_I]
    rfl
  have step : ∀ i, i < m → f i = f (i + 1) := by
    intro i hi
    simp only [f]
    rw [h_J_fillI_5]
    simp (disch := first | assumption | omega) only [↓reduceIte, x_J_fillI, la, show (i : Int) < (m : Int) by omega, Int.toNat_natCast, aS_up, w32_of, fx_I, fx_R]
    rw [s_fil_s (by omega) rfl]
    rfl
  rw [start, q_loop f m step]
  simp only [f]
  rw [h_J_fillI_5]
  simp (disch := first | assumption | omega) only [↓reduceIte, x_J_fillI, la, show ¬ (m : Int) < (m : Int) by omega]
theorem FR_cp {k a i b j m : Nat} {u : am_M} (h : k ≤ b ∧ b < k + 7) : FR k u (am_cp u a i b j m) := fun z hz => cp_ne (by omega)
theorem FR_aS {k j : Nat} {u : am_M} {a : am_Row} (h : k ≤ j ∧ j < k + 7) : FR k u (aS u j a) := fun z hz => aS_ne u a (by omega)
theorem RC_congr {u u' : am_M} (h : ∀ z, k ≤ z → z < k + 7 → u' z = u z) (hR : RC u k n) : RC u' k n := by
  unfold RC at *
  rw [h k (by omega) (by omega), h (k + 1) (by omega) (by omega), h (k + 2) (by omega) (by omega), h (k + 3) (by omega) (by omega), h (k + 4) (by omega) (by omega), h (k + 5) (by omega) (by omega), h (k + 6) (by omega) (by omega)]
  exact hR
theorem FR_RC {j : Nat} {u u' : am_M} (h : FR k u u') (hj : j + 7 ≤ k ∨ k + 7 ≤ j) (hR : RC u j n) : RC u' j n := RC_congr (fun z z0 z1 => h z (by omega)) hR
def up8 (u : am_M) (k j : Nat) : am_M := am_up (am_up (am_up (am_up (am_up (am_up (am_up (am_up u k 0 (u j 0)) k 1 (u j 1)) k 2 (u j 2)) k 3 (u j 3)) k 4 (u j 4)) k 5 (u j 5)) k 6 (u j 6)) k 7 (u j 7)
def cp6 (u : am_M) (k j : Nat) : am_M := am_cp (am_cp (am_cp (am_cp (am_cp (am_cp u (j + 1) 0 (k + 1) 0 7) (j + 2) 0 (k + 2) 0 7) (j + 3) 0 (k + 3) 0 7) (j + 4) 0 (k + 4) 0 6) (j + 5) 0 (k + 5) 0 6) (j + 6) 0 (k + 6) 0 6
theorem up8_k (u : am_M) (k j : Nat) {i : Nat} (h : i < 8) : up8 u k j k i = u j i := by
  have e : i = 0 ∨ i = 1 ∨ i = 2 ∨ i = 3 ∨ i = 4 ∨ i = 5 ∨ i = 6 ∨ i = 7 := by omega
  unfold up8
  rcases e with rfl | rfl | rfl | rfl | rfl | rfl | rfl | rfl <;> simp [am_up]
theorem up8_ne (u : am_M) (k j : Nat) {z : Nat} (h : z ≠ k) : up8 u k j z = u z := by
  unfold up8
  simp only [up_fn h]
theorem FR_up8 (u : am_M) (k j : Nat) : FR k u (up8 u k j) := fun z hz => up8_ne u k j (by omega)
theorem FR_cp6 (u : am_M) (k j : Nat) : FR k u (cp6 u k j) := by
  intro z hz
  unfold cp6
  simp (disch := omega) only [cp_ne]
theorem c_becomes_run (hE : SE E) (hk : cuB k) {j : Nat} (hj : cuB j) (hne : j ≠ k) : Rn m_C_becomes 0 [vR (some k), vR (some j)] [] E u = some (none, E, cp6 (up8 u k j) k j) := by
  obtain ⟨a1, a2, a3, a4, a5, a6⟩ := al_c hE hk
  obtain ⟨b1, b2, b3, b4, b5, b6⟩ := al_c hE hj
  obtain ⟨k1, k2, k3, k4, k5, k6⟩ := kn_c hE hk
  obtain ⟨l1, l2, l3, l4, l5, l6⟩ := kn_c hE hj
  have p1 : ∀ {u : am_M}, Rn m_A_layAll 0 [vR (some (j + 1)), vR (some (k + 1))] [] E u = some (none, E, am_cp u (j + 1) 0 (k + 1) 0 7) := r_layAll l1 k1 b1 a1 (by decide)
  have p2 : ∀ {u : am_M}, Rn m_A_layAll 0 [vR (some (j + 2)), vR (some (k + 2))] [] E u = some (none, E, am_cp u (j + 2) 0 (k + 2) 0 7) := r_layAll l2 k2 b2 a2 (by decide)
  have p3 : ∀ {u : am_M}, Rn m_A_layAll 0 [vR (some (j + 3)), vR (some (k + 3))] [] E u = some (none, E, am_cp u (j + 3) 0 (k + 3) 0 7) := r_layAll l3 k3 b3 a3 (by decide)
  have p4 : ∀ {u : am_M}, Rn m_A_layAll 0 [vR (some (j + 4)), vR (some (k + 4))] [] E u = some (none, E, am_cp u (j + 4) 0 (k + 4) 0 6) := r_layAll l4 k4 b4 a4 (by decide)
  have p5 : ∀ {u : am_M}, Rn m_A_layAll 0 [vR (some (j + 5)), vR (some (k + 5))] [] E u = some (none, E, am_cp u (j + 5) 0 (k + 5) 0 6) := r_layAll l5 k5 b5 a5 (by decide)
  have p6 : ∀ {u : am_M}, Rn m_A_layAll 0 [vR (some (j + 6)), vR (some (k + 6))] [] E u = some (none, E, am_cp u (j + 6) 0 (k + 6) 0 6) := r_layAll l6 k6 b6 a6 (by decide)
  simp (disch := first | assumption | omega) only [↓reduceIte, x_C_becomes, up_ne, p1, p2, p3, p4, p5, p6, bdV_s]
  rfl
theorem RC_copy {j : Nat} {u' : am_M} (hR : RC u j n) (hV : Vn n) (e0 : ∀ i, i < 8 → u' k i = u j i) (e1 : ∀ i, i < 7 → u' (k + 1) i = u (j + 1) i) (e2 : ∀ i, i < 7 → u' (k + 2) i = u (j + 2) i) (e3 : ∀ i, i < 7 → u' (k + 3) i = u (j + 3) i) (e4 : ∀ i, i < 6 → u' (k + 4) i = u (j + 4) i) (e5 : ∀ i, i < 6 → u' (k + 5) i = u (j + 5) i) (e6 : ∀ i, i < 6 → u' (k + 6) i = u (j + 6) i) : RC u' k n := by
  have h2 := hV.2.2.1
  have h3 := hV.2.2.2.1
  obtain ⟨r0, r1, r2, r3, r4, r5, r6, r7, hp, hq, ht⟩ := hR
  refine ⟨?_, ?_, ?_, ?_, ?_, ?_, ?_, ?_, fun q q0 q1 => ?_, fun q q0 q1 => ?_, fun t t0 t1 => ?_⟩
  · rw [e0 0 (by omega)]; exact r0
  · rw [e0 1 (by omega)]; exact r1
  · rw [e0 2 (by omega)]; exact r2
  · rw [e0 3 (by omega)]; exact r3
  · rw [e0 4 (by omega)]; exact r4
  · rw [e0 5 (by omega)]; exact r5
  · rw [e0 6 (by omega)]; exact r6
  · rw [e0 7 (by omega)]; exact r7
  · rw [e1 _ (by omega), e2 _ (by omega), e3 _ (by omega)]; exact hp q q0 q1
  · rw [e2 _ (by omega)]; exact hq q q0 q1
  · rw [e4 _ (by omega), e5 _ (by omega), e6 _ (by omega)]; exact ht t t0 t1
theorem c_becomes (hE : SE E) (hk : cuB k) {j : Nat} (hj : cuB j) (hne : j ≠ k) (hR : RC u j n) (hV : Vn n) : ∃ u', Rn m_C_becomes 0 [vR (some k), vR (some j)] [] E u = some (none, E, u') ∧ CU E u' k n ∧ FR k u u' := by
  have ap := cuB_ne hj hk hne
  refine ⟨_, c_becomes_run hE hk hj hne, ⟨hE, hk, ?_, hV⟩, (FR_up8 u k j).tr (FR_cp6 _ k j)⟩
  refine RC_copy hR hV (fun i hi => ?_) (fun i hi => ?_) (fun i hi => ?_) (fun i hi => ?_) (fun i hi => ?_) (fun i hi => ?_) (fun i hi => ?_)
  · unfold cp6
    simp (disch := omega) only [cp_ne]
    exact up8_k u k j hi
  all_goals
    unfold cp6
    simp (disch := omega) only [cp_ne, cp_eq, up8_ne]
/-- threads of a set are cut, too -/
def s_cuts (n : am_Row) (S : Nat) : am_Row := fun x => if 27 ≤ x ∧ (x : Int) < 27 + 4 * n 3 ∧ x % 4 = 2 ∧ S.testBit ((x - 30) / 4) = true then 1 else n x
theorem s_cuts_ne {S x : Nat} (h : ¬ (27 ≤ x ∧ (x : Int) < 27 + 4 * n 3 ∧ x % 4 = 2)) : s_cuts n S x = n x := by
  unfold s_cuts
  rw [if_neg]
  intro h2
  exact h ⟨h2.1, h2.2.1, h2.2.2.1⟩
theorem s_cuts_X {S : Nat} {t : Int} (t0 : 0 ≤ t) (t1 : t < n 3) : s_X (s_cuts n S) t = if S.testBit t.toNat = true then 1 else s_X n t := by
  unfold s_X s_cuts
  have e : ((27 + 4 * t + 3).toNat - 30) / 4 = t.toNat := by omega
  rw [e]
  by_cases h : S.testBit t.toNat = true
  · rw [if_pos h, if_pos ⟨by omega, by omega, by omega, h⟩]
  · rw [if_neg h, if_neg (fun q => h q.2.2.2)]
theorem Vn_cuts (hV : Vn n) (S : Nat) : Vn (s_cuts n S) := by
  obtain ⟨h0, h1, h2, h3, h4, h5, hp, ht, hh, hz, hd⟩ := hV
  have L : ∀ i, i < 27 → s_cuts n S i = n i := fun i hi => s_cuts_ne (by omega)
  have K : ∀ i, 51 ≤ i → s_cuts n S i = n i := fun i hi => s_cuts_ne (by omega)
  have ec : s_cells (s_cuts n S) = s_cells n := by unfold s_cells; rw [L 0 (by omega), L 1 (by omega)]
  have eK : ∀ p : Int, 0 ≤ p → p < 7 → s_K (s_cuts n S) p = s_K n p := fun p p0 p1 => L _ (by omega)
  have eC : ∀ p : Int, 0 ≤ p → p < 7 → s_C (s_cuts n S) p = s_C n p := fun p p0 p1 => L _ (by omega)
  have eV : ∀ p : Int, 0 ≤ p → p < 7 → s_V (s_cuts n S) p = s_V n p := fun p p0 p1 => L _ (by omega)
  have eH : ∀ c : Int, 0 ≤ c → s_H (s_cuts n S) c = s_H n c := fun c c0 => K _ (by omega)
  refine ⟨?_, ?_, ?_, ?_, ?_, ?_, fun q q0 q1 => ?_, fun t t0 t1 => ?_, fun c c0 c1 => ?_, fun c c0 c1 => ?_, fun p q p0 p1 q0 q1 e1 e2 => ?_⟩
  · rw [L 0 (by omega)]; exact h0
  · rw [L 1 (by omega)]; exact h1
  · rw [L 2 (by omega)]; exact h2
  · rw [L 3 (by omega)]; exact h3
  · rw [L 4 (by omega)]; exact h4
  · rw [L 5 (by omega)]; exact h5
  · rw [L 2 (by omega)] at q1
    rw [eK q q0 (by omega), eC q q0 (by omega), eV q q0 (by omega), ec]
    obtain ⟨a, b, c⟩ := hp q q0 q1
    refine ⟨a, ?_, c⟩
    rcases b with b | ⟨b1, b2, b3⟩
    · exact Or.inl b
    · exact Or.inr ⟨b1, b2, by rw [eH _ b1]; exact b3⟩
  · rw [L 3 (by omega)] at t1
    rw [L 2 (by omega), s_cuts_X t0 t1]
    obtain ⟨a, b, c, d, e⟩ := ht t t0 t1
    have ea : s_A (s_cuts n S) t = s_A n t := s_cuts_ne (by omega)
    have eb : s_B (s_cuts n S) t = s_B n t := s_cuts_ne (by omega)
    have el : s_L (s_cuts n S) t = s_L n t := s_cuts_ne (by omega)
    rw [ea, eb, el]
    refine ⟨a, b, c, d, ?_⟩
    split
    · exact Or.inr rfl
    · exact e
  · rw [eH c c0]; exact hh c c0 c1
  · rw [ec] at c0
    have : 0 ≤ c := by have := s_cells_of (n := n) ⟨h0, h1, h2, h3, h4, h5, hp, ht, hh, hz, hd⟩; omega
    rw [eH c this]; exact hz c c0 c1
  · rw [L 2 (by omega)] at p1 q1
    rw [eC p p0 (by omega), eC q q0 (by omega)] at e1
    rw [eC p p0 (by omega)] at e2
    exact hd p q p0 p1 q0 q1 e1 e2
theorem bits_or_set {f g h : Nat → Bool} {m : Nat} (e : ∀ i, i < m → h i = (f i || g i)) : bits f m ||| bits g m = bits h m := by
  rw [bits_or]
  exact bits_congr fun i hi => (e i hi).symm
theorem RC_cut (hR : RC u k n) (h3 : n 3 ≤ 6) (h2 : n 2 ≤ 7) {S : Nat} (hS : ∀ i, S.testBit i = true → (i : Int) < n 3) (s0 : S < 64) : RC (am_up u k 6 (i_or (u k 6) (S : Int))) k (s_cuts n S) := by
  obtain ⟨r0, r1, r2, r3, r4, r5, r6, r7, hp, hq, ht⟩ := hR
  have L : ∀ i, i < 27 → s_cuts n S i = n i := fun i hi => s_cuts_ne (by omega)
  have K : ∀ i, 51 ≤ i → s_cuts n S i = n i := fun i hi => s_cuts_ne (by omega)
  refine ⟨?_, ?_, ?_, ?_, ?_, ?_, ?_, ?_, fun q q0 q1 => ?_, fun q q0 q1 => ?_, fun t t0 t1 => ?_⟩
  · rw [up_nj (by omega), L 0 (by omega)]; exact r0
  · rw [up_nj (by omega), L 1 (by omega)]; exact r1
  · rw [up_nj (by omega), L 2 (by omega)]; exact r2
  · rw [up_nj (by omega), L 3 (by omega)]; exact r3
  · rw [up_nj (by omega), L 4 (by omega)]; exact r4
  · rw [up_nj (by omega), L 5 (by omega)]; exact r5
  · have hb := bits_lt (fun t => decide ((t : Int) < n 3) && decide (s_X n t = 1)) 6
    rw [up_eq, r6, i_or_n (by omega) (by omega)]
    congr 1
    refine bits_ext fun i => ?_
    rw [Nat.testBit_or, bits_tb, L 3 (by omega)]
    by_cases hi : (i : Int) < n 3
    · have hi6 : i < 6 := by omega
      rw [s_cuts_X (by omega) hi, Int.toNat_natCast]
      cases hs : S.testBit i <;> simp [hi, hi6]
    · have hs : S.testBit i = false := by
        cases hs : S.testBit i with
        | false => rfl
        | true => exact absurd (hS i hs) hi
      simp [hi, hs]
  · rw [up_nj (by omega), r7]
    congr 1
    refine bits_congr fun t ht => ?_
    unfold s_H
    rw [K _ (by omega)]
  · rw [L 2 (by omega)] at q1
    unfold s_K s_C s_V
    rw [up_ne (by omega), up_ne (by omega), up_ne (by omega), L _ (by omega), L _ (by omega), L _ (by omega)]
    exact hp q q0 q1
  · rw [L 2 (by omega)] at q0
    rw [up_ne (by omega)]
    exact hq q q0 q1
  · rw [L 3 (by omega)] at t1
    have ea : s_A (s_cuts n S) t = s_A n t := s_cuts_ne (by omega)
    have eb : s_B (s_cuts n S) t = s_B n t := s_cuts_ne (by omega)
    have el : s_L (s_cuts n S) t = s_L n t := s_cuts_ne (by omega)
    rw [ea, eb, el, up_ne (by omega), up_ne (by omega), up_ne (by omega)]
    exact ht t t0 t1
theorem c_becomesCut (hE : SE E) (hk : cuB k) {j : Nat} (hj : cuB j) (hne : j ≠ k) (hR : RC u j n) (hV : Vn n) {S : Nat} (hS : ∀ i, S.testBit i = true → (i : Int) < n 3) (s0 : S < 64) : ∃ u', Rn m_C_becomesCut 0 [vR (some k), vR (some j), vI (S : Int)] [] E u = some (none, E, u') ∧ CU E u' k (s_cuts n S) ∧ FR k u u' := by
  obtain ⟨u1, e1, h1, f1⟩ := c_becomes (u := u) hE hk hj hne hR hV
  refine ⟨am_up u1 k 6 (i_or (u1 k 6) (S : Int)), ?_, ⟨hE, hk, RC_cut h1.2.2.1 hV.2.2.2.1.2 hV.2.2.1.2 hS s0, Vn_cuts hV S⟩, f1.tr (FR.up (by omega))⟩
  simp (disch := first | assumption | omega) only [↓reduceIte, x_C_becomesCut, e1, bdV_s]
/-- a row with nothing on it -/
def s_fresh (n : am_Row) (r c : Int) : am_Row := fun x => if x = 0 then r else if x = 1 then c else if x < 5 then 0 else if 51 ≤ x ∧ x < 100 then 0 else n x
theorem c_empties (hE : SE E) (hk : cuB k) (r c : Int) : ∃ u', Rn m_C_empties 0 [vR (some k), vI r, vI c] [] E u = some (none, E, u') ∧ FR k u u' ∧ u' k 5 = u k 5 ∧ ∀ n : am_Row, n 5 = u k 5 → RC u' k (s_fresh n r c) := by
  obtain ⟨a1, a2, a3, a4, a5, a6⟩ := al_c hE hk
  obtain ⟨k1, k2, k3, k4, k5, k6⟩ := kn_c hE hk
  have fl : ∀ {u : am_M}, Rn m_J_fillI 0 [vR (some (k + 2)), vI (-4), vB false, vB false] [] E u = some (none, E, aS u (k + 2) (s_fil (u (k + 2)) (fun _ => -4) 0 7)) := fun {u} => j_fillI (m := 7) k2 (by rw [a2]; rfl) (by omega)
  refine ⟨aS (am_up (am_up (am_up (am_up (am_up (am_up (am_up u k 0 r) k 1 c) k 2 0) k 3 0) k 4 0) k 6 0) k 7 0) (k + 2) (s_fil (u (k + 2)) (fun _ => -4) 0 7), ?_, ?_, ?_, fun n h5 => ?_⟩
  · simp (disch := first | assumption | omega) only [↓reduceIte, x_C_empties, fl, bdV_s, up_fn]
  · exact (((((((FR.up (by omega)).tr (FR.up (by omega))).tr (FR.up (by omega))).tr (FR.up (by omega))).tr (FR.up (by omega))).tr (FR.up (by omega))).tr (FR.up (by omega))).tr (FR_aS (by omega))
  · rw [aS_ne _ _ (by omega)]
    simp (disch := omega) only [up_nj]
  · have e2 : s_fresh n r c 2 = 0 := rfl
    have e3 : s_fresh n r c 3 = 0 := rfl
    refine ⟨?_, ?_, ?_, ?_, ?_, ?_, ?_, ?_, fun q q0 q1 => ?_, fun q q0 q1 => ?_, fun t t0 t1 => ?_⟩
    · rw [aS_ne _ _ (by omega)]; simp (disch := omega) only [up_nj, up_eq]; rfl
    · rw [aS_ne _ _ (by omega)]; simp (disch := omega) only [up_nj, up_eq]; rfl
    · rw [aS_ne _ _ (by omega)]; simp (disch := omega) only [up_nj, up_eq]; rfl
    · rw [aS_ne _ _ (by omega)]; simp (disch := omega) only [up_nj, up_eq]; rfl
    · rw [aS_ne _ _ (by omega)]; simp (disch := omega) only [up_nj, up_eq]; rfl
    · rw [aS_ne _ _ (by omega)]; simp (disch := omega) only [up_nj, up_eq]; rw [← h5]; rfl
    · rw [aS_ne _ _ (by omega)]; simp (disch := omega) only [up_nj, up_eq]
      have : (0 : Nat) = bits (fun t => decide ((t : Int) < s_fresh n r c 3) && decide (s_X (s_fresh n r c) t = 1)) 6 := bits_ext fun i => by
        rw [e3]
        simp
        intro _ h; omega
      rw [← this]; rfl
    · rw [aS_ne _ _ (by omega)]; simp (disch := omega) only [up_nj, up_eq]
      have : (0 : Nat) = bits (fun c' => decide (s_H (s_fresh n r c) c' = 1)) 49 := bits_ext fun i => by
        by_cases hi : i < 49
        · have : s_H (s_fresh n r c) (i : Int) = 0 := by
            unfold s_H s_fresh
            rw [if_neg (by omega), if_neg (by omega), if_neg (by omega), if_pos (by omega)]
          simp [this]
        · simp [hi]
      rw [← this]; rfl
    · rw [e2] at q1; omega
    · rw [aS_eq, s_fil_in (by omega)]
    · rw [e3] at t1; omega
theorem Vn_fresh {r c : Int} (h4 : 3 ≤ r ∧ r ≤ 7) (h5 : 3 ≤ c ∧ c ≤ 7) : Vn (s_fresh n r c) := by
  have e2 : s_fresh n r c 2 = 0 := rfl
  have e3 : s_fresh n r c 3 = 0 := rfl
  have H : ∀ d : Int, 0 ≤ d → d < 49 → s_H (s_fresh n r c) d = 0 := fun d d0 d1 => by
    unfold s_H s_fresh
    rw [if_neg (by omega), if_neg (by omega), if_neg (by omega), if_pos (by omega)]
  have hc : 9 ≤ s_cells (s_fresh n r c) := by
    have ec : s_cells (s_fresh n r c) = r * c := rfl
    rw [ec]
    have e : c = 3 ∨ c = 4 ∨ c = 5 ∨ c = 6 ∨ c = 7 := by omega
    rcases e with e | e | e | e | e <;> rw [e] <;> omega
  refine ⟨h4, h5, by rw [e2]; omega, by rw [e3]; omega, by show (0 : Int) ≤ 0; omega, Decidable.em _, fun q q0 q1 => ?_, fun t t0 t1 => ?_, fun d d0 d1 => Or.inl (H d d0 d1), fun d d0 d1 => H d (by omega) d1, fun p q p0 p1 => ?_⟩
  · rw [e2] at q1; omega
  · rw [e3] at t1; omega
  · rw [e2] at p1; omega

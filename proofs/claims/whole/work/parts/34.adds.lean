/-! A cushion gets a pin, a thread; which threads are not cut; dust. -/
variable {E : am_E} {u : am_M} {k : Nat} {n : am_Row}
def s_addPin (n : am_Row) (K c v : Int) : am_Row := s_up (s_up (s_up (s_up n (6 + 3 * n 2).toNat K) (6 + 3 * n 2 + 1).toNat c) (6 + 3 * n 2 + 2).toNat v) 2 (n 2 + 1)
theorem s_addPin_ne {K c v : Int} {i : Nat} (h2 : 0 ≤ n 2) (h : i ≠ 2) (h3 : ¬ (6 + 3 * n 2 ≤ (i : Int) ∧ (i : Int) < 9 + 3 * n 2)) : s_addPin n K c v i = n i := by
  unfold s_addPin
  rw [su_ne (by omega), su_ne (by omega), su_ne (by omega), su_ne (by omega)]
theorem s_addPin_2 {K c v : Int} : s_addPin n K c v 2 = n 2 + 1 := by unfold s_addPin; rw [su_eq]
theorem s_addPin_K {K c v : Int} (h2 : 0 ≤ n 2) : s_K (s_addPin n K c v) (n 2) = K := by
  unfold s_K s_addPin
  rw [su_ne (by omega), su_ne (by omega), su_ne (by omega), su_eq]
theorem s_addPin_C {K c v : Int} (h2 : 0 ≤ n 2) : s_C (s_addPin n K c v) (n 2) = c := by
  unfold s_C s_addPin
  rw [su_ne (by omega), su_ne (by omega), su_eq]
theorem s_addPin_V {K c v : Int} (h2 : 0 ≤ n 2) : s_V (s_addPin n K c v) (n 2) = v := by
  unfold s_V s_addPin
  rw [su_ne (by omega), su_eq]
theorem Vn_addPin (hV : Vn n) (h7 : n 2 < 7) {K c v : Int} (K0 : 0 ≤ K ∧ K ≤ 4) (c0 : 0 ≤ c) (c1 : c < s_cells n) (hh0 : s_H n c = 0) (hc : ∀ q : Int, 0 ≤ q → q < n 2 → s_C n q ≠ c) (v0 : 0 ≤ v ∧ v ≤ 3) : Vn (s_addPin n K c v) := by
  obtain ⟨h0, h1, h2, h3, h4, h5, hp, ht, hh, hz, hd⟩ := hV
  have L : ∀ i : Nat, i < 6 → i ≠ 2 → s_addPin n K c v i = n i := fun i i0 i1 => s_addPin_ne h2.1 i1 (by omega)
  have H : ∀ i : Nat, 27 ≤ i → s_addPin n K c v i = n i := fun i i0 => s_addPin_ne h2.1 (by omega) (by omega)
  have P : ∀ (q : Int) (d : Nat), 0 ≤ q → q < n 2 → d < 3 → s_addPin n K c v (6 + 3 * q + d).toNat = n (6 + 3 * q + d).toNat := fun q d q0 q1 d3 => s_addPin_ne h2.1 (by omega) (by omega)
  have PK : ∀ q : Int, 0 ≤ q → q < n 2 → s_K (s_addPin n K c v) q = s_K n q := fun q q0 q1 => by have := P q 0 q0 q1 (by omega); rw [Int.natCast_zero, Int.add_zero] at this; exact this
  have PC : ∀ q : Int, 0 ≤ q → q < n 2 → s_C (s_addPin n K c v) q = s_C n q := fun q q0 q1 => P q 1 q0 q1 (by omega)
  have PV : ∀ q : Int, 0 ≤ q → q < n 2 → s_V (s_addPin n K c v) q = s_V n q := fun q q0 q1 => P q 2 q0 q1 (by omega)
  have ec : s_cells (s_addPin n K c v) = s_cells n := by unfold s_cells; rw [L 0 (by omega) (by omega), L 1 (by omega) (by omega)]
  have eH : ∀ d : Int, 0 ≤ d → s_H (s_addPin n K c v) d = s_H n d := fun d d0 => H _ (by omega)
  have eC := s_addPin_C (n := n) (K := K) (c := c) (v := v) h2.1
  have hcl := s_cells_of (n := n) ⟨h0, h1, h2, h3, h4, h5, hp, ht, hh, hz, hd⟩
  refine ⟨?_, ?_, ?_, ?_, ?_, ?_, fun q q0 q1 => ?_, fun t t0 t1 => ?_, fun d d0 d1 => ?_, fun d d0 d1 => ?_, fun p q p0 p1 q0 q1 e1 e2 => ?_⟩
  · rw [L 0 (by omega) (by omega)]; exact h0
  · rw [L 1 (by omega) (by omega)]; exact h1
  · rw [s_addPin_2]; omega
  · rw [L 3 (by omega) (by omega)]; exact h3
  · rw [L 4 (by omega) (by omega)]; exact h4
  · rw [L 5 (by omega) (by omega)]; exact h5
  · rw [s_addPin_2] at q1
    rw [ec]
    by_cases e : q = n 2
    · subst e
      rw [s_addPin_K h2.1, eC, s_addPin_V h2.1, eH c c0]
      exact ⟨K0, Or.inr ⟨c0, c1, hh0⟩, v0⟩
    · rw [PK q q0 (by omega), PC q q0 (by omega), PV q q0 (by omega)]
      obtain ⟨a, b, d⟩ := hp q q0 (by omega)
      refine ⟨a, ?_, d⟩
      rcases b with b | ⟨b1, b2, b3⟩
      · exact Or.inl b
      · exact Or.inr ⟨b1, b2, by rw [eH _ b1]; exact b3⟩
  · rw [L 3 (by omega) (by omega)] at t1
    have := ht t t0 t1
    rw [s_addPin_2]
    unfold s_A s_B s_L s_X at *
    rw [H _ (by omega), H _ (by omega), H _ (by omega), H _ (by omega)]
    omega
  · rw [eH d d0]; exact hh d d0 d1
  · rw [ec] at d0
    rw [eH d (by omega)]; exact hz d d0 d1
  · rw [s_addPin_2] at p1 q1
    by_cases ep : p = n 2
    · by_cases eq : q = n 2
      · rw [ep, eq]
      · rw [ep, eC, PC q q0 (by omega)] at e1
        exact absurd e1.symm (hc q q0 (by omega))
    · rw [PC p p0 (by omega)] at e1 e2
      by_cases eq : q = n 2
      · rw [eq, eC] at e1
        exact absurd e1 (hc p p0 (by omega))
      · rw [PC q q0 (by omega)] at e1
        exact hd p q p0 (by omega) q0 (by omega) e1 e2
theorem c_addPin (hE : SE E) (hk : cuB k) (hR : RC u k n) (hV : Vn n) (h7 : n 2 < 7) (K c v : Int) : ∃ u', Rn m_C_addPin 0 [vR (some k), vI K, vI c, vI v, vB false] [] E u = some (some (vI (n 2)), E, u') ∧ RC u' k (s_addPin n K c v) ∧ FR k u u' ∧ u' k 5 = u k 5 := by
  have h2 := hV.2.2.1
  have h3 := hV.2.2.2.1
  have hu2 := hR.2.2.1
  refine ⟨am_up (am_up (am_up (am_up u (k + 1) (n 2).toNat K) (k + 2) (n 2).toNat c) (k + 3) (n 2).toNat v) k 2 (n 2 + 1), ?_, ?_, (((FR.up (by omega)).tr (FR.up (by omega))).tr (FR.up (by omega))).tr (FR.up (by omega)), ?_⟩
  · simp (disch := first | assumption | omega) only [↓reduceIte, x_C_addPin, hu2, r_lay7 hE hk (j := 1) (by decide), r_lay7 hE hk (j := 2) (by decide), r_lay7 hE hk (j := 3) (by decide), bdV_s, up_ne, w32_of, fx_I]
  · have L : ∀ i : Nat, i < 6 → i ≠ 2 → s_addPin n K c v i = n i := fun i i0 i1 => s_addPin_ne h2.1 i1 (by omega)
    have H : ∀ i : Nat, 27 ≤ i → s_addPin n K c v i = n i := fun i i0 => s_addPin_ne h2.1 (by omega) (by omega)
    have P : ∀ (q : Int) (d : Nat), 0 ≤ q → q < n 2 → d < 3 → s_addPin n K c v (6 + 3 * q + d).toNat = n (6 + 3 * q + d).toNat := fun q d q0 q1 d3 => s_addPin_ne h2.1 (by omega) (by omega)
    have PK : ∀ q : Int, 0 ≤ q → q < n 2 → s_K (s_addPin n K c v) q = s_K n q := fun q q0 q1 => by have := P q 0 q0 q1 (by omega); rw [Int.natCast_zero, Int.add_zero] at this; exact this
    have PC : ∀ q : Int, 0 ≤ q → q < n 2 → s_C (s_addPin n K c v) q = s_C n q := fun q q0 q1 => P q 1 q0 q1 (by omega)
    have PV : ∀ q : Int, 0 ≤ q → q < n 2 → s_V (s_addPin n K c v) q = s_V n q := fun q q0 q1 => P q 2 q0 q1 (by omega)
    obtain ⟨r0, r1, r2, r3, r4, r5, r6, r7, hp, hq, ht⟩ := hR
    refine ⟨?_, ?_, ?_, ?_, ?_, ?_, ?_, ?_, fun q q0 q1 => ?_, fun q q0 q1 => ?_, fun t t0 t1 => ?_⟩
    · rw [up_nj (by omega), up_ne (by omega), up_ne (by omega), up_ne (by omega), L 0 (by omega) (by omega)]; exact r0
    · rw [up_nj (by omega), up_ne (by omega), up_ne (by omega), up_ne (by omega), L 1 (by omega) (by omega)]; exact r1
    · rw [up_eq, s_addPin_2]
    · rw [up_nj (by omega), up_ne (by omega), up_ne (by omega), up_ne (by omega), L 3 (by omega) (by omega)]; exact r3
    · rw [up_nj (by omega), up_ne (by omega), up_ne (by omega), up_ne (by omega), L 4 (by omega) (by omega)]; exact r4
    · rw [up_nj (by omega), up_ne (by omega), up_ne (by omega), up_ne (by omega), L 5 (by omega) (by omega)]; exact r5
    · rw [up_nj (by omega), up_ne (by omega), up_ne (by omega), up_ne (by omega), r6]
      congr 1
      refine bits_congr fun t ht => ?_
      unfold s_X
      rw [L 3 (by omega) (by omega), H _ (by omega)]
    · rw [up_nj (by omega), up_ne (by omega), up_ne (by omega), up_ne (by omega), r7]
      congr 1
      refine bits_congr fun t ht => ?_
      unfold s_H
      rw [H _ (by omega)]
    · rw [s_addPin_2] at q1
      by_cases e : q = n 2
      · subst e
        rw [s_addPin_K h2.1, s_addPin_C h2.1, s_addPin_V h2.1]
        refine ⟨?_, ?_, ?_⟩
        · rw [up_ne (by omega), up_ne (by omega), up_ne (by omega), up_eq]
        · rw [up_ne (by omega), up_ne (by omega), up_eq]
        · rw [up_ne (by omega), up_eq]
      · rw [PK q q0 (by omega), PC q q0 (by omega), PV q q0 (by omega)]
        obtain ⟨a, b, d⟩ := hp q q0 (by omega)
        refine ⟨?_, ?_, ?_⟩
        · rw [up_ne (by omega), up_ne (by omega), up_ne (by omega), up_nj (by omega)]; exact a
        · rw [up_ne (by omega), up_ne (by omega), up_nj (by omega), up_ne (by omega)]; exact b
        · rw [up_ne (by omega), up_nj (by omega), up_ne (by omega), up_ne (by omega)]; exact d
    · rw [s_addPin_2] at q0
      rw [up_ne (by omega), up_ne (by omega), up_nj (by omega), up_ne (by omega)]
      exact hq q (by omega) q1
    · rw [L 3 (by omega) (by omega)] at t1
      unfold s_A s_B s_L
      rw [H _ (by omega), H _ (by omega), H _ (by omega)]
      obtain ⟨a, b, d⟩ := ht t t0 t1
      refine ⟨?_, ?_, ?_⟩
      · rw [up_ne (by omega), up_ne (by omega), up_ne (by omega), up_ne (by omega)]; exact a
      · rw [up_ne (by omega), up_ne (by omega), up_ne (by omega), up_ne (by omega)]; exact b
      · rw [up_ne (by omega), up_ne (by omega), up_ne (by omega), up_ne (by omega)]; exact d
  · rw [up_nj (by omega), up_ne (by omega), up_ne (by omega), up_ne (by omega)]
def s_addThr (n : am_Row) (a b l : Int) : am_Row := s_up (s_up (s_up (s_up (s_up n (27 + 4 * n 3).toNat (if a < b then a else b)) (27 + 4 * n 3 + 1).toNat (if a < b then b else a)) (27 + 4 * n 3 + 2).toNat l) (27 + 4 * n 3 + 3).toNat 0) 3 (n 3 + 1)
theorem s_addThr_ne {a b l : Int} {i : Nat} (h2 : 0 ≤ n 3) (h : i ≠ 3) (h3 : ¬ (27 + 4 * n 3 ≤ (i : Int) ∧ (i : Int) < 31 + 4 * n 3)) : s_addThr n a b l i = n i := by
  unfold s_addThr
  rw [su_ne (by omega), su_ne (by omega), su_ne (by omega), su_ne (by omega), su_ne (by omega)]
theorem s_addThr_3 {a b l : Int} : s_addThr n a b l 3 = n 3 + 1 := by unfold s_addThr; rw [su_eq]
theorem s_addThr_A {a b l : Int} (h2 : 0 ≤ n 3) : s_A (s_addThr n a b l) (n 3) = if a < b then a else b := by
  unfold s_A s_addThr
  rw [su_ne (by omega), su_ne (by omega), su_ne (by omega), su_ne (by omega), su_eq]
theorem s_addThr_B {a b l : Int} (h2 : 0 ≤ n 3) : s_B (s_addThr n a b l) (n 3) = if a < b then b else a := by
  unfold s_B s_addThr
  rw [su_ne (by omega), su_ne (by omega), su_ne (by omega), su_eq]
theorem s_addThr_L {a b l : Int} (h2 : 0 ≤ n 3) : s_L (s_addThr n a b l) (n 3) = l := by
  unfold s_L s_addThr
  rw [su_ne (by omega), su_ne (by omega), su_eq]
theorem s_addThr_X {a b l : Int} (h2 : 0 ≤ n 3) : s_X (s_addThr n a b l) (n 3) = 0 := by
  unfold s_X s_addThr
  rw [su_ne (by omega), su_eq]
theorem Vn_addThr (hV : Vn n) (h6 : n 3 < 6) {a b l : Int} (a0 : 0 ≤ a ∧ a < n 2) (b0 : 0 ≤ b ∧ b < n 2) (hab : a ≠ b) (l0 : 1 ≤ l ∧ l ≤ 12) : Vn (s_addThr n a b l) := by
  have hV' := hV
  obtain ⟨h0, h1, h2, h3, h4, h5, hp, ht, hh, hz, hd⟩ := hV
  have L : ∀ i : Nat, i < 27 → i ≠ 3 → s_addThr n a b l i = n i := fun i i0 i1 => s_addThr_ne h3.1 i1 (by omega)
  have H : ∀ i : Nat, 51 ≤ i → s_addThr n a b l i = n i := fun i i0 => s_addThr_ne h3.1 (by omega) (by omega)
  have T : ∀ (t : Int) (d : Nat), 0 ≤ t → t < n 3 → d < 4 → s_addThr n a b l (27 + 4 * t + d).toNat = n (27 + 4 * t + d).toNat := fun t d t0 t1 d3 => s_addThr_ne h3.1 (by omega) (by omega)
  have ec : s_cells (s_addThr n a b l) = s_cells n := by unfold s_cells; rw [L 0 (by omega) (by omega), L 1 (by omega) (by omega)]
  have eK : ∀ q : Int, 0 ≤ q → q < 7 → s_K (s_addThr n a b l) q = s_K n q := fun q q0 q1 => L _ (by omega) (by omega)
  have eC : ∀ q : Int, 0 ≤ q → q < 7 → s_C (s_addThr n a b l) q = s_C n q := fun q q0 q1 => L _ (by omega) (by omega)
  have eV : ∀ q : Int, 0 ≤ q → q < 7 → s_V (s_addThr n a b l) q = s_V n q := fun q q0 q1 => L _ (by omega) (by omega)
  have eH : ∀ d : Int, 0 ≤ d → s_H (s_addThr n a b l) d = s_H n d := fun d d0 => H _ (by omega)
  have e2 : s_addThr n a b l 2 = n 2 := L 2 (by omega) (by omega)
  have hcl := s_cells_of hV'
  refine ⟨?_, ?_, ?_, ?_, ?_, ?_, fun q q0 q1 => ?_, fun t t0 t1 => ?_, fun d d0 d1 => ?_, fun d d0 d1 => ?_, fun p q p0 p1 q0 q1 e1 e2' => ?_⟩
  · rw [L 0 (by omega) (by omega)]; exact h0
  · rw [L 1 (by omega) (by omega)]; exact h1
  · rw [e2]; exact h2
  · rw [s_addThr_3]; omega
  · rw [L 4 (by omega) (by omega)]; exact h4
  · rw [L 5 (by omega) (by omega)]; exact h5
  · rw [e2] at q1
    rw [ec, eK q q0 (by omega), eC q q0 (by omega), eV q q0 (by omega)]
    obtain ⟨x, y, z⟩ := hp q q0 (by omega)
    refine ⟨x, ?_, z⟩
    rcases y with y | ⟨y1, y2, y3⟩
    · exact Or.inl y
    · exact Or.inr ⟨y1, y2, by rw [eH _ y1]; exact y3⟩
  · rw [s_addThr_3] at t1
    rw [e2]
    by_cases e : t = n 3
    · subst e
      rw [s_addThr_A h3.1, s_addThr_B h3.1, s_addThr_L h3.1, s_addThr_X h3.1]
      refine ⟨?_, ?_, ?_, l0, Or.inl rfl⟩
      · split <;> assumption
      · split <;> assumption
      · split <;> omega
    · have := ht t t0 (by omega)
      have eA : s_A (s_addThr n a b l) t = s_A n t := by have := T t 0 t0 (by omega) (by omega); rw [Int.natCast_zero, Int.add_zero] at this; exact this
      have eB : s_B (s_addThr n a b l) t = s_B n t := T t 1 t0 (by omega) (by omega)
      have eL : s_L (s_addThr n a b l) t = s_L n t := T t 2 t0 (by omega) (by omega)
      have eX : s_X (s_addThr n a b l) t = s_X n t := T t 3 t0 (by omega) (by omega)
      rw [eA, eB, eL, eX]
      exact this
  · rw [eH d d0]; exact hh d d0 d1
  · rw [ec] at d0
    rw [eH d (by omega)]; exact hz d d0 d1
  · rw [e2] at p1 q1
    rw [eC p p0 (by omega), eC q q0 (by omega)] at e1
    rw [eC p p0 (by omega)] at e2'
    exact hd p q p0 (by omega) q0 (by omega) e1 e2'
theorem mn_eq {a b : Int} (h : a ≠ b) : (if b < a then b else a) = if a < b then a else b := by split <;> split <;> omega
theorem mx_eq {a b : Int} : (if a < b then b else a) = if a < b then b else a := rfl
theorem c_addThread (hE : SE E) (hk : cuB k) (hR : RC u k n) (hV : Vn n) (h6 : n 3 < 6) {a b l : Int} (hab : a ≠ b) : ∃ u', Rn m_C_addThread 0 [vR (some k), vI a, vI b, vI l, vB false] [] E u = some (some (vI (n 3)), E, u') ∧ RC u' k (s_addThr n a b l) ∧ FR k u u' ∧ u' k 5 = u k 5 := by
  have h2 := hV.2.2.1
  have h3 := hV.2.2.2.1
  have hu3 := hR.2.2.2.1
  refine ⟨am_up (am_up (am_up (am_up u (k + 4) (n 3).toNat (if a < b then a else b)) (k + 5) (n 3).toNat (if a < b then b else a)) (k + 6) (n 3).toNat l) k 3 (n 3 + 1), ?_, ?_, (((FR.up (by omega)).tr (FR.up (by omega))).tr (FR.up (by omega))).tr (FR.up (by omega)), ?_⟩
  · have em := mn_eq hab
    generalize (if a < b then a else b) = mi at em ⊢
    generalize hma : (if a < b then b else a) = ma
    simp (disch := first | assumption | omega) only [↓reduceIte, x_C_addThread, hu3, em, hma, r_lay6 hE hk (j := 4) (by decide), r_lay6 hE hk (j := 5) (by decide), r_lay6 hE hk (j := 6) (by decide), bdV_s, up_ne, w32_of, fx_I]
  · have L : ∀ i : Nat, i < 27 → i ≠ 3 → s_addThr n a b l i = n i := fun i i0 i1 => s_addThr_ne h3.1 i1 (by omega)
    have H : ∀ i : Nat, 51 ≤ i → s_addThr n a b l i = n i := fun i i0 => s_addThr_ne h3.1 (by omega) (by omega)
    have T : ∀ (t : Int) (d : Nat), 0 ≤ t → t < n 3 → d < 4 → s_addThr n a b l (27 + 4 * t + d).toNat = n (27 + 4 * t + d).toNat := fun t d t0 t1 d3 => s_addThr_ne h3.1 (by omega) (by omega)
    have e2 : s_addThr n a b l 2 = n 2 := L 2 (by omega) (by omega)
    obtain ⟨r0, r1, r2, r3, r4, r5, r6, r7, hp, hq, ht⟩ := hR
    refine ⟨?_, ?_, ?_, ?_, ?_, ?_, ?_, ?_, fun q q0 q1 => ?_, fun q q0 q1 => ?_, fun t t0 t1 => ?_⟩
    · rw [up_nj (by omega), up_ne (by omega), up_ne (by omega), up_ne (by omega), L 0 (by omega) (by omega)]; exact r0
    · rw [up_nj (by omega), up_ne (by omega), up_ne (by omega), up_ne (by omega), L 1 (by omega) (by omega)]; exact r1
    · rw [up_nj (by omega), up_ne (by omega), up_ne (by omega), up_ne (by omega), e2]; exact r2
    · rw [up_eq, s_addThr_3]
    · rw [up_nj (by omega), up_ne (by omega), up_ne (by omega), up_ne (by omega), L 4 (by omega) (by omega)]; exact r4
    · rw [up_nj (by omega), up_ne (by omega), up_ne (by omega), up_ne (by omega), L 5 (by omega) (by omega)]; exact r5
    · rw [up_nj (by omega), up_ne (by omega), up_ne (by omega), up_ne (by omega), r6]
      congr 1
      refine bits_congr fun t ht => ?_
      rw [s_addThr_3]
      by_cases e : (t : Int) = n 3
      · have := s_addThr_X (n := n) (a := a) (b := b) (l := l) h3.1
        rw [e, this]
        simp
      · by_cases e1 : (t : Int) < n 3
        · have eX : s_X (s_addThr n a b l) (t : Int) = s_X n (t : Int) := T t 3 (by omega) (by omega) (by omega)
          rw [eX, decide_eq_true e1, decide_eq_true (show (t : Int) < n 3 + 1 by omega)]
        · rw [decide_eq_false e1, decide_eq_false (show ¬ (t : Int) < n 3 + 1 by omega)]
          rfl
    · rw [up_nj (by omega), up_ne (by omega), up_ne (by omega), up_ne (by omega), r7]
      congr 1
      refine bits_congr fun t ht => ?_
      unfold s_H
      rw [H _ (by omega)]
    · rw [e2] at q1
      unfold s_K s_C s_V
      rw [L _ (by omega) (by omega), L _ (by omega) (by omega), L _ (by omega) (by omega)]
      obtain ⟨x, y, z⟩ := hp q q0 q1
      refine ⟨?_, ?_, ?_⟩
      · rw [up_ne (by omega), up_ne (by omega), up_ne (by omega), up_ne (by omega)]; exact x
      · rw [up_ne (by omega), up_ne (by omega), up_ne (by omega), up_ne (by omega)]; exact y
      · rw [up_ne (by omega), up_ne (by omega), up_ne (by omega), up_ne (by omega)]; exact z
    · rw [e2] at q0
      rw [up_ne (by omega), up_ne (by omega), up_ne (by omega), up_ne (by omega)]
      exact hq q q0 q1
    · rw [s_addThr_3] at t1
      by_cases e : t = n 3
      · subst e
        rw [s_addThr_A h3.1, s_addThr_B h3.1, s_addThr_L h3.1]
        refine ⟨?_, ?_, ?_⟩
        · rw [up_ne (by omega), up_ne (by omega), up_ne (by omega), up_eq]
        · rw [up_ne (by omega), up_ne (by omega), up_eq]
        · rw [up_ne (by omega), up_eq]
      · have eA : s_A (s_addThr n a b l) t = s_A n t := by have := T t 0 t0 (by omega) (by omega); rw [Int.natCast_zero, Int.add_zero] at this; exact this
        have eB : s_B (s_addThr n a b l) t = s_B n t := T t 1 t0 (by omega) (by omega)
        have eL : s_L (s_addThr n a b l) t = s_L n t := T t 2 t0 (by omega) (by omega)
        rw [eA, eB, eL]
        obtain ⟨x, y, z⟩ := ht t t0 (by omega)
        refine ⟨?_, ?_, ?_⟩
        · rw [up_ne (by omega), up_ne (by omega), up_ne (by omega), up_nj (by omega)]; exact x
        · rw [up_ne (by omega), up_ne (by omega), up_nj (by omega), up_ne (by omega)]; exact y
        · rw [up_ne (by omega), up_nj (by omega), up_ne (by omega), up_ne (by omega)]; exact z
  · rw [up_nj (by omega), up_ne (by omega), up_ne (by omega), up_ne (by omega)]
/-- the threads that are not cut, a set -/
def s_open (n : am_Row) (t : Nat) : Bool := decide (s_X n (t : Int) = 0)
def s_uncut (n : am_Row) : Int := (bits (s_open n) (n 3).toNat : Nat)
theorem w32_pow : ∀ m : Nat, m < 31 → w32 (((2 ^ m : Nat) : Int) - 1) = ((2 ^ m - 1 : Nat) : Int) := by decide +kernel
theorem c_uncutSet (h : CU E u k n) : Rn m_C_uncutSet 0 [vR (some k)] [] E u = some (some (vI (s_uncut n)), E, u) := by
  obtain ⟨hE, hk, hR, hV⟩ := h
  have h3 := hV.2.2.2.1
  obtain ⟨m, hm⟩ : ∃ m : Nat, n 3 = (m : Int) := ⟨(n 3).toNat, by omega⟩
  have hb := bits_lt (fun t => decide ((t : Int) < n 3) && decide (s_X n t = 1)) 6
  have hu3 := hR.2.2.2.1
  have hu6 := hR.2.2.2.2.2.2.1
  rw [hm] at hu3
  have hp : 2 ^ m < 2 ^ 31 := Nat.pow_lt_pow_right (by decide) (by omega)
  simp (disch := first | assumption | omega) only [↓reduceIte, x_C_uncutSet, hu3, hu6, i_shl1, w32_pow, i_andn]
  unfold s_uncut
  congr 4
  rw [hm, Int.toNat_natCast]
  congr 1
  refine bits_ext fun i => ?_
  rw [Nat.testBit_xor, Nat.testBit_and, bits_tb, Nat.testBit_two_pow_sub_one]
  by_cases hi : i < m
  · have := (Vn_thr hV (t := (i : Int)) (by omega) (by omega)).2.2.2.2
    have i6 : i < 6 := by omega
    have i3 : (i : Int) < n 3 := by omega
    rcases this with e | e <;> simp [hi, i6, i3, s_open, e]
  · simp [hi]
/-- the draw -/
def s_draw (d : Int) : Int := (d * 1103515245 + 12345) % 2147483648
theorem i_low31 (z : Int) : i_and (w32 z) 2147483647 = z % 2147483648 := by
  have e : (w32 z) % 4294967296 = z % 4294967296 := by unfold w32; omega
  have h1 : (Int32.ofInt (w32 z)).toBitVec.toNat = (z % 4294967296).toNat := by
    rw [Int32.toBitVec_ofInt, BitVec.toNat_ofInt]
    congr 1
  have h2 : (Int32.ofInt (2147483647 : Int)).toBitVec.toNat = 2 ^ 31 - 1 := by decide
  unfold i_and
  show (Int32.ofInt (w32 z) &&& Int32.ofInt 2147483647).toBitVec.toInt = _
  have e2 : (Int32.ofInt (w32 z) &&& Int32.ofInt 2147483647).toBitVec.toNat = (z % 4294967296).toNat % 2 ^ 31 := by
    rw [Int32.toBitVec_and, BitVec.toNat_and, h1, h2, Nat.and_two_pow_sub_one_eq_mod]
  rw [bv32 (by rw [e2]; exact Nat.mod_lt _ (by decide)), e2]
  omega
theorem s_draw_in (d : Int) : 0 ≤ s_draw d ∧ s_draw d ≤ 2147483647 := by unfold s_draw; omega
def s_dustC (n : am_Row) : Int := n 5 / 65536 % s_cells n
def s_dust (n : am_Row) : am_Row := if s_pinOn (s_up n 5 (s_draw (n 5))) (s_dustC (s_up n 5 (s_draw (n 5)))) = -4 ∧ s_draw (n 5) / 128 % 3 = 0 then s_up (s_up n 5 (s_draw (n 5))) (51 + s_dustC (s_up n 5 (s_draw (n 5)))).toNat 1 else s_up n 5 (s_draw (n 5))
theorem Vn_draw (hV : Vn n) (v : Int) : Vn (s_up n 5 v) := by
  have hV' := hV
  obtain ⟨h0, h1, h2, h3, h4, h5, hp, ht, hh, hz, hd⟩ := hV
  have hcl := s_cells_of hV'
  have L : ∀ i : Nat, i ≠ 5 → s_up n 5 v i = n i := fun i hi => su_ne hi
  have ec : s_cells (s_up n 5 v) = s_cells n := s_cells_up (by omega)
  have eK : ∀ q : Int, 0 ≤ q → s_K (s_up n 5 v) q = s_K n q := fun q q0 => L _ (by omega)
  have eC : ∀ q : Int, 0 ≤ q → s_C (s_up n 5 v) q = s_C n q := fun q q0 => L _ (by omega)
  have eV : ∀ q : Int, 0 ≤ q → s_V (s_up n 5 v) q = s_V n q := fun q q0 => L _ (by omega)
  have eH : ∀ q : Int, 0 ≤ q → s_H (s_up n 5 v) q = s_H n q := fun q q0 => L _ (by omega)
  have eA : ∀ q : Int, 0 ≤ q → s_A (s_up n 5 v) q = s_A n q := fun q q0 => L _ (by omega)
  have eB : ∀ q : Int, 0 ≤ q → s_B (s_up n 5 v) q = s_B n q := fun q q0 => L _ (by omega)
  have eL : ∀ q : Int, 0 ≤ q → s_L (s_up n 5 v) q = s_L n q := fun q q0 => L _ (by omega)
  have eX : ∀ q : Int, 0 ≤ q → s_X (s_up n 5 v) q = s_X n q := fun q q0 => L _ (by omega)
  refine ⟨h0, h1, h2, h3, h4, Decidable.em _, fun q q0 q1 => ?_, fun t t0 t1 => ?_, fun d d0 d1 => ?_, fun d d0 d1 => ?_, fun p q p0 p1 q0 q1 e1 e2 => ?_⟩
  · rw [eK q q0, eC q q0, eV q q0, ec]
    obtain ⟨x, y, z⟩ := hp q q0 q1
    refine ⟨x, ?_, z⟩
    rcases y with y | ⟨y1, y2, y3⟩
    · exact Or.inl y
    · exact Or.inr ⟨y1, y2, by rw [eH _ y1]; exact y3⟩
  · rw [eA t t0, eB t t0, eL t t0, eX t t0]; exact ht t t0 t1
  · rw [eH d d0]; exact hh d d0 d1
  · rw [ec] at d0; rw [eH d (by omega)]; exact hz d d0 d1
  · rw [eC p p0, eC q q0] at e1; rw [eC p p0] at e2; exact hd p q p0 p1 q0 q1 e1 e2
theorem Vn_dust (hV : Vn n) : Vn (s_dust n) := by
  have h1 := Vn_draw hV (s_draw (n 5))
  unfold s_dust
  split
  · rename_i h
    have hcl := s_cells_of h1
    have hb := s_draw_in (n 5)
    have hn5 : (s_up n 5 (s_draw (n 5))) 5 = s_draw (n 5) := su_eq
    have hc : 0 ≤ s_dustC (s_up n 5 (s_draw (n 5))) ∧ s_dustC (s_up n 5 (s_draw (n 5))) < s_cells (s_up n 5 (s_draw (n 5))) := ⟨Int.emod_nonneg _ (by omega), Int.emod_lt_of_pos _ (by omega)⟩
    exact Vn_open h1 hc.1 hc.2 (s_pinOn_no h1 h.1)
  · exact h1
theorem s_dust_5 (hV : Vn n) : s_dust n 5 = s_draw (n 5) := by
  have hcl := s_cells_of (Vn_draw hV (s_draw (n 5)))
  have hc : 0 ≤ s_dustC (s_up n 5 (s_draw (n 5))) := Int.emod_nonneg _ (by omega)
  unfold s_dust
  split
  · rename_i h
    rw [su_ne (by omega), su_eq]
  · rw [su_eq]
theorem w32_mul (d : Int) : w32 (w32 (d * 1103515245) + 12345) = w32 (d * 1103515245 + 12345) := by unfold w32; omega
theorem c_gathersDust (h : CU E u k n) : ∃ u', Rn m_C_gathersDust 0 [vR (some k), vB false, vB false] [] E u = some (none, E, u') ∧ CU E u' k (s_dust n) ∧ FR k u u' := by
  obtain ⟨hE, hk, hR, hV⟩ := h
  have hu5 := hR.2.2.2.2.2.1
  have hd := s_draw_in (n 5)
  have hlow : i_and (w32 (w32 (n 5 * 1103515245) + 12345)) 2147483647 = s_draw (n 5) := by rw [w32_mul, i_low31]; rfl
  have h1 : CU E (am_up u k 5 (s_draw (n 5))) k (s_up n 5 (s_draw (n 5))) := ⟨hE, hk, RC_day hR (Or.inr rfl), Vn_draw hV _⟩
  have hcl := s_cells_of h1.2.2.2
  have hn5 : (s_up n 5 (s_draw (n 5))) 5 = s_draw (n 5) := su_eq
  have hc : 0 ≤ s_dustC (s_up n 5 (s_draw (n 5))) ∧ s_dustC (s_up n 5 (s_draw (n 5))) < s_cells (s_up n 5 (s_draw (n 5))) := ⟨Int.emod_nonneg _ (by omega), Int.emod_lt_of_pos _ (by omega)⟩
  have ed : w32 (w32 (s_draw (n 5) / 65536) % s_cells (s_up n 5 (s_draw (n 5)))) = s_dustC (s_up n 5 (s_draw (n 5))) := by
    have e1 : w32 (s_draw (n 5) / 65536) = s_draw (n 5) / 65536 := w32_of (by omega) (by omega)
    rw [e1]
    unfold s_dustC at hc ⊢
    rw [hn5] at hc ⊢
    exact w32_of (by omega) (by omega)
  have hpo := c_pinOn h1 (c := s_dustC (s_up n 5 (s_draw (n 5)))) (by omega)
  have hcc := c_cellCount h1
  unfold s_dust
  generalize hdd : s_draw (n 5) = d at *
  generalize hnn : s_up n 5 d = r at *
  generalize hcell : s_dustC r = c at *
  have q1 : 0 ≤ w32 (d / 65536) := by rw [w32_of (by omega) (by omega)]; omega
  have q2 : (w32 (d / 65536)).tmod (s_cells r) = w32 (d / 65536) % s_cells r := tmod_nn q1
  have nz : s_cells r ≠ 0 := by omega
  have n1 : ¬ s_cells r < 1 := by omega
  by_cases hp : s_pinOn r c = -4
  · by_cases h3 : d / 128 % 3 = 0
    · obtain ⟨u2, e2, h2, f2⟩ := c_opens h1 hc.1 hc.2 (s_pinOn_no h1.2.2.2 hp)
      refine ⟨u2, ?_, by rw [if_pos ⟨hp, h3⟩]; exact h2, (FR.up (by omega)).tr f2⟩
      have e3 : w32 (w32 (d / 128) % 3) = 0 := by rw [w32_of (by omega) (by omega), w32_of (by omega) (by omega)]; exact h3
      have q3 : (w32 (d / 128)).tmod 3 = w32 (d / 128) % 3 := tmod_nn (by rw [w32_of (by omega) (by omega)]; omega)
      simp (disch := first | assumption | omega) only [↓reduceIte, x_C_gathersDust, hu5, hlow, hcc, bdI_s, bdV_s, up_eq, fx_I, fx_R, tdiv_nn, q2, n1, ed, hpo, hp, q3, e3, e2, (by decide : (65536 : Int) ≠ 0), (by decide : (128 : Int) ≠ 0), (by decide : (3 : Int) ≠ 0)]
    · refine ⟨_, ?_, by rw [if_neg (fun z => h3 z.2)]; exact h1, FR.up (by omega)⟩
      have e3 : ¬ w32 (w32 (d / 128) % 3) = 0 := by rw [w32_of (by omega) (by omega), w32_of (by omega) (by omega)]; exact h3
      have q3 : (w32 (d / 128)).tmod 3 = w32 (d / 128) % 3 := tmod_nn (by rw [w32_of (by omega) (by omega)]; omega)
      simp (disch := first | assumption | omega) only [↓reduceIte, x_C_gathersDust, hu5, hlow, hcc, bdI_s, bdV_s, up_eq, fx_I, fx_R, tdiv_nn, q2, n1, ed, hpo, hp, q3, e3, (by decide : (65536 : Int) ≠ 0), (by decide : (128 : Int) ≠ 0), (by decide : (3 : Int) ≠ 0)]
  · refine ⟨_, ?_, by rw [if_neg (fun z => hp z.1)]; exact h1, FR.up (by omega)⟩
    simp (disch := first | assumption | omega) only [↓reduceIte, x_C_gathersDust, hu5, hlow, hcc, bdI_s, bdV_s, up_eq, fx_I, fx_R, tdiv_nn, q2, n1, ed, hpo, hp, (by decide : (65536 : Int) ≠ 0)]

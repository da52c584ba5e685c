/-! What becomes of a row, and of the cushion that is it. -/
variable {E : am_E} {u : am_M} {k : Nat} {n : am_Row}
theorem su_ne {n : am_Row} {i j : Nat} {v : Int} (h : i ≠ j) : s_up n j v i = n i := by unfold s_up; rw [if_neg h]
theorem su_eq {n : am_Row} {j : Nat} {v : Int} : s_up n j v j = v := by unfold s_up; rw [if_pos rfl]
theorem su_cm {n : am_Row} {i j : Nat} {v w : Int} (h : i ≠ j) : s_up (s_up n i v) j w = s_up (s_up n j w) i v := by
  funext x
  unfold s_up
  by_cases h1 : x = j
  · subst h1
    rw [if_pos rfl, if_neg (fun z => h z.symm), if_pos rfl]
  · rw [if_neg h1]
    by_cases h2 : x = i
    · rw [if_pos h2, if_pos h2]
    · rw [if_neg h2, if_neg h2, if_neg h1]
theorem s_cells_up {j : Nat} {v : Int} (h : 2 ≤ j) : s_cells (s_up n j v) = s_cells n := by
  unfold s_cells
  rw [su_ne (by omega), su_ne (by omega)]
theorem s_far_up {j : Nat} {v : Int} (h : 2 ≤ j) (a b : Int) : s_far (s_up n j v) a b = s_far n a b := by
  unfold s_far
  rw [su_ne (by omega)]
/-- a pin's course -/
theorem RC_course (hR : RC u k n) {p v : Int} (p0 : 0 ≤ p) (p1 : p < 7) : RC (am_up u (k + 3) p.toNat v) k (s_up n (6 + 3 * p + 2).toNat v) := by
  obtain ⟨r0, r1, r2, r3, r4, r5, r6, r7, hp, hq, ht⟩ := hR
  refine ⟨?_, ?_, ?_, ?_, ?_, ?_, ?_, ?_, fun q q0 q1 => ?_, fun q q0 q1 => ?_, fun t t0 t1 => ?_⟩
  · rw [up_ne (by omega), su_ne (by omega)]; exact r0
  · rw [up_ne (by omega), su_ne (by omega)]; exact r1
  · rw [up_ne (by omega), su_ne (by omega)]; exact r2
  · rw [up_ne (by omega), su_ne (by omega)]; exact r3
  · rw [up_ne (by omega), su_ne (by omega)]; exact r4
  · rw [up_ne (by omega), su_ne (by omega)]; exact r5
  · rw [up_ne (by omega), r6]
    congr 1
    refine bits_congr fun t ht => ?_
    unfold s_X
    rw [su_ne (by omega), su_ne (by omega)]
  · rw [up_ne (by omega), r7]
    congr 1
    refine bits_congr fun t ht => ?_
    unfold s_H
    rw [su_ne (by omega)]
  · rw [su_ne (by omega)] at q1
    obtain ⟨a, b, c⟩ := hp q q0 q1
    unfold s_K s_C s_V
    rw [up_ne (by omega), up_ne (by omega), su_ne (by omega), su_ne (by omega)]
    refine ⟨a, b, ?_⟩
    by_cases e : q = p
    · subst e
      rw [up_eq, su_eq]
    · rw [up_nj (by omega), su_ne (by omega)]
      exact c
  · rw [su_ne (by omega)] at q0
    rw [up_ne (by omega)]
    exact hq q q0 q1
  · rw [su_ne (by omega)] at t1
    unfold s_A s_B s_L
    rw [up_ne (by omega), up_ne (by omega), up_ne (by omega), su_ne (by omega), su_ne (by omega), su_ne (by omega)]
    exact ht t t0 t1
/-- a pin's kind -/
theorem RC_kind (hR : RC u k n) {p v : Int} (p0 : 0 ≤ p) (p1 : p < 7) : RC (am_up u (k + 1) p.toNat v) k (s_up n (6 + 3 * p).toNat v) := by
  obtain ⟨r0, r1, r2, r3, r4, r5, r6, r7, hp, hq, ht⟩ := hR
  refine ⟨?_, ?_, ?_, ?_, ?_, ?_, ?_, ?_, fun q q0 q1 => ?_, fun q q0 q1 => ?_, fun t t0 t1 => ?_⟩
  · rw [up_ne (by omega), su_ne (by omega)]; exact r0
  · rw [up_ne (by omega), su_ne (by omega)]; exact r1
  · rw [up_ne (by omega), su_ne (by omega)]; exact r2
  · rw [up_ne (by omega), su_ne (by omega)]; exact r3
  · rw [up_ne (by omega), su_ne (by omega)]; exact r4
  · rw [up_ne (by omega), su_ne (by omega)]; exact r5
  · rw [up_ne (by omega), r6]
    congr 1
    refine bits_congr fun t ht => ?_
    unfold s_X
    rw [su_ne (by omega), su_ne (by omega)]
  · rw [up_ne (by omega), r7]
    congr 1
    refine bits_congr fun t ht => ?_
    unfold s_H
    rw [su_ne (by omega)]
  · rw [su_ne (by omega)] at q1
    obtain ⟨a, b, c⟩ := hp q q0 q1
    unfold s_K s_C s_V
    rw [up_ne (k' := k + 2) (by omega), up_ne (k' := k + 3) (by omega), su_ne (i := (6 + 3 * q + 1).toNat) (by omega), su_ne (i := (6 + 3 * q + 2).toNat) (by omega)]
    refine ⟨?_, b, c⟩
    by_cases e : q = p
    · subst e
      rw [up_eq, su_eq]
    · rw [up_nj (by omega), su_ne (by omega)]
      exact a
  · rw [su_ne (by omega)] at q0
    rw [up_ne (by omega)]
    exact hq q q0 q1
  · rw [su_ne (by omega)] at t1
    unfold s_A s_B s_L
    rw [up_ne (by omega), up_ne (by omega), up_ne (by omega), su_ne (by omega), su_ne (by omega), su_ne (by omega)]
    exact ht t t0 t1
/-- a pin's cell -/
theorem RC_cell (hR : RC u k n) {p v : Int} (p0 : 0 ≤ p) (p1 : p < n 2) (h7 : n 2 ≤ 7) : RC (am_up u (k + 2) p.toNat v) k (s_up n (6 + 3 * p + 1).toNat v) := by
  obtain ⟨r0, r1, r2, r3, r4, r5, r6, r7, hp, hq, ht⟩ := hR
  refine ⟨?_, ?_, ?_, ?_, ?_, ?_, ?_, ?_, fun q q0 q1 => ?_, fun q q0 q1 => ?_, fun t t0 t1 => ?_⟩
  · rw [up_ne (by omega), su_ne (by omega)]; exact r0
  · rw [up_ne (by omega), su_ne (by omega)]; exact r1
  · rw [up_ne (by omega), su_ne (by omega)]; exact r2
  · rw [up_ne (by omega), su_ne (by omega)]; exact r3
  · rw [up_ne (by omega), su_ne (by omega)]; exact r4
  · rw [up_ne (by omega), su_ne (by omega)]; exact r5
  · rw [up_ne (by omega), r6]
    congr 1
    refine bits_congr fun t ht => ?_
    unfold s_X
    rw [su_ne (by omega), su_ne (by omega)]
  · rw [up_ne (by omega), r7]
    congr 1
    refine bits_congr fun t ht => ?_
    unfold s_H
    rw [su_ne (by omega)]
  · rw [su_ne (by omega)] at q1
    obtain ⟨a, b, c⟩ := hp q q0 q1
    unfold s_K s_C s_V
    rw [up_ne (k' := k + 1) (by omega), up_ne (k' := k + 3) (by omega), su_ne (i := (6 + 3 * q).toNat) (by omega), su_ne (i := (6 + 3 * q + 2).toNat) (by omega)]
    refine ⟨a, ?_, c⟩
    by_cases e : q = p
    · subst e
      rw [up_eq, su_eq]
    · rw [up_nj (by omega), su_ne (by omega)]
      exact b
  · rw [su_ne (by omega)] at q0
    rw [up_nj (by omega)]
    exact hq q q0 q1
  · rw [su_ne (by omega)] at t1
    unfold s_A s_B s_L
    rw [up_ne (by omega), up_ne (by omega), up_ne (by omega), su_ne (by omega), su_ne (by omega), su_ne (by omega)]
    exact ht t t0 t1
/-- a hole, by its bit -/
theorem RC_hole (hR : RC u k n) {c w : Int} (c0 : 0 ≤ c) (c1 : c < 49) {X : Nat} (hX : X = bits (fun d => decide (s_H (s_up n (51 + c).toNat w) d = 1)) 49) (h3 : n 3 ≤ 6) (h2 : n 2 ≤ 7) : RC (am_up u k 7 (X : Int)) k (s_up n (51 + c).toNat w) := by
  obtain ⟨r0, r1, r2, r3, r4, r5, r6, r7, hp, hq, ht⟩ := hR
  refine ⟨?_, ?_, ?_, ?_, ?_, ?_, ?_, ?_, fun q q0 q1 => ?_, fun q q0 q1 => ?_, fun t t0 t1 => ?_⟩
  · rw [up_nj (by omega), su_ne (by omega)]; exact r0
  · rw [up_nj (by omega), su_ne (by omega)]; exact r1
  · rw [up_nj (by omega), su_ne (by omega)]; exact r2
  · rw [up_nj (by omega), su_ne (by omega)]; exact r3
  · rw [up_nj (by omega), su_ne (by omega)]; exact r4
  · rw [up_nj (by omega), su_ne (by omega)]; exact r5
  · rw [up_nj (by omega), r6]
    congr 1
    refine bits_congr fun t ht => ?_
    unfold s_X
    rw [su_ne (by omega), su_ne (by omega)]
  · rw [up_eq, hX]
  · rw [su_ne (by omega)] at q1
    unfold s_K s_C s_V
    rw [up_ne (by omega), up_ne (by omega), up_ne (by omega), su_ne (by omega), su_ne (by omega), su_ne (by omega)]
    exact hp q q0 q1
  · rw [su_ne (by omega)] at q0
    rw [up_ne (by omega)]
    exact hq q q0 q1
  · rw [su_ne (by omega)] at t1
    unfold s_A s_B s_L
    rw [up_ne (by omega), up_ne (by omega), up_ne (by omega), su_ne (by omega), su_ne (by omega), su_ne (by omega)]
    exact ht t t0 t1
/-- the day, the draw -/
theorem RC_day (hR : RC u k n) {j : Nat} (hj : j = 4 ∨ j = 5) {v : Int} : RC (am_up u k j v) k (s_up n j v) := by
  obtain ⟨r0, r1, r2, r3, r4, r5, r6, r7, hp, hq, ht⟩ := hR
  refine ⟨?_, ?_, ?_, ?_, ?_, ?_, ?_, ?_, fun q q0 q1 => ?_, fun q q0 q1 => ?_, fun t t0 t1 => ?_⟩
  · rw [up_nj (by omega), su_ne (by omega)]; exact r0
  · rw [up_nj (by omega), su_ne (by omega)]; exact r1
  · rw [up_nj (by omega), su_ne (by omega)]; exact r2
  · rw [up_nj (by omega), su_ne (by omega)]; exact r3
  · rcases hj with rfl | rfl
    · rw [up_eq, su_eq]
    · rw [up_nj (by omega), su_ne (by omega)]; exact r4
  · rcases hj with rfl | rfl
    · rw [up_nj (by omega), su_ne (by omega)]; exact r5
    · rw [up_eq, su_eq]
  · rw [up_nj (by omega), r6]
    congr 1
    refine bits_congr fun t ht => ?_
    unfold s_X
    rw [su_ne (by omega), su_ne (by omega)]
  · rw [up_nj (by omega), r7]
    congr 1
    refine bits_congr fun t ht => ?_
    unfold s_H
    rw [su_ne (by omega)]
  · rw [su_ne (by omega)] at q1
    unfold s_K s_C s_V
    rw [up_ne (by omega), up_ne (by omega), up_ne (by omega), su_ne (by omega), su_ne (by omega), su_ne (by omega)]
    exact hp q q0 q1
  · rw [su_ne (by omega)] at q0
    rw [up_ne (by omega)]
    exact hq q q0 q1
  · rw [su_ne (by omega)] at t1
    unfold s_A s_B s_L
    rw [up_ne (by omega), up_ne (by omega), up_ne (by omega), su_ne (by omega), su_ne (by omega), su_ne (by omega)]
    exact ht t t0 t1
/-- what a row's validity becomes when one of its numbers does -/
theorem Vn_course (hV : Vn n) {p v : Int} (p0 : 0 ≤ p) (p1 : p < 7) (v0 : 0 ≤ v) (v1 : v ≤ 3) : Vn (s_up n (6 + 3 * p + 2).toNat v) := by
  obtain ⟨h0, h1, h2, h3, h4, h5, hp, ht, hh, hz, hd⟩ := hV
  have C : ∀ q : Int, s_C (s_up n (6 + 3 * p + 2).toNat v) q = s_C n q ∨ q < 0 ∨ 7 ≤ q := fun q => by
    by_cases e : 0 ≤ q ∧ q < 7
    · left; unfold s_C; rw [su_ne (by omega)]
    · right; omega
  have H : ∀ q : Int, 0 ≤ q → s_H (s_up n (6 + 3 * p + 2).toNat v) q = s_H n q := fun q q0 => by unfold s_H; rw [su_ne (by omega)]
  refine ⟨?_, ?_, ?_, ?_, ?_, ?_, fun q q0 q1 => ?_, fun t t0 t1 => ?_, fun c c0 c1 => ?_, fun c c0 c1 => ?_, fun q r q0 q1 r0 r1 e1 e2 => ?_⟩
  · rw [su_ne (by omega)]; exact h0
  · rw [su_ne (by omega)]; exact h1
  · rw [su_ne (by omega)]; exact h2
  · rw [su_ne (by omega)]; exact h3
  · rw [su_ne (by omega)]; exact h4
  · rw [su_ne (by omega)]; exact h5
  · rw [su_ne (by omega)] at q1
    obtain ⟨a, b, c⟩ := hp q q0 q1
    have e1 : s_C (s_up n (6 + 3 * p + 2).toNat v) q = s_C n q := by rcases C q with e | e | e <;> first | exact e | omega
    rw [e1, s_cells_up (by omega)]
    refine ⟨by unfold s_K at a ⊢; rw [su_ne (by omega)]; exact a, ?_, ?_⟩
    · rcases b with b | ⟨b1, b2, b3⟩
      · exact Or.inl b
      · exact Or.inr ⟨b1, b2, by rw [H _ b1]; exact b3⟩
    · unfold s_V at c ⊢
      by_cases e : q = p
      · subst e; rw [su_eq]; exact ⟨v0, v1⟩
      · rw [su_ne (by omega)]; exact c
  · rw [su_ne (by omega)] at t1
    have := ht t t0 t1
    unfold s_A s_B s_L s_X at this ⊢
    rw [su_ne (by omega), su_ne (by omega), su_ne (by omega), su_ne (by omega), su_ne (by omega)]
    exact this
  · rw [H c c0]; exact hh c c0 c1
  · rw [s_cells_up (by omega)] at c0
    have hc9 := (s_cells_of ⟨h0, h1, h2, h3, h4, h5, hp, ht, hh, hz, hd⟩).1
    rw [H c (by omega)]; exact hz c c0 c1
  · rw [su_ne (by omega)] at q1 r1
    have e3 : s_C (s_up n (6 + 3 * p + 2).toNat v) q = s_C n q := by rcases C q with e | e | e <;> first | exact e | omega
    have e4 : s_C (s_up n (6 + 3 * p + 2).toNat v) r = s_C n r := by rcases C r with e | e | e <;> first | exact e | omega
    rw [e3, e4] at e1
    rw [e3] at e2
    exact hd q r q0 q1 r0 r1 e1 e2
theorem Vn_day (hV : Vn n) {v : Int} (v0 : 0 ≤ v) : Vn (s_up n 4 v) := by
  obtain ⟨h0, h1, h2, h3, h4, h5, hp, ht, hh, hz, hd⟩ := hV
  refine ⟨?_, ?_, ?_, ?_, ?_, ?_, fun q q0 q1 => ?_, fun t t0 t1 => ?_, fun c c0 c1 => ?_, fun c c0 c1 => ?_, fun q r q0 q1 r0 r1 e1 e2 => ?_⟩
  · rw [su_ne (by omega)]; exact h0
  · rw [su_ne (by omega)]; exact h1
  · rw [su_ne (by omega)]; exact h2
  · rw [su_ne (by omega)]; exact h3
  · rw [su_eq]; exact v0
  · rw [su_ne (by omega)]; exact h5
  · rw [su_ne (by omega)] at q1
    have := hp q q0 q1
    rw [s_cells_up (by omega)]
    obtain ⟨a, b, c⟩ := this
    unfold s_K s_C s_V s_H at *
    rw [su_ne (i := (6 + 3 * q).toNat) (by omega), su_ne (i := (6 + 3 * q + 1).toNat) (by omega), su_ne (i := (6 + 3 * q + 2).toNat) (by omega)]
    refine ⟨a, ?_, c⟩
    rcases b with b | ⟨b1, b2, b3⟩
    · exact Or.inl b
    · exact Or.inr ⟨b1, b2, by first | exact b3 | (rw [su_ne (by omega)]; exact b3)⟩
  · rw [su_ne (by omega)] at t1
    have := ht t t0 t1
    unfold s_A s_B s_L s_X at this ⊢
    rw [su_ne (by omega), su_ne (by omega), su_ne (by omega), su_ne (by omega), su_ne (by omega)]
    exact this
  · have := hh c c0 c1
    unfold s_H at this ⊢
    rw [su_ne (by omega)]; exact this
  · rw [s_cells_up (by omega)] at c0
    have hc9 := (s_cells_of ⟨h0, h1, h2, h3, h4, h5, hp, ht, hh, hz, hd⟩).1
    have := hz c c0 c1
    unfold s_H at this ⊢
    rw [su_ne (by omega)]; exact this
  · rw [su_ne (by omega)] at q1 r1
    unfold s_C at e1 e2
    rw [su_ne (by omega), su_ne (by omega)] at e1
    rw [su_ne (by omega)] at e2
    exact hd q r q0 q1 r0 r1 e1 e2
theorem Vn_sets (hV : Vn n) {p c : Int} (p0 : 0 ≤ p) (p1 : p < n 2) (c0 : 0 ≤ c) (c1 : c < s_cells n) (hc : ∀ q : Int, 0 ≤ q → q < n 2 → s_C n q ≠ c) : Vn (s_sets n p c) := by
  have hcl := s_cells_of hV
  obtain ⟨h0, h1, h2, h3, h4, h5, hp, ht, hh, hz, hd⟩ := hV
  have SC : s_cells (s_sets n p c) = s_cells n := by unfold s_sets; rw [s_cells_up (by omega), s_cells_up (by omega)]
  have S : ∀ i : Nat, i < 6 → s_sets n p c i = n i := fun i hi => by unfold s_sets; rw [su_ne (by omega), su_ne (by omega)]
  have HC : ∀ q : Int, 0 ≤ q → q < n 2 → s_C (s_sets n p c) q = if q = p then c else s_C n q := fun q q0 q1 => by
    unfold s_C s_sets
    rw [su_ne (by omega)]
    by_cases e : q = p
    · subst e; rw [su_eq, if_pos rfl]
    · rw [su_ne (by omega), if_neg e]
  have HH : ∀ d : Int, 0 ≤ d → s_H (s_sets n p c) d = if d = c then 0 else s_H n d := fun d d0 => by
    unfold s_H s_sets
    by_cases e : d = c
    · subst e; rw [su_eq, if_pos rfl]
    · rw [su_ne (by omega), su_ne (by omega), if_neg e]
  refine ⟨?_, ?_, ?_, ?_, ?_, ?_, fun q q0 q1 => ?_, fun t t0 t1 => ?_, fun d d0 d1 => ?_, fun d d0 d1 => ?_, fun q r q0 q1 r0 r1 e1 e2 => ?_⟩
  · rw [S 0 (by omega)]; exact h0
  · rw [S 1 (by omega)]; exact h1
  · rw [S 2 (by omega)]; exact h2
  · rw [S 3 (by omega)]; exact h3
  · rw [S 4 (by omega)]; exact h4
  · rw [S 5 (by omega)]; exact h5
  · rw [S 2 (by omega)] at q1
    obtain ⟨a, b, v⟩ := hp q q0 q1
    rw [SC, HC q q0 q1]
    refine ⟨by unfold s_K s_sets at *; rw [su_ne (by omega), su_ne (by omega)]; exact a, ?_, by unfold s_V s_sets at *; rw [su_ne (by omega), su_ne (by omega)]; exact v⟩
    by_cases e : q = p
    · rw [if_pos e]
      exact Or.inr ⟨c0, c1, by rw [HH c c0, if_pos rfl]⟩
    · rw [if_neg e]
      rcases b with b | ⟨b1, b2, b3⟩
      · exact Or.inl b
      · refine Or.inr ⟨b1, b2, ?_⟩
        rw [HH _ b1]
        split
        · rfl
        · exact b3
  · rw [S 3 (by omega)] at t1
    have := ht t t0 t1
    rw [S 2 (by omega)]
    unfold s_A s_B s_L s_X s_sets at *
    rw [su_ne (by omega), su_ne (by omega), su_ne (by omega), su_ne (by omega), su_ne (by omega), su_ne (by omega), su_ne (by omega), su_ne (by omega)]
    exact this
  · rw [HH d d0]
    split
    · exact Or.inl rfl
    · exact hh d d0 d1
  · rw [SC] at d0
    rw [HH d (by omega), if_neg (by omega)]
    exact hz d d0 d1
  · rw [S 2 (by omega)] at q1 r1
    rw [HC q q0 q1, HC r r0 r1] at e1
    rw [HC q q0 q1] at e2
    by_cases eq : q = p
    · by_cases er : r = p
      · rw [eq, er]
      · rw [if_pos eq, if_neg er] at e1
        exact absurd e1.symm (hc r r0 r1)
    · rw [if_neg eq] at e1 e2
      by_cases er : r = p
      · rw [if_pos er] at e1
        exact absurd e1 (hc q q0 q1)
      · rw [if_neg er] at e1
        exact hd q r q0 q1 r0 r1 e1 e2
/-- a hole opened -/
theorem Vn_open (hV : Vn n) {c : Int} (c0 : 0 ≤ c) (c1 : c < s_cells n) (hc : ∀ q : Int, 0 ≤ q → q < n 2 → s_C n q ≠ c) : Vn (s_up n (51 + c).toNat 1) := by
  have hcl := s_cells_of hV
  obtain ⟨h0, h1, h2, h3, h4, h5, hp, ht, hh, hz, hd⟩ := hV
  have HH : ∀ d : Int, 0 ≤ d → s_H (s_up n (51 + c).toNat 1) d = if d = c then 1 else s_H n d := fun d d0 => by
    unfold s_H
    by_cases e : d = c
    · subst e; rw [su_eq, if_pos rfl]
    · rw [su_ne (by omega), if_neg e]
  have HC : ∀ q : Int, 0 ≤ q → q < n 2 → s_C (s_up n (51 + c).toNat 1) q = s_C n q := fun q q0 q1 => by unfold s_C; rw [su_ne (by omega)]
  refine ⟨?_, ?_, ?_, ?_, ?_, ?_, fun q q0 q1 => ?_, fun t t0 t1 => ?_, fun d d0 d1 => ?_, fun d d0 d1 => ?_, fun q r q0 q1 r0 r1 e1 e2 => ?_⟩
  · rw [su_ne (by omega)]; exact h0
  · rw [su_ne (by omega)]; exact h1
  · rw [su_ne (by omega)]; exact h2
  · rw [su_ne (by omega)]; exact h3
  · rw [su_ne (by omega)]; exact h4
  · rw [su_ne (by omega)]; exact h5
  · rw [su_ne (by omega)] at q1
    obtain ⟨a, b, v⟩ := hp q q0 q1
    rw [s_cells_up (by omega), HC q q0 q1]
    refine ⟨by unfold s_K at *; rw [su_ne (by omega)]; exact a, ?_, by unfold s_V at *; rw [su_ne (by omega)]; exact v⟩
    rcases b with b | ⟨b1, b2, b3⟩
    · exact Or.inl b
    · refine Or.inr ⟨b1, b2, ?_⟩
      rw [HH _ b1, if_neg (hc q q0 q1)]
      exact b3
  · rw [su_ne (by omega)] at t1
    have := ht t t0 t1
    unfold s_A s_B s_L s_X at this ⊢
    rw [su_ne (by omega), su_ne (by omega), su_ne (by omega), su_ne (by omega), su_ne (by omega)]
    exact this
  · rw [HH d d0]
    split
    · exact Or.inr rfl
    · exact hh d d0 d1
  · rw [s_cells_up (by omega)] at d0
    rw [HH d (by omega), if_neg (by omega)]
    exact hz d d0 d1
  · rw [su_ne (by omega)] at q1 r1
    rw [HC q q0 q1, HC r r0 r1] at e1
    rw [HC q q0 q1] at e2
    exact hd q r q0 q1 r0 r1 e1 e2

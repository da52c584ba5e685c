/-! The law's loop: a case each, and the end. -/
variable {E : am_E} {u : am_M} {i : Nat} {S : am_S}
theorem wl1 (h : i ≤ 1000) : w32 ((i : Int) + 1) = ((i + 1 : Nat) : Int) := by rw [w32_of (by omega) (by omega)]; omega
theorem wl2 (h : i ≤ 1000) : w32 ((i : Int) + 2) = ((i + 2 : Nat) : Int) := by rw [w32_of (by omega) (by omega)]; omega
theorem wl3 (h : i ≤ 1000) : w32 ((i : Int) + 3) = ((i + 3 : Nat) : Int) := by rw [w32_of (by omega) (by omega)]; omega
theorem wl4 (h : i ≤ 1000) : w32 ((i : Int) + 4) = ((i + 4 : Nat) : Int) := by rw [w32_of (by omega) (by omega)]; omega
theorem wl5 (h : i ≤ 1000) : w32 ((i : Int) + 5) = ((i + 5 : Nat) : Int) := by rw [w32_of (by omega) (by omega)]; omega
theorem wl6 (h : i ≤ 1000) : w32 ((i : Int) + 6) = ((i + 6 : Nat) : Int) := by rw [w32_of (by omega) (by omega)]; omega
theorem wl7 (h : i ≤ 1000) : w32 ((i : Int) + 7) = ((i + 7 : Nat) : Int) := by rw [w32_of (by omega) (by omega)]; omega
theorem x32 {x : Int} (h : in32 x) : -2147483648 ≤ x ∧ x ≤ 2147483647 := by unfold in32 at h; omega
abbrev LCs (E : am_E) (u : am_M) (i p : Nat) : Prop := ∃ S' u', Rn m_L_law p [vB true, vR (some 0), vR (some 149), vI (i : Int)] [] E u = Rn m_L_law 1449 [vB true, vR (some 0), vR (some 149), vI (i : Int)] [] E u' ∧ OKS S' ∧ CS E u' S' ∧ MS E u' S'
theorem q_196 (hE : SE E) (hS : OKS S) (hc : CS E u S) (hm : MS E u S) (h7 : i + 7 ≤ E.2.2.1) (hi : i ≤ 1000) (hx : ∀ j, in32 (E.2.2.2 j)) : LCs E u i 196 := by
  obtain ⟨v, S', u1, u2, e1, e2, hS', hc', hm'⟩ := (k_cushion hE hS (E.2.2.2 (i + 1)) (E.2.2.2 (i + 2))).run hc hm
  refine ⟨S', u2, ?_, hS', hc', hm'⟩
  simp (disch := first | assumption | omega) only [↓reduceIte, x_L_law_196, wl1 hi, wl2 hi, Int.toNat_natCast, e1, e2, bdI_s]
theorem q_229 (hE : SE E) (hS : OKS S) (hc : CS E u S) (hm : MS E u S) (h7 : i + 7 ≤ E.2.2.1) (hi : i ≤ 1000) (hx : ∀ j, in32 (E.2.2.2 j)) : LCs E u i 229 := by
  obtain ⟨v, S', u1, u2, e1, e2, hS', hc', hm'⟩ := (k_pin hE hS (E.2.2.2 (i + 1)) (E.2.2.2 (i + 2))).run hc hm
  refine ⟨S', u2, ?_, hS', hc', hm'⟩
  simp (disch := first | assumption | omega) only [↓reduceIte, x_L_law_229, wl1 hi, wl2 hi, Int.toNat_natCast, e1, e2, bdI_s]
theorem q_262 (hE : SE E) (hS : OKS S) (hc : CS E u S) (hm : MS E u S) (h7 : i + 7 ≤ E.2.2.1) (hi : i ≤ 1000) (hx : ∀ j, in32 (E.2.2.2 j)) : LCs E u i 262 := by
  obtain ⟨v, S', u1, u2, e1, e2, hS', hc', hm'⟩ := (k_thread hE hS (E.2.2.2 (i + 1)) (E.2.2.2 (i + 2)) (E.2.2.2 (i + 3))).run hc hm
  refine ⟨S', u2, ?_, hS', hc', hm'⟩
  simp (disch := first | assumption | omega) only [↓reduceIte, x_L_law_262, wl1 hi, wl2 hi, wl3 hi, Int.toNat_natCast, e1, e2, bdI_s]
theorem q_305 (hE : SE E) (hS : OKS S) (hc : CS E u S) (hm : MS E u S) (h7 : i + 7 ≤ E.2.2.1) (hi : i ≤ 1000) (hx : ∀ j, in32 (E.2.2.2 j)) : LCs E u i 305 := by
  obtain ⟨v, S', u1, u2, e1, e2, hS', hc', hm'⟩ := (k_of hE hS (E.2.2.2 (i + 1)) (E.2.2.2 (i + 2))).run hc hm
  refine ⟨S', u2, ?_, hS', hc', hm'⟩
  simp (disch := first | assumption | omega) only [↓reduceIte, x_L_law_305, wl1 hi, wl2 hi, Int.toNat_natCast, e1, e2, bdI_s]
theorem q_338 (hE : SE E) (hS : OKS S) (hc : CS E u S) (hm : MS E u S) (h7 : i + 7 ≤ E.2.2.1) (hi : i ≤ 1000) (hx : ∀ j, in32 (E.2.2.2 j)) : LCs E u i 338 := by
  obtain ⟨v, S', u1, u2, e1, e2, hS', hc', hm'⟩ := (k_at hE hS (E.2.2.2 (i + 1)) (E.2.2.2 (i + 2))).run hc hm
  refine ⟨S', u2, ?_, hS', hc', hm'⟩
  simp (disch := first | assumption | omega) only [↓reduceIte, x_L_law_338, wl1 hi, wl2 hi, Int.toNat_natCast, e1, e2, bdI_s]
theorem q_371 (hE : SE E) (hS : OKS S) (hc : CS E u S) (hm : MS E u S) (h7 : i + 7 ≤ E.2.2.1) (hi : i ≤ 1000) (hx : ∀ j, in32 (E.2.2.2 j)) : LCs E u i 371 := by
  obtain ⟨v, S', u1, u2, e1, e2, hS', hc', hm'⟩ := (k_cell hE hS (E.2.2.2 (i + 1))).run hc hm
  refine ⟨S', u2, ?_, hS', hc', hm'⟩
  simp (disch := first | assumption | omega) only [↓reduceIte, x_L_law_371, wl1 hi, Int.toNat_natCast, e1, e2, bdI_s]
theorem q_394 (hE : SE E) (hS : OKS S) (hc : CS E u S) (hm : MS E u S) (h7 : i + 7 ≤ E.2.2.1) (hi : i ≤ 1000) (hx : ∀ j, in32 (E.2.2.2 j)) : LCs E u i 394 := by
  obtain ⟨v, S', u1, u2, e1, e2, hS', hc', hm'⟩ := (k_type hE hS (E.2.2.2 (i + 1))).run hc hm
  refine ⟨S', u2, ?_, hS', hc', hm'⟩
  simp (disch := first | assumption | omega) only [↓reduceIte, x_L_law_394, wl1 hi, Int.toNat_natCast, e1, e2, bdI_s]
theorem q_417 (hE : SE E) (hS : OKS S) (hc : CS E u S) (hm : MS E u S) (h7 : i + 7 ≤ E.2.2.1) (hi : i ≤ 1000) (hx : ∀ j, in32 (E.2.2.2 j)) : LCs E u i 417 := by
  obtain ⟨v, S', u1, u2, e1, e2, hS', hc', hm'⟩ := (k_read hE hS).run hc hm
  refine ⟨S', u2, ?_, hS', hc', hm'⟩
  simp (disch := first | assumption | omega) only [↓reduceIte, x_L_law_417, Int.toNat_natCast, e1, e2, bdI_s]
theorem q_430 (hE : SE E) (hS : OKS S) (hc : CS E u S) (hm : MS E u S) (h7 : i + 7 ≤ E.2.2.1) (hi : i ≤ 1000) (hx : ∀ j, in32 (E.2.2.2 j)) : LCs E u i 430 := by
  obtain ⟨v, S', u1, u2, e1, e2, hS', hc', hm'⟩ := (k_count hE hS (E.2.2.2 (i + 1))).run hc hm
  refine ⟨S', u2, ?_, hS', hc', hm'⟩
  simp (disch := first | assumption | omega) only [↓reduceIte, x_L_law_430, wl1 hi, Int.toNat_natCast, e1, e2, bdI_s]
theorem q_453 (hE : SE E) (hS : OKS S) (hc : CS E u S) (hm : MS E u S) (h7 : i + 7 ≤ E.2.2.1) (hi : i ≤ 1000) (hx : ∀ j, in32 (E.2.2.2 j)) : LCs E u i 453 := by
  obtain ⟨v, S', u1, u2, e1, e2, hS', hc', hm'⟩ := (k_days hE hS (m := E.2.2.2 (i + 1))).run hc hm
  refine ⟨S', u2, ?_, hS', hc', hm'⟩
  simp (disch := first | assumption | omega) only [↓reduceIte, x_L_law_453, wl1 hi, Int.toNat_natCast, e1, e2, bdI_s]
theorem q_476 (hE : SE E) (hS : OKS S) (hc : CS E u S) (hm : MS E u S) (h7 : i + 7 ≤ E.2.2.1) (hi : i ≤ 1000) (hx : ∀ j, in32 (E.2.2.2 j)) : LCs E u i 476 := by
  obtain ⟨v, S', u1, u2, e1, e2, hS', hc', hm'⟩ := (k_out hE hS (E.2.2.2 (i + 1))).run hc hm
  refine ⟨S', u2, ?_, hS', hc', hm'⟩
  simp (disch := first | assumption | omega) only [↓reduceIte, x_L_law_476, wl1 hi, Int.toNat_natCast, e1, e2, bdI_s]
theorem q_499 (hE : SE E) (hS : OKS S) (hc : CS E u S) (hm : MS E u S) (h7 : i + 7 ≤ E.2.2.1) (hi : i ≤ 1000) (hx : ∀ j, in32 (E.2.2.2 j)) : LCs E u i 499 := by
  obtain ⟨v, S', u1, u2, e1, e2, hS', hc', hm'⟩ := (k_put hE hS (E.2.2.2 (i + 1)) (E.2.2.2 (i + 2))).run hc hm
  refine ⟨S', u2, ?_, hS', hc', hm'⟩
  simp (disch := first | assumption | omega) only [↓reduceIte, x_L_law_499, wl1 hi, wl2 hi, Int.toNat_natCast, e1, e2, bdI_s]
theorem q_532 (hE : SE E) (hS : OKS S) (hc : CS E u S) (hm : MS E u S) (h7 : i + 7 ≤ E.2.2.1) (hi : i ≤ 1000) (hx : ∀ j, in32 (E.2.2.2 j)) : LCs E u i 532 := by
  obtain ⟨v, S', u1, u2, e1, e2, hS', hc', hm'⟩ := (k_cut hE hS (E.2.2.2 (i + 1))).run hc hm
  refine ⟨S', u2, ?_, hS', hc', hm'⟩
  simp (disch := first | assumption | omega) only [↓reduceIte, x_L_law_532, wl1 hi, Int.toNat_natCast, e1, e2, bdI_s]
theorem q_555 (hE : SE E) (hS : OKS S) (hc : CS E u S) (hm : MS E u S) (h7 : i + 7 ≤ E.2.2.1) (hi : i ≤ 1000) (hx : ∀ j, in32 (E.2.2.2 j)) : LCs E u i 555 := by
  obtain ⟨v, S', u1, u2, e1, e2, hS', hc', hm'⟩ := (k_course hE hS (E.2.2.2 (i + 1)) (E.2.2.2 (i + 2))).run hc hm
  refine ⟨S', u2, ?_, hS', hc', hm'⟩
  simp (disch := first | assumption | omega) only [↓reduceIte, x_L_law_555, wl1 hi, wl2 hi, Int.toNat_natCast, e1, e2, bdI_s]
theorem q_588 (hE : SE E) (hS : OKS S) (hc : CS E u S) (hm : MS E u S) (h7 : i + 7 ≤ E.2.2.1) (hi : i ≤ 1000) (hx : ∀ j, in32 (E.2.2.2 j)) : LCs E u i 588 := by
  obtain ⟨v, S', u1, u2, e1, e2, hS', hc', hm'⟩ := (k_drift hE hS (m := E.2.2.2 (i + 1))).run hc hm
  refine ⟨S', u2, ?_, hS', hc', hm'⟩
  simp (disch := first | assumption | omega) only [↓reduceIte, x_L_law_588, wl1 hi, Int.toNat_natCast, e1, e2, bdI_s]
theorem q_611 (hE : SE E) (hS : OKS S) (hc : CS E u S) (hm : MS E u S) (h7 : i + 7 ≤ E.2.2.1) (hi : i ≤ 1000) (hx : ∀ j, in32 (E.2.2.2 j)) : LCs E u i 611 := by
  obtain ⟨v, S', u1, u2, e1, e2, hS', hc', hm'⟩ := (k_undo hE hS).run hc hm
  refine ⟨S', u2, ?_, hS', hc', hm'⟩
  simp (disch := first | assumption | omega) only [↓reduceIte, x_L_law_611, Int.toNat_natCast, e1, e2, bdI_s]
theorem q_624 (hE : SE E) (hS : OKS S) (hc : CS E u S) (hm : MS E u S) (h7 : i + 7 ≤ E.2.2.1) (hi : i ≤ 1000) (hx : ∀ j, in32 (E.2.2.2 j)) : LCs E u i 624 := by
  obtain ⟨v, S', u1, u2, e1, e2, hS', hc', hm'⟩ := (k_seed hE hS (v := E.2.2.2 (i + 1)) (x32 (hx _)).2).run hc hm
  refine ⟨S', u2, ?_, hS', hc', hm'⟩
  simp (disch := first | assumption | omega) only [↓reduceIte, x_L_law_624, wl1 hi, Int.toNat_natCast, e1, e2, bdI_s]
theorem q_647 (hE : SE E) (hS : OKS S) (hc : CS E u S) (hm : MS E u S) (h7 : i + 7 ≤ E.2.2.1) (hi : i ≤ 1000) (hx : ∀ j, in32 (E.2.2.2 j)) : LCs E u i 647 := by
  obtain ⟨v, S', u1, u2, e1, e2, hS', hc', hm'⟩ := (k_ahead hE hS (E.2.2.2 (i + 1)) (E.2.2.2 (i + 2))).run hc hm
  refine ⟨S', u2, ?_, hS', hc', hm'⟩
  simp (disch := first | assumption | omega) only [↓reduceIte, x_L_law_647, wl1 hi, wl2 hi, Int.toNat_natCast, e1, e2, bdI_s]
theorem q_680 (hE : SE E) (hS : OKS S) (hc : CS E u S) (hm : MS E u S) (h7 : i + 7 ≤ E.2.2.1) (hi : i ≤ 1000) (hx : ∀ j, in32 (E.2.2.2 j)) : LCs E u i 680 := by
  obtain ⟨v, S', u1, u2, e1, e2, hS', hc', hm'⟩ := (k_holes hE hS (E.2.2.2 (i + 1))).run hc hm
  refine ⟨S', u2, ?_, hS', hc', hm'⟩
  simp (disch := first | assumption | omega) only [↓reduceIte, x_L_law_680, wl1 hi, Int.toNat_natCast, e1, e2, bdI_s]
theorem q_703 (hE : SE E) (hS : OKS S) (hc : CS E u S) (hm : MS E u S) (h7 : i + 7 ≤ E.2.2.1) (hi : i ≤ 1000) (hx : ∀ j, in32 (E.2.2.2 j)) : LCs E u i 703 := by
  obtain ⟨v, S', u1, u2, e1, e2, hS', hc', hm'⟩ := (k_comes hE hS (E.2.2.2 (i + 1)) (E.2.2.2 (i + 2))).run hc hm
  refine ⟨S', u2, ?_, hS', hc', hm'⟩
  simp (disch := first | assumption | omega) only [↓reduceIte, x_L_law_703, wl1 hi, wl2 hi, Int.toNat_natCast, e1, e2, bdI_s]
theorem q_736 (hE : SE E) (hS : OKS S) (hc : CS E u S) (hm : MS E u S) (h7 : i + 7 ≤ E.2.2.1) (hi : i ≤ 1000) (hx : ∀ j, in32 (E.2.2.2 j)) : LCs E u i 736 := by
  obtain ⟨v, S', u1, u2, e1, e2, hS', hc', hm'⟩ := (k_side hE hS (E.2.2.2 (i + 1)) (E.2.2.2 (i + 2))).run hc hm
  refine ⟨S', u2, ?_, hS', hc', hm'⟩
  simp (disch := first | assumption | omega) only [↓reduceIte, x_L_law_736, wl1 hi, wl2 hi, Int.toNat_natCast, e1, e2, bdI_s]
theorem q_769 (hE : SE E) (hS : OKS S) (hc : CS E u S) (hm : MS E u S) (h7 : i + 7 ≤ E.2.2.1) (hi : i ≤ 1000) (hx : ∀ j, in32 (E.2.2.2 j)) : LCs E u i 769 := by
  obtain ⟨v, S', u1, u2, e1, e2, hS', hc', hm'⟩ := (k_hole hE hS (E.2.2.2 (i + 1)) (E.2.2.2 (i + 2)) (E.2.2.2 (i + 3))).run hc hm
  refine ⟨S', u2, ?_, hS', hc', hm'⟩
  simp (disch := first | assumption | omega) only [↓reduceIte, x_L_law_769, wl1 hi, wl2 hi, wl3 hi, Int.toNat_natCast, e1, e2, bdI_s]
theorem q_812 (hE : SE E) (hS : OKS S) (hc : CS E u S) (hm : MS E u S) (h7 : i + 7 ≤ E.2.2.1) (hi : i ≤ 1000) (hx : ∀ j, in32 (E.2.2.2 j)) : LCs E u i 812 := by
  obtain ⟨v, S', u1, u2, e1, e2, hS', hc', hm'⟩ := (k_cuts hE hS (E.2.2.2 (i + 1)) (E.2.2.2 (i + 2)) (E.2.2.2 (i + 3))).run hc hm
  refine ⟨S', u2, ?_, hS', hc', hm'⟩
  simp (disch := first | assumption | omega) only [↓reduceIte, x_L_law_812, wl1 hi, wl2 hi, wl3 hi, Int.toNat_natCast, e1, e2, bdI_s]
theorem q_855 (hE : SE E) (hS : OKS S) (hc : CS E u S) (hm : MS E u S) (h7 : i + 7 ≤ E.2.2.1) (hi : i ≤ 1000) (hx : ∀ j, in32 (E.2.2.2 j)) : LCs E u i 855 := by
  obtain ⟨v, S', u1, u2, e1, e2, hS', hc', hm'⟩ := (k_place hE hS (E.2.2.2 (i + 1)) (E.2.2.2 (i + 2)) (E.2.2.2 (i + 3))).run hc hm
  refine ⟨S', u2, ?_, hS', hc', hm'⟩
  simp (disch := first | assumption | omega) only [↓reduceIte, x_L_law_855, wl1 hi, wl2 hi, wl3 hi, Int.toNat_natCast, e1, e2, bdI_s]
theorem q_898 (hE : SE E) (hS : OKS S) (hc : CS E u S) (hm : MS E u S) (h7 : i + 7 ≤ E.2.2.1) (hi : i ≤ 1000) (hx : ∀ j, in32 (E.2.2.2 j)) : LCs E u i 898 := by
  obtain ⟨v, S', u1, u2, e1, e2, hS', hc', hm'⟩ := (k_nearest hE hS (E.2.2.2 (i + 1)) (E.2.2.2 (i + 2))).run hc hm
  refine ⟨S', u2, ?_, hS', hc', hm'⟩
  simp (disch := first | assumption | omega) only [↓reduceIte, x_L_law_898, wl1 hi, wl2 hi, Int.toNat_natCast, e1, e2, bdI_s]
theorem q_931 (hE : SE E) (hS : OKS S) (hc : CS E u S) (hm : MS E u S) (h7 : i + 7 ≤ E.2.2.1) (hi : i ≤ 1000) (hx : ∀ j, in32 (E.2.2.2 j)) : LCs E u i 931 := by
  obtain ⟨v, S', u1, u2, e1, e2, hS', hc', hm'⟩ := (k_bound hE hS (E.2.2.2 (i + 1))).run hc hm
  refine ⟨S', u2, ?_, hS', hc', hm'⟩
  simp (disch := first | assumption | omega) only [↓reduceIte, x_L_law_931, wl1 hi, Int.toNat_natCast, e1, e2, bdI_s]
theorem q_954 (hE : SE E) (hS : OKS S) (hc : CS E u S) (hm : MS E u S) (h7 : i + 7 ≤ E.2.2.1) (hi : i ≤ 1000) (hx : ∀ j, in32 (E.2.2.2 j)) : LCs E u i 954 := by
  obtain ⟨v, S', u1, u2, e1, e2, hS', hc', hm'⟩ := (k_between hE hS (E.2.2.2 (i + 1)) (E.2.2.2 (i + 2))).run hc hm
  refine ⟨S', u2, ?_, hS', hc', hm'⟩
  simp (disch := first | assumption | omega) only [↓reduceIte, x_L_law_954, wl1 hi, wl2 hi, Int.toNat_natCast, e1, e2, bdI_s]
theorem q_987 (hE : SE E) (hS : OKS S) (hc : CS E u S) (hm : MS E u S) (h7 : i + 7 ≤ E.2.2.1) (hi : i ≤ 1000) (hx : ∀ j, in32 (E.2.2.2 j)) : LCs E u i 987 := by
  obtain ⟨v, S', u1, u2, e1, e2, hS', hc', hm'⟩ := (k_which hE hS (E.2.2.2 (i + 1))).run hc hm
  refine ⟨S', u2, ?_, hS', hc', hm'⟩
  simp (disch := first | assumption | omega) only [↓reduceIte, x_L_law_987, wl1 hi, Int.toNat_natCast, e1, e2, bdI_s]
theorem q_1010 (hE : SE E) (hS : OKS S) (hc : CS E u S) (hm : MS E u S) (h7 : i + 7 ≤ E.2.2.1) (hi : i ≤ 1000) (hx : ∀ j, in32 (E.2.2.2 j)) : LCs E u i 1010 := by
  obtain ⟨v, S', u1, u2, e1, e2, hS', hc', hm'⟩ := (k_breaks hE hS (E.2.2.2 (i + 1)) (E.2.2.2 (i + 2)) (E.2.2.2 (i + 3)) (E.2.2.2 (i + 4)) (E.2.2.2 (i + 5))).run hc hm
  refine ⟨S', u2, ?_, hS', hc', hm'⟩
  simp (disch := first | assumption | omega) only [↓reduceIte, x_L_law_1010, wl1 hi, wl2 hi, wl3 hi, wl4 hi, wl5 hi, Int.toNat_natCast, e1, e2, bdI_s]
theorem q_1073 (hE : SE E) (hS : OKS S) (hc : CS E u S) (hm : MS E u S) (h7 : i + 7 ≤ E.2.2.1) (hi : i ≤ 1000) (hx : ∀ j, in32 (E.2.2.2 j)) : LCs E u i 1073 := by
  obtain ⟨v, S', u1, u2, e1, e2, hS', hc', hm'⟩ := (k_image hE hS).run hc hm
  refine ⟨S', u2, ?_, hS', hc', hm'⟩
  simp (disch := first | assumption | omega) only [↓reduceIte, x_L_law_1073, Int.toNat_natCast, e1, e2, bdI_s]
theorem q_1086 (hE : SE E) (hS : OKS S) (hc : CS E u S) (hm : MS E u S) (h7 : i + 7 ≤ E.2.2.1) (hi : i ≤ 1000) (hx : ∀ j, in32 (E.2.2.2 j)) : LCs E u i 1086 := by
  obtain ⟨v, S', u1, u2, e1, e2, hS', hc', hm'⟩ := (k_restore hE hS).run hc hm
  refine ⟨S', u2, ?_, hS', hc', hm'⟩
  simp (disch := first | assumption | omega) only [↓reduceIte, x_L_law_1086, Int.toNat_natCast, e1, e2, bdI_s]
theorem q_1099 (hE : SE E) (hS : OKS S) (hc : CS E u S) (hm : MS E u S) (h7 : i + 7 ≤ E.2.2.1) (hi : i ≤ 1000) (hx : ∀ j, in32 (E.2.2.2 j)) : LCs E u i 1099 := by
  obtain ⟨v, S', u1, u2, e1, e2, hS', hc', hm'⟩ := (k_felt hE hS (E.2.2.2 (i + 1)) (E.2.2.2 (i + 2)) (E.2.2.2 (i + 3)) (E.2.2.2 (i + 4)) (E.2.2.2 (i + 5)) (E.2.2.2 (i + 6)) (x32 (hx _))).run hc hm
  refine ⟨S', u2, ?_, hS', hc', hm'⟩
  simp (disch := first | assumption | omega) only [↓reduceIte, x_L_law_1099, wl1 hi, wl2 hi, wl3 hi, wl4 hi, wl5 hi, wl6 hi, Int.toNat_natCast, e1, e2, bdI_s]
theorem q_1174 (hE : SE E) (hS : OKS S) (hc : CS E u S) (hm : MS E u S) (h7 : i + 7 ≤ E.2.2.1) (hi : i ≤ 1000) (hx : ∀ j, in32 (E.2.2.2 j)) : LCs E u i 1174 := by
  obtain ⟨v, S', u1, u2, e1, e2, hS', hc', hm'⟩ := (k_film hE hS (E.2.2.2 (i + 1)) (E.2.2.2 (i + 2)) (E.2.2.2 (i + 3)) (E.2.2.2 (i + 4)) (E.2.2.2 (i + 5)) (x32 (hx _))).run hc hm
  refine ⟨S', u2, ?_, hS', hc', hm'⟩
  simp (disch := first | assumption | omega) only [↓reduceIte, x_L_law_1174, wl1 hi, wl2 hi, wl3 hi, wl4 hi, wl5 hi, Int.toNat_natCast, e1, e2, bdI_s]
theorem q_1237 (hE : SE E) (hS : OKS S) (hc : CS E u S) (hm : MS E u S) (h7 : i + 7 ≤ E.2.2.1) (hi : i ≤ 1000) (hx : ∀ j, in32 (E.2.2.2 j)) : LCs E u i 1237 := by
  obtain ⟨v, S', u1, u2, e1, e2, hS', hc', hm'⟩ := (k_sheet hE hS (E.2.2.2 (i + 1)) (E.2.2.2 (i + 2)) (E.2.2.2 (i + 3))).run hc hm
  refine ⟨S', u2, ?_, hS', hc', hm'⟩
  simp (disch := first | assumption | omega) only [↓reduceIte, x_L_law_1237, wl1 hi, wl2 hi, wl3 hi, Int.toNat_natCast, e1, e2, bdI_s]
theorem q_1280 (hE : SE E) (hS : OKS S) (hc : CS E u S) (hm : MS E u S) (h7 : i + 7 ≤ E.2.2.1) (hi : i ≤ 1000) (hx : ∀ j, in32 (E.2.2.2 j)) : LCs E u i 1280 := by
  obtain ⟨v, S', u1, u2, e1, e2, hS', hc', hm'⟩ := (k_drop hE hS (E.2.2.2 (i + 1))).run hc hm
  refine ⟨S', u2, ?_, hS', hc', hm'⟩
  simp (disch := first | assumption | omega) only [↓reduceIte, x_L_law_1280, wl1 hi, Int.toNat_natCast, e1, e2, bdI_s]
theorem q_1303 (hE : SE E) (hS : OKS S) (hc : CS E u S) (hm : MS E u S) (h7 : i + 7 ≤ E.2.2.1) (hi : i ≤ 1000) (hx : ∀ j, in32 (E.2.2.2 j)) : LCs E u i 1303 := by
  obtain ⟨v, S', u1, u2, e1, e2, hS', hc', hm'⟩ := (k_item hE hS (E.2.2.2 (i + 1)) (E.2.2.2 (i + 2)) (E.2.2.2 (i + 3)) (l_or (l_shl (E.2.2.2 (i + 4)) 32) (l_and (E.2.2.2 (i + 5)) 4294967295)) (x32 (hx _))).run hc hm
  refine ⟨S', u2, ?_, hS', hc', hm'⟩
  simp (disch := first | assumption | omega) only [↓reduceIte, x_L_law_1303, wl1 hi, wl2 hi, wl3 hi, wl4 hi, wl5 hi, Int.toNat_natCast, e1, e2, bdI_s]
theorem q_1386 (hE : SE E) (hS : OKS S) (hc : CS E u S) (hm : MS E u S) (h7 : i + 7 ≤ E.2.2.1) (hi : i ≤ 1000) (hx : ∀ j, in32 (E.2.2.2 j)) : LCs E u i 1386 := by
  obtain ⟨v, S', u1, u2, e1, e2, hS', hc', hm'⟩ := (k_copy hE hS (E.2.2.2 (i + 1)) (E.2.2.2 (i + 2)) (E.2.2.2 (i + 3)) (E.2.2.2 (i + 4)) (E.2.2.2 (i + 5)) (x32 (hx _)) (x32 (hx _)) (x32 (hx _))).run hc hm
  refine ⟨S', u2, ?_, hS', hc', hm'⟩
  simp (disch := first | assumption | omega) only [↓reduceIte, x_L_law_1386, wl1 hi, wl2 hi, wl3 hi, wl4 hi, wl5 hi, Int.toNat_natCast, e1, e2, bdI_s]
theorem L_case (hE : SE E) (hS : OKS S) (hc : CS E u S) (hm : MS E u S) (h7 : i + 7 ≤ E.2.2.1) (hi : i ≤ 1000) (hx : ∀ j, in32 (E.2.2.2 j)) {a : Int} : ∃ S' u', Rn m_L_law 33 [vB true, vR (some 0), vR (some 149), vI (i : Int)] [vI a] E u = Rn m_L_law 1449 [vB true, vR (some 0), vR (some 149), vI (i : Int)] [] E u' ∧ OKS S' ∧ CS E u' S' ∧ MS E u' S' := by
  rw [x_L_law.2.2.2.2.2.2.2.2.2.2.2.2.2.2.2.2.2.2.2.2.2.2]
  by_cases ha0 : a = 0
  · rw [if_pos ha0]; exact q_196 hE hS hc hm h7 hi hx
  rw [if_neg ha0]
  by_cases ha1 : a = 1
  · rw [if_pos ha1]; exact q_229 hE hS hc hm h7 hi hx
  rw [if_neg ha1]
  by_cases ha2 : a = 2
  · rw [if_pos ha2]; exact q_262 hE hS hc hm h7 hi hx
  rw [if_neg ha2]
  by_cases ha3 : a = 3
  · rw [if_pos ha3]; exact q_305 hE hS hc hm h7 hi hx
  rw [if_neg ha3]
  by_cases ha4 : a = 4
  · rw [if_pos ha4]; exact q_338 hE hS hc hm h7 hi hx
  rw [if_neg ha4]
  by_cases ha5 : a = 5
  · rw [if_pos ha5]; exact q_371 hE hS hc hm h7 hi hx
  rw [if_neg ha5]
  by_cases ha6 : a = 6
  · rw [if_pos ha6]; exact q_394 hE hS hc hm h7 hi hx
  rw [if_neg ha6]
  by_cases ha7 : a = 7
  · rw [if_pos ha7]; exact q_417 hE hS hc hm h7 hi hx
  rw [if_neg ha7]
  by_cases ha8 : a = 8
  · rw [if_pos ha8]; exact q_430 hE hS hc hm h7 hi hx
  rw [if_neg ha8]
  by_cases ha9 : a = 9
  · rw [if_pos ha9]; exact q_453 hE hS hc hm h7 hi hx
  rw [if_neg ha9]
  by_cases ha10 : a = 10
  · rw [if_pos ha10]; exact q_476 hE hS hc hm h7 hi hx
  rw [if_neg ha10]
  by_cases ha11 : a = 11
  · rw [if_pos ha11]; exact q_499 hE hS hc hm h7 hi hx
  rw [if_neg ha11]
  by_cases ha12 : a = 12
  · rw [if_pos ha12]; exact q_532 hE hS hc hm h7 hi hx
  rw [if_neg ha12]
  by_cases ha13 : a = 13
  · rw [if_pos ha13]; exact q_555 hE hS hc hm h7 hi hx
  rw [if_neg ha13]
  by_cases ha14 : a = 14
  · rw [if_pos ha14]; exact q_588 hE hS hc hm h7 hi hx
  rw [if_neg ha14]
  by_cases ha15 : a = 15
  · rw [if_pos ha15]; exact q_611 hE hS hc hm h7 hi hx
  rw [if_neg ha15]
  by_cases ha16 : a = 16
  · rw [if_pos ha16]; exact q_624 hE hS hc hm h7 hi hx
  rw [if_neg ha16]
  by_cases ha17 : a = 17
  · rw [if_pos ha17]; exact q_647 hE hS hc hm h7 hi hx
  rw [if_neg ha17]
  by_cases ha18 : a = 18
  · rw [if_pos ha18]; exact q_680 hE hS hc hm h7 hi hx
  rw [if_neg ha18]
  by_cases ha19 : a = 19
  · rw [if_pos ha19]; exact q_703 hE hS hc hm h7 hi hx
  rw [if_neg ha19]
  by_cases ha20 : a = 20
  · rw [if_pos ha20]; exact q_736 hE hS hc hm h7 hi hx
  rw [if_neg ha20]
  by_cases ha21 : a = 21
  · rw [if_pos ha21]; exact q_769 hE hS hc hm h7 hi hx
  rw [if_neg ha21]
  by_cases ha22 : a = 22
  · rw [if_pos ha22]; exact q_812 hE hS hc hm h7 hi hx
  rw [if_neg ha22]
  by_cases ha23 : a = 23
  · rw [if_pos ha23]; exact q_855 hE hS hc hm h7 hi hx
  rw [if_neg ha23]
  by_cases ha24 : a = 24
  · rw [if_pos ha24]; exact q_898 hE hS hc hm h7 hi hx
  rw [if_neg ha24]
  by_cases ha25 : a = 25
  · rw [if_pos ha25]; exact q_931 hE hS hc hm h7 hi hx
  rw [if_neg ha25]
  by_cases ha26 : a = 26
  · rw [if_pos ha26]; exact q_954 hE hS hc hm h7 hi hx
  rw [if_neg ha26]
  by_cases ha27 : a = 27
  · rw [if_pos ha27]; exact q_987 hE hS hc hm h7 hi hx
  rw [if_neg ha27]
  by_cases ha28 : a = 28
  · rw [if_pos ha28]; exact q_1010 hE hS hc hm h7 hi hx
  rw [if_neg ha28]
  by_cases ha29 : a = 29
  · rw [if_pos ha29]; exact q_1073 hE hS hc hm h7 hi hx
  rw [if_neg ha29]
  by_cases ha30 : a = 30
  · rw [if_pos ha30]; exact q_1086 hE hS hc hm h7 hi hx
  rw [if_neg ha30]
  by_cases ha31 : a = 31
  · rw [if_pos ha31]; exact q_1099 hE hS hc hm h7 hi hx
  rw [if_neg ha31]
  by_cases ha32 : a = 32
  · rw [if_pos ha32]; exact q_1174 hE hS hc hm h7 hi hx
  rw [if_neg ha32]
  by_cases ha33 : a = 33
  · rw [if_pos ha33]; exact q_1237 hE hS hc hm h7 hi hx
  rw [if_neg ha33]
  by_cases ha34 : a = 34
  · rw [if_pos ha34]; exact q_1280 hE hS hc hm h7 hi hx
  rw [if_neg ha34]
  by_cases ha35 : a = 35
  · rw [if_pos ha35]; exact q_1303 hE hS hc hm h7 hi hx
  rw [if_neg ha35]
  by_cases ha36 : a = 36
  · rw [if_pos ha36]; exact q_1386 hE hS hc hm h7 hi hx
  rw [if_neg ha36]
  exact ⟨S, u, rfl, hS, hc, hm⟩
theorem L_end (h : E.2.2.1 < i + 7) (hL : E.2.2.1 ≤ 448) : Rn m_L_law 18 [vB true, vR (some 0), vR (some 149), vI (i : Int)] [] E u = some (some (vI 1), E, u) := by
  rw [h_L_law_18, x_L_law.2.2.2.2.2.2.2.2.2.2.2.2.1, x_L_law.2.2.2.2.2.2.2.2.2.2.2.2.2.1, x_L_law.2.2.2.2.2.2.2.2.2.2.2.2.2.2.1, x_L_law.2.2.2.2.2.2.2.2.2.2.2.2.2.2.2.1, w32_of (by omega) (by omega), x_L_law.2.2.2.2.2.2.2.2.2.2.2.2.2.2.2.2.1, if_pos (by omega), x_L_law_1449.2.2.1]
  exact x_L_law_1449.2.2.2.2.1 _ _ _ _ _ _
theorem L_step (hE : SE E) (hS : OKS S) (hc : CS E u S) (hm : MS E u S) (h7 : i + 7 ≤ E.2.2.1) (hL : E.2.2.1 ≤ 448) (hx : ∀ j, in32 (E.2.2.2 j)) : ∃ S' u', Rn m_L_law 18 [vB true, vR (some 0), vR (some 149), vI (i : Int)] [] E u = Rn m_L_law 18 [vB true, vR (some 0), vR (some 149), vI ((i + 7 : Nat) : Int)] [] E u' ∧ OKS S' ∧ CS E u' S' ∧ MS E u' S' := by
  obtain ⟨S', u', e, r⟩ := L_case (a := i_and (E.2.2.2 i) 63) hE hS hc hm h7 (by omega) hx
  refine ⟨S', u', ?_, r⟩
  rw [h_L_law_18, x_L_law.2.2.2.2.2.2.2.2.2.2.2.2.1, x_L_law.2.2.2.2.2.2.2.2.2.2.2.2.2.1, x_L_law.2.2.2.2.2.2.2.2.2.2.2.2.2.2.1, x_L_law.2.2.2.2.2.2.2.2.2.2.2.2.2.2.2.1, w32_of (by omega) (by omega), x_L_law.2.2.2.2.2.2.2.2.2.2.2.2.2.2.2.2.1, if_neg (by omega), x_L_law.2.2.2.2.2.2.2.2.2.2.2.2.2.2.2.2.2.1, x_L_law.2.2.2.2.2.2.2.2.2.2.2.2.2.2.2.2.2.2.1, x_L_law.2.2.2.2.2.2.2.2.2.2.2.2.2.2.2.2.2.2.2.1 _ _ _ _ (i : Int) _ E _ (by omega) (by omega), x_L_law.2.2.2.2.2.2.2.2.2.2.2.2.2.2.2.2.2.2.2.2.1, x_L_law.2.2.2.2.2.2.2.2.2.2.2.2.2.2.2.2.2.2.2.2.2.1, Int.toNat_natCast, e, x_L_law_1449.1, wl7 (by omega), fx_R, x_L_law_1449.2.1]
theorem L_loop (hE : SE E) (hL : E.2.2.1 ≤ 448) (hx : ∀ j, in32 (E.2.2.2 j)) : ∀ (n i : Nat) (u : am_M) (S : am_S), E.2.2.1 ≤ i + n → OKS S → CS E u S → MS E u S → ∃ u', Rn m_L_law 18 [vB true, vR (some 0), vR (some 149), vI (i : Int)] [] E u = some (some (vI 1), E, u') := by
  intro n
  induction n with
  | zero => intro i u S h _ _ _; exact ⟨u, L_end (by omega) hL⟩
  | succ n ih =>
    intro i u S h hS hc hm
    by_cases h7 : i + 7 ≤ E.2.2.1
    · obtain ⟨S', u', e, hS', hc', hm'⟩ := L_step hE hS hc hm h7 hL hx
      obtain ⟨u2, e2⟩ := ih (i + 7) u' S' (by omega) hS' hc' hm'
      exact ⟨u2, e.trans e2⟩
    · exact ⟨u, L_end (by omega) hL⟩
theorem lawOK : am_lawOK := by
  intro L xs hL hx
  obtain ⟨E, u, e, a, t, hc, hm⟩ := L_made L xs
  have t1 : E.2.2.1 = L := by rw [t]
  have t2 : E.2.2.2 = xs := by rw [t]
  obtain ⟨u', e'⟩ := L_loop (E := E) hc.1 (by rw [t1]; exact hL) (by rw [t2]; exact hx) 448 0 u S_I (by omega) OKS_0 hc hm
  refine ⟨E, u', e.trans e', ?_, ?_⟩
  · rw [a, fL_z.1]; omega
  · unfold am_szs
    rw [a]
    have := fL_z.2
    omega

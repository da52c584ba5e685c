/-! The library's bit count, whole; the class counts its holes. -/
variable {E : am_E} {u : am_M} {k : Nat} {n : am_Row}
theorem by_run {x a1 a b1 b2 c i1 i2 i3 r : Nat} (hx : x < 562949953421312) (t1 : l_and ((x / 2 : Nat) : Int) 6148914691236517205 = (a1 : Int)) (l1 : a1 ≤ x / 2) (ea : a = x - a1) (t2 : l_and (a : Int) 3689348814741910323 = (b1 : Int)) (l2 : b1 ≤ a) (t3 : l_and ((a / 4 : Nat) : Int) 3689348814741910323 = (b2 : Int)) (l3 : b2 ≤ a / 4) (t4 : l_and ((b1 + b2 + (b1 + b2) / 16 : Nat) : Int) 1085102592571150095 = (c : Int)) (l4 : c ≤ b1 + b2 + (b1 + b2) / 16)
    (e1 : i1 = c + c / 256) (e2 : i2 = i1 + i1 / 65536) (e3 : i3 = i2 + i2 / 4294967296) (h : i3 % 4294967296 < 2147483648) (g : i3 % 4294967296 % 128 = r) : Rn m_J_bitL 0 [vL (x : Nat), vB false] [] E u = some (some (vI (r : Nat)), E, u) := by
  have k1 : a < 562949953421312 := by clear t1 t2 t3 t4 h g e1 e2 e3 l2 l3 l4; omega
  have k2 : b1 + b2 < 1125899906842624 := by clear t1 t2 t3 t4 h g e1 e2 e3 ea l1 l4; omega
  have k3 : b1 + b2 + (b1 + b2) / 16 < 2251799813685248 := by clear t1 t2 t3 t4 h g e1 e2 e3 ea l1 l2 l3 l4; omega
  have k4 : c < 2251799813685248 := Nat.lt_of_le_of_lt l4 k3
  have k5 : c + c / 256 < 4503599627370496 := by clear t1 t2 t3 t4 h g e1 e2 e3 ea l1 l2 l3 l4 k1 k2 k3; omega
  have k6 : i1 < 4503599627370496 := by rw [e1]; exact k5
  have k7 : i1 + i1 / 65536 < 9007199254740992 := by clear t1 t2 t3 t4 h g e1 e2 e3 ea l1 l2 l3 l4 k1 k2 k3 k5; omega
  have k8 : i2 < 9007199254740992 := by rw [e2]; exact k7
  have k9 : i2 + i2 / 4294967296 < 18014398509481984 := by clear t1 t2 t3 t4 h g e1 e2 e3 ea l1 l2 l3 l4 k1 k2 k3 k5 k6 k7; omega
  have B : ∀ {z : Nat}, z < 18014398509481984 → z < 9223372036854775808 := fun hz => Nat.lt_of_lt_of_le hz (by decide)
  have s1 : l_ush (x : Int) 1 = ((x / 2 : Nat) : Int) := l_ush_c (t := 1) (B (Nat.lt_of_lt_of_le hx (by decide))) (by decide) rfl
  have s2 : w64 ((x : Int) - (a1 : Int)) = (a : Int) := by rw [ea]; exact w64_sub (Nat.le_trans l1 (Nat.div_le_self _ _)) (B (Nat.lt_of_lt_of_le hx (by decide)))
  have s3 : l_ush (a : Int) 2 = ((a / 4 : Nat) : Int) := l_ush_c (t := 2) (B (Nat.lt_of_lt_of_le k1 (by decide))) (by decide) rfl
  have s4 : w64 ((b1 : Int) + (b2 : Int)) = ((b1 + b2 : Nat) : Int) := w64_add (B (Nat.lt_of_lt_of_le k2 (by decide)))
  have s5 : l_ush ((b1 + b2 : Nat) : Int) 4 = (((b1 + b2) / 16 : Nat) : Int) := l_ush_c (t := 4) (B (Nat.lt_of_lt_of_le k2 (by decide))) (by decide) rfl
  have s6 : w64 (((b1 + b2 : Nat) : Int) + (((b1 + b2) / 16 : Nat) : Int)) = ((b1 + b2 + (b1 + b2) / 16 : Nat) : Int) := w64_add (B (Nat.lt_of_lt_of_le k3 (by decide)))
  have s7 : l_ush (c : Int) 8 = ((c / 256 : Nat) : Int) := l_ush_c (t := 8) (B (Nat.lt_of_lt_of_le k4 (by decide))) (by decide) rfl
  have s8 : w64 ((c : Int) + ((c / 256 : Nat) : Int)) = (i1 : Int) := by rw [e1]; exact w64_add (B (Nat.lt_of_lt_of_le k5 (by decide)))
  have s9 : l_ush (i1 : Int) 16 = ((i1 / 65536 : Nat) : Int) := l_ush_c (t := 16) (B (Nat.lt_of_lt_of_le k6 (by decide))) (by decide) rfl
  have s10 : w64 ((i1 : Int) + ((i1 / 65536 : Nat) : Int)) = (i2 : Int) := by rw [e2]; exact w64_add (B (Nat.lt_of_lt_of_le k7 (by decide)))
  have s11 : l_ush (i2 : Int) 32 = ((i2 / 4294967296 : Nat) : Int) := l_ush_c (t := 32) (B (Nat.lt_of_lt_of_le k8 (by decide))) (by decide) rfl
  have s12 : w64 ((i2 : Int) + ((i2 / 4294967296 : Nat) : Int)) = (i3 : Int) := by rw [e3]; exact w64_add (B k9)
  have s13 := by_last h g
  simp only [x_J_bitL, s1, t1, s2, t2, s3, t3, s4, s5, s6, t4, s7, s8, s9, s10, s11, s12, s13]
theorem j_bitL (f : Nat → Bool) (hf : ∀ i, 49 ≤ i → f i = false) : Rn m_J_bitL 0 [vL (bits f 49 : Nat), vB false] [] E u = some (some (vI (cntB f 49 : Nat)), E, u) := by
  have hx : bits f 49 < 562949953421312 := bits_lt f 49
  have h64 : bits f 64 = bits f 49 := by
    symm
    refine bits_ext fun i => ?_
    rw [bits_tb]
    by_cases e : i < 49
    · simp [e, show i < 64 by omega]
    · simp [hf i (by omega)]
  have c64 : cntB f 64 = cntB f 49 := cntB_more hf 15
  obtain ⟨p0, p1, p2, p3, p4, p5, p6, p7, hall, h0, h1, h2, h3, h4, h5, h6, h7, hcnt⟩ := by_bits f
  rw [h64] at hall
  rw [← c64, hcnt]
  have hp : ∀ k, [p0, p1, p2, p3, p4, p5, p6, p7].getD k 0 ≤ 8 := fun k => by
    match k with
    | 0 => exact h0
    | 1 => exact h1
    | 2 => exact h2
    | 3 => exact h3
    | 4 => exact h4
    | 5 => exact h5
    | 6 => exact h6
    | 7 => exact h7
    | _ + 8 => exact Nat.zero_le 8
  obtain ⟨i1, i2, i3, e1, e2, e3, g1, g2⟩ := by_end (fun k => byv ([p0, p1, p2, p3, p4, p5, p6, p7].drop k)) (fun k => [p0, p1, p2, p3, p4, p5, p6, p7].getD k 0) (byv_drop _) hp
  have g2' : i3 % 4294967296 % 128 = p0 + p1 + p2 + p3 + p4 + p5 + p6 + p7 := g2
  obtain ⟨a1, a, b1, b2, c, t1, l1, ea, t2, l2, t3, l3, t4, l4, hc⟩ := by_parts hx
  have ec : byv ([p0, p1, p2, p3, p4, p5, p6, p7].drop 0) = c := by
    rw [← hc, hall]
    simp only [List.drop_zero, byv, Nat.mul_zero, Nat.add_zero]
  have e1' : i1 = c + c / 256 := by rw [← ec]; exact e1
  exact by_run hx t1 l1 ea t2 l2 t3 l3 t4 l4 e1' e2 e3 g1 g2'
theorem c_holeCount (h : CU E u k n) : Rn m_C_holeCount 0 [vR (some k)] [] E u = some (some (vI (s_count n)), E, u) := by
  obtain ⟨hE, hk, hR, hV⟩ := h
  let f : Nat → Bool := fun c => decide (c < 49) && s_hole n c
  have hf : ∀ i, 49 ≤ i → f i = false := fun i hi => by simp only [f, decide_eq_false (show ¬ i < 49 by omega), Bool.false_and]
  have fe : ∀ i, i < 49 → f i = s_hole n i := fun i hi => by simp only [f, decide_eq_true hi, Bool.true_and]
  have e7 : u k 7 = (bits f 49 : Nat) := by
    rw [hR.2.2.2.2.2.2.2.1, bits_congr fe]
    rfl
  have ec : cntB f 49 = cntB (s_hole n) 49 := cntB_congr fe
  have j := j_bitL (E := E) (u := u) f hf
  rw [ec] at j
  simp (disch := first | assumption | omega) only [x_C_holeCount, e7, j, bdI_s]
  rfl

/-! The reference sets down a whole row. -/
variable {E : am_E} {u : am_M} {k : Nat} {n : am_Row} {T : List Int}
theorem set_all {z r o : am_Row} (hP : PR z r o) (hV : Vn z) (hk : s_kept (s_fresh n (z 0) (z 1)) z) : s_fil (s_thrs (s_pins (s_fresh n (z 0) (z 1)) r (z 2).toNat) r (z 3).toNat) (fun x => if o (x - 51) = 2 then 1 else 0) 51 49 = z := by
  obtain ⟨⟨p0, p1, p2, p3⟩, pp, pt, pc⟩ := hP
  obtain ⟨⟨k4, k5, -, -⟩, kz, kp, kt⟩ := hk
  have h2 := hV.2.2.1
  have h3 := hV.2.2.2.1
  have hh := hV.2.2.2.2.2.2.2.2.1
  have f2 : s_fresh n (z 0) (z 1) 2 = 0 := rfl
  have f3 : s_pins (s_fresh n (z 0) (z 1)) r (z 2).toNat 3 = 0 := by rw [s_pins_out f2 (by omega) _ (by omega)]; rfl
  generalize hm : s_fresh n (z 0) (z 1) = m at *
  have m0 : m 0 = z 0 := by rw [← hm]; rfl
  have m1 : m 1 = z 1 := by rw [← hm]; rfl
  clear hm
  funext x
  by_cases x51 : 51 ≤ x ∧ x < 51 + 49
  · rw [s_fil_in x51]
    have c := pc ((x - 51 : Nat) : Int) (by omega) (by omega)
    have h01 := hh ((x - 51 : Nat) : Int) (by omega) (by omega)
    have eH : s_H z ((x - 51 : Nat) : Int) = z x := by unfold s_H; congr 1; omega
    have eo : ((x - 51 : Nat) : Int).toNat = x - 51 := by omega
    rw [eH, eo] at c
    rw [eH] at h01
    show (if o (x - 51) = 2 then (1 : Int) else 0) = z x
    by_cases c2 : o (x - 51) = 2
    · rw [if_pos c2]; exact (c.2.mp c2).symm
    · rw [if_neg c2]
      rcases h01 with y | y
      · exact y.symm
      · exact absurd (c.2.mpr y) c2
  rw [s_fil_out x51]
  by_cases x3 : x = 3
  · subst x3; rw [s_thrs_3 f3]; omega
  by_cases xt : 27 ≤ x ∧ x < 27 + 4 * (z 3).toNat
  · exact s_thrs_in f3 pt xt.1 _ (by omega) xt.2
  rw [s_thrs_out f3 x3 _ xt]
  by_cases x2 : x = 2
  · subst x2; rw [s_pins_2 f2]; omega
  by_cases xp : 6 ≤ x ∧ x < 6 + 3 * (z 2).toNat
  · rw [s_pins_in f2 xp.1 _ xp.2]
    obtain ⟨p, hp⟩ : ∃ p : Nat, x = 6 + 3 * p ∨ x = 6 + 3 * p + 1 ∨ x = 6 + 3 * p + 2 := ⟨(x - 6) / 3, by omega⟩
    obtain ⟨a, b, c⟩ := pp (p : Int) (by omega) (by omega)
    unfold s_K at a
    unfold s_C at b
    unfold s_V at c
    rw [(by omega : (6 + 3 * (p : Int)).toNat = 6 + 3 * p)] at a
    rw [(by omega : (6 + 3 * (p : Int) + 1).toNat = 6 + 3 * p + 1)] at b
    rw [(by omega : (6 + 3 * (p : Int) + 2).toNat = 6 + 3 * p + 2)] at c
    rcases hp with hp | hp | hp
    · rw [hp]; exact a
    · rw [hp]; exact b
    · rw [hp]; exact c
  rw [s_pins_out f2 x2 _ xp]
  by_cases x0 : x = 0
  · subst x0; exact m0
  by_cases x1 : x = 1
  · subst x1; exact m1
  by_cases x4 : x = 4
  · subst x4; exact k4.symm
  by_cases x5 : x = 5
  · subst x5; exact k5.symm
  by_cases x27 : x < 27
  · exact (kp x (by omega) x27).symm
  by_cases x51' : x < 51
  · exact (kt x (by omega) x51').symm
  · exact (kz x (by omega)).symm
theorem m_setsR (hE : SE E) {z r o : am_Row} (hP : PR z r o) (hV : Vn z) (hk : s_kept (s_fresh n (z 0) (z 1)) z) (hn : u 150 = n) (hr : u 152 = r) (ho : u 153 = o) : Rn m_M_read 172 [vR (some 149), vI 49] [] E u = some (some (vI (z 2)), E, AS u z) := by
  obtain ⟨l0, l1, l2, l3, l4, l5, l6, l7, l8, l9, l10⟩ := al_m hE
  have h2 := hV.2.2.1
  have h3 := hV.2.2.2.1
  have r0 : r 0 = z 0 := hP.1.1
  have r1 : r 1 = z 1 := hP.1.2.1
  have r2 : r 2 = z 2 := hP.1.2.2.1
  have r3 : r 3 = z 3 := hP.1.2.2.2
  have e2 : (2 : Int).toNat = 2 := rfl
  have e3 : (3 : Int).toNat = 3 := rfl
  have a0 : (0 : Int) ≤ 0 := by omega
  have a1 : (0 : Int) < am_len 10 E 152 := by omega
  have a2 : (0 : Int) ≤ 1 := by omega
  have a3 : (1 : Int) < am_len 10 E 152 := by omega
  have a4 : (0 : Int) ≤ 2 := by omega
  have a5 : (2 : Int) < am_len 10 E 152 := by omega
  have a6 : (0 : Int) ≤ 3 := by omega
  have a7 : (3 : Int) < am_len 10 E 152 := by omega
  have a8 : (2 : Int) < am_len 10 E 150 := by omega
  have q2 : ∀ m : am_Row, (AS u m) 152 = r := fun m => by rw [as_i (by omega) (by omega)]; exact hr
  have q3 : ∀ m : am_Row, (AS u m) 153 = o := fun m => by rw [as_i (by omega) (by omega)]; exact ho
  have fr : Rn m_M_fresh 0 [vR (some 149), vI (z 0), vI (z 1), vB false] [] E u = some (none, E, AS u (s_fresh n (z 0) (z 1))) := m_fresh hE hn (z 0) (z 1)
  have f2 : s_fresh n (z 0) (z 1) 2 = 0 := rfl
  have f3 : s_pins (s_fresh n (z 0) (z 1)) r (z 2).toNat 3 = 0 := by rw [s_pins_out f2 (by omega) _ (by omega)]; rfl
  have fin := set_all hP hV hk
  let f : Nat → am_Z := fun i => Rn m_M_read 190 [vR (some 149), vI (i : Int)] [] E (AS u (s_pins (s_fresh n (z 0) (z 1)) r i))
  let g : Nat → am_Z := fun i => Rn m_M_read 249 [vR (some 149), vI (i : Int)] [] E (AS u (s_thrs (s_pins (s_fresh n (z 0) (z 1)) r (z 2).toNat) r i))
  let h : Nat → am_Z := fun i => Rn m_M_read 308 [vR (some 149), vI (i : Int)] [] E (AS u (s_fil (s_thrs (s_pins (s_fresh n (z 0) (z 1)) r (z 2).toNat) r (z 3).toNat) (fun x => if o (x - 51) = 2 then 1 else 0) 51 i))
  have start : Rn m_M_read 172 [vR (some 149), vI 49] [] E u = f 0 := by
    simp only [f]
    simp (disch := assumption) only [↓reduceIte, Int.reduceEq, Int.reduceLT, bdI_s, bdV_s, bdR_s, bdL_s, fx_I, fx_R, fx_B, fx_L, x_M_read_0, x_M_read_1, hr, Int.toNat_zero, Int.toNat_one, r0, r1, fr]
    rfl
  have step1 : ∀ i, i < (z 2).toNat → f i = f (i + 1) := by
    intro i hi
    simp only [f]
    have lt : (i : Int) < z 2 := by omega
    have h6 : i < 1000000 := by omega
    have w1 : w32 (3 * (i : Int)) = 3 * (i : Int) := w32_sm (by omega) (by omega)
    have w2 : w32 (6 + 3 * (i : Int)) = 6 + 3 * (i : Int) := w32_sm (by clear w1; omega) (by clear w1; omega)
    have w3 : w32 (6 + 3 * (i : Int) + 1) = 6 + 3 * (i : Int) + 1 := w32_sm (by clear w1 w2; omega) (by clear w1 w2; omega)
    have w4 : w32 (6 + 3 * (i : Int) + 2) = 6 + 3 * (i : Int) + 2 := w32_sm (by clear w1 w2 w3; omega) (by clear w1 w2 w3; omega)
    have j0 : (0 : Int) ≤ 6 + 3 * (i : Int) := by clear w1 w2 w3 w4; omega
    have j1 : (6 + 3 * (i : Int) : Int) < am_len 10 E 152 := by clear w1 w2 w3 w4; omega
    have j2 : (0 : Int) ≤ 6 + 3 * (i : Int) + 1 := by clear w1 w2 w3 w4; omega
    have j3 : (6 + 3 * (i : Int) + 1 : Int) < am_len 10 E 152 := by clear w1 w2 w3 w4; omega
    have j4 : (0 : Int) ≤ 6 + 3 * (i : Int) + 2 := by clear w1 w2 w3 w4; omega
    have j5 : (6 + 3 * (i : Int) + 2 : Int) < am_len 10 E 152 := by clear w1 w2 w3 w4; omega
    have e := s_pins_2 (r := r) f2 i
    have pin := m_pinComesA (u := u) (m := s_pins (s_fresh n (z 0) (z 1)) r i) hE (by rw [e]; omega) (by rw [e]; clear w1 w2 w3 w4; omega) (r (6 + 3 * (i : Int)).toNat) (r (6 + 3 * (i : Int) + 1).toNat) (r (6 + 3 * (i : Int) + 2).toNat)
    rw [h_M_read_190]
    simp (disch := assumption) only [↓reduceIte, Int.reduceEq, Int.reduceLT, bdI_s, bdV_s, bdR_s, bdL_s, fx_I, fx_R, fx_B, fx_L, x_M_read_0, x_M_read_1, q2, e2, r2, lt, w1, w2, w3, w4, pin, w_suc h6]
    rfl
  have mid1 : f (z 2).toNat = g 0 := by
    simp only [f, g]
    have lt : ¬ (((z 2).toNat : Nat) : Int) < z 2 := by omega
    rw [h_M_read_190]
    simp (disch := assumption) only [↓reduceIte, Int.reduceEq, Int.reduceLT, bdI_s, bdV_s, bdR_s, bdL_s, fx_I, fx_R, fx_B, fx_L, x_M_read_0, x_M_read_1, q2, e2, r2, lt]
    rfl
  have step2 : ∀ i, i < (z 3).toNat → g i = g (i + 1) := by
    intro i hi
    simp only [g]
    have lt : (i : Int) < z 3 := by omega
    have h6 : i < 1000000 := by omega
    have w1 : w32 (4 * (i : Int)) = 4 * (i : Int) := w32_sm (by omega) (by omega)
    have w2 : w32 (27 + 4 * (i : Int)) = 27 + 4 * (i : Int) := w32_sm (by clear w1; omega) (by clear w1; omega)
    have w3 : w32 (27 + 4 * (i : Int) + 1) = 27 + 4 * (i : Int) + 1 := w32_sm (by clear w1 w2; omega) (by clear w1 w2; omega)
    have w4 : w32 (27 + 4 * (i : Int) + 2) = 27 + 4 * (i : Int) + 2 := w32_sm (by clear w1 w2 w3; omega) (by clear w1 w2 w3; omega)
    have j0 : (0 : Int) ≤ 27 + 4 * (i : Int) := by clear w1 w2 w3 w4; omega
    have j1 : (27 + 4 * (i : Int) : Int) < am_len 10 E 152 := by clear w1 w2 w3 w4; omega
    have j2 : (0 : Int) ≤ 27 + 4 * (i : Int) + 1 := by clear w1 w2 w3 w4; omega
    have j3 : (27 + 4 * (i : Int) + 1 : Int) < am_len 10 E 152 := by clear w1 w2 w3 w4; omega
    have j4 : (0 : Int) ≤ 27 + 4 * (i : Int) + 2 := by clear w1 w2 w3 w4; omega
    have j5 : (27 + 4 * (i : Int) + 2 : Int) < am_len 10 E 152 := by clear w1 w2 w3 w4; omega
    have e := s_thrs_3 (r := r) f3 i
    have thr := m_threadComesA (u := u) (m := s_thrs (s_pins (s_fresh n (z 0) (z 1)) r (z 2).toNat) r i) hE (by rw [e]; omega) (by rw [e]; clear w1 w2 w3 w4; omega) (r (27 + 4 * (i : Int)).toNat) (r (27 + 4 * (i : Int) + 1).toNat) (r (27 + 4 * (i : Int) + 2).toNat)
    rw [h_M_read_249]
    simp (disch := assumption) only [↓reduceIte, Int.reduceEq, Int.reduceLT, bdI_s, bdV_s, bdR_s, bdL_s, fx_I, fx_R, fx_B, fx_L, x_M_read_0, x_M_read_1, q2, e3, r3, lt, w1, w2, w3, w4, thr, w_suc h6]
    rfl
  have mid2 : g (z 3).toNat = h 0 := by
    simp only [g, h, s_fil_0]
    have lt : ¬ (((z 3).toNat : Nat) : Int) < z 3 := by omega
    rw [h_M_read_249]
    simp (disch := assumption) only [↓reduceIte, Int.reduceEq, Int.reduceLT, bdI_s, bdV_s, bdR_s, bdL_s, fx_I, fx_R, fx_B, fx_L, x_M_read_0, x_M_read_1, q2, e3, r3, lt]
    rfl
  have step3 : ∀ i, i < 49 → h i = h (i + 1) := by
    intro i hi
    simp only [h]
    have lt : (i : Int) < 49 := by omega
    have h6 : i < 1000000 := by omega
    have w1 : w32 (51 + (i : Int)) = ((51 + i : Nat) : Int) := by rw [w32_of (by omega) (by omega)]; omega
    have j0 : (0 : Int) ≤ ((51 + i : Nat) : Int) := by clear w1; omega
    have j1 : ((51 + i : Nat) : Int) < am_len 10 E 150 := by clear w1; omega
    have j2 : (0 : Int) ≤ (i : Int) := by clear w1; omega
    have j3 : (i : Int) < am_len 10 E 153 := by clear w1; omega
    have ei : o ((51 + i) - 51) = o i := by rw [Nat.add_sub_cancel_left]
    by_cases c : o i = 2
    · rw [← s_fil_s (v := 1) (j := 51 + i) rfl (by show 1 = (if o ((51 + i) - 51) = 2 then (1 : Int) else 0); rw [ei, if_pos c]), h_M_read_308]
      simp (disch := assumption) only [↓reduceIte, Int.reduceEq, Int.reduceLT, bdI_s, bdV_s, bdR_s, bdL_s, fx_I, fx_R, fx_B, fx_L, x_M_read_0, x_M_read_1, lt, w1, q3, Int.toNat_natCast, c, as_up, w_suc h6]
    · rw [← s_fil_s (v := 0) (j := 51 + i) rfl (by show 0 = (if o ((51 + i) - 51) = 2 then (1 : Int) else 0); rw [ei, if_neg c]), h_M_read_308]
      simp (disch := assumption) only [↓reduceIte, Int.reduceEq, Int.reduceLT, bdI_s, bdV_s, bdR_s, bdL_s, fx_I, fx_R, fx_B, fx_L, x_M_read_0, x_M_read_1, lt, w1, q3, Int.toNat_natCast, c, as_up, w_suc h6]
  rw [start, q_loop f _ step1, mid1, q_loop g _ step2, mid2, q_loop h 49 step3]
  simp only [h]
  have lt : ¬ ((49 : Nat) : Int) < 49 := by omega
  rw [fin, h_M_read_308]
  simp (disch := assumption) only [↓reduceIte, Int.reduceEq, Int.reduceLT, bdI_s, bdV_s, bdR_s, bdL_s, fx_I, fx_R, fx_B, fx_L, x_M_read_0, x_M_read_1, lt, as_150, e2]

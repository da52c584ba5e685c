/-! The reference reads a whole text: its head. -/
variable {E : am_E} {u : am_M} {k : Nat} {n : am_Row} {T : List Int}
theorem m_clr (hE : SE E) {q f : Int} {r o : am_Row} : Rn m_M_read 77 [vR (some 149), vI 0] [] E (ZS u q f r o) = Rn m_M_read 96 [vR (some 149), vI 49] [] E (ZS u q f r (s_fil o (fun _ => 0) 0 49)) := by
  obtain ⟨l0, l1, l2, l3, l4, l5, l6, l7, l8, l9, l10⟩ := al_m hE
  let g : Nat → am_Z := fun i => Rn m_M_read 77 [vR (some 149), vI (i : Int)] [] E (ZS u q f r (s_fil o (fun _ => 0) 0 i))
  have step : ∀ i, i < 49 → g i = g (i + 1) := by
    intro i hi
    simp only [g]
    have lt : (i : Int) < 49 := by omega
    have a0 : (0 : Int) ≤ (i : Int) := by omega
    have a1 : (i : Int) < am_len 10 E 153 := by omega
    have h6 : i < 1000000 := by omega
    rw [h_M_read_77]
    simp (disch := assumption) only [↓reduceIte, Int.reduceEq, Int.reduceLT, bdI_s, bdV_s, bdR_s, bdL_s, fx_I, fx_R, fx_B, fx_L, x_M_read_0, lt, zs_6, Int.toNat_natCast, w_suc h6]
    rw [s_fil_s (by omega) rfl]
  have start : Rn m_M_read 77 [vR (some 149), vI 0] [] E (ZS u q f r o) = g 0 := by
    simp only [g, s_fil_0]
    rfl
  rw [start, q_loop g 49 step]
  simp only [g]
  have lt : ¬ ((49 : Nat) : Int) < 49 := by omega
  rw [h_M_read_77]
  simp (disch := assumption) only [↓reduceIte, Int.reduceEq, Int.reduceLT, bdI_s, bdV_s, bdR_s, bdL_s, fx_I, fx_R, fx_B, fx_L, x_M_read_0, lt]
  rfl
theorem PR_head {r o : am_Row} {a b : Int} (h0 : r 0 = a) (h1 : r 1 = b) (h2 : r 2 = 0) (h3 : r 3 = 0) : PR (s_fresh n a b) r (s_fil o (fun _ => 0) 0 49) := by
  have e0 : s_fresh n a b 0 = a := rfl
  have e1 : s_fresh n a b 1 = b := rfl
  have e2 : s_fresh n a b 2 = 0 := rfl
  have e3 : s_fresh n a b 3 = 0 := rfl
  refine ⟨⟨by rw [e0, h0], by rw [e1, h1], by rw [e2, h2], by rw [e3, h3]⟩, fun p p0 p1 => ?_, fun t t0 t1 => ?_, fun c c0 c1 => ?_⟩
  · rw [e2] at p1; omega
  · rw [e3] at t1; omega
  · have eo : s_fil o (fun _ => 0) 0 49 c.toNat = 0 := s_fil_in (by omega)
    have eH : s_H (s_fresh n a b) c = 0 := by
      unfold s_H s_fresh
      rw [if_neg (by omega), if_neg (by omega), if_neg (by omega), if_pos (by omega)]
    rw [eo, eH, e2]
    exact ⟨⟨fun _ => ⟨by decide, fun p p0 p1 => by omega⟩, fun _ => rfl⟩, ⟨fun z => absurd z (by decide), fun z => absurd z (by decide)⟩⟩
theorem m_tells (hE : SE E) (hT : OKt T) (hS : MSt u T) (n : am_Row) : m_upto E u (p_tells T n) (Rn m_M_read 0 [vR (some 149), vB false] [] E u) := by
  obtain ⟨l0, l1, l2, l3, l4, l5, l6, l7, l8, l9, l10⟩ := al_m hE
  have l120 := hT.1
  have e2 : (2 : Int).toNat = 2 := rfl
  have e3 : (3 : Int).toNat = 3 := rfl
  have a0 : (0 : Int) ≤ 0 := by omega
  have a1 : (0 : Int) < am_len 10 E 152 := by omega
  have a2 : (0 : Int) ≤ 1 := by omega
  have a3 : (1 : Int) < am_len 10 E 152 := by omega
  have a4 : (0 : Int) ≤ 2 := by omega
  have a5 : (2 : Int) < am_len 10 E 152 := by omega
  have a6 : (0 : Int) ≤ 3 := by omega
  have a7 : (3 : Int) < am_len 10 E 152 := by omega
  have z1 : ¬ (1 : Int) = 0 := by decide
  have z00 : (0 : Int) = 0 ∨ (0 : Int) = 1 := Or.inl rfl
  have s0 := s_sk_le (T := T) (i := 0) (Nat.zero_le _)
  have h6 : s_sk T 0 < 1000000 := by omega
  have z3 : (0 : Int) ≤ 3 := by omega
  have zin : am_up (am_up u 149 3 0) 149 4 0 = ZS u ((0 : Nat) : Int) 0 (u 152) (u 153) := zs_in
  unfold p_tells
  by_cases d1 : s_dg T 3 7 (s_sk T 0)
  case neg =>
    rw [if_pos d1]
    obtain ⟨v1, g1⟩ := m_digF (r := u 152) (o := u 153) hE hT hS (Nat.zero_le _) z3 d1
    have mx := fun r : am_Row => m_mustX (u := u) (r := r) (o := u 153) (v := 0) hE h6
    obtain ⟨v2, g2⟩ := m_digX (u := u) (r := s_up (u 152) 0 v1) (o := u 153) (lo := 3) (hi := 7) hE h6
    refine ⟨s_up (s_up (s_up (s_up (u 152) 0 v1) 1 v2) 2 0) 3 0, s_fil (u 153) (fun _ => 0) 0 49, ?_, fun z => by cases z⟩
    show _ = Rn m_M_read 152 [vR (some 149), vI 49] [] E (ZS u ((s_sk T 0 : Nat) : Int) 1 (s_up (s_up (s_up (s_up (u 152) 0 v1) 1 v2) 2 0) 3 0) (s_fil (u 153) (fun _ => 0) 0 49))
    rw [← m_atX hE, ← m_clr hE]
    simp (disch := assumption) only [↓reduceIte, Int.reduceEq, Int.reduceLT, bdI_s, bdV_s, bdR_s, bdL_s, fx_I, fx_R, fx_B, fx_L, x_M_read_0, zin, g1, zs_5, Int.toNat_zero, Int.toNat_one, e2, e3, zr_4, z1, mx, g2]
  rw [if_neg (fun z => z d1)]
  have g1 := m_digT (r := u 152) (o := u 153) hE hT hS (Nat.zero_le _) z3 d1
  obtain ⟨x1, x2⟩ := sk_next hT (Nat.zero_le _) (dg_ne z3 d1)
  generalize hv1 : s_ch T (s_sk T 0) - 48 = v1 at *
  have hh := m_here (u := u) (f := 0) (r := s_up (u 152) 0 v1) (o := u 153) hE hT hS x2
  have s1 := s_sk_le x2
  have h7 : s_sk T (s_sk T 0 + 1) < 1000000 := by omega
  by_cases d2 : s_ch T (s_sk T (s_sk T 0 + 1)) = 120
  case neg =>
    rw [if_pos d2]
    have k1 := h0_no d2 (by decide)
    have mf := fun r : am_Row => m_mustF (u := u) (r := r) (o := u 153) hE h7
    obtain ⟨v2, g2⟩ := m_digX (u := u) (r := s_up (u 152) 0 v1) (o := u 153) (lo := 3) (hi := 7) hE h7
    refine ⟨s_up (s_up (s_up (s_up (u 152) 0 v1) 1 v2) 2 0) 3 0, s_fil (u 153) (fun _ => 0) 0 49, ?_, fun z => by cases z⟩
    show _ = Rn m_M_read 152 [vR (some 149), vI 49] [] E (ZS u ((s_sk T (s_sk T 0 + 1) : Nat) : Int) 1 (s_up (s_up (s_up (s_up (u 152) 0 v1) 1 v2) 2 0) 3 0) (s_fil (u 153) (fun _ => 0) 0 49))
    rw [← m_atX hE, ← m_clr hE]
    simp (disch := assumption) only [↓reduceIte, Int.reduceEq, Int.reduceLT, bdI_s, bdV_s, bdR_s, bdL_s, fx_I, fx_R, fx_B, fx_L, x_M_read_0, zin, g1, zs_5, Int.toNat_zero, Int.toNat_one, e2, e3, zr_4, hh, k1, mf, g2]
  rw [if_neg (fun z => z d2)]
  have k120 : s_h0 120 = 120 := by decide
  rw [d2, k120] at hh
  have mt := fun r : am_Row => m_mustT (u := u) (r := r) (o := u 153) hE h7
  obtain ⟨b1, b2⟩ := sk_next hT x2 (by rw [d2]; decide)
  have s2 := s_sk_le b2
  have h8 : s_sk T (s_sk T (s_sk T 0 + 1) + 1) < 1000000 := by omega
  by_cases d3 : s_dg T 3 7 (s_sk T (s_sk T (s_sk T 0 + 1) + 1))
  case neg =>
    rw [if_pos d3]
    obtain ⟨v2, g2⟩ := m_digF (r := s_up (u 152) 0 v1) (o := u 153) hE hT hS b2 z3 d3
    refine ⟨s_up (s_up (s_up (s_up (u 152) 0 v1) 1 v2) 2 0) 3 0, s_fil (u 153) (fun _ => 0) 0 49, ?_, fun z => by cases z⟩
    show _ = Rn m_M_read 152 [vR (some 149), vI 49] [] E (ZS u ((s_sk T (s_sk T (s_sk T 0 + 1) + 1) : Nat) : Int) 1 (s_up (s_up (s_up (s_up (u 152) 0 v1) 1 v2) 2 0) 3 0) (s_fil (u 153) (fun _ => 0) 0 49))
    rw [← m_atX hE, ← m_clr hE]
    simp (disch := assumption) only [↓reduceIte, Int.reduceEq, Int.reduceLT, bdI_s, bdV_s, bdR_s, bdL_s, fx_I, fx_R, fx_B, fx_L, x_M_read_0, zin, g1, zs_5, Int.toNat_zero, Int.toNat_one, e2, e3, zr_4, hh, mt, g2]
  rw [if_neg (fun z => z d3)]
  have g2 := m_digT (r := s_up (u 152) 0 v1) (o := u 153) hE hT hS b2 z3 d3
  obtain ⟨c1, c2⟩ := sk_next hT b2 (dg_ne z3 d3)
  have vf := Vn_fresh (n := n) (r := v1) (c := s_ch T (s_sk T (s_sk T (s_sk T 0 + 1) + 1)) - 48) (by rw [← hv1]; exact d1) d3
  generalize hv2 : s_ch T (s_sk T (s_sk T (s_sk T 0 + 1) + 1)) - 48 = v2 at *
  obtain ⟨r', o', y1, y2⟩ := m_allR (u := u) hE hT hS 120 (s_sk T (s_sk T (s_sk T 0 + 1) + 1) + 1) (s_fresh n v1 v2) (s_up (s_up (s_up (s_up (u 152) 0 v1) 1 v2) 2 0) 3 0) (s_fil (u 153) (fun _ => 0) 0 49) c2 (by omega) vf (PR_head rfl rfl rfl rfl)
  refine ⟨r', o', ?_, y2⟩
  rw [← y1, ← m_clr hE]
  simp (disch := assumption) only [↓reduceIte, Int.reduceEq, Int.reduceLT, bdI_s, bdV_s, bdR_s, bdL_s, fx_I, fx_R, fx_B, fx_L, x_M_read_0, zin, g1, zs_5, Int.toNat_zero, Int.toNat_one, e2, e3, zr_4, hh, mt, g2]

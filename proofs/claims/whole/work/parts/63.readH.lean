/-! The reference reads a thread, a thing. -/
variable {E : am_E} {u : am_M} {k : Nat} {n : am_Row} {T : List Int}
theorem m_readThread (hE : SE E) (hT : OKt T) (hS : MSt u T) {r o : am_Row} (hV : Vn n) (hP : PR n r o) {q : Nat} (hq : q < T.length) : m_red E u (p_thr T n q) (Rn m_M_readThread 0 [vR (some 149), vB false, vB false, vB false, vB false] [] E (ZS u (q : Int) 0 r o)) := by
  obtain ⟨l0, l1, l2, l3, l4, l5, l6, l7, l8, l9, l10⟩ := al_m hE
  have l120 := hT.1
  have h2 := hV.2.2.1
  have h3 := hV.2.2.2.1
  have h6 : q < 1000000 := by omega
  have e2 : (2 : Int).toNat = 2 := rfl
  have e3 : (3 : Int).toNat = 3 := rfl
  have r2 : r 2 = n 2 := hP.1.2.2.1
  have r3 : r 3 = n 3 := hP.1.2.2.2
  have a0 : (0 : Int) ≤ 2 := by omega
  have a1 : (2 : Int) < am_len 10 E 152 := by omega
  have a2 : (0 : Int) ≤ 3 := by omega
  have a3 : (3 : Int) < am_len 10 E 152 := by omega
  have z1 : ¬ (1 : Int) = 0 := by decide
  have s1 := s_sk_le (T := T) (i := q + 1) hq
  have w2 : w32 (n 2 - 1) = n 2 - 1 := w32_sm (by omega) (by omega)
  unfold p_thr
  by_cases c6 : 6 ≤ n 3
  · rw [if_pos c6]
    have c7 : ¬ n 3 < 6 := by clear w2; omega
    have mf := m_mustF (u := u) (r := r) (o := o) hE h6
    obtain ⟨v, dx⟩ := m_digX (u := u) (r := r) (o := o) (lo := 0) (hi := n 2 - 1) hE h6
    have mx := m_mustX (u := u) (r := r) (o := o) (v := 0) hE h6
    have ix := m_inF (E := E) (u := ZS u (q : Int) 1 r o) (a := -1) (b := 0) (c := n 2 - 1) (by omega)
    obtain ⟨v', nx⟩ := m_numXX (u := u) (q := q) (r := r) (o := o) hE
    refine ⟨r, o, ?_, fun z => by cases z⟩
    simp (disch := assumption) only [↓reduceIte, Int.reduceEq, Int.reduceLT, bdI_s, bdV_s, bdR_s, bdL_s, fx_I, fx_R, fx_B, fx_L, x_M_readThread, zr_r, e2, e3, r2, r3, c7, mf, w2, dx, ix, mx, nx, zr_4, z1]
    rfl
  rw [if_neg c6]
  have c7 : n 3 < 6 := by clear w2; omega
  have mt := m_mustT (u := u) (r := r) (o := o) hE h6
  by_cases d1 : s_dg T 0 (n 2 - 1) (s_sk T (q + 1))
  case neg =>
    rw [if_pos d1]
    have h7 : s_sk T (q + 1) < 1000000 := by clear w2; omega
    obtain ⟨v, dx⟩ := m_digF (r := r) (o := o) hE hT hS (q := q + 1) hq (Int.le_refl 0) d1
    have mx := m_mustX (u := u) (r := r) (o := o) (v := 0) hE h7
    have ix := m_inF (E := E) (u := ZS u ((s_sk T (q + 1) : Nat) : Int) 1 r o) (a := -1) (b := 0) (c := n 2 - 1) (by omega)
    obtain ⟨v', nx⟩ := m_numXX (u := u) (q := s_sk T (q + 1)) (r := r) (o := o) hE
    refine ⟨r, o, ?_, fun z => by cases z⟩
    simp (disch := assumption) only [↓reduceIte, Int.reduceEq, Int.reduceLT, bdI_s, bdV_s, bdR_s, bdL_s, fx_I, fx_R, fx_B, fx_L, x_M_readThread, zr_r, e2, e3, r2, r3, c7, mt, w2, dx, ix, mx, nx, zr_4, z1]
    rfl
  rw [if_neg (fun z => z d1)]
  have g1 := m_digT (r := r) (o := o) hE hT hS (q := q + 1) hq (Int.le_refl 0) d1
  obtain ⟨x1, x2⟩ := sk_next (q := q + 1) hT hq (dg_ne (Int.le_refl 0) d1)
  have s2 := s_sk_le x2
  have hh := m_here (u := u) (f := 0) (r := r) (o := o) hE hT hS x2
  have w48 := w_h48 hT (s_sk T (s_sk T (q + 1) + 1))
  have h8 : s_sk T (s_sk T (q + 1) + 1) < 1000000 := by clear w2 w48; omega
  have mf := m_mustF (u := u) (r := r) (o := o) hE h8
  have mx := m_mustX (u := u) (r := r) (o := o) (v := 0) hE h8
  obtain ⟨v', nx⟩ := m_numXX (u := u) (q := s_sk T (s_sk T (q + 1) + 1)) (r := r) (o := o) hE
  by_cases d2 : s_dg T 0 (n 2 - 1) (s_sk T (s_sk T (q + 1) + 1))
  case neg =>
    rw [if_pos (Or.inl d2)]
    have i1 := m_inF (E := E) (u := ZS u ((s_sk T (s_sk T (q + 1) + 1) : Nat) : Int) 0 r o) (fun z => d2 ((s_dg_h (Int.le_refl 0)).mpr z))
    refine ⟨r, o, ?_, fun z => by cases z⟩
    simp (disch := assumption) only [↓reduceIte, Int.reduceEq, Int.reduceLT, bdI_s, bdV_s, bdR_s, bdL_s, fx_I, fx_R, fx_B, fx_L, x_M_readThread, zr_r, e2, e3, r2, r3, c7, mt, w2, g1, hh, w48, i1, mf, mx, nx, zr_4, z1]
    rfl
  have i1 := m_inT (E := E) (u := ZS u ((s_sk T (s_sk T (q + 1) + 1) : Nat) : Int) 0 r o) ((s_dg_h (Int.le_refl 0)).mp d2)
  rw [s_dg_eq (Int.le_refl 0) d2] at hh w48 i1
  obtain ⟨b1, b2⟩ := sk_next hT x2 (dg_ne (Int.le_refl 0) d2)
  by_cases d3 : s_ch T (s_sk T (s_sk T (q + 1) + 1)) = s_ch T (s_sk T (q + 1))
  · rw [if_pos (Or.inr d3)]
    refine ⟨r, o, ?_, fun z => by cases z⟩
    rw [d3] at hh w48 i1
    simp (disch := assumption) only [↓reduceIte, Int.reduceEq, Int.reduceLT, bdI_s, bdV_s, bdR_s, bdL_s, fx_I, fx_R, fx_B, fx_L, x_M_readThread, zr_r, e2, e3, r2, r3, c7, mt, w2, g1, hh, w48, i1, mf, mx, nx, zr_4, z1]
    rfl
  rw [if_neg (fun z => by rcases z with z | z; exact z d2; exact d3 z)]
  have nab : ¬ s_ch T (s_sk T (q + 1)) - 48 = s_ch T (s_sk T (s_sk T (q + 1) + 1)) - 48 := by clear w2 w48; omega
  have mt2 := m_mustT (u := u) (r := r) (o := o) hE h8
  clear mf mx nx
  have hh3 := m_here (u := u) (f := 0) (r := r) (o := o) hE hT hS b2
  have s3 := s_sk_le b2
  have h9 : s_sk T (s_sk T (s_sk T (q + 1) + 1) + 1) < 1000000 := by clear w2 w48; omega
  by_cases d4 : s_ch T (s_sk T (s_sk T (s_sk T (q + 1) + 1) + 1)) = 61
  case neg =>
    rw [if_pos d4]
    have x61 := h0_no d4 (by decide)
    have mf := m_mustF (u := u) (r := r) (o := o) hE h9
    obtain ⟨v', nx⟩ := m_numXX (u := u) (q := s_sk T (s_sk T (s_sk T (q + 1) + 1) + 1)) (r := r) (o := o) hE
    refine ⟨r, o, ?_, fun z => by cases z⟩
    simp (disch := assumption) only [↓reduceIte, Int.reduceEq, Int.reduceLT, bdI_s, bdV_s, bdR_s, bdL_s, fx_I, fx_R, fx_B, fx_L, x_M_readThread, zr_r, e2, e3, r2, r3, c7, mt, w2, g1, hh, w48, i1, nab, mt2, hh3, x61, mf, nx, zr_4, z1]
    rfl
  rw [if_neg (fun z => z d4)]
  have k61 : s_h0 61 = 61 := by decide
  rw [d4, k61] at hh3
  have mt3 := m_mustT (u := u) (r := r) (o := o) hE h9
  obtain ⟨y1, y2⟩ := sk_next hT b2 (by rw [d4]; decide)
  obtain ⟨v, nu, hv⟩ := m_num (r := r) (o := o) hE hT hS y2
  generalize hN : s_nv T (s_sk T (s_sk T (s_sk T (s_sk T (q + 1) + 1) + 1) + 1)) = N at *
  by_cases d5 : 1 ≤ N.1 ∧ N.1 ≤ 12
  case neg =>
    rw [if_neg d5]
    rw [if_neg d5] at nu
    refine ⟨r, o, ?_, fun z => by cases z⟩
    simp (disch := assumption) only [↓reduceIte, Int.reduceEq, Int.reduceLT, bdI_s, bdV_s, bdR_s, bdL_s, fx_I, fx_R, fx_B, fx_L, x_M_readThread, zr_r, e2, e3, r2, r3, c7, mt, w2, g1, hh, w48, i1, nab, mt2, hh3, mt3, nu, zr_4, z1]
    rfl
  rw [if_pos d5] at nu ⊢
  rw [hv d5.1] at nu
  have j0 : (0 : Int) ≤ 27 + 4 * n 3 := by clear w2 w48; omega
  have j1 : (27 + 4 * n 3 : Int) < am_len 10 E 152 := by clear w2 w48; omega
  have j2 : (0 : Int) ≤ 27 + 4 * n 3 + 1 := by clear w2 w48; omega
  have j3 : (27 + 4 * n 3 + 1 : Int) < am_len 10 E 152 := by clear w2 w48; omega
  have j4 : (0 : Int) ≤ 27 + 4 * n 3 + 2 := by clear w2 w48; omega
  have j5 : (27 + 4 * n 3 + 2 : Int) < am_len 10 E 152 := by clear w2 w48; omega
  have w1 : w32 (4 * n 3) = 4 * n 3 := w32_sm (by clear w2 w48; omega) (by clear w2 w48; omega)
  have w3 : w32 (27 + 4 * n 3) = 27 + 4 * n 3 := w32_sm (by clear w1 w2 w48; omega) (by clear w1 w2 w48; omega)
  have w4 : w32 (27 + 4 * n 3 + 1) = 27 + 4 * n 3 + 1 := w32_sm (by clear w1 w2 w3 w48; omega) (by clear w1 w2 w3 w48; omega)
  have w5 : w32 (27 + 4 * n 3 + 2) = 27 + 4 * n 3 + 2 := w32_sm (by clear w1 w2 w3 w4 w48; omega) (by clear w1 w2 w3 w4 w48; omega)
  have w6 : w32 (n 3 + 1) = n 3 + 1 := w32_sm (by clear w1 w2 w3 w4 w5 w48; omega) (by clear w1 w2 w3 w4 w5 w48; omega)
  have r3' : ∀ a b l : Int, (s_up (s_up (s_up r (27 + 4 * n 3).toNat a) (27 + 4 * n 3 + 1).toNat b) (27 + 4 * n 3 + 2).toNat l) 3 = n 3 := fun a b l => by
    clear w1 w2 w3 w4 w5 w6 w48
    rw [su_ne (by omega), su_ne (by omega), su_ne (by omega)]
    exact r3
  refine ⟨_, _, ?_, fun _ => PR_thr hV c7 hP⟩
  simp (disch := assumption) only [↓reduceIte, Int.reduceEq, Int.reduceLT, bdI_s, bdV_s, bdR_s, bdL_s, fx_I, fx_R, fx_B, fx_L, x_M_readThread, zr_r, e2, e3, r2, r3, c7, mt, w2, g1, hh, w48, i1, nab, mt2, hh3, mt3, nu, zr_4, w1, w3, w4, w5, w6, zs_5, r3']
  rfl
theorem m_readThing (hE : SE E) (hT : OKt T) (hS : MSt u T) {r o : am_Row} (hV : Vn n) (hP : PR n r o) {q : Nat} (hq : q ≤ T.length) : m_red E u (p_thing T n q) (Rn m_M_readThing 0 [vR (some 149), vB false, vB false] [] E (ZS u (q : Int) 0 r o)) := by
  have hh := m_here (u := u) (f := 0) (r := r) (o := o) hE hT hS hq
  have lt : ∀ c : Int, s_ch T (s_sk T q) = c → c ≠ -1 → s_sk T q < T.length := fun c h hc => s_ch_lt hT (by rw [h]; exact hc)
  have d0 : ¬ (0 : Int) < 0 := by decide
  have d1 : ¬ (1 : Int) < 0 := by decide
  have d2 : ¬ (2 : Int) < 0 := by decide
  have d3 : ¬ (3 : Int) < 0 := by decide
  have d4 : ¬ (4 : Int) < 0 := by decide
  have dm : (-1 : Int) < 0 := by decide
  have k1 : s_h0 112 = 112 := by decide
  have k2 : s_h0 115 = 115 := by decide
  have k3 : s_h0 114 = 114 := by decide
  have k4 : s_h0 110 = 110 := by decide
  have k5 : s_h0 109 = 109 := by decide
  have k6 : s_h0 111 = 111 := by decide
  have k7 : s_h0 116 = 116 := by decide
  unfold p_thing
  by_cases e1 : s_ch T (s_sk T q) = 112
  · rw [if_pos e1]
    obtain ⟨r', o', a, b⟩ := m_readPin (u := u) (K := 0) hE hT hS hV hP (lt _ e1 (by decide))
    refine ⟨r', o', ?_, b⟩
    rw [e1, k1] at hh
    simp (disch := assumption) only [↓reduceIte, Int.reduceEq, Int.reduceLT, bdI_s, bdV_s, bdR_s, bdL_s, fx_I, fx_R, fx_B, fx_L, x_M_readThing, hh, d0, a]
  rw [if_neg e1]
  by_cases e2 : s_ch T (s_sk T q) = 115
  · rw [if_pos e2]
    obtain ⟨r', o', a, b⟩ := m_readPin (u := u) (K := 1) hE hT hS hV hP (lt _ e2 (by decide))
    refine ⟨r', o', ?_, b⟩
    rw [e2, k2] at hh
    simp (disch := assumption) only [↓reduceIte, Int.reduceEq, Int.reduceLT, bdI_s, bdV_s, bdR_s, bdL_s, fx_I, fx_R, fx_B, fx_L, x_M_readThing, hh, d1, a]
  rw [if_neg e2]
  by_cases e3 : s_ch T (s_sk T q) = 114
  · rw [if_pos e3]
    obtain ⟨r', o', a, b⟩ := m_readPin (u := u) (K := 2) hE hT hS hV hP (lt _ e3 (by decide))
    refine ⟨r', o', ?_, b⟩
    rw [e3, k3] at hh
    simp (disch := assumption) only [↓reduceIte, Int.reduceEq, Int.reduceLT, bdI_s, bdV_s, bdR_s, bdL_s, fx_I, fx_R, fx_B, fx_L, x_M_readThing, hh, d2, a]
  rw [if_neg e3]
  by_cases e4 : s_ch T (s_sk T q) = 110
  · rw [if_pos e4]
    obtain ⟨r', o', a, b⟩ := m_readPin (u := u) (K := 3) hE hT hS hV hP (lt _ e4 (by decide))
    refine ⟨r', o', ?_, b⟩
    rw [e4, k4] at hh
    simp (disch := assumption) only [↓reduceIte, Int.reduceEq, Int.reduceLT, bdI_s, bdV_s, bdR_s, bdL_s, fx_I, fx_R, fx_B, fx_L, x_M_readThing, hh, d3, a]
  rw [if_neg e4]
  by_cases e5 : s_ch T (s_sk T q) = 109
  · rw [if_pos e5]
    obtain ⟨r', o', a, b⟩ := m_readPin (u := u) (K := 4) hE hT hS hV hP (lt _ e5 (by decide))
    refine ⟨r', o', ?_, b⟩
    rw [e5, k5] at hh
    simp (disch := assumption) only [↓reduceIte, Int.reduceEq, Int.reduceLT, bdI_s, bdV_s, bdR_s, bdL_s, fx_I, fx_R, fx_B, fx_L, x_M_readThing, hh, d4, a]
  rw [if_neg e5]
  by_cases e6 : s_ch T (s_sk T q) = 111
  · rw [if_pos e6]
    obtain ⟨r', o', a, b⟩ := m_readHole (u := u) hE hT hS hV hP (lt _ e6 (by decide))
    refine ⟨r', o', ?_, b⟩
    rw [e6, k6] at hh
    simp (disch := assumption) only [↓reduceIte, Int.reduceEq, Int.reduceLT, bdI_s, bdV_s, bdR_s, bdL_s, fx_I, fx_R, fx_B, fx_L, x_M_readThing, hh, dm, a]
  rw [if_neg e6]
  by_cases e7 : s_ch T (s_sk T q) = 116
  · rw [if_pos e7]
    obtain ⟨r', o', a, b⟩ := m_readThread (u := u) hE hT hS hV hP (lt _ e7 (by decide))
    refine ⟨r', o', ?_, b⟩
    rw [e7, k7] at hh
    simp (disch := assumption) only [↓reduceIte, Int.reduceEq, Int.reduceLT, bdI_s, bdV_s, bdR_s, bdL_s, fx_I, fx_R, fx_B, fx_L, x_M_readThing, hh, dm, a]
  rw [if_neg e7]
  refine ⟨r, o, ?_, fun z => by cases z⟩
  have z0 : (1 : Int) = 0 ∨ (1 : Int) = 1 := Or.inr rfl
  simp (disch := assumption) only [↓reduceIte, Int.reduceEq, Int.reduceLT, bdI_s, bdV_s, bdR_s, bdL_s, fx_I, fx_R, fx_B, fx_L, x_M_readThing, hh, h0_no e1 (by decide), h0_no e2 (by decide), h0_no e3 (by decide), h0_no e4 (by decide), h0_no e5 (by decide), h0_no e6 (by decide), h0_no e7 (by decide), dm, zs_4]
  rfl

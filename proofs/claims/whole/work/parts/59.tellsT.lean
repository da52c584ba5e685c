/-! The class tells holes, threads, a whole text. -/
variable {E : am_E} {u : am_M} {k : Nat} {n : am_Row} {T : List Int}
theorem c_tellsHole (hE : SE E) (hT : OKt T) {q : Nat} (h : TP u T q) (hq : q < T.length) (ht : TC E u n) : c_told E u (p_hole T n q) (Rn m_T_tellsHole 0 [vR (some 138), vR (some 8), vB false] [] E u) T := by
  have cu8 := cuB_8
  have hV := ht.2
  have l120 := hT.1
  have hp2 := h.2
  have ok := p_cell_ok hV hT (q := q + 1) hq
  have ok2 := p_hole_ok hV hT hq
  unfold p_hole at ok2 ⊢
  have hq6 : q < 1000000 := by omega
  have fc := c_freeCell (q := q + 1) hE hT (h.up (q + 1)) hq (ht.pl (v := ((q + 1 : Nat) : Int)))
  rw [up_up] at fc
  by_cases h4 : (p_cell T n (q + 1)).1 = -4
  · rw [if_pos h4]
    refine c_told_pl h rfl ?_
    rw [h4] at fc
    simp (disch := assumption) only [↓reduceIte, Int.reduceEq, Int.reduceLT, bdI_s, bdV_s, bdR_s, bdL_s, fx_I, fx_R, fx_B, fx_L, x_T_tellsHole, hp2, w_suc hq6, fc]
  rw [if_neg h4] at ok2 ⊢
  obtain ⟨ok1, okb, okc⟩ := ok
  obtain ⟨c1, c2, c3, c4, c5⟩ := okc h4
  generalize hC : p_cell T n (q + 1) = C at *
  have ht' := ht.pl (v := ((C.2 : Nat) : Int))
  have e5 : (am_up u 138 2 ((C.2 : Nat) : Int)) 8 5 = u 8 5 := by rw [up_fn (by omega)]
  obtain ⟨u', e', r', f'⟩ := c_opens ht'.1 (c := C.1) c1 (by rw [s_cells_up (by omega)]; exact c2) (fun p p0 p1 => by rw [su_ne (by omega)] at p1; rw [s_C_up (by omega)]; exact c4 p p0 p1)
  have g5 : u' 8 5 = u 8 5 := by
    have a := r'.2.2.1.2.2.2.2.2.1
    rw [su_ne (by omega), su_eq, e5] at a
    exact a
  obtain ⟨vv, -, -⟩ := ok2.2.2 rfl
  refine ⟨u', ?_, TP_FR (h.up C.2) f', fun i i0 i1 => by rw [f' i (by omega), up_fn i1], fun j hj => by rw [f' 138 (by omega), up_nj hj], g5, fun _ => ⟨⟨hE, cuB_8, ?_, Vn_draw vv _⟩, vv⟩⟩
  · simp (disch := assumption) only [↓reduceIte, Int.reduceEq, Int.reduceLT, bdI_s, bdV_s, bdR_s, bdL_s, fx_I, fx_R, fx_B, fx_L, x_T_tellsHole, hp2, w_suc hq6, fc, h4, e']
    rfl
  · rw [g5]
    have a := r'.2.2.1
    rw [e5, su_cm (by omega)] at a
    exact a
theorem c_tellsThread (hE : SE E) (hT : OKt T) {q : Nat} (h : TP u T q) (hq : q < T.length) (ht : TC E u n) : c_told E u (p_thr T n q) (Rn m_T_tellsThread 0 [vR (some 138), vR (some 8), vB false, vB false, vB false] [] E u) T := by
  have cu8 := cuB_8
  have hV := ht.2
  have h2 := hV.2.2.1
  have h3 := hV.2.2.2.1
  have r3 : u 8 3 = n 3 := by rw [ht.1.2.2.1.2.2.2.1, su_ne (by omega)]
  have r2 : ∀ x : Int, (am_up u 138 2 x) 8 2 = n 2 := fun x => by rw [up_fn (by omega), ht.1.2.2.1.2.2.1, su_ne (by omega)]
  have l120 := hT.1
  have hp2 := h.2
  have ok2 := p_thr_ok hV hT hq
  have s1 := s_sk_le (T := T) (i := q + 1) hq
  have hq6 : q < 1000000 := by omega
  have w2 : w32 (n 2 - 1) = n 2 - 1 := w32_sm (by omega) (by omega)
  unfold p_thr at ok2 ⊢
  by_cases h6 : 6 ≤ n 3
  · rw [if_pos h6]
    refine c_told_pl h rfl ?_
    have c : ¬ n 3 < 6 := by clear w2; omega
    rw [up_self hp2]
    simp (disch := assumption) only [↓reduceIte, Int.reduceEq, Int.reduceLT, bdI_s, bdV_s, bdR_s, bdL_s, fx_I, fx_R, fx_B, fx_L, x_T_tellsThread, r3, c]
  rw [if_neg h6] at ok2 ⊢
  have c6 : n 3 < 6 := by clear w2; omega
  have h1 := h.up (q + 1)
  by_cases d1 : s_dg T 0 (n 2 - 1) (s_sk T (q + 1))
  case neg =>
    rw [if_pos d1]
    refine c_told_pl h rfl ?_
    have g := c_digF hE hT h1 hq d1
    rw [up_up] at g
    simp (disch := assumption) only [↓reduceIte, Int.reduceEq, Int.reduceLT, bdI_s, bdV_s, bdR_s, bdL_s, fx_I, fx_R, fx_B, fx_L, x_T_tellsThread, r3, c6, hp2, w_suc hq6, r2, w2, g]
  rw [if_neg (fun z => z d1)] at ok2 ⊢
  have g1 := c_digT hE hT h1 hq d1
  rw [up_up] at g1
  obtain ⟨a1, a2⟩ := sk_next (q := q + 1) hT hq (dg_ne (Int.le_refl 0) d1)
  have na : ¬ s_ch T (s_sk T (q + 1)) - 48 = -4 := by have := d1.1; clear w2; omega
  have hh2 := h.up (s_sk T (q + 1) + 1)
  have s2 := s_sk_le a2
  by_cases d2 : s_dg T 0 (n 2 - 1) (s_sk T (s_sk T (q + 1) + 1))
  case neg =>
    rw [if_pos (Or.inl d2)]
    refine c_told_pl h rfl ?_
    have g := c_digF hE hT hh2 a2 d2
    rw [up_up] at g
    have ne : ¬ (-4 : Int) = s_ch T (s_sk T (q + 1)) - 48 := fun z => na z.symm
    simp (disch := assumption) only [↓reduceIte, Int.reduceEq, Int.reduceLT, bdI_s, bdV_s, bdR_s, bdL_s, fx_I, fx_R, fx_B, fx_L, x_T_tellsThread, r3, c6, hp2, w_suc hq6, r2, w2, g1, na, g, ne]
  have g2 := c_digT hE hT hh2 a2 d2
  rw [up_up] at g2
  obtain ⟨b1, b2⟩ := sk_next hT a2 (dg_ne (Int.le_refl 0) d2)
  have nb : ¬ s_ch T (s_sk T (s_sk T (q + 1) + 1)) - 48 = -4 := by have := d2.1; clear w2; omega
  by_cases d3 : s_ch T (s_sk T (s_sk T (q + 1) + 1)) = s_ch T (s_sk T (q + 1))
  · rw [if_pos (Or.inr d3)]
    refine c_told_pl h rfl ?_
    have wm : w32 (((s_sk T (s_sk T (q + 1) + 1) + 1 : Nat) : Int) - 1) = ((s_sk T (s_sk T (q + 1) + 1) : Nat) : Int) := w_subn (q := s_sk T (s_sk T (q + 1) + 1) + 1) (b := 1) (by clear w2; omega) (by clear w2; omega)
    rw [d3] at g2
    simp (disch := assumption) only [↓reduceIte, Int.reduceEq, Int.reduceLT, bdI_s, bdV_s, bdR_s, bdL_s, fx_I, fx_R, fx_B, fx_L, x_T_tellsThread, r3, c6, hp2, w_suc hq6, r2, w2, g1, na, g2, up_eq, wm, up_up]
  rw [if_neg (fun z => by rcases z with z | z; exact z d2; exact d3 z)] at ok2 ⊢
  have nab : ¬ s_ch T (s_sk T (s_sk T (q + 1) + 1)) - 48 = s_ch T (s_sk T (q + 1)) - 48 := by clear w2; omega
  have hh3 := h.up (s_sk T (s_sk T (q + 1) + 1) + 1)
  by_cases d4 : s_ch T (s_sk T (s_sk T (s_sk T (q + 1) + 1) + 1)) = 61
  case neg =>
    rw [if_pos d4]
    refine c_told_pl h rfl ?_
    have g := c_pastF hE hT hh3 b2 d4
    rw [up_up] at g
    simp (disch := assumption) only [↓reduceIte, Int.reduceEq, Int.reduceLT, bdI_s, bdV_s, bdR_s, bdL_s, fx_I, fx_R, fx_B, fx_L, x_T_tellsThread, r3, c6, hp2, w_suc hq6, r2, w2, g1, na, g2, nab, nb, g]
  rw [if_neg (fun z => z d4)] at ok2 ⊢
  have g3 := c_pastT hE hT hh3 b2 d4
  rw [up_up] at g3
  obtain ⟨c1, c2⟩ := sk_next hT b2 (by rw [d4]; decide)
  have hh4 := h.up (s_sk T (s_sk T (s_sk T (q + 1) + 1) + 1) + 1)
  have nu := c_num hE hT hh4 c2
  rw [up_up, up_up] at nu
  generalize hN : s_nv T (s_sk T (s_sk T (s_sk T (s_sk T (q + 1) + 1) + 1) + 1)) = N at *
  by_cases d5 : 1 ≤ N.1 ∧ N.1 ≤ 12
  case neg =>
    rw [if_neg d5]
    rw [if_neg d5] at nu
    refine c_told_pl h rfl ?_
    simp (disch := assumption) only [↓reduceIte, Int.reduceEq, Int.reduceLT, bdI_s, bdV_s, bdR_s, bdL_s, fx_I, fx_R, fx_B, fx_L, x_T_tellsThread, r3, c6, hp2, w_suc hq6, r2, w2, g1, na, g2, nab, nb, g3, nu]
  rw [if_pos d5] at ok2 nu ⊢
  have nn : ¬ N.1 = -4 := by clear w2; omega
  have ht' := ht.pl (v := ((N.2 : Nat) : Int))
  have e5 : (am_up u 138 2 ((N.2 : Nat) : Int)) 8 5 = u 8 5 := by rw [up_fn (by omega)]
  obtain ⟨u', e', r', f', g'⟩ := c_addThread (u := am_up u 138 2 ((N.2 : Nat) : Int)) (a := s_ch T (s_sk T (q + 1)) - 48) (b := s_ch T (s_sk T (s_sk T (q + 1) + 1)) - 48) (l := N.1) hE cuB_8 ht'.1.2.2.1 ht'.1.2.2.2 (by rw [su_ne (by omega)]; exact c6) (fun z => nab z.symm)
  rw [su_ne (by omega)] at e'
  rw [e5] at r' g'
  obtain ⟨vv, -, -⟩ := ok2.2.2 rfl
  refine ⟨u', ?_, TP_FR (h.up N.2) f', fun i i0 i1 => by rw [f' i (by omega), up_fn i1], fun j hj => by rw [f' 138 (by omega), up_nj hj], g', fun _ => ⟨⟨hE, cuB_8, ?_, Vn_draw vv _⟩, vv⟩⟩
  · simp (disch := assumption) only [↓reduceIte, Int.reduceEq, Int.reduceLT, bdI_s, bdV_s, bdR_s, bdL_s, fx_I, fx_R, fx_B, fx_L, x_T_tellsThread, r3, c6, hp2, w_suc hq6, r2, w2, g1, na, g2, nab, nb, g3, nu, nn, e']
    rfl
  · rw [g']
    have ecm : s_addThr (s_up n 5 (u 8 5)) (s_ch T (s_sk T (q + 1)) - 48) (s_ch T (s_sk T (s_sk T (q + 1) + 1)) - 48) N.1 = s_up (s_addThr n (s_ch T (s_sk T (q + 1)) - 48) (s_ch T (s_sk T (s_sk T (q + 1) + 1)) - 48) N.1) 5 (u 8 5) := by
      unfold s_addThr
      clear w2 nu
      rw [su_ne (show (3 : Nat) ≠ 5 by omega), su_cm (i := 5) (by omega), su_cm (i := 5) (by omega), su_cm (i := 5) (by omega), su_cm (i := 5) (by omega), su_cm (i := 5) (by omega)]
    show RC u' 8 (s_up (s_addThr n (s_ch T (s_sk T (q + 1)) - 48) (s_ch T (s_sk T (s_sk T (q + 1) + 1)) - 48) N.1) 5 (u 8 5))
    rw [← ecm]
    exact r'
theorem c_tellsThing (hE : SE E) (hT : OKt T) {q : Nat} (h : TP u T q) (hq : q ≤ T.length) (ht : TC E u n) : c_told E u (p_thing T n q) (Rn m_T_tellsThing 0 [vR (some 138), vR (some 8)] [] E u) T := by
  have cu8 := cuB_8
  have nx := c_nx hE hT h hq
  have hp := h.up (s_sk T q)
  have ht' := ht.pl (v := ((s_sk T q : Nat) : Int))
  have lift : ∀ (z : Bool × Nat × am_Row) (o : am_Z), c_told E (am_up u 138 2 ((s_sk T q : Nat) : Int)) z o T → c_told E u z o T := fun z o ⟨u', a, b, c, d, e, f⟩ => ⟨u', a, b, fun i i0 i1 => by rw [c i i0 i1, up_fn i1], fun j hj => by rw [d j hj, up_nj hj], by rw [e, up_fn (by omega)], f⟩
  have lt : ∀ c : Int, s_ch T (s_sk T q) = c → c ≠ -1 → s_sk T q < T.length := fun c h hc => s_ch_lt hT (by rw [h]; exact hc)
  unfold p_thing
  by_cases e1 : s_ch T (s_sk T q) = 112
  · rw [if_pos e1]
    obtain ⟨u', a, b⟩ := lift _ _ (c_tellsPin (K := 0) hE hT hp (lt _ e1 (by decide)) ht' (by decide))
    refine ⟨u', ?_, b⟩
    rw [e1] at nx
    simp (disch := assumption) only [↓reduceIte, Int.reduceEq, Int.reduceLT, bdI_s, bdV_s, bdR_s, bdL_s, fx_I, fx_R, fx_B, fx_L, x_T_tellsThing, nx, a]
  rw [if_neg e1]
  by_cases e2 : s_ch T (s_sk T q) = 115
  · rw [if_pos e2]
    obtain ⟨u', a, b⟩ := lift _ _ (c_tellsPin (K := 1) hE hT hp (lt _ e2 (by decide)) ht' (by decide))
    refine ⟨u', ?_, b⟩
    rw [e2] at nx
    simp (disch := assumption) only [↓reduceIte, Int.reduceEq, Int.reduceLT, bdI_s, bdV_s, bdR_s, bdL_s, fx_I, fx_R, fx_B, fx_L, x_T_tellsThing, nx, a]
  rw [if_neg e2]
  by_cases e3 : s_ch T (s_sk T q) = 114
  · rw [if_pos e3]
    obtain ⟨u', a, b⟩ := lift _ _ (c_tellsPin (K := 2) hE hT hp (lt _ e3 (by decide)) ht' (by decide))
    refine ⟨u', ?_, b⟩
    rw [e3] at nx
    simp (disch := assumption) only [↓reduceIte, Int.reduceEq, Int.reduceLT, bdI_s, bdV_s, bdR_s, bdL_s, fx_I, fx_R, fx_B, fx_L, x_T_tellsThing, nx, a]
  rw [if_neg e3]
  by_cases e4 : s_ch T (s_sk T q) = 110
  · rw [if_pos e4]
    obtain ⟨u', a, b⟩ := lift _ _ (c_tellsPin (K := 3) hE hT hp (lt _ e4 (by decide)) ht' (by decide))
    refine ⟨u', ?_, b⟩
    rw [e4] at nx
    simp (disch := assumption) only [↓reduceIte, Int.reduceEq, Int.reduceLT, bdI_s, bdV_s, bdR_s, bdL_s, fx_I, fx_R, fx_B, fx_L, x_T_tellsThing, nx, a]
  rw [if_neg e4]
  by_cases e5 : s_ch T (s_sk T q) = 109
  · rw [if_pos e5]
    obtain ⟨u', a, b⟩ := lift _ _ (c_tellsPin (K := 4) hE hT hp (lt _ e5 (by decide)) ht' (by decide))
    refine ⟨u', ?_, b⟩
    rw [e5] at nx
    simp (disch := assumption) only [↓reduceIte, Int.reduceEq, Int.reduceLT, bdI_s, bdV_s, bdR_s, bdL_s, fx_I, fx_R, fx_B, fx_L, x_T_tellsThing, nx, a]
  rw [if_neg e5]
  by_cases e6 : s_ch T (s_sk T q) = 111
  · rw [if_pos e6]
    obtain ⟨u', a, b⟩ := lift _ _ (c_tellsHole hE hT hp (lt _ e6 (by decide)) ht')
    refine ⟨u', ?_, b⟩
    rw [e6] at nx
    simp (disch := assumption) only [↓reduceIte, Int.reduceEq, Int.reduceLT, bdI_s, bdV_s, bdR_s, bdL_s, fx_I, fx_R, fx_B, fx_L, x_T_tellsThing, nx, a]
  rw [if_neg e6]
  by_cases e7 : s_ch T (s_sk T q) = 116
  · rw [if_pos e7]
    obtain ⟨u', a, b⟩ := lift _ _ (c_tellsThread hE hT hp (lt _ e7 (by decide)) ht')
    refine ⟨u', ?_, b⟩
    rw [e7] at nx
    simp (disch := assumption) only [↓reduceIte, Int.reduceEq, Int.reduceLT, bdI_s, bdV_s, bdR_s, bdL_s, fx_I, fx_R, fx_B, fx_L, x_T_tellsThing, nx, a]
  rw [if_neg e7]
  refine c_told_pl h rfl ?_
  have e8 : ¬ s_ch T (s_sk T q) = 113 ∨ s_ch T (s_sk T q) = 113 := Classical.em _ |>.symm
  rcases e8 with e8 | e8
  · simp (disch := assumption) only [↓reduceIte, Int.reduceEq, Int.reduceLT, bdI_s, bdV_s, bdR_s, bdL_s, fx_I, fx_R, fx_B, fx_L, x_T_tellsThing, nx, e1, e2, e3, e4, e5, e6, e7, e8]
  · rw [e8] at nx
    simp (disch := assumption) only [↓reduceIte, Int.reduceEq, Int.reduceLT, bdI_s, bdV_s, bdR_s, bdL_s, fx_I, fx_R, fx_B, fx_L, x_T_tellsThing, nx]
theorem TC_congr {v : am_M} (h : TC E u n) (f : ∀ i, 8 ≤ i → i < 15 → v i = u i) : TC E v n := by
  have e : v 8 = u 8 := f 8 (by omega) (by omega)
  refine ⟨⟨h.1.1, h.1.2.1, ?_, by rw [e]; exact h.1.2.2.2⟩, h.2⟩
  rw [e]
  exact RC_congr (fun z z0 z1 => f z (by omega) (by omega)) h.1.2.2.1
theorem c_allT (hE : SE E) (hT : OKt T) {l2 l3 : Int} : ∀ (f q : Nat) (u : am_M) (n : am_Row) (k : Nat), f + k = 120 → q ≤ T.length → TP u T q → TC E u n → c_told E u (p_all T f q n) (Rn m_T_tells 55 [vR (some 138), vR (some 8), vI l2, vI l3, vI (k : Int)] [] E u) T := by
  intro f
  induction f with
  | zero =>
    intro q u n k hk hq h ht
    have e : k = 120 := by omega
    subst e
    refine ⟨u, ?_, h, fun _ _ _ => rfl, fun _ _ => rfl, rfl, fun _ => ht⟩
    rw [h_T_tells_55]
    simp (disch := assumption) only [↓reduceIte, Int.reduceEq, Int.reduceLT, bdI_s, bdV_s, bdR_s, bdL_s, fx_I, fx_R, fx_B, fx_L, x_T_tells, show ¬ ((120 : Nat) : Int) < 120 by omega]
    rfl
  | succ f ih =>
    intro q u n k hk hq h ht
    have lt : (k : Int) < 120 := by omega
    have k6 : k < 1000000 := by omega
    have nx := c_nx hE hT h hq
    have sl := s_sk_le hq
    simp only [p_all]
    by_cases e1 : s_ch T (s_sk T q) = -1
    · rw [if_pos e1]
      refine ⟨am_up u 138 2 ((s_sk T q : Nat) : Int), ?_, h.up _, fun i _ hi => up_fn hi, fun j hj => up_nj hj, by rw [up_fn (by omega)], fun _ => ht.pl⟩
      rw [h_T_tells_55]
      simp (disch := assumption) only [↓reduceIte, Int.reduceEq, Int.reduceLT, bdI_s, bdV_s, bdR_s, bdL_s, fx_I, fx_R, fx_B, fx_L, x_T_tells, lt, nx, e1]
      rfl
    rw [if_neg e1]
    have hp := h.up (s_sk T q)
    have ss : s_sk T (s_sk T q) = s_sk T q := by
      have key : ∀ d q : Nat, q + d = T.length → s_sk T (s_sk T q) = s_sk T q := by
        intro d
        induction d with
        | zero =>
          intro q hq
          have e : s_sk T q = q := s_sk_no (by rw [s_ch_end (by omega)]; decide)
          rw [e, e]
        | succ d ihd =>
          intro q hq
          by_cases e : s_ch T q = 32
          · rw [s_sk_32 hT e]; exact ihd (q + 1) (by omega)
          · rw [s_sk_no e, s_sk_no e]
      exact key (T.length - q) q (by omega)
    by_cases e2 : s_ch T (s_sk T q) = 59
    case neg =>
      rw [if_pos e2]
      refine c_told_pl h rfl ?_
      have g := c_pastF (c := 59) hE hT hp sl.2 (by rw [ss]; exact e2)
      rw [up_up, ss] at g
      rw [h_T_tells_55]
      simp (disch := assumption) only [↓reduceIte, Int.reduceEq, Int.reduceLT, bdI_s, bdV_s, bdR_s, bdL_s, fx_I, fx_R, fx_B, fx_L, x_T_tells, lt, nx, e1, g]
    rw [if_neg (fun z => z e2)]
    have g := c_pastT (c := 59) hE hT hp sl.2 (by rw [ss]; exact e2)
    rw [up_up, ss] at g
    obtain ⟨a1, a2⟩ := sk_next hT hq e1
    have hp2 := h.up (s_sk T q + 1)
    have okT := p_thing_ok (n := n) ht.2 hT a2
    obtain ⟨u1, x1, x2, x3, x4, x5, x6⟩ := c_tellsThing (q := s_sk T q + 1) hE hT hp2 a2 (ht.pl (v := ((s_sk T q + 1 : Nat) : Int)))
    cases hz : (p_thing T n (s_sk T q + 1)).1 with
    | false =>
      rw [if_neg (by decide)]
      rw [hz, bI_f] at x1
      refine ⟨u1, ?_, x2, fun i i0 i1 => by rw [x3 i i0 i1, up_fn i1], fun j hj => by rw [x4 j hj, up_nj hj], by rw [x5, up_fn (by omega)], fun z => by rw [hz] at z; cases z⟩
      rw [h_T_tells_55, hz]
      simp (disch := assumption) only [↓reduceIte, Int.reduceEq, Int.reduceLT, bdI_s, bdV_s, bdR_s, bdL_s, fx_I, fx_R, fx_B, fx_L, x_T_tells, lt, nx, e1, g, x1]
      rfl
    | true =>
      rw [if_pos rfl]
      rw [hz, bI_t] at x1
      have tc := x6 hz
      obtain ⟨u2, y1, y2, y3, y4, y5, y6⟩ := ih (p_thing T n (s_sk T q + 1)).2.1 u1 (p_thing T n (s_sk T q + 1)).2.2 (k + 1) (by omega) okT.1 x2 tc
      refine ⟨u2, ?_, y2, fun i i0 i1 => by rw [y3 i i0 i1, x3 i i0 i1, up_fn i1], fun j hj => by rw [y4 j hj, x4 j hj, up_nj hj], by rw [y5, x5, up_fn (by omega)], y6⟩
      rw [← y1, h_T_tells_55]
      simp (disch := assumption) only [↓reduceIte, Int.reduceEq, Int.reduceLT, bdI_s, bdV_s, bdR_s, bdL_s, fx_I, fx_R, fx_B, fx_L, x_T_tells, lt, nx, e1, g, x1, w_suc k6]
theorem c_tells (hE : SE E) (hT : OKt T) {b : Nat} (h : TP u T b) (n : am_Row) : c_told E u (p_tells T n) (Rn m_T_tells 0 [vR (some 138), vR (some 8), vB false, vB false, vB false] [] E u) T := by
  have cu8 := cuB_8
  have h0 := h.up 0
  have l120 := hT.1
  have hz : am_up u 138 2 0 = am_up u 138 2 ((0 : Nat) : Int) := rfl
  have s0 := s_sk_le (T := T) (i := 0) (Nat.zero_le _)
  unfold p_tells
  by_cases d1 : s_dg T 3 7 (s_sk T 0)
  case neg =>
    rw [if_pos d1]
    refine c_told_pl h rfl ?_
    have g := c_digF hE hT h0 (Nat.zero_le _) d1
    rw [up_up, ← hz] at g
    simp (disch := assumption) only [↓reduceIte, Int.reduceEq, Int.reduceLT, bdI_s, bdV_s, bdR_s, bdL_s, fx_I, fx_R, fx_B, fx_L, x_T_tells, g]
  rw [if_neg (fun z => z d1)]
  have g1 := c_digT hE hT h0 (Nat.zero_le _) d1
  rw [up_up, ← hz] at g1
  obtain ⟨a1, a2⟩ := sk_next hT (Nat.zero_le _) (dg_ne (by decide) d1)
  have na : ¬ s_ch T (s_sk T 0) - 48 = -4 := by have := d1.1; omega
  have h1 := h.up (s_sk T 0 + 1)
  by_cases d2 : s_ch T (s_sk T (s_sk T 0 + 1)) = 120
  case neg =>
    rw [if_pos d2]
    refine c_told_pl h rfl ?_
    have g := c_pastF hE hT h1 a2 d2
    rw [up_up] at g
    simp (disch := assumption) only [↓reduceIte, Int.reduceEq, Int.reduceLT, bdI_s, bdV_s, bdR_s, bdL_s, fx_I, fx_R, fx_B, fx_L, x_T_tells, g1, na, g]
  rw [if_neg (fun z => z d2)]
  have g2 := c_pastT hE hT h1 a2 d2
  rw [up_up] at g2
  obtain ⟨b1, b2⟩ := sk_next hT a2 (by rw [d2]; decide)
  have h2 := h.up (s_sk T (s_sk T 0 + 1) + 1)
  by_cases d3 : s_dg T 3 7 (s_sk T (s_sk T (s_sk T 0 + 1) + 1))
  case neg =>
    rw [if_pos d3]
    refine c_told_pl h rfl ?_
    have g := c_digF hE hT h2 b2 d3
    rw [up_up] at g
    simp (disch := assumption) only [↓reduceIte, Int.reduceEq, Int.reduceLT, bdI_s, bdV_s, bdR_s, bdL_s, fx_I, fx_R, fx_B, fx_L, x_T_tells, g1, na, g2, g]
  rw [if_neg (fun z => z d3)]
  have g3 := c_digT hE hT h2 b2 d3
  rw [up_up] at g3
  obtain ⟨c1, c2⟩ := sk_next hT b2 (dg_ne (by decide) d3)
  have nc : ¬ s_ch T (s_sk T (s_sk T (s_sk T 0 + 1) + 1)) - 48 = -4 := by have := d3.1; omega
  have h3 := h.up (s_sk T (s_sk T (s_sk T 0 + 1) + 1) + 1)
  obtain ⟨u1, e1, f1, p5, r1⟩ := c_empties (u := am_up u 138 2 ((s_sk T (s_sk T (s_sk T 0 + 1) + 1) + 1 : Nat) : Int)) hE cuB_8 (s_ch T (s_sk T 0) - 48) (s_ch T (s_sk T (s_sk T (s_sk T 0 + 1) + 1)) - 48)
  have e5 : (am_up u 138 2 ((s_sk T (s_sk T (s_sk T 0 + 1) + 1) + 1 : Nat) : Int)) 8 5 = u 8 5 := by rw [up_fn (by omega)]
  have vf := Vn_fresh (n := n) d1 d3
  have rr := r1 (s_up n 5 (u 8 5)) (by rw [su_eq, e5])
  have ef : s_fresh (s_up n 5 (u 8 5)) (s_ch T (s_sk T 0) - 48) (s_ch T (s_sk T (s_sk T (s_sk T 0 + 1) + 1)) - 48) = s_up (s_fresh n (s_ch T (s_sk T 0) - 48) (s_ch T (s_sk T (s_sk T (s_sk T 0 + 1) + 1)) - 48)) 5 (u 8 5) := by
    funext x
    unfold s_fresh s_up
    by_cases x5 : x = 5
    · subst x5; rfl
    · rw [if_neg x5, if_neg x5]
  rw [ef] at rr
  have tc : TC E u1 (s_fresh n (s_ch T (s_sk T 0) - 48) (s_ch T (s_sk T (s_sk T (s_sk T 0 + 1) + 1)) - 48)) := by
    have u5 : u1 8 5 = u 8 5 := by rw [p5, e5]
    exact ⟨⟨hE, cuB_8, by rw [u5]; exact rr, by rw [u5]; exact Vn_draw vf _⟩, vf⟩
  obtain ⟨u2, y1, y2, y3, y4, y5, y6⟩ := c_allT (l2 := s_ch T (s_sk T 0) - 48) (l3 := s_ch T (s_sk T (s_sk T (s_sk T 0 + 1) + 1)) - 48) hE hT 120 (s_sk T (s_sk T (s_sk T 0 + 1) + 1) + 1) u1 _ 0 rfl c2 (TP_FR h3 f1) tc
  refine ⟨u2, ?_, y2, fun i i0 i1 => by rw [y3 i i0 i1, f1 i (by omega), up_fn i1], fun j hj => by rw [y4 j hj, f1 138 (by omega), up_nj hj], by rw [y5, p5, e5], y6⟩
  rw [← y1]
  simp (disch := assumption) only [↓reduceIte, Int.reduceEq, Int.reduceLT, bdI_s, bdV_s, bdR_s, bdL_s, fx_I, fx_R, fx_B, fx_L, x_T_tells, g1, na, g2, g3, nc, e1]
  rfl

/-! Calls: drift, out, put, cut, course, undo, seed, images. -/
variable {E : am_E} {u : am_M} {k : Nat} {n : am_Row}
theorem l_draw {d : Int} (d0 : 0 ≤ d) (d1 : d ≤ 2147483647) : w32 (l_and (w64 (w64 (d * 1103515245) + 12345)) 2147483647) = s_draw d := by
  have e1 : w64 (d * 1103515245) = d * 1103515245 := w64_of (by omega) (by omega)
  have e2 : w64 (d * 1103515245 + 12345) = d * 1103515245 + 12345 := w64_of (by omega) (by omega)
  rw [e1, e2]
  obtain ⟨a, ha⟩ : ∃ a : Nat, d * 1103515245 + 12345 = (a : Int) := ⟨(d * 1103515245 + 12345).toNat, by omega⟩
  have hb : a < 9223372036854775808 := by omega
  have e3 : l_and (a : Int) 2147483647 = ((a &&& 2147483647 : Nat) : Int) := l_and_n hb (by decide)
  have e4 : a &&& 2147483647 = a % 2147483648 := Nat.and_two_pow_sub_one_eq_mod a 31
  unfold s_draw
  rw [ha, e3, e4, w32_of (by omega) (by omega)]
  omega
theorem dr_1 {d : Int} (d0 : 0 ≤ d) (d1 : d ≤ 2147483647) : w32 (d / 65536) = d / 65536 := w32_of (by omega) (by omega)
theorem dr_2 {d : Int} (d0 : 0 ≤ d) (d1 : d ≤ 2147483647) : w32 (d / 128) = d / 128 := w32_of (by omega) (by omega)
theorem dr_3 {d : Int} (d0 : 0 ≤ d) (d1 : d ≤ 2147483647) : w32 (d / 128 % 3) = d / 128 % 3 := w32_of (by omega) (by omega)
theorem dr_4 {d : Int} (d0 : 0 ≤ d) : 0 ≤ d / 65536 ∧ 0 ≤ d / 128 := by omega
theorem dr_5 {c K : Int} (c0 : 0 ≤ c) (c1 : c < K) (hK : K ≤ 49) : K ≠ 0 ∧ 0 ≤ 51 + c ∧ 51 + c < 100 := by omega
theorem dr_6 {c : Int} (c0 : 0 ≤ 51 + c) (c1 : 51 + c < 100) : w32 (51 + c) = 51 + c ∧ w32 c = c := ⟨w32_of (by omega) (by omega), w32_of (by omega) (by omega)⟩
theorem w_suc {i : Nat} (h : i < 1000000) : w32 ((i : Int) + 1) = ((i + 1 : Nat) : Int) := by rw [w32_of (by omega) (by omega)]; omega
theorem m_driftStep (hE : SE E) {r : am_Row} {v u1 : am_M} (c1 : MU E u1 r) (d0 : 0 ≤ r 5) (d1 : r 5 ≤ 2147483647) {M i : Nat} (hi : i < M) (hM : M ≤ 40) (b : am_V) (e1 : Rn m_M_notes 0 [vR (some 149), vB false, vB false] [] E v = some (none, E, u1)) (st : Rn m_M_goesBy 0 [vR (some 149), vB false, vB false] [] E (sN u1 (s_dust r)) = some (none, E, sN u1 (s_day (s_dust r)))) : ∃ x, Rn m_M_drift 33 [vR (some 149), vI (M : Int), vI (i : Int), b] [] E v = Rn m_M_drift 33 [vR (some 149), vI (M : Int), vI ((i + 1 : Nat) : Int), x] [] E (sN u1 (s_day (s_dust r))) := by
  have al := (al_m hE).1
  have n1 := c1.2.1
  have e5 : (5 : Int).toNat = 5 := rfl
  have dr := l_draw d0 d1
  have din := s_draw_in (r 5)
  have hV1 := Vn_draw c1.2.2 (s_draw (r 5))
  have q1 : MU E (sN u1 (s_up r 5 (s_draw (r 5)))) (s_up r 5 (s_draw (r 5))) := c1.to hV1
  have hcl := s_cells_of hV1
  have hcc : 0 ≤ s_dustC (s_up r 5 (s_draw (r 5))) ∧ s_dustC (s_up r 5 (s_draw (r 5))) < s_cells (s_up r 5 (s_draw (r 5))) := ⟨Int.emod_nonneg _ (by omega), Int.emod_lt_of_pos _ (by omega)⟩
  have hcells := m_cells q1
  have hpo := m_pinOn q1 (s_dustC (s_up r 5 (s_draw (r 5))))
  have r5 : s_up r 5 (s_draw (r 5)) 5 = s_draw (r 5) := su_eq
  have ed : s_draw (r 5) / 65536 % s_cells (s_up r 5 (s_draw (r 5))) = s_dustC (s_up r 5 (s_draw (r 5))) := by unfold s_dustC; rw [r5]
  have f1 := dr_1 din.1 din.2
  have f2 := dr_2 din.1 din.2
  have f3 := dr_3 din.1 din.2
  have f4 := dr_4 din.1
  have t2 : (s_draw (r 5) / 65536).tmod (s_cells (s_up r 5 (s_draw (r 5)))) = s_dustC (s_up r 5 (s_draw (r 5))) := by rw [← ed]; exact tmod_nn f4.1
  have t3 : (s_draw (r 5) / 128).tmod 3 = s_draw (r 5) / 128 % 3 := tmod_nn f4.2
  have t5 : (s_draw (r 5)).tdiv 65536 = s_draw (r 5) / 65536 := tdiv_nn din.1
  have t6 : (s_draw (r 5)).tdiv 128 = s_draw (r 5) / 128 := tdiv_nn din.1
  clear ed f4 din d0 d1
  unfold s_dust at st ⊢
  generalize s_draw (r 5) = d at *
  generalize hc' : s_dustC (s_up r 5 d) = c at *
  obtain ⟨nz, c510, c49⟩ := dr_5 hcc.1 hcc.2 hcl.2.1
  have c511 : 51 + c < am_len 10 E 150 := by rw [al]; exact c49
  obtain ⟨e51, wc⟩ := dr_6 c510 c49
  have wi := w_suc (Nat.lt_of_lt_of_le hi (Nat.le_trans hM (by decide)))
  have lt : (i : Int) < (M : Int) := Int.ofNat_lt.mpr hi
  have w0 : w32 0 = 0 := by decide
  have a5 : (5 : Int) < am_len 10 E 150 := by rw [al]; decide
  have a50 : (0 : Int) ≤ 5 := by decide
  have z1 : (65536 : Int) ≠ 0 := by decide
  have z2 : (128 : Int) ≠ 0 := by decide
  have z3 : (3 : Int) ≠ 0 := by decide
  refine ⟨vI c, ?_⟩
  rw [h_M_drift_33]
  by_cases h3 : d / 128 % 3 = 0
  · by_cases hp : s_pinOn (s_up r 5 d) c = -4
    · rw [if_pos ⟨hp, h3⟩] at st ⊢
      simp (disch := assumption) only [↓reduceIte, Int.reduceEq, bdI_s, bdV_s, fx_I, fx_R, x_M_drift, lt, w0, e1, n1, e5, dr, sN_up, sN_150, r5, t5, t6, f1, f2, f3, wc, hcells, t2, t3, h3, hpo, hp, e51, sN_sN, st, wi]
    · rw [if_neg (fun z => hp z.1)] at st ⊢
      simp (disch := assumption) only [↓reduceIte, Int.reduceEq, bdI_s, bdV_s, fx_I, fx_R, x_M_drift, lt, w0, e1, n1, e5, dr, sN_up, sN_150, r5, t5, t6, f1, f2, f3, wc, hcells, t2, t3, h3, hpo, hp, e51, sN_sN, st, wi]
  · rw [if_neg (fun z => h3 z.2)] at st ⊢
    simp (disch := assumption) only [↓reduceIte, Int.reduceEq, bdI_s, bdV_s, fx_I, fx_R, x_M_drift, lt, w0, e1, n1, e5, dr, sN_up, sN_150, r5, t5, t6, f1, f2, f3, wc, hcells, t2, t3, h3, hpo, e51, sN_sN, st, wi]
theorem m_driftT {S : am_S} (hE : SE E) (hS : OKS S) {m : Int} (m0 : 1 ≤ m) (m1 : m ≤ 40) (hd : S.1 4 + m ≤ 9999) (hu : MS E u S) : ∃ u', Rn m_M_drift 0 [vR (some 149), vI m, vB false, vB false] [] E u = some (some (vI (s_count (s_gone true S.1 m.toNat))), E, u') ∧ MS E u' (s_gone true S.1 m.toNat, s_past true S.1 S.2.1 m.toNat, S.2.2) ∧ HI u u' := by
  obtain ⟨M, hM⟩ : ∃ M : Nat, m = (M : Int) := ⟨m.toNat, by omega⟩
  subst hM
  rw [Int.toNat_natCast]
  have al := (al_m hE).1
  have d0 := hS.1.1.2.2.2.2.1
  have hn := hu.2.1
  have e4 : (4 : Int).toNat = 4 := rfl
  have e5 : (5 : Int).toNat = 5 := rfl
  have loop : ∀ i : Nat, i ≤ M → ∃ (v : am_M) (b : am_V), Rn m_M_drift 0 [vR (some 149), vI (M : Int), vB false, vB false] [] E u = Rn m_M_drift 33 [vR (some 149), vI (M : Int), vI (i : Int), b] [] E v ∧ MS E v (s_gone true S.1 i, s_past true S.1 S.2.1 i, S.2.2) ∧ HI u v := by
    intro i
    induction i with
    | zero =>
      intro _
      refine ⟨u, vB false, ?_, hu, HI.rf⟩
      simp (disch := first | assumption | omega) only [↓reduceIte, Int.reduceEq, Int.reduceLT, bdI_s, bdV_s, bdR_s, bdL_s, fx_I, fx_R, fx_B, fx_L, w32_of, x_M_drift, m_inT, hn, e4, show ¬ 9999 < S.1 4 + (M : Int) by omega]
      rfl
    | succ i ih =>
      intro hi
      obtain ⟨v, b, e, hv, lv⟩ := ih (by omega)
      obtain ⟨gW, g4, gH, g8⟩ := Wn_gone (b := true) hS.1 hS.2.1.1 hS.2.1.2 i (by omega)
      have hSi : OKS (s_gone true S.1 i, s_past true S.1 S.2.1 i, S.2.2) := OKS_now hS gW gH g8
      obtain ⟨u1, e1, h1, f1, f2⟩ := m_notes (u := v) hE hv.2.1 hv.2.2.1
      have c1 := MU_step hv hSi f1
      have fin : MS E (sN u1 (s_gone true S.1 (i + 1))) (s_gone true S.1 (i + 1), s_past true S.1 S.2.1 (i + 1), S.2.2) := MS_step hv h1 f1 f2 _
      have g5 : s_gone true S.1 (i + 1) = s_day (s_dust (s_gone true S.1 i)) := rfl
      rw [g5] at fin
      have st := m_goesBy (c1.to (Vn_dust gW.1)) (by rw [s_dust_lo gW.1 (by omega)]; show (s_gone true S.1 i) 4 < _; rw [g4]; omega)
      rw [sN_sN] at st
      obtain ⟨x, key⟩ := m_driftStep hE c1 gW.2.2.1.1 gW.2.2.1.2 (show i < M by omega) (show M ≤ 40 by omega) b e1 st
      exact ⟨_, _, by rw [e, key], fin, lv.tr (HI_step f1 _)⟩
  obtain ⟨v, b, e, hv, lv⟩ := loop M (Nat.le_refl M)
  obtain ⟨gW, g4, gH, g8⟩ := Wn_gone (b := true) hS.1 hS.2.1.1 hS.2.1.2 M (by omega)
  have hSi : OKS (s_gone true S.1 M, s_past true S.1 S.2.1 M, S.2.2) := OKS_now hS gW gH g8
  refine ⟨v, ?_, hv, lv⟩
  rw [e, h_M_drift_33]
  simp (disch := first | assumption | omega) only [↓reduceIte, Int.reduceEq, Int.reduceLT, bdI_s, bdV_s, bdR_s, bdL_s, fx_I, fx_R, fx_B, fx_L, w32_of, x_M_drift, show ¬ (M : Int) < (M : Int) by omega, m_holesNow (hv.mu hSi)]
theorem k_drift {S : am_S} (hE : SE E) (hS : OKS S) {m : Int} : BOTH E S (fun u => Rn m_A_drift 0 [vR (some 0), vI m] [] E u) (fun u => Rn m_M_drift 0 [vR (some 149), vI m, vB false, vB false] [] E u) := by
  have cu1 := cuB_1
  have d0 := hS.1.1.2.2.2.2.1
  have d1 := hS.1.2.1
  by_cases h1 : 1 ≤ m ∧ m ≤ 40
  case neg => exact ⟨-1, S, hS, CA_id fun u hu => by simp (disch := first | assumption | omega) only [↓reduceIte, Int.reduceEq, Int.reduceLT, bdI_s, bdV_s, bdR_s, bdL_s, fx_I, fx_R, fx_B, fx_L, w32_of, x_A_drift, x_A_passes, r_isInF], MA_id fun u hu => by simp (disch := first | assumption | omega) only [↓reduceIte, Int.reduceEq, Int.reduceLT, bdI_s, bdV_s, bdR_s, bdL_s, fx_I, fx_R, fx_B, fx_L, w32_of, x_M_drift, m_inF]⟩
  by_cases hd : S.1 4 + m ≤ 9999
  · have := Wn_gone (b := true) hS.1 hS.2.1.1 hS.2.1.2 m.toNat (by omega)
    refine ⟨s_count (s_gone true S.1 m.toNat), (s_gone true S.1 m.toNat, s_past true S.1 S.2.1 m.toNat, S.2.2), OKS_now hS this.1 this.2.2.1 this.2.2.2, fun u hu => ?_, fun u hu => m_driftT hE hS h1.1 h1.2 hd hu⟩
    obtain ⟨u', e, a, b⟩ := c_passes hE hS true h1.1 h1.2 hd hu
    refine ⟨u', ?_, a, b⟩
    rw [bI_t] at e
    simp (disch := first | assumption | omega) only [↓reduceIte, Int.reduceEq, Int.reduceLT, bdI_s, bdV_s, bdR_s, bdL_s, fx_I, fx_R, fx_B, fx_L, w32_of, x_A_drift, e]
  · refine ⟨-3, S, hS, CA_id fun u hu => ?_, MA_id fun u hu => ?_⟩
    · have hu4 := hu.2.1.2.2.2.2.1
      simp (disch := first | assumption | omega) only [↓reduceIte, Int.reduceEq, Int.reduceLT, bdI_s, bdV_s, bdR_s, bdL_s, fx_I, fx_R, fx_B, fx_L, w32_of, x_A_drift, x_A_passes, r_isInT, hu4, show 9999 - m < S.1 4 by omega]
    · have al := (al_m hE).1
      have hn := hu.2.1
      have e4 : (4 : Int).toNat = 4 := rfl
      simp (disch := first | assumption | omega) only [↓reduceIte, Int.reduceEq, Int.reduceLT, bdI_s, bdV_s, bdR_s, bdL_s, fx_I, fx_R, fx_B, fx_L, w32_of, x_M_drift, m_inT, hn, e4, show 9999 < S.1 4 + m by omega]
/-- a pin is out -/
theorem Vn_outPin (hV : Vn n) {p : Int} (p0 : 0 ≤ p) (p1 : p < n 2) : Vn (s_up n (6 + 3 * p + 1).toNat (-4)) := by
  have hV' := hV
  obtain ⟨h0, h1, h2, h3, h4, h5, hp, ht, hh, hz, hd⟩ := hV
  have hcl := s_cells_of hV'
  have L : ∀ i : Nat, i < 6 → s_up n (6 + 3 * p + 1).toNat (-4) i = n i := fun i hi => su_ne (by omega)
  have K : ∀ i : Nat, 27 ≤ i → s_up n (6 + 3 * p + 1).toNat (-4) i = n i := fun i hi => su_ne (by omega)
  have eC : ∀ q : Int, 0 ≤ q → s_C (s_up n (6 + 3 * p + 1).toNat (-4)) q = if q = p then -4 else s_C n q := fun q q0 => by
    unfold s_C
    by_cases e : q = p
    · subst e; rw [su_eq, if_pos rfl]
    · rw [su_ne (by omega), if_neg e]
  have eH : ∀ q : Int, 0 ≤ q → s_H (s_up n (6 + 3 * p + 1).toNat (-4)) q = s_H n q := fun q q0 => K _ (by omega)
  have ec : s_cells (s_up n (6 + 3 * p + 1).toNat (-4)) = s_cells n := s_cells_up (by omega)
  refine ⟨?_, ?_, ?_, ?_, ?_, ?_, fun q q0 q1 => ?_, fun t t0 t1 => ?_, fun d d0 d1 => ?_, fun d d0 d1 => ?_, fun a b a0 a1 b0 b1 e1 e2 => ?_⟩
  · rw [L 0 (by omega)]; exact h0
  · rw [L 1 (by omega)]; exact h1
  · rw [L 2 (by omega)]; exact h2
  · rw [L 3 (by omega)]; exact h3
  · rw [L 4 (by omega)]; exact h4
  · exact Decidable.em _
  · rw [L 2 (by omega)] at q1
    have eK : s_K (s_up n (6 + 3 * p + 1).toNat (-4)) q = s_K n q := su_ne (by omega)
    have eV : s_V (s_up n (6 + 3 * p + 1).toNat (-4)) q = s_V n q := su_ne (by omega)
    rw [eK, eV, eC q q0, ec]
    obtain ⟨x, y, z⟩ := hp q q0 q1
    refine ⟨x, ?_, z⟩
    by_cases e : q = p
    · rw [if_pos e]; exact Or.inl rfl
    · rw [if_neg e]
      rcases y with y | ⟨y1, y2, y3⟩
      · exact Or.inl y
      · exact Or.inr ⟨y1, y2, by rw [eH _ y1]; exact y3⟩
  · rw [L 3 (by omega)] at t1
    have := ht t t0 t1
    rw [L 2 (by omega)]
    unfold s_A s_B s_L s_X at *
    rw [K _ (by omega), K _ (by omega), K _ (by omega), K _ (by omega)]
    exact this
  · rw [eH d d0]; exact hh d d0 d1
  · rw [ec] at d0; rw [eH d (by omega)]; exact hz d d0 d1
  · rw [L 2 (by omega)] at a1 b1
    rw [eC a a0] at e1 e2
    rw [eC b b0] at e1
    by_cases ea : a = p
    · rw [if_pos ea] at e2; exact absurd rfl e2
    · rw [if_neg ea] at e1 e2
      by_cases eb : b = p
      · rw [if_pos eb] at e1; exact absurd e1 e2
      · rw [if_neg eb] at e1
        exact hd a b a0 a1 b0 b1 e1 e2
def s_outRow (n : am_Row) (p : Int) : am_Row := s_up (s_up n (6 + 3 * p + 1).toNat (-4)) (51 + s_C n p).toNat 1
theorem k_out {S : am_S} (hE : SE E) (hS : OKS S) (p : Int) : BOTH E S (fun u => Rn m_A_out 0 [vR (some 0), vI p, vB false] [] E u) (fun u => Rn m_M_out 0 [vR (some 149), vI p, vB false] [] E u) := by
  have cu1 := cuB_1
  have p15 := paB_15
  have hV := hS.1.1
  have h2 := hV.2.2.1
  have hcl := s_cells_of hV
  by_cases hp : 0 ≤ p ∧ p < S.1 2
  case neg => exact ⟨-1, S, hS, CA_id fun u hu => by simp (disch := first | assumption | omega) only [↓reduceIte, Int.reduceEq, Int.reduceLT, bdI_s, bdV_s, bdR_s, bdL_s, fx_I, fx_R, fx_B, fx_L, w32_of, x_A_out, c_isPinF (hu.cu hS)], MA_id fun u hu => by simp (disch := first | assumption | omega) only [↓reduceIte, Int.reduceEq, Int.reduceLT, bdI_s, bdV_s, bdR_s, bdL_s, fx_I, fx_R, fx_B, fx_L, w32_of, x_M_out, m_isPinF (hu.mu hS)]⟩
  have lk : ∀ {v : am_M}, CU E v 1 S.1 → Rn m_A_look 0 [vR (some (1 + 2)), vI p] [] E v = some (some (vI (s_C S.1 p)), E, v) := fun hv => by
    rw [r_look7 hE cuB_1 (j := 2) (by decide) hp.1 (by omega), (hv.2.2.1.2.2.2.2.2.2.2.2.1 p hp.1 hp.2).2.1]
  by_cases ho : s_C S.1 p = -4
  · refine ⟨-2, S, hS, CA_id fun u hu => ?_, MA_id fun u hu => ?_⟩
    · have q := lk (hu.cu hS)
      simp (disch := first | assumption | omega) only [↓reduceIte, Int.reduceEq, Int.reduceLT, bdI_s, bdV_s, bdR_s, bdL_s, fx_I, fx_R, fx_B, fx_L, w32_of, x_A_out, c_isPinT (hu.cu hS), q, ho]
    · have q := m_isOut hE hu.2.1 hp.1 (show p < 7 by omega)
      rw [decide_eq_true ho, bI_t] at q
      simp (disch := first | assumption | omega) only [↓reduceIte, Int.reduceEq, Int.reduceLT, bdI_s, bdV_s, bdR_s, bdL_s, fx_I, fx_R, fx_B, fx_L, w32_of, x_M_out, m_isPinT (hu.mu hS), q]
  have hc := Vn_on hV hp.1 hp.2 ho
  have hV1 := Vn_outPin hV hp.1 hp.2
  have ecl : s_cells (s_up S.1 (6 + 3 * p + 1).toNat (-4)) = s_cells S.1 := s_cells_up (by omega)
  have hfree : ∀ q : Int, 0 ≤ q → q < (s_up S.1 (6 + 3 * p + 1).toNat (-4)) 2 → s_C (s_up S.1 (6 + 3 * p + 1).toNat (-4)) q ≠ s_C S.1 p := fun q q0 q1 z => by
    rw [su_ne (by omega)] at q1
    by_cases e : q = p
    · subst e
      have : s_C (s_up S.1 (6 + 3 * q + 1).toNat (-4)) q = -4 := su_eq
      omega
    · rw [s_C_up (by omega)] at z
      exact e (hV.2.2.2.2.2.2.2.2.2.2 q p q0 q1 hp.1 hp.2 z (by rw [z]; exact ho))
  have hVo : Vn (s_outRow S.1 p) := Vn_open hV1 hc.1 (by rw [ecl]; exact hc.2) hfree
  have hs : s_same (s_outRow S.1 p) S.1 := (s_same_up (un_H hc.1 (by omega))).tr (s_same_up (un_C hp.1 (by omega)))
  have hW : Wn (s_outRow S.1 p) := by
    refine ⟨hVo, ?_, ?_, Zn_up (Zn_up hS.1.2.2.2 (by omega)) (by omega)⟩
    · unfold s_outRow; rw [su_ne (by omega), su_ne (by omega)]; exact hS.1.2.1
    · unfold s_outRow; rw [su_ne (by omega), su_ne (by omega)]; exact hS.1.2.2.1
  refine ⟨s_C S.1 p, (s_outRow S.1 p, s_push S.2.1 S.1, S.2.2), OKS_now hS hW (WH_push hS.1 hS.2.1.1 hs) (push_len hS.2.1.2), fun u hu => ?_, fun u hu => ?_⟩
  · obtain ⟨u1, e1, h1, f1⟩ := p_keeps (u := u) hE hu.2.2.1 hu.2.1 hV
    have c1 := CU_step hu hS f1
    have c2 : CU E (am_up u1 (1 + 2) p.toNat (-4)) 1 (s_up S.1 (6 + 3 * p + 1).toNat (-4)) := ⟨hE, cuB_1, RC_cell c1.2.2.1 hp.1 hp.2 (by omega), hV1⟩
    obtain ⟨u2, e2, h2', f2⟩ := c_opens c2 (c := s_C S.1 p) hc.1 (by rw [ecl]; exact hc.2) hfree
    have fr : FR 1 u1 u2 := (FR.up (by omega)).tr f2
    refine ⟨u2, ?_, CS_step hu f1 h1 fr h2'.2.2.1, LO_step f1 fr⟩
    have q := lk (hu.cu hS)
    have ly := r_lay7 (u := u1) (a := -4) hE cuB_1 (j := 2) (by decide) hp.1 (show p < 7 by omega)
    simp (disch := first | assumption | omega) only [↓reduceIte, Int.reduceEq, Int.reduceLT, bdI_s, bdV_s, bdR_s, bdL_s, fx_I, fx_R, fx_B, fx_L, w32_of, x_A_out, c_isPinT (hu.cu hS), q, ho, e1, ly, e2]
  · obtain ⟨u1, e1, h1, f1, f2⟩ := m_notes (u := u) hE hu.2.1 hu.2.2.1
    have c1 := MU_step hu hS f1
    have q := m_isOut hE hu.2.1 hp.1 (show p < 7 by omega)
    rw [decide_eq_false ho, bI_f] at q
    have q2 := m_cellOf hE c1.2.1 hp.1 (show p < 7 by omega)
    have al := (al_m hE).1
    have n1 := c1.2.1
    refine ⟨sN u1 (s_outRow S.1 p), ?_, MS_step hu h1 f1 f2 _, HI_step f1 _⟩
    simp (disch := first | assumption | omega) only [↓reduceIte, Int.reduceEq, Int.reduceLT, bdI_s, bdV_s, bdR_s, bdL_s, fx_I, fx_R, fx_B, fx_L, w32_of, x_M_out, m_isPinT (hu.mu hS), q, e1, q2, sN_up, sN_ups, sN_sN, sN_150, n1]
    rfl
theorem k_put {S : am_S} (hE : SE E) (hS : OKS S) (p c : Int) : BOTH E S (fun u => Rn m_A_put 0 [vR (some 0), vI p, vI c] [] E u) (fun u => Rn m_M_put 0 [vR (some 149), vI p, vI c] [] E u) := by
  have cu1 := cuB_1
  have p15 := paB_15
  have hV := hS.1.1
  have h2 := hV.2.2.1
  have hcl := s_cells_of hV
  by_cases hp : 0 ≤ p ∧ p < S.1 2
  case neg => exact ⟨-1, S, hS, CA_id fun u hu => by simp (disch := first | assumption | omega) only [↓reduceIte, Int.reduceEq, Int.reduceLT, bdI_s, bdV_s, bdR_s, bdL_s, fx_I, fx_R, fx_B, fx_L, w32_of, x_A_put, c_isPinF (hu.cu hS)], MA_id fun u hu => by simp (disch := first | assumption | omega) only [↓reduceIte, Int.reduceEq, Int.reduceLT, bdI_s, bdV_s, bdR_s, bdL_s, fx_I, fx_R, fx_B, fx_L, w32_of, x_M_put, m_isPinF (hu.mu hS)]⟩
  by_cases hc : 0 ≤ c ∧ c < s_cells S.1
  case neg => exact ⟨-1, S, hS, CA_id fun u hu => by simp (disch := first | assumption | omega) only [↓reduceIte, Int.reduceEq, Int.reduceLT, bdI_s, bdV_s, bdR_s, bdL_s, fx_I, fx_R, fx_B, fx_L, w32_of, x_A_put, c_isPinT (hu.cu hS), c_isCellF (hu.cu hS)], MA_id fun u hu => by simp (disch := first | assumption | omega) only [↓reduceIte, Int.reduceEq, Int.reduceLT, bdI_s, bdV_s, bdR_s, bdL_s, fx_I, fx_R, fx_B, fx_L, w32_of, x_M_put, m_isPinT (hu.mu hS), m_isCellF (hu.mu hS)]⟩
  have lk : ∀ {v : am_M}, CU E v 1 S.1 → Rn m_A_look 0 [vR (some (1 + 2)), vI p] [] E v = some (some (vI (s_C S.1 p)), E, v) := fun hv => by
    rw [r_look7 hE cuB_1 (j := 2) (by decide) hp.1 (by omega), (hv.2.2.1.2.2.2.2.2.2.2.2.1 p hp.1 hp.2).2.1]
  by_cases ho : s_C S.1 p = -4
  case neg =>
    refine ⟨-2, S, hS, CA_id fun u hu => ?_, MA_id fun u hu => ?_⟩
    · have q := lk (hu.cu hS)
      simp (disch := first | assumption | omega) only [↓reduceIte, Int.reduceEq, Int.reduceLT, bdI_s, bdV_s, bdR_s, bdL_s, fx_I, fx_R, fx_B, fx_L, w32_of, x_A_put, c_isPinT (hu.cu hS), c_isCellT (hu.cu hS), q, ho]
    · have q := m_isOut hE hu.2.1 hp.1 (show p < 7 by omega)
      rw [decide_eq_false ho, bI_f] at q
      simp (disch := first | assumption | omega) only [↓reduceIte, Int.reduceEq, Int.reduceLT, bdI_s, bdV_s, bdR_s, bdL_s, fx_I, fx_R, fx_B, fx_L, w32_of, x_M_put, m_isPinT (hu.mu hS), m_isCellT (hu.mu hS), q]
  by_cases hpo : s_pinOn S.1 c = -4
  case neg =>
    refine ⟨-2, S, hS, CA_id fun u hu => ?_, MA_id fun u hu => ?_⟩
    · have q := lk (hu.cu hS)
      have q2 := c_pinOn (hu.cu hS) (c := c) (by omega)
      simp (disch := first | assumption | omega) only [↓reduceIte, Int.reduceEq, Int.reduceLT, bdI_s, bdV_s, bdR_s, bdL_s, fx_I, fx_R, fx_B, fx_L, w32_of, x_A_put, c_isPinT (hu.cu hS), c_isCellT (hu.cu hS), q, ho, q2, hpo]
    · have q := m_isOut hE hu.2.1 hp.1 (show p < 7 by omega)
      rw [decide_eq_true ho, bI_t] at q
      simp (disch := first | assumption | omega) only [↓reduceIte, Int.reduceEq, Int.reduceLT, bdI_s, bdV_s, bdR_s, bdL_s, fx_I, fx_R, fx_B, fx_L, w32_of, x_M_put, m_isPinT (hu.mu hS), m_isCellT (hu.mu hS), q, m_pinOn (hu.mu hS), hpo]
  have hfree := s_pinOn_no hV hpo
  have hW : Wn (s_sets S.1 p c) := by
    refine ⟨Vn_sets hV hp.1 hp.2 hc.1 hc.2 hfree, ?_, ?_, Zn_sets hS.1.2.2.2 hp.1 (by omega) hc.1 (by omega)⟩
    · rw [s_sets_lo _ hp.1 hc.1 (by omega)]; exact hS.1.2.1
    · rw [s_sets_lo _ hp.1 hc.1 (by omega)]; exact hS.1.2.2.1
  have hs : s_same (s_sets S.1 p c) S.1 := same_sets hp.1 (by omega) hc.1 (by omega)
  refine ⟨s_count (s_sets S.1 p c), (s_sets S.1 p c, s_push S.2.1 S.1, S.2.2), OKS_now hS hW (WH_push hS.1 hS.2.1.1 hs) (push_len hS.2.1.2), fun u hu => ?_, fun u hu => ?_⟩
  · obtain ⟨u1, e1, h1, f1⟩ := p_keeps (u := u) hE hu.2.2.1 hu.2.1 hV
    have c1 := CU_step hu hS f1
    obtain ⟨u2, e2, h2', f2⟩ := c_sets c1 hp.1 hp.2 hc.1 hc.2 hfree
    refine ⟨u2, ?_, CS_step hu f1 h1 f2 h2'.2.2.1, LO_step f1 f2⟩
    have q := lk (hu.cu hS)
    have q2 := c_pinOn (hu.cu hS) (c := c) (by omega)
    simp (disch := first | assumption | omega) only [↓reduceIte, Int.reduceEq, Int.reduceLT, bdI_s, bdV_s, bdR_s, bdL_s, fx_I, fx_R, fx_B, fx_L, w32_of, x_A_put, c_isPinT (hu.cu hS), c_isCellT (hu.cu hS), q, ho, q2, hpo, e1, e2, c_holeCount h2']
  · obtain ⟨u1, e1, h1, f1, f2⟩ := m_notes (u := u) hE hu.2.1 hu.2.2.1
    have c1 := MU_step hu hS f1
    have q := m_isOut hE hu.2.1 hp.1 (show p < 7 by omega)
    rw [decide_eq_true ho, bI_t] at q
    have st := m_sets c1 hp.1 hp.2 hc.1 (show c < 49 by omega)
    refine ⟨sN u1 (s_sets S.1 p c), ?_, MS_step hu h1 f1 f2 _, HI_step f1 _⟩
    simp (disch := first | assumption | omega) only [↓reduceIte, Int.reduceEq, Int.reduceLT, bdI_s, bdV_s, bdR_s, bdL_s, fx_I, fx_R, fx_B, fx_L, w32_of, x_M_put, m_isPinT (hu.mu hS), m_isCellT (hu.mu hS), q, m_pinOn (hu.mu hS), hpo, e1, st, m_holesNow (c1.to hW.1)]
theorem cuts_one (hV : Vn n) {t : Int} (t0 : 0 ≤ t) (t1 : t < n 3) : s_cuts n (2 ^ t.toNat) = s_up n (27 + 4 * t + 3).toNat 1 := by
  funext x
  unfold s_cuts s_up
  by_cases e : x = (27 + 4 * t + 3).toNat
  · have hb : (2 ^ t.toNat).testBit ((x - 30) / 4) = true := by
      rw [Nat.testBit_two_pow]
      exact decide_eq_true (by omega)
    rw [if_pos e, if_pos ⟨by omega, by omega, by omega, hb⟩]
  · rw [if_neg e, if_neg]
    intro ⟨a, b, c, d⟩
    rw [Nat.testBit_two_pow] at d
    have := of_decide_eq_true d
    omega
theorem k_cut {S : am_S} (hE : SE E) (hS : OKS S) (t : Int) : BOTH E S (fun u => Rn m_A_cut 0 [vR (some 0), vI t] [] E u) (fun u => Rn m_M_cut 0 [vR (some 149), vI t] [] E u) := by
  have cu1 := cuB_1
  have p15 := paB_15
  have hV := hS.1.1
  have h3 := hV.2.2.2.1
  by_cases ht : 0 ≤ t ∧ t < S.1 3
  case neg => exact ⟨-1, S, hS, CA_id fun u hu => by simp (disch := first | assumption | omega) only [↓reduceIte, Int.reduceEq, Int.reduceLT, bdI_s, bdV_s, bdR_s, bdL_s, fx_I, fx_R, fx_B, fx_L, w32_of, x_A_cut, c_isThreadF (hu.cu hS)], MA_id fun u hu => by simp (disch := first | assumption | omega) only [↓reduceIte, Int.reduceEq, Int.reduceLT, bdI_s, bdV_s, bdR_s, bdL_s, fx_I, fx_R, fx_B, fx_L, w32_of, x_M_cut, m_isThreadF (hu.mu hS)]⟩
  by_cases hx : s_X S.1 t = 1
  · refine ⟨-2, S, hS, CA_id fun u hu => ?_, MA_id fun u hu => ?_⟩
    · have q := c_isCut (hu.cu hS) ht.1 ht.2
      rw [decide_eq_true hx, bI_t] at q
      simp (disch := first | assumption | omega) only [↓reduceIte, Int.reduceEq, Int.reduceLT, bdI_s, bdV_s, bdR_s, bdL_s, fx_I, fx_R, fx_B, fx_L, w32_of, x_A_cut, c_isThreadT (hu.cu hS), q]
    · have q := m_X hE hu.2.1 ht.1 (show t < 6 by omega)
      simp (disch := first | assumption | omega) only [↓reduceIte, Int.reduceEq, Int.reduceLT, bdI_s, bdV_s, bdR_s, bdL_s, fx_I, fx_R, fx_B, fx_L, w32_of, x_M_cut, m_isThreadT (hu.mu hS), q, hx]
  have ec := cuts_one hV ht.1 ht.2
  have hVc := Vn_cuts hV (2 ^ t.toNat)
  have hW : Wn (s_cuts S.1 (2 ^ t.toNat)) := ⟨hVc, by rw [s_cuts_ne (by omega)]; exact hS.1.2.1, by rw [s_cuts_ne (by omega)]; exact hS.1.2.2.1, Zn_cuts hS.1.2.2.2 (by omega) _⟩
  have hs : s_same (s_cuts S.1 (2 ^ t.toNat)) S.1 := by rw [ec]; exact s_same_up (un_X ht.1 (by omega))
  have hp64 : 2 ^ t.toNat < 64 := pow_lt64 (by omega)
  refine ⟨s_held (s_cuts S.1 (2 ^ t.toNat)), (s_cuts S.1 (2 ^ t.toNat), s_push S.2.1 S.1, S.2.2), OKS_now hS hW (WH_push hS.1 hS.2.1.1 hs) (push_len hS.2.1.2), fun u hu => ?_, fun u hu => ?_⟩
  · obtain ⟨u1, e1, h1, f1⟩ := p_keeps (u := u) hE hu.2.2.1 hu.2.1 hV
    have c1 := CU_step hu hS f1
    have hR := RC_cut c1.2.2.1 (by omega) hV.2.2.1.2 (S := 2 ^ t.toNat) (fun i hi => by
      rw [Nat.testBit_two_pow] at hi
      have := of_decide_eq_true hi
      omega) hp64
    have c2 : CU E (am_up u1 1 6 (i_or (u1 1 6) ((2 ^ t.toNat : Nat) : Int))) 1 (s_cuts S.1 (2 ^ t.toNat)) := ⟨hE, cuB_1, hR, hVc⟩
    have fr : FR 1 u1 (am_up u1 1 6 (i_or (u1 1 6) ((2 ^ t.toNat : Nat) : Int))) := FR.up (by omega)
    refine ⟨_, ?_, CS_step hu f1 h1 fr hR, LO_step f1 fr⟩
    have q := c_isCut (hu.cu hS) ht.1 ht.2
    rw [decide_eq_false hx, bI_f] at q
    have sh : i_shl 1 t = ((2 ^ t.toNat : Nat) : Int) := by
      have := i_shl1 t.toNat (by omega)
      rw [show ((t.toNat : Nat) : Int) = t by omega] at this
      exact this
    simp (disch := first | assumption | omega) only [↓reduceIte, Int.reduceEq, Int.reduceLT, bdI_s, bdV_s, bdR_s, bdL_s, fx_I, fx_R, fx_B, fx_L, w32_of, x_A_cut, c_isThreadT (hu.cu hS), q, e1, sh, c_holdSet c2]
  · obtain ⟨u1, e1, h1, f1, f2⟩ := m_notes (u := u) hE hu.2.1 hu.2.2.1
    have c1 := MU_step hu hS f1
    have q := m_X hE hu.2.1 ht.1 (show t < 6 by omega)
    have al := (al_m hE).1
    have n1 := c1.2.1
    have hm := c1.to hVc
    rw [ec] at hm
    rw [ec]
    refine ⟨sN u1 _, ?_, MS_step hu h1 f1 f2 _, HI_step f1 _⟩
    simp (disch := first | assumption | omega) only [↓reduceIte, Int.reduceEq, Int.reduceLT, bdI_s, bdV_s, bdR_s, bdL_s, fx_I, fx_R, fx_B, fx_L, w32_of, x_M_cut, m_isThreadT (hu.mu hS), q, hx, e1, sN_up, n1, m_held hm]
theorem k_course {S : am_S} (hE : SE E) (hS : OKS S) (p v : Int) : BOTH E S (fun u => Rn m_A_course 0 [vR (some 0), vI p, vI v, vB false] [] E u) (fun u => Rn m_M_course 0 [vR (some 149), vI p, vI v, vB false] [] E u) := by
  have cu1 := cuB_1
  have p15 := paB_15
  have hV := hS.1.1
  have h2 := hV.2.2.1
  by_cases hp : 0 ≤ p ∧ p < S.1 2
  case neg => exact ⟨-1, S, hS, CA_id fun u hu => by simp (disch := first | assumption | omega) only [↓reduceIte, Int.reduceEq, Int.reduceLT, bdI_s, bdV_s, bdR_s, bdL_s, fx_I, fx_R, fx_B, fx_L, w32_of, x_A_course, c_isPinF (hu.cu hS)], MA_id fun u hu => by simp (disch := first | assumption | omega) only [↓reduceIte, Int.reduceEq, Int.reduceLT, bdI_s, bdV_s, bdR_s, bdL_s, fx_I, fx_R, fx_B, fx_L, w32_of, x_M_course, m_isPinF (hu.mu hS)]⟩
  by_cases hv : 0 ≤ v ∧ v ≤ 3
  case neg => exact ⟨-1, S, hS, CA_id fun u hu => by simp (disch := first | assumption | omega) only [↓reduceIte, Int.reduceEq, Int.reduceLT, bdI_s, bdV_s, bdR_s, bdL_s, fx_I, fx_R, fx_B, fx_L, w32_of, x_A_course, c_isPinT (hu.cu hS), r_isInF], MA_id fun u hu => by simp (disch := first | assumption | omega) only [↓reduceIte, Int.reduceEq, Int.reduceLT, bdI_s, bdV_s, bdR_s, bdL_s, fx_I, fx_R, fx_B, fx_L, w32_of, x_M_course, m_isPinT (hu.mu hS), m_inF]⟩
  have lk : ∀ {w : am_M}, CU E w 1 S.1 → Rn m_A_look 0 [vR (some (1 + 3)), vI p] [] E w = some (some (vI (s_V S.1 p)), E, w) := fun hv => by
    rw [r_look7 hE cuB_1 (j := 3) (by decide) hp.1 (by omega), (hv.2.2.1.2.2.2.2.2.2.2.2.1 p hp.1 hp.2).2.2]
  by_cases hx : s_V S.1 p = v
  · refine ⟨-2, S, hS, CA_id fun u hu => ?_, MA_id fun u hu => ?_⟩
    · have q := lk (hu.cu hS)
      simp (disch := first | assumption | omega) only [↓reduceIte, Int.reduceEq, Int.reduceLT, bdI_s, bdV_s, bdR_s, bdL_s, fx_I, fx_R, fx_B, fx_L, w32_of, x_A_course, c_isPinT (hu.cu hS), r_isInT, q, hx]
    · have q := m_V hE hu.2.1 hp.1 (show p < 7 by omega)
      simp (disch := first | assumption | omega) only [↓reduceIte, Int.reduceEq, Int.reduceLT, bdI_s, bdV_s, bdR_s, bdL_s, fx_I, fx_R, fx_B, fx_L, w32_of, x_M_course, m_isPinT (hu.mu hS), m_inT, q, hx]
  have hVc := Vn_course hV hp.1 (show p < 7 by omega) hv.1 hv.2
  have hW : Wn (s_up S.1 (6 + 3 * p + 2).toNat v) := ⟨hVc, by rw [su_ne (by omega)]; exact hS.1.2.1, by rw [su_ne (by omega)]; exact hS.1.2.2.1, Zn_up hS.1.2.2.2 (by omega)⟩
  have hs : s_same (s_up S.1 (6 + 3 * p + 2).toNat v) S.1 := s_same_up (un_V hp.1 (by omega))
  refine ⟨s_V S.1 p, (s_up S.1 (6 + 3 * p + 2).toNat v, s_push S.2.1 S.1, S.2.2), OKS_now hS hW (WH_push hS.1 hS.2.1.1 hs) (push_len hS.2.1.2), fun u hu => ?_, fun u hu => ?_⟩
  · obtain ⟨u1, e1, h1, f1⟩ := p_keeps (u := u) hE hu.2.2.1 hu.2.1 hV
    have c1 := CU_step hu hS f1
    have c2 := CU_course c1 hp.1 (show p < 7 by omega) hv.1 hv.2
    have fr : FR 1 u1 (am_up u1 (1 + 3) p.toNat v) := FR.up (by omega)
    refine ⟨_, ?_, CS_step hu f1 h1 fr c2.2.2.1, LO_step f1 fr⟩
    have q := lk (hu.cu hS)
    have ly := r_lay7 (u := u1) (a := v) hE cuB_1 (j := 3) (by decide) hp.1 (show p < 7 by omega)
    simp (disch := first | assumption | omega) only [↓reduceIte, Int.reduceEq, Int.reduceLT, bdI_s, bdV_s, bdR_s, bdL_s, fx_I, fx_R, fx_B, fx_L, w32_of, x_A_course, c_isPinT (hu.cu hS), r_isInT, q, hx, e1, ly]
  · obtain ⟨u1, e1, h1, f1, f2⟩ := m_notes (u := u) hE hu.2.1 hu.2.2.1
    have c1 := MU_step hu hS f1
    have q := m_V hE hu.2.1 hp.1 (show p < 7 by omega)
    have al := (al_m hE).1
    have n1 := c1.2.1
    refine ⟨sN u1 _, ?_, MS_step hu h1 f1 f2 _, HI_step f1 _⟩
    simp (disch := first | assumption | omega) only [↓reduceIte, Int.reduceEq, Int.reduceLT, bdI_s, bdV_s, bdR_s, bdL_s, fx_I, fx_R, fx_B, fx_L, w32_of, x_M_course, m_isPinT (hu.mu hS), m_inT, q, hx, e1, sN_up, n1]

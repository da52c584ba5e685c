/-! Calls: what is done. -/
variable {E : am_E} {u : am_M} {k : Nat} {n : am_Row}
theorem CS_step {S : am_S} {u1 u2 : am_M} {n' : am_Row} {H' : List am_Row} (h : CS E u S) (f1 : FP 15 u u1) (h1 : HR u1 15 H') (f2 : FR 1 u1 u2) (hR : RC u2 1 n') : CS E u2 (n', H', S.2.2) :=
  CS_now h (by rw [f2 0 (by omega), f1 0 (by omega)]) (fun i i0 i1 => by rw [f2 i (by omega), f1 i (by omega)]) hR (HR_congr (fun z z0 z1 => f2 z (by omega)) h1)
theorem LO_step {u1 u2 : am_M} (f1 : FP 15 u u1) (f2 : FR 1 u1 u2) : LO u u2 := (LO_FP f1 (by omega)).tr (LO_FR f2 (by omega))
theorem MS_step {S : am_S} {u1 : am_M} {H' : List am_Row} (h : MS E u S) (h1 : HM u1 H') (g : ∀ i, i ≠ 149 → i ≠ 154 → u1 i = u i) (g9 : ∀ j, j ≠ 8 → u1 149 j = u 149 j) (n' : am_Row) : MS E (sN u1 n') (n', H', S.2.2) :=
  MS_now h (fun i i0 i1 i2 => by rw [sN_ne _ _ (by omega), g i (by omega) i1]) (fun j hj => by rw [sN_ne _ _ (by omega), g9 j hj]) (sN_150 _ _) (HM_congr (by rw [sN_ne _ _ (by omega)]) (sN_ne _ _ (by omega)) h1)
theorem HI_step {u1 : am_M} (g : ∀ i, i ≠ 149 → i ≠ 154 → u1 i = u i) (n' : am_Row) : HI u (sN u1 n') := fun i hi => by rw [sN_ne _ _ (by omega), g i (by omega) (by omega)]
theorem CU_step {S : am_S} {u1 : am_M} (h : CS E u S) (hS : OKS S) (f1 : FP 15 u u1) : CU E u1 1 S.1 := ⟨h.1, cuB_1, RC_congr (fun z z0 z1 => f1 z (by omega)) h.2.1, hS.1.1⟩
theorem MU_step {S : am_S} {u1 : am_M} (h : MS E u S) (hS : OKS S) (g : ∀ i, i ≠ 149 → i ≠ 154 → u1 i = u i) : MU E u1 S.1 := ⟨h.1, by rw [g 150 (by omega) (by omega)]; exact h.2.1, hS.1.1⟩
theorem s_same_up {j : Nat} {v : Int} (h : s_un 7 6 49 j = true) : s_same (s_up n j v) n := fun x hx => by
  by_cases e : x = j
  · subst e; rw [h] at hx; cases hx
  · rw [su_ne e]
theorem un_4 : s_un 7 6 49 4 = true := by decide
theorem un_5 : s_un 7 6 49 5 = true := by decide
theorem un_C {p : Int} (p0 : 0 ≤ p) (p1 : p < 7) : s_un 7 6 49 (6 + 3 * p + 1).toNat = true := decide_eq_true (by omega)
theorem un_V {p : Int} (p0 : 0 ≤ p) (p1 : p < 7) : s_un 7 6 49 (6 + 3 * p + 2).toNat = true := decide_eq_true (by omega)
theorem un_X {t : Int} (p0 : 0 ≤ t) (p1 : t < 6) : s_un 7 6 49 (27 + 4 * t + 3).toNat = true := decide_eq_true (by omega)
theorem un_H {c : Int} (p0 : 0 ≤ c) (p1 : c < 49) : s_un 7 6 49 (51 + c).toNat = true := decide_eq_true (by omega)
theorem same_sets {p c : Int} (p0 : 0 ≤ p) (p1 : p < 7) (c0 : 0 ≤ c) (c1 : c < 49) : s_same (s_sets n p c) n := (s_same_up (un_H c0 c1)).tr (s_same_up (un_C p0 p1))
theorem same_turn (hV : Vn n) {p : Int} (p0 : 0 ≤ p) (p1 : p < n 2) : s_same (s_turn n p) n := by
  have h2 := hV.2.2.1
  have hcl := s_cells_of hV
  unfold s_turn
  split
  · exact s_same.rf
  rename_i hp
  have hc := Vn_on hV p0 p1 hp
  have SA : ∀ v : Int, s_same (s_sails n p v) n := fun v => by
    unfold s_sails
    split
    · rename_i hm
      obtain ⟨m1, -⟩ := s_mayGo_of hV hm
      have := (s_beside_in hV (v := v) hc.1 hc.2).resolve_left m1
      exact (same_sets p0 (by omega) this.1 (by omega)).tr (s_same_up (un_V p0 (by omega)))
    · exact s_same_up (un_V p0 (by omega))
  split
  · exact SA _
  split
  · exact SA _
  split
  · unfold s_pull
    split
    · exact s_same.rf
    split
    · rename_i hm
      obtain ⟨m1, -⟩ := s_mayGo_of hV hm
      have := (s_beside_in hV (v := s_way n (s_C n p) (s_near n (s_C n p))) hc.1 hc.2).resolve_left m1
      exact same_sets p0 (by omega) this.1 (by omega)
    · exact s_same.rf
  · exact s_same.rf
theorem same_turns (hV : Vn n) : ∀ m : Nat, (m : Int) ≤ n 2 → s_same (s_turns n m) n := by
  intro m
  induction m with
  | zero => intro _; exact s_same.rf
  | succ m ih =>
    intro hm
    obtain ⟨h1, l1⟩ := Vn_turns hV m (by omega)
    exact (same_turn h1 (by omega) (by rw [l1 2 (by omega)]; omega)).tr (ih (by omega))
theorem same_day (hV : Vn n) : s_same (s_day n) n := (s_same_up un_4).tr (same_turns hV _ (by have := hV.2.2.1; omega))
theorem same_dust (hV : Vn n) : s_same (s_dust n) n := by
  have hcl := s_cells_of (Vn_draw hV (s_draw (n 5)))
  have hc : 0 ≤ s_dustC (s_up n 5 (s_draw (n 5))) ∧ s_dustC (s_up n 5 (s_draw (n 5))) < s_cells (s_up n 5 (s_draw (n 5))) := ⟨Int.emod_nonneg _ (by omega), Int.emod_lt_of_pos _ (by omega)⟩
  unfold s_dust
  split
  · exact (s_same_up (un_H hc.1 (by omega))).tr (s_same_up un_5)
  · exact s_same_up un_5
theorem Zn_dust (hV : Vn n) (h : Zn n) : Zn (s_dust n) := by
  have hcl := s_cells_of (Vn_draw hV (s_draw (n 5)))
  have hc : 0 ≤ s_dustC (s_up n 5 (s_draw (n 5))) ∧ s_dustC (s_up n 5 (s_draw (n 5))) < s_cells (s_up n 5 (s_draw (n 5))) := ⟨Int.emod_nonneg _ (by omega), Int.emod_lt_of_pos _ (by omega)⟩
  unfold s_dust
  split
  · exact Zn_up (Zn_up h (by omega)) (by omega)
  · exact Zn_up h (by omega)
theorem s_dust_lo (hV : Vn n) {i : Nat} (hi : i < 5) : s_dust n i = n i := by
  have hcl := s_cells_of (Vn_draw hV (s_draw (n 5)))
  have hc : 0 ≤ s_dustC (s_up n 5 (s_draw (n 5))) := Int.emod_nonneg _ (by omega)
  unfold s_dust
  split
  · rw [su_ne (by omega), su_ne (by omega)]
  · rw [su_ne (by omega)]
theorem Wn_day (h : Wn n) (hd : n 4 + 1 ≤ 9999) : Wn (s_day n) := by
  obtain ⟨hV, hd', hr, hz⟩ := h
  obtain ⟨a, b, c⟩ := Vn_aday hV
  exact ⟨a, by rw [b]; exact hd, by rw [c 5 (by omega) (by omega)]; exact hr, Zn_day hV hz⟩
theorem Wn_dust (h : Wn n) : Wn (s_dust n) := by
  obtain ⟨hV, hd', hr, hz⟩ := h
  have := s_draw_in (n 5)
  exact ⟨Vn_dust hV, by rw [s_dust_lo hV (by omega)]; exact hd', by rw [s_dust_5 hV]; exact this, Zn_dust hV hz⟩
/-- a day that is done, with dust or without -/
def s_1day (b : Bool) (n : am_Row) : am_Row := s_day (if b = true then s_dust n else n)
def s_gone (b : Bool) (n : am_Row) : Nat → am_Row
  | 0 => n
  | i + 1 => s_1day b (s_gone b n i)
def s_past (b : Bool) (n : am_Row) (H : List am_Row) : Nat → List am_Row
  | 0 => H
  | i + 1 => s_push (s_past b n H i) (s_gone b n i)
theorem Wn_one {b : Bool} (h : Wn n) (hd : n 4 + 1 ≤ 9999) : Wn (s_1day b n) ∧ s_1day b n 4 = n 4 + 1 ∧ s_same (s_1day b n) n := by
  cases b with
  | false =>
    obtain ⟨-, q, -⟩ := Vn_aday h.1
    exact ⟨Wn_day h hd, q, same_day h.1⟩
  | true =>
    have h1 := Wn_dust h
    have e4 := s_dust_lo h.1 (show 4 < 5 by omega)
    obtain ⟨-, q, -⟩ := Vn_aday h1.1
    exact ⟨Wn_day h1 (by show s_dust n 4 + 1 ≤ 9999; rw [e4]; exact hd), by rw [← e4]; exact q, (same_day h1.1).tr (same_dust h.1)⟩
theorem Wn_gone {b : Bool} {H : List am_Row} (h : Wn n) (hH : WH n H) (h8 : H.length ≤ 8) : ∀ i : Nat, n 4 + i ≤ 9999 → Wn (s_gone b n i) ∧ s_gone b n i 4 = n 4 + i ∧ WH (s_gone b n i) (s_past b n H i) ∧ (s_past b n H i).length ≤ 8 := by
  intro i
  induction i with
  | zero => intro _; exact ⟨h, by show n 4 = n 4 + 0; omega, hH, h8⟩
  | succ i ih =>
    intro hi
    obtain ⟨a, d, c, l⟩ := ih (by omega)
    obtain ⟨p, q, r⟩ := Wn_one (b := b) a (by rw [d]; omega)
    exact ⟨p, by show s_1day b (s_gone b n i) 4 = _; rw [q, d]; omega, WH_push a c r, push_len l⟩
theorem c_passes {S : am_S} (hE : SE E) (hS : OKS S) (b : Bool) {m : Int} (m0 : 1 ≤ m) (m1 : m ≤ 40) (hd : S.1 4 + m ≤ 9999) (hu : CS E u S) : ∃ u', Rn m_A_passes 0 [vR (some 0), vI m, vI (bI b), vB false] [] E u = some (some (vI (s_count (s_gone b S.1 m.toNat))), E, u') ∧ CS E u' (s_gone b S.1 m.toNat, s_past b S.1 S.2.1 m.toNat, S.2.2) ∧ LO u u' := by
  have cu1 := cuB_1
  have p15 := paB_15
  obtain ⟨M, hM⟩ : ∃ M : Nat, m = (M : Int) := ⟨m.toNat, by omega⟩
  subst hM
  rw [Int.toNat_natCast]
  have d0 := hS.1.1.2.2.2.2.1
  have hu4 := hu.2.1.2.2.2.2.1
  have loop : ∀ i : Nat, i ≤ M → ∃ v, Rn m_A_passes 0 [vR (some 0), vI (M : Int), vI (bI b), vB false] [] E u = Rn m_A_passes 32 [vR (some 0), vI (M : Int), vI (bI b), vI (i : Int)] [] E v ∧ CS E v (s_gone b S.1 i, s_past b S.1 S.2.1 i, S.2.2) ∧ LO u v := by
    intro i
    induction i with
    | zero =>
      intro _
      refine ⟨u, ?_, hu, LO.rf⟩
      simp (disch := first | assumption | omega) only [↓reduceIte, Int.reduceEq, Int.reduceLT, bdI_s, bdV_s, bdR_s, bdL_s, fx_I, fx_R, fx_B, fx_L, w32_of, x_A_passes, r_isInT, hu4, show ¬ 9999 - (M : Int) < S.1 4 by omega]
      rfl
    | succ i ih =>
      intro hi
      obtain ⟨v, e, hv, lv⟩ := ih (by omega)
      obtain ⟨gW, g4, gH, g8⟩ := Wn_gone (b := b) hS.1 hS.2.1.1 hS.2.1.2 i (by omega)
      have hSi : OKS (s_gone b S.1 i, s_past b S.1 S.2.1 i, S.2.2) := OKS_now hS gW gH g8
      obtain ⟨u1, e1, h1, f1⟩ := p_keeps (u := v) hE hv.2.2.1 hv.2.1 gW.1
      have c1 := CU_step hv hSi f1
      cases b with
      | false =>
        obtain ⟨u2, e2, h2, f2⟩ := c_goesOn c1 (show (s_gone false S.1 i) 4 < 2147483647 by rw [g4]; omega)
        refine ⟨u2, ?_, CS_step (S := (s_gone false S.1 i, s_past false S.1 S.2.1 i, S.2.2)) hv f1 h1 f2 h2.2.2.1, lv.tr (LO_step f1 f2)⟩
        rw [e, h_A_passes_32]
        simp (disch := first | assumption | omega) only [↓reduceIte, Int.reduceEq, Int.reduceLT, bdI_s, bdV_s, bdR_s, bdL_s, fx_I, fx_R, fx_B, fx_L, w32_of, x_A_passes, show (i : Int) < (M : Int) by omega, e1, e2, bI_0]
        rfl
      | true =>
        obtain ⟨u2, e2, h2, f2⟩ := c_gathersDust c1
        obtain ⟨u3, e3, h3, f3⟩ := c_goesOn h2 (by rw [s_dust_lo gW.1 (by omega)]; show (s_gone true S.1 i) 4 < _; rw [g4]; omega)
        refine ⟨u3, ?_, CS_step (S := (s_gone true S.1 i, s_past true S.1 S.2.1 i, S.2.2)) hv f1 h1 (f2.tr f3) h3.2.2.1, lv.tr (LO_step f1 (f2.tr f3))⟩
        rw [e, h_A_passes_32]
        simp (disch := first | assumption | omega) only [↓reduceIte, Int.reduceEq, Int.reduceLT, bdI_s, bdV_s, bdR_s, bdL_s, fx_I, fx_R, fx_B, fx_L, w32_of, x_A_passes, show (i : Int) < (M : Int) by omega, e1, e2, e3, bI_0, Bool.true_eq_false]
        rfl
  obtain ⟨v, e, hv, lv⟩ := loop M (Nat.le_refl M)
  obtain ⟨gW, g4, gH, g8⟩ := Wn_gone (b := b) hS.1 hS.2.1.1 hS.2.1.2 M (by omega)
  have hSi : OKS (s_gone b S.1 M, s_past b S.1 S.2.1 M, S.2.2) := OKS_now hS gW gH g8
  refine ⟨v, ?_, hv, lv⟩
  rw [e, h_A_passes_32]
  simp (disch := first | assumption | omega) only [↓reduceIte, Int.reduceEq, Int.reduceLT, bdI_s, bdV_s, bdR_s, bdL_s, fx_I, fx_R, fx_B, fx_L, w32_of, x_A_passes, show ¬ (M : Int) < (M : Int) by omega, c_holeCount (hv.cu hSi)]
theorem m_daysT {S : am_S} (hE : SE E) (hS : OKS S) {m : Int} (m0 : 1 ≤ m) (m1 : m ≤ 40) (hd : S.1 4 + m ≤ 9999) (hu : MS E u S) : ∃ u', Rn m_M_days 0 [vR (some 149), vI m, vB false] [] E u = some (some (vI (s_count (s_gone false S.1 m.toNat))), E, u') ∧ MS E u' (s_gone false S.1 m.toNat, s_past false S.1 S.2.1 m.toNat, S.2.2) ∧ HI u u' := by
  obtain ⟨M, hM⟩ : ∃ M : Nat, m = (M : Int) := ⟨m.toNat, by omega⟩
  subst hM
  rw [Int.toNat_natCast]
  have al := (al_m hE).1
  have d0 := hS.1.1.2.2.2.2.1
  have hn := hu.2.1
  have e4 : (4 : Int).toNat = 4 := rfl
  have loop : ∀ i : Nat, i ≤ M → ∃ v, Rn m_M_days 0 [vR (some 149), vI (M : Int), vB false] [] E u = Rn m_M_days 33 [vR (some 149), vI (M : Int), vI (i : Int)] [] E v ∧ MS E v (s_gone false S.1 i, s_past false S.1 S.2.1 i, S.2.2) ∧ HI u v := by
    intro i
    induction i with
    | zero =>
      intro _
      refine ⟨u, ?_, hu, HI.rf⟩
      simp (disch := first | assumption | omega) only [↓reduceIte, Int.reduceEq, Int.reduceLT, bdI_s, bdV_s, bdR_s, bdL_s, fx_I, fx_R, fx_B, fx_L, w32_of, x_M_days, m_inT, hn, e4, show ¬ 9999 < S.1 4 + (M : Int) by omega]
      rfl
    | succ i ih =>
      intro hi
      obtain ⟨v, e, hv, lv⟩ := ih (by omega)
      obtain ⟨gW, g4, gH, g8⟩ := Wn_gone (b := false) hS.1 hS.2.1.1 hS.2.1.2 i (by omega)
      have hSi : OKS (s_gone false S.1 i, s_past false S.1 S.2.1 i, S.2.2) := OKS_now hS gW gH g8
      obtain ⟨u1, e1, h1, f1, f2⟩ := m_notes (u := v) hE hv.2.1 hv.2.2.1
      have c1 := MU_step hv hSi f1
      have e2 := m_goesBy c1 (show (s_gone false S.1 i) 4 < 2147483647 by rw [g4]; omega)
      refine ⟨sN u1 (s_gone false S.1 (i + 1)), ?_, MS_step hv h1 f1 f2 _, lv.tr (HI_step f1 _)⟩
      rw [e, h_M_days_33]
      simp (disch := first | assumption | omega) only [↓reduceIte, Int.reduceEq, Int.reduceLT, bdI_s, bdV_s, bdR_s, bdL_s, fx_I, fx_R, fx_B, fx_L, w32_of, x_M_days, show (i : Int) < (M : Int) by omega, e1, e2]
      rfl
  obtain ⟨v, e, hv, lv⟩ := loop M (Nat.le_refl M)
  obtain ⟨gW, g4, gH, g8⟩ := Wn_gone (b := false) hS.1 hS.2.1.1 hS.2.1.2 M (by omega)
  have hSi : OKS (s_gone false S.1 M, s_past false S.1 S.2.1 M, S.2.2) := OKS_now hS gW gH g8
  refine ⟨v, ?_, hv, lv⟩
  rw [e, h_M_days_33]
  simp (disch := first | assumption | omega) only [↓reduceIte, Int.reduceEq, Int.reduceLT, bdI_s, bdV_s, bdR_s, bdL_s, fx_I, fx_R, fx_B, fx_L, w32_of, x_M_days, show ¬ (M : Int) < (M : Int) by omega, m_holesNow (hv.mu hSi)]
theorem k_days {S : am_S} (hE : SE E) (hS : OKS S) {m : Int} : BOTH E S (fun u => Rn m_A_days 0 [vR (some 0), vI m] [] E u) (fun u => Rn m_M_days 0 [vR (some 149), vI m, vB false] [] E u) := by
  have cu1 := cuB_1
  have d0 := hS.1.1.2.2.2.2.1
  have d1 := hS.1.2.1
  by_cases h1 : 1 ≤ m ∧ m ≤ 40
  case neg => exact ⟨-1, S, hS, CA_id fun u hu => by simp (disch := first | assumption | omega) only [↓reduceIte, Int.reduceEq, Int.reduceLT, bdI_s, bdV_s, bdR_s, bdL_s, fx_I, fx_R, fx_B, fx_L, w32_of, x_A_days, x_A_passes, r_isInF], MA_id fun u hu => by simp (disch := first | assumption | omega) only [↓reduceIte, Int.reduceEq, Int.reduceLT, bdI_s, bdV_s, bdR_s, bdL_s, fx_I, fx_R, fx_B, fx_L, w32_of, x_M_days, m_inF]⟩
  by_cases hd : S.1 4 + m ≤ 9999
  · have := Wn_gone (b := false) hS.1 hS.2.1.1 hS.2.1.2 m.toNat (by omega)
    refine ⟨s_count (s_gone false S.1 m.toNat), (s_gone false S.1 m.toNat, s_past false S.1 S.2.1 m.toNat, S.2.2), OKS_now hS this.1 this.2.2.1 this.2.2.2, fun u hu => ?_, fun u hu => m_daysT hE hS h1.1 h1.2 hd hu⟩
    obtain ⟨u', e, a, b⟩ := c_passes hE hS false h1.1 h1.2 hd hu
    refine ⟨u', ?_, a, b⟩
    rw [bI_f] at e
    simp (disch := first | assumption | omega) only [↓reduceIte, Int.reduceEq, Int.reduceLT, bdI_s, bdV_s, bdR_s, bdL_s, fx_I, fx_R, fx_B, fx_L, w32_of, x_A_days, e]
  · refine ⟨-3, S, hS, CA_id fun u hu => ?_, MA_id fun u hu => ?_⟩
    · have hu4 := hu.2.1.2.2.2.2.1
      simp (disch := first | assumption | omega) only [↓reduceIte, Int.reduceEq, Int.reduceLT, bdI_s, bdV_s, bdR_s, bdL_s, fx_I, fx_R, fx_B, fx_L, w32_of, x_A_days, x_A_passes, r_isInT, hu4, show 9999 - m < S.1 4 by omega]
    · have al := (al_m hE).1
      have hn := hu.2.1
      have e4 : (4 : Int).toNat = 4 := rfl
      simp (disch := first | assumption | omega) only [↓reduceIte, Int.reduceEq, Int.reduceLT, bdI_s, bdV_s, bdR_s, bdL_s, fx_I, fx_R, fx_B, fx_L, w32_of, x_M_days, m_inT, hn, e4, show 9999 < S.1 4 + m by omega]

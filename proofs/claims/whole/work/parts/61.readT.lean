/-! The reference reads a pin, a hole, a thread. -/
variable {E : am_E} {u : am_M} {k : Nat} {n : am_Row} {T : List Int}
def s_pinW (n r : am_Row) (K c v : Int) : am_Row := s_up (s_up (s_up (s_up r (6 + 3 * n 2).toNat K) (6 + 3 * n 2 + 1).toNat c) (6 + 3 * n 2 + 2).toNat v) 2 (n 2 + 1)
def s_thrW (n r : am_Row) (a b l : Int) : am_Row := s_up (s_up (s_up (s_up r (27 + 4 * n 3).toNat a) (27 + 4 * n 3 + 1).toNat b) (27 + 4 * n 3 + 2).toNat l) 3 (n 3 + 1)
theorem s_pinW_ne {r : am_Row} {K c v : Int} {i : Nat} (h2 : 0 ≤ n 2) (h : i ≠ 2) (h3 : ¬ (6 + 3 * n 2 ≤ (i : Int) ∧ (i : Int) < 9 + 3 * n 2)) : s_pinW n r K c v i = r i := by
  unfold s_pinW
  rw [su_ne (by omega), su_ne (by omega), su_ne (by omega), su_ne (by omega)]
theorem s_thrW_ne {r : am_Row} {a b l : Int} {i : Nat} (h2 : 0 ≤ n 3) (h : i ≠ 3) (h3 : ¬ (27 + 4 * n 3 ≤ (i : Int) ∧ (i : Int) < 30 + 4 * n 3)) : s_thrW n r a b l i = r i := by
  unfold s_thrW
  rw [su_ne (by omega), su_ne (by omega), su_ne (by omega), su_ne (by omega)]
theorem PR_pin (hV : Vn n) (h7 : n 2 < 7) {r o : am_Row} (hP : PR n r o) {K c v : Int} (c0 : 0 ≤ c) (hc1 : s_H n c ≠ 1) : PR (s_addPin n K c v) (s_pinW n r K c v) (s_up o c.toNat 1) := by
  obtain ⟨⟨p0, p1, p2, p3⟩, pp, pt, pc⟩ := hP
  have h2 := hV.2.2.1
  have h3 := hV.2.2.2.1
  have L : ∀ i : Nat, i ≠ 2 → ¬ (6 + 3 * n 2 ≤ (i : Int) ∧ (i : Int) < 9 + 3 * n 2) → s_addPin n K c v i = n i ∧ s_pinW n r K c v i = r i := fun i i0 i1 => ⟨s_addPin_ne h2.1 i0 i1, s_pinW_ne h2.1 i0 i1⟩
  have e2 : s_pinW n r K c v 2 = n 2 + 1 := by unfold s_pinW; rw [su_eq]
  refine ⟨⟨?_, ?_, ?_, ?_⟩, fun q q0 q1 => ?_, fun t t0 t1 => ?_, fun d d0 d1 => ?_⟩
  · rw [(L 0 (by omega) (by omega)).1, (L 0 (by omega) (by omega)).2, p0]
  · rw [(L 1 (by omega) (by omega)).1, (L 1 (by omega) (by omega)).2, p1]
  · rw [s_addPin_2, e2]
  · rw [(L 3 (by omega) (by omega)).1, (L 3 (by omega) (by omega)).2, p3]
  · rw [s_addPin_2] at q1
    by_cases e : q = n 2
    · subst e
      rw [s_addPin_K h2.1, s_addPin_C h2.1, s_addPin_V h2.1]
      unfold s_pinW
      refine ⟨?_, ?_, ?_⟩
      · rw [su_ne (by omega), su_ne (by omega), su_ne (by omega), su_eq]
      · rw [su_ne (by omega), su_ne (by omega), su_eq]
      · rw [su_ne (by omega), su_eq]
    · have a := pp q q0 (by omega)
      unfold s_K s_C s_V at a ⊢
      rw [(L _ (by omega) (by omega)).1, (L _ (by omega) (by omega)).1, (L _ (by omega) (by omega)).1, (L _ (by omega) (by omega)).2, (L _ (by omega) (by omega)).2, (L _ (by omega) (by omega)).2]
      exact a
  · rw [(L 3 (by omega) (by omega)).1] at t1
    have a := pt t t0 t1
    unfold s_A s_B s_L s_X at a ⊢
    rw [(L _ (by omega) (by omega)).1, (L _ (by omega) (by omega)).1, (L _ (by omega) (by omega)).1, (L _ (by omega) (by omega)).1, (L (27 + 4 * t).toNat (by omega) (by omega)).2, (L (27 + 4 * t + 1).toNat (by omega) (by omega)).2, (L (27 + 4 * t + 2).toNat (by omega) (by omega)).2]
    exact a
  · have a := pc d d0 d1
    have eH : s_H (s_addPin n K c v) d = s_H n d := (L _ (by omega) (by omega)).1
    rw [eH, s_addPin_2]
    have eC : ∀ q : Int, 0 ≤ q → q < n 2 → s_C (s_addPin n K c v) q = s_C n q := fun q q0 q1 => (L _ (by omega) (by omega)).1
    by_cases e : d = c
    · subst e
      rw [su_eq]
      refine ⟨⟨fun z => absurd z (by decide), fun z => absurd (s_addPin_C h2.1) (z.2 (n 2) h2.1 (by omega))⟩, ⟨fun z => absurd z (by decide), fun z => absurd z hc1⟩⟩
    · rw [su_ne (by omega)]
      refine ⟨⟨fun z => ⟨(a.1.mp z).1, fun q q0 q1 => ?_⟩, fun z => a.1.mpr ⟨z.1, fun q q0 q1 => ?_⟩⟩, a.2⟩
      · by_cases eq : q = n 2
        · subst eq; rw [s_addPin_C h2.1]; exact fun y => e y.symm
        · rw [eC q q0 (by omega)]; exact (a.1.mp z).2 q q0 (by omega)
      · have := z.2 q q0 (by omega)
        rw [eC q q0 q1] at this
        exact this
theorem PR_hole (hV : Vn n) {r o : am_Row} (hP : PR n r o) {c : Int} (c0 : 0 ≤ c) : PR (s_up n (51 + c).toNat 1) r (s_up o c.toNat 2) := by
  obtain ⟨⟨p0, p1, p2, p3⟩, pp, pt, pc⟩ := hP
  have h2 := hV.2.2.1
  have h3 := hV.2.2.2.1
  have L : ∀ i : Nat, i < 51 → s_up n (51 + c).toNat 1 i = n i := fun i i0 => su_ne (by omega)
  refine ⟨⟨?_, ?_, ?_, ?_⟩, fun q q0 q1 => ?_, fun t t0 t1 => ?_, fun d d0 d1 => ?_⟩
  · rw [L 0 (by omega), p0]
  · rw [L 1 (by omega), p1]
  · rw [L 2 (by omega), p2]
  · rw [L 3 (by omega), p3]
  · rw [L 2 (by omega)] at q1
    have a := pp q q0 q1
    unfold s_K s_C s_V at a ⊢
    rw [L _ (by omega), L _ (by omega), L _ (by omega)]
    exact a
  · rw [L 3 (by omega)] at t1
    have a := pt t t0 t1
    unfold s_A s_B s_L s_X at a ⊢
    rw [L _ (by omega), L _ (by omega), L _ (by omega), L _ (by omega)]
    exact a
  · have a := pc d d0 d1
    rw [L 2 (by omega)]
    have eC : ∀ q : Int, 0 ≤ q → q < n 2 → s_C (s_up n (51 + c).toNat 1) q = s_C n q := fun q q0 q1 => L _ (by omega)
    by_cases e : d = c
    · subst e
      have eH : s_H (s_up n (51 + d).toNat 1) d = 1 := su_eq
      rw [su_eq, eH]
      exact ⟨⟨fun z => absurd z (by decide), fun z => absurd rfl z.1⟩, ⟨fun _ => rfl, fun _ => rfl⟩⟩
    · have eH : s_H (s_up n (51 + c).toNat 1) d = s_H n d := su_ne (by omega)
      rw [su_ne (by omega), eH]
      refine ⟨⟨fun z => ⟨(a.1.mp z).1, fun q q0 q1 => ?_⟩, fun z => a.1.mpr ⟨z.1, fun q q0 q1 => ?_⟩⟩, a.2⟩
      · rw [eC q q0 q1]; exact (a.1.mp z).2 q q0 q1
      · have := z.2 q q0 q1
        rw [eC q q0 q1] at this
        exact this
theorem PR_thr (hV : Vn n) (h6 : n 3 < 6) {r o : am_Row} (hP : PR n r o) {a b l : Int} : PR (s_addThr n a b l) (s_thrW n r a b l) o := by
  obtain ⟨⟨p0, p1, p2, p3⟩, pp, pt, pc⟩ := hP
  have h2 := hV.2.2.1
  have h3 := hV.2.2.2.1
  have L : ∀ i : Nat, i ≠ 3 → ¬ (27 + 4 * n 3 ≤ (i : Int) ∧ (i : Int) < 31 + 4 * n 3) → s_addThr n a b l i = n i ∧ s_thrW n r a b l i = r i := fun i i0 i1 => ⟨s_addThr_ne h3.1 i0 i1, s_thrW_ne h3.1 i0 (by omega)⟩
  have e3 : s_thrW n r a b l 3 = n 3 + 1 := by unfold s_thrW; rw [su_eq]
  refine ⟨⟨?_, ?_, ?_, ?_⟩, fun q q0 q1 => ?_, fun t t0 t1 => ?_, fun d d0 d1 => ?_⟩
  · rw [(L 0 (by omega) (by omega)).1, (L 0 (by omega) (by omega)).2, p0]
  · rw [(L 1 (by omega) (by omega)).1, (L 1 (by omega) (by omega)).2, p1]
  · rw [(L 2 (by omega) (by omega)).1, (L 2 (by omega) (by omega)).2, p2]
  · rw [s_addThr_3, e3]
  · rw [(L 2 (by omega) (by omega)).1] at q1
    have x := pp q q0 q1
    unfold s_K s_C s_V at x ⊢
    rw [(L _ (by omega) (by omega)).1, (L _ (by omega) (by omega)).1, (L _ (by omega) (by omega)).1, (L _ (by omega) (by omega)).2, (L _ (by omega) (by omega)).2, (L _ (by omega) (by omega)).2]
    exact x
  · rw [s_addThr_3] at t1
    by_cases e : t = n 3
    · subst e
      rw [s_addThr_A h3.1, s_addThr_B h3.1, s_addThr_L h3.1, s_addThr_X h3.1]
      have x0 : s_thrW n r a b l (27 + 4 * n 3).toNat = a := by unfold s_thrW; rw [su_ne (by omega), su_ne (by omega), su_ne (by omega), su_eq]
      have x1 : s_thrW n r a b l (27 + 4 * n 3 + 1).toNat = b := by unfold s_thrW; rw [su_ne (by omega), su_ne (by omega), su_eq]
      have x2 : s_thrW n r a b l (27 + 4 * n 3 + 2).toNat = l := by unfold s_thrW; rw [su_ne (by omega), su_eq]
      rw [x0, x1, x2]
      exact ⟨rfl, rfl, rfl, rfl⟩
    · have x := pt t t0 (by omega)
      unfold s_A s_B s_L s_X at x ⊢
      rw [(L _ (by omega) (by omega)).1, (L _ (by omega) (by omega)).1, (L _ (by omega) (by omega)).1, (L _ (by omega) (by omega)).1, (L (27 + 4 * t).toNat (by omega) (by omega)).2, (L (27 + 4 * t + 1).toNat (by omega) (by omega)).2, (L (27 + 4 * t + 2).toNat (by omega) (by omega)).2]
      exact x
  · have x := pc d d0 d1
    have eH : s_H (s_addThr n a b l) d = s_H n d := (L _ (by omega) (by omega)).1
    rw [eH, (L 2 (by omega) (by omega)).1]
    have eC : ∀ q : Int, 0 ≤ q → q < n 2 → s_C (s_addThr n a b l) q = s_C n q := fun q q0 q1 => (L _ (by omega) (by omega)).1
    refine ⟨⟨fun z => ⟨(x.1.mp z).1, fun q q0 q1 => ?_⟩, fun z => x.1.mpr ⟨z.1, fun q q0 q1 => ?_⟩⟩, x.2⟩
    · rw [eC q q0 q1]; exact (x.1.mp z).2 q q0 q1
    · have := z.2 q q0 q1
      rw [eC q q0 q1] at this
      exact this
/-- a thing read: the place, whether it is at fault, what the reference holds now -/
def m_red (E : am_E) (u : am_M) (z : Bool × Nat × am_Row) (w : am_Z) : Prop := ∃ r' o', w = some (none, E, ZS u ((z.2.1 : Nat) : Int) (bI (!z.1)) r' o') ∧ (z.1 = true → PR z.2.2 r' o')
theorem m_readHole (hE : SE E) (hT : OKt T) (hS : MSt u T) {r o : am_Row} (hV : Vn n) (hP : PR n r o) {q : Nat} (hq : q < T.length) : m_red E u (p_hole T n q) (Rn m_M_readHole 0 [vR (some 149), vB false] [] E (ZS u (q : Int) 0 r o)) := by
  obtain ⟨l0, l1, l2, l3, l4, l5, l6, l7, l8, l9, l10⟩ := al_m hE
  have l120 := hT.1
  have hcl := s_cells_of hV
  have h6 : q < 1000000 := by omega
  obtain ⟨v, fc, hv⟩ := m_freeCell (u := u) (q := q + 1) hE hT hS hV hP hq
  have ok := p_cell_ok hV hT (q := q + 1) hq
  unfold p_hole
  generalize p_cell T n (q + 1) = C at *
  by_cases h4 : C.1 = -4
  · rw [if_pos h4]
    rw [if_pos h4] at fc
    refine ⟨r, o, ?_, fun z => by cases z⟩
    have z1 : ¬ (1 : Int) = 0 := by decide
    simp (disch := assumption) only [↓reduceIte, Int.reduceEq, Int.reduceLT, bdI_s, bdV_s, bdR_s, bdL_s, fx_I, fx_R, fx_B, fx_L, x_M_readHole, zr_3, w_suc h6, zs_3, fc, zr_4, z1]
    rfl
  · rw [if_neg h4]
    rw [if_neg h4] at fc
    obtain ⟨-, -, okc⟩ := ok
    obtain ⟨c1, c2, -⟩ := okc h4
    have ev := hv h4
    rw [ev] at fc
    have a1 : C.1 < am_len 10 E 153 := by omega
    refine ⟨r, s_up o C.1.toNat 2, ?_, fun _ => PR_hole hV hP c1⟩
    simp (disch := assumption) only [↓reduceIte, Int.reduceEq, Int.reduceLT, bdI_s, bdV_s, bdR_s, bdL_s, fx_I, fx_R, fx_B, fx_L, x_M_readHole, zr_3, w_suc h6, zs_3, fc, zr_4, zs_6]
    rfl

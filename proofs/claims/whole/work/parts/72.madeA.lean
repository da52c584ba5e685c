/-! The class's object, as its constructor leaves it. -/
variable {E : am_E} {u : am_M} {k b : Nat} {l1 : am_V}
/-- what was there stays, and of the object at 0 the fields below j -/
def GA (j b : Nat) (E E' : am_E) (u u' : am_M) : Prop := E'.2.2 = E.2.2 ∧ (∀ i, i < b → u' i = u i) ∧ (∀ i, 0 < i → i < b → E'.2.1 i = E.2.1 i) ∧ ∀ x, x < j → E'.2.1 0 x = E.2.1 0 x
theorem GA.tr {j j' b b' : Nat} {E1 E2 E3 : am_E} {u1 u2 u3 : am_M} (h : GA j b E1 E2 u1 u2) (h' : GA j' b' E2 E3 u2 u3) (hj : j ≤ j') (hb : b ≤ b') : GA j b E1 E3 u1 u3 :=
  ⟨h'.1.trans h.1, fun i hi => (h'.2.1 i (by omega)).trans (h.2.1 i hi), fun i h0 hi => (h'.2.2.1 i h0 (by omega)).trans (h.2.2.1 i h0 hi), fun x hx => (h'.2.2.2 x (by omega)).trans (h.2.2.2 x hx)⟩
def cuO : List (Nat × Nat) := (0, 14) :: cuL
def paO : List (Nat × Nat) := (1, 3) :: (12, 8) :: rep 8
def taO : List (Nat × Nat) := [(3, 3), (10, 120)]
def rS : Nat → List (Nat × Nat)
  | 0 => []
  | i + 1 => rS i ++ [(2, 4), (11, 24)]
theorem rS_len : ∀ i, (rS i).length = 2 * i
  | 0 => rfl
  | i + 1 => by rw [rS, List.length_append, rS_len i]; show 2 * i + 2 = _; omega
theorem cuO_len : cuO.length = 7 := rfl
theorem paO_len : paO.length = 58 := by
  show (rep 8).length + 1 + 1 = 58
  rw [rep_len]
theorem taO_len : taO.length = 2 := rfl
theorem A_c0 (hk : E.1[0]? = some (4, 8)) (hl : E.1.length = b) (hb : 0 < b) : ∃ E' u', Rn m_A_init 4 [vR (some 0), l1] [] E u = Rn m_A_init 15 [vR (some 0), l1] [] E' u' ∧ E'.1 = E.1 ++ cuO ∧ GA 0 b E E' u u' ∧ E'.2.1 0 0 = some b ∧ cuE E' b ∧ RC u' b n_I := by
  subst hl
  have k2 : (((E.1 ++ [(0, 14)], am_zq E.2.1 E.1.length, E.2.2) : am_E)).1[E.1.length]? = some (0, 14) := gC rfl
  obtain ⟨E3, u3, e3, a3, g3, c3, R3⟩ := C_made (E := (E.1 ++ [(0, 14)], am_zq E.2.1 E.1.length, E.2.2)) (u := am_zr u E.1.length) k2 (by show (E.1 ++ [(0, 14)]).length = _; simp) (fun j => zr_eq)
  have k3 : E3.1[0]? = some (4, 8) := by rw [a3]; exact gA (gA hk)
  have p3 : ∀ j, j < E.1.length → E3.2.1 j = E.2.1 j ∧ u3 j = u j := fun j hj => ⟨((g3.2 j hj).1).trans (zq_ne (by omega)), ((g3.2 j hj).2).trans (zr_ne (by omega))⟩
  refine ⟨(E3.1, am_rp E3.2.1 0 0 (some E.1.length), E3.2.2), u3, ?_, ?_, ⟨g3.1, fun i hi => (p3 i hi).2, fun i h0 hi => (rp_ne (by omega)).trans (p3 i hi).1, fun x hx => ?_⟩, (by show am_rp E3.2.1 0 0 (some E.1.length) 0 0 = _; exact rp_eq), cuE_c c3 (rp_ne (by omega)), R3⟩
  · rw [x_A_init.2.2.1, x_A_init.2.2.2.1, x_A_init.2.2.2.2.2.1, x_A_init.2.2.2.2.2.2.1 _ _ _ _ _ _ _ k2, e3, bdV_s, x_A_init.2.2.2.2.2.2.2.1 _ _ _ _ _ _ _ k3]
  · show E3.1 = _
    rw [a3]
    show (E.1 ++ [(0, 14)]) ++ _ = _
    rw [List.append_assoc]
    rfl
  · show am_rp E3.2.1 0 0 (some E.1.length) 0 x = _
    rw [rp_nj (by omega), (p3 0 hb).1]
theorem A_c1 (hk : E.1[0]? = some (4, 8)) (hl : E.1.length = b) (hb : 0 < b) : ∃ E' u', Rn m_A_init 15 [vR (some 0), l1] [] E u = Rn m_A_init 26 [vR (some 0), l1] [] E' u' ∧ E'.1 = E.1 ++ cuO ∧ GA 1 b E E' u u' ∧ E'.2.1 0 1 = some b ∧ cuE E' b ∧ RC u' b n_I := by
  subst hl
  have k2 : (((E.1 ++ [(0, 14)], am_zq E.2.1 E.1.length, E.2.2) : am_E)).1[E.1.length]? = some (0, 14) := gC rfl
  obtain ⟨E3, u3, e3, a3, g3, c3, R3⟩ := C_made (E := (E.1 ++ [(0, 14)], am_zq E.2.1 E.1.length, E.2.2)) (u := am_zr u E.1.length) k2 (by show (E.1 ++ [(0, 14)]).length = _; simp) (fun j => zr_eq)
  have k3 : E3.1[0]? = some (4, 8) := by rw [a3]; exact gA (gA hk)
  have p3 : ∀ j, j < E.1.length → E3.2.1 j = E.2.1 j ∧ u3 j = u j := fun j hj => ⟨((g3.2 j hj).1).trans (zq_ne (by omega)), ((g3.2 j hj).2).trans (zr_ne (by omega))⟩
  refine ⟨(E3.1, am_rp E3.2.1 0 1 (some E.1.length), E3.2.2), u3, ?_, ?_, ⟨g3.1, fun i hi => (p3 i hi).2, fun i h0 hi => (rp_ne (by omega)).trans (p3 i hi).1, fun x hx => ?_⟩, (by show am_rp E3.2.1 0 1 (some E.1.length) 0 1 = _; exact rp_eq), cuE_c c3 (rp_ne (by omega)), R3⟩
  · rw [x_A_init.2.2.2.2.2.2.2.2.1, x_A_init.2.2.2.2.2.2.2.2.2.1, x_A_init.2.2.2.2.2.2.2.2.2.2.2.1, x_A_init.2.2.2.2.2.2.2.2.2.2.2.2.1 _ _ _ _ _ _ _ k2, e3, bdV_s, x_A_init.2.2.2.2.2.2.2.2.2.2.2.2.2.1 _ _ _ _ _ _ _ k3]
  · show E3.1 = _
    rw [a3]
    show (E.1 ++ [(0, 14)]) ++ _ = _
    rw [List.append_assoc]
    rfl
  · show am_rp E3.2.1 0 1 (some E.1.length) 0 x = _
    rw [rp_nj (by omega), (p3 0 hb).1]
theorem A_c3 (hk : E.1[0]? = some (4, 8)) (hl : E.1.length = b) (hb : 0 < b) : ∃ E' u', Rn m_A_init 37 [vR (some 0), l1] [] E u = Rn m_A_init 48 [vR (some 0), l1] [] E' u' ∧ E'.1 = E.1 ++ cuO ∧ GA 3 b E E' u u' ∧ E'.2.1 0 3 = some b ∧ cuE E' b ∧ RC u' b n_I := by
  subst hl
  have k2 : (((E.1 ++ [(0, 14)], am_zq E.2.1 E.1.length, E.2.2) : am_E)).1[E.1.length]? = some (0, 14) := gC rfl
  obtain ⟨E3, u3, e3, a3, g3, c3, R3⟩ := C_made (E := (E.1 ++ [(0, 14)], am_zq E.2.1 E.1.length, E.2.2)) (u := am_zr u E.1.length) k2 (by show (E.1 ++ [(0, 14)]).length = _; simp) (fun j => zr_eq)
  have k3 : E3.1[0]? = some (4, 8) := by rw [a3]; exact gA (gA hk)
  have p3 : ∀ j, j < E.1.length → E3.2.1 j = E.2.1 j ∧ u3 j = u j := fun j hj => ⟨((g3.2 j hj).1).trans (zq_ne (by omega)), ((g3.2 j hj).2).trans (zr_ne (by omega))⟩
  refine ⟨(E3.1, am_rp E3.2.1 0 3 (some E.1.length), E3.2.2), u3, ?_, ?_, ⟨g3.1, fun i hi => (p3 i hi).2, fun i h0 hi => (rp_ne (by omega)).trans (p3 i hi).1, fun x hx => ?_⟩, (by show am_rp E3.2.1 0 3 (some E.1.length) 0 3 = _; exact rp_eq), cuE_c c3 (rp_ne (by omega)), R3⟩
  · rw [x_A_init.2.2.2.2.2.2.2.2.2.2.2.2.2.2.2.2.2.2.2.2.1, x_A_init.2.2.2.2.2.2.2.2.2.2.2.2.2.2.2.2.2.2.2.2.2.1, x_A_init.2.2.2.2.2.2.2.2.2.2.2.2.2.2.2.2.2.2.2.2.2.2.2.1, x_A_init.2.2.2.2.2.2.2.2.2.2.2.2.2.2.2.2.2.2.2.2.2.2.2.2.1 _ _ _ _ _ _ _ k2, e3, bdV_s, x_A_init.2.2.2.2.2.2.2.2.2.2.2.2.2.2.2.2.2.2.2.2.2.2.2.2.2.1 _ _ _ _ _ _ _ k3]
  · show E3.1 = _
    rw [a3]
    show (E.1 ++ [(0, 14)]) ++ _ = _
    rw [List.append_assoc]
    rfl
  · show am_rp E3.2.1 0 3 (some E.1.length) 0 x = _
    rw [rp_nj (by omega), (p3 0 hb).1]
theorem A_p2 (hk : E.1[0]? = some (4, 8)) (hl : E.1.length = b) (hb : 0 < b) : ∃ E' u', Rn m_A_init 26 [vR (some 0), l1] [] E u = Rn m_A_init 37 [vR (some 0), l1] [] E' u' ∧ E'.1 = E.1 ++ paO ∧ GA 2 b E E' u u' ∧ E'.2.1 0 2 = some b ∧ E'.2.1 b 0 = some (b + 1) ∧ (∀ m, m < 8 → E'.2.1 (b + 1) m = some (b + 2 + 7 * m)) ∧ (∀ m, m < 8 → cuE E' (b + 2 + 7 * m)) ∧ ∀ j, u' b j = 0 := by
  subst hl
  have k2 : (((E.1 ++ [(1, 3)], am_zq E.2.1 E.1.length, E.2.2) : am_E)).1[E.1.length]? = some (1, 3) := gC rfl
  obtain ⟨E3, u3, e3, a3, g3, r3, f3, c3, z3⟩ := P_made (E := (E.1 ++ [(1, 3)], am_zq E.2.1 E.1.length, E.2.2)) (u := am_zr u E.1.length) k2 (by show (E.1 ++ [(1, 3)]).length = _; simp) (fun j => zr_eq)
  have k3 : E3.1[0]? = some (4, 8) := by rw [a3]; exact gA (gA hk)
  have p3 : ∀ j, j < E.1.length → E3.2.1 j = E.2.1 j ∧ u3 j = u j := fun j hj => ⟨((g3.2 j hj).1).trans (zq_ne (by omega)), ((g3.2 j hj).2).trans (zr_ne (by omega))⟩
  refine ⟨(E3.1, am_rp E3.2.1 0 2 (some E.1.length), E3.2.2), u3, ?_, ?_, ⟨g3.1, fun i hi => (p3 i hi).2, fun i h0 hi => (rp_ne (by omega)).trans (p3 i hi).1, fun x hx => ?_⟩, (by show am_rp E3.2.1 0 2 (some E.1.length) 0 2 = _; exact rp_eq), (by show am_rp E3.2.1 0 2 (some E.1.length) E.1.length 0 = _; rw [rp_ne (by omega), r3]), fun m hm => (by show am_rp E3.2.1 0 2 (some E.1.length) (E.1.length + 1) m = _; rw [rp_ne (by omega), f3 m hm]), fun m hm => cuE_c (c3 m hm) (rp_ne (by omega)), z3⟩
  · rw [x_A_init.2.2.2.2.2.2.2.2.2.2.2.2.2.2.1, x_A_init.2.2.2.2.2.2.2.2.2.2.2.2.2.2.2.1, x_A_init.2.2.2.2.2.2.2.2.2.2.2.2.2.2.2.2.2.1, x_A_init.2.2.2.2.2.2.2.2.2.2.2.2.2.2.2.2.2.2.1 _ _ _ _ _ _ _ k2, e3, bdV_s, x_A_init.2.2.2.2.2.2.2.2.2.2.2.2.2.2.2.2.2.2.2.1 _ _ _ _ _ _ _ k3]
  · show E3.1 = _
    rw [a3]
    show (E.1 ++ [(1, 3)]) ++ _ = _
    rw [List.append_assoc]
    rfl
  · show am_rp E3.2.1 0 2 (some E.1.length) 0 x = _
    rw [rp_nj (by omega), (p3 0 hb).1]
theorem A_p4 (hk : E.1[0]? = some (4, 8)) (hl : E.1.length = b) (hb : 0 < b) : ∃ E' u', Rn m_A_init 48 [vR (some 0), l1] [] E u = Rn m_A_init 59 [vR (some 0), l1] [] E' u' ∧ E'.1 = E.1 ++ paO ∧ GA 4 b E E' u u' ∧ E'.2.1 0 4 = some b ∧ E'.2.1 b 0 = some (b + 1) ∧ (∀ m, m < 8 → E'.2.1 (b + 1) m = some (b + 2 + 7 * m)) ∧ (∀ m, m < 8 → cuE E' (b + 2 + 7 * m)) ∧ ∀ j, u' b j = 0 := by
  subst hl
  have k2 : (((E.1 ++ [(1, 3)], am_zq E.2.1 E.1.length, E.2.2) : am_E)).1[E.1.length]? = some (1, 3) := gC rfl
  obtain ⟨E3, u3, e3, a3, g3, r3, f3, c3, z3⟩ := P_made (E := (E.1 ++ [(1, 3)], am_zq E.2.1 E.1.length, E.2.2)) (u := am_zr u E.1.length) k2 (by show (E.1 ++ [(1, 3)]).length = _; simp) (fun j => zr_eq)
  have k3 : E3.1[0]? = some (4, 8) := by rw [a3]; exact gA (gA hk)
  have p3 : ∀ j, j < E.1.length → E3.2.1 j = E.2.1 j ∧ u3 j = u j := fun j hj => ⟨((g3.2 j hj).1).trans (zq_ne (by omega)), ((g3.2 j hj).2).trans (zr_ne (by omega))⟩
  refine ⟨(E3.1, am_rp E3.2.1 0 4 (some E.1.length), E3.2.2), u3, ?_, ?_, ⟨g3.1, fun i hi => (p3 i hi).2, fun i h0 hi => (rp_ne (by omega)).trans (p3 i hi).1, fun x hx => ?_⟩, (by show am_rp E3.2.1 0 4 (some E.1.length) 0 4 = _; exact rp_eq), (by show am_rp E3.2.1 0 4 (some E.1.length) E.1.length 0 = _; rw [rp_ne (by omega), r3]), fun m hm => (by show am_rp E3.2.1 0 4 (some E.1.length) (E.1.length + 1) m = _; rw [rp_ne (by omega), f3 m hm]), fun m hm => cuE_c (c3 m hm) (rp_ne (by omega)), z3⟩
  · rw [x_A_init.2.2.2.2.2.2.2.2.2.2.2.2.2.2.2.2.2.2.2.2.2.2.2.2.2.2.1, x_A_init.2.2.2.2.2.2.2.2.2.2.2.2.2.2.2.2.2.2.2.2.2.2.2.2.2.2.2.1, x_A_init.2.2.2.2.2.2.2.2.2.2.2.2.2.2.2.2.2.2.2.2.2.2.2.2.2.2.2.2.2.1, x_A_init.2.2.2.2.2.2.2.2.2.2.2.2.2.2.2.2.2.2.2.2.2.2.2.2.2.2.2.2.2.2.1 _ _ _ _ _ _ _ k2, e3, bdV_s, x_A_init.2.2.2.2.2.2.2.2.2.2.2.2.2.2.2.2.2.2.2.2.2.2.2.2.2.2.2.2.2.2.2.1 _ _ _ _ _ _ _ k3]
  · show E3.1 = _
    rw [a3]
    show (E.1 ++ [(1, 3)]) ++ _ = _
    rw [List.append_assoc]
    rfl
  · show am_rp E3.2.1 0 4 (some E.1.length) 0 x = _
    rw [rp_nj (by omega), (p3 0 hb).1]
theorem A_t5 (hk : E.1[0]? = some (4, 8)) (hl : E.1.length = b) (hb : 0 < b) : ∃ E' u', Rn m_A_init 59 [vR (some 0), l1] [] E u = Rn m_A_init 70 [vR (some 0), l1] [] E' u' ∧ E'.1 = E.1 ++ taO ∧ GA 5 b E E' u u' ∧ E'.2.1 0 5 = some b ∧ E'.2.1 b 0 = some (b + 1) ∧ ∀ j, u' b j = 0 := by
  subst hl
  have k2 : (((E.1 ++ [(3, 3)], am_zq E.2.1 E.1.length, E.2.2) : am_E)).1[E.1.length]? = some (3, 3) := gC rfl
  obtain ⟨E3, u3, e3, a3, g3, r3, z3⟩ := T_made (E := (E.1 ++ [(3, 3)], am_zq E.2.1 E.1.length, E.2.2)) (u := am_zr u E.1.length) k2 (by show (E.1 ++ [(3, 3)]).length = _; simp) (fun j => zr_eq)
  have k3 : E3.1[0]? = some (4, 8) := by rw [a3]; exact gA (gA hk)
  have p3 : ∀ j, j < E.1.length → E3.2.1 j = E.2.1 j ∧ u3 j = u j := fun j hj => ⟨((g3.2 j hj).1).trans (zq_ne (by omega)), ((g3.2 j hj).2).trans (zr_ne (by omega))⟩
  refine ⟨(E3.1, am_rp E3.2.1 0 5 (some E.1.length), E3.2.2), u3, ?_, ?_, ⟨g3.1, fun i hi => (p3 i hi).2, fun i h0 hi => (rp_ne (by omega)).trans (p3 i hi).1, fun x hx => ?_⟩, (by show am_rp E3.2.1 0 5 (some E.1.length) 0 5 = _; exact rp_eq), (by show am_rp E3.2.1 0 5 (some E.1.length) E.1.length 0 = _; rw [rp_ne (by omega), r3]), z3⟩
  · rw [x_A_init.2.2.2.2.2.2.2.2.2.2.2.2.2.2.2.2.2.2.2.2.2.2.2.2.2.2.2.2.2.2.2.2.1, x_A_init.2.2.2.2.2.2.2.2.2.2.2.2.2.2.2.2.2.2.2.2.2.2.2.2.2.2.2.2.2.2.2.2.2.1, x_A_init.2.2.2.2.2.2.2.2.2.2.2.2.2.2.2.2.2.2.2.2.2.2.2.2.2.2.2.2.2.2.2.2.2.2.2.1, x_A_init.2.2.2.2.2.2.2.2.2.2.2.2.2.2.2.2.2.2.2.2.2.2.2.2.2.2.2.2.2.2.2.2.2.2.2.2.1 _ _ _ _ _ _ _ k2, e3, bdV_s, x_A_init.2.2.2.2.2.2.2.2.2.2.2.2.2.2.2.2.2.2.2.2.2.2.2.2.2.2.2.2.2.2.2.2.2.2.2.2.2.1 _ _ _ _ _ _ _ k3]
  · show E3.1 = _
    rw [a3]
    show (E.1 ++ [(3, 3)]) ++ _ = _
    rw [List.append_assoc]
    rfl
  · show am_rp E3.2.1 0 5 (some E.1.length) 0 x = _
    rw [rp_nj (by omega), (p3 0 hb).1]
theorem A_s6 {l1 : am_V} (hk : E.1[k]? = some (4, 8)) (hl : E.1.length = b) (hb : k < b) : ∃ E' u', Rn m_A_init 70 [vR (some k), l1] [] E u = Rn m_A_init 78 [vR (some k), l1] [] E' u' ∧ aP E E' k 6 13 4 b ∧ (∀ i, i ≠ b → u' i = u i) ∧ ∀ x, u' b x = 0 := by
  refine ⟨aA E k 6 13 4, am_zr u b, ?_, aP_aA hl hb, fun i hi => zr_ne hi, fun x => zr_eq⟩
  subst hl
  rw [x_A_init.2.2.2.2.2.2.2.2.2.2.2.2.2.2.2.2.2.2.2.2.2.2.2.2.2.2.2.2.2.2.2.2.2.2.2.2.2.2.1, x_A_init.2.2.2.2.2.2.2.2.2.2.2.2.2.2.2.2.2.2.2.2.2.2.2.2.2.2.2.2.2.2.2.2.2.2.2.2.2.2.2.1, x_A_init.2.2.2.2.2.2.2.2.2.2.2.2.2.2.2.2.2.2.2.2.2.2.2.2.2.2.2.2.2.2.2.2.2.2.2.2.2.2.2.2.1 _ _ _ _ _ _ (show (0 : Int) ≤ 4 ∧ (4 : Int) ≤ 10000 by omega), x_A_init.2.2.2.2.2.2.2.2.2.2.2.2.2.2.2.2.2.2.2.2.2.2.2.2.2.2.2.2.2.2.2.2.2.2.2.2.2.2.2.2.2.1 _ _ _ _ _ _ _ (gA hk)]
  rfl
theorem A_loop (hk : E.1[0]? = some (4, 8)) (hl : E.1.length = 141) (y : E.1[140]? = some (13, 4)) (hr : E.2.1 0 6 = some 140) : ∀ i : Nat, i ≤ 4 → ∃ E' u', Rn m_A_init 80 [vR (some 0), vI 0] [] E u = Rn m_A_init 80 [vR (some 0), vI (i : Int)] [] E' u' ∧ E'.1 = E.1 ++ rS i ∧ GA 7 140 E E' u u' ∧ (∀ m, m < i → E'.2.1 140 m = some (141 + 2 * m)) ∧ (∀ m, m < i → E'.2.1 (141 + 2 * m) 0 = some (142 + 2 * m)) ∧ ∀ m, m < i → u' (141 + 2 * m) 1 = 1 ∧ u' (141 + 2 * m) 3 = 0 ∧ ∀ j, u' (142 + 2 * m) j = 0 := by
  intro i
  induction i with
  | zero => intro _; exact ⟨E, u, rfl, by simp [rS], ⟨rfl, fun _ _ => rfl, fun _ _ _ => rfl, fun _ _ => rfl⟩, fun m hm => by omega, fun m hm => by omega, fun m hm => by omega⟩
  | succ i ih =>
    intro hi
    obtain ⟨E1, u1, e1, a1, g1, f1, r1, z1⟩ := ih (by omega)
    have L1 : E1.1.length = 141 + 2 * i := by rw [a1, List.length_append, rS_len, hl]
    have k1 : E1.1[0]? = some (4, 8) := by rw [a1]; exact gA hk
    have y1 : E1.1[140]? = some (13, 4) := by rw [a1]; exact gA y
    have hr1 : E1.2.1 0 6 = some 140 := (g1.2.2.2 6 (by omega)).trans hr
    let E2 : am_E := (E1.1 ++ [(2, 4)], am_zq E1.2.1 E1.1.length, E1.2.2)
    have k2 : E2.1[E1.1.length]? = some (2, 4) := gC rfl
    obtain ⟨E3, u3, e3, a3, g3, r3, q3, s3, z3⟩ := S_made (E := E2) (u := am_zr u1 E1.1.length) k2 (by show (E1.1 ++ [(2, 4)]).length = _; simp) (fun j => zr_eq)
    have y3 : E3.1[140]? = some (13, 4) := by rw [a3]; exact gA (gA y1)
    have w3 : E3.1[E1.1.length]? = some (2, 4) := by rw [a3]; exact gA k2
    have p3 : ∀ j, j < E1.1.length → E3.2.1 j = E1.2.1 j ∧ u3 j = u1 j := fun j hj => ⟨((g3.2 j hj).1).trans (zq_ne (by omega)), ((g3.2 j hj).2).trans (zr_ne (by omega))⟩
    refine ⟨(E3.1, am_rp E3.2.1 140 ((i : Int)).toNat (some E1.1.length), E3.2.2), u3, ?_, ?_, ⟨g3.1.trans g1.1, fun j hj => ?_, fun j h0 hj => ?_, fun x hx => ?_⟩, fun m hm => ?_, fun m hm => ?_, fun m hm => ?_⟩
    · rw [e1, h_A_init_80, x_A_init.2.2.2.2.2.2.2.2.2.2.2.2.2.2.2.2.2.2.2.2.2.2.2.2.2.2.2.2.2.2.2.2.2.2.2.2.2.2.2.2.2.2.2.2.1, g_A_init_82 _ _ _ _ _ _ k1, hr1, x_A_init.2.2.2.2.2.2.2.2.2.2.2.2.2.2.2.2.2.2.2.2.2.2.2.2.2.2.2.2.2.2.2.2.2.2.2.2.2.2.2.2.2.2.2.2.2.2.1 _ _ _ _ _ _ (kn_of y1), x_A_init.2.2.2.2.2.2.2.2.2.2.2.2.2.2.2.2.2.2.2.2.2.2.2.2.2.2.2.2.2.2.2.2.2.2.2.2.2.2.2.2.2.2.2.2.2.2.2.1, if_pos (by rw [al_of y1]; omega), x_A_init.2.2.2.2.2.2.2.2.2.2.2.2.2.2.2.2.2.2.2.2.2.2.2.2.2.2.2.2.2.2.2.2.2.2.2.2.2.2.2.2.2.2.2.2.2.2.2.2.1, g_A_init_90 _ _ _ _ _ _ k1, hr1, x_A_init.2.2.2.2.2.2.2.2.2.2.2.2.2.2.2.2.2.2.2.2.2.2.2.2.2.2.2.2.2.2.2.2.2.2.2.2.2.2.2.2.2.2.2.2.2.2.2.2.2.2.1, x_A_init.2.2.2.2.2.2.2.2.2.2.2.2.2.2.2.2.2.2.2.2.2.2.2.2.2.2.2.2.2.2.2.2.2.2.2.2.2.2.2.2.2.2.2.2.2.2.2.2.2.2.2.1, x_A_init.2.2.2.2.2.2.2.2.2.2.2.2.2.2.2.2.2.2.2.2.2.2.2.2.2.2.2.2.2.2.2.2.2.2.2.2.2.2.2.2.2.2.2.2.2.2.2.2.2.2.2.2.2.1, x_A_init.2.2.2.2.2.2.2.2.2.2.2.2.2.2.2.2.2.2.2.2.2.2.2.2.2.2.2.2.2.2.2.2.2.2.2.2.2.2.2.2.2.2.2.2.2.2.2.2.2.2.2.2.2.2.1 _ _ _ _ _ _ _ _ k2]
      rw [e3, bdV_s, x_A_init.2.2.2.2.2.2.2.2.2.2.2.2.2.2.2.2.2.2.2.2.2.2.2.2.2.2.2.2.2.2.2.2.2.2.2.2.2.2.2.2.2.2.2.2.2.2.2.2.2.2.2.2.2.2.2.1 _ _ 140 _ (i : Int) _ _ _ (by omega) (by rw [al_of y3]; omega) (kn_of w3), x_A_init.2.2.2.2.2.2.2.2.2.2.2.2.2.2.2.2.2.2.2.2.2.2.2.2.2.2.2.2.2.2.2.2.2.2.2.2.2.2.2.2.2.2.2.2.2.2.2.2.2.2.2.2.2.2.2.2.1, fx_R, w_suc (by omega), x_A_init.2.2.2.2.2.2.2.2.2.2.2.2.2.2.2.2.2.2.2.2.2.2.2.2.2.2.2.2.2.2.2.2.2.2.2.2.2.2.2.2.2.2.2.2.2.2.2.2.2.2.2.2.2.2.2.2.2.1]
    · show E3.1 = _
      rw [a3]
      show (E1.1 ++ [(2, 4)]) ++ [(11, 24)] = _
      rw [a1, rS]
      simp
    · rw [(p3 j (by omega)).2, g1.2.1 j hj]
    · show am_rp E3.2.1 140 ((i : Int)).toNat (some E1.1.length) j = _
      rw [rp_ne (by omega), (p3 j (by omega)).1, g1.2.2.1 j h0 hj]
    · show am_rp E3.2.1 140 ((i : Int)).toNat (some E1.1.length) 0 x = _
      rw [rp_ne (by omega), (p3 0 (by omega)).1, g1.2.2.2 x hx]
    · show am_rp E3.2.1 140 ((i : Int)).toNat (some E1.1.length) 140 m = _
      rw [Int.toNat_natCast]
      by_cases h : m = i
      · rw [h, rp_eq, L1]
      · rw [rp_nj h, (p3 140 (by omega)).1, f1 m (by omega)]
    · show am_rp E3.2.1 140 ((i : Int)).toNat (some E1.1.length) (141 + 2 * m) 0 = _
      rw [rp_ne (by omega)]
      by_cases h : m = i
      · rw [h, ← L1, r3, L1]; congr 1; omega
      · rw [(p3 _ (by omega)).1, r1 m (by omega)]
    · by_cases h : m = i
      · rw [h, show 142 + 2 * i = E1.1.length + 1 by omega, ← L1]
        exact ⟨q3, s3, z3⟩
      · rw [(p3 (141 + 2 * m) (by omega)).2, (p3 (142 + 2 * m) (by omega)).2]
        exact z1 m (by omega)
def aL : List (Nat × Nat) := (((((((([(4, 8)] ++ cuO) ++ cuO) ++ paO) ++ cuO) ++ paO) ++ taO) ++ [(13, 4)]) ++ rS 4)
def RA (E : am_E) : Prop := (∀ k : Nat, cuB k → cuE E k) ∧ (∀ k : Nat, paB k → E.2.1 k 0 = some (k + 1) ∧ ∀ i : Nat, i < 8 → E.2.1 (k + 1) i = some (k + 2 + 7 * i)) ∧ (∀ k : Nat, shB k → E.2.1 k 0 = some (k + 1)) ∧ E.2.1 138 0 = some 139 ∧ E.2.1 0 0 = some 1 ∧ E.2.1 0 1 = some 8 ∧ E.2.1 0 2 = some 15 ∧ E.2.1 0 3 = some 73 ∧ E.2.1 0 4 = some 80 ∧ E.2.1 0 5 = some 138 ∧ E.2.1 0 6 = some 140 ∧ ∀ s : Nat, s < 4 → E.2.1 140 s = some (141 + 2 * s)
def UA (u : am_M) : Prop := u 0 7 = 0 ∧ RC u 1 n_I ∧ (∀ j, u 15 j = 0) ∧ u 138 1 = 0 ∧ ∀ m : Nat, m < 4 → u (141 + 2 * m) 1 = 1 ∧ u (141 + 2 * m) 3 = 0 ∧ ∀ j, u (142 + 2 * m) j = 0
theorem A_made (hl : E.1 = [(4, 8)]) (hz : ∀ j, u 0 j = 0) : ∃ E' u', Rn m_A_init 0 [vR (some 0), vB false] [] E u = some (none, E', u') ∧ E'.1 = aL ∧ E'.2.2 = E.2.2 ∧ RA E' ∧ UA u' := by
  have k0 : E.1[0]? = some (4, 8) := by rw [hl]; rfl
  have l0 : E.1.length = 1 := by rw [hl]; rfl
  obtain ⟨E1, u1, e1, a1, g1, r1, c1, R1⟩ := A_c0 (u := u) (l1 := vB false) k0 l0 (by omega)
  have k1 : E1.1[0]? = some (4, 8) := by rw [a1]; exact gA k0
  have l1 : E1.1.length = 8 := by have h := congrArg List.length a1; rw [List.length_append, l0, cuO_len] at h; omega
  obtain ⟨E2, u2, e2, a2, g2, r2, c2, R2⟩ := A_c1 (u := u1) (l1 := vB false) k1 l1 (by omega)
  have k2 : E2.1[0]? = some (4, 8) := by rw [a2]; exact gA k1
  have l2 : E2.1.length = 15 := by have h := congrArg List.length a2; rw [List.length_append, l1, cuO_len] at h; omega
  obtain ⟨E3, u3, e3, a3, g3, r3, p3, f3, c3, z3⟩ := A_p2 (u := u2) (l1 := vB false) k2 l2 (by omega)
  have k3 : E3.1[0]? = some (4, 8) := by rw [a3]; exact gA k2
  have l3 : E3.1.length = 73 := by have h := congrArg List.length a3; rw [List.length_append, l2, paO_len] at h; omega
  obtain ⟨E4, u4, e4, a4, g4, r4, c4, R4⟩ := A_c3 (u := u3) (l1 := vB false) k3 l3 (by omega)
  have k4 : E4.1[0]? = some (4, 8) := by rw [a4]; exact gA k3
  have l4 : E4.1.length = 80 := by have h := congrArg List.length a4; rw [List.length_append, l3, cuO_len] at h; omega
  obtain ⟨E5, u5, e5, a5, g5, r5, p5, f5, c5, z5⟩ := A_p4 (u := u4) (l1 := vB false) k4 l4 (by omega)
  have k5 : E5.1[0]? = some (4, 8) := by rw [a5]; exact gA k4
  have l5 : E5.1.length = 138 := by have h := congrArg List.length a5; rw [List.length_append, l4, paO_len] at h; omega
  obtain ⟨E6, u6, e6, a6, g6, r6, p6, z6⟩ := A_t5 (u := u5) (l1 := vB false) k5 l5 (by omega)
  have k6 : E6.1[0]? = some (4, 8) := by rw [a6]; exact gA k5
  have l6 : E6.1.length = 140 := by have h := congrArg List.length a6; rw [List.length_append, l5, taO_len] at h; omega
  obtain ⟨E7, u7, e7, ⟨a7, l7, t7, r7, s7, q7⟩, v7, z7⟩ := A_s6 (u := u6) (l1 := vB false) k6 l6 (by omega)
  have k7 : E7.1[0]? = some (4, 8) := by rw [a7]; exact gA k6
  have y7 : E7.1[140]? = some (13, 4) := by rw [a7]; exact gC l6
  have g7 : GA 6 140 E6 E7 u6 u7 := ⟨t7, fun i hi => v7 i (by omega), fun i h0 hi => q7 i (by omega) (by omega), fun x hx => s7 x (by omega)⟩
  obtain ⟨E8, u8, e8, a8, g8, f8, r8, z8⟩ := A_loop (u := u7) k7 l7 y7 r7 4 (by omega)
  have k8 : E8.1[0]? = some (4, 8) := by rw [a8]; exact gA k7
  have y8 : E8.1[140]? = some (13, 4) := by rw [a8]; exact gA y7
  have r86 : E8.2.1 0 6 = some 140 := (g8.2.2.2 6 (by omega)).trans r7
  have G7 := g7.tr g8 (by omega) (by omega)
  have G6 := g6.tr G7 (by omega) (by omega)
  have G5 := g5.tr G6 (by omega) (by omega)
  have G4 := g4.tr G5 (by omega) (by omega)
  have G3 := g3.tr G4 (by omega) (by omega)
  have G2 := g2.tr G3 (by omega) (by omega)
  have G1 := g1.tr G2 (by omega) (by omega)
  refine ⟨E8, u8, ?_, ?_, G1.1, ⟨fun q hq => ?_, fun q hq => ?_, fun q hq => ?_, ?_, ?_, ?_, ?_, ?_, ?_, ?_, r86, f8⟩, ⟨?_, ?_, fun j => ?_, ?_, z8⟩⟩
  · rw [x_A_init.1, x_A_init.2.1, e1, e2, e3, e4, e5, e6, e7, x_A_init.2.2.2.2.2.2.2.2.2.2.2.2.2.2.2.2.2.2.2.2.2.2.2.2.2.2.2.2.2.2.2.2.2.2.2.2.2.2.2.2.2.2.1, x_A_init.2.2.2.2.2.2.2.2.2.2.2.2.2.2.2.2.2.2.2.2.2.2.2.2.2.2.2.2.2.2.2.2.2.2.2.2.2.2.2.2.2.2.2.1, fx_R, e8, h_A_init_80, x_A_init.2.2.2.2.2.2.2.2.2.2.2.2.2.2.2.2.2.2.2.2.2.2.2.2.2.2.2.2.2.2.2.2.2.2.2.2.2.2.2.2.2.2.2.2.1, g_A_init_82 _ _ _ _ _ _ k8, r86, x_A_init.2.2.2.2.2.2.2.2.2.2.2.2.2.2.2.2.2.2.2.2.2.2.2.2.2.2.2.2.2.2.2.2.2.2.2.2.2.2.2.2.2.2.2.2.2.2.1 _ _ _ _ _ _ (kn_of y8), x_A_init.2.2.2.2.2.2.2.2.2.2.2.2.2.2.2.2.2.2.2.2.2.2.2.2.2.2.2.2.2.2.2.2.2.2.2.2.2.2.2.2.2.2.2.2.2.2.2.1, if_neg (by rw [al_of y8]; omega), x_A_init.2.2.2.2.2.2.2.2.2.2.2.2.2.2.2.2.2.2.2.2.2.2.2.2.2.2.2.2.2.2.2.2.2.2.2.2.2.2.2.2.2.2.2.2.2.2.2.2.2.2.2.2.2.2.2.2.2.2]
  · rw [a8, a7, a6, a5, a4, a3, a2, a1, hl]
    rfl
  · rcases hq with h | h | h | ⟨i, hi, h⟩ | ⟨i, hi, h⟩ <;> subst h
    · exact cuE_c c1 (G2.2.2.1 1 (by omega) (by omega))
    · exact cuE_c c2 (G3.2.2.1 8 (by omega) (by omega))
    · exact cuE_c c4 (G5.2.2.1 73 (by omega) (by omega))
    · exact cuE_c (c3 i hi) (G4.2.2.1 _ (by omega) (by omega))
    · exact cuE_c (c5 i hi) (G6.2.2.1 _ (by omega) (by omega))
  · rcases hq with h | h <;> subst h
    · exact ⟨by rw [G4.2.2.1 15 (by omega) (by omega)]; exact p3, fun i hi => by rw [G4.2.2.1 (15 + 1) (by omega) (by omega)]; exact f3 i hi⟩
    · exact ⟨by rw [G6.2.2.1 80 (by omega) (by omega)]; exact p5, fun i hi => by rw [G6.2.2.1 (80 + 1) (by omega) (by omega)]; exact f5 i hi⟩
  · obtain ⟨s, hs, h⟩ := hq
    subst h
    rw [r8 s hs]
    congr 1
    omega
  · rw [G7.2.2.1 138 (by omega) (by omega)]; exact p6
  · exact (G2.2.2.2 0 (by omega)).trans r1
  · exact (G3.2.2.2 1 (by omega)).trans r2
  · exact (G4.2.2.2 2 (by omega)).trans r3
  · exact (G5.2.2.2 3 (by omega)).trans r4
  · exact (G6.2.2.2 4 (by omega)).trans r5
  · exact (G7.2.2.2 5 (by omega)).trans r6
  · rw [G1.2.1 0 (by omega), hz]
  · exact RC_congr (fun z z0 z1 => G2.2.1 z (by omega)) R1
  · rw [G4.2.1 15 (by omega), z3]
  · rw [G7.2.1 138 (by omega), z6]

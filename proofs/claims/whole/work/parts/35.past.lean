/-! What may be undone: the class's ring of cushions. -/
variable {E : am_E} {u : am_M} {k : Nat} {n : am_Row}
/-- the cushion of the i-th moment -/
def mo (p : Nat) (f : Int) (i : Nat) : Nat := p + 2 + 7 * ((f.toNat + i) % 8)
theorem mo_cu {p : Nat} (hp : paB p) (f : Int) (i : Nat) : cuB (mo p f i) := by
  have h : (f.toNat + i) % 8 < 8 := Nat.mod_lt _ (by decide)
  unfold mo
  rcases hp with rfl | rfl
  · exact cuB_m h
  · exact cuB_n h
theorem mo_in (p : Nat) (f : Int) (i : Nat) : p + 2 ≤ mo p f i ∧ mo p f i + 7 ≤ p + 58 := by unfold mo; omega
theorem sl_ne : ∀ f : Nat, f < 8 → ∀ i : Nat, i < 8 → ∀ j : Nat, j < 8 → i ≠ j → (f + i) % 8 ≠ (f + j) % 8 := by decide +kernel
theorem mo_ne {p : Nat} {f : Int} (f0 : 0 ≤ f) (f1 : f < 8) {i j : Nat} (hi : i < 8) (hj : j < 8) (h : i ≠ j) : mo p f i + 7 ≤ mo p f j ∨ mo p f j + 7 ≤ mo p f i := by
  have := sl_ne f.toNat (by omega) i hi j hj h
  unfold mo
  generalize (f.toNat + i) % 8 = x at *
  generalize (f.toNat + j) % 8 = y at *
  clear h hi hj f0 f1
  omega
theorem sl_mod (g i : Nat) : ((g : Int) + (i : Int)) % 8 = (((g + i) % 8 : Nat) : Int) := by omega
theorem sl_1 {f : Int} (f0 : 0 ≤ f) : ((f + 1) % 8).toNat = (f.toNat + 1) % 8 := by omega
theorem mo_next {p : Nat} {f : Int} (f0 : 0 ≤ f) (i : Nat) : mo p ((f + 1) % 8) i = mo p f (i + 1) := by
  unfold mo
  rw [sl_1 f0, Nat.mod_add_mod, Nat.add_assoc f.toNat 1 i, Nat.add_comm 1 i]
theorem p_moment0 (hE : SE E) {p : Nat} (hp : paB p) {g : Nat} (hf : u p 1 = (g : Int)) {i m : Nat} (hm : m < 8) (e1 : w32 ((g : Int) + (i : Int)) = (g : Int) + i) (e2 : ((g : Int) + (i : Int)).tmod 8 = (m : Int)) : Rn m_P_moment 0 [vR (some p), vI (i : Int), vB false] [] E u = some (some (vR (some (p + 2 + 7 * m))), E, u) := by
  obtain ⟨al, kn⟩ := al_p hE hp
  have e3 : w32 (m : Int) = (m : Int) := w32_of (by omega) (by omega)
  have em : E.2.1 (p + 1) m = some (p + 2 + 7 * m) := SE_mm hE hp hm
  have c1 : ¬ (m : Int) < 0 := by omega
  have c2 : (m : Int) < 8 := by omega
  have c3 : (0 : Int) ≤ (m : Int) := by omega
  have c4 : (m : Int) < am_len 12 E (p + 1) := by omega
  have c5 : (8 : Int) ≠ 0 := by decide
  simp (disch := assumption) only [x_P_moment, hf, e1, fx_I]
  simp (disch := assumption) only [x_P_moment, e2, e3, fx_I]
  simp (disch := assumption) only [c1, ↓reduceIte, x_P_moment, kn, al, c2, Int.toNat_natCast]
  simp (disch := assumption) only [em]
theorem p_moment (hE : SE E) {p : Nat} (hp : paB p) {f : Int} (hf : u p 1 = f) (f0 : 0 ≤ f) (f1 : f < 8) {i : Nat} (hi : i ≤ 8) : Rn m_P_moment 0 [vR (some p), vI (i : Int), vB false] [] E u = some (some (vR (some (mo p f i))), E, u) := by
  obtain ⟨g, rfl⟩ : ∃ g : Nat, f = (g : Int) := ⟨f.toNat, by omega⟩
  have eo : mo p (g : Int) i = p + 2 + 7 * ((g + i) % 8) := by unfold mo; rw [Int.toNat_natCast]
  rw [eo]
  exact p_moment0 hE hp hf (Nat.mod_lt _ (by decide)) (w32_of (by omega) (by omega)) (by rw [tmod_nn (by omega)]; exact sl_mod g i)
/-- what the class knows of the past -/
def HR (u : am_M) (p : Nat) (H : List am_Row) : Prop := u p 2 = (H.length : Int) ∧ H.length ≤ 8 ∧ (0 ≤ u p 1 ∧ u p 1 < 8) ∧ ∀ (i : Nat) (r : am_Row), H[i]? = some r → RC u (mo p (u p 1) i) r
/-- nothing but the past at p is another -/
def FP (p : Nat) (u u' : am_M) : Prop := ∀ i : Nat, i < p ∨ p + 58 ≤ i → u' i = u i
theorem FP.rf {p : Nat} : FP p u u := fun _ _ => rfl
theorem FP.tr {p : Nat} {v w : am_M} (h : FP p u v) (h' : FP p v w) : FP p u w := fun i hi => (h' i hi).trans (h i hi)
theorem FP_up {p j x : Nat} {v : Int} (h : p ≤ j ∧ j < p + 58) : FP p u (am_up u j x v) := fun i hi => up_fn (by omega)
theorem FP_FR {p j : Nat} {v : am_M} (h : FR j u v) (hj : p ≤ j ∧ j + 7 ≤ p + 58) : FP p u v := fun i hi => h i (by omega)
theorem HR_congr {p : Nat} {H : List am_Row} {v : am_M} (h : ∀ i, p ≤ i → i < p + 58 → v i = u i) (hH : HR u p H) : HR v p H := by
  obtain ⟨h1, h2, h3, h4⟩ := hH
  have e := h p (by omega) (by omega)
  refine ⟨by rw [e]; exact h1, h2, by rw [e]; exact h3, fun i r hr => ?_⟩
  rw [e]
  have := mo_in p (u p 1) i
  exact RC_congr (fun z z0 z1 => h z (by omega) (by omega)) (h4 i r hr)
theorem p_forgets (hE : SE E) {p : Nat} (hp : paB p) : Rn m_P_forgets 0 [vR (some p)] [] E u = some (none, E, am_up u p 2 0) := by
  simp (disch := first | assumption | omega) only [↓reduceIte, x_P_forgets]
theorem HR_nil {p : Nat} {H : List am_Row} (h : HR u p H) : HR (am_up u p 2 0) p [] := by
  refine ⟨up_eq, by show 0 ≤ 8; omega, by rw [up_nj (by omega)]; exact h.2.2.1, fun i r hr => ?_⟩
  simp at hr
theorem FP_push (hE : SE E) (hR : RC u 1 n) (hV : Vn n) {f : Int} {L : Nat} {H : List am_Row} (hf : u 15 1 = f) (f0 : 0 ≤ f) (f1 : f < 8) (hL : u 15 2 = (L : Int)) (hH : H.length = L) (L8 : L < 8) (hr : ∀ (i : Nat) (r : am_Row), H[i]? = some r → RC u (mo 15 f i) r) : ∃ u', Rn m_P_keeps 32 [vR (some 15), vR (some 1), vB false] [] E u = some (none, E, u') ∧ HR u' 15 (H ++ [n]) ∧ FP 15 u u' := by
  have p15 := paB_15
  have hc := mo_cu paB_15 f L
  have hin := mo_in 15 f L
  obtain ⟨u1, e1, h1, g1⟩ := c_becomes (u := u) (k := mo 15 f L) (j := 1) hE hc cuB_1 (by omega) hR hV
  have em := p_moment (u := u) hE paB_15 hf f0 f1 (i := L) (by omega)
  have u15 : u1 15 = u 15 := g1 15 (by omega)
  have uL : u1 15 2 = (L : Int) := by rw [u15]; exact hL
  refine ⟨am_up u1 15 2 ((L : Int) + 1), ?_, ⟨?_, ?_, ?_, fun i r hi => ?_⟩, (FP_FR g1 (by omega)).tr (FP_up (by omega))⟩
  · simp (disch := first | assumption | omega) only [↓reduceIte, x_P_keeps, hL, em, bdR_s, fx_R, e1, bdV_s, uL, w32_of]
  · rw [up_eq]; simp [hH]
  · simp [hH]; omega
  · rw [up_nj (by omega), u15, hf]; exact ⟨f0, f1⟩
  · have ef : (am_up u1 15 2 ((L : Int) + 1)) 15 1 = f := by rw [up_nj (by omega), u15, hf]
    rw [ef]
    have hin2 := mo_in 15 f i
    by_cases hlt : i < L
    · rw [List.getElem?_append_left (by omega)] at hi
      have hne := mo_ne (p := 15) f0 f1 (show i < 8 by omega) L8 (by omega)
      exact RC_congr (fun z z0 z1 => up_fn (by omega)) (FR_RC g1 (by omega) (hr i r hi))
    · have hi2 : i = L := by
        have := (List.getElem?_eq_some_iff.mp hi).1
        simp [hH] at this
        omega
      subst hi2
      rw [List.getElem?_append_right (by omega), hH, Nat.sub_self] at hi
      cases hi
      exact RC_congr (fun z z0 z1 => up_fn (by omega)) h1.2.2.1
def s_push (H : List am_Row) (n : am_Row) : List am_Row := (if H.length = 8 then H.tail else H) ++ [n]
theorem p_keeps (hE : SE E) {H : List am_Row} (h : HR u 15 H) (hR : RC u 1 n) (hV : Vn n) : ∃ u', Rn m_P_keeps 0 [vR (some 15), vR (some 1), vB false] [] E u = some (none, E, u') ∧ HR u' 15 (s_push H n) ∧ FP 15 u u' := by
  obtain ⟨h1, h2, h3, h4⟩ := h
  have p15 := paB_15
  unfold s_push
  by_cases h8 : H.length = 8
  · rw [if_pos h8]
    have hl : u 15 2 = 8 := by rw [h1, h8]; rfl
    have e1 : w32 (u 15 1 + 1) = u 15 1 + 1 := w32_of (by omega) (by omega)
    have e2 : (u 15 1 + 1).tmod 8 = (u 15 1 + 1) % 8 := tmod_nn (by omega)
    have e3 : w32 ((u 15 1 + 1) % 8) = (u 15 1 + 1) % 8 := w32_of (by omega) (by omega)
    have ht : H.tail.length = 7 := by simp [h8]
    obtain ⟨u', a1, a2, a3⟩ := FP_push (u := am_up (am_up u 15 1 ((u 15 1 + 1) % 8)) 15 2 7) (H := H.tail) hE (RC_congr (fun z z0 z1 => by rw [up_fn (by omega), up_fn (by omega)]) hR) hV (f := (u 15 1 + 1) % 8) (L := 7) (by rw [up_nj (by omega), up_eq]) (by omega) (by omega) up_eq ht (by omega) (fun i r hr => by
      rw [List.getElem?_tail] at hr
      have := h4 (i + 1) r hr
      rw [mo_next h3.1]
      have hin := mo_in 15 (u 15 1) (i + 1)
      exact RC_congr (fun z z0 z1 => by rw [up_fn (by omega), up_fn (by omega)]) this)
    refine ⟨u', ?_, a2, ((FP_up (by omega)).tr (FP_up (by omega))).tr a3⟩
    rw [← a1]
    simp (disch := first | assumption | omega) only [↓reduceIte, x_P_keeps, hl, e1, e2, e3, up_nj, (by decide : (8 : Int) ≠ 0), (by decide : w32 ((8 : Int) - 1) = 7)]
  · rw [if_neg h8]
    obtain ⟨u', a1, a2, a3⟩ := FP_push (u := u) (H := H) hE hR hV (f := u 15 1) (L := H.length) rfl h3.1 h3.2 h1 rfl (by omega) h4
    refine ⟨u', ?_, a2, a3⟩
    rw [← a1]
    simp (disch := first | assumption | omega) only [↓reduceIte, x_P_keeps, h1, show ¬ (H.length : Int) = 8 by omega]
theorem p_givesBack (hE : SE E) {H : List am_Row} {m : am_Row} (h : HR u 15 (H ++ [m])) (hV : Vn m) : ∃ u', Rn m_P_givesBack 0 [vR (some 15), vR (some 1)] [] E u = some (some (vI 1), E, u') ∧ HR u' 15 H ∧ RC u' 1 m ∧ ∀ i, i ≠ 15 → (i < 1 ∨ 8 ≤ i) → u' i = u i := by
  obtain ⟨h1, h2, h3, h4⟩ := h
  have p15 := paB_15
  have hl : (H ++ [m]).length = H.length + 1 := by simp
  rw [hl] at h1 h2
  have hin := mo_in 15 (u 15 1) H.length
  have hm : RC (am_up u 15 2 (H.length : Int)) (mo 15 (u 15 1) H.length) m := RC_congr (fun z z0 z1 => up_fn (by omega)) (h4 H.length m (by rw [List.getElem?_append_right (by omega), Nat.sub_self]; rfl))
  obtain ⟨u1, e1, g1, f1⟩ := c_becomes (u := am_up u 15 2 (H.length : Int)) (k := 1) (j := mo 15 (u 15 1) H.length) hE cuB_1 (mo_cu paB_15 _ _) (by omega) hm hV
  have em := p_moment (u := am_up u 15 2 (H.length : Int)) hE paB_15 (f := u 15 1) (by rw [up_nj (by omega)]) h3.1 h3.2 (i := H.length) (by omega)
  have cu1 := cuB_1
  have ew : w32 ((H.length : Int) + 1 - 1) = (H.length : Int) := by rw [w32_of (by omega) (by omega)]; omega
  have e1' : u 15 2 = (H.length : Int) + 1 := by omega
  have u15 : ∀ x, x ≠ 2 → u1 15 x = u 15 x := fun x hx => by rw [f1 15 (by omega), up_nj (by omega)]
  have u152 : u1 15 2 = (H.length : Int) := by rw [f1 15 (by omega), up_eq]
  refine ⟨u1, ?_, ⟨u152, by omega, by rw [u15 1 (by omega)]; exact h3, fun i r hr => ?_⟩, g1.2.2.1, fun i hi1 hi2 => ?_⟩
  · simp (disch := first | assumption | omega) only [↓reduceIte, x_P_givesBack, e1', show ¬ (H.length : Int) + 1 = 0 by omega, ew, up_eq, em, bdR_s, e1, bdV_s]
  · rw [u15 1 (by omega)]
    have hin2 := mo_in 15 (u 15 1) i
    have hi : i < H.length := (List.getElem?_eq_some_iff.mp hr).1
    exact FR_RC f1 (by omega) (RC_congr (fun z z0 z1 => up_fn (by omega)) (h4 i r (by rw [List.getElem?_append_left hi]; exact hr)))
  · rw [f1 i (by omega), up_fn hi1]
theorem p_givesNone (hE : SE E) (h : HR u 15 []) : Rn m_P_givesBack 0 [vR (some 15), vR (some 1)] [] E u = some (some (vI 0), E, u) := by
  have h1 : u 15 2 = 0 := h.1
  have p15 := paB_15
  simp (disch := first | assumption | omega) only [↓reduceIte, x_P_givesBack, h1]
theorem p_becomes (hE : SE E) {p q : Nat} (hp : paB p) (hq : paB q) (hne : p + 58 ≤ q ∨ q + 58 ≤ p) {J : List am_Row} (h : HR u q J) (hV : ∀ (i : Nat) (r : am_Row), J[i]? = some r → Vn r) : ∃ u', Rn m_P_becomes 0 [vR (some p), vR (some q), vB false, vB false] [] E u = some (none, E, u') ∧ HR u' p J ∧ FP p u u' := by
  obtain ⟨h1, h2, h3, h4⟩ := h
  have loop : ∀ i : Nat, i ≤ J.length → ∃ (b : am_V) (v : am_M), Rn m_P_becomes 0 [vR (some p), vR (some q), vB false, vB false] [] E u = Rn m_P_becomes 20 [vR (some p), vR (some q), vI (i : Int), b] [] E v ∧ v p 1 = 0 ∧ v p 2 = (J.length : Int) ∧ FP p u v ∧ ∀ (j : Nat) (r : am_Row), j < i → J[j]? = some r → RC v (mo p 0 j) r := by
    intro i
    induction i with
    | zero =>
      intro _
      refine ⟨vB false, am_up (am_up u p 1 0) p 2 (J.length : Int), ?_, ?_, up_eq, (FP_up (by omega)).tr (FP_up (by omega)), fun j r hj _ => by omega⟩
      · simp (disch := first | assumption | omega) only [↓reduceIte, x_P_becomes, up_ne, h1, fx_R]
        rfl
      · rw [up_nj (by omega), up_eq]
    | succ i ih =>
      intro hi
      obtain ⟨b, v, a1, a2, a3, a4, a5⟩ := ih (by omega)
      obtain ⟨r, hr⟩ : ∃ r, J[i]? = some r := ⟨J[i]'(by omega), List.getElem?_eq_getElem (by omega)⟩
      have hin := mo_in p 0 i
      have hinq := mo_in q (u q 1) i
      have vq : v q = u q := a4 q (by omega)
      have hRq : RC v (mo q (u q 1) i) r := RC_congr (fun z z0 z1 => a4 z (by omega)) (h4 i r hr)
      obtain ⟨w, e1, g1, f1⟩ := c_becomes (u := v) (k := mo p 0 i) (j := mo q (u q 1) i) hE (mo_cu hp _ _) (mo_cu hq _ _) (by omega) hRq (hV i r hr)
      have em1 := p_moment (u := v) hE hp a2 (by omega) (by omega) (i := i) (by omega)
      have em2 := p_moment (u := v) hE hq (f := u q 1) (by rw [vq]) h3.1 h3.2 (i := i) (by omega)
      have wp : w p = v p := f1 p (by omega)
      have cmo := mo_cu hp 0 i
      refine ⟨vR (some (mo p 0 i)), w, ?_, by rw [wp]; exact a2, by rw [wp]; exact a3, a4.tr (FP_FR f1 (by omega)), fun j s hj hs => ?_⟩
      · rw [a1, h_P_becomes_20]
        simp (disch := first | assumption | omega) only [↓reduceIte, x_P_becomes, a3, show (i : Int) < (J.length : Int) by omega, em1, em2, bdR_s, fx_I, fx_R, e1, bdV_s, w32_of]
        rfl
      · by_cases hji : j = i
        · subst hji
          rw [hr] at hs
          cases hs
          exact g1.2.2.1
        · have hin2 := mo_in p 0 j
          have hn := mo_ne (p := p) (f := 0) (by omega) (by omega) (show j < 8 by omega) (show i < 8 by omega) hji
          exact FR_RC f1 (by omega) (a5 j s (by omega) hs)
  obtain ⟨b, v, a1, a2, a3, a4, a5⟩ := loop J.length (Nat.le_refl _)
  refine ⟨v, ?_, ⟨a3, h2, by rw [a2]; omega, fun i r hr => ?_⟩, a4⟩
  · rw [a1, h_P_becomes_20]
    simp (disch := first | assumption | omega) only [↓reduceIte, x_P_becomes, a3, show ¬ (J.length : Int) < (J.length : Int) by omega]
  · rw [a2]
    exact a5 i r (List.getElem?_eq_some_iff.mp hr).1 hr

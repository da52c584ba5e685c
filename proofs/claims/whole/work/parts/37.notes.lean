/-! The reference notes what may be undone, undoes it, keeps an image. -/
variable {E : am_E} {u : am_M} {n : am_Row}
/-- where the x-th of the 71 noted numbers stands in the row -/
def s_ix (x : Nat) : Nat := if x = 0 then 4 else if x = 1 then 5 else if x < 9 then 6 + 3 * (x - 2) + 1 else if x < 16 then 6 + 3 * (x - 9) + 2 else if x < 22 then 27 + 4 * (x - 16) + 3 else 51 + (x - 22)
theorem s_ix_C (n : am_Row) {i : Nat} (h : i < 7) : n (s_ix (2 + i)) = s_C n (i : Int) := by
  unfold s_C s_ix
  rw [if_neg (by omega), if_neg (by omega), if_pos (by omega)]
  congr 1 <;> omega
theorem s_ix_V (n : am_Row) {i : Nat} (h : i < 7) : n (s_ix (9 + i)) = s_V n (i : Int) := by
  unfold s_V s_ix
  rw [if_neg (by omega), if_neg (by omega), if_neg (by omega), if_pos (by omega)]
  congr 1 <;> omega
theorem s_ix_X (n : am_Row) {i : Nat} (h : i < 6) : n (s_ix (16 + i)) = s_X n (i : Int) := by
  unfold s_X s_ix
  rw [if_neg (by omega), if_neg (by omega), if_neg (by omega), if_neg (by omega), if_pos (by omega)]
  congr 1 <;> omega
theorem s_ix_H (n : am_Row) (i : Nat) : n (s_ix (22 + i)) = s_H n (i : Int) := by
  unfold s_H s_ix
  rw [if_neg (by omega), if_neg (by omega), if_neg (by omega), if_neg (by omega), if_neg (by omega)]
  congr 1 <;> omega
/-- what the reference knows of the past: numbers from o on in the array a -/
def HN (u : am_M) (a o : Nat) (H : List am_Row) : Prop := ∀ (i : Nat) (r : am_Row), H[i]? = some r → ∀ x, x < 71 → u a (o + 71 * i + x) = r (s_ix x)
def HM (u : am_M) (H : List am_Row) : Prop := u 149 8 = (H.length : Int) ∧ H.length ≤ 8 ∧ HN u 154 0 H
theorem s_fil_cm {a g : am_Row} {o i j : Nat} {v : Int} (h : ¬ (o ≤ j ∧ j < o + i)) : s_up (s_fil a g o i) j v = s_fil (s_up a j v) g o i := by
  funext x
  show (if x = j then v else if o ≤ x ∧ x < o + i then g x else a x) = (if o ≤ x ∧ x < o + i then g x else if x = j then v else a x)
  by_cases e : x = j
  · subst e; rw [if_pos rfl, if_neg h, if_pos rfl]
  · rw [if_neg e, if_neg e]
theorem s_ix_0 : s_ix 0 = 4 := by decide
theorem s_ix_1 : s_ix 1 = 5 := by decide
theorem s_fil_add {a g : am_Row} {o i j : Nat} : s_fil (s_fil a g o i) g (o + i) j = s_fil a g o (i + j) := by
  funext x
  unfold s_fil
  by_cases h1 : o + i ≤ x ∧ x < o + i + j
  · rw [if_pos h1, if_pos (by omega)]
  · rw [if_neg h1]
    by_cases h2 : o ≤ x ∧ x < o + i
    · rw [if_pos h2, if_pos (by omega)]
    · rw [if_neg h2, if_neg (by omega)]
/-- the noting itself -/
theorem m_notes46 (hE : SE E) (hn : u 150 = n) {L : Nat} (hL : u 149 8 = (L : Int)) (L8 : L < 8) (b c : am_V) : Rn m_M_notes 46 [vR (some 149), b, c] [] E u = some (none, E, am_up (aS u 154 (s_fil (u 154) (fun x => n (s_ix (x - 71 * L))) (71 * L) 71)) 149 8 ((L : Int) + 1)) := by
  obtain ⟨l0, l1, l2, l3, l4, l5, l6, l7, l8, l9, l10⟩ := al_m hE
  have e4 : (4 : Int).toNat = 4 := rfl
  have e5 : (5 : Int).toNat = 5 := rfl
  obtain ⟨T, hT⟩ : ∃ T : Nat, T = 71 * L := ⟨_, rfl⟩
  have hT8 : T + 71 ≤ 568 := by omega
  have eT : w32 (71 * (L : Int)) = (T : Int) := by rw [w32_of (by omega) (by omega)]; omega
  rw [← hT]
  let g : am_Row := fun x => n (s_ix (x - T))
  let f1 : Nat → am_Z := fun i => Rn m_M_notes 82 [vR (some 149), vI (T : Int), vI (i : Int)] [] E (aS u 154 (s_fil (s_fil (u 154) g T (2 + i)) g (T + 9) i))
  let f2 : Nat → am_Z := fun i => Rn m_M_notes 128 [vR (some 149), vI (T : Int), vI (i : Int)] [] E (aS u 154 (s_fil (u 154) g T (16 + i)))
  let f3 : Nat → am_Z := fun i => Rn m_M_notes 159 [vR (some 149), vI (T : Int), vI (i : Int)] [] E (aS u 154 (s_fil (u 154) g T (22 + i)))
  have hc : ∀ (X : am_Row) (i : Nat), i < 7 → Rn m_M_cellOf 0 [vR (some 149), vI (i : Int)] [] E (aS u 154 X) = some (some (vI (s_C n (i : Int))), E, aS u 154 X) := fun X i hi => m_cellOf hE (by rw [aS_ne _ _ (by omega)]; exact hn) (by omega) (by omega)
  have hv : ∀ (X : am_Row) (i : Nat), i < 7 → Rn m_M_ofPin 0 [vR (some 149), vI (i : Int), vI 2] [] E (aS u 154 X) = some (some (vI (s_V n (i : Int))), E, aS u 154 X) := fun X i hi => m_V hE (by rw [aS_ne _ _ (by omega)]; exact hn) (by omega) (by omega)
  have hx : ∀ (X : am_Row) (i : Nat), i < 6 → Rn m_M_ofThread 0 [vR (some 149), vI (i : Int), vI 3] [] E (aS u 154 X) = some (some (vI (s_X n (i : Int))), E, aS u 154 X) := fun X i hi => m_X hE (by rw [aS_ne _ _ (by omega)]; exact hn) (by omega) (by omega)
  have start : Rn m_M_notes 46 [vR (some 149), b, c] [] E u = f1 0 := by
    simp only [f1, s_fil_0]
    simp (disch := first | assumption | omega) only [↓reduceIte, x_M_notes_0, hL, eT, hn, e4, e5, up_ne, up_aS u 154, aS_ne, aS_up, w32_of, fx_I, fx_R]
    have q : s_up (s_up (u 154) ((T : Int)).toNat (n 4)) ((T : Int) + 1).toNat (n 5) = s_fil (u 154) g T 2 := by
      rw [← s_fil_s (a := u 154) (g := g) (o := T) (i := 1) (j := ((T : Int) + 1).toNat) (v := n 5) (by omega) (by simp only [g]; rw [show ((T : Int) + 1).toNat - T = 1 by omega, s_ix_1])]
      rw [← s_fil_s (a := u 154) (g := g) (o := T) (i := 0) (j := ((T : Int)).toNat) (v := n 4) (by omega) (by simp only [g]; rw [show ((T : Int)).toNat - T = 0 by omega, s_ix_0])]
      rw [s_fil_0]
    rw [q]
    rfl
  have step1 : ∀ i, i < 7 → f1 i = f1 (i + 1) := by
    intro i hi
    simp only [f1]
    rw [h_M_notes_82]
    simp (disch := first | assumption | omega) only [↓reduceIte, x_M_notes_0, show (i : Int) < 7 by omega, hc, hv, bdI_s, aS_ne, aS_up, w32_of, fx_I]
    rw [s_fil_cm (by omega), s_fil_s (a := u 154) (o := T) (i := 2 + i) (by omega) (by simp only [g]; rw [show ((T : Int) + 2 + (i : Int)).toNat - T = 2 + i by omega]; exact (s_ix_C n hi).symm), s_fil_s (o := T + 9) (i := i) (by omega) (by simp only [g]; rw [show ((T : Int) + 9 + (i : Int)).toNat - T = 9 + i by omega]; exact (s_ix_V n hi).symm)]
    rfl
  have mid1 : f1 7 = f2 0 := by
    simp only [f1, f2]
    rw [h_M_notes_82, s_fil_add]
    simp (disch := first | assumption | omega) only [↓reduceIte, x_M_notes_0, show ¬ ((7 : Nat) : Int) < 7 by omega, fx_I]
    rfl
  have step2 : ∀ i, i < 6 → f2 i = f2 (i + 1) := by
    intro i hi
    simp only [f2]
    rw [h_M_notes_128]
    simp (disch := first | assumption | omega) only [↓reduceIte, x_M_notes_0, show (i : Int) < 6 by omega, hx, bdI_s, aS_ne, aS_up, w32_of, fx_I]
    rw [s_fil_s (a := u 154) (o := T) (i := 16 + i) (by omega) (by simp only [g]; rw [show ((T : Int) + 16 + (i : Int)).toNat - T = 16 + i by omega]; exact (s_ix_X n hi).symm)]
    rfl
  have mid2 : f2 6 = f3 0 := by
    simp only [f2, f3]
    rw [h_M_notes_128]
    simp (disch := first | assumption | omega) only [↓reduceIte, x_M_notes_0, show ¬ ((6 : Nat) : Int) < 6 by omega, fx_I]
    rfl
  have step3 : ∀ i, i < 49 → f3 i = f3 (i + 1) := by
    intro i hi
    simp only [f3]
    rw [h_M_notes_159]
    simp (disch := first | assumption | omega) only [↓reduceIte, x_M_notes_0, show (i : Int) < 49 by omega, hn, aS_ne, aS_up, w32_of, fx_I]
    have e : n (51 + (i : Int)).toNat = s_H n (i : Int) := rfl
    rw [s_fil_s (a := u 154) (o := T) (i := 22 + i) (by omega) (by simp only [g]; rw [show ((T : Int) + 22 + (i : Int)).toNat - T = 22 + i by omega, e]; exact (s_ix_H n i).symm)]
    rfl
  rw [start, q_loop f1 7 step1, mid1, q_loop f2 6 step2, mid2, q_loop f3 49 step3]
  simp only [f3]
  rw [h_M_notes_159]
  have eL : (aS u 154 (s_fil (u 154) g T (22 + 49))) 149 8 = (L : Int) := by rw [aS_ne _ _ (by omega)]; exact hL
  simp (disch := first | assumption | omega) only [↓reduceIte, x_M_notes_0, x_M_notes_1, show ¬ ((49 : Nat) : Int) < 49 by omega, eL, w32_of]
  rfl
theorem HN_note {w : am_M} {H : List am_Row} {L : Nat} (hH : HN w 154 0 H) (hL : H.length = L) : HN (am_up (aS w 154 (s_fil (w 154) (fun x => n (s_ix (x - 71 * L))) (71 * L) 71)) 149 8 ((L : Int) + 1)) 154 0 (H ++ [n]) := by
  intro i r hi x hx
  rw [up_fn (by omega), aS_eq]
  by_cases hlt : i < L
  · rw [List.getElem?_append_left (by omega)] at hi
    rw [s_fil_out (by omega)]
    exact hH i r hi x hx
  · have hi2 : i = L := by
      have := (List.getElem?_eq_some_iff.mp hi).1
      simp [hL] at this
      omega
    subst hi2
    rw [List.getElem?_append_right (by omega), hL, Nat.sub_self] at hi
    have hr : n = r := Option.some.inj hi
    rw [s_fil_in (by omega), ← hr]
    show n (s_ix (0 + 71 * i + x - 71 * i)) = n (s_ix x)
    congr 2 <;> omega
theorem m_notes (hE : SE E) (hn : u 150 = n) {H : List am_Row} (h : HM u H) : ∃ u', Rn m_M_notes 0 [vR (some 149), vB false, vB false] [] E u = some (none, E, u') ∧ HM u' (s_push H n) ∧ (∀ i, i ≠ 149 → i ≠ 154 → u' i = u i) ∧ ∀ j, j ≠ 8 → u' 149 j = u 149 j := by
  obtain ⟨l0, l1, l2, l3, l4, l5, l6, l7, l8, l9, l10⟩ := al_m hE
  obtain ⟨h1, h2, h3⟩ := h
  unfold s_push
  by_cases h8 : H.length = 8
  · rw [if_pos h8]
    have hl : u 149 8 = 8 := by rw [h1, h8]; rfl
    let g : am_Row := fun x => u 154 (x + 71)
    let f : Nat → am_Z := fun i => Rn m_M_notes 12 [vR (some 149), vI (71 + (i : Int)), vB false] [] E (aS u 154 (s_fil (u 154) g 0 i))
    have start : Rn m_M_notes 0 [vR (some 149), vB false, vB false] [] E u = f 0 := by
      simp only [f, s_fil_0, aS_self]
      simp (disch := first | assumption | omega) only [↓reduceIte, x_M_notes_0, hl, fx_R]
      rfl
    have step : ∀ i, i < 497 → f i = f (i + 1) := by
      intro i hi
      simp only [f]
      rw [h_M_notes_12]
      have er : (s_fil (u 154) g 0 i) (71 + (i : Int)).toNat = u 154 (71 + i) := by
        rw [s_fil_out (by omega)]; congr 1 <;> omega
      simp (disch := first | assumption | omega) only [↓reduceIte, x_M_notes_0, show 71 + (i : Int) < 568 by omega, aS_eq, er, aS_up, w32_of, fx_R]
      rw [s_fil_s (by omega) (by simp only [g]; congr 1 <;> omega), show (71 : Int) + ((i + 1 : Nat) : Int) = 71 + (i : Int) + 1 by omega]
    rw [start, q_loop f 497 step]
    simp only [f]
    rw [h_M_notes_12]
    have htl : H.tail.length = 7 := by simp [h8]
    let w : am_M := am_up (aS u 154 (s_fil (u 154) g 0 497)) 149 8 7
    have w150 : w 150 = n := by simp only [w]; rw [up_fn (by omega), aS_ne _ _ (by omega)]; exact hn
    have w8 : w 149 8 = ((7 : Nat) : Int) := by simp only [w]; rw [up_eq]; rfl
    have key := m_notes46 (u := w) hE w150 w8 (by omega) (vI (71 + ((497 : Nat) : Int))) (vB false)
    have hw : HN w 154 0 H.tail := by
      intro i r hi x hx
      rw [List.getElem?_tail] at hi
      have hi7 : i + 1 < H.length := (List.getElem?_eq_some_iff.mp hi).1
      simp only [w]
      rw [up_fn (by omega), aS_eq, s_fil_in (by omega)]
      have := h3 (i + 1) r hi x hx
      simp only [g]
      rw [← this]
      congr 1 <;> omega
    refine ⟨_, ?_, ⟨?_, ?_, HN_note hw htl⟩, fun i hi1 hi2 => ?_, fun j hj => ?_⟩
    · rw [← key]
      simp (disch := first | assumption | omega) only [↓reduceIte, x_M_notes_0, show ¬ 71 + ((497 : Nat) : Int) < 568 by omega]
      rfl
    · rw [up_eq]; simp [h8]
    · simp [h8]
    · rw [up_fn hi1, aS_ne _ _ hi2]; simp only [w]; rw [up_fn hi1, aS_ne _ _ hi2]
    · rw [up_nj hj, aS_ne _ _ (by omega)]; simp only [w]; rw [up_nj hj, aS_ne _ _ (by omega)]
  · rw [if_neg h8]
    refine ⟨_, ?_, ⟨?_, ?_, HN_note h3 rfl⟩, fun i hi1 hi2 => ?_, fun j hj => ?_⟩
    · rw [← m_notes46 (u := u) hE hn h1 (by omega) (vB false) (vB false)]
      simp (disch := first | assumption | omega) only [↓reduceIte, x_M_notes_0, h1, show ¬ (H.length : Int) = 8 by omega]
    · rw [up_eq]; simp
    · simp; omega
    · rw [up_fn hi1, aS_ne _ _ hi2]
    · rw [up_nj hj, aS_ne _ _ (by omega)]
/-- the numbers of a row that are undone, up to some pins, threads, cells -/
def s_un (a b c x : Nat) : Bool := decide (x = 4 ∨ x = 5 ∨ (6 ≤ x ∧ x < 6 + 3 * a ∧ x % 3 ≠ 0) ∨ (27 ≤ x ∧ x < 27 + 4 * b ∧ x % 4 = 2) ∨ (51 ≤ x ∧ x < 51 + c))
def s_mix (n r : am_Row) (P : Nat → Bool) : am_Row := fun x => if P x = true then r x else n x
theorem s_mix_s {r : am_Row} {P Q : Nat → Bool} {j : Nat} {v : Int} (hQ : ∀ x, Q x = (P x || decide (x = j))) (hv : v = r j) : s_up (s_mix n r P) j v = s_mix n r Q := by
  subst hv
  funext x
  unfold s_up s_mix
  rw [hQ x]
  by_cases e : x = j
  · subst e; simp
  · simp [e]
/-- two rows that an undoing may lead between -/
def s_same (n r : am_Row) : Prop := ∀ x, s_un 7 6 49 x = false → n x = r x
theorem s_mix_all {r : am_Row} (h : s_same n r) : s_mix n r (s_un 7 6 49) = r := by
  funext x
  unfold s_mix
  split
  · rfl
  · rename_i hx
    exact h x (by simpa using hx)
theorem m_undo (hE : SE E) (hn : u 150 = n) {H : List am_Row} {r : am_Row} (h : HM u (H ++ [r])) (hs : s_same n r) : Rn m_M_undo 0 [vR (some 149), vB false, vB false] [] E u = some (some (vI (H.length : Int)), E, aS (am_up u 149 8 (H.length : Int)) 150 r) := by
  obtain ⟨l0, l1, l2, l3, l4, l5, l6, l7, l8, l9, l10⟩ := al_m hE
  obtain ⟨h1, h2, h3⟩ := h
  have hl : (H ++ [r]).length = H.length + 1 := by simp
  rw [hl] at h1 h2
  have hr := h3 H.length r (by rw [List.getElem?_append_right (by omega), Nat.sub_self]; rfl)
  obtain ⟨L, hL⟩ : ∃ L : Nat, L = H.length := ⟨_, rfl⟩
  rw [← hL] at h1 h2 hr ⊢
  have e4 : (4 : Int).toNat = 4 := rfl
  have e5 : (5 : Int).toNat = 5 := rfl
  obtain ⟨T, hT⟩ : ∃ T : Nat, T = 71 * L := ⟨_, rfl⟩
  have hT8 : T + 71 ≤ 568 := by omega
  have eT : w32 (71 * (L : Int)) = (T : Int) := by rw [w32_of (by omega) (by omega)]; omega
  have eL : w32 ((L : Int) + 1 - 1) = (L : Int) := by rw [w32_of (by omega) (by omega)]; omega
  have h1' : u 149 8 = (L : Int) + 1 := by omega
  have hR : ∀ (z : Int) (x : Nat), z = (T : Int) + x → x < 71 → u 154 z.toNat = r (s_ix x) := fun z x hz hx => by
    rw [show z.toNat = 0 + 71 * L + x by omega]
    exact hr x hx
  let w : am_M := am_up u 149 8 (L : Int)
  let f1 : Nat → am_Z := fun i => Rn m_M_undo 56 [vR (some 149), vI (T : Int), vI (i : Int)] [] E (aS w 150 (s_mix n r (s_un i 0 0)))
  let f2 : Nat → am_Z := fun i => Rn m_M_undo 117 [vR (some 149), vI (T : Int), vI (i : Int)] [] E (aS w 150 (s_mix n r (s_un 7 i 0)))
  let f3 : Nat → am_Z := fun i => Rn m_M_undo 155 [vR (some 149), vI (T : Int), vI (i : Int)] [] E (aS w 150 (s_mix n r (s_un 7 6 i)))
  have w54 : ∀ X : am_Row, (aS w 150 X) 154 = u 154 := fun X => by rw [aS_ne _ _ (by omega)]; simp only [w]; rw [up_fn (by omega)]
  have start : Rn m_M_undo 0 [vR (some 149), vB false, vB false] [] E u = f1 0 := by
    simp only [f1]
    simp (disch := first | assumption | omega) only [↓reduceIte, x_M_undo_0, x_M_undo_1, h1', show ¬ (L : Int) + 1 = 0 by omega, eL, up_eq, eT, up_fn, e4, e5, up_aS (am_up u 149 8 (L : Int)) 150, aS_ne, aS_up, w32_of, fx_I, fx_R]
    have q : s_up (s_up (u 150) 4 (u 154 (T : Int).toNat)) 5 (u 154 ((T : Int) + 1).toNat) = s_mix n r (s_un 0 0 0) := by
      rw [hn, hR (T : Int) 0 (by omega) (by omega), hR ((T : Int) + 1) 1 (by omega) (by omega)]
      have z : n = s_mix n r (fun _ => false) := rfl
      have q1 : s_up n 4 (r (s_ix 0)) = s_mix n r (fun x => decide (x = 4)) := by
        have := s_mix_s (n := n) (r := r) (P := fun _ => false) (Q := fun x => decide (x = 4)) (j := 4) (v := r (s_ix 0)) (fun x => (Bool.false_or _).symm) rfl
        exact this
      rw [q1]
      refine s_mix_s (fun x => ?_) rfl
      unfold s_un
      rw [← Bool.decide_or]
      exact decide_eq_decide.mpr (by omega)
    rw [q]
    rfl
  have step1 : ∀ i, i < 7 → f1 i = f1 (i + 1) := by
    intro i hi
    simp only [f1]
    rw [h_M_undo_56]
    have v1 := hR ((T : Int) + 2 + (i : Int)) (2 + i) (by omega) (by omega)
    have v2 := hR ((T : Int) + 9 + (i : Int)) (9 + i) (by omega) (by omega)
    simp (disch := first | assumption | omega) only [↓reduceIte, x_M_undo_0, x_M_undo_1, show (i : Int) < 7 by omega, w54, aS_up, w32_of, fx_I]
    rw [s_mix_s (Q := fun x => s_un i 0 0 x || decide (x = (6 + 3 * (i : Int) + 1).toNat)) (fun x => rfl) (by rw [v1, s_ix_C r hi]; rfl), s_mix_s (Q := s_un (i + 1) 0 0) (fun x => ?_) (by rw [v2, s_ix_V r hi]; rfl)]
    · rfl
    · unfold s_un
      rw [← Bool.decide_or, ← Bool.decide_or]
      exact decide_eq_decide.mpr (by omega)
  have mid1 : f1 7 = f2 0 := by
    simp only [f1, f2]
    rw [h_M_undo_56]
    simp (disch := first | assumption | omega) only [↓reduceIte, x_M_undo_0, x_M_undo_1, show ¬ ((7 : Nat) : Int) < 7 by omega, fx_I]
    rfl
  have step2 : ∀ i, i < 6 → f2 i = f2 (i + 1) := by
    intro i hi
    simp only [f2]
    rw [h_M_undo_117]
    have v1 := hR ((T : Int) + 16 + (i : Int)) (16 + i) (by omega) (by omega)
    simp (disch := first | assumption | omega) only [↓reduceIte, x_M_undo_0, x_M_undo_1, show (i : Int) < 6 by omega, w54, aS_up, w32_of, fx_I]
    rw [s_mix_s (Q := s_un 7 (i + 1) 0) (fun x => ?_) (by rw [v1, s_ix_X r hi]; rfl)]
    · rfl
    · unfold s_un
      rw [← Bool.decide_or]
      exact decide_eq_decide.mpr (by omega)
  have mid2 : f2 6 = f3 0 := by
    simp only [f2, f3]
    rw [h_M_undo_117]
    simp (disch := first | assumption | omega) only [↓reduceIte, x_M_undo_0, x_M_undo_1, show ¬ ((6 : Nat) : Int) < 6 by omega, fx_I]
    rfl
  have step3 : ∀ i, i < 49 → f3 i = f3 (i + 1) := by
    intro i hi
    simp only [f3]
    rw [h_M_undo_155]
    have v1 := hR ((T : Int) + 22 + (i : Int)) (22 + i) (by omega) (by omega)
    simp (disch := first | assumption | omega) only [↓reduceIte, x_M_undo_0, x_M_undo_1, show (i : Int) < 49 by omega, w54, aS_up, w32_of, fx_I]
    rw [s_mix_s (Q := s_un 7 6 (i + 1)) (fun x => ?_) (by rw [v1, s_ix_H r i]; rfl)]
    · rfl
    · unfold s_un
      rw [← Bool.decide_or]
      exact decide_eq_decide.mpr (by omega)
  rw [start, q_loop f1 7 step1, mid1, q_loop f2 6 step2, mid2, q_loop f3 49 step3]
  simp only [f3]
  rw [h_M_undo_155, s_mix_all hs]
  have e8 : (aS w 150 r) 149 8 = (L : Int) := by rw [aS_ne _ _ (by omega)]; simp only [w]; rw [up_eq]
  simp (disch := first | assumption | omega) only [↓reduceIte, x_M_undo_0, x_M_undo_1, show ¬ ((49 : Nat) : Int) < 49 by omega, e8]
  rfl
theorem m_undoNone (hE : SE E) (h : u 149 8 = 0) : Rn m_M_undo 0 [vR (some 149), vB false, vB false] [] E u = some (some (vI (-4)), E, u) := by
  simp (disch := first | assumption | omega) only [↓reduceIte, x_M_undo_0, x_M_undo_1, h]
theorem m_image (hE : SE E) (hn : u 150 = n) : ∃ u', Rn m_M_image 0 [vR (some 149), vB false] [] E u = some (some (vI 1), E, u') ∧ (∀ j, j < 100 → u' 156 j = n j) ∧ (∀ j, j < 568 → u' 156 (100 + j) = u 154 j) ∧ u' 149 11 = u 149 8 ∧ u' 149 12 = 1 ∧ (∀ i, i ≠ 149 → i ≠ 156 → u' i = u i) ∧ ∀ j, j ≠ 11 → j ≠ 12 → u' 149 j = u 149 j := by
  obtain ⟨l0, l1, l2, l3, l4, l5, l6, l7, l8, l9, l10⟩ := al_m hE
  let a1 : am_Row := s_fil (u 156) n 0 100
  let g : am_Row := fun x => u 154 (x - 100)
  let f1 : Nat → am_Z := fun i => Rn m_M_image 2 [vR (some 149), vI (i : Int)] [] E (aS u 156 (s_fil (u 156) n 0 i))
  let f2 : Nat → am_Z := fun i => Rn m_M_image 28 [vR (some 149), vI (i : Int)] [] E (aS u 156 (s_fil a1 g 100 i))
  have start : Rn m_M_image 0 [vR (some 149), vB false] [] E u = f1 0 := by
    simp only [f1, s_fil_0, aS_self]
    simp (disch := first | assumption | omega) only [↓reduceIte, x_M_image, fx_R]
    rfl
  have step1 : ∀ i, i < 100 → f1 i = f1 (i + 1) := by
    intro i hi
    simp only [f1]
    rw [h_M_image_2]
    simp (disch := first | assumption | omega) only [↓reduceIte, x_M_image, show (i : Int) < 100 by omega, Int.toNat_natCast, aS_ne, hn, aS_up, w32_of, fx_R]
    rw [s_fil_s (by omega) rfl]
    rfl
  have mid : f1 100 = f2 0 := by
    simp only [f1, f2, s_fil_0, a1]
    rw [h_M_image_2]
    simp (disch := first | assumption | omega) only [↓reduceIte, x_M_image, show ¬ ((100 : Nat) : Int) < 100 by omega, fx_R]
    rfl
  have step2 : ∀ i, i < 568 → f2 i = f2 (i + 1) := by
    intro i hi
    simp only [f2]
    rw [h_M_image_28]
    simp (disch := first | assumption | omega) only [↓reduceIte, x_M_image, show (i : Int) < 568 by omega, Int.toNat_natCast, aS_ne, aS_up, w32_of, fx_R]
    rw [s_fil_s (by omega) (by simp only [g]; congr 1 <;> omega)]
    rfl
  rw [start, q_loop f1 100 step1, mid, q_loop f2 568 step2]
  simp only [f2]
  rw [h_M_image_28]
  have e8 : (aS u 156 (s_fil a1 g 100 568)) 149 8 = u 149 8 := by rw [aS_ne _ _ (by omega)]
  refine ⟨am_up (am_up (aS u 156 (s_fil a1 g 100 568)) 149 11 (u 149 8)) 149 12 1, ?_, fun j hj => ?_, fun j hj => ?_, ?_, up_eq, fun i h1 h2 => ?_, fun j h1 h2 => ?_⟩
  · simp (disch := first | assumption | omega) only [↓reduceIte, x_M_image, show ¬ ((568 : Nat) : Int) < 568 by omega, e8, (by decide : (1 : Int) = 0 ∨ (1 : Int) = 1)]
  · rw [up_fn (by omega), up_fn (by omega), aS_eq, s_fil_out (by omega)]
    simp only [a1]
    rw [s_fil_in (by omega)]
  · rw [up_fn (by omega), up_fn (by omega), aS_eq, s_fil_in (by omega)]
    simp only [g]
    congr 1 <;> omega
  · rw [up_nj (by omega), up_eq]
  · rw [up_fn h1, up_fn h1, aS_ne _ _ h2]
  · rw [up_nj h2, up_nj h1, aS_ne _ _ (by omega)]
theorem m_restore (hE : SE E) (hk : u 149 12 = 1) {r : am_Row} (h0 : Zn (u 150)) (hz : Zn r) (hr : ∀ j, j < 100 → u 156 j = r j) : ∃ u', Rn m_M_restore 0 [vR (some 149), vB false] [] E u = some (some (vI 1), E, u') ∧ u' 150 = r ∧ (∀ j, j < 568 → u' 154 j = u 156 (100 + j)) ∧ u' 149 8 = u 149 11 ∧ (∀ i, i ≠ 149 → i ≠ 150 → i ≠ 154 → u' i = u i) ∧ ∀ j, j ≠ 8 → u' 149 j = u 149 j := by
  obtain ⟨l0, l1, l2, l3, l4, l5, l6, l7, l8, l9, l10⟩ := al_m hE
  let g : am_Row := fun x => u 156 (100 + x)
  let w : am_M := aS u 150 r
  let f1 : Nat → am_Z := fun i => Rn m_M_restore 12 [vR (some 149), vI (i : Int)] [] E (aS u 150 (s_fil (u 150) (u 156) 0 i))
  let f2 : Nat → am_Z := fun i => Rn m_M_restore 38 [vR (some 149), vI (i : Int)] [] E (aS w 154 (s_fil (u 154) g 0 i))
  have start : Rn m_M_restore 0 [vR (some 149), vB false] [] E u = f1 0 := by
    simp only [f1, s_fil_0, aS_self]
    simp (disch := first | assumption | omega) only [↓reduceIte, x_M_restore, hk, (by decide : ¬ (1 : Int) = 0), fx_R]
    rfl
  have step1 : ∀ i, i < 100 → f1 i = f1 (i + 1) := by
    intro i hi
    simp only [f1]
    rw [h_M_restore_12]
    simp (disch := first | assumption | omega) only [↓reduceIte, x_M_restore, show (i : Int) < 100 by omega, Int.toNat_natCast, aS_ne, aS_up, w32_of, fx_R]
    rw [s_fil_s (by omega) rfl]
    rfl
  have mid : f1 100 = f2 0 := by
    simp only [f1, f2, s_fil_0]
    rw [h_M_restore_12, fil_all h0 hz hr]
    have e : aS w 154 (u 154) = w := by
      have := aS_self w 154
      have e2 : w 154 = u 154 := aS_ne _ _ (by omega)
      rw [e2] at this
      exact this
    rw [e]
    simp (disch := first | assumption | omega) only [↓reduceIte, x_M_restore, show ¬ ((100 : Nat) : Int) < 100 by omega, fx_R]
    rfl
  have w6 : ∀ X : am_Row, (aS w 154 X) 156 = u 156 := fun X => by rw [aS_ne _ _ (by omega)]; exact aS_ne _ _ (by omega)
  have step2 : ∀ i, i < 568 → f2 i = f2 (i + 1) := by
    intro i hi
    simp only [f2]
    rw [h_M_restore_38]
    simp (disch := first | assumption | omega) only [↓reduceIte, x_M_restore, show (i : Int) < 568 by omega, Int.toNat_natCast, w6, aS_up, w32_of, fx_R]
    rw [s_fil_s (by omega) (by simp only [g]; congr 1 <;> omega)]
    rfl
  rw [start, q_loop f1 100 step1, mid, q_loop f2 568 step2]
  simp only [f2]
  rw [h_M_restore_38]
  have e9 : ∀ j, (aS w 154 (s_fil (u 154) g 0 568)) 149 j = u 149 j := fun j => by rw [aS_ne _ _ (by omega)]; simp only [w]; rw [aS_ne _ _ (by omega)]
  refine ⟨am_up (aS w 154 (s_fil (u 154) g 0 568)) 149 8 (u 149 11), ?_, ?_, fun j hj => ?_, up_eq, fun i h1 h2 h3 => ?_, fun j h1 => ?_⟩
  · simp (disch := first | assumption | omega) only [↓reduceIte, x_M_restore, show ¬ ((568 : Nat) : Int) < 568 by omega, e9]
  · rw [up_fn (by omega), aS_ne _ _ (by omega)]; exact aS_eq _ _ _
  · rw [up_fn (by omega), aS_eq, s_fil_in (by omega)]
  · rw [up_fn h1, aS_ne _ _ h3]; exact aS_ne _ _ h2
  · rw [up_nj h1, e9]
theorem m_restoreNone (hE : SE E) (hk : u 149 12 = 0) : Rn m_M_restore 0 [vR (some 149), vB false] [] E u = some (some (vI (-4)), E, u) := by
  simp (disch := first | assumption | omega) only [↓reduceIte, x_M_restore, hk]

/-! A cushion's text, thing by thing; the class tells it. -/
variable {E : am_E} {u : am_M} {k : Nat} {n : am_Row} {T : List Int}
def s_c0 (n : am_Row) (c : Int) : Prop := s_H n c ≠ 1 ∧ s_pinOn n c = -4
/-- a cell by two digits: the cell, or -4; the place behind, or at fault -/
def p_cv (T : List Int) (n : am_Row) (q : Nat) : Int := (s_ch T (s_sk T q) - 48) * n 1 + (s_ch T (s_sk T (s_sk T q + 1)) - 48)
def p_cell (T : List Int) (n : am_Row) (q : Nat) : Int × Nat :=
  if s_dg T 0 (n 0 - 1) (s_sk T q) then
    if s_dg T 0 (n 1 - 1) (s_sk T (s_sk T q + 1)) then
      if s_H n (p_cv T n q) ≠ 1 ∧ s_pinOn n (p_cv T n q) = -4 then (p_cv T n q, s_sk T (s_sk T q + 1) + 1) else (-4, s_sk T (s_sk T q + 1))
    else (-4, s_sk T (s_sk T q + 1))
  else (-4, s_sk T q)
def s_crs (c : Int) : Int := if c = 100 then 1 else if c = 108 then 2 else if c = 114 then 3 else if c = 117 then 0 else -4
def p_pin (T : List Int) (n : am_Row) (K : Int) (q : Nat) : Bool × Nat × am_Row :=
  if 7 ≤ n 2 then (false, q, n)
  else if (p_cell T n (q + 1)).1 = -4 then (false, (p_cell T n (q + 1)).2, n)
  else if s_crs (s_ch T (s_sk T (p_cell T n (q + 1)).2)) = -4 then (true, s_sk T (p_cell T n (q + 1)).2, s_addPin n K (p_cell T n (q + 1)).1 3)
  else (true, s_sk T (p_cell T n (q + 1)).2 + 1, s_addPin n K (p_cell T n (q + 1)).1 (s_crs (s_ch T (s_sk T (p_cell T n (q + 1)).2))))
def p_hole (T : List Int) (n : am_Row) (q : Nat) : Bool × Nat × am_Row :=
  if (p_cell T n (q + 1)).1 = -4 then (false, (p_cell T n (q + 1)).2, n) else (true, (p_cell T n (q + 1)).2, s_up n (51 + (p_cell T n (q + 1)).1).toNat 1)
noncomputable def p_thr (T : List Int) (n : am_Row) (q : Nat) : Bool × Nat × am_Row :=
  if 6 ≤ n 3 then (false, q, n)
  else if ¬ s_dg T 0 (n 2 - 1) (s_sk T (q + 1)) then (false, s_sk T (q + 1), n)
  else if ¬ s_dg T 0 (n 2 - 1) (s_sk T (s_sk T (q + 1) + 1)) ∨ s_ch T (s_sk T (s_sk T (q + 1) + 1)) = s_ch T (s_sk T (q + 1)) then (false, s_sk T (s_sk T (q + 1) + 1), n)
  else if ¬ s_ch T (s_sk T (s_sk T (s_sk T (q + 1) + 1) + 1)) = 61 then (false, s_sk T (s_sk T (s_sk T (q + 1) + 1) + 1), n)
  else if 1 ≤ (s_nv T (s_sk T (s_sk T (s_sk T (s_sk T (q + 1) + 1) + 1) + 1))).1 ∧ (s_nv T (s_sk T (s_sk T (s_sk T (s_sk T (q + 1) + 1) + 1) + 1))).1 ≤ 12 then (true, (s_nv T (s_sk T (s_sk T (s_sk T (s_sk T (q + 1) + 1) + 1) + 1))).2, s_addThr n (s_ch T (s_sk T (q + 1)) - 48) (s_ch T (s_sk T (s_sk T (q + 1) + 1)) - 48) (s_nv T (s_sk T (s_sk T (s_sk T (s_sk T (q + 1) + 1) + 1) + 1))).1)
  else (false, s_sk T (s_sk T (s_sk T (s_sk T (q + 1) + 1) + 1) + 1), n)
noncomputable def p_thing (T : List Int) (n : am_Row) (q : Nat) : Bool × Nat × am_Row :=
  if s_ch T (s_sk T q) = 112 then p_pin T n 0 (s_sk T q)
  else if s_ch T (s_sk T q) = 115 then p_pin T n 1 (s_sk T q)
  else if s_ch T (s_sk T q) = 114 then p_pin T n 2 (s_sk T q)
  else if s_ch T (s_sk T q) = 110 then p_pin T n 3 (s_sk T q)
  else if s_ch T (s_sk T q) = 109 then p_pin T n 4 (s_sk T q)
  else if s_ch T (s_sk T q) = 111 then p_hole T n (s_sk T q)
  else if s_ch T (s_sk T q) = 116 then p_thr T n (s_sk T q)
  else (false, s_sk T q, n)
noncomputable def p_all (T : List Int) : Nat → Nat → am_Row → Bool × Nat × am_Row
  | 0, q, n => (true, q, n)
  | f + 1, q, n =>
    if s_ch T (s_sk T q) = -1 then (true, s_sk T q, n)
    else if ¬ s_ch T (s_sk T q) = 59 then (false, s_sk T q, n)
    else if (p_thing T n (s_sk T q + 1)).1 = true then p_all T f (p_thing T n (s_sk T q + 1)).2.1 (p_thing T n (s_sk T q + 1)).2.2
    else p_thing T n (s_sk T q + 1)
noncomputable def p_tells (T : List Int) (n : am_Row) : Bool × Nat × am_Row :=
  if ¬ s_dg T 3 7 (s_sk T 0) then (false, s_sk T 0, n)
  else if ¬ s_ch T (s_sk T (s_sk T 0 + 1)) = 120 then (false, s_sk T (s_sk T 0 + 1), n)
  else if ¬ s_dg T 3 7 (s_sk T (s_sk T (s_sk T 0 + 1) + 1)) then (false, s_sk T (s_sk T (s_sk T 0 + 1) + 1), n)
  else p_all T 120 (s_sk T (s_sk T (s_sk T 0 + 1) + 1) + 1) (s_fresh n (s_ch T (s_sk T 0) - 48) (s_ch T (s_sk T (s_sk T (s_sk T 0 + 1) + 1)) - 48))
/-- a place behind a letter that is there -/
theorem sk_next (hT : OKt T) {q : Nat} (hq : q ≤ T.length) (h : s_ch T (s_sk T q) ≠ -1) : q ≤ s_sk T q ∧ s_sk T q + 1 ≤ T.length := ⟨(s_sk_le hq).1, s_ch_lt hT h⟩
theorem dg_ne {lo hi : Int} (l0 : 0 ≤ lo) {q : Nat} (h : s_dg T lo hi q) : s_ch T q ≠ -1 := by
  have := h.1
  omega
/-- a cell that was told is one that is free -/
theorem p_cell_ok (hV : Vn n) (hT : OKt T) {q : Nat} (hq : q ≤ T.length) : (p_cell T n q).2 ≤ T.length ∧ q ≤ (p_cell T n q).2 ∧ ((p_cell T n q).1 ≠ -4 → 0 ≤ (p_cell T n q).1 ∧ (p_cell T n q).1 < s_cells n ∧ s_H n (p_cell T n q).1 = 0 ∧ (∀ p : Int, 0 ≤ p → p < n 2 → s_C n p ≠ (p_cell T n q).1) ∧ q + 1 ≤ (p_cell T n q).2) := by
  have hcl := s_cells_of hV
  unfold p_cell
  by_cases h1 : s_dg T 0 (n 0 - 1) (s_sk T q)
  · rw [if_pos h1]
    obtain ⟨a1, a2⟩ := sk_next hT hq (dg_ne (Int.le_refl 0) h1)
    have b := s_sk_le a2
    by_cases h2 : s_dg T 0 (n 1 - 1) (s_sk T (s_sk T q + 1))
    · rw [if_pos h2]
      obtain ⟨c1, c2⟩ := sk_next hT a2 (dg_ne (Int.le_refl 0) h2)
      by_cases h3 : s_H n (p_cv T n q) ≠ 1 ∧ s_pinOn n (p_cv T n q) = -4
      · rw [if_pos h3]
        refine ⟨c2, by show q ≤ s_sk T (s_sk T q + 1) + 1; omega, fun _ => ?_⟩
        have hc : 0 ≤ p_cv T n q ∧ p_cv T n q < s_cells n := by
          unfold p_cv s_cells
          have e : n 1 = 3 ∨ n 1 = 4 ∨ n 1 = 5 ∨ n 1 = 6 ∨ n 1 = 7 := by have := hV.2.1; omega
          obtain ⟨x1, x2⟩ := h1
          obtain ⟨y1, y2⟩ := h2
          generalize s_ch T (s_sk T q) - 48 = x at *
          generalize s_ch T (s_sk T (s_sk T q + 1)) - 48 = y at *
          rcases e with e | e | e | e | e <;> rw [e] at y2 ⊢ <;> omega
        have h01 := hV.2.2.2.2.2.2.2.2.1 (p_cv T n q) hc.1 (by omega)
        exact ⟨hc.1, hc.2, h01.resolve_right h3.1, s_pinOn_no hV h3.2, by show q + 1 ≤ s_sk T (s_sk T q + 1) + 1; omega⟩
      · rw [if_neg h3]
        exact ⟨by show s_sk T (s_sk T q + 1) ≤ _; omega, by show q ≤ s_sk T (s_sk T q + 1); omega, fun z => absurd rfl z⟩
    · rw [if_neg h2]
      exact ⟨b.2, by show q ≤ s_sk T (s_sk T q + 1); omega, fun z => absurd rfl z⟩
  · rw [if_neg h1]
    have b := s_sk_le hq
    exact ⟨b.2, b.1, fun z => absurd rfl z⟩
theorem s_crs_in (c : Int) : s_crs c = -4 ∨ (0 ≤ s_crs c ∧ s_crs c ≤ 3) := by
  unfold s_crs
  repeat' split
  all_goals omega
theorem s_nv_end (hT : OKt T) {b : Nat} (hb : b ≤ T.length) : (s_nv T b).2 ≤ T.length ∧ b ≤ (s_nv T b).2 := by
  unfold s_nv
  by_cases h : s_is T b
  · rw [if_pos h]
    have l1 := s_ch_lt hT (i := b) (by have := h.1; omega)
    by_cases h2 : s_is T (b + 1)
    · rw [if_pos h2]
      have l2 := s_ch_lt hT (i := b + 1) (by have := h2.1; omega)
      exact ⟨by show b + 2 ≤ _; omega, by show b ≤ b + 2; omega⟩
    · rw [if_neg h2]
      exact ⟨by show b + 1 ≤ _; omega, by show b ≤ b + 1; omega⟩
  · rw [if_neg h]
    exact ⟨hb, Nat.le_refl _⟩
/-- what a thing leaves: a place further on, a row that may be -/
def p_good (T : List Int) (n : am_Row) (q : Nat) (z : Bool × Nat × am_Row) : Prop := z.2.1 ≤ T.length ∧ q ≤ z.2.1 ∧ (z.1 = true → Vn z.2.2 ∧ z.2.2 5 = n 5 ∧ q + 1 ≤ z.2.1)
theorem p_pin_ok (hV : Vn n) (hT : OKt T) {K : Int} (hK : 0 ≤ K ∧ K ≤ 4) {q : Nat} (hq : q < T.length) : p_good T n q (p_pin T n K q) := by
  have h2 := hV.2.2.1
  obtain ⟨a, b, c⟩ := p_cell_ok hV hT (q := q + 1) hq
  unfold p_pin
  by_cases h7 : 7 ≤ n 2
  · rw [if_pos h7]
    exact ⟨by show q ≤ _; omega, Nat.le_refl q, fun z => by cases z⟩
  rw [if_neg h7]
  by_cases h4 : (p_cell T n (q + 1)).1 = -4
  · rw [if_pos h4]
    exact ⟨a, by show q ≤ (p_cell T n (q + 1)).2; omega, fun z => by cases z⟩
  rw [if_neg h4]
  obtain ⟨c1, c2, c3, c4, c5⟩ := c h4
  have sl := s_sk_le a
  have ne5 : ∀ v : Int, s_addPin n K (p_cell T n (q + 1)).1 v 5 = n 5 := fun v => s_addPin_ne h2.1 (by omega) (by omega)
  by_cases hc : s_crs (s_ch T (s_sk T (p_cell T n (q + 1)).2)) = -4
  · rw [if_pos hc]
    exact ⟨sl.2, by show q ≤ s_sk T _; omega, fun _ => ⟨Vn_addPin hV (by omega) hK c1 c2 c3 c4 (by omega), ne5 3, by show q + 1 ≤ s_sk T _; omega⟩⟩
  · rw [if_neg hc]
    have hin := (s_crs_in (s_ch T (s_sk T (p_cell T n (q + 1)).2))).resolve_left hc
    have hl : s_sk T (p_cell T n (q + 1)).2 < T.length := s_ch_lt hT (by intro z; rw [z] at hc; exact hc (by decide))
    exact ⟨by show s_sk T _ + 1 ≤ _; omega, by show q ≤ s_sk T _ + 1; omega, fun _ => ⟨Vn_addPin hV (by omega) hK c1 c2 c3 c4 hin, ne5 _, by show q + 1 ≤ s_sk T _ + 1; omega⟩⟩
theorem p_hole_ok (hV : Vn n) (hT : OKt T) {q : Nat} (hq : q < T.length) : p_good T n q (p_hole T n q) := by
  obtain ⟨a, b, c⟩ := p_cell_ok hV hT (q := q + 1) hq
  unfold p_hole
  by_cases h4 : (p_cell T n (q + 1)).1 = -4
  · rw [if_pos h4]
    exact ⟨a, by show q ≤ (p_cell T n (q + 1)).2; omega, fun z => by cases z⟩
  rw [if_neg h4]
  obtain ⟨c1, c2, c3, c4, c5⟩ := c h4
  exact ⟨a, by show q ≤ (p_cell T n (q + 1)).2; omega, fun _ => ⟨Vn_open hV c1 c2 c4, su_ne (by omega), by show q + 1 ≤ (p_cell T n (q + 1)).2; omega⟩⟩
theorem p_thr_ok (hV : Vn n) (hT : OKt T) {q : Nat} (hq : q < T.length) : p_good T n q (p_thr T n q) := by
  have h2 := hV.2.2.1
  have h3 := hV.2.2.2.1
  have s1 := s_sk_le (T := T) (i := q + 1) hq
  have ne5 : ∀ a b l : Int, s_addThr n a b l 5 = n 5 := fun a b l => s_addThr_ne h3.1 (by omega) (by omega)
  unfold p_thr
  by_cases h6 : 6 ≤ n 3
  · rw [if_pos h6]
    exact ⟨by show q ≤ _; omega, Nat.le_refl q, fun z => by cases z⟩
  rw [if_neg h6]
  by_cases d1 : s_dg T 0 (n 2 - 1) (s_sk T (q + 1))
  case neg =>
    rw [if_pos d1]
    exact ⟨s1.2, by dsimp only; omega, fun z => by cases z⟩
  rw [if_neg (fun z => z d1)]
  obtain ⟨a1, a2⟩ := sk_next (q := q + 1) hT hq (dg_ne (Int.le_refl 0) d1)
  have s2 := s_sk_le a2
  by_cases d2 : ¬ s_dg T 0 (n 2 - 1) (s_sk T (s_sk T (q + 1) + 1)) ∨ s_ch T (s_sk T (s_sk T (q + 1) + 1)) = s_ch T (s_sk T (q + 1))
  · rw [if_pos d2]
    exact ⟨s2.2, by dsimp only; omega, fun z => by cases z⟩
  rw [if_neg d2]
  have d2' : s_dg T 0 (n 2 - 1) (s_sk T (s_sk T (q + 1) + 1)) := Classical.byContradiction fun z => d2 (Or.inl z)
  have d2'' : ¬ s_ch T (s_sk T (s_sk T (q + 1) + 1)) = s_ch T (s_sk T (q + 1)) := fun z => d2 (Or.inr z)
  have hab : s_ch T (s_sk T (q + 1)) - 48 ≠ s_ch T (s_sk T (s_sk T (q + 1) + 1)) - 48 := by omega
  obtain ⟨b1, b2⟩ := sk_next hT a2 (dg_ne (Int.le_refl 0) d2')
  have s3 := s_sk_le b2
  by_cases d3 : s_ch T (s_sk T (s_sk T (s_sk T (q + 1) + 1) + 1)) = 61
  case neg =>
    rw [if_pos d3]
    exact ⟨s3.2, by dsimp only; omega, fun z => by cases z⟩
  rw [if_neg (fun z => z d3)]
  obtain ⟨c1, c2⟩ := sk_next hT b2 (by rw [d3]; decide)
  have s4 := s_sk_le c2
  obtain ⟨e1, e2⟩ := s_nv_end hT s4.2
  by_cases d4 : 1 ≤ (s_nv T (s_sk T (s_sk T (s_sk T (s_sk T (q + 1) + 1) + 1) + 1))).1 ∧ (s_nv T (s_sk T (s_sk T (s_sk T (s_sk T (q + 1) + 1) + 1) + 1))).1 ≤ 12
  · rw [if_pos d4]
    refine ⟨e1, by dsimp only; omega, fun _ => ⟨Vn_addThr hV (by omega) ⟨d1.1, by have := d1.2; omega⟩ ⟨d2'.1, by have := d2'.2; omega⟩ hab d4, ne5 _ _ _, by dsimp only; omega⟩⟩
  · rw [if_neg d4]
    exact ⟨s4.2, by dsimp only; omega, fun z => by cases z⟩
theorem p_thing_ok (hV : Vn n) (hT : OKt T) {q : Nat} (hq : q ≤ T.length) : p_good T n q (p_thing T n q) := by
  have sl := s_sk_le hq
  have up : ∀ z, p_good T n (s_sk T q) z → p_good T n q z := fun z hz => ⟨hz.1, by have := hz.2.1; omega, fun h => by obtain ⟨a, b, c⟩ := hz.2.2 h; exact ⟨a, b, by omega⟩⟩
  have lt : ∀ c : Int, s_ch T (s_sk T q) = c → c ≠ -1 → s_sk T q < T.length := fun c h hc => s_ch_lt hT (by rw [h]; exact hc)
  unfold p_thing
  split
  · rename_i h; exact up _ (p_pin_ok hV hT (by decide) (lt _ h (by decide)))
  split
  · rename_i h; exact up _ (p_pin_ok hV hT (by decide) (lt _ h (by decide)))
  split
  · rename_i h; exact up _ (p_pin_ok hV hT (by decide) (lt _ h (by decide)))
  split
  · rename_i h; exact up _ (p_pin_ok hV hT (by decide) (lt _ h (by decide)))
  split
  · rename_i h; exact up _ (p_pin_ok hV hT (by decide) (lt _ h (by decide)))
  split
  · rename_i h; exact up _ (p_hole_ok hV hT (lt _ h (by decide)))
  split
  · rename_i h; exact up _ (p_thr_ok hV hT (lt _ h (by decide)))
  · exact ⟨sl.2, sl.1, fun z => by cases z⟩

/-! What both sides mean: a cushion as a row of numbers (the reference's), and what becomes of it. -/
abbrev am_Row : Type := Nat → Int
def s_cells (n : am_Row) : Int := n 0 * n 1
def s_K (n : am_Row) (p : Int) : Int := n (6 + 3 * p).toNat
def s_C (n : am_Row) (p : Int) : Int := n (6 + 3 * p + 1).toNat
def s_V (n : am_Row) (p : Int) : Int := n (6 + 3 * p + 2).toNat
def s_A (n : am_Row) (t : Int) : Int := n (27 + 4 * t).toNat
def s_B (n : am_Row) (t : Int) : Int := n (27 + 4 * t + 1).toNat
def s_L (n : am_Row) (t : Int) : Int := n (27 + 4 * t + 2).toNat
def s_X (n : am_Row) (t : Int) : Int := n (27 + 4 * t + 3).toNat
def s_H (n : am_Row) (c : Int) : Int := n (51 + c).toNat
def s_up (n : am_Row) (j : Nat) (v : Int) : am_Row := fun i => if i = j then v else n i
def s_abs (x : Int) : Int := if x < 0 then -x else x
def s_far (n : am_Row) (a b : Int) : Int := s_abs (a / n 1 - b / n 1) + s_abs (a % n 1 - b % n 1)
def s_one (n : am_Row) (t p c : Int) : Int := if s_A n t = p then c else s_C n (s_A n t)
def s_two (n : am_Row) (t p c : Int) : Int := if s_B n t = p then c else s_C n (s_B n t)
def s_holdsIf (n : am_Row) (t p c : Int) : Bool := decide (s_X n t = 0) && (decide (s_one n t p c ≠ -4) && (decide (s_two n t p c ≠ -4) && decide (s_far n (s_one n t p c) (s_two n t p c) ≤ s_L n t)))
def s_holds (n : am_Row) (t : Int) : Bool := s_holdsIf n t (-4) (-4)
def s_pinR (n : am_Row) (c : Int) : Nat → Int
  | 0 => -4
  | p + 1 => if s_C n (p : Int) = c then (p : Int) else s_pinR n c p
def s_pinOn (n : am_Row) (c : Int) : Int := s_pinR n c (n 2).toNat
def s_beside (n : am_Row) (c v : Int) : Int :=
  if v = 0 then (if c < n 1 then -4 else c - n 1)
  else if v = 1 then (if c + n 1 < s_cells n then c + n 1 else -4)
  else if v = 2 then (if c % n 1 = 0 then -4 else c - 1)
  else if v = 3 then (if c % n 1 = n 1 - 1 then -4 else c + 1)
  else -4
def s_all (f : Nat → Bool) : Nat → Bool
  | 0 => true
  | m + 1 => s_all f m && f m
def s_isOf (n : am_Row) (t p : Int) : Bool := decide (s_A n t = p) || decide (s_B n t = p)
def s_mayT (n : am_Row) (p c : Int) (t : Nat) : Bool := !(s_isOf n t p) || (!(s_holds n t) || s_holdsIf n t p c)
def s_mayGo (n : am_Row) (p c : Int) : Bool := decide (c ≠ -4) && (decide (s_pinOn n c = -4) && s_all (s_mayT n p c) (n 3).toNat)
def s_sets (n : am_Row) (p c : Int) : am_Row := s_up (s_up n (6 + 3 * p + 1).toNat c) (51 + c).toNat 0
def s_nearR (n : am_Row) (cell : Int) : Nat → Int
  | 0 => -4
  | c + 1 => if s_H n (c : Int) = 1 ∧ (s_nearR n cell c = -4 ∨ s_far n cell c < s_far n cell (s_nearR n cell c)) then (c : Int) else s_nearR n cell c
def s_near (n : am_Row) (cell : Int) : Int := s_nearR n cell (s_cells n).toNat
def s_flip (v : Int) : Int := if v = 0 then 1 else if v = 1 then 0 else if v = 2 then 3 else 2
def s_sails (n : am_Row) (p v : Int) : am_Row :=
  if s_mayGo n p (s_beside n (s_C n p) v) = true then s_sets (s_up n (6 + 3 * p + 2).toNat v) p (s_beside n (s_C n p) v)
  else s_up n (6 + 3 * p + 2).toNat (s_flip v)
def s_way (n : am_Row) (a h : Int) : Int := if h / n 1 - a / n 1 < 0 then 0 else if 0 < h / n 1 - a / n 1 then 1 else if h % n 1 < a % n 1 then 2 else 3
def s_pull (n : am_Row) (p : Int) : am_Row :=
  if s_near n (s_C n p) = -4 then n
  else if s_mayGo n p (s_beside n (s_C n p) (s_way n (s_C n p) (s_near n (s_C n p)))) = true then s_sets n p (s_beside n (s_C n p) (s_way n (s_C n p) (s_near n (s_C n p)))) else n
/-- a pin's turn -/
def s_turn (n : am_Row) (p : Int) : am_Row :=
  if s_C n p = -4 then n
  else if s_K n p = 1 then s_sails n p (s_V n p)
  else if s_K n p = 3 then s_sails n p 0
  else if s_K n p = 4 ∨ (s_K n p = 2 ∧ n 4 % 2 = 0) then s_pull n p
  else n
def s_turns (n : am_Row) : Nat → am_Row
  | 0 => n
  | p + 1 => s_turn (s_turns n p) (p : Int)
def s_day (n : am_Row) : am_Row := s_up (s_turns n (n 2).toNat) 4 (n 4 + 1)
def s_days (n : am_Row) : Nat → am_Row
  | 0 => n
  | m + 1 => s_day (s_days n m)
/-- a row that a cushion may be -/
def Vn (n : am_Row) : Prop :=
  (3 ≤ n 0 ∧ n 0 ≤ 7) ∧ (3 ≤ n 1 ∧ n 1 ≤ 7) ∧ (0 ≤ n 2 ∧ n 2 ≤ 7) ∧ (0 ≤ n 3 ∧ n 3 ≤ 6) ∧ 0 ≤ n 4 ∧ (n 5 = 0 ∨ n 5 ≠ 0) ∧
  (∀ p : Int, 0 ≤ p → p < n 2 → (0 ≤ s_K n p ∧ s_K n p ≤ 4) ∧ (s_C n p = -4 ∨ (0 ≤ s_C n p ∧ s_C n p < s_cells n ∧ s_H n (s_C n p) = 0)) ∧ (0 ≤ s_V n p ∧ s_V n p ≤ 3)) ∧
  (∀ t : Int, 0 ≤ t → t < n 3 → (0 ≤ s_A n t ∧ s_A n t < n 2) ∧ (0 ≤ s_B n t ∧ s_B n t < n 2) ∧ s_A n t ≠ s_B n t ∧ (1 ≤ s_L n t ∧ s_L n t ≤ 12) ∧ (s_X n t = 0 ∨ s_X n t = 1)) ∧
  (∀ c : Int, 0 ≤ c → c < 49 → (s_H n c = 0 ∨ s_H n c = 1)) ∧ (∀ c : Int, s_cells n ≤ c → c < 49 → s_H n c = 0) ∧
  (∀ p q : Int, 0 ≤ p → p < n 2 → 0 ≤ q → q < n 2 → s_C n p = s_C n q → s_C n p ≠ -4 → p = q)
theorem s_cells_of {n : am_Row} (h : Vn n) : 9 ≤ s_cells n ∧ s_cells n ≤ 49 ∧ n 1 ≤ s_cells n := by
  obtain ⟨h0, h1, -⟩ := h
  unfold s_cells
  have e : n 1 = 3 ∨ n 1 = 4 ∨ n 1 = 5 ∨ n 1 = 6 ∨ n 1 = 7 := by omega
  rcases e with e | e | e | e | e <;> rw [e] <;> omega
/-- the cushion at k is the row n -/
def RC (u : am_M) (k : Nat) (n : am_Row) : Prop :=
  u k 0 = n 0 ∧ u k 1 = n 1 ∧ u k 2 = n 2 ∧ u k 3 = n 3 ∧ u k 4 = n 4 ∧ u k 5 = n 5 ∧
  u k 6 = (bits (fun t => decide ((t : Int) < n 3) && decide (s_X n t = 1)) 6 : Nat) ∧ u k 7 = (bits (fun c => decide (s_H n c = 1)) 49 : Nat) ∧
  (∀ p : Int, 0 ≤ p → p < n 2 → u (k + 1) p.toNat = s_K n p ∧ u (k + 2) p.toNat = s_C n p ∧ u (k + 3) p.toNat = s_V n p) ∧
  (∀ p : Int, n 2 ≤ p → p < 7 → u (k + 2) p.toNat = -4) ∧
  (∀ t : Int, 0 ≤ t → t < n 3 → u (k + 4) t.toNat = s_A n t ∧ u (k + 5) t.toNat = s_B n t ∧ u (k + 6) t.toNat = s_L n t)
/-- nothing but the cushion at k is another -/
def FR (k : Nat) (u u' : am_M) : Prop := ∀ i : Nat, i < k ∨ k + 7 ≤ i → u' i = u i
theorem FR.rf {k : Nat} {u : am_M} : FR k u u := fun _ _ => rfl
theorem FR.tr {k : Nat} {u v w : am_M} (h : FR k u v) (h' : FR k v w) : FR k u w := fun i hi => (h' i hi).trans (h i hi)
theorem FR.up {k j : Nat} {u : am_M} {x : Nat} {v : Int} (h : k ≤ j ∧ j < k + 7) : FR k u (am_up u j x v) := by
  intro i hi
  funext z
  unfold am_up
  rw [if_neg (by omega)]
theorem up_ne {u : am_M} {k j k' j' : Nat} {v : Int} (h : k' ≠ k) : am_up u k j v k' j' = u k' j' := by unfold am_up; rw [if_neg (by omega)]
theorem up_nj {u : am_M} {k j k' j' : Nat} {v : Int} (h : j' ≠ j) : am_up u k j v k' j' = u k' j' := by unfold am_up; rw [if_neg (by omega)]
theorem up_eq {u : am_M} {k j : Nat} {v : Int} : am_up u k j v k j = v := by unfold am_up; rw [if_pos ⟨rfl, rfl⟩]
theorem up_at {u : am_M} {k j k' j' : Nat} {v : Int} : am_up u k j v k' j' = if k' = k ∧ j' = j then v else u k' j' := rfl
theorem s_far_cm (n : am_Row) (a b : Int) : s_far n a b = s_far n b a := by
  unfold s_far s_abs
  generalize a / n 1 = w
  generalize b / n 1 = x
  generalize a % n 1 = y
  generalize b % n 1 = z
  repeat' split
  all_goals omega
theorem s_all_iff (f : Nat → Bool) : ∀ m, s_all f m = true ↔ ∀ i, i < m → f i = true := by
  intro m
  induction m with
  | zero => simp [s_all]
  | succ m ih =>
    simp only [s_all, Bool.and_eq_true, ih]
    constructor
    · intro ⟨h1, h2⟩ i hi
      by_cases e : i = m
      · subst e; exact h2
      · exact h1 i (by omega)
    · intro h
      exact ⟨fun i hi => h i (by omega), h m (by omega)⟩

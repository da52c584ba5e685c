/-! How many: the holes by their bits and by their numbers. -/
variable {E : am_E} {u : am_M} {k : Nat} {n : am_Row}
theorem and_pair {a b c d : Nat} (ha : a < 256) (hc : c < 256) : (a + 256 * b) &&& (c + 256 * d) = (a &&& c) + 256 * (b &&& d) := by
  have hac : a &&& c < 2 ^ 8 := Nat.and_lt_two_pow _ (by omega)
  refine Nat.eq_of_testBit_eq fun i => ?_
  rw [show a + 256 * b = 2 ^ 8 * b + a by omega, show c + 256 * d = 2 ^ 8 * d + c by omega, show (a &&& c) + 256 * (b &&& d) = 2 ^ 8 * (b &&& d) + (a &&& c) by omega]
  rw [Nat.testBit_and, Nat.testBit_two_pow_mul_add b (i := 8) (by omega), Nat.testBit_two_pow_mul_add d (i := 8) (by omega), Nat.testBit_two_pow_mul_add (b &&& d) (i := 8) hac]
  split <;> rw [Nat.testBit_and]
/-- a number by its bytes -/
def byv : List Nat → Nat
  | [] => 0
  | b :: l => b + 256 * byv l
/-- a byte on and on -/
def byc (c : Nat) : Nat → Nat
  | 0 => 0
  | m + 1 => c + 256 * byc c m
theorem by_a : ∀ b : Nat, b < 256 → ∀ e : Nat, e < 2 → (b / 2 + 128 * e) &&& 85 = (b / 2) &&& 85 ∧ b / 2 + 128 * e < 256 ∧ (b / 2) &&& 85 ≤ b := by decide +kernel
theorem by_b : ∀ b : Nat, b < 256 → ∀ e : Nat, e < 4 → (b / 4 + 64 * e) &&& 51 = (b / 4) &&& 51 ∧ b / 4 + 64 * e < 256 := by decide +kernel
theorem by_c : ∀ b : Nat, b < 256 → b % 16 ≤ 4 → b / 16 ≤ 4 → ∀ e : Nat, e ≤ 4 → (b + b / 16 + 16 * e) &&& 15 = (b + b / 16) &&& 15 ∧ b + b / 16 + 16 * e < 256 := by decide +kernel
def by1 (b : Nat) : Nat := b - (b / 2 &&& 85)
def by2 (b : Nat) : Nat := (b &&& 51) + (b / 4 &&& 51)
def by3 (b : Nat) : Nat := (b + b / 16) &&& 15
theorem by_s1 : ∀ l : List Nat, (∀ b ∈ l, b < 256) → (byv l / 2) &&& byc 85 l.length ≤ byv l ∧ byv l - ((byv l / 2) &&& byc 85 l.length) = byv (l.map by1) := by
  intro l
  induction l with
  | nil => intro _; exact ⟨by decide, by decide⟩
  | cons b l ih =>
    intro h
    obtain ⟨i1, i2⟩ := ih fun c hc => h c (List.mem_cons_of_mem _ hc)
    have hb := h b List.mem_cons_self
    obtain ⟨a1, a2, a3⟩ := by_a b hb (byv l % 2) (by omega)
    simp only [byv, byc, List.length_cons, List.map_cons, by1]
    rw [show (b + 256 * byv l) / 2 = (b / 2 + 128 * (byv l % 2)) + 256 * (byv l / 2) by omega, and_pair a2 (by decide), a1, ← i2]
    omega
theorem by_s2 : ∀ l : List Nat, (∀ b ∈ l, b < 256) → (byv l &&& byc 51 l.length) + ((byv l / 4) &&& byc 51 l.length) = byv (l.map by2) := by
  intro l
  induction l with
  | nil => intro _; decide
  | cons b l ih =>
    intro h
    have i2 := ih fun c hc => h c (List.mem_cons_of_mem _ hc)
    have hb := h b List.mem_cons_self
    obtain ⟨a1, a2⟩ := by_b b hb (byv l % 4) (by omega)
    simp only [byv, byc, List.length_cons, List.map_cons, by2]
    rw [show (b + 256 * byv l) / 4 = (b / 4 + 64 * (byv l % 4)) + 256 * (byv l / 4) by omega, and_pair a2 (by decide), a1, and_pair hb (by decide), ← i2]
    omega
theorem by_s3 : ∀ l : List Nat, (∀ b ∈ l, b < 256 ∧ b % 16 ≤ 4 ∧ b / 16 ≤ 4) → byv l % 16 ≤ 4 ∧ (byv l + byv l / 16) &&& byc 15 l.length = byv (l.map by3) := by
  intro l
  induction l with
  | nil => intro _; exact ⟨by decide, by decide⟩
  | cons b l ih =>
    intro h
    obtain ⟨i1, i2⟩ := ih fun c hc => h c (List.mem_cons_of_mem _ hc)
    obtain ⟨hb, hb1, hb2⟩ := h b List.mem_cons_self
    obtain ⟨a1, a2⟩ := by_c b hb hb1 hb2 (byv l % 16) i1
    simp only [byv, byc, List.length_cons, List.map_cons, by3]
    refine ⟨by omega, ?_⟩
    rw [show b + 256 * byv l + (b + 256 * byv l) / 16 = (b + b / 16 + 16 * (byv l % 16)) + 256 * (byv l + byv l / 16) by omega, and_pair a2 (by decide), a1, ← i2]
theorem by_12 : ∀ b : Nat, b < 256 → by1 b < 256 ∧ by2 (by1 b) < 256 ∧ by2 (by1 b) % 16 ≤ 4 ∧ by2 (by1 b) / 16 ≤ 4 ∧ by3 (by2 (by1 b)) ≤ 8 := by decide +kernel
/-- a byte of eight bits -/
def by8 (f : Nat → Bool) : Nat := bits f 8
theorem by_pc (f : Nat → Bool) : by3 (by2 (by1 (bits f 8))) = cntB f 8 := by
  have key : ∀ a b c d e g h i : Bool, by3 (by2 (by1 ((((((((0 + (if a = true then 2 ^ 0 else 0)) + (if b = true then 2 ^ 1 else 0)) + (if c = true then 2 ^ 2 else 0)) + (if d = true then 2 ^ 3 else 0)) + (if e = true then 2 ^ 4 else 0)) + (if g = true then 2 ^ 5 else 0)) + (if h = true then 2 ^ 6 else 0)) + (if i = true then 2 ^ 7 else 0)))) = (((((((0 + (if a = true then 1 else 0)) + (if b = true then 1 else 0)) + (if c = true then 1 else 0)) + (if d = true then 1 else 0)) + (if e = true then 1 else 0)) + (if g = true then 1 else 0)) + (if h = true then 1 else 0)) + (if i = true then 1 else 0) := by decide +kernel
  exact key (f 0) (f 1) (f 2) (f 3) (f 4) (f 5) (f 6) (f 7)
/-- the whole of it -/
def by_all (x : Nat) : Nat :=
  let a := x - ((x / 2) &&& 6148914691236517205)
  let b := (a &&& 3689348814741910323) + ((a / 4) &&& 3689348814741910323)
  (b + b / 16) &&& 1085102592571150095
theorem by_sum (l : List Nat) (hl : l.length = 8) (h : ∀ b ∈ l, b < 256) : by_all (byv l) = byv (l.map fun b => by3 (by2 (by1 b))) := by
  have e1 := by_s1 l h
  have e2 := by_s2 (l.map by1) (fun b hb => by
    obtain ⟨c, hc, rfl⟩ := List.mem_map.mp hb
    exact (by_12 c (h c hc)).1)
  have e3 := by_s3 ((l.map by1).map by2) (fun b hb => by
    obtain ⟨c, hc, rfl⟩ := List.mem_map.mp hb
    obtain ⟨d, hd, rfl⟩ := List.mem_map.mp hc
    obtain ⟨-, z1, z2, z3, -⟩ := by_12 d (h d hd)
    exact ⟨z1, z2, z3⟩)
  simp only [List.length_map, hl] at e1 e2 e3
  unfold by_all
  rw [show (6148914691236517205 : Nat) = byc 85 8 from by decide +kernel, show (3689348814741910323 : Nat) = byc 51 8 from by decide +kernel, show (1085102592571150095 : Nat) = byc 15 8 from by decide +kernel]
  dsimp only
  rw [e1.2, e2, e3.2, List.map_map, List.map_map]
  rfl
theorem bits_add (f : Nat → Bool) (a : Nat) : ∀ b, bits f (a + b) = bits f a + 2 ^ a * bits (fun i => f (a + i)) b := by
  intro b
  induction b with
  | zero => simp [bits]
  | succ b ih =>
    rw [show a + (b + 1) = (a + b) + 1 by omega]
    simp only [bits, ih, Nat.mul_add, Nat.pow_add]
    split <;> omega
theorem cntB_add (f : Nat → Bool) (a : Nat) : ∀ b, cntB f (a + b) = cntB f a + cntB (fun i => f (a + i)) b := by
  intro b
  induction b with
  | zero => simp [cntB]
  | succ b ih =>
    rw [show a + (b + 1) = (a + b) + 1 by omega]
    simp only [cntB, ih]
    split <;> omega
theorem cntB_le (f : Nat → Bool) : ∀ m, cntB f m ≤ m := by
  intro m
  induction m with
  | zero => exact Nat.le_refl 0
  | succ m ih => simp only [cntB]; split <;> omega
theorem cntB_more {f : Nat → Bool} {a : Nat} (h : ∀ i, a ≤ i → f i = false) : ∀ b, cntB f (a + b) = cntB f a := by
  intro b
  induction b with
  | zero => rfl
  | succ b ih =>
    rw [show a + (b + 1) = (a + b) + 1 by omega]
    simp only [cntB, h (a + b) (by omega), Bool.false_eq_true, ↓reduceIte, ih, Nat.add_zero]
theorem cntB_congr {f g : Nat → Bool} {m : Nat} (h : ∀ i, i < m → f i = g i) : cntB f m = cntB g m := by
  induction m with
  | zero => rfl
  | succ m ih => simp only [cntB, ih fun i hi => h i (by omega), h m (by omega)]
/-- eight bytes -/
theorem bits_by (f : Nat → Bool) : bits f 64 = byv [bits f 8, bits (fun i => f (8 + i)) 8, bits (fun i => f (16 + i)) 8, bits (fun i => f (24 + i)) 8, bits (fun i => f (32 + i)) 8, bits (fun i => f (40 + i)) 8, bits (fun i => f (48 + i)) 8, bits (fun i => f (56 + i)) 8] := by
  rw [show (64 : Nat) = 56 + 8 from rfl, bits_add f 56, show (56 : Nat) = 48 + 8 from rfl, bits_add f 48, show (48 : Nat) = 40 + 8 from rfl, bits_add f 40, show (40 : Nat) = 32 + 8 from rfl, bits_add f 32, show (32 : Nat) = 24 + 8 from rfl, bits_add f 24, show (24 : Nat) = 16 + 8 from rfl, bits_add f 16, show (16 : Nat) = 8 + 8 from rfl, bits_add f 8]
  simp only [byv, Nat.reduceAdd, Nat.reducePow]
  omega
theorem cntB_by (f : Nat → Bool) : cntB f 64 = cntB f 8 + cntB (fun i => f (8 + i)) 8 + cntB (fun i => f (16 + i)) 8 + cntB (fun i => f (24 + i)) 8 + cntB (fun i => f (32 + i)) 8 + cntB (fun i => f (40 + i)) 8 + cntB (fun i => f (48 + i)) 8 + cntB (fun i => f (56 + i)) 8 := by
  rw [show (64 : Nat) = 56 + 8 from rfl, cntB_add f 56, show (56 : Nat) = 48 + 8 from rfl, cntB_add f 48, show (48 : Nat) = 40 + 8 from rfl, cntB_add f 40, show (40 : Nat) = 32 + 8 from rfl, cntB_add f 32, show (32 : Nat) = 24 + 8 from rfl, cntB_add f 24, show (24 : Nat) = 16 + 8 from rfl, cntB_add f 16, show (16 : Nat) = 8 + 8 from rfl, cntB_add f 8]
theorem bits_lt8 (f : Nat → Bool) : bits f 8 < 256 := bits_lt f 8
theorem by_bits (f : Nat → Bool) : ∃ p0 p1 p2 p3 p4 p5 p6 p7 : Nat, by_all (bits f 64) = p0 + 256 * (p1 + 256 * (p2 + 256 * (p3 + 256 * (p4 + 256 * (p5 + 256 * (p6 + 256 * p7)))))) ∧ p0 ≤ 8 ∧ p1 ≤ 8 ∧ p2 ≤ 8 ∧ p3 ≤ 8 ∧ p4 ≤ 8 ∧ p5 ≤ 8 ∧ p6 ≤ 8 ∧ p7 ≤ 8 ∧ cntB f 64 = p0 + p1 + p2 + p3 + p4 + p5 + p6 + p7 := by
  refine ⟨_, _, _, _, _, _, _, _, ?_, cntB_le _ 8, cntB_le _ 8, cntB_le _ 8, cntB_le _ 8, cntB_le _ 8, cntB_le _ 8, cntB_le _ 8, cntB_le _ 8, cntB_by f⟩
  rw [bits_by, by_sum _ rfl (fun b hb => by
    simp only [List.mem_cons, List.not_mem_nil, or_false] at hb
    rcases hb with rfl | rfl | rfl | rfl | rfl | rfl | rfl | rfl <;> exact bits_lt8 _)]
  simp only [List.map_cons, List.map_nil, by_pc, byv, Nat.mul_zero, Nat.add_zero]
theorem l_and_c {a b : Nat} {c : Int} (ha : a < 9223372036854775808) (hb : b < 9223372036854775808) (hc : c = (b : Int)) : l_and (a : Int) c = ((a &&& b : Nat) : Int) := by rw [hc]; exact l_and_n ha hb
theorem l_ush_c {a t : Nat} {c : Int} (ha : a < 9223372036854775808) (ht : t < 64) (hc : c = (t : Int)) : l_ush (a : Int) c = ((a / 2 ^ t : Nat) : Int) := by rw [hc, l_ush_n ha ht, Nat.shiftRight_eq_div_pow]

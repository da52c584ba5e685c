/-! Bits of whole numbers: our operations over the naturals. -/
theorem bv32 {b : BitVec 32} (h : b.toNat < 2147483648) : b.toInt = (b.toNat : Int) := BitVec.toInt_eq_toNat_of_lt (by omega)
theorem bv64 {b : BitVec 64} (h : b.toNat < 9223372036854775808) : b.toInt = (b.toNat : Int) := BitVec.toInt_eq_toNat_of_lt (by omega)
theorem of32 {a : Nat} (h : a < 2147483648) : (Int32.ofInt (a : Int)).toBitVec.toNat = a := by
  rw [Int32.toBitVec_ofInt, BitVec.toNat_ofInt]
  omega
theorem of64 {a : Nat} (h : a < 9223372036854775808) : (Int64.ofInt (a : Int)).toBitVec.toNat = a := by
  rw [Int64.toBitVec_ofInt, BitVec.toNat_ofInt]
  omega
theorem i_and_n {a b : Nat} (ha : a < 2147483648) (hb : b < 2147483648) : i_and (a : Int) (b : Int) = ((a &&& b : Nat) : Int) := by
  unfold i_and
  show (Int32.ofInt (a : Int) &&& Int32.ofInt (b : Int)).toBitVec.toInt = _
  have h1 : a &&& b ≤ a := Nat.and_le_left
  rw [Int32.toBitVec_and, bv32, BitVec.toNat_and, of32 ha, of32 hb]
  rw [BitVec.toNat_and, of32 ha, of32 hb]
  omega
theorem i_or_n {a b : Nat} (ha : a < 2147483648) (hb : b < 2147483648) : i_or (a : Int) (b : Int) = ((a ||| b : Nat) : Int) := by
  unfold i_or
  show (Int32.ofInt (a : Int) ||| Int32.ofInt (b : Int)).toBitVec.toInt = _
  have h1 : a ||| b < 2 ^ 31 := Nat.or_lt_two_pow (by omega) (by omega)
  rw [Int32.toBitVec_or, bv32, BitVec.toNat_or, of32 ha, of32 hb]
  rw [BitVec.toNat_or, of32 ha, of32 hb]
  omega
theorem l_and_n {a b : Nat} (ha : a < 9223372036854775808) (hb : b < 9223372036854775808) : l_and (a : Int) (b : Int) = ((a &&& b : Nat) : Int) := by
  unfold l_and
  show (Int64.ofInt (a : Int) &&& Int64.ofInt (b : Int)).toBitVec.toInt = _
  have h1 : a &&& b ≤ a := Nat.and_le_left
  rw [Int64.toBitVec_and, bv64, BitVec.toNat_and, of64 ha, of64 hb]
  rw [BitVec.toNat_and, of64 ha, of64 hb]
  omega
theorem l_or_n {a b : Nat} (ha : a < 9223372036854775808) (hb : b < 9223372036854775808) : l_or (a : Int) (b : Int) = ((a ||| b : Nat) : Int) := by
  unfold l_or
  show (Int64.ofInt (a : Int) ||| Int64.ofInt (b : Int)).toBitVec.toInt = _
  have h1 : a ||| b < 2 ^ 63 := Nat.or_lt_two_pow (by omega) (by omega)
  rw [Int64.toBitVec_or, bv64, BitVec.toNat_or, of64 ha, of64 hb]
  rw [BitVec.toNat_or, of64 ha, of64 hb]
  omega
theorem l_ush_n {a t : Nat} (ha : a < 9223372036854775808) (ht : t < 64) : l_ush (a : Int) (t : Int) = ((a >>> t : Nat) : Int) := by
  unfold l_ush
  have h1 : a >>> t ≤ a := by rw [Nat.shiftRight_eq_div_pow]; exact Nat.div_le_self _ _
  have key : ∀ t, t < 64 → ((Int32.ofInt ((t : Nat) : Int)).toInt64.toUInt64 &&& Int64.toUInt64 63).toNat % 64 = t := by decide +kernel
  have e : (((Int64.ofInt (a : Int)).toUInt64 >>> ((Int32.ofInt (t : Int)).toInt64.toUInt64 &&& Int64.toUInt64 63)).toInt64).toBitVec.toNat = a >>> t := by
    show ((Int64.ofInt (a : Int)).toUInt64 >>> ((Int32.ofInt (t : Int)).toInt64.toUInt64 &&& Int64.toUInt64 63)).toNat = a >>> t
    rw [UInt64.toNat_shiftRight, key t ht]
    show (Int64.ofInt (a : Int)).toBitVec.toNat >>> t = _
    rw [of64 ha]
  show (((Int64.ofInt (a : Int)).toUInt64 >>> ((Int32.ofInt (t : Int)).toInt64.toUInt64 &&& Int64.toUInt64 63)).toInt64).toBitVec.toInt = _
  rw [bv64 (by rw [e]; omega), e]
theorem i_ush_n {a t : Nat} (ha : a < 2147483648) (ht : t < 32) : i_ush (a : Int) (t : Int) = ((a >>> t : Nat) : Int) := by
  unfold i_ush
  have h1 : a >>> t ≤ a := by rw [Nat.shiftRight_eq_div_pow]; exact Nat.div_le_self _ _
  have key : ∀ t, t < 32 → ((Int32.ofInt ((t : Nat) : Int)).toUInt32 &&& Int32.toUInt32 31).toNat % 32 = t := by decide +kernel
  have e : (((Int32.ofInt (a : Int)).toUInt32 >>> ((Int32.ofInt (t : Int)).toUInt32 &&& Int32.toUInt32 31)).toInt32).toBitVec.toNat = a >>> t := by
    show ((Int32.ofInt (a : Int)).toUInt32 >>> ((Int32.ofInt (t : Int)).toUInt32 &&& Int32.toUInt32 31)).toNat = a >>> t
    rw [UInt32.toNat_shiftRight, key t ht]
    show (Int32.ofInt (a : Int)).toBitVec.toNat >>> t = _
    rw [of32 ha]
  show (((Int32.ofInt (a : Int)).toUInt32 >>> ((Int32.ofInt (t : Int)).toUInt32 &&& Int32.toUInt32 31)).toInt32).toBitVec.toInt = _
  rw [bv32 (by rw [e]; omega), e]
theorem i_shr_n {a t : Nat} (ha : a < 2147483648) (ht : t < 32) : i_shr (a : Int) (t : Int) = ((a >>> t : Nat) : Int) := by
  unfold i_shr
  have key : ∀ t, t < 32 → (Int32.ofInt ((t : Nat) : Int) &&& 31) = Int32.ofNat t ∧ (Int32.ofNat t).toBitVec.smod 32 = BitVec.ofNat 32 t := by decide +kernel
  obtain ⟨k1, k2⟩ := key t ht
  show (Int32.ofInt (a : Int) >>> (Int32.ofInt (t : Int) &&& 31)).toBitVec.toInt = _
  rw [k1]
  have e : (Int32.ofInt (a : Int) >>> Int32.ofNat t).toBitVec = (Int32.ofInt (a : Int)).toBitVec.sshiftRight' ((Int32.ofNat t).toBitVec.smod 32) := by simp
  rw [e, k2, BitVec.toInt_sshiftRight', bv32 (by rw [of32 ha]; exact ha), of32 ha]
  have : (BitVec.ofNat 32 t).toNat = t := by simp; omega
  rw [this]
  rfl
theorem i_shl1 : ∀ t : Nat, t < 31 → i_shl 1 (t : Int) = ((2 ^ t : Nat) : Int) := by decide +kernel
theorem l_shl1 : ∀ t : Nat, t < 63 → l_shl 1 (t : Int) = ((2 ^ t : Nat) : Int) := by decide +kernel
/-- ~ of a long, and'ed -/
theorem l_andn {a b : Nat} (ha : a < 9223372036854775808) (hb : b < 9223372036854775808) : l_and (a : Int) (l_xor (b : Int) (-1)) = ((a ^^^ (a &&& b) : Nat) : Int) := by
  have hx : l_xor (b : Int) (-1) = (Int64.ofInt (b : Int) ^^^ Int64.ofInt (-1)).toInt := rfl
  unfold l_and
  rw [hx, Int64.ofInt_toInt]
  show (Int64.ofInt (a : Int) &&& (Int64.ofInt (b : Int) ^^^ Int64.ofInt (-1))).toBitVec.toInt = _
  have e : (Int64.ofInt (a : Int) &&& (Int64.ofInt (b : Int) ^^^ Int64.ofInt (-1))).toBitVec.toNat = a ^^^ (a &&& b) := by
    apply Nat.eq_of_testBit_eq
    intro i
    rw [Int64.toBitVec_and, Int64.toBitVec_xor, BitVec.toNat_and, BitVec.toNat_xor, of64 ha, of64 hb]
    have em : (Int64.ofInt (-1)).toBitVec.toNat = 2 ^ 64 - 1 := by decide
    rw [em, Nat.testBit_and, Nat.testBit_xor, Nat.testBit_xor, Nat.testBit_and, Nat.testBit_two_pow_sub_one]
    by_cases hi : i < 64
    · simp only [hi, decide_true]
      cases a.testBit i <;> cases b.testBit i <;> rfl
    · have : a.testBit i = false := Nat.testBit_lt_two_pow (Nat.lt_of_lt_of_le ha (by rw [show 9223372036854775808 = 2 ^ 63 by decide]; exact Nat.pow_le_pow_right (by decide) (by omega)))
      rw [this]; simp
  have h1 : a ^^^ (a &&& b) < 2 ^ 63 := Nat.xor_lt_two_pow (by omega) (Nat.lt_of_le_of_lt Nat.and_le_left (by omega))
  rw [bv64 (by rw [e]; omega), e]
theorem i_andn {a b : Nat} (ha : a < 2147483648) (hb : b < 2147483648) : i_and (a : Int) (i_xor (b : Int) (-1)) = ((a ^^^ (a &&& b) : Nat) : Int) := by
  have hx : i_xor (b : Int) (-1) = (Int32.ofInt (b : Int) ^^^ Int32.ofInt (-1)).toInt := rfl
  unfold i_and
  rw [hx, Int32.ofInt_toInt]
  show (Int32.ofInt (a : Int) &&& (Int32.ofInt (b : Int) ^^^ Int32.ofInt (-1))).toBitVec.toInt = _
  have e : (Int32.ofInt (a : Int) &&& (Int32.ofInt (b : Int) ^^^ Int32.ofInt (-1))).toBitVec.toNat = a ^^^ (a &&& b) := by
    apply Nat.eq_of_testBit_eq
    intro i
    rw [Int32.toBitVec_and, Int32.toBitVec_xor, BitVec.toNat_and, BitVec.toNat_xor, of32 ha, of32 hb]
    have em : (Int32.ofInt (-1)).toBitVec.toNat = 2 ^ 32 - 1 := by decide
    rw [em, Nat.testBit_and, Nat.testBit_xor, Nat.testBit_xor, Nat.testBit_and, Nat.testBit_two_pow_sub_one]
    by_cases hi : i < 32
    · simp only [hi, decide_true]
      cases a.testBit i <;> cases b.testBit i <;> rfl
    · have : a.testBit i = false := Nat.testBit_lt_two_pow (Nat.lt_of_lt_of_le ha (by rw [show 2147483648 = 2 ^ 31 by decide]; exact Nat.pow_le_pow_right (by decide) (by omega)))
      rw [this]; simp
  have h1 : a ^^^ (a &&& b) < 2 ^ 31 := Nat.xor_lt_two_pow (by omega) (Nat.lt_of_le_of_lt Nat.and_le_left (by omega))
  rw [bv32 (by rw [e]; omega), e]
/-- a bit asked -/
theorem i_bit {a t : Nat} (ha : a < 2147483648) (ht : t < 31) : i_and (i_shr (a : Int) (t : Int)) 1 = bI (a.testBit t) := by
  have h1 : a >>> t ≤ a := by rw [Nat.shiftRight_eq_div_pow]; exact Nat.div_le_self _ _
  rw [i_shr_n ha (by omega), show (1 : Int) = ((1 : Nat) : Int) from rfl, i_and_n (by omega) (by decide)]
  unfold Nat.testBit bI
  rw [Nat.and_comm 1, Nat.and_one_is_mod]
  rcases Nat.mod_two_eq_zero_or_one (a >>> t) with h | h <;> simp [h]
theorem l_bit {a t : Nat} (ha : a < 9223372036854775808) (ht : t < 64) : l_and (l_ush (a : Int) (t : Int)) 1 = bI (a.testBit t) := by
  have h1 : a >>> t ≤ a := by rw [Nat.shiftRight_eq_div_pow]; exact Nat.div_le_self _ _
  rw [l_ush_n ha ht, show (1 : Int) = ((1 : Nat) : Int) from rfl, l_and_n (by omega) (by decide)]
  unfold Nat.testBit bI
  rw [Nat.and_comm 1, Nat.and_one_is_mod]
  rcases Nat.mod_two_eq_zero_or_one (a >>> t) with h | h <;> simp [h]
theorem l_cmp0 (b : Bool) : (l_cmp (bI b) 0 = 0) = (b = false) := by cases b <;> simp [bI, l_cmp]
/-- sets by their bits -/
def bits (f : Nat → Bool) : Nat → Nat
  | 0 => 0
  | m + 1 => bits f m + (if f m = true then 2 ^ m else 0)
theorem bits_lt (f : Nat → Bool) : ∀ m, bits f m < 2 ^ m := by
  intro m
  induction m with
  | zero => simp [bits]
  | succ m ih =>
    have e : 2 ^ (m + 1) = 2 ^ m + 2 ^ m := by rw [Nat.pow_succ]; omega
    simp only [bits]
    split <;> omega
theorem bits_tb (f : Nat → Bool) : ∀ m i, (bits f m).testBit i = (decide (i < m) && f i) := by
  intro m
  induction m with
  | zero => intro i; simp [bits]
  | succ m ih =>
    intro i
    simp only [bits]
    have hl := bits_lt f m
    split
    · rename_i h
      rw [Nat.add_comm]
      by_cases hi : i = m
      · subst hi
        rw [Nat.testBit_two_pow_add_eq, ih]
        simp [h]
      · by_cases hlt : i < m
        · rw [Nat.testBit_two_pow_add_gt hlt, ih]
          simp [hlt, Nat.lt_succ_of_lt hlt]
        · have : (2 ^ m + bits f m).testBit i = false := Nat.testBit_lt_two_pow (Nat.lt_of_lt_of_le (by have e : 2 ^ (m + 1) = 2 ^ m + 2 ^ m := by { rw [Nat.pow_succ]; omega }; rw [e]; omega : 2 ^ m + bits f m < 2 ^ (m + 1)) (Nat.pow_le_pow_right (by decide) (by omega)))
          rw [this]
          have h1 : ¬ i < m + 1 := by omega
          simp [h1]
    · rename_i h
      rw [Nat.add_zero, ih]
      by_cases hi : i = m
      · subst hi; simp [h]
      · have : (i < m + 1) = (i < m) := by apply propext; omega
        simp [this]
theorem bits_ext {x : Nat} {f : Nat → Bool} {m : Nat} (h : ∀ i, x.testBit i = (decide (i < m) && f i)) : x = bits f m := Nat.eq_of_testBit_eq fun i => by rw [h, bits_tb]
theorem bits_congr {f g : Nat → Bool} {m : Nat} (h : ∀ i, i < m → f i = g i) : bits f m = bits g m := by
  apply bits_ext
  intro i
  rw [bits_tb]
  by_cases hi : i < m
  · simp [hi, h i hi]
  · simp [hi]
theorem bits_or1 (f : Nat → Bool) {m t : Nat} (ht : t < m) : bits f m ||| 2 ^ t = bits (fun i => f i || decide (i = t)) m := by
  apply bits_ext
  intro i
  rw [Nat.testBit_or, bits_tb, Nat.testBit_two_pow]
  by_cases hi : i < m
  · simp [hi, eq_comm]
  · have : t ≠ i := by omega
    simp [hi, this]
theorem bits_clr (f : Nat → Bool) {m t : Nat} : bits f m ^^^ (bits f m &&& 2 ^ t) = bits (fun i => f i && !decide (i = t)) m := by
  apply bits_ext
  intro i
  rw [Nat.testBit_xor, Nat.testBit_and, bits_tb, Nat.testBit_two_pow]
  by_cases hi : i < m
  · by_cases h2 : t = i
    · subst h2; cases f t <;> simp [hi]
    · have : i ≠ t := fun z => h2 z.symm
      cases f i <;> simp [hi, h2, this]
  · simp [hi]
theorem bits_or (f g : Nat → Bool) (m : Nat) : bits f m ||| bits g m = bits (fun i => f i || g i) m := by
  apply bits_ext
  intro i
  rw [Nat.testBit_or, bits_tb, bits_tb]
  cases decide (i < m) <;> simp
/-- how many bits are set -/
def cntB (f : Nat → Bool) : Nat → Nat
  | 0 => 0
  | m + 1 => cntB f m + (if f m = true then 1 else 0)

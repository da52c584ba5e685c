/-! A machine of our own, over whole numbers: values, cells by numbers, a step, a run with fuel, and its value Rn. -/
abbrev am_V : Type := Int ⊕ Int ⊕ Option Nat ⊕ Bool
abbrev vI (i : Int) : am_V := .inl i
abbrev vL (i : Int) : am_V := .inr (.inl i)
abbrev vR (o : Option Nat) : am_V := .inr (.inr (.inl o))
abbrev vB (b : Bool) : am_V := .inr (.inr (.inr b))
/-- the cells' kinds and sizes; the references that they hold; the script's length and its ints -/
abbrev am_E : Type := List (Nat × Nat) × (Nat → Nat → Option Nat) × Nat × (Nat → Int)
abbrev am_M : Type := Nat → Nat → Int
def am_up (u : am_M) (k j : Nat) (v : Int) : am_M := fun k' j' => if k' = k ∧ j' = j then v else u k' j'
def am_rp (r : Nat → Nat → Option Nat) (k j : Nat) (v : Option Nat) : Nat → Nat → Option Nat := fun k' j' => if k' = k ∧ j' = j then v else r k' j'
def am_zr (u : am_M) (k : Nat) : am_M := fun k' j' => if k' = k then 0 else u k' j'
def am_zq (r : Nat → Nat → Option Nat) (k : Nat) : Nat → Nat → Option Nat := fun k' j' => if k' = k then none else r k' j'
def am_cp (u : am_M) (a i b j n : Nat) : am_M := fun k' j' => if k' = b ∧ j ≤ j' ∧ j' < j + n then u a (i + (j' - j)) else u k' j'
def w32 (i : Int) : Int := (i + 2147483648) % 4294967296 - 2147483648
def w64 (i : Int) : Int := (i + 9223372036854775808) % 18446744073709551616 - 9223372036854775808
def w8 (i : Int) : Int := (i + 128) % 256 - 128
def w16 (i : Int) : Int := (i + 32768) % 65536 - 32768
def i_and (a b : Int) : Int := (Int32.ofInt a &&& Int32.ofInt b).toInt
def i_or (a b : Int) : Int := (Int32.ofInt a ||| Int32.ofInt b).toInt
def i_xor (a b : Int) : Int := (Int32.ofInt a ^^^ Int32.ofInt b).toInt
def i_shl (a b : Int) : Int := (Int32.ofInt a <<< (Int32.ofInt b &&& 31)).toInt
def i_shr (a b : Int) : Int := (Int32.ofInt a >>> (Int32.ofInt b &&& 31)).toInt
def i_ush (a b : Int) : Int := ((Int32.ofInt a).toUInt32 >>> ((Int32.ofInt b).toUInt32 &&& Int32.toUInt32 31)).toInt32.toInt
def l_and (a b : Int) : Int := (Int64.ofInt a &&& Int64.ofInt b).toInt
def l_or (a b : Int) : Int := (Int64.ofInt a ||| Int64.ofInt b).toInt
def l_xor (a b : Int) : Int := (Int64.ofInt a ^^^ Int64.ofInt b).toInt
def l_shl (a b : Int) : Int := (Int64.ofInt a <<< ((Int32.ofInt b).toInt64 &&& 63)).toInt
def l_shr (a b : Int) : Int := (Int64.ofInt a >>> ((Int32.ofInt b).toInt64 &&& 63)).toInt
def l_ush (a b : Int) : Int := ((Int64.ofInt a).toUInt64 >>> ((Int32.ofInt b).toInt64.toUInt64 &&& Int64.toUInt64 63)).toInt64.toInt
def l_cmp (a b : Int) : Int := if a < b then -1 else if a = b then 0 else 1
def am_isL (v : am_V) : Bool := match v with
  | .inr (.inl _) => true
  | _ => false
def am_fx (v : am_V) : am_V := match v with
  | .inr (.inl _) => .inr (.inr (.inr false))
  | w => w
/-- a local written: a long that the one before held is no more -/
def am_st : List am_V → Nat → am_V → List am_V
  | [], _, _ => []
  | _ :: l, 0, v => v :: l
  | a :: b :: l, 1, v => am_fx a :: v :: l
  | a :: l, n + 1, v => a :: am_st l n v
def am_st2 (ls : List am_V) (n : Nat) (v : am_V) : List am_V := (am_st ls n v).set (n + 1) (vB false)
def am_sl (l : List am_V) : List am_V := l.flatMap fun v => if am_isL v = true then [v, vB false] else [v]
def am_ent (n : Nat) (l : List am_V) : List am_V := am_sl l ++ List.replicate (n - (am_sl l).length) (vB false)
/-- a field's type by class and place: 0 an int, 1 a long, 2 a reference, 3 a boolean -/
abbrev am_F : Type := Nat → Nat → Nat
def am_len (t : Nat) (E : am_E) (k : Nat) : Int := match E.1[k]? with
  | some (t', n) => if t' = t then (n : Int) else 0
  | none => 0
def am_kn (E : am_E) (k : Nat) : Nat := match E.1[k]? with
  | some (t, _) => t
  | none => 99
def am_size (E : am_E) (k : Nat) : Option Nat := match E.1[k]? with
  | some (t, n) => if 10 ≤ t then some n else none
  | none => none
abbrev am_N : Type := Nat × List am_V × List am_V × am_E × am_M
abbrev am_O : Type := Option (am_N ⊕ Option am_V ⊕ (Nat × List am_V × List am_V))
def am_c1 (c : Jvm.ClassFile.Cond) (a : Int) : Bool := match c with
  | .eq => decide (a = 0)
  | .ne => decide (a ≠ 0)
  | .lt => decide (a < 0)
  | .ge => decide (0 ≤ a)
  | .gt => decide (0 < a)
  | .le => decide (a ≤ 0)
def am_c2 (c : Jvm.ClassFile.Cond) (a b : Int) : Bool := match c with
  | .eq => decide (a = b)
  | .ne => decide (a ≠ b)
  | .lt => decide (a < b)
  | .ge => decide (b ≤ a)
  | .gt => decide (b < a)
  | .le => decide (a ≤ b)
def am_nx (pc len : Nat) (ls st : List am_V) (E : am_E) (u : am_M) : am_O := some (.inl (pc + len, ls, st, E, u))
def am_jp (pc : Nat) (off : Int) (ls st : List am_V) (E : am_E) (u : am_M) : am_O := if 0 ≤ (pc : Int) + off then some (.inl (((pc : Int) + off).toNat, ls, st, E, u)) else none
def am_br (b : Bool) (x y : am_O) : am_O := if b = true then x else y
def am_load (v : Option am_V) (t : Nat) (k : am_V → am_O) : am_O := match v, t with
  | some (.inl i), 0 => k (.inl i)
  | some (.inr (.inl i)), 1 => k (.inr (.inl i))
  | some (.inr (.inr (.inl o))), 2 => k (.inr (.inr (.inl o)))
  | some (.inr (.inr (.inr true))), 2 => k (.inr (.inr (.inr true)))
  | _, _ => none
def am_isA (v : am_V) : Bool := match v with
  | .inr (.inr (.inl _)) => true
  | .inr (.inr (.inr true)) => true
  | _ => false
/-- a call's number n of arguments off the stack -/
def am_call (M n : Nat) (st : List am_V) (v : am_V → List am_V → Bool) : am_O :=
  if (st.drop n).length ≤ 4 ∧ n ≤ st.length ∧ v ((st.take n).getLast?.getD (vB false)) st = true then some (.inr (.inr (M, (st.take n).reverse, st.drop n))) else none
def am_recv (E : am_E) (ci N : Nat) (v : am_V) : Bool := match v with
  | .inr (.inr (.inl (some k))) => decide (E.1[k]? = some (ci, N))
  | _ => false
def am_tail (st : List am_V) (n : Nat) : Bool := decide ((st.drop n).length ≤ 4 ∧ n ≤ st.length)
/-- one instruction; x: what the tables say of it beside its code (fields: the class's number, how many fields it has, the place; calls: 0 Object's, 1 arraycopy, 4 max, 5 min, 2 static, 3 of an object, then the method's number, how many values, the class's number, its fields) -/
def am_step (F : am_F) (ins : Instr) (x : List Nat) (v0 : Int) (pc len : Nat) (ls st : List am_V) (E : am_E) (u : am_M) : am_O :=
  match ins with
  | .aconst_null => am_nx pc len ls (vR none :: st) E u
  | .iconst n => am_nx pc len ls (vI (w32 n) :: st) E u
  | .bipush n => am_nx pc len ls (vI ((Int8.ofInt n).toInt) :: st) E u
  | .sipush n => am_nx pc len ls (vI ((Int16.ofInt n).toInt) :: st) E u
  | .lconst n => am_nx pc len ls (vL ((n : Nat) : Int) :: st) E u
  | .ldc _ => am_nx pc len ls (vI (w32 v0) :: st) E u
  | .ldc_w _ => am_nx pc len ls (vI (w32 v0) :: st) E u
  | .ldc2_w _ => am_nx pc len ls (vL (w64 v0) :: st) E u
  | .iload n => am_load ls[n]? 0 fun v => am_nx pc len ls (v :: st) E u
  | .iload_n n => am_load ls[(n : Nat)]? 0 fun v => am_nx pc len ls (v :: st) E u
  | .lload n => am_load ls[n]? 1 fun v => am_nx pc len ls (v :: st) E u
  | .lload_n n => am_load ls[(n : Nat)]? 1 fun v => am_nx pc len ls (v :: st) E u
  | .aload n => am_load ls[n]? 2 fun v => am_nx pc len ls (v :: st) E u
  | .aload_n n => am_load ls[(n : Nat)]? 2 fun v => am_nx pc len ls (v :: st) E u
  | .istore n => match st with
    | .inl a :: st => if n < ls.length then am_nx pc len (am_st ls n (vI a)) st E u else none
    | _ => none
  | .istore_n n => match st with
    | .inl a :: st => if (n : Nat) < ls.length then am_nx pc len (am_st ls n (vI a)) st E u else none
    | _ => none
  | .lstore n => match st with
    | .inr (.inl a) :: st => if n + 1 < ls.length then am_nx pc len (am_st2 ls n (vL a)) st E u else none
    | _ => none
  | .lstore_n n => match st with
    | .inr (.inl a) :: st => if (n : Nat) + 1 < ls.length then am_nx pc len (am_st2 ls n (vL a)) st E u else none
    | _ => none
  | .astore n => match st with
    | v :: st => if n < ls.length ∧ am_isA v = true then am_nx pc len (am_st ls n v) st E u else none
    | _ => none
  | .astore_n n => match st with
    | v :: st => if (n : Nat) < ls.length ∧ am_isA v = true then am_nx pc len (am_st ls n v) st E u else none
    | _ => none
  | .iinc n c => match ls[n]? with
    | some (.inl i) => am_nx pc len (am_st ls n (vI (w32 (i + c)))) st E u
    | _ => none
  | .dup => match st with
    | v :: st => if am_isL v = true then none else am_nx pc len ls (v :: v :: st) E u
    | _ => none
  | .pop => match st with
    | v :: st => if am_isL v = true then none else am_nx pc len ls st E u
    | _ => none
  | .dup2 => match st with
    | v :: w :: st => if am_isL v = true ∨ am_isL w = true then none else am_nx pc len ls (v :: w :: v :: w :: st) E u
    | _ => none
  | .iadd => match st with
    | .inl b :: .inl a :: st => am_nx pc len ls (vI (w32 (a + b)) :: st) E u
    | _ => none
  | .isub => match st with
    | .inl b :: .inl a :: st => am_nx pc len ls (vI (w32 (a - b)) :: st) E u
    | _ => none
  | .imul => match st with
    | .inl b :: .inl a :: st => am_nx pc len ls (vI (w32 (a * b)) :: st) E u
    | _ => none
  | .idiv => match st with
    | .inl b :: .inl a :: st => if b = 0 then none else am_nx pc len ls (vI (w32 (a.tdiv b)) :: st) E u
    | _ => none
  | .irem => match st with
    | .inl b :: .inl a :: st => if b = 0 then none else am_nx pc len ls (vI (w32 (a.tmod b)) :: st) E u
    | _ => none
  | .ineg => match st with
    | .inl a :: st => am_nx pc len ls (vI (w32 (-a)) :: st) E u
    | _ => none
  | .iand => match st with
    | .inl b :: .inl a :: st => am_nx pc len ls (vI (i_and a b) :: st) E u
    | _ => none
  | .ior => match st with
    | .inl b :: .inl a :: st => am_nx pc len ls (vI (i_or a b) :: st) E u
    | _ => none
  | .ixor => match st with
    | .inl b :: .inl a :: st => am_nx pc len ls (vI (i_xor a b) :: st) E u
    | _ => none
  | .ishl => match st with
    | .inl b :: .inl a :: st => am_nx pc len ls (vI (i_shl a b) :: st) E u
    | _ => none
  | .ishr => match st with
    | .inl b :: .inl a :: st => am_nx pc len ls (vI (i_shr a b) :: st) E u
    | _ => none
  | .iushr => match st with
    | .inl b :: .inl a :: st => am_nx pc len ls (vI (i_ush a b) :: st) E u
    | _ => none
  | .ladd => match st with
    | .inr (.inl b) :: .inr (.inl a) :: st => am_nx pc len ls (vL (w64 (a + b)) :: st) E u
    | _ => none
  | .lsub => match st with
    | .inr (.inl b) :: .inr (.inl a) :: st => am_nx pc len ls (vL (w64 (a - b)) :: st) E u
    | _ => none
  | .lmul => match st with
    | .inr (.inl b) :: .inr (.inl a) :: st => am_nx pc len ls (vL (w64 (a * b)) :: st) E u
    | _ => none
  | .land => match st with
    | .inr (.inl b) :: .inr (.inl a) :: st => am_nx pc len ls (vL (l_and a b) :: st) E u
    | _ => none
  | .lor => match st with
    | .inr (.inl b) :: .inr (.inl a) :: st => am_nx pc len ls (vL (l_or a b) :: st) E u
    | _ => none
  | .lxor => match st with
    | .inr (.inl b) :: .inr (.inl a) :: st => am_nx pc len ls (vL (l_xor a b) :: st) E u
    | _ => none
  | .lcmp => match st with
    | .inr (.inl b) :: .inr (.inl a) :: st => am_nx pc len ls (vI (l_cmp a b) :: st) E u
    | _ => none
  | .lshl => match st with
    | .inl b :: .inr (.inl a) :: st => am_nx pc len ls (vL (l_shl a b) :: st) E u
    | _ => none
  | .lshr => match st with
    | .inl b :: .inr (.inl a) :: st => am_nx pc len ls (vL (l_shr a b) :: st) E u
    | _ => none
  | .lushr => match st with
    | .inl b :: .inr (.inl a) :: st => am_nx pc len ls (vL (l_ush a b) :: st) E u
    | _ => none
  | .i2l => match st with
    | .inl a :: st => am_nx pc len ls (vL a :: st) E u
    | _ => none
  | .l2i => match st with
    | .inr (.inl a) :: st => am_nx pc len ls (vI (w32 a) :: st) E u
    | _ => none
  | .i2b => match st with
    | .inl a :: st => am_nx pc len ls (vI (w8 a) :: st) E u
    | _ => none
  | .i2s => match st with
    | .inl a :: st => am_nx pc len ls (vI (w16 a) :: st) E u
    | _ => none
  | .ifCond c off => match st with
    | .inl a :: st => am_br (am_c1 c a) (am_jp pc off ls st E u) (am_nx pc len ls st E u)
    | _ => none
  | .if_icmp c off => match st with
    | .inl b :: .inl a :: st => am_br (am_c2 c a b) (am_jp pc off ls st E u) (am_nx pc len ls st E u)
    | _ => none
  | .ifnull off => match st with
    | .inr (.inr (.inl none)) :: st => am_jp pc off ls st E u
    | .inr (.inr (.inl (some _))) :: st => am_nx pc len ls st E u
    | _ => none
  | .ifnonnull off => match st with
    | .inr (.inr (.inl none)) :: st => am_nx pc len ls st E u
    | .inr (.inr (.inl (some _))) :: st => am_jp pc off ls st E u
    | _ => none
  | .goto off => am_jp pc off ls st E u
  | .tableswitch d lo hi offs => match st with
    | .inl a :: st => am_br (decide (a < lo ∨ hi < a)) (am_jp pc d ls st E u) (match offs[(a - lo).toNat]? with
      | some off => am_jp pc off ls st E u
      | none => none)
    | _ => none
  | .lookupswitch d ps => match st with
    | .inl a :: st => if (ps.toList.zip (ps.toList.drop 1)).all (fun (a, next) => a.1 < next.1) = true then am_jp pc (Op.lookupswitch.offset ps.toList d a) ls st E u else none
    | _ => none
  | .getfield _ => match st, x with
    | .inr (.inr (.inl (some k))) :: st, ci :: N :: j :: _ => if E.1[k]? = some (ci, N) then (match F ci j with
      | 1 => am_nx pc len ls (vL (u k j) :: st) E u
      | 2 => am_nx pc len ls (vR (E.2.1 k j) :: st) E u
      | _ => am_nx pc len ls (vI (u k j) :: st) E u) else none
    | _, _ => none
  | .putfield _ => match st, x with
    | v :: .inr (.inr (.inl (some k))) :: st, ci :: N :: j :: _ => if E.1[k]? = some (ci, N) then (match F ci j, v with
      | 0, .inl a => am_nx pc len ls st E (am_up u k j a)
      | 1, .inr (.inl a) => am_nx pc len ls st E (am_up u k j a)
      | 2, .inr (.inr (.inl o)) => am_nx pc len ls st (E.1, am_rp E.2.1 k j o, E.2.2) u
      | 3, .inl a => if a = 0 ∨ a = 1 then am_nx pc len ls st E (am_up u k j a) else none
      | _, _ => none) else none
    | _, _ => none
  | .iaload => match st with
    | .inl i :: .inr (.inr (.inl (some k))) :: st => if 0 ≤ i ∧ i < am_len 10 E k then am_nx pc len ls (vI (u k i.toNat) :: st) E u else none
    | .inl i :: .inr (.inr (.inr true)) :: st => if 0 ≤ i ∧ i < (E.2.2.1 : Int) then am_nx pc len ls (vI (E.2.2.2 i.toNat) :: st) E u else none
    | _ => none
  | .laload => match st with
    | .inl i :: .inr (.inr (.inl (some k))) :: st => if 0 ≤ i ∧ i < am_len 11 E k then am_nx pc len ls (vL (u k i.toNat) :: st) E u else none
    | _ => none
  | .aaload => match st with
    | .inl i :: .inr (.inr (.inl (some k))) :: st => if 0 ≤ i ∧ (i < am_len 12 E k ∨ i < am_len 13 E k) then am_nx pc len ls (vR (E.2.1 k i.toNat) :: st) E u else none
    | _ => none
  | .iastore => match st with
    | .inl v :: .inl i :: .inr (.inr (.inl (some k))) :: st => if 0 ≤ i ∧ i < am_len 10 E k then am_nx pc len ls st E (am_up u k i.toNat v) else none
    | _ => none
  | .lastore => match st with
    | .inr (.inl v) :: .inl i :: .inr (.inr (.inl (some k))) :: st => if 0 ≤ i ∧ i < am_len 11 E k then am_nx pc len ls st E (am_up u k i.toNat v) else none
    | _ => none
  | .aastore => match st with
    | .inr (.inr (.inl (some v))) :: .inl i :: .inr (.inr (.inl (some k))) :: st => if 0 ≤ i ∧ ((i < am_len 12 E k ∧ am_kn E v = 0) ∨ (i < am_len 13 E k ∧ am_kn E v = 2)) then am_nx pc len ls st (E.1, am_rp E.2.1 k i.toNat (some v), E.2.2) u else none
    | _ => none
  | .arraylength => match st with
    | .inr (.inr (.inl (some k))) :: st => (match am_size E k with
      | some n => am_nx pc len ls (vI (n : Int) :: st) E u
      | none => none)
    | .inr (.inr (.inr true)) :: st => am_nx pc len ls (vI (E.2.2.1 : Int) :: st) E u
    | _ => none
  | .new _ => match x with
    | ci :: N :: _ => am_nx pc len ls (vR (some E.1.length) :: st) (E.1 ++ [(ci, N)], am_zq E.2.1 E.1.length, E.2.2) (am_zr u E.1.length)
    | _ => none
  | .newarray t => match st, t with
    | .inl n :: st, .int => if 0 ≤ n ∧ n ≤ 10000 then am_nx pc len ls (vR (some E.1.length) :: st) (E.1 ++ [(10, n.toNat)], am_zq E.2.1 E.1.length, E.2.2) (am_zr u E.1.length) else none
    | .inl n :: st, .long => if 0 ≤ n ∧ n ≤ 10000 then am_nx pc len ls (vR (some E.1.length) :: st) (E.1 ++ [(11, n.toNat)], am_zq E.2.1 E.1.length, E.2.2) (am_zr u E.1.length) else none
    | _, _ => none
  | .anewarray _ => match st, x with
    | .inl n :: st, t :: _ => if 0 ≤ n ∧ n ≤ 10000 then am_nx pc len ls (vR (some E.1.length) :: st) (E.1 ++ [(t, n.toNat)], am_zq E.2.1 E.1.length, E.2.2) (am_zr u E.1.length) else none
    | _, _ => none
  | .invokespecial _ => match x with
    | 0 :: _ => (match st with
      | .inr (.inr (.inl (some _))) :: st => if st.length ≤ 4 then am_nx pc len ls st E u else none
      | _ => none)
    | 3 :: M :: n :: ci :: N :: _ => am_call M n st fun v _ => am_recv E ci N v
    | _ => none
  | .invokevirtual _ => match x with
    | 3 :: M :: n :: ci :: N :: _ => am_call M n st fun v _ => am_recv E ci N v
    | _ => none
  | .invokestatic _ => match x with
    | 1 :: _ => (match st with
      | .inl n :: .inl j :: .inr (.inr (.inl (some b))) :: .inl i :: .inr (.inr (.inl (some a))) :: st => if 0 ≤ n ∧ 0 ≤ i ∧ 0 ≤ j ∧ ((am_kn E a = 10 ∧ am_kn E b = 10 ∧ i + n ≤ am_len 10 E a ∧ j + n ≤ am_len 10 E b) ∨ (am_kn E a = 11 ∧ am_kn E b = 11 ∧ i + n ≤ am_len 11 E a ∧ j + n ≤ am_len 11 E b)) ∧ st.length ≤ 4 then am_nx pc len ls st E (am_cp u a i.toNat b j.toNat n.toNat) else none
      | _ => none)
    | 2 :: M :: n :: _ => am_call M n st fun _ _ => true
    | 4 :: _ => (match st with
      | .inl b :: .inl a :: st => if st.length ≤ 4 then am_nx pc len ls (vI (if a < b then b else a) :: st) E u else none
      | _ => none)
    | 5 :: _ => (match st with
      | .inl b :: .inl a :: st => if st.length ≤ 4 then am_nx pc len ls (vI (if b < a then b else a) :: st) E u else none
      | _ => none)
    | _ => none
  | .ireturn => match st with
    | [.inl a] => if x = [1] then (if a = 0 ∨ a = 1 then some (.inr (.inl (some (vI a)))) else none) else some (.inr (.inl (some (vI a))))
    | _ => none
  | .lreturn => match st with
    | [.inr (.inl a)] => some (.inr (.inl (some (vL a))))
    | _ => none
  | .areturn => match st with
    | [.inr (.inr (.inl o))] => some (.inr (.inl (some (vR o))))
    | _ => none
  | .return_ => match st with
    | [] => some (.inr (.inl none))
    | _ => none
  | _ => none
abbrev am_P : Type := Nat → Nat → Option (Instr × Nat × List Nat × Int)
abbrev am_Z : Type := Option (Option am_V × am_E × am_M)
def am_run (F : am_F) (P : am_P) (Lm : Nat → Nat) : Nat → Nat → Nat → List am_V → List am_V → am_E → am_M → am_Z
  | 0, _, _, _, _, _, _ => none
  | f + 1, M, pc, ls, st, E, u => match P M pc with
    | none => none
    | some (ins, len, x, v0) => match am_step F ins x v0 pc len ls st E u with
      | none => none
      | some (.inl (pc', ls', st', E', u')) => am_run F P Lm f M pc' ls' st' E' u'
      | some (.inr (.inl r)) => some (r, E, u)
      | some (.inr (.inr (M', a, st'))) => if (am_sl a).length ≤ Lm M' then (match am_run F P Lm f M' 0 (am_ent (Lm M') a) [] E u with
        | none => none
        | some (r, E', u') => am_run F P Lm f M (pc + len) ls (r.toList ++ st') E' u') else none
theorem am_run_mono (F : am_F) (P : am_P) (Lm : Nat → Nat) : ∀ (f M pc : Nat) (ls st : List am_V) (E : am_E) (u : am_M) (z : Option am_V × am_E × am_M), am_run F P Lm f M pc ls st E u = some z → ∀ g, f ≤ g → am_run F P Lm g M pc ls st E u = some z := by
  intro f
  induction f with
  | zero => intro M pc ls st E u z h; simp [am_run] at h
  | succ f ih =>
    intro M pc ls st E u z h g hg
    obtain ⟨g, rfl⟩ : ∃ g', g = g' + 1 := ⟨g - 1, by omega⟩
    have hg : f ≤ g := by omega
    simp only [am_run] at h ⊢
    cases hp : P M pc with
    | none => rw [hp] at h; cases h
    | some q =>
      obtain ⟨ins, len, x, v0⟩ := q
      rw [hp] at h
      dsimp only at h ⊢
      cases hs : am_step F ins x v0 pc len ls st E u with
      | none => rw [hs] at h; cases h
      | some o =>
        rw [hs] at h
        rcases o with ⟨pc', ls', st', E', u'⟩ | r | ⟨M', a, st'⟩
        · exact ih _ _ _ _ _ _ _ h g hg
        · exact h
        · dsimp only at h ⊢
          split at h
          · rename_i hlen
            rw [if_pos hlen]
            cases hc : am_run F P Lm f M' 0 (am_ent (Lm M') a) [] E u with
            | none => rw [hc] at h; cases h
            | some y =>
              obtain ⟨r, E', u'⟩ := y
              rw [hc] at h
              rw [ih _ _ _ _ _ _ _ hc g hg]
              exact ih _ _ _ _ _ _ _ h g hg
          · cases h

noncomputable def am_R (F : am_F) (P : am_P) (Lm : Nat → Nat) (M pc : Nat) (ls st : List am_V) (E : am_E) (u : am_M) : am_Z :=
  @dite am_Z (∃ z f, am_run F P Lm f M pc ls st E u = some z) (Classical.propDecidable _) (fun h => some (Classical.choose h)) (fun _ => none)
theorem am_R_some {F : am_F} {P : am_P} {Lm : Nat → Nat} {M pc : Nat} {ls st : List am_V} {E : am_E} {u : am_M} {z : Option am_V × am_E × am_M} : am_R F P Lm M pc ls st E u = some z ↔ ∃ f, am_run F P Lm f M pc ls st E u = some z := by
  unfold am_R
  constructor
  · intro h
    split at h
    · rename_i hh
      have h1 := Classical.choose_spec hh
      rw [Option.some.inj h] at h1
      exact h1
    · cases h
  · intro ⟨f, h⟩
    have hh : ∃ z f, am_run F P Lm f M pc ls st E u = some z := ⟨z, f, h⟩
    rw [dif_pos hh]
    obtain ⟨g, h1⟩ := Classical.choose_spec hh
    have h2 := am_run_mono F P Lm _ _ _ _ _ _ _ _ h (max f g) (by omega)
    have h3 := am_run_mono F P Lm _ _ _ _ _ _ _ _ h1 (max f g) (by omega)
    rw [h2] at h3
    exact h3.symm
theorem am_R_step {F : am_F} {P : am_P} {Lm : Nat → Nat} {M pc : Nat} {ls st : List am_V} {E : am_E} {u : am_M} {ins : Instr} {len : Nat} {x : List Nat} {v0 : Int} (hp : P M pc = some (ins, len, x, v0)) :
    am_R F P Lm M pc ls st E u = (match am_step F ins x v0 pc len ls st E u with
      | none => none
      | some (.inl (pc', ls', st', E', u')) => am_R F P Lm M pc' ls' st' E' u'
      | some (.inr (.inl r)) => some (r, E, u)
      | some (.inr (.inr (M', a, st'))) => if (am_sl a).length ≤ Lm M' then (am_R F P Lm M' 0 (am_ent (Lm M') a) [] E u).bind fun q => am_R F P Lm M (pc + len) ls (q.1.toList ++ st') q.2.1 q.2.2 else none) := by
  have ext : ∀ (a b : am_Z), (∀ z, a = some z ↔ b = some z) → a = b := by
    intro a b h
    cases a with
    | none =>
      cases b with
      | none => rfl
      | some y => exact absurd ((h y).mpr rfl) (by simp)
    | some x => exact ((h x).mp rfl).symm
  apply ext
  intro z
  rw [am_R_some]
  cases hs : am_step F ins x v0 pc len ls st E u with
  | none =>
    constructor
    · intro ⟨f, h⟩
      cases f with
      | zero => simp [am_run] at h
      | succ f => simp [am_run, hp, hs] at h
    · intro h; cases h
  | some o =>
    rcases o with ⟨pc', ls', st', E', u'⟩ | r | ⟨M', a, st'⟩
    · show _ ↔ am_R F P Lm M pc' ls' st' E' u' = some z
      rw [am_R_some]
      constructor
      · intro ⟨f, h⟩
        cases f with
        | zero => simp [am_run] at h
        | succ f => simp only [am_run, hp, hs] at h; exact ⟨f, h⟩
      · intro ⟨f, h⟩
        exact ⟨f + 1, by simp only [am_run, hp, hs]; exact h⟩
    · constructor
      · intro ⟨f, h⟩
        cases f with
        | zero => simp [am_run] at h
        | succ f => simp only [am_run, hp, hs] at h; exact h
      · intro h
        exact ⟨1, by simp only [am_run, hp, hs]; exact h⟩
    · show _ ↔ (if (am_sl a).length ≤ Lm M' then (am_R F P Lm M' 0 (am_ent (Lm M') a) [] E u).bind _ else none) = some z
      by_cases hlen : (am_sl a).length ≤ Lm M'
      · rw [if_pos hlen, Option.bind_eq_some_iff]
        constructor
        · intro ⟨f, h⟩
          cases f with
          | zero => simp [am_run] at h
          | succ f =>
            simp only [am_run, hp, hs] at h
            rw [if_pos hlen] at h
            cases hc : am_run F P Lm f M' 0 (am_ent (Lm M') a) [] E u with
            | none => rw [hc] at h; cases h
            | some y =>
              obtain ⟨r, E', u'⟩ := y
              rw [hc] at h
              exact ⟨(r, E', u'), am_R_some.mpr ⟨f, hc⟩, am_R_some.mpr ⟨f, h⟩⟩
        · intro ⟨⟨r, E', u'⟩, h1, h2⟩
          obtain ⟨f, h1⟩ := am_R_some.mp h1
          obtain ⟨g, h2⟩ := am_R_some.mp h2
          refine ⟨max f g + 1, ?_⟩
          simp only [am_run, hp, hs]
          rw [if_pos hlen, am_run_mono F P Lm _ _ _ _ _ _ _ _ h1 (max f g) (by omega)]
          exact am_run_mono F P Lm _ _ _ _ _ _ _ _ h2 (max f g) (by omega)
      · rw [if_neg hlen]
        constructor
        · intro ⟨f, h⟩
          cases f with
          | zero => simp [am_run] at h
          | succ f =>
            simp only [am_run, hp, hs] at h
            rw [if_neg hlen] at h
            cases h
        · intro h; cases h

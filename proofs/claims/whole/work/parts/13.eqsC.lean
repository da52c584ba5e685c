/-! Equations of our machine, an instruction each (WRITTEN by wip/whole/gen_eqs.py): x_: a method's, but for its loops' heads and cuts, which are h_ -/
theorem h_J_fillI_5 : ∀ (l0 l1 l3 : am_V) (a : Int) (st : List am_V) (E : am_E) (u : am_M), Rn m_J_fillI 5 [l0, l1, vI a, l3] st E u = Rn m_J_fillI 6 [l0, l1, vI a, l3] (vI a :: st) E u :=
  fun l0 l1 l3 a st E u => q_go (by decide +kernel : am_Pg 0 5 = some (.iload_n 2, 1, [], 0)) rfl
theorem x_J_fillI :
  (∀ (l0 l1 l2 l3 : am_V) (st : List am_V) (E : am_E) (u : am_M), Rn m_J_fillI 0 [l0, l1, l2, l3] st E u = Rn m_J_fillI 1 [l0, l1, l2, l3] (vI 0 :: st) E u) ∧
  (∀ (l0 l1 l2 l3 : am_V) (a : Int) (st : List am_V) (E : am_E) (u : am_M), Rn m_J_fillI 1 [l0, l1, l2, l3] (vI a :: st) E u = Rn m_J_fillI 2 [l0, am_fx l1, vI a, l3] st E u) ∧
  (∀ (l1 l2 l3 : am_V) (a : Option Nat) (st : List am_V) (E : am_E) (u : am_M), Rn m_J_fillI 2 [vR a, l1, l2, l3] st E u = Rn m_J_fillI 3 [vR a, l1, l2, l3] (vR a :: st) E u) ∧
  (∀ (l0 l1 l2 l3 : am_V) (k : Nat) (st : List am_V) (E : am_E) (u : am_M) (hk : am_kn E k = 10), Rn m_J_fillI 3 [l0, l1, l2, l3] (vR (some k) :: st) E u = Rn m_J_fillI 4 [l0, l1, l2, l3] (vI (am_len 10 E k) :: st) E u) ∧
  (∀ (l0 l1 l2 l3 : am_V) (a : Int) (st : List am_V) (E : am_E) (u : am_M), Rn m_J_fillI 4 [l0, l1, l2, l3] (vI a :: st) E u = Rn m_J_fillI 5 [l0, l1, am_fx l2, vI a] st E u) ∧
  (∀ (l0 l1 l2 : am_V) (a : Int) (st : List am_V) (E : am_E) (u : am_M), Rn m_J_fillI 6 [l0, l1, l2, vI a] st E u = Rn m_J_fillI 7 [l0, l1, l2, vI a] (vI a :: st) E u) ∧
  (∀ (l0 l1 l2 l3 : am_V) (a b : Int) (st : List am_V) (E : am_E) (u : am_M), Rn m_J_fillI 7 [l0, l1, l2, l3] (vI b :: vI a :: st) E u = if a < b then Rn m_J_fillI 10 [l0, l1, l2, l3] st E u else Rn m_J_fillI 20 [l0, l1, l2, l3] st E u) ∧
  (∀ (l1 l2 l3 : am_V) (a : Option Nat) (st : List am_V) (E : am_E) (u : am_M), Rn m_J_fillI 10 [vR a, l1, l2, l3] st E u = Rn m_J_fillI 11 [vR a, l1, l2, l3] (vR a :: st) E u) ∧
  (∀ (l0 l1 l3 : am_V) (a : Int) (st : List am_V) (E : am_E) (u : am_M), Rn m_J_fillI 11 [l0, l1, vI a, l3] st E u = Rn m_J_fillI 12 [l0, l1, vI a, l3] (vI a :: st) E u) ∧
  (∀ (l0 l2 l3 : am_V) (a : Int) (st : List am_V) (E : am_E) (u : am_M), Rn m_J_fillI 12 [l0, vI a, l2, l3] st E u = Rn m_J_fillI 13 [l0, vI a, l2, l3] (vI a :: st) E u) ∧
  (∀ (l0 l1 l2 l3 : am_V) (k : Nat) (i a : Int) (st : List am_V) (E : am_E) (u : am_M) (h0 : 0 ≤ i) (h1 : i < am_len 10 E k), Rn m_J_fillI 13 [l0, l1, l2, l3] (vI a :: vI i :: vR (some k) :: st) E u = Rn m_J_fillI 14 [l0, l1, l2, l3] st E (am_up u k i.toNat a)) ∧
  (∀ (l0 l1 l3 : am_V) (a : Int) (st : List am_V) (E : am_E) (u : am_M), Rn m_J_fillI 14 [l0, l1, vI a, l3] st E u = Rn m_J_fillI 17 [l0, am_fx l1, vI (w32 (a + 1)), l3] st E u) ∧
  (∀ (l0 l1 l2 l3 : am_V) (st : List am_V) (E : am_E) (u : am_M), Rn m_J_fillI 17 [l0, l1, l2, l3] st E u = Rn m_J_fillI 5 [l0, l1, l2, l3] st E u) ∧
  (∀ (l0 l1 l2 l3 : am_V) (E : am_E) (u : am_M), Rn m_J_fillI 20 [l0, l1, l2, l3] [] E u = some (none, E, u)) :=
  ⟨fun l0 l1 l2 l3 st E u => q_go (by decide +kernel : am_Pg 0 0 = some (.iconst 0, 1, [], 0)) rfl,
  fun l0 l1 l2 l3 a st E u => q_go (by decide +kernel : am_Pg 0 1 = some (.istore_n 2, 1, [], 0)) rfl,
  fun l1 l2 l3 a st E u => q_go (by decide +kernel : am_Pg 0 2 = some (.aload_n 0, 1, [], 0)) rfl,
  fun l0 l1 l2 l3 k st E u hk => q_alI (by decide +kernel : am_Pg 0 3 = some (.arraylength, 1, [], 0)) hk (by decide) (by decide),
  fun l0 l1 l2 l3 a st E u => q_go (by decide +kernel : am_Pg 0 4 = some (.istore_n 3, 1, [], 0)) rfl,
  fun l0 l1 l2 a st E u => q_go (by decide +kernel : am_Pg 0 6 = some (.iload_n 3, 1, [], 0)) rfl,
  fun l0 l1 l2 l3 a b st E u => q_icmp_ge (tgt := 20) (by decide +kernel : am_Pg 0 7 = some (.if_icmp .ge 13, 3, [], 0)) (by decide),
  fun l1 l2 l3 a st E u => q_go (by decide +kernel : am_Pg 0 10 = some (.aload_n 0, 1, [], 0)) rfl,
  fun l0 l1 l3 a st E u => q_go (by decide +kernel : am_Pg 0 11 = some (.iload_n 2, 1, [], 0)) rfl,
  fun l0 l2 l3 a st E u => q_go (by decide +kernel : am_Pg 0 12 = some (.iload_n 1, 1, [], 0)) rfl,
  fun l0 l1 l2 l3 k i a st E u h0 h1 => q_iast (by decide +kernel : am_Pg 0 13 = some (.iastore, 1, [], 0)) h0 h1,
  fun l0 l1 l3 a st E u => q_go (by decide +kernel : am_Pg 0 14 = some (.iinc 2 1, 3, [], 0)) rfl,
  fun l0 l1 l2 l3 st E u => q_go (by decide +kernel : am_Pg 0 17 = some (.goto (-12), 3, [], 0)) rfl,
  fun l0 l1 l2 l3 E u => q_ret (by decide +kernel : am_Pg 0 20 = some (.return_, 1, [], 0)) rfl⟩
theorem x_C_init :
  (∀ (a : Option Nat) (st : List am_V) (E : am_E) (u : am_M), Rn m_C_init 0 [vR a] st E u = Rn m_C_init 1 [vR a] (vR a :: st) E u) ∧
  (∀ (l0 : am_V) (k : Nat) (E : am_E) (u : am_M), Rn m_C_init 1 [l0] [vR (some k)] E u = Rn m_C_init 4 [l0] [] E u) ∧
  (∀ (a : Option Nat) (st : List am_V) (E : am_E) (u : am_M), Rn m_C_init 4 [vR a] st E u = Rn m_C_init 5 [vR a] (vR a :: st) E u) ∧
  (∀ (l0 : am_V) (st : List am_V) (E : am_E) (u : am_M), Rn m_C_init 5 [l0] st E u = Rn m_C_init 6 [l0] (vI 5 :: st) E u) ∧
  (∀ (l0 : am_V) (k : Nat) (a : Int) (st : List am_V) (E : am_E) (u : am_M) (hk : E.1[k]? = some (0, 14)), Rn m_C_init 6 [l0] (vI a :: vR (some k) :: st) E u = Rn m_C_init 9 [l0] st E (am_up u k 0 a)) ∧
  (∀ (a : Option Nat) (st : List am_V) (E : am_E) (u : am_M), Rn m_C_init 9 [vR a] st E u = Rn m_C_init 10 [vR a] (vR a :: st) E u) ∧
  (∀ (l0 : am_V) (st : List am_V) (E : am_E) (u : am_M), Rn m_C_init 10 [l0] st E u = Rn m_C_init 11 [l0] (vI 5 :: st) E u) ∧
  (∀ (l0 : am_V) (k : Nat) (a : Int) (st : List am_V) (E : am_E) (u : am_M) (hk : E.1[k]? = some (0, 14)), Rn m_C_init 11 [l0] (vI a :: vR (some k) :: st) E u = Rn m_C_init 14 [l0] st E (am_up u k 1 a)) ∧
  (∀ (a : Option Nat) (st : List am_V) (E : am_E) (u : am_M), Rn m_C_init 14 [vR a] st E u = Rn m_C_init 15 [vR a] (vR a :: st) E u) ∧
  (∀ (l0 : am_V) (st : List am_V) (E : am_E) (u : am_M), Rn m_C_init 15 [l0] st E u = Rn m_C_init 16 [l0] (vI 1 :: st) E u) ∧
  (∀ (l0 : am_V) (k : Nat) (a : Int) (st : List am_V) (E : am_E) (u : am_M) (hk : E.1[k]? = some (0, 14)), Rn m_C_init 16 [l0] (vI a :: vR (some k) :: st) E u = Rn m_C_init 19 [l0] st E (am_up u k 5 a)) ∧
  (∀ (a : Option Nat) (st : List am_V) (E : am_E) (u : am_M), Rn m_C_init 19 [vR a] st E u = Rn m_C_init 20 [vR a] (vR a :: st) E u) ∧
  (∀ (l0 : am_V) (st : List am_V) (E : am_E) (u : am_M), Rn m_C_init 20 [l0] st E u = Rn m_C_init 22 [l0] (vI 7 :: st) E u) ∧
  (∀ (l0 : am_V) (n : Int) (st : List am_V) (E : am_E) (u : am_M) (hn : 0 ≤ n ∧ n ≤ 10000), Rn m_C_init 22 [l0] (vI n :: st) E u = Rn m_C_init 24 [l0] (vR (some E.1.length) :: st) (E.1 ++ [(10, n.toNat)], am_zq E.2.1 E.1.length, E.2.2) (am_zr u E.1.length)) ∧
  (∀ (l0 : am_V) (k : Nat) (o : Option Nat) (st : List am_V) (E : am_E) (u : am_M) (hk : E.1[k]? = some (0, 14)), Rn m_C_init 24 [l0] (vR o :: vR (some k) :: st) E u = Rn m_C_init 27 [l0] st (E.1, am_rp E.2.1 k 8 o, E.2.2) u) ∧
  (∀ (a : Option Nat) (st : List am_V) (E : am_E) (u : am_M), Rn m_C_init 27 [vR a] st E u = Rn m_C_init 28 [vR a] (vR a :: st) E u) ∧
  (∀ (l0 : am_V) (st : List am_V) (E : am_E) (u : am_M), Rn m_C_init 28 [l0] st E u = Rn m_C_init 30 [l0] (vI 7 :: st) E u) ∧
  (∀ (l0 : am_V) (n : Int) (st : List am_V) (E : am_E) (u : am_M) (hn : 0 ≤ n ∧ n ≤ 10000), Rn m_C_init 30 [l0] (vI n :: st) E u = Rn m_C_init 32 [l0] (vR (some E.1.length) :: st) (E.1 ++ [(10, n.toNat)], am_zq E.2.1 E.1.length, E.2.2) (am_zr u E.1.length)) ∧
  (∀ (l0 : am_V) (k : Nat) (o : Option Nat) (st : List am_V) (E : am_E) (u : am_M) (hk : E.1[k]? = some (0, 14)), Rn m_C_init 32 [l0] (vR o :: vR (some k) :: st) E u = Rn m_C_init 35 [l0] st (E.1, am_rp E.2.1 k 9 o, E.2.2) u) ∧
  (∀ (a : Option Nat) (st : List am_V) (E : am_E) (u : am_M), Rn m_C_init 35 [vR a] st E u = Rn m_C_init 36 [vR a] (vR a :: st) E u) ∧
  (∀ (l0 : am_V) (st : List am_V) (E : am_E) (u : am_M), Rn m_C_init 36 [l0] st E u = Rn m_C_init 38 [l0] (vI 7 :: st) E u) ∧
  (∀ (l0 : am_V) (n : Int) (st : List am_V) (E : am_E) (u : am_M) (hn : 0 ≤ n ∧ n ≤ 10000), Rn m_C_init 38 [l0] (vI n :: st) E u = Rn m_C_init 40 [l0] (vR (some E.1.length) :: st) (E.1 ++ [(10, n.toNat)], am_zq E.2.1 E.1.length, E.2.2) (am_zr u E.1.length)) ∧
  (∀ (l0 : am_V) (k : Nat) (o : Option Nat) (st : List am_V) (E : am_E) (u : am_M) (hk : E.1[k]? = some (0, 14)), Rn m_C_init 40 [l0] (vR o :: vR (some k) :: st) E u = Rn m_C_init 43 [l0] st (E.1, am_rp E.2.1 k 10 o, E.2.2) u) ∧
  (∀ (a : Option Nat) (st : List am_V) (E : am_E) (u : am_M), Rn m_C_init 43 [vR a] st E u = Rn m_C_init 44 [vR a] (vR a :: st) E u) ∧
  (∀ (l0 : am_V) (st : List am_V) (E : am_E) (u : am_M), Rn m_C_init 44 [l0] st E u = Rn m_C_init 46 [l0] (vI 6 :: st) E u) ∧
  (∀ (l0 : am_V) (n : Int) (st : List am_V) (E : am_E) (u : am_M) (hn : 0 ≤ n ∧ n ≤ 10000), Rn m_C_init 46 [l0] (vI n :: st) E u = Rn m_C_init 48 [l0] (vR (some E.1.length) :: st) (E.1 ++ [(10, n.toNat)], am_zq E.2.1 E.1.length, E.2.2) (am_zr u E.1.length)) ∧
  (∀ (l0 : am_V) (k : Nat) (o : Option Nat) (st : List am_V) (E : am_E) (u : am_M) (hk : E.1[k]? = some (0, 14)), Rn m_C_init 48 [l0] (vR o :: vR (some k) :: st) E u = Rn m_C_init 51 [l0] st (E.1, am_rp E.2.1 k 11 o, E.2.2) u) ∧
  (∀ (a : Option Nat) (st : List am_V) (E : am_E) (u : am_M), Rn m_C_init 51 [vR a] st E u = Rn m_C_init 52 [vR a] (vR a :: st) E u) ∧
  (∀ (l0 : am_V) (st : List am_V) (E : am_E) (u : am_M), Rn m_C_init 52 [l0] st E u = Rn m_C_init 54 [l0] (vI 6 :: st) E u) ∧
  (∀ (l0 : am_V) (n : Int) (st : List am_V) (E : am_E) (u : am_M) (hn : 0 ≤ n ∧ n ≤ 10000), Rn m_C_init 54 [l0] (vI n :: st) E u = Rn m_C_init 56 [l0] (vR (some E.1.length) :: st) (E.1 ++ [(10, n.toNat)], am_zq E.2.1 E.1.length, E.2.2) (am_zr u E.1.length)) ∧
  (∀ (l0 : am_V) (k : Nat) (o : Option Nat) (st : List am_V) (E : am_E) (u : am_M) (hk : E.1[k]? = some (0, 14)), Rn m_C_init 56 [l0] (vR o :: vR (some k) :: st) E u = Rn m_C_init 59 [l0] st (E.1, am_rp E.2.1 k 12 o, E.2.2) u) ∧
  (∀ (a : Option Nat) (st : List am_V) (E : am_E) (u : am_M), Rn m_C_init 59 [vR a] st E u = Rn m_C_init 60 [vR a] (vR a :: st) E u) ∧
  (∀ (l0 : am_V) (st : List am_V) (E : am_E) (u : am_M), Rn m_C_init 60 [l0] st E u = Rn m_C_init 62 [l0] (vI 6 :: st) E u) ∧
  (∀ (l0 : am_V) (n : Int) (st : List am_V) (E : am_E) (u : am_M) (hn : 0 ≤ n ∧ n ≤ 10000), Rn m_C_init 62 [l0] (vI n :: st) E u = Rn m_C_init 64 [l0] (vR (some E.1.length) :: st) (E.1 ++ [(10, n.toNat)], am_zq E.2.1 E.1.length, E.2.2) (am_zr u E.1.length)) ∧
  (∀ (l0 : am_V) (k : Nat) (o : Option Nat) (st : List am_V) (E : am_E) (u : am_M) (hk : E.1[k]? = some (0, 14)), Rn m_C_init 64 [l0] (vR o :: vR (some k) :: st) E u = Rn m_C_init 67 [l0] st (E.1, am_rp E.2.1 k 13 o, E.2.2) u) ∧
  (∀ (a : Option Nat) (st : List am_V) (E : am_E) (u : am_M), Rn m_C_init 67 [vR a] st E u = Rn m_C_init 68 [vR a] (vR a :: st) E u) ∧
  (∀ (l0 : am_V) (k : Nat) (o : Option Nat) (st : List am_V) (E : am_E) (u : am_M) (hk : E.1[k]? = some (0, 14)) (ho : E.2.1 k 9 = o), Rn m_C_init 68 [l0] (vR (some k) :: st) E u = Rn m_C_init 71 [l0] (vR o :: st) E u) ∧
  (∀ (l0 : am_V) (st : List am_V) (E : am_E) (u : am_M), Rn m_C_init 71 [l0] st E u = Rn m_C_init 73 [l0] (vI (-4) :: st) E u) ∧
  (∀ (l0 : am_V) (a0 : Option Nat) (a1 : Int) (E : am_E) (u : am_M), Rn m_C_init 73 [l0] [vI a1, vR a0] E u = bdV (Rn m_J_fillI 0 [vR a0, vI a1, vB false, vB false] [] E u) (KV m_C_init 76 [l0] [])) ∧
  (∀ (l0 : am_V) (E : am_E) (u : am_M), Rn m_C_init 76 [l0] [] E u = some (none, E, u)) :=
  ⟨fun a st E u => q_go (by decide +kernel : am_Pg 1 0 = some (.aload_n 0, 1, [], 0)) rfl,
  fun l0 k  E u => q_go (by decide +kernel : am_Pg 1 1 = some (.invokespecial 3, 3, [0], 0)) rfl,
  fun a st E u => q_go (by decide +kernel : am_Pg 1 4 = some (.aload_n 0, 1, [], 0)) rfl,
  fun l0 st E u => q_go (by decide +kernel : am_Pg 1 5 = some (.iconst 5, 1, [], 0)) rfl,
  fun l0 k a st E u hk => q_pfI (by decide +kernel : am_Pg 1 6 = some (.putfield 9, 3, [0, 14, 0, 0], 0)) hk rfl,
  fun a st E u => q_go (by decide +kernel : am_Pg 1 9 = some (.aload_n 0, 1, [], 0)) rfl,
  fun l0 st E u => q_go (by decide +kernel : am_Pg 1 10 = some (.iconst 5, 1, [], 0)) rfl,
  fun l0 k a st E u hk => q_pfI (by decide +kernel : am_Pg 1 11 = some (.putfield 15, 3, [0, 14, 1, 0], 0)) hk rfl,
  fun a st E u => q_go (by decide +kernel : am_Pg 1 14 = some (.aload_n 0, 1, [], 0)) rfl,
  fun l0 st E u => q_go (by decide +kernel : am_Pg 1 15 = some (.iconst 1, 1, [], 0)) rfl,
  fun l0 k a st E u hk => q_pfI (by decide +kernel : am_Pg 1 16 = some (.putfield 18, 3, [0, 14, 5, 0], 0)) hk rfl,
  fun a st E u => q_go (by decide +kernel : am_Pg 1 19 = some (.aload_n 0, 1, [], 0)) rfl,
  fun l0 st E u => q_go (by decide +kernel : am_Pg 1 20 = some (.bipush 7, 2, [], 0)) rfl,
  fun l0 n st E u hn => q_go (by decide +kernel : am_Pg 1 22 = some (.newarray .int, 2, [], 0)) (by simp only [am_step]; rw [if_pos hn]; rfl),
  fun l0 k o st E u hk => q_pfR (by decide +kernel : am_Pg 1 24 = some (.putfield 21, 3, [0, 14, 8, 0], 0)) hk rfl,
  fun a st E u => q_go (by decide +kernel : am_Pg 1 27 = some (.aload_n 0, 1, [], 0)) rfl,
  fun l0 st E u => q_go (by decide +kernel : am_Pg 1 28 = some (.bipush 7, 2, [], 0)) rfl,
  fun l0 n st E u hn => q_go (by decide +kernel : am_Pg 1 30 = some (.newarray .int, 2, [], 0)) (by simp only [am_step]; rw [if_pos hn]; rfl),
  fun l0 k o st E u hk => q_pfR (by decide +kernel : am_Pg 1 32 = some (.putfield 25, 3, [0, 14, 9, 0], 0)) hk rfl,
  fun a st E u => q_go (by decide +kernel : am_Pg 1 35 = some (.aload_n 0, 1, [], 0)) rfl,
  fun l0 st E u => q_go (by decide +kernel : am_Pg 1 36 = some (.bipush 7, 2, [], 0)) rfl,
  fun l0 n st E u hn => q_go (by decide +kernel : am_Pg 1 38 = some (.newarray .int, 2, [], 0)) (by simp only [am_step]; rw [if_pos hn]; rfl),
  fun l0 k o st E u hk => q_pfR (by decide +kernel : am_Pg 1 40 = some (.putfield 28, 3, [0, 14, 10, 0], 0)) hk rfl,
  fun a st E u => q_go (by decide +kernel : am_Pg 1 43 = some (.aload_n 0, 1, [], 0)) rfl,
  fun l0 st E u => q_go (by decide +kernel : am_Pg 1 44 = some (.bipush 6, 2, [], 0)) rfl,
  fun l0 n st E u hn => q_go (by decide +kernel : am_Pg 1 46 = some (.newarray .int, 2, [], 0)) (by simp only [am_step]; rw [if_pos hn]; rfl),
  fun l0 k o st E u hk => q_pfR (by decide +kernel : am_Pg 1 48 = some (.putfield 31, 3, [0, 14, 11, 0], 0)) hk rfl,
  fun a st E u => q_go (by decide +kernel : am_Pg 1 51 = some (.aload_n 0, 1, [], 0)) rfl,
  fun l0 st E u => q_go (by decide +kernel : am_Pg 1 52 = some (.bipush 6, 2, [], 0)) rfl,
  fun l0 n st E u hn => q_go (by decide +kernel : am_Pg 1 54 = some (.newarray .int, 2, [], 0)) (by simp only [am_step]; rw [if_pos hn]; rfl),
  fun l0 k o st E u hk => q_pfR (by decide +kernel : am_Pg 1 56 = some (.putfield 34, 3, [0, 14, 12, 0], 0)) hk rfl,
  fun a st E u => q_go (by decide +kernel : am_Pg 1 59 = some (.aload_n 0, 1, [], 0)) rfl,
  fun l0 st E u => q_go (by decide +kernel : am_Pg 1 60 = some (.bipush 6, 2, [], 0)) rfl,
  fun l0 n st E u hn => q_go (by decide +kernel : am_Pg 1 62 = some (.newarray .int, 2, [], 0)) (by simp only [am_step]; rw [if_pos hn]; rfl),
  fun l0 k o st E u hk => q_pfR (by decide +kernel : am_Pg 1 64 = some (.putfield 37, 3, [0, 14, 13, 0], 0)) hk rfl,
  fun a st E u => q_go (by decide +kernel : am_Pg 1 67 = some (.aload_n 0, 1, [], 0)) rfl,
  fun l0 k o st E u hk ho => q_gfR (by decide +kernel : am_Pg 1 68 = some (.getfield 25, 3, [0, 14, 9, 0], 0)) hk rfl ho,
  fun l0 st E u => q_go (by decide +kernel : am_Pg 1 71 = some (.bipush (-4), 2, [], 0)) rfl,
  fun l0 a0 a1  E u => q_cV (by decide +kernel : am_Pg 1 73 = some (.invokestatic 40, 3, [2, 0, 2, 0], 0)) (am_call_S (f := fun _ _ => true) (a := [vR a0, vI a1]) (st' := []) (Nat.le_of_ble_eq_true rfl) rfl rfl) (by decide +kernel : am_Lm m_J_fillI = 4) (Nat.le_of_ble_eq_true rfl) rfl (by decide +kernel),
  fun l0 E u => q_ret (by decide +kernel : am_Pg 1 76 = some (.return_, 1, [], 0)) rfl⟩
theorem h_P_init_15 : ∀ (l0 : am_V) (a : Int) (st : List am_V) (E : am_E) (u : am_M), Rn m_P_init 15 [l0, vI a] st E u = Rn m_P_init 16 [l0, vI a] (vI a :: st) E u :=
  fun l0 a st E u => q_go (by decide +kernel : am_Pg 2 15 = some (.iload_n 1, 1, [], 0)) rfl
theorem x_P_init :
  (∀ (l1 : am_V) (a : Option Nat) (st : List am_V) (E : am_E) (u : am_M), Rn m_P_init 0 [vR a, l1] st E u = Rn m_P_init 1 [vR a, l1] (vR a :: st) E u) ∧
  (∀ (l0 l1 : am_V) (k : Nat) (E : am_E) (u : am_M), Rn m_P_init 1 [l0, l1] [vR (some k)] E u = Rn m_P_init 4 [l0, l1] [] E u) ∧
  (∀ (l1 : am_V) (a : Option Nat) (st : List am_V) (E : am_E) (u : am_M), Rn m_P_init 4 [vR a, l1] st E u = Rn m_P_init 5 [vR a, l1] (vR a :: st) E u) ∧
  (∀ (l0 l1 : am_V) (st : List am_V) (E : am_E) (u : am_M), Rn m_P_init 5 [l0, l1] st E u = Rn m_P_init 7 [l0, l1] (vI 8 :: st) E u) ∧
  (∀ (l0 l1 : am_V) (n : Int) (st : List am_V) (E : am_E) (u : am_M) (hn : 0 ≤ n ∧ n ≤ 10000), Rn m_P_init 7 [l0, l1] (vI n :: st) E u = Rn m_P_init 10 [l0, l1] (vR (some E.1.length) :: st) (E.1 ++ [(12, n.toNat)], am_zq E.2.1 E.1.length, E.2.2) (am_zr u E.1.length)) ∧
  (∀ (l0 l1 : am_V) (k : Nat) (o : Option Nat) (st : List am_V) (E : am_E) (u : am_M) (hk : E.1[k]? = some (1, 3)), Rn m_P_init 10 [l0, l1] (vR o :: vR (some k) :: st) E u = Rn m_P_init 13 [l0, l1] st (E.1, am_rp E.2.1 k 0 o, E.2.2) u) ∧
  (∀ (l0 l1 : am_V) (st : List am_V) (E : am_E) (u : am_M), Rn m_P_init 13 [l0, l1] st E u = Rn m_P_init 14 [l0, l1] (vI 0 :: st) E u) ∧
  (∀ (l0 l1 : am_V) (a : Int) (st : List am_V) (E : am_E) (u : am_M), Rn m_P_init 14 [l0, l1] (vI a :: st) E u = Rn m_P_init 15 [am_fx l0, vI a] st E u) ∧
  (∀ (l1 : am_V) (a : Option Nat) (st : List am_V) (E : am_E) (u : am_M), Rn m_P_init 16 [vR a, l1] st E u = Rn m_P_init 17 [vR a, l1] (vR a :: st) E u) ∧
  (∀ (l0 l1 : am_V) (k : Nat) (o : Option Nat) (st : List am_V) (E : am_E) (u : am_M) (hk : E.1[k]? = some (1, 3)) (ho : E.2.1 k 0 = o), Rn m_P_init 17 [l0, l1] (vR (some k) :: st) E u = Rn m_P_init 20 [l0, l1] (vR o :: st) E u) ∧
  (∀ (l0 l1 : am_V) (k : Nat) (st : List am_V) (E : am_E) (u : am_M) (hk : am_kn E k = 12), Rn m_P_init 20 [l0, l1] (vR (some k) :: st) E u = Rn m_P_init 21 [l0, l1] (vI (am_len 12 E k) :: st) E u) ∧
  (∀ (l0 l1 : am_V) (a b : Int) (st : List am_V) (E : am_E) (u : am_M), Rn m_P_init 21 [l0, l1] (vI b :: vI a :: st) E u = if a < b then Rn m_P_init 24 [l0, l1] st E u else Rn m_P_init 43 [l0, l1] st E u) ∧
  (∀ (l1 : am_V) (a : Option Nat) (st : List am_V) (E : am_E) (u : am_M), Rn m_P_init 24 [vR a, l1] st E u = Rn m_P_init 25 [vR a, l1] (vR a :: st) E u) ∧
  (∀ (l0 l1 : am_V) (k : Nat) (o : Option Nat) (st : List am_V) (E : am_E) (u : am_M) (hk : E.1[k]? = some (1, 3)) (ho : E.2.1 k 0 = o), Rn m_P_init 25 [l0, l1] (vR (some k) :: st) E u = Rn m_P_init 28 [l0, l1] (vR o :: st) E u) ∧
  (∀ (l0 : am_V) (a : Int) (st : List am_V) (E : am_E) (u : am_M), Rn m_P_init 28 [l0, vI a] st E u = Rn m_P_init 29 [l0, vI a] (vI a :: st) E u) ∧
  (∀ (l0 l1 : am_V) (st : List am_V) (E : am_E) (u : am_M), Rn m_P_init 29 [l0, l1] st E u = Rn m_P_init 32 [l0, l1] (vR (some E.1.length) :: st) (E.1 ++ [(0, 14)], am_zq E.2.1 E.1.length, E.2.2) (am_zr u E.1.length)) ∧
  (∀ (l0 l1 : am_V) (a : Int) (st : List am_V) (E : am_E) (u : am_M), Rn m_P_init 32 [l0, l1] (vI a :: st) E u = Rn m_P_init 33 [l0, l1] (vI a :: vI a :: st) E u) ∧
  (∀ (l0 l1 : am_V) (a : Option Nat) (st : List am_V) (E : am_E) (u : am_M), Rn m_P_init 32 [l0, l1] (vR a :: st) E u = Rn m_P_init 33 [l0, l1] (vR a :: vR a :: st) E u) ∧
  (∀ (l0 l1 : am_V) (k : Nat) (r0 r1 r2 : am_V) (E : am_E) (u : am_M) (hk : E.1[k]? = some (0, 14)), Rn m_P_init 33 [l0, l1] [vR (some k), r0, r1, r2] E u = bdV (Rn m_C_init 0 [vR (some k)] [] E u) (KV m_P_init 36 [l0, l1] [r0, r1, r2])) ∧
  (∀ (l0 l1 : am_V) (k v : Nat) (i : Int) (st : List am_V) (E : am_E) (u : am_M) (h0 : 0 ≤ i) (h1 : i < am_len 12 E k) (h2 : am_kn E v = 0), Rn m_P_init 36 [l0, l1] (vR (some v) :: vI i :: vR (some k) :: st) E u = Rn m_P_init 37 [l0, l1] st (E.1, am_rp E.2.1 k i.toNat (some v), E.2.2) u) ∧
  (∀ (l0 : am_V) (a : Int) (st : List am_V) (E : am_E) (u : am_M), Rn m_P_init 37 [l0, vI a] st E u = Rn m_P_init 40 [am_fx l0, vI (w32 (a + 1))] st E u) ∧
  (∀ (l0 l1 : am_V) (st : List am_V) (E : am_E) (u : am_M), Rn m_P_init 40 [l0, l1] st E u = Rn m_P_init 15 [l0, l1] st E u) ∧
  (∀ (l0 l1 : am_V) (E : am_E) (u : am_M), Rn m_P_init 43 [l0, l1] [] E u = some (none, E, u)) :=
  ⟨fun l1 a st E u => q_go (by decide +kernel : am_Pg 2 0 = some (.aload_n 0, 1, [], 0)) rfl,
  fun l0 l1 k  E u => q_go (by decide +kernel : am_Pg 2 1 = some (.invokespecial 3, 3, [0], 0)) rfl,
  fun l1 a st E u => q_go (by decide +kernel : am_Pg 2 4 = some (.aload_n 0, 1, [], 0)) rfl,
  fun l0 l1 st E u => q_go (by decide +kernel : am_Pg 2 5 = some (.bipush 8, 2, [], 0)) rfl,
  fun l0 l1 n st E u hn => q_go (by decide +kernel : am_Pg 2 7 = some (.anewarray 9, 3, [12], 0)) (by simp only [am_step]; rw [if_pos hn]; rfl),
  fun l0 l1 k o st E u hk => q_pfR (by decide +kernel : am_Pg 2 10 = some (.putfield 11, 3, [1, 3, 0, 0], 0)) hk rfl,
  fun l0 l1 st E u => q_go (by decide +kernel : am_Pg 2 13 = some (.iconst 0, 1, [], 0)) rfl,
  fun l0 l1 a st E u => q_go (by decide +kernel : am_Pg 2 14 = some (.istore_n 1, 1, [], 0)) rfl,
  fun l1 a st E u => q_go (by decide +kernel : am_Pg 2 16 = some (.aload_n 0, 1, [], 0)) rfl,
  fun l0 l1 k o st E u hk ho => q_gfR (by decide +kernel : am_Pg 2 17 = some (.getfield 11, 3, [1, 3, 0, 0], 0)) hk rfl ho,
  fun l0 l1 k st E u hk => q_alI (by decide +kernel : am_Pg 2 20 = some (.arraylength, 1, [], 0)) hk (by decide) (by decide),
  fun l0 l1 a b st E u => q_icmp_ge (tgt := 43) (by decide +kernel : am_Pg 2 21 = some (.if_icmp .ge 22, 3, [], 0)) (by decide),
  fun l1 a st E u => q_go (by decide +kernel : am_Pg 2 24 = some (.aload_n 0, 1, [], 0)) rfl,
  fun l0 l1 k o st E u hk ho => q_gfR (by decide +kernel : am_Pg 2 25 = some (.getfield 11, 3, [1, 3, 0, 0], 0)) hk rfl ho,
  fun l0 a st E u => q_go (by decide +kernel : am_Pg 2 28 = some (.iload_n 1, 1, [], 0)) rfl,
  fun l0 l1 st E u => q_go (by decide +kernel : am_Pg 2 29 = some (.new 9, 3, [0, 14], 0)) rfl,
  fun l0 l1 a st E u => q_go (by decide +kernel : am_Pg 2 32 = some (.dup, 1, [], 0)) rfl,
  fun l0 l1 a st E u => q_go (by decide +kernel : am_Pg 2 32 = some (.dup, 1, [], 0)) rfl,
  fun l0 l1 k  r0 r1 r2 E u hk => q_cV (by decide +kernel : am_Pg 2 33 = some (.invokespecial 17, 3, [3, 1, 1, 0, 14, 1], 0)) (am_call_V (a := []) (st' := [r0, r1, r2]) (Nat.le_of_ble_eq_true rfl) rfl hk) (by decide +kernel : am_Lm m_C_init = 1) (Nat.le_of_ble_eq_true rfl) rfl (by decide +kernel),
  fun l0 l1 k v i st E u h0 h1 h2 => q_aast (by decide +kernel : am_Pg 2 36 = some (.aastore, 1, [], 0)) h0 (Or.inl ⟨h1, h2⟩),
  fun l0 a st E u => q_go (by decide +kernel : am_Pg 2 37 = some (.iinc 1 1, 3, [], 0)) rfl,
  fun l0 l1 st E u => q_go (by decide +kernel : am_Pg 2 40 = some (.goto (-25), 3, [], 0)) rfl,
  fun l0 l1 E u => q_ret (by decide +kernel : am_Pg 2 43 = some (.return_, 1, [], 0)) rfl⟩
theorem x_T_init :
  (∀ (a : Option Nat) (st : List am_V) (E : am_E) (u : am_M), Rn m_T_init 0 [vR a] st E u = Rn m_T_init 1 [vR a] (vR a :: st) E u) ∧
  (∀ (l0 : am_V) (k : Nat) (E : am_E) (u : am_M), Rn m_T_init 1 [l0] [vR (some k)] E u = Rn m_T_init 4 [l0] [] E u) ∧
  (∀ (a : Option Nat) (st : List am_V) (E : am_E) (u : am_M), Rn m_T_init 4 [vR a] st E u = Rn m_T_init 5 [vR a] (vR a :: st) E u) ∧
  (∀ (l0 : am_V) (st : List am_V) (E : am_E) (u : am_M), Rn m_T_init 5 [l0] st E u = Rn m_T_init 7 [l0] (vI 120 :: st) E u) ∧
  (∀ (l0 : am_V) (n : Int) (st : List am_V) (E : am_E) (u : am_M) (hn : 0 ≤ n ∧ n ≤ 10000), Rn m_T_init 7 [l0] (vI n :: st) E u = Rn m_T_init 9 [l0] (vR (some E.1.length) :: st) (E.1 ++ [(10, n.toNat)], am_zq E.2.1 E.1.length, E.2.2) (am_zr u E.1.length)) ∧
  (∀ (l0 : am_V) (k : Nat) (o : Option Nat) (st : List am_V) (E : am_E) (u : am_M) (hk : E.1[k]? = some (3, 3)), Rn m_T_init 9 [l0] (vR o :: vR (some k) :: st) E u = Rn m_T_init 12 [l0] st (E.1, am_rp E.2.1 k 0 o, E.2.2) u) ∧
  (∀ (l0 : am_V) (E : am_E) (u : am_M), Rn m_T_init 12 [l0] [] E u = some (none, E, u)) :=
  ⟨fun a st E u => q_go (by decide +kernel : am_Pg 3 0 = some (.aload_n 0, 1, [], 0)) rfl,
  fun l0 k  E u => q_go (by decide +kernel : am_Pg 3 1 = some (.invokespecial 3, 3, [0], 0)) rfl,
  fun a st E u => q_go (by decide +kernel : am_Pg 3 4 = some (.aload_n 0, 1, [], 0)) rfl,
  fun l0 st E u => q_go (by decide +kernel : am_Pg 3 5 = some (.bipush 120, 2, [], 0)) rfl,
  fun l0 n st E u hn => q_go (by decide +kernel : am_Pg 3 7 = some (.newarray .int, 2, [], 0)) (by simp only [am_step]; rw [if_pos hn]; rfl),
  fun l0 k o st E u hk => q_pfR (by decide +kernel : am_Pg 3 9 = some (.putfield 9, 3, [3, 3, 0, 0], 0)) hk rfl,
  fun l0 E u => q_ret (by decide +kernel : am_Pg 3 12 = some (.return_, 1, [], 0)) rfl⟩
theorem x_S_init :
  (∀ (a : Option Nat) (st : List am_V) (E : am_E) (u : am_M), Rn m_S_init 0 [vR a] st E u = Rn m_S_init 1 [vR a] (vR a :: st) E u) ∧
  (∀ (l0 : am_V) (k : Nat) (E : am_E) (u : am_M), Rn m_S_init 1 [l0] [vR (some k)] E u = Rn m_S_init 4 [l0] [] E u) ∧
  (∀ (a : Option Nat) (st : List am_V) (E : am_E) (u : am_M), Rn m_S_init 4 [vR a] st E u = Rn m_S_init 5 [vR a] (vR a :: st) E u) ∧
  (∀ (l0 : am_V) (st : List am_V) (E : am_E) (u : am_M), Rn m_S_init 5 [l0] st E u = Rn m_S_init 7 [l0] (vI 24 :: st) E u) ∧
  (∀ (l0 : am_V) (n : Int) (st : List am_V) (E : am_E) (u : am_M) (hn : 0 ≤ n ∧ n ≤ 10000), Rn m_S_init 7 [l0] (vI n :: st) E u = Rn m_S_init 9 [l0] (vR (some E.1.length) :: st) (E.1 ++ [(11, n.toNat)], am_zq E.2.1 E.1.length, E.2.2) (am_zr u E.1.length)) ∧
  (∀ (l0 : am_V) (k : Nat) (o : Option Nat) (st : List am_V) (E : am_E) (u : am_M) (hk : E.1[k]? = some (2, 4)), Rn m_S_init 9 [l0] (vR o :: vR (some k) :: st) E u = Rn m_S_init 12 [l0] st (E.1, am_rp E.2.1 k 0 o, E.2.2) u) ∧
  (∀ (a : Option Nat) (st : List am_V) (E : am_E) (u : am_M), Rn m_S_init 12 [vR a] st E u = Rn m_S_init 13 [vR a] (vR a :: st) E u) ∧
  (∀ (l0 : am_V) (st : List am_V) (E : am_E) (u : am_M), Rn m_S_init 13 [l0] st E u = Rn m_S_init 14 [l0] (vI 1 :: st) E u) ∧
  (∀ (l0 : am_V) (k : Nat) (a : Int) (st : List am_V) (E : am_E) (u : am_M) (hk : E.1[k]? = some (2, 4)) (ha : a = 0 ∨ a = 1), Rn m_S_init 14 [l0] (vI a :: vR (some k) :: st) E u = Rn m_S_init 17 [l0] st E (am_up u k 1 a)) ∧
  (∀ (l0 : am_V) (E : am_E) (u : am_M), Rn m_S_init 17 [l0] [] E u = some (none, E, u)) :=
  ⟨fun a st E u => q_go (by decide +kernel : am_Pg 4 0 = some (.aload_n 0, 1, [], 0)) rfl,
  fun l0 k  E u => q_go (by decide +kernel : am_Pg 4 1 = some (.invokespecial 3, 3, [0], 0)) rfl,
  fun a st E u => q_go (by decide +kernel : am_Pg 4 4 = some (.aload_n 0, 1, [], 0)) rfl,
  fun l0 st E u => q_go (by decide +kernel : am_Pg 4 5 = some (.bipush 24, 2, [], 0)) rfl,
  fun l0 n st E u hn => q_go (by decide +kernel : am_Pg 4 7 = some (.newarray .long, 2, [], 0)) (by simp only [am_step]; rw [if_pos hn]; rfl),
  fun l0 k o st E u hk => q_pfR (by decide +kernel : am_Pg 4 9 = some (.putfield 9, 3, [2, 4, 0, 0], 0)) hk rfl,
  fun a st E u => q_go (by decide +kernel : am_Pg 4 12 = some (.aload_n 0, 1, [], 0)) rfl,
  fun l0 st E u => q_go (by decide +kernel : am_Pg 4 13 = some (.iconst 1, 1, [], 0)) rfl,
  fun l0 k a st E u hk ha => q_pfZ (by decide +kernel : am_Pg 4 14 = some (.putfield 15, 3, [2, 4, 1, 0], 0)) hk rfl ha,
  fun l0 E u => q_ret (by decide +kernel : am_Pg 4 17 = some (.return_, 1, [], 0)) rfl⟩
theorem x_C_empties :
  (∀ (l1 l2 : am_V) (a : Option Nat) (st : List am_V) (E : am_E) (u : am_M), Rn m_C_empties 0 [vR a, l1, l2] st E u = Rn m_C_empties 1 [vR a, l1, l2] (vR a :: st) E u) ∧
  (∀ (l0 l2 : am_V) (a : Int) (st : List am_V) (E : am_E) (u : am_M), Rn m_C_empties 1 [l0, vI a, l2] st E u = Rn m_C_empties 2 [l0, vI a, l2] (vI a :: st) E u) ∧
  (∀ (l0 l1 l2 : am_V) (k : Nat) (a : Int) (st : List am_V) (E : am_E) (u : am_M) (hE : SE E) (hk : cuB k), Rn m_C_empties 2 [l0, l1, l2] (vI a :: vR (some k) :: st) E u = Rn m_C_empties 5 [l0, l1, l2] st E (am_up u k 0 a)) ∧
  (∀ (l1 l2 : am_V) (a : Option Nat) (st : List am_V) (E : am_E) (u : am_M), Rn m_C_empties 5 [vR a, l1, l2] st E u = Rn m_C_empties 6 [vR a, l1, l2] (vR a :: st) E u) ∧
  (∀ (l0 l1 : am_V) (a : Int) (st : List am_V) (E : am_E) (u : am_M), Rn m_C_empties 6 [l0, l1, vI a] st E u = Rn m_C_empties 7 [l0, l1, vI a] (vI a :: st) E u) ∧
  (∀ (l0 l1 l2 : am_V) (k : Nat) (a : Int) (st : List am_V) (E : am_E) (u : am_M) (hE : SE E) (hk : cuB k), Rn m_C_empties 7 [l0, l1, l2] (vI a :: vR (some k) :: st) E u = Rn m_C_empties 10 [l0, l1, l2] st E (am_up u k 1 a)) ∧
  (∀ (l1 l2 : am_V) (a : Option Nat) (st : List am_V) (E : am_E) (u : am_M), Rn m_C_empties 10 [vR a, l1, l2] st E u = Rn m_C_empties 11 [vR a, l1, l2] (vR a :: st) E u) ∧
  (∀ (l0 l1 l2 : am_V) (st : List am_V) (E : am_E) (u : am_M), Rn m_C_empties 11 [l0, l1, l2] st E u = Rn m_C_empties 12 [l0, l1, l2] (vI 0 :: st) E u) ∧
  (∀ (l0 l1 l2 : am_V) (k : Nat) (a : Int) (st : List am_V) (E : am_E) (u : am_M) (hE : SE E) (hk : cuB k), Rn m_C_empties 12 [l0, l1, l2] (vI a :: vR (some k) :: st) E u = Rn m_C_empties 15 [l0, l1, l2] st E (am_up u k 2 a)) ∧
  (∀ (l1 l2 : am_V) (a : Option Nat) (st : List am_V) (E : am_E) (u : am_M), Rn m_C_empties 15 [vR a, l1, l2] st E u = Rn m_C_empties 16 [vR a, l1, l2] (vR a :: st) E u) ∧
  (∀ (l0 l1 l2 : am_V) (st : List am_V) (E : am_E) (u : am_M), Rn m_C_empties 16 [l0, l1, l2] st E u = Rn m_C_empties 17 [l0, l1, l2] (vI 0 :: st) E u) ∧
  (∀ (l0 l1 l2 : am_V) (k : Nat) (a : Int) (st : List am_V) (E : am_E) (u : am_M) (hE : SE E) (hk : cuB k), Rn m_C_empties 17 [l0, l1, l2] (vI a :: vR (some k) :: st) E u = Rn m_C_empties 20 [l0, l1, l2] st E (am_up u k 3 a)) ∧
  (∀ (l1 l2 : am_V) (a : Option Nat) (st : List am_V) (E : am_E) (u : am_M), Rn m_C_empties 20 [vR a, l1, l2] st E u = Rn m_C_empties 21 [vR a, l1, l2] (vR a :: st) E u) ∧
  (∀ (l0 l1 l2 : am_V) (st : List am_V) (E : am_E) (u : am_M), Rn m_C_empties 21 [l0, l1, l2] st E u = Rn m_C_empties 22 [l0, l1, l2] (vI 0 :: st) E u) ∧
  (∀ (l0 l1 l2 : am_V) (k : Nat) (a : Int) (st : List am_V) (E : am_E) (u : am_M) (hE : SE E) (hk : cuB k), Rn m_C_empties 22 [l0, l1, l2] (vI a :: vR (some k) :: st) E u = Rn m_C_empties 25 [l0, l1, l2] st E (am_up u k 4 a)) ∧
  (∀ (l1 l2 : am_V) (a : Option Nat) (st : List am_V) (E : am_E) (u : am_M), Rn m_C_empties 25 [vR a, l1, l2] st E u = Rn m_C_empties 26 [vR a, l1, l2] (vR a :: st) E u) ∧
  (∀ (l0 l1 l2 : am_V) (st : List am_V) (E : am_E) (u : am_M), Rn m_C_empties 26 [l0, l1, l2] st E u = Rn m_C_empties 27 [l0, l1, l2] (vI 0 :: st) E u) ∧
  (∀ (l0 l1 l2 : am_V) (k : Nat) (a : Int) (st : List am_V) (E : am_E) (u : am_M) (hE : SE E) (hk : cuB k), Rn m_C_empties 27 [l0, l1, l2] (vI a :: vR (some k) :: st) E u = Rn m_C_empties 30 [l0, l1, l2] st E (am_up u k 6 a)) ∧
  (∀ (l1 l2 : am_V) (a : Option Nat) (st : List am_V) (E : am_E) (u : am_M), Rn m_C_empties 30 [vR a, l1, l2] st E u = Rn m_C_empties 31 [vR a, l1, l2] (vR a :: st) E u) ∧
  (∀ (l0 l1 l2 : am_V) (st : List am_V) (E : am_E) (u : am_M), Rn m_C_empties 31 [l0, l1, l2] st E u = Rn m_C_empties 32 [l0, l1, l2] (vL 0 :: st) E u) ∧
  (∀ (l0 l1 l2 : am_V) (k : Nat) (a : Int) (st : List am_V) (E : am_E) (u : am_M) (hE : SE E) (hk : cuB k), Rn m_C_empties 32 [l0, l1, l2] (vL a :: vR (some k) :: st) E u = Rn m_C_empties 35 [l0, l1, l2] st E (am_up u k 7 a)) ∧
  (∀ (l1 l2 : am_V) (a : Option Nat) (st : List am_V) (E : am_E) (u : am_M), Rn m_C_empties 35 [vR a, l1, l2] st E u = Rn m_C_empties 36 [vR a, l1, l2] (vR a :: st) E u) ∧
  (∀ (l0 l1 l2 : am_V) (k : Nat) (st : List am_V) (E : am_E) (u : am_M) (hE : SE E) (hk : cuB k), Rn m_C_empties 36 [l0, l1, l2] (vR (some k) :: st) E u = Rn m_C_empties 39 [l0, l1, l2] (vR (some (k + 2)) :: st) E u) ∧
  (∀ (l0 l1 l2 : am_V) (st : List am_V) (E : am_E) (u : am_M), Rn m_C_empties 39 [l0, l1, l2] st E u = Rn m_C_empties 41 [l0, l1, l2] (vI (-4) :: st) E u) ∧
  (∀ (l0 l1 l2 : am_V) (a0 : Option Nat) (a1 : Int) (E : am_E) (u : am_M), Rn m_C_empties 41 [l0, l1, l2] [vI a1, vR a0] E u = bdV (Rn m_J_fillI 0 [vR a0, vI a1, vB false, vB false] [] E u) (KV m_C_empties 44 [l0, l1, l2] [])) ∧
  (∀ (l0 l1 l2 : am_V) (E : am_E) (u : am_M), Rn m_C_empties 44 [l0, l1, l2] [] E u = some (none, E, u)) :=
  ⟨fun l1 l2 a st E u => q_go (by decide +kernel : am_Pg 9 0 = some (.aload_n 0, 1, [], 0)) rfl,
  fun l0 l2 a st E u => q_go (by decide +kernel : am_Pg 9 1 = some (.iload_n 1, 1, [], 0)) rfl,
  fun l0 l1 l2 k a st E u hE hk => q_pfI (by decide +kernel : am_Pg 9 2 = some (.putfield 9, 3, [0, 14, 0, 0], 0)) (SE_k0 hE hk) rfl,
  fun l1 l2 a st E u => q_go (by decide +kernel : am_Pg 9 5 = some (.aload_n 0, 1, [], 0)) rfl,
  fun l0 l1 a st E u => q_go (by decide +kernel : am_Pg 9 6 = some (.iload_n 2, 1, [], 0)) rfl,
  fun l0 l1 l2 k a st E u hE hk => q_pfI (by decide +kernel : am_Pg 9 7 = some (.putfield 15, 3, [0, 14, 1, 0], 0)) (SE_k0 hE hk) rfl,
  fun l1 l2 a st E u => q_go (by decide +kernel : am_Pg 9 10 = some (.aload_n 0, 1, [], 0)) rfl,
  fun l0 l1 l2 st E u => q_go (by decide +kernel : am_Pg 9 11 = some (.iconst 0, 1, [], 0)) rfl,
  fun l0 l1 l2 k a st E u hE hk => q_pfI (by decide +kernel : am_Pg 9 12 = some (.putfield 46, 3, [0, 14, 2, 0], 0)) (SE_k0 hE hk) rfl,
  fun l1 l2 a st E u => q_go (by decide +kernel : am_Pg 9 15 = some (.aload_n 0, 1, [], 0)) rfl,
  fun l0 l1 l2 st E u => q_go (by decide +kernel : am_Pg 9 16 = some (.iconst 0, 1, [], 0)) rfl,
  fun l0 l1 l2 k a st E u hE hk => q_pfI (by decide +kernel : am_Pg 9 17 = some (.putfield 49, 3, [0, 14, 3, 0], 0)) (SE_k0 hE hk) rfl,
  fun l1 l2 a st E u => q_go (by decide +kernel : am_Pg 9 20 = some (.aload_n 0, 1, [], 0)) rfl,
  fun l0 l1 l2 st E u => q_go (by decide +kernel : am_Pg 9 21 = some (.iconst 0, 1, [], 0)) rfl,
  fun l0 l1 l2 k a st E u hE hk => q_pfI (by decide +kernel : am_Pg 9 22 = some (.putfield 52, 3, [0, 14, 4, 0], 0)) (SE_k0 hE hk) rfl,
  fun l1 l2 a st E u => q_go (by decide +kernel : am_Pg 9 25 = some (.aload_n 0, 1, [], 0)) rfl,
  fun l0 l1 l2 st E u => q_go (by decide +kernel : am_Pg 9 26 = some (.iconst 0, 1, [], 0)) rfl,
  fun l0 l1 l2 k a st E u hE hk => q_pfI (by decide +kernel : am_Pg 9 27 = some (.putfield 55, 3, [0, 14, 6, 0], 0)) (SE_k0 hE hk) rfl,
  fun l1 l2 a st E u => q_go (by decide +kernel : am_Pg 9 30 = some (.aload_n 0, 1, [], 0)) rfl,
  fun l0 l1 l2 st E u => q_go (by decide +kernel : am_Pg 9 31 = some (.lconst 0, 1, [], 0)) rfl,
  fun l0 l1 l2 k a st E u hE hk => q_pfL (by decide +kernel : am_Pg 9 32 = some (.putfield 58, 3, [0, 14, 7, 0], 0)) (SE_k0 hE hk) rfl,
  fun l1 l2 a st E u => q_go (by decide +kernel : am_Pg 9 35 = some (.aload_n 0, 1, [], 0)) rfl,
  fun l0 l1 l2 k st E u hE hk => q_gfR (by decide +kernel : am_Pg 9 36 = some (.getfield 25, 3, [0, 14, 9, 0], 0)) (SE_k0 hE hk) rfl (SE_r0_9 hE hk),
  fun l0 l1 l2 st E u => q_go (by decide +kernel : am_Pg 9 39 = some (.bipush (-4), 2, [], 0)) rfl,
  fun l0 l1 l2 a0 a1  E u => q_cV (by decide +kernel : am_Pg 9 41 = some (.invokestatic 40, 3, [2, 0, 2, 0], 0)) (am_call_S (f := fun _ _ => true) (a := [vR a0, vI a1]) (st' := []) (Nat.le_of_ble_eq_true rfl) rfl rfl) (by decide +kernel : am_Lm m_J_fillI = 4) (Nat.le_of_ble_eq_true rfl) rfl (by decide +kernel),
  fun l0 l1 l2 E u => q_ret (by decide +kernel : am_Pg 9 44 = some (.return_, 1, [], 0)) rfl⟩
theorem x_P_forgets :
  (∀ (a : Option Nat) (st : List am_V) (E : am_E) (u : am_M), Rn m_P_forgets 0 [vR a] st E u = Rn m_P_forgets 1 [vR a] (vR a :: st) E u) ∧
  (∀ (l0 : am_V) (st : List am_V) (E : am_E) (u : am_M), Rn m_P_forgets 1 [l0] st E u = Rn m_P_forgets 2 [l0] (vI 0 :: st) E u) ∧
  (∀ (l0 : am_V) (k : Nat) (a : Int) (st : List am_V) (E : am_E) (u : am_M) (hE : SE E) (hk : paB k), Rn m_P_forgets 2 [l0] (vI a :: vR (some k) :: st) E u = Rn m_P_forgets 5 [l0] st E (am_up u k 2 a)) ∧
  (∀ (l0 : am_V) (E : am_E) (u : am_M), Rn m_P_forgets 5 [l0] [] E u = some (none, E, u)) :=
  ⟨fun a st E u => q_go (by decide +kernel : am_Pg 10 0 = some (.aload_n 0, 1, [], 0)) rfl,
  fun l0 st E u => q_go (by decide +kernel : am_Pg 10 1 = some (.iconst 0, 1, [], 0)) rfl,
  fun l0 k a st E u hE hk => q_pfI (by decide +kernel : am_Pg 10 2 = some (.putfield 22, 3, [1, 3, 2, 0], 0)) (SE_k1 hE hk) rfl,
  fun l0 E u => q_ret (by decide +kernel : am_Pg 10 5 = some (.return_, 1, [], 0)) rfl⟩
theorem x_C_cellCount :
  (∀ (a : Option Nat) (st : List am_V) (E : am_E) (u : am_M), Rn m_C_cellCount 0 [vR a] st E u = Rn m_C_cellCount 1 [vR a] (vR a :: st) E u) ∧
  (∀ (l0 : am_V) (k : Nat) (st : List am_V) (E : am_E) (u : am_M) (hE : SE E) (hk : cuB k), Rn m_C_cellCount 1 [l0] (vR (some k) :: st) E u = Rn m_C_cellCount 4 [l0] (vI (u k 0) :: st) E u) ∧
  (∀ (a : Option Nat) (st : List am_V) (E : am_E) (u : am_M), Rn m_C_cellCount 4 [vR a] st E u = Rn m_C_cellCount 5 [vR a] (vR a :: st) E u) ∧
  (∀ (l0 : am_V) (k : Nat) (st : List am_V) (E : am_E) (u : am_M) (hE : SE E) (hk : cuB k), Rn m_C_cellCount 5 [l0] (vR (some k) :: st) E u = Rn m_C_cellCount 8 [l0] (vI (u k 1) :: st) E u) ∧
  (∀ (l0 : am_V) (a b : Int) (st : List am_V) (E : am_E) (u : am_M), Rn m_C_cellCount 8 [l0] (vI b :: vI a :: st) E u = Rn m_C_cellCount 9 [l0] (vI (w32 (a * b)) :: st) E u) ∧
  (∀ (l0 : am_V) (a : Int) (E : am_E) (u : am_M), Rn m_C_cellCount 9 [l0] [vI a] E u = some (some (vI a), E, u)) :=
  ⟨fun a st E u => q_go (by decide +kernel : am_Pg 11 0 = some (.aload_n 0, 1, [], 0)) rfl,
  fun l0 k st E u hE hk => q_gfI (by decide +kernel : am_Pg 11 1 = some (.getfield 9, 3, [0, 14, 0, 0], 0)) (SE_k0 hE hk) (by decide),
  fun a st E u => q_go (by decide +kernel : am_Pg 11 4 = some (.aload_n 0, 1, [], 0)) rfl,
  fun l0 k st E u hE hk => q_gfI (by decide +kernel : am_Pg 11 5 = some (.getfield 15, 3, [0, 14, 1, 0], 0)) (SE_k0 hE hk) (by decide),
  fun l0 a b st E u => q_go (by decide +kernel : am_Pg 11 8 = some (.imul, 1, [], 0)) rfl,
  fun l0 a E u => q_ret (by decide +kernel : am_Pg 11 9 = some (.ireturn, 1, [], 0)) rfl⟩
theorem x_C_isCell :
  (∀ (l0 : am_V) (a : Int) (st : List am_V) (E : am_E) (u : am_M), Rn m_C_isCell 0 [l0, vI a] st E u = Rn m_C_isCell 1 [l0, vI a] (vI a :: st) E u) ∧
  (∀ (l0 l1 : am_V) (a : Int) (st : List am_V) (E : am_E) (u : am_M), Rn m_C_isCell 1 [l0, l1] (vI a :: st) E u = if a < 0 then Rn m_C_isCell 21 [l0, l1] st E u else Rn m_C_isCell 4 [l0, l1] st E u) ∧
  (∀ (l0 : am_V) (a : Int) (st : List am_V) (E : am_E) (u : am_M), Rn m_C_isCell 4 [l0, vI a] st E u = Rn m_C_isCell 5 [l0, vI a] (vI a :: st) E u) ∧
  (∀ (l1 : am_V) (a : Option Nat) (st : List am_V) (E : am_E) (u : am_M), Rn m_C_isCell 5 [vR a, l1] st E u = Rn m_C_isCell 6 [vR a, l1] (vR a :: st) E u) ∧
  (∀ (l0 l1 : am_V) (k : Nat) (st : List am_V) (E : am_E) (u : am_M) (hE : SE E) (hk : cuB k), Rn m_C_isCell 6 [l0, l1] (vR (some k) :: st) E u = Rn m_C_isCell 9 [l0, l1] (vI (u k 0) :: st) E u) ∧
  (∀ (l1 : am_V) (a : Option Nat) (st : List am_V) (E : am_E) (u : am_M), Rn m_C_isCell 9 [vR a, l1] st E u = Rn m_C_isCell 10 [vR a, l1] (vR a :: st) E u) ∧
  (∀ (l0 l1 : am_V) (k : Nat) (st : List am_V) (E : am_E) (u : am_M) (hE : SE E) (hk : cuB k), Rn m_C_isCell 10 [l0, l1] (vR (some k) :: st) E u = Rn m_C_isCell 13 [l0, l1] (vI (u k 1) :: st) E u) ∧
  (∀ (l0 l1 : am_V) (a b : Int) (st : List am_V) (E : am_E) (u : am_M), Rn m_C_isCell 13 [l0, l1] (vI b :: vI a :: st) E u = Rn m_C_isCell 14 [l0, l1] (vI (w32 (a * b)) :: st) E u) ∧
  (∀ (l0 l1 : am_V) (a b : Int) (st : List am_V) (E : am_E) (u : am_M), Rn m_C_isCell 14 [l0, l1] (vI b :: vI a :: st) E u = if a < b then Rn m_C_isCell 17 [l0, l1] st E u else Rn m_C_isCell 21 [l0, l1] st E u) ∧
  (∀ (l0 l1 : am_V) (st : List am_V) (E : am_E) (u : am_M), Rn m_C_isCell 17 [l0, l1] st E u = Rn m_C_isCell 18 [l0, l1] (vI 1 :: st) E u) ∧
  (∀ (l0 l1 : am_V) (st : List am_V) (E : am_E) (u : am_M), Rn m_C_isCell 18 [l0, l1] st E u = Rn m_C_isCell 22 [l0, l1] st E u) ∧
  (∀ (l0 l1 : am_V) (st : List am_V) (E : am_E) (u : am_M), Rn m_C_isCell 21 [l0, l1] st E u = Rn m_C_isCell 22 [l0, l1] (vI 0 :: st) E u) ∧
  (∀ (l0 l1 : am_V) (b : Bool) (E : am_E) (u : am_M), Rn m_C_isCell 22 [l0, l1] [vI (bI b)] E u = some (some (vI (bI b)), E, u)) ∧
  (∀ (l0 l1 : am_V) (E : am_E) (u : am_M), Rn m_C_isCell 22 [l0, l1] [vI 1] E u = some (some (vI 1), E, u)) ∧
  (∀ (l0 l1 : am_V) (E : am_E) (u : am_M), Rn m_C_isCell 22 [l0, l1] [vI 0] E u = some (some (vI 0), E, u)) :=
  ⟨fun l0 a st E u => q_go (by decide +kernel : am_Pg 16 0 = some (.iload_n 1, 1, [], 0)) rfl,
  fun l0 l1 a st E u => q_if_lt (tgt := 21) (by decide +kernel : am_Pg 16 1 = some (.ifCond .lt 20, 3, [], 0)) (by decide),
  fun l0 a st E u => q_go (by decide +kernel : am_Pg 16 4 = some (.iload_n 1, 1, [], 0)) rfl,
  fun l1 a st E u => q_go (by decide +kernel : am_Pg 16 5 = some (.aload_n 0, 1, [], 0)) rfl,
  fun l0 l1 k st E u hE hk => q_gfI (by decide +kernel : am_Pg 16 6 = some (.getfield 9, 3, [0, 14, 0, 0], 0)) (SE_k0 hE hk) (by decide),
  fun l1 a st E u => q_go (by decide +kernel : am_Pg 16 9 = some (.aload_n 0, 1, [], 0)) rfl,
  fun l0 l1 k st E u hE hk => q_gfI (by decide +kernel : am_Pg 16 10 = some (.getfield 15, 3, [0, 14, 1, 0], 0)) (SE_k0 hE hk) (by decide),
  fun l0 l1 a b st E u => q_go (by decide +kernel : am_Pg 16 13 = some (.imul, 1, [], 0)) rfl,
  fun l0 l1 a b st E u => q_icmp_ge (tgt := 21) (by decide +kernel : am_Pg 16 14 = some (.if_icmp .ge 7, 3, [], 0)) (by decide),
  fun l0 l1 st E u => q_go (by decide +kernel : am_Pg 16 17 = some (.iconst 1, 1, [], 0)) rfl,
  fun l0 l1 st E u => q_go (by decide +kernel : am_Pg 16 18 = some (.goto 4, 3, [], 0)) rfl,
  fun l0 l1 st E u => q_go (by decide +kernel : am_Pg 16 21 = some (.iconst 0, 1, [], 0)) rfl,
  fun l0 l1 b E u => by cases b <;> exact q_ret (by decide +kernel : am_Pg 16 22 = some (.ireturn, 1, [1], 0)) rfl,
  fun l0 l1 E u => q_ret (by decide +kernel : am_Pg 16 22 = some (.ireturn, 1, [1], 0)) rfl,
  fun l0 l1 E u => q_ret (by decide +kernel : am_Pg 16 22 = some (.ireturn, 1, [1], 0)) rfl⟩
theorem h_C_pinOn_2 : ∀ (l0 l1 : am_V) (a : Int) (st : List am_V) (E : am_E) (u : am_M), Rn m_C_pinOn 2 [l0, l1, vI a] st E u = Rn m_C_pinOn 3 [l0, l1, vI a] (vI a :: st) E u :=
  fun l0 l1 a st E u => q_go (by decide +kernel : am_Pg 17 2 = some (.iload_n 2, 1, [], 0)) rfl
theorem x_C_pinOn :
  (∀ (l0 l1 l2 : am_V) (st : List am_V) (E : am_E) (u : am_M), Rn m_C_pinOn 0 [l0, l1, l2] st E u = Rn m_C_pinOn 1 [l0, l1, l2] (vI 0 :: st) E u) ∧
  (∀ (l0 l1 l2 : am_V) (a : Int) (st : List am_V) (E : am_E) (u : am_M), Rn m_C_pinOn 1 [l0, l1, l2] (vI a :: st) E u = Rn m_C_pinOn 2 [l0, am_fx l1, vI a] st E u) ∧
  (∀ (l1 l2 : am_V) (a : Option Nat) (st : List am_V) (E : am_E) (u : am_M), Rn m_C_pinOn 3 [vR a, l1, l2] st E u = Rn m_C_pinOn 4 [vR a, l1, l2] (vR a :: st) E u) ∧
  (∀ (l0 l1 l2 : am_V) (k : Nat) (st : List am_V) (E : am_E) (u : am_M) (hE : SE E) (hk : cuB k), Rn m_C_pinOn 4 [l0, l1, l2] (vR (some k) :: st) E u = Rn m_C_pinOn 7 [l0, l1, l2] (vR (some (k + 2)) :: st) E u) ∧
  (∀ (l0 l1 l2 : am_V) (k : Nat) (st : List am_V) (E : am_E) (u : am_M) (hk : am_kn E k = 10), Rn m_C_pinOn 7 [l0, l1, l2] (vR (some k) :: st) E u = Rn m_C_pinOn 8 [l0, l1, l2] (vI (am_len 10 E k) :: st) E u) ∧
  (∀ (l0 l1 l2 : am_V) (a b : Int) (st : List am_V) (E : am_E) (u : am_M), Rn m_C_pinOn 8 [l0, l1, l2] (vI b :: vI a :: st) E u = if a < b then Rn m_C_pinOn 11 [l0, l1, l2] st E u else Rn m_C_pinOn 29 [l0, l1, l2] st E u) ∧
  (∀ (l1 l2 : am_V) (a : Option Nat) (st : List am_V) (E : am_E) (u : am_M), Rn m_C_pinOn 11 [vR a, l1, l2] st E u = Rn m_C_pinOn 12 [vR a, l1, l2] (vR a :: st) E u) ∧
  (∀ (l0 l1 l2 : am_V) (k : Nat) (st : List am_V) (E : am_E) (u : am_M) (hE : SE E) (hk : cuB k), Rn m_C_pinOn 12 [l0, l1, l2] (vR (some k) :: st) E u = Rn m_C_pinOn 15 [l0, l1, l2] (vR (some (k + 2)) :: st) E u) ∧
  (∀ (l0 l1 : am_V) (a : Int) (st : List am_V) (E : am_E) (u : am_M), Rn m_C_pinOn 15 [l0, l1, vI a] st E u = Rn m_C_pinOn 16 [l0, l1, vI a] (vI a :: st) E u) ∧
  (∀ (l0 l1 l2 : am_V) (k : Nat) (i : Int) (st : List am_V) (E : am_E) (u : am_M) (h0 : 0 ≤ i) (h1 : i < am_len 10 E k), Rn m_C_pinOn 16 [l0, l1, l2] (vI i :: vR (some k) :: st) E u = Rn m_C_pinOn 17 [l0, l1, l2] (vI (u k i.toNat) :: st) E u) ∧
  (∀ (l0 l2 : am_V) (a : Int) (st : List am_V) (E : am_E) (u : am_M), Rn m_C_pinOn 17 [l0, vI a, l2] st E u = Rn m_C_pinOn 18 [l0, vI a, l2] (vI a :: st) E u) ∧
  (∀ (l0 l1 l2 : am_V) (a b : Int) (st : List am_V) (E : am_E) (u : am_M), Rn m_C_pinOn 18 [l0, l1, l2] (vI b :: vI a :: st) E u = if a = b then Rn m_C_pinOn 21 [l0, l1, l2] st E u else Rn m_C_pinOn 23 [l0, l1, l2] st E u) ∧
  (∀ (l0 l1 : am_V) (a : Int) (st : List am_V) (E : am_E) (u : am_M), Rn m_C_pinOn 21 [l0, l1, vI a] st E u = Rn m_C_pinOn 22 [l0, l1, vI a] (vI a :: st) E u) ∧
  (∀ (l0 l1 l2 : am_V) (a : Int) (E : am_E) (u : am_M), Rn m_C_pinOn 22 [l0, l1, l2] [vI a] E u = some (some (vI a), E, u)) ∧
  (∀ (l0 l1 : am_V) (a : Int) (st : List am_V) (E : am_E) (u : am_M), Rn m_C_pinOn 23 [l0, l1, vI a] st E u = Rn m_C_pinOn 26 [l0, am_fx l1, vI (w32 (a + 1))] st E u) ∧
  (∀ (l0 l1 l2 : am_V) (st : List am_V) (E : am_E) (u : am_M), Rn m_C_pinOn 26 [l0, l1, l2] st E u = Rn m_C_pinOn 2 [l0, l1, l2] st E u) ∧
  (∀ (l0 l1 l2 : am_V) (st : List am_V) (E : am_E) (u : am_M), Rn m_C_pinOn 29 [l0, l1, l2] st E u = Rn m_C_pinOn 31 [l0, l1, l2] (vI (-4) :: st) E u) ∧
  (∀ (l0 l1 l2 : am_V) (a : Int) (E : am_E) (u : am_M), Rn m_C_pinOn 31 [l0, l1, l2] [vI a] E u = some (some (vI a), E, u)) :=
  ⟨fun l0 l1 l2 st E u => q_go (by decide +kernel : am_Pg 17 0 = some (.iconst 0, 1, [], 0)) rfl,
  fun l0 l1 l2 a st E u => q_go (by decide +kernel : am_Pg 17 1 = some (.istore_n 2, 1, [], 0)) rfl,
  fun l1 l2 a st E u => q_go (by decide +kernel : am_Pg 17 3 = some (.aload_n 0, 1, [], 0)) rfl,
  fun l0 l1 l2 k st E u hE hk => q_gfR (by decide +kernel : am_Pg 17 4 = some (.getfield 25, 3, [0, 14, 9, 0], 0)) (SE_k0 hE hk) rfl (SE_r0_9 hE hk),
  fun l0 l1 l2 k st E u hk => q_alI (by decide +kernel : am_Pg 17 7 = some (.arraylength, 1, [], 0)) hk (by decide) (by decide),
  fun l0 l1 l2 a b st E u => q_icmp_ge (tgt := 29) (by decide +kernel : am_Pg 17 8 = some (.if_icmp .ge 21, 3, [], 0)) (by decide),
  fun l1 l2 a st E u => q_go (by decide +kernel : am_Pg 17 11 = some (.aload_n 0, 1, [], 0)) rfl,
  fun l0 l1 l2 k st E u hE hk => q_gfR (by decide +kernel : am_Pg 17 12 = some (.getfield 25, 3, [0, 14, 9, 0], 0)) (SE_k0 hE hk) rfl (SE_r0_9 hE hk),
  fun l0 l1 a st E u => q_go (by decide +kernel : am_Pg 17 15 = some (.iload_n 2, 1, [], 0)) rfl,
  fun l0 l1 l2 k i st E u h0 h1 => q_iald (by decide +kernel : am_Pg 17 16 = some (.iaload, 1, [], 0)) h0 h1,
  fun l0 l2 a st E u => q_go (by decide +kernel : am_Pg 17 17 = some (.iload_n 1, 1, [], 0)) rfl,
  fun l0 l1 l2 a b st E u => q_icmp_ne (tgt := 23) (by decide +kernel : am_Pg 17 18 = some (.if_icmp .ne 5, 3, [], 0)) (by decide),
  fun l0 l1 a st E u => q_go (by decide +kernel : am_Pg 17 21 = some (.iload_n 2, 1, [], 0)) rfl,
  fun l0 l1 l2 a E u => q_ret (by decide +kernel : am_Pg 17 22 = some (.ireturn, 1, [], 0)) rfl,
  fun l0 l1 a st E u => q_go (by decide +kernel : am_Pg 17 23 = some (.iinc 2 1, 3, [], 0)) rfl,
  fun l0 l1 l2 st E u => q_go (by decide +kernel : am_Pg 17 26 = some (.goto (-24), 3, [], 0)) rfl,
  fun l0 l1 l2 st E u => q_go (by decide +kernel : am_Pg 17 29 = some (.bipush (-4), 2, [], 0)) rfl,
  fun l0 l1 l2 a E u => q_ret (by decide +kernel : am_Pg 17 31 = some (.ireturn, 1, [], 0)) rfl⟩
theorem x_C_thingOn :
  (∀ (l1 : am_V) (a : Option Nat) (st : List am_V) (E : am_E) (u : am_M), Rn m_C_thingOn 0 [vR a, l1] st E u = Rn m_C_thingOn 1 [vR a, l1] (vR a :: st) E u) ∧
  (∀ (l0 l1 : am_V) (k : Nat) (st : List am_V) (E : am_E) (u : am_M) (hE : SE E) (hk : cuB k), Rn m_C_thingOn 1 [l0, l1] (vR (some k) :: st) E u = Rn m_C_thingOn 4 [l0, l1] (vL (u k 7) :: st) E u) ∧
  (∀ (l0 : am_V) (a : Int) (st : List am_V) (E : am_E) (u : am_M), Rn m_C_thingOn 4 [l0, vI a] st E u = Rn m_C_thingOn 5 [l0, vI a] (vI a :: st) E u) ∧
  (∀ (l0 l1 : am_V) (a b : Int) (st : List am_V) (E : am_E) (u : am_M), Rn m_C_thingOn 5 [l0, l1] (vI b :: vL a :: st) E u = Rn m_C_thingOn 6 [l0, l1] (vL (l_ush a b) :: st) E u) ∧
  (∀ (l0 l1 : am_V) (st : List am_V) (E : am_E) (u : am_M), Rn m_C_thingOn 6 [l0, l1] st E u = Rn m_C_thingOn 7 [l0, l1] (vL 1 :: st) E u) ∧
  (∀ (l0 l1 : am_V) (a b : Int) (st : List am_V) (E : am_E) (u : am_M), Rn m_C_thingOn 7 [l0, l1] (vL b :: vL a :: st) E u = Rn m_C_thingOn 8 [l0, l1] (vL (l_and a b) :: st) E u) ∧
  (∀ (l0 l1 : am_V) (st : List am_V) (E : am_E) (u : am_M), Rn m_C_thingOn 8 [l0, l1] st E u = Rn m_C_thingOn 9 [l0, l1] (vL 0 :: st) E u) ∧
  (∀ (l0 l1 : am_V) (a b : Int) (st : List am_V) (E : am_E) (u : am_M), Rn m_C_thingOn 9 [l0, l1] (vL b :: vL a :: st) E u = Rn m_C_thingOn 10 [l0, l1] (vI (l_cmp a b) :: st) E u) ∧
  (∀ (l0 l1 : am_V) (a : Int) (st : List am_V) (E : am_E) (u : am_M), Rn m_C_thingOn 10 [l0, l1] (vI a :: st) E u = if a = 0 then Rn m_C_thingOn 18 [l0, l1] st E u else Rn m_C_thingOn 13 [l0, l1] st E u) ∧
  (∀ (l0 l1 : am_V) (st : List am_V) (E : am_E) (u : am_M), Rn m_C_thingOn 13 [l0, l1] st E u = Rn m_C_thingOn 15 [l0, l1] (vI 100 :: st) E u) ∧
  (∀ (l0 l1 : am_V) (st : List am_V) (E : am_E) (u : am_M), Rn m_C_thingOn 15 [l0, l1] st E u = Rn m_C_thingOn 23 [l0, l1] st E u) ∧
  (∀ (l1 : am_V) (a : Option Nat) (st : List am_V) (E : am_E) (u : am_M), Rn m_C_thingOn 18 [vR a, l1] st E u = Rn m_C_thingOn 19 [vR a, l1] (vR a :: st) E u) ∧
  (∀ (l0 : am_V) (a : Int) (st : List am_V) (E : am_E) (u : am_M), Rn m_C_thingOn 19 [l0, vI a] st E u = Rn m_C_thingOn 20 [l0, vI a] (vI a :: st) E u) ∧
  (∀ (l0 l1 : am_V) (k : Nat) (a0 : Int) (E : am_E) (u : am_M) (hE : SE E) (hk : cuB k), Rn m_C_thingOn 20 [l0, l1] [vI a0, vR (some k)] E u = bdI (Rn m_C_pinOn 0 [vR (some k), vI a0, vB false] [] E u) (KI m_C_thingOn 23 [l0, l1] [])) ∧
  (∀ (l0 l1 : am_V) (a : Int) (E : am_E) (u : am_M), Rn m_C_thingOn 23 [l0, l1] [vI a] E u = some (some (vI a), E, u)) :=
  ⟨fun l1 a st E u => q_go (by decide +kernel : am_Pg 18 0 = some (.aload_n 0, 1, [], 0)) rfl,
  fun l0 l1 k st E u hE hk => q_gfL (by decide +kernel : am_Pg 18 1 = some (.getfield 58, 3, [0, 14, 7, 0], 0)) (SE_k0 hE hk) rfl,
  fun l0 a st E u => q_go (by decide +kernel : am_Pg 18 4 = some (.iload_n 1, 1, [], 0)) rfl,
  fun l0 l1 a b st E u => q_go (by decide +kernel : am_Pg 18 5 = some (.lushr, 1, [], 0)) rfl,
  fun l0 l1 st E u => q_go (by decide +kernel : am_Pg 18 6 = some (.lconst 1, 1, [], 0)) rfl,
  fun l0 l1 a b st E u => q_go (by decide +kernel : am_Pg 18 7 = some (.land, 1, [], 0)) rfl,
  fun l0 l1 st E u => q_go (by decide +kernel : am_Pg 18 8 = some (.lconst 0, 1, [], 0)) rfl,
  fun l0 l1 a b st E u => q_go (by decide +kernel : am_Pg 18 9 = some (.lcmp, 1, [], 0)) rfl,
  fun l0 l1 a st E u => q_if_eq (tgt := 18) (by decide +kernel : am_Pg 18 10 = some (.ifCond .eq 8, 3, [], 0)) (by decide),
  fun l0 l1 st E u => q_go (by decide +kernel : am_Pg 18 13 = some (.bipush 100, 2, [], 0)) rfl,
  fun l0 l1 st E u => q_go (by decide +kernel : am_Pg 18 15 = some (.goto 8, 3, [], 0)) rfl,
  fun l1 a st E u => q_go (by decide +kernel : am_Pg 18 18 = some (.aload_n 0, 1, [], 0)) rfl,
  fun l0 a st E u => q_go (by decide +kernel : am_Pg 18 19 = some (.iload_n 1, 1, [], 0)) rfl,
  fun l0 l1 k a0  E u hE hk => q_cI (by decide +kernel : am_Pg 18 20 = some (.invokevirtual 83, 3, [3, 17, 2, 0, 14, 0], 0)) (am_call_V (a := [vI a0]) (st' := []) (Nat.le_of_ble_eq_true rfl) rfl (SE_k0 hE hk)) (by decide +kernel : am_Lm m_C_pinOn = 3) (Nat.le_of_ble_eq_true rfl) rfl (by decide +kernel),
  fun l0 l1 a E u => q_ret (by decide +kernel : am_Pg 18 23 = some (.ireturn, 1, [], 0)) rfl⟩
theorem x_C_addPin :
  (∀ (l1 l2 l3 l4 : am_V) (a : Option Nat) (st : List am_V) (E : am_E) (u : am_M), Rn m_C_addPin 0 [vR a, l1, l2, l3, l4] st E u = Rn m_C_addPin 1 [vR a, l1, l2, l3, l4] (vR a :: st) E u) ∧
  (∀ (l0 l1 l2 l3 l4 : am_V) (k : Nat) (st : List am_V) (E : am_E) (u : am_M) (hE : SE E) (hk : cuB k), Rn m_C_addPin 1 [l0, l1, l2, l3, l4] (vR (some k) :: st) E u = Rn m_C_addPin 4 [l0, l1, l2, l3, l4] (vI (u k 2) :: st) E u) ∧
  (∀ (l0 l1 l2 l3 l4 : am_V) (a : Int) (st : List am_V) (E : am_E) (u : am_M), Rn m_C_addPin 4 [l0, l1, l2, l3, l4] (vI a :: st) E u = Rn m_C_addPin 6 [l0, l1, l2, am_fx l3, vI a] st E u) ∧
  (∀ (l1 l2 l3 l4 : am_V) (a : Option Nat) (st : List am_V) (E : am_E) (u : am_M), Rn m_C_addPin 6 [vR a, l1, l2, l3, l4] st E u = Rn m_C_addPin 7 [vR a, l1, l2, l3, l4] (vR a :: st) E u) ∧
  (∀ (l0 l1 l2 l3 l4 : am_V) (k : Nat) (st : List am_V) (E : am_E) (u : am_M) (hE : SE E) (hk : cuB k), Rn m_C_addPin 7 [l0, l1, l2, l3, l4] (vR (some k) :: st) E u = Rn m_C_addPin 10 [l0, l1, l2, l3, l4] (vR (some (k + 1)) :: st) E u) ∧
  (∀ (l0 l1 l2 l3 : am_V) (a : Int) (st : List am_V) (E : am_E) (u : am_M), Rn m_C_addPin 10 [l0, l1, l2, l3, vI a] st E u = Rn m_C_addPin 12 [l0, l1, l2, l3, vI a] (vI a :: st) E u) ∧
  (∀ (l0 l2 l3 l4 : am_V) (a : Int) (st : List am_V) (E : am_E) (u : am_M), Rn m_C_addPin 12 [l0, vI a, l2, l3, l4] st E u = Rn m_C_addPin 13 [l0, vI a, l2, l3, l4] (vI a :: st) E u) ∧
  (∀ (l0 l1 l2 l3 l4 : am_V) (a0 : Option Nat) (a1 : Int) (a2 : Int) (E : am_E) (u : am_M), Rn m_C_addPin 13 [l0, l1, l2, l3, l4] [vI a2, vI a1, vR a0] E u = bdV (Rn m_A_lay 0 [vR a0, vI a1, vI a2] [] E u) (KV m_C_addPin 16 [l0, l1, l2, l3, l4] [])) ∧
  (∀ (l1 l2 l3 l4 : am_V) (a : Option Nat) (st : List am_V) (E : am_E) (u : am_M), Rn m_C_addPin 16 [vR a, l1, l2, l3, l4] st E u = Rn m_C_addPin 17 [vR a, l1, l2, l3, l4] (vR a :: st) E u) ∧
  (∀ (l0 l1 l2 l3 l4 : am_V) (k : Nat) (st : List am_V) (E : am_E) (u : am_M) (hE : SE E) (hk : cuB k), Rn m_C_addPin 17 [l0, l1, l2, l3, l4] (vR (some k) :: st) E u = Rn m_C_addPin 20 [l0, l1, l2, l3, l4] (vR (some (k + 2)) :: st) E u) ∧
  (∀ (l0 l1 l2 l3 : am_V) (a : Int) (st : List am_V) (E : am_E) (u : am_M), Rn m_C_addPin 20 [l0, l1, l2, l3, vI a] st E u = Rn m_C_addPin 22 [l0, l1, l2, l3, vI a] (vI a :: st) E u) ∧
  (∀ (l0 l1 l3 l4 : am_V) (a : Int) (st : List am_V) (E : am_E) (u : am_M), Rn m_C_addPin 22 [l0, l1, vI a, l3, l4] st E u = Rn m_C_addPin 23 [l0, l1, vI a, l3, l4] (vI a :: st) E u) ∧
  (∀ (l0 l1 l2 l3 l4 : am_V) (a0 : Option Nat) (a1 : Int) (a2 : Int) (E : am_E) (u : am_M), Rn m_C_addPin 23 [l0, l1, l2, l3, l4] [vI a2, vI a1, vR a0] E u = bdV (Rn m_A_lay 0 [vR a0, vI a1, vI a2] [] E u) (KV m_C_addPin 26 [l0, l1, l2, l3, l4] [])) ∧
  (∀ (l1 l2 l3 l4 : am_V) (a : Option Nat) (st : List am_V) (E : am_E) (u : am_M), Rn m_C_addPin 26 [vR a, l1, l2, l3, l4] st E u = Rn m_C_addPin 27 [vR a, l1, l2, l3, l4] (vR a :: st) E u) ∧
  (∀ (l0 l1 l2 l3 l4 : am_V) (k : Nat) (st : List am_V) (E : am_E) (u : am_M) (hE : SE E) (hk : cuB k), Rn m_C_addPin 27 [l0, l1, l2, l3, l4] (vR (some k) :: st) E u = Rn m_C_addPin 30 [l0, l1, l2, l3, l4] (vR (some (k + 3)) :: st) E u) ∧
  (∀ (l0 l1 l2 l3 : am_V) (a : Int) (st : List am_V) (E : am_E) (u : am_M), Rn m_C_addPin 30 [l0, l1, l2, l3, vI a] st E u = Rn m_C_addPin 32 [l0, l1, l2, l3, vI a] (vI a :: st) E u) ∧
  (∀ (l0 l1 l2 l4 : am_V) (a : Int) (st : List am_V) (E : am_E) (u : am_M), Rn m_C_addPin 32 [l0, l1, l2, vI a, l4] st E u = Rn m_C_addPin 33 [l0, l1, l2, vI a, l4] (vI a :: st) E u) ∧
  (∀ (l0 l1 l2 l3 l4 : am_V) (a0 : Option Nat) (a1 : Int) (a2 : Int) (E : am_E) (u : am_M), Rn m_C_addPin 33 [l0, l1, l2, l3, l4] [vI a2, vI a1, vR a0] E u = bdV (Rn m_A_lay 0 [vR a0, vI a1, vI a2] [] E u) (KV m_C_addPin 36 [l0, l1, l2, l3, l4] [])) ∧
  (∀ (l1 l2 l3 l4 : am_V) (a : Option Nat) (st : List am_V) (E : am_E) (u : am_M), Rn m_C_addPin 36 [vR a, l1, l2, l3, l4] st E u = Rn m_C_addPin 37 [vR a, l1, l2, l3, l4] (vR a :: st) E u) ∧
  (∀ (l0 l1 l2 l3 l4 : am_V) (a : Int) (st : List am_V) (E : am_E) (u : am_M), Rn m_C_addPin 37 [l0, l1, l2, l3, l4] (vI a :: st) E u = Rn m_C_addPin 38 [l0, l1, l2, l3, l4] (vI a :: vI a :: st) E u) ∧
  (∀ (l0 l1 l2 l3 l4 : am_V) (a : Option Nat) (st : List am_V) (E : am_E) (u : am_M), Rn m_C_addPin 37 [l0, l1, l2, l3, l4] (vR a :: st) E u = Rn m_C_addPin 38 [l0, l1, l2, l3, l4] (vR a :: vR a :: st) E u) ∧
  (∀ (l0 l1 l2 l3 l4 : am_V) (k : Nat) (st : List am_V) (E : am_E) (u : am_M) (hE : SE E) (hk : cuB k), Rn m_C_addPin 38 [l0, l1, l2, l3, l4] (vR (some k) :: st) E u = Rn m_C_addPin 41 [l0, l1, l2, l3, l4] (vI (u k 2) :: st) E u) ∧
  (∀ (l0 l1 l2 l3 l4 : am_V) (st : List am_V) (E : am_E) (u : am_M), Rn m_C_addPin 41 [l0, l1, l2, l3, l4] st E u = Rn m_C_addPin 42 [l0, l1, l2, l3, l4] (vI 1 :: st) E u) ∧
  (∀ (l0 l1 l2 l3 l4 : am_V) (a b : Int) (st : List am_V) (E : am_E) (u : am_M), Rn m_C_addPin 42 [l0, l1, l2, l3, l4] (vI b :: vI a :: st) E u = Rn m_C_addPin 43 [l0, l1, l2, l3, l4] (vI (w32 (a + b)) :: st) E u) ∧
  (∀ (l0 l1 l2 l3 l4 : am_V) (k : Nat) (a : Int) (st : List am_V) (E : am_E) (u : am_M) (hE : SE E) (hk : cuB k), Rn m_C_addPin 43 [l0, l1, l2, l3, l4] (vI a :: vR (some k) :: st) E u = Rn m_C_addPin 46 [l0, l1, l2, l3, l4] st E (am_up u k 2 a)) ∧
  (∀ (l0 l1 l2 l3 : am_V) (a : Int) (st : List am_V) (E : am_E) (u : am_M), Rn m_C_addPin 46 [l0, l1, l2, l3, vI a] st E u = Rn m_C_addPin 48 [l0, l1, l2, l3, vI a] (vI a :: st) E u) ∧
  (∀ (l0 l1 l2 l3 l4 : am_V) (a : Int) (E : am_E) (u : am_M), Rn m_C_addPin 48 [l0, l1, l2, l3, l4] [vI a] E u = some (some (vI a), E, u)) :=
  ⟨fun l1 l2 l3 l4 a st E u => q_go (by decide +kernel : am_Pg 20 0 = some (.aload_n 0, 1, [], 0)) rfl,
  fun l0 l1 l2 l3 l4 k st E u hE hk => q_gfI (by decide +kernel : am_Pg 20 1 = some (.getfield 46, 3, [0, 14, 2, 0], 0)) (SE_k0 hE hk) (by decide),
  fun l0 l1 l2 l3 l4 a st E u => q_go (by decide +kernel : am_Pg 20 4 = some (.istore 4, 2, [], 0)) rfl,
  fun l1 l2 l3 l4 a st E u => q_go (by decide +kernel : am_Pg 20 6 = some (.aload_n 0, 1, [], 0)) rfl,
  fun l0 l1 l2 l3 l4 k st E u hE hk => q_gfR (by decide +kernel : am_Pg 20 7 = some (.getfield 21, 3, [0, 14, 8, 0], 0)) (SE_k0 hE hk) rfl (SE_r0_8 hE hk),
  fun l0 l1 l2 l3 a st E u => q_go (by decide +kernel : am_Pg 20 10 = some (.iload 4, 2, [], 0)) rfl,
  fun l0 l2 l3 l4 a st E u => q_go (by decide +kernel : am_Pg 20 12 = some (.iload_n 1, 1, [], 0)) rfl,
  fun l0 l1 l2 l3 l4 a0 a1 a2  E u => q_cV (by decide +kernel : am_Pg 20 13 = some (.invokestatic 70, 3, [2, 19, 3, 1], 0)) (am_call_S (f := fun _ _ => true) (a := [vR a0, vI a1, vI a2]) (st' := []) (Nat.le_of_ble_eq_true rfl) rfl rfl) (by decide +kernel : am_Lm m_A_lay = 3) (Nat.le_of_ble_eq_true rfl) rfl (by decide +kernel),
  fun l1 l2 l3 l4 a st E u => q_go (by decide +kernel : am_Pg 20 16 = some (.aload_n 0, 1, [], 0)) rfl,
  fun l0 l1 l2 l3 l4 k st E u hE hk => q_gfR (by decide +kernel : am_Pg 20 17 = some (.getfield 25, 3, [0, 14, 9, 0], 0)) (SE_k0 hE hk) rfl (SE_r0_9 hE hk),
  fun l0 l1 l2 l3 a st E u => q_go (by decide +kernel : am_Pg 20 20 = some (.iload 4, 2, [], 0)) rfl,
  fun l0 l1 l3 l4 a st E u => q_go (by decide +kernel : am_Pg 20 22 = some (.iload_n 2, 1, [], 0)) rfl,
  fun l0 l1 l2 l3 l4 a0 a1 a2  E u => q_cV (by decide +kernel : am_Pg 20 23 = some (.invokestatic 70, 3, [2, 19, 3, 1], 0)) (am_call_S (f := fun _ _ => true) (a := [vR a0, vI a1, vI a2]) (st' := []) (Nat.le_of_ble_eq_true rfl) rfl rfl) (by decide +kernel : am_Lm m_A_lay = 3) (Nat.le_of_ble_eq_true rfl) rfl (by decide +kernel),
  fun l1 l2 l3 l4 a st E u => q_go (by decide +kernel : am_Pg 20 26 = some (.aload_n 0, 1, [], 0)) rfl,
  fun l0 l1 l2 l3 l4 k st E u hE hk => q_gfR (by decide +kernel : am_Pg 20 27 = some (.getfield 28, 3, [0, 14, 10, 0], 0)) (SE_k0 hE hk) rfl (SE_r0_10 hE hk),
  fun l0 l1 l2 l3 a st E u => q_go (by decide +kernel : am_Pg 20 30 = some (.iload 4, 2, [], 0)) rfl,
  fun l0 l1 l2 l4 a st E u => q_go (by decide +kernel : am_Pg 20 32 = some (.iload_n 3, 1, [], 0)) rfl,
  fun l0 l1 l2 l3 l4 a0 a1 a2  E u => q_cV (by decide +kernel : am_Pg 20 33 = some (.invokestatic 70, 3, [2, 19, 3, 1], 0)) (am_call_S (f := fun _ _ => true) (a := [vR a0, vI a1, vI a2]) (st' := []) (Nat.le_of_ble_eq_true rfl) rfl rfl) (by decide +kernel : am_Lm m_A_lay = 3) (Nat.le_of_ble_eq_true rfl) rfl (by decide +kernel),
  fun l1 l2 l3 l4 a st E u => q_go (by decide +kernel : am_Pg 20 36 = some (.aload_n 0, 1, [], 0)) rfl,
  fun l0 l1 l2 l3 l4 a st E u => q_go (by decide +kernel : am_Pg 20 37 = some (.dup, 1, [], 0)) rfl,
  fun l0 l1 l2 l3 l4 a st E u => q_go (by decide +kernel : am_Pg 20 37 = some (.dup, 1, [], 0)) rfl,
  fun l0 l1 l2 l3 l4 k st E u hE hk => q_gfI (by decide +kernel : am_Pg 20 38 = some (.getfield 46, 3, [0, 14, 2, 0], 0)) (SE_k0 hE hk) (by decide),
  fun l0 l1 l2 l3 l4 st E u => q_go (by decide +kernel : am_Pg 20 41 = some (.iconst 1, 1, [], 0)) rfl,
  fun l0 l1 l2 l3 l4 a b st E u => q_go (by decide +kernel : am_Pg 20 42 = some (.iadd, 1, [], 0)) rfl,
  fun l0 l1 l2 l3 l4 k a st E u hE hk => q_pfI (by decide +kernel : am_Pg 20 43 = some (.putfield 46, 3, [0, 14, 2, 0], 0)) (SE_k0 hE hk) rfl,
  fun l0 l1 l2 l3 a st E u => q_go (by decide +kernel : am_Pg 20 46 = some (.iload 4, 2, [], 0)) rfl,
  fun l0 l1 l2 l3 l4 a E u => q_ret (by decide +kernel : am_Pg 20 48 = some (.ireturn, 1, [], 0)) rfl⟩
theorem x_C_isPin :
  (∀ (l0 : am_V) (a : Int) (st : List am_V) (E : am_E) (u : am_M), Rn m_C_isPin 0 [l0, vI a] st E u = Rn m_C_isPin 1 [l0, vI a] (vI a :: st) E u) ∧
  (∀ (l0 l1 : am_V) (a : Int) (st : List am_V) (E : am_E) (u : am_M), Rn m_C_isPin 1 [l0, l1] (vI a :: st) E u = if a < 0 then Rn m_C_isPin 16 [l0, l1] st E u else Rn m_C_isPin 4 [l0, l1] st E u) ∧
  (∀ (l0 : am_V) (a : Int) (st : List am_V) (E : am_E) (u : am_M), Rn m_C_isPin 4 [l0, vI a] st E u = Rn m_C_isPin 5 [l0, vI a] (vI a :: st) E u) ∧
  (∀ (l1 : am_V) (a : Option Nat) (st : List am_V) (E : am_E) (u : am_M), Rn m_C_isPin 5 [vR a, l1] st E u = Rn m_C_isPin 6 [vR a, l1] (vR a :: st) E u) ∧
  (∀ (l0 l1 : am_V) (k : Nat) (st : List am_V) (E : am_E) (u : am_M) (hE : SE E) (hk : cuB k), Rn m_C_isPin 6 [l0, l1] (vR (some k) :: st) E u = Rn m_C_isPin 9 [l0, l1] (vI (u k 2) :: st) E u) ∧
  (∀ (l0 l1 : am_V) (a b : Int) (st : List am_V) (E : am_E) (u : am_M), Rn m_C_isPin 9 [l0, l1] (vI b :: vI a :: st) E u = if a < b then Rn m_C_isPin 12 [l0, l1] st E u else Rn m_C_isPin 16 [l0, l1] st E u) ∧
  (∀ (l0 l1 : am_V) (st : List am_V) (E : am_E) (u : am_M), Rn m_C_isPin 12 [l0, l1] st E u = Rn m_C_isPin 13 [l0, l1] (vI 1 :: st) E u) ∧
  (∀ (l0 l1 : am_V) (st : List am_V) (E : am_E) (u : am_M), Rn m_C_isPin 13 [l0, l1] st E u = Rn m_C_isPin 17 [l0, l1] st E u) ∧
  (∀ (l0 l1 : am_V) (st : List am_V) (E : am_E) (u : am_M), Rn m_C_isPin 16 [l0, l1] st E u = Rn m_C_isPin 17 [l0, l1] (vI 0 :: st) E u) ∧
  (∀ (l0 l1 : am_V) (b : Bool) (E : am_E) (u : am_M), Rn m_C_isPin 17 [l0, l1] [vI (bI b)] E u = some (some (vI (bI b)), E, u)) ∧
  (∀ (l0 l1 : am_V) (E : am_E) (u : am_M), Rn m_C_isPin 17 [l0, l1] [vI 1] E u = some (some (vI 1), E, u)) ∧
  (∀ (l0 l1 : am_V) (E : am_E) (u : am_M), Rn m_C_isPin 17 [l0, l1] [vI 0] E u = some (some (vI 0), E, u)) :=
  ⟨fun l0 a st E u => q_go (by decide +kernel : am_Pg 29 0 = some (.iload_n 1, 1, [], 0)) rfl,
  fun l0 l1 a st E u => q_if_lt (tgt := 16) (by decide +kernel : am_Pg 29 1 = some (.ifCond .lt 15, 3, [], 0)) (by decide),
  fun l0 a st E u => q_go (by decide +kernel : am_Pg 29 4 = some (.iload_n 1, 1, [], 0)) rfl,
  fun l1 a st E u => q_go (by decide +kernel : am_Pg 29 5 = some (.aload_n 0, 1, [], 0)) rfl,
  fun l0 l1 k st E u hE hk => q_gfI (by decide +kernel : am_Pg 29 6 = some (.getfield 46, 3, [0, 14, 2, 0], 0)) (SE_k0 hE hk) (by decide),
  fun l0 l1 a b st E u => q_icmp_ge (tgt := 16) (by decide +kernel : am_Pg 29 9 = some (.if_icmp .ge 7, 3, [], 0)) (by decide),
  fun l0 l1 st E u => q_go (by decide +kernel : am_Pg 29 12 = some (.iconst 1, 1, [], 0)) rfl,
  fun l0 l1 st E u => q_go (by decide +kernel : am_Pg 29 13 = some (.goto 4, 3, [], 0)) rfl,
  fun l0 l1 st E u => q_go (by decide +kernel : am_Pg 29 16 = some (.iconst 0, 1, [], 0)) rfl,
  fun l0 l1 b E u => by cases b <;> exact q_ret (by decide +kernel : am_Pg 29 17 = some (.ireturn, 1, [1], 0)) rfl,
  fun l0 l1 E u => q_ret (by decide +kernel : am_Pg 29 17 = some (.ireturn, 1, [1], 0)) rfl,
  fun l0 l1 E u => q_ret (by decide +kernel : am_Pg 29 17 = some (.ireturn, 1, [1], 0)) rfl⟩
theorem x_C_addThread :
  (∀ (l1 l2 l3 l4 : am_V) (a : Option Nat) (st : List am_V) (E : am_E) (u : am_M), Rn m_C_addThread 0 [vR a, l1, l2, l3, l4] st E u = Rn m_C_addThread 1 [vR a, l1, l2, l3, l4] (vR a :: st) E u) ∧
  (∀ (l0 l1 l2 l3 l4 : am_V) (k : Nat) (st : List am_V) (E : am_E) (u : am_M) (hE : SE E) (hk : cuB k), Rn m_C_addThread 1 [l0, l1, l2, l3, l4] (vR (some k) :: st) E u = Rn m_C_addThread 4 [l0, l1, l2, l3, l4] (vI (u k 3) :: st) E u) ∧
  (∀ (l0 l1 l2 l3 l4 : am_V) (a : Int) (st : List am_V) (E : am_E) (u : am_M), Rn m_C_addThread 4 [l0, l1, l2, l3, l4] (vI a :: st) E u = Rn m_C_addThread 6 [l0, l1, l2, am_fx l3, vI a] st E u) ∧
  (∀ (l1 l2 l3 l4 : am_V) (a : Option Nat) (st : List am_V) (E : am_E) (u : am_M), Rn m_C_addThread 6 [vR a, l1, l2, l3, l4] st E u = Rn m_C_addThread 7 [vR a, l1, l2, l3, l4] (vR a :: st) E u) ∧
  (∀ (l0 l1 l2 l3 l4 : am_V) (k : Nat) (st : List am_V) (E : am_E) (u : am_M) (hE : SE E) (hk : cuB k), Rn m_C_addThread 7 [l0, l1, l2, l3, l4] (vR (some k) :: st) E u = Rn m_C_addThread 10 [l0, l1, l2, l3, l4] (vR (some (k + 4)) :: st) E u) ∧
  (∀ (l0 l1 l2 l3 : am_V) (a : Int) (st : List am_V) (E : am_E) (u : am_M), Rn m_C_addThread 10 [l0, l1, l2, l3, vI a] st E u = Rn m_C_addThread 12 [l0, l1, l2, l3, vI a] (vI a :: st) E u) ∧
  (∀ (l0 l2 l3 l4 : am_V) (a : Int) (st : List am_V) (E : am_E) (u : am_M), Rn m_C_addThread 12 [l0, vI a, l2, l3, l4] st E u = Rn m_C_addThread 13 [l0, vI a, l2, l3, l4] (vI a :: st) E u) ∧
  (∀ (l0 l1 l3 l4 : am_V) (a : Int) (st : List am_V) (E : am_E) (u : am_M), Rn m_C_addThread 13 [l0, l1, vI a, l3, l4] st E u = Rn m_C_addThread 14 [l0, l1, vI a, l3, l4] (vI a :: st) E u) ∧
  (∀ (l0 l1 l2 l3 l4 : am_V) (a b : Int) (r0 r1 : am_V) (E : am_E) (u : am_M), Rn m_C_addThread 14 [l0, l1, l2, l3, l4] [vI b, vI a, r0, r1] E u = Rn m_C_addThread 17 [l0, l1, l2, l3, l4] [vI (if b < a then b else a), r0, r1] E u) ∧
  (∀ (l0 l1 l2 l3 l4 : am_V) (a0 : Option Nat) (a1 : Int) (a2 : Int) (E : am_E) (u : am_M), Rn m_C_addThread 17 [l0, l1, l2, l3, l4] [vI a2, vI a1, vR a0] E u = bdV (Rn m_A_lay 0 [vR a0, vI a1, vI a2] [] E u) (KV m_C_addThread 20 [l0, l1, l2, l3, l4] [])) ∧
  (∀ (l1 l2 l3 l4 : am_V) (a : Option Nat) (st : List am_V) (E : am_E) (u : am_M), Rn m_C_addThread 20 [vR a, l1, l2, l3, l4] st E u = Rn m_C_addThread 21 [vR a, l1, l2, l3, l4] (vR a :: st) E u) ∧
  (∀ (l0 l1 l2 l3 l4 : am_V) (k : Nat) (st : List am_V) (E : am_E) (u : am_M) (hE : SE E) (hk : cuB k), Rn m_C_addThread 21 [l0, l1, l2, l3, l4] (vR (some k) :: st) E u = Rn m_C_addThread 24 [l0, l1, l2, l3, l4] (vR (some (k + 5)) :: st) E u) ∧
  (∀ (l0 l1 l2 l3 : am_V) (a : Int) (st : List am_V) (E : am_E) (u : am_M), Rn m_C_addThread 24 [l0, l1, l2, l3, vI a] st E u = Rn m_C_addThread 26 [l0, l1, l2, l3, vI a] (vI a :: st) E u) ∧
  (∀ (l0 l2 l3 l4 : am_V) (a : Int) (st : List am_V) (E : am_E) (u : am_M), Rn m_C_addThread 26 [l0, vI a, l2, l3, l4] st E u = Rn m_C_addThread 27 [l0, vI a, l2, l3, l4] (vI a :: st) E u) ∧
  (∀ (l0 l1 l3 l4 : am_V) (a : Int) (st : List am_V) (E : am_E) (u : am_M), Rn m_C_addThread 27 [l0, l1, vI a, l3, l4] st E u = Rn m_C_addThread 28 [l0, l1, vI a, l3, l4] (vI a :: st) E u) ∧
  (∀ (l0 l1 l2 l3 l4 : am_V) (a b : Int) (r0 r1 : am_V) (E : am_E) (u : am_M), Rn m_C_addThread 28 [l0, l1, l2, l3, l4] [vI b, vI a, r0, r1] E u = Rn m_C_addThread 31 [l0, l1, l2, l3, l4] [vI (if a < b then b else a), r0, r1] E u) ∧
  (∀ (l0 l1 l2 l3 l4 : am_V) (a0 : Option Nat) (a1 : Int) (a2 : Int) (E : am_E) (u : am_M), Rn m_C_addThread 31 [l0, l1, l2, l3, l4] [vI a2, vI a1, vR a0] E u = bdV (Rn m_A_lay 0 [vR a0, vI a1, vI a2] [] E u) (KV m_C_addThread 34 [l0, l1, l2, l3, l4] [])) ∧
  (∀ (l1 l2 l3 l4 : am_V) (a : Option Nat) (st : List am_V) (E : am_E) (u : am_M), Rn m_C_addThread 34 [vR a, l1, l2, l3, l4] st E u = Rn m_C_addThread 35 [vR a, l1, l2, l3, l4] (vR a :: st) E u) ∧
  (∀ (l0 l1 l2 l3 l4 : am_V) (k : Nat) (st : List am_V) (E : am_E) (u : am_M) (hE : SE E) (hk : cuB k), Rn m_C_addThread 35 [l0, l1, l2, l3, l4] (vR (some k) :: st) E u = Rn m_C_addThread 38 [l0, l1, l2, l3, l4] (vR (some (k + 6)) :: st) E u) ∧
  (∀ (l0 l1 l2 l3 : am_V) (a : Int) (st : List am_V) (E : am_E) (u : am_M), Rn m_C_addThread 38 [l0, l1, l2, l3, vI a] st E u = Rn m_C_addThread 40 [l0, l1, l2, l3, vI a] (vI a :: st) E u) ∧
  (∀ (l0 l1 l2 l4 : am_V) (a : Int) (st : List am_V) (E : am_E) (u : am_M), Rn m_C_addThread 40 [l0, l1, l2, vI a, l4] st E u = Rn m_C_addThread 41 [l0, l1, l2, vI a, l4] (vI a :: st) E u) ∧
  (∀ (l0 l1 l2 l3 l4 : am_V) (a0 : Option Nat) (a1 : Int) (a2 : Int) (E : am_E) (u : am_M), Rn m_C_addThread 41 [l0, l1, l2, l3, l4] [vI a2, vI a1, vR a0] E u = bdV (Rn m_A_lay 0 [vR a0, vI a1, vI a2] [] E u) (KV m_C_addThread 44 [l0, l1, l2, l3, l4] [])) ∧
  (∀ (l1 l2 l3 l4 : am_V) (a : Option Nat) (st : List am_V) (E : am_E) (u : am_M), Rn m_C_addThread 44 [vR a, l1, l2, l3, l4] st E u = Rn m_C_addThread 45 [vR a, l1, l2, l3, l4] (vR a :: st) E u) ∧
  (∀ (l0 l1 l2 l3 l4 : am_V) (a : Int) (st : List am_V) (E : am_E) (u : am_M), Rn m_C_addThread 45 [l0, l1, l2, l3, l4] (vI a :: st) E u = Rn m_C_addThread 46 [l0, l1, l2, l3, l4] (vI a :: vI a :: st) E u) ∧
  (∀ (l0 l1 l2 l3 l4 : am_V) (a : Option Nat) (st : List am_V) (E : am_E) (u : am_M), Rn m_C_addThread 45 [l0, l1, l2, l3, l4] (vR a :: st) E u = Rn m_C_addThread 46 [l0, l1, l2, l3, l4] (vR a :: vR a :: st) E u) ∧
  (∀ (l0 l1 l2 l3 l4 : am_V) (k : Nat) (st : List am_V) (E : am_E) (u : am_M) (hE : SE E) (hk : cuB k), Rn m_C_addThread 46 [l0, l1, l2, l3, l4] (vR (some k) :: st) E u = Rn m_C_addThread 49 [l0, l1, l2, l3, l4] (vI (u k 3) :: st) E u) ∧
  (∀ (l0 l1 l2 l3 l4 : am_V) (st : List am_V) (E : am_E) (u : am_M), Rn m_C_addThread 49 [l0, l1, l2, l3, l4] st E u = Rn m_C_addThread 50 [l0, l1, l2, l3, l4] (vI 1 :: st) E u) ∧
  (∀ (l0 l1 l2 l3 l4 : am_V) (a b : Int) (st : List am_V) (E : am_E) (u : am_M), Rn m_C_addThread 50 [l0, l1, l2, l3, l4] (vI b :: vI a :: st) E u = Rn m_C_addThread 51 [l0, l1, l2, l3, l4] (vI (w32 (a + b)) :: st) E u) ∧
  (∀ (l0 l1 l2 l3 l4 : am_V) (k : Nat) (a : Int) (st : List am_V) (E : am_E) (u : am_M) (hE : SE E) (hk : cuB k), Rn m_C_addThread 51 [l0, l1, l2, l3, l4] (vI a :: vR (some k) :: st) E u = Rn m_C_addThread 54 [l0, l1, l2, l3, l4] st E (am_up u k 3 a)) ∧
  (∀ (l0 l1 l2 l3 : am_V) (a : Int) (st : List am_V) (E : am_E) (u : am_M), Rn m_C_addThread 54 [l0, l1, l2, l3, vI a] st E u = Rn m_C_addThread 56 [l0, l1, l2, l3, vI a] (vI a :: st) E u) ∧
  (∀ (l0 l1 l2 l3 l4 : am_V) (a : Int) (E : am_E) (u : am_M), Rn m_C_addThread 56 [l0, l1, l2, l3, l4] [vI a] E u = some (some (vI a), E, u)) :=
  ⟨fun l1 l2 l3 l4 a st E u => q_go (by decide +kernel : am_Pg 31 0 = some (.aload_n 0, 1, [], 0)) rfl,
  fun l0 l1 l2 l3 l4 k st E u hE hk => q_gfI (by decide +kernel : am_Pg 31 1 = some (.getfield 49, 3, [0, 14, 3, 0], 0)) (SE_k0 hE hk) (by decide),
  fun l0 l1 l2 l3 l4 a st E u => q_go (by decide +kernel : am_Pg 31 4 = some (.istore 4, 2, [], 0)) rfl,
  fun l1 l2 l3 l4 a st E u => q_go (by decide +kernel : am_Pg 31 6 = some (.aload_n 0, 1, [], 0)) rfl,
  fun l0 l1 l2 l3 l4 k st E u hE hk => q_gfR (by decide +kernel : am_Pg 31 7 = some (.getfield 31, 3, [0, 14, 11, 0], 0)) (SE_k0 hE hk) rfl (SE_r0_11 hE hk),
  fun l0 l1 l2 l3 a st E u => q_go (by decide +kernel : am_Pg 31 10 = some (.iload 4, 2, [], 0)) rfl,
  fun l0 l2 l3 l4 a st E u => q_go (by decide +kernel : am_Pg 31 12 = some (.iload_n 1, 1, [], 0)) rfl,
  fun l0 l1 l3 l4 a st E u => q_go (by decide +kernel : am_Pg 31 13 = some (.iload_n 2, 1, [], 0)) rfl,
  fun l0 l1 l2 l3 l4 a b r0 r1 E u => q_go (by decide +kernel : am_Pg 31 14 = some (.invokestatic 74, 3, [5], 0)) rfl,
  fun l0 l1 l2 l3 l4 a0 a1 a2  E u => q_cV (by decide +kernel : am_Pg 31 17 = some (.invokestatic 70, 3, [2, 19, 3, 1], 0)) (am_call_S (f := fun _ _ => true) (a := [vR a0, vI a1, vI a2]) (st' := []) (Nat.le_of_ble_eq_true rfl) rfl rfl) (by decide +kernel : am_Lm m_A_lay = 3) (Nat.le_of_ble_eq_true rfl) rfl (by decide +kernel),
  fun l1 l2 l3 l4 a st E u => q_go (by decide +kernel : am_Pg 31 20 = some (.aload_n 0, 1, [], 0)) rfl,
  fun l0 l1 l2 l3 l4 k st E u hE hk => q_gfR (by decide +kernel : am_Pg 31 21 = some (.getfield 34, 3, [0, 14, 12, 0], 0)) (SE_k0 hE hk) rfl (SE_r0_12 hE hk),
  fun l0 l1 l2 l3 a st E u => q_go (by decide +kernel : am_Pg 31 24 = some (.iload 4, 2, [], 0)) rfl,
  fun l0 l2 l3 l4 a st E u => q_go (by decide +kernel : am_Pg 31 26 = some (.iload_n 1, 1, [], 0)) rfl,
  fun l0 l1 l3 l4 a st E u => q_go (by decide +kernel : am_Pg 31 27 = some (.iload_n 2, 1, [], 0)) rfl,
  fun l0 l1 l2 l3 l4 a b r0 r1 E u => q_go (by decide +kernel : am_Pg 31 28 = some (.invokestatic 80, 3, [4], 0)) rfl,
  fun l0 l1 l2 l3 l4 a0 a1 a2  E u => q_cV (by decide +kernel : am_Pg 31 31 = some (.invokestatic 70, 3, [2, 19, 3, 1], 0)) (am_call_S (f := fun _ _ => true) (a := [vR a0, vI a1, vI a2]) (st' := []) (Nat.le_of_ble_eq_true rfl) rfl rfl) (by decide +kernel : am_Lm m_A_lay = 3) (Nat.le_of_ble_eq_true rfl) rfl (by decide +kernel),
  fun l1 l2 l3 l4 a st E u => q_go (by decide +kernel : am_Pg 31 34 = some (.aload_n 0, 1, [], 0)) rfl,
  fun l0 l1 l2 l3 l4 k st E u hE hk => q_gfR (by decide +kernel : am_Pg 31 35 = some (.getfield 37, 3, [0, 14, 13, 0], 0)) (SE_k0 hE hk) rfl (SE_r0_13 hE hk),
  fun l0 l1 l2 l3 a st E u => q_go (by decide +kernel : am_Pg 31 38 = some (.iload 4, 2, [], 0)) rfl,
  fun l0 l1 l2 l4 a st E u => q_go (by decide +kernel : am_Pg 31 40 = some (.iload_n 3, 1, [], 0)) rfl,
  fun l0 l1 l2 l3 l4 a0 a1 a2  E u => q_cV (by decide +kernel : am_Pg 31 41 = some (.invokestatic 70, 3, [2, 19, 3, 1], 0)) (am_call_S (f := fun _ _ => true) (a := [vR a0, vI a1, vI a2]) (st' := []) (Nat.le_of_ble_eq_true rfl) rfl rfl) (by decide +kernel : am_Lm m_A_lay = 3) (Nat.le_of_ble_eq_true rfl) rfl (by decide +kernel),
  fun l1 l2 l3 l4 a st E u => q_go (by decide +kernel : am_Pg 31 44 = some (.aload_n 0, 1, [], 0)) rfl,
  fun l0 l1 l2 l3 l4 a st E u => q_go (by decide +kernel : am_Pg 31 45 = some (.dup, 1, [], 0)) rfl,
  fun l0 l1 l2 l3 l4 a st E u => q_go (by decide +kernel : am_Pg 31 45 = some (.dup, 1, [], 0)) rfl,
  fun l0 l1 l2 l3 l4 k st E u hE hk => q_gfI (by decide +kernel : am_Pg 31 46 = some (.getfield 49, 3, [0, 14, 3, 0], 0)) (SE_k0 hE hk) (by decide),
  fun l0 l1 l2 l3 l4 st E u => q_go (by decide +kernel : am_Pg 31 49 = some (.iconst 1, 1, [], 0)) rfl,
  fun l0 l1 l2 l3 l4 a b st E u => q_go (by decide +kernel : am_Pg 31 50 = some (.iadd, 1, [], 0)) rfl,
  fun l0 l1 l2 l3 l4 k a st E u hE hk => q_pfI (by decide +kernel : am_Pg 31 51 = some (.putfield 49, 3, [0, 14, 3, 0], 0)) (SE_k0 hE hk) rfl,
  fun l0 l1 l2 l3 a st E u => q_go (by decide +kernel : am_Pg 31 54 = some (.iload 4, 2, [], 0)) rfl,
  fun l0 l1 l2 l3 l4 a E u => q_ret (by decide +kernel : am_Pg 31 56 = some (.ireturn, 1, [], 0)) rfl⟩
theorem x_C_beside :
  (∀ (l1 l2 l3 : am_V) (a : Option Nat) (st : List am_V) (E : am_E) (u : am_M), Rn m_C_beside 0 [vR a, l1, l2, l3] st E u = Rn m_C_beside 1 [vR a, l1, l2, l3] (vR a :: st) E u) ∧
  (∀ (l0 l2 l3 : am_V) (a : Int) (st : List am_V) (E : am_E) (u : am_M), Rn m_C_beside 1 [l0, vI a, l2, l3] st E u = Rn m_C_beside 2 [l0, vI a, l2, l3] (vI a :: st) E u) ∧
  (∀ (l0 l1 l2 l3 : am_V) (k : Nat) (a0 : Int) (E : am_E) (u : am_M) (hE : SE E) (hk : cuB k), Rn m_C_beside 2 [l0, l1, l2, l3] [vI a0, vR (some k)] E u = bdI (Rn m_C_isCell 0 [vR (some k), vI a0] [] E u) (KI m_C_beside 5 [l0, l1, l2, l3] [])) ∧
  (∀ (l0 l1 l2 l3 : am_V) (a : Int) (st : List am_V) (E : am_E) (u : am_M), Rn m_C_beside 5 [l0, l1, l2, l3] (vI a :: st) E u = if a = 0 then Rn m_C_beside 16 [l0, l1, l2, l3] st E u else Rn m_C_beside 8 [l0, l1, l2, l3] st E u) ∧
  (∀ (l1 l2 l3 : am_V) (a : Option Nat) (st : List am_V) (E : am_E) (u : am_M), Rn m_C_beside 8 [vR a, l1, l2, l3] st E u = Rn m_C_beside 9 [vR a, l1, l2, l3] (vR a :: st) E u) ∧
  (∀ (l0 l1 l2 l3 : am_V) (k : Nat) (st : List am_V) (E : am_E) (u : am_M) (hE : SE E) (hk : cuB k), Rn m_C_beside 9 [l0, l1, l2, l3] (vR (some k) :: st) E u = Rn m_C_beside 12 [l0, l1, l2, l3] (vI (u k 1) :: st) E u) ∧
  (∀ (l0 l1 l2 l3 : am_V) (st : List am_V) (E : am_E) (u : am_M), Rn m_C_beside 12 [l0, l1, l2, l3] st E u = Rn m_C_beside 13 [l0, l1, l2, l3] (vI 1 :: st) E u) ∧
  (∀ (l0 l1 l2 l3 : am_V) (a b : Int) (st : List am_V) (E : am_E) (u : am_M), Rn m_C_beside 13 [l0, l1, l2, l3] (vI b :: vI a :: st) E u = if a < b then Rn m_C_beside 16 [l0, l1, l2, l3] st E u else Rn m_C_beside 19 [l0, l1, l2, l3] st E u) ∧
  (∀ (l0 l1 l2 l3 : am_V) (st : List am_V) (E : am_E) (u : am_M), Rn m_C_beside 16 [l0, l1, l2, l3] st E u = Rn m_C_beside 18 [l0, l1, l2, l3] (vI (-4) :: st) E u) ∧
  (∀ (l0 l1 l2 l3 : am_V) (a : Int) (E : am_E) (u : am_M), Rn m_C_beside 18 [l0, l1, l2, l3] [vI a] E u = some (some (vI a), E, u)) ∧
  (∀ (l0 l2 l3 : am_V) (a : Int) (st : List am_V) (E : am_E) (u : am_M), Rn m_C_beside 19 [l0, vI a, l2, l3] st E u = Rn m_C_beside 20 [l0, vI a, l2, l3] (vI a :: st) E u) ∧
  (∀ (l1 l2 l3 : am_V) (a : Option Nat) (st : List am_V) (E : am_E) (u : am_M), Rn m_C_beside 20 [vR a, l1, l2, l3] st E u = Rn m_C_beside 21 [vR a, l1, l2, l3] (vR a :: st) E u) ∧
  (∀ (l0 l1 l2 l3 : am_V) (k : Nat) (st : List am_V) (E : am_E) (u : am_M) (hE : SE E) (hk : cuB k), Rn m_C_beside 21 [l0, l1, l2, l3] (vR (some k) :: st) E u = Rn m_C_beside 24 [l0, l1, l2, l3] (vI (u k 1) :: st) E u) ∧
  (∀ (l0 l1 l2 l3 : am_V) (a b : Int) (st : List am_V) (E : am_E) (u : am_M) (h : b ≠ 0), Rn m_C_beside 24 [l0, l1, l2, l3] (vI b :: vI a :: st) E u = Rn m_C_beside 25 [l0, l1, l2, l3] (vI (w32 (a.tmod b)) :: st) E u) ∧
  (∀ (l0 l1 l2 l3 : am_V) (a : Int) (st : List am_V) (E : am_E) (u : am_M), Rn m_C_beside 25 [l0, l1, l2, l3] (vI a :: st) E u = Rn m_C_beside 26 [l0, l1, am_fx l2, vI a] st E u) ∧
  (∀ (l0 l1 l3 : am_V) (a : Int) (st : List am_V) (E : am_E) (u : am_M), Rn m_C_beside 26 [l0, l1, vI a, l3] st E u = Rn m_C_beside 27 [l0, l1, vI a, l3] (vI a :: st) E u) ∧
  (∀ (l0 l1 l2 l3 : am_V) (a : Int) (st : List am_V) (E : am_E) (u : am_M), Rn m_C_beside 27 [l0, l1, l2, l3] (vI a :: st) E u = if a = 0 then Rn m_C_beside 56 [l0, l1, l2, l3] st E u else if a = 1 then Rn m_C_beside 76 [l0, l1, l2, l3] st E u else if a = 2 then Rn m_C_beside 101 [l0, l1, l2, l3] st E u else if a = 3 then Rn m_C_beside 114 [l0, l1, l2, l3] st E u else Rn m_C_beside 133 [l0, l1, l2, l3] st E u) ∧
  (∀ (l0 l2 l3 : am_V) (a : Int) (st : List am_V) (E : am_E) (u : am_M), Rn m_C_beside 56 [l0, vI a, l2, l3] st E u = Rn m_C_beside 57 [l0, vI a, l2, l3] (vI a :: st) E u) ∧
  (∀ (l1 l2 l3 : am_V) (a : Option Nat) (st : List am_V) (E : am_E) (u : am_M), Rn m_C_beside 57 [vR a, l1, l2, l3] st E u = Rn m_C_beside 58 [vR a, l1, l2, l3] (vR a :: st) E u) ∧
  (∀ (l0 l1 l2 l3 : am_V) (k : Nat) (st : List am_V) (E : am_E) (u : am_M) (hE : SE E) (hk : cuB k), Rn m_C_beside 58 [l0, l1, l2, l3] (vR (some k) :: st) E u = Rn m_C_beside 61 [l0, l1, l2, l3] (vI (u k 1) :: st) E u) ∧
  (∀ (l0 l1 l2 l3 : am_V) (a b : Int) (st : List am_V) (E : am_E) (u : am_M), Rn m_C_beside 61 [l0, l1, l2, l3] (vI b :: vI a :: st) E u = if a < b then Rn m_C_beside 64 [l0, l1, l2, l3] st E u else Rn m_C_beside 69 [l0, l1, l2, l3] st E u) ∧
  (∀ (l0 l1 l2 l3 : am_V) (st : List am_V) (E : am_E) (u : am_M), Rn m_C_beside 64 [l0, l1, l2, l3] st E u = Rn m_C_beside 66 [l0, l1, l2, l3] (vI (-4) :: st) E u) ∧
  (∀ (l0 l1 l2 l3 : am_V) (st : List am_V) (E : am_E) (u : am_M), Rn m_C_beside 66 [l0, l1, l2, l3] st E u = Rn m_C_beside 75 [l0, l1, l2, l3] st E u) ∧
  (∀ (l0 l2 l3 : am_V) (a : Int) (st : List am_V) (E : am_E) (u : am_M), Rn m_C_beside 69 [l0, vI a, l2, l3] st E u = Rn m_C_beside 70 [l0, vI a, l2, l3] (vI a :: st) E u) ∧
  (∀ (l1 l2 l3 : am_V) (a : Option Nat) (st : List am_V) (E : am_E) (u : am_M), Rn m_C_beside 70 [vR a, l1, l2, l3] st E u = Rn m_C_beside 71 [vR a, l1, l2, l3] (vR a :: st) E u) ∧
  (∀ (l0 l1 l2 l3 : am_V) (k : Nat) (st : List am_V) (E : am_E) (u : am_M) (hE : SE E) (hk : cuB k), Rn m_C_beside 71 [l0, l1, l2, l3] (vR (some k) :: st) E u = Rn m_C_beside 74 [l0, l1, l2, l3] (vI (u k 1) :: st) E u) ∧
  (∀ (l0 l1 l2 l3 : am_V) (a b : Int) (st : List am_V) (E : am_E) (u : am_M), Rn m_C_beside 74 [l0, l1, l2, l3] (vI b :: vI a :: st) E u = Rn m_C_beside 75 [l0, l1, l2, l3] (vI (w32 (a - b)) :: st) E u) ∧
  (∀ (l0 l1 l2 l3 : am_V) (a : Int) (E : am_E) (u : am_M), Rn m_C_beside 75 [l0, l1, l2, l3] [vI a] E u = some (some (vI a), E, u)) ∧
  (∀ (l1 l2 l3 : am_V) (a : Option Nat) (st : List am_V) (E : am_E) (u : am_M), Rn m_C_beside 76 [vR a, l1, l2, l3] st E u = Rn m_C_beside 77 [vR a, l1, l2, l3] (vR a :: st) E u) ∧
  (∀ (l0 l2 l3 : am_V) (a : Int) (st : List am_V) (E : am_E) (u : am_M), Rn m_C_beside 77 [l0, vI a, l2, l3] st E u = Rn m_C_beside 78 [l0, vI a, l2, l3] (vI a :: st) E u) ∧
  (∀ (l1 l2 l3 : am_V) (a : Option Nat) (st : List am_V) (E : am_E) (u : am_M), Rn m_C_beside 78 [vR a, l1, l2, l3] st E u = Rn m_C_beside 79 [vR a, l1, l2, l3] (vR a :: st) E u) ∧
  (∀ (l0 l1 l2 l3 : am_V) (k : Nat) (st : List am_V) (E : am_E) (u : am_M) (hE : SE E) (hk : cuB k), Rn m_C_beside 79 [l0, l1, l2, l3] (vR (some k) :: st) E u = Rn m_C_beside 82 [l0, l1, l2, l3] (vI (u k 1) :: st) E u) ∧
  (∀ (l0 l1 l2 l3 : am_V) (a b : Int) (st : List am_V) (E : am_E) (u : am_M), Rn m_C_beside 82 [l0, l1, l2, l3] (vI b :: vI a :: st) E u = Rn m_C_beside 83 [l0, l1, l2, l3] (vI (w32 (a + b)) :: st) E u) ∧
  (∀ (l0 l1 l2 l3 : am_V) (k : Nat) (a0 : Int) (E : am_E) (u : am_M) (hE : SE E) (hk : cuB k), Rn m_C_beside 83 [l0, l1, l2, l3] [vI a0, vR (some k)] E u = bdI (Rn m_C_isCell 0 [vR (some k), vI a0] [] E u) (KI m_C_beside 86 [l0, l1, l2, l3] [])) ∧
  (∀ (l0 l1 l2 l3 : am_V) (a : Int) (st : List am_V) (E : am_E) (u : am_M), Rn m_C_beside 86 [l0, l1, l2, l3] (vI a :: st) E u = if a = 0 then Rn m_C_beside 98 [l0, l1, l2, l3] st E u else Rn m_C_beside 89 [l0, l1, l2, l3] st E u) ∧
  (∀ (l0 l2 l3 : am_V) (a : Int) (st : List am_V) (E : am_E) (u : am_M), Rn m_C_beside 89 [l0, vI a, l2, l3] st E u = Rn m_C_beside 90 [l0, vI a, l2, l3] (vI a :: st) E u) ∧
  (∀ (l1 l2 l3 : am_V) (a : Option Nat) (st : List am_V) (E : am_E) (u : am_M), Rn m_C_beside 90 [vR a, l1, l2, l3] st E u = Rn m_C_beside 91 [vR a, l1, l2, l3] (vR a :: st) E u) ∧
  (∀ (l0 l1 l2 l3 : am_V) (k : Nat) (st : List am_V) (E : am_E) (u : am_M) (hE : SE E) (hk : cuB k), Rn m_C_beside 91 [l0, l1, l2, l3] (vR (some k) :: st) E u = Rn m_C_beside 94 [l0, l1, l2, l3] (vI (u k 1) :: st) E u) ∧
  (∀ (l0 l1 l2 l3 : am_V) (a b : Int) (st : List am_V) (E : am_E) (u : am_M), Rn m_C_beside 94 [l0, l1, l2, l3] (vI b :: vI a :: st) E u = Rn m_C_beside 95 [l0, l1, l2, l3] (vI (w32 (a + b)) :: st) E u) ∧
  (∀ (l0 l1 l2 l3 : am_V) (st : List am_V) (E : am_E) (u : am_M), Rn m_C_beside 95 [l0, l1, l2, l3] st E u = Rn m_C_beside 100 [l0, l1, l2, l3] st E u) ∧
  (∀ (l0 l1 l2 l3 : am_V) (st : List am_V) (E : am_E) (u : am_M), Rn m_C_beside 98 [l0, l1, l2, l3] st E u = Rn m_C_beside 100 [l0, l1, l2, l3] (vI (-4) :: st) E u) ∧
  (∀ (l0 l1 l2 l3 : am_V) (a : Int) (E : am_E) (u : am_M), Rn m_C_beside 100 [l0, l1, l2, l3] [vI a] E u = some (some (vI a), E, u)) ∧
  (∀ (l0 l1 l2 : am_V) (a : Int) (st : List am_V) (E : am_E) (u : am_M), Rn m_C_beside 101 [l0, l1, l2, vI a] st E u = Rn m_C_beside 102 [l0, l1, l2, vI a] (vI a :: st) E u) ∧
  (∀ (l0 l1 l2 l3 : am_V) (a : Int) (st : List am_V) (E : am_E) (u : am_M), Rn m_C_beside 102 [l0, l1, l2, l3] (vI a :: st) E u = if a = 0 then Rn m_C_beside 105 [l0, l1, l2, l3] st E u else Rn m_C_beside 110 [l0, l1, l2, l3] st E u) ∧
  (∀ (l0 l1 l2 l3 : am_V) (st : List am_V) (E : am_E) (u : am_M), Rn m_C_beside 105 [l0, l1, l2, l3] st E u = Rn m_C_beside 107 [l0, l1, l2, l3] (vI (-4) :: st) E u) ∧
  (∀ (l0 l1 l2 l3 : am_V) (st : List am_V) (E : am_E) (u : am_M), Rn m_C_beside 107 [l0, l1, l2, l3] st E u = Rn m_C_beside 113 [l0, l1, l2, l3] st E u) ∧
  (∀ (l0 l2 l3 : am_V) (a : Int) (st : List am_V) (E : am_E) (u : am_M), Rn m_C_beside 110 [l0, vI a, l2, l3] st E u = Rn m_C_beside 111 [l0, vI a, l2, l3] (vI a :: st) E u) ∧
  (∀ (l0 l1 l2 l3 : am_V) (st : List am_V) (E : am_E) (u : am_M), Rn m_C_beside 111 [l0, l1, l2, l3] st E u = Rn m_C_beside 112 [l0, l1, l2, l3] (vI 1 :: st) E u) ∧
  (∀ (l0 l1 l2 l3 : am_V) (a b : Int) (st : List am_V) (E : am_E) (u : am_M), Rn m_C_beside 112 [l0, l1, l2, l3] (vI b :: vI a :: st) E u = Rn m_C_beside 113 [l0, l1, l2, l3] (vI (w32 (a - b)) :: st) E u) ∧
  (∀ (l0 l1 l2 l3 : am_V) (a : Int) (E : am_E) (u : am_M), Rn m_C_beside 113 [l0, l1, l2, l3] [vI a] E u = some (some (vI a), E, u)) ∧
  (∀ (l0 l1 l2 : am_V) (a : Int) (st : List am_V) (E : am_E) (u : am_M), Rn m_C_beside 114 [l0, l1, l2, vI a] st E u = Rn m_C_beside 115 [l0, l1, l2, vI a] (vI a :: st) E u) ∧
  (∀ (l1 l2 l3 : am_V) (a : Option Nat) (st : List am_V) (E : am_E) (u : am_M), Rn m_C_beside 115 [vR a, l1, l2, l3] st E u = Rn m_C_beside 116 [vR a, l1, l2, l3] (vR a :: st) E u) ∧
  (∀ (l0 l1 l2 l3 : am_V) (k : Nat) (st : List am_V) (E : am_E) (u : am_M) (hE : SE E) (hk : cuB k), Rn m_C_beside 116 [l0, l1, l2, l3] (vR (some k) :: st) E u = Rn m_C_beside 119 [l0, l1, l2, l3] (vI (u k 1) :: st) E u) ∧
  (∀ (l0 l1 l2 l3 : am_V) (st : List am_V) (E : am_E) (u : am_M), Rn m_C_beside 119 [l0, l1, l2, l3] st E u = Rn m_C_beside 120 [l0, l1, l2, l3] (vI 1 :: st) E u) ∧
  (∀ (l0 l1 l2 l3 : am_V) (a b : Int) (st : List am_V) (E : am_E) (u : am_M), Rn m_C_beside 120 [l0, l1, l2, l3] (vI b :: vI a :: st) E u = Rn m_C_beside 121 [l0, l1, l2, l3] (vI (w32 (a - b)) :: st) E u) ∧
  (∀ (l0 l1 l2 l3 : am_V) (a b : Int) (st : List am_V) (E : am_E) (u : am_M), Rn m_C_beside 121 [l0, l1, l2, l3] (vI b :: vI a :: st) E u = if a = b then Rn m_C_beside 124 [l0, l1, l2, l3] st E u else Rn m_C_beside 129 [l0, l1, l2, l3] st E u) ∧
  (∀ (l0 l1 l2 l3 : am_V) (st : List am_V) (E : am_E) (u : am_M), Rn m_C_beside 124 [l0, l1, l2, l3] st E u = Rn m_C_beside 126 [l0, l1, l2, l3] (vI (-4) :: st) E u) ∧
  (∀ (l0 l1 l2 l3 : am_V) (st : List am_V) (E : am_E) (u : am_M), Rn m_C_beside 126 [l0, l1, l2, l3] st E u = Rn m_C_beside 132 [l0, l1, l2, l3] st E u) ∧
  (∀ (l0 l2 l3 : am_V) (a : Int) (st : List am_V) (E : am_E) (u : am_M), Rn m_C_beside 129 [l0, vI a, l2, l3] st E u = Rn m_C_beside 130 [l0, vI a, l2, l3] (vI a :: st) E u) ∧
  (∀ (l0 l1 l2 l3 : am_V) (st : List am_V) (E : am_E) (u : am_M), Rn m_C_beside 130 [l0, l1, l2, l3] st E u = Rn m_C_beside 131 [l0, l1, l2, l3] (vI 1 :: st) E u) ∧
  (∀ (l0 l1 l2 l3 : am_V) (a b : Int) (st : List am_V) (E : am_E) (u : am_M), Rn m_C_beside 131 [l0, l1, l2, l3] (vI b :: vI a :: st) E u = Rn m_C_beside 132 [l0, l1, l2, l3] (vI (w32 (a + b)) :: st) E u) ∧
  (∀ (l0 l1 l2 l3 : am_V) (a : Int) (E : am_E) (u : am_M), Rn m_C_beside 132 [l0, l1, l2, l3] [vI a] E u = some (some (vI a), E, u)) ∧
  (∀ (l0 l1 l2 l3 : am_V) (st : List am_V) (E : am_E) (u : am_M), Rn m_C_beside 133 [l0, l1, l2, l3] st E u = Rn m_C_beside 135 [l0, l1, l2, l3] (vI (-4) :: st) E u) ∧
  (∀ (l0 l1 l2 l3 : am_V) (a : Int) (E : am_E) (u : am_M), Rn m_C_beside 135 [l0, l1, l2, l3] [vI a] E u = some (some (vI a), E, u)) :=
  ⟨fun l1 l2 l3 a st E u => q_go (by decide +kernel : am_Pg 37 0 = some (.aload_n 0, 1, [], 0)) rfl,
  fun l0 l2 l3 a st E u => q_go (by decide +kernel : am_Pg 37 1 = some (.iload_n 1, 1, [], 0)) rfl,
  fun l0 l1 l2 l3 k a0  E u hE hk => q_cI (by decide +kernel : am_Pg 37 2 = some (.invokevirtual 126, 3, [3, 16, 2, 0, 14, 0], 0)) (am_call_V (a := [vI a0]) (st' := []) (Nat.le_of_ble_eq_true rfl) rfl (SE_k0 hE hk)) (by decide +kernel : am_Lm m_C_isCell = 2) (Nat.le_of_ble_eq_true rfl) rfl (by decide +kernel),
  fun l0 l1 l2 l3 a st E u => q_if_eq (tgt := 16) (by decide +kernel : am_Pg 37 5 = some (.ifCond .eq 11, 3, [], 0)) (by decide),
  fun l1 l2 l3 a st E u => q_go (by decide +kernel : am_Pg 37 8 = some (.aload_n 0, 1, [], 0)) rfl,
  fun l0 l1 l2 l3 k st E u hE hk => q_gfI (by decide +kernel : am_Pg 37 9 = some (.getfield 15, 3, [0, 14, 1, 0], 0)) (SE_k0 hE hk) (by decide),
  fun l0 l1 l2 l3 st E u => q_go (by decide +kernel : am_Pg 37 12 = some (.iconst 1, 1, [], 0)) rfl,
  fun l0 l1 l2 l3 a b st E u => q_icmp_ge (tgt := 19) (by decide +kernel : am_Pg 37 13 = some (.if_icmp .ge 6, 3, [], 0)) (by decide),
  fun l0 l1 l2 l3 st E u => q_go (by decide +kernel : am_Pg 37 16 = some (.bipush (-4), 2, [], 0)) rfl,
  fun l0 l1 l2 l3 a E u => q_ret (by decide +kernel : am_Pg 37 18 = some (.ireturn, 1, [], 0)) rfl,
  fun l0 l2 l3 a st E u => q_go (by decide +kernel : am_Pg 37 19 = some (.iload_n 1, 1, [], 0)) rfl,
  fun l1 l2 l3 a st E u => q_go (by decide +kernel : am_Pg 37 20 = some (.aload_n 0, 1, [], 0)) rfl,
  fun l0 l1 l2 l3 k st E u hE hk => q_gfI (by decide +kernel : am_Pg 37 21 = some (.getfield 15, 3, [0, 14, 1, 0], 0)) (SE_k0 hE hk) (by decide),
  fun l0 l1 l2 l3 a b st E u h => q_rem (by decide +kernel : am_Pg 37 24 = some (.irem, 1, [], 0)) h,
  fun l0 l1 l2 l3 a st E u => q_go (by decide +kernel : am_Pg 37 25 = some (.istore_n 3, 1, [], 0)) rfl,
  fun l0 l1 l3 a st E u => q_go (by decide +kernel : am_Pg 37 26 = some (.iload_n 2, 1, [], 0)) rfl,
  (fun l0 l1 l2 l3 a st E u => by
  by_cases h0 : a = 0
  · subst h0; rw [if_pos rfl]; exact q_go (by decide +kernel : am_Pg 37 27 = some (.tableswitch 106 0 3 #[29, 49, 74, 87], 29, [], 0)) rfl
  rw [if_neg h0]
  by_cases h1 : a = 1
  · subst h1; rw [if_pos rfl]; exact q_go (by decide +kernel : am_Pg 37 27 = some (.tableswitch 106 0 3 #[29, 49, 74, 87], 29, [], 0)) rfl
  rw [if_neg h1]
  by_cases h2 : a = 2
  · subst h2; rw [if_pos rfl]; exact q_go (by decide +kernel : am_Pg 37 27 = some (.tableswitch 106 0 3 #[29, 49, 74, 87], 29, [], 0)) rfl
  rw [if_neg h2]
  by_cases h3 : a = 3
  · subst h3; rw [if_pos rfl]; exact q_go (by decide +kernel : am_Pg 37 27 = some (.tableswitch 106 0 3 #[29, 49, 74, 87], 29, [], 0)) rfl
  rw [if_neg h3]
  exact q_go (by decide +kernel : am_Pg 37 27 = some (.tableswitch 106 0 3 #[29, 49, 74, 87], 29, [], 0)) (by simp only [am_step, am_br]; rw [if_pos (by simp; omega)]; rfl)),
  fun l0 l2 l3 a st E u => q_go (by decide +kernel : am_Pg 37 56 = some (.iload_n 1, 1, [], 0)) rfl,
  fun l1 l2 l3 a st E u => q_go (by decide +kernel : am_Pg 37 57 = some (.aload_n 0, 1, [], 0)) rfl,
  fun l0 l1 l2 l3 k st E u hE hk => q_gfI (by decide +kernel : am_Pg 37 58 = some (.getfield 15, 3, [0, 14, 1, 0], 0)) (SE_k0 hE hk) (by decide),
  fun l0 l1 l2 l3 a b st E u => q_icmp_ge (tgt := 69) (by decide +kernel : am_Pg 37 61 = some (.if_icmp .ge 8, 3, [], 0)) (by decide),
  fun l0 l1 l2 l3 st E u => q_go (by decide +kernel : am_Pg 37 64 = some (.bipush (-4), 2, [], 0)) rfl,
  fun l0 l1 l2 l3 st E u => q_go (by decide +kernel : am_Pg 37 66 = some (.goto 9, 3, [], 0)) rfl,
  fun l0 l2 l3 a st E u => q_go (by decide +kernel : am_Pg 37 69 = some (.iload_n 1, 1, [], 0)) rfl,
  fun l1 l2 l3 a st E u => q_go (by decide +kernel : am_Pg 37 70 = some (.aload_n 0, 1, [], 0)) rfl,
  fun l0 l1 l2 l3 k st E u hE hk => q_gfI (by decide +kernel : am_Pg 37 71 = some (.getfield 15, 3, [0, 14, 1, 0], 0)) (SE_k0 hE hk) (by decide),
  fun l0 l1 l2 l3 a b st E u => q_go (by decide +kernel : am_Pg 37 74 = some (.isub, 1, [], 0)) rfl,
  fun l0 l1 l2 l3 a E u => q_ret (by decide +kernel : am_Pg 37 75 = some (.ireturn, 1, [], 0)) rfl,
  fun l1 l2 l3 a st E u => q_go (by decide +kernel : am_Pg 37 76 = some (.aload_n 0, 1, [], 0)) rfl,
  fun l0 l2 l3 a st E u => q_go (by decide +kernel : am_Pg 37 77 = some (.iload_n 1, 1, [], 0)) rfl,
  fun l1 l2 l3 a st E u => q_go (by decide +kernel : am_Pg 37 78 = some (.aload_n 0, 1, [], 0)) rfl,
  fun l0 l1 l2 l3 k st E u hE hk => q_gfI (by decide +kernel : am_Pg 37 79 = some (.getfield 15, 3, [0, 14, 1, 0], 0)) (SE_k0 hE hk) (by decide),
  fun l0 l1 l2 l3 a b st E u => q_go (by decide +kernel : am_Pg 37 82 = some (.iadd, 1, [], 0)) rfl,
  fun l0 l1 l2 l3 k a0  E u hE hk => q_cI (by decide +kernel : am_Pg 37 83 = some (.invokevirtual 126, 3, [3, 16, 2, 0, 14, 0], 0)) (am_call_V (a := [vI a0]) (st' := []) (Nat.le_of_ble_eq_true rfl) rfl (SE_k0 hE hk)) (by decide +kernel : am_Lm m_C_isCell = 2) (Nat.le_of_ble_eq_true rfl) rfl (by decide +kernel),
  fun l0 l1 l2 l3 a st E u => q_if_eq (tgt := 98) (by decide +kernel : am_Pg 37 86 = some (.ifCond .eq 12, 3, [], 0)) (by decide),
  fun l0 l2 l3 a st E u => q_go (by decide +kernel : am_Pg 37 89 = some (.iload_n 1, 1, [], 0)) rfl,
  fun l1 l2 l3 a st E u => q_go (by decide +kernel : am_Pg 37 90 = some (.aload_n 0, 1, [], 0)) rfl,
  fun l0 l1 l2 l3 k st E u hE hk => q_gfI (by decide +kernel : am_Pg 37 91 = some (.getfield 15, 3, [0, 14, 1, 0], 0)) (SE_k0 hE hk) (by decide),
  fun l0 l1 l2 l3 a b st E u => q_go (by decide +kernel : am_Pg 37 94 = some (.iadd, 1, [], 0)) rfl,
  fun l0 l1 l2 l3 st E u => q_go (by decide +kernel : am_Pg 37 95 = some (.goto 5, 3, [], 0)) rfl,
  fun l0 l1 l2 l3 st E u => q_go (by decide +kernel : am_Pg 37 98 = some (.bipush (-4), 2, [], 0)) rfl,
  fun l0 l1 l2 l3 a E u => q_ret (by decide +kernel : am_Pg 37 100 = some (.ireturn, 1, [], 0)) rfl,
  fun l0 l1 l2 a st E u => q_go (by decide +kernel : am_Pg 37 101 = some (.iload_n 3, 1, [], 0)) rfl,
  fun l0 l1 l2 l3 a st E u => q_if_ne (tgt := 110) (by decide +kernel : am_Pg 37 102 = some (.ifCond .ne 8, 3, [], 0)) (by decide),
  fun l0 l1 l2 l3 st E u => q_go (by decide +kernel : am_Pg 37 105 = some (.bipush (-4), 2, [], 0)) rfl,
  fun l0 l1 l2 l3 st E u => q_go (by decide +kernel : am_Pg 37 107 = some (.goto 6, 3, [], 0)) rfl,
  fun l0 l2 l3 a st E u => q_go (by decide +kernel : am_Pg 37 110 = some (.iload_n 1, 1, [], 0)) rfl,
  fun l0 l1 l2 l3 st E u => q_go (by decide +kernel : am_Pg 37 111 = some (.iconst 1, 1, [], 0)) rfl,
  fun l0 l1 l2 l3 a b st E u => q_go (by decide +kernel : am_Pg 37 112 = some (.isub, 1, [], 0)) rfl,
  fun l0 l1 l2 l3 a E u => q_ret (by decide +kernel : am_Pg 37 113 = some (.ireturn, 1, [], 0)) rfl,
  fun l0 l1 l2 a st E u => q_go (by decide +kernel : am_Pg 37 114 = some (.iload_n 3, 1, [], 0)) rfl,
  fun l1 l2 l3 a st E u => q_go (by decide +kernel : am_Pg 37 115 = some (.aload_n 0, 1, [], 0)) rfl,
  fun l0 l1 l2 l3 k st E u hE hk => q_gfI (by decide +kernel : am_Pg 37 116 = some (.getfield 15, 3, [0, 14, 1, 0], 0)) (SE_k0 hE hk) (by decide),
  fun l0 l1 l2 l3 st E u => q_go (by decide +kernel : am_Pg 37 119 = some (.iconst 1, 1, [], 0)) rfl,
  fun l0 l1 l2 l3 a b st E u => q_go (by decide +kernel : am_Pg 37 120 = some (.isub, 1, [], 0)) rfl,
  fun l0 l1 l2 l3 a b st E u => q_icmp_ne (tgt := 129) (by decide +kernel : am_Pg 37 121 = some (.if_icmp .ne 8, 3, [], 0)) (by decide),
  fun l0 l1 l2 l3 st E u => q_go (by decide +kernel : am_Pg 37 124 = some (.bipush (-4), 2, [], 0)) rfl,
  fun l0 l1 l2 l3 st E u => q_go (by decide +kernel : am_Pg 37 126 = some (.goto 6, 3, [], 0)) rfl,
  fun l0 l2 l3 a st E u => q_go (by decide +kernel : am_Pg 37 129 = some (.iload_n 1, 1, [], 0)) rfl,
  fun l0 l1 l2 l3 st E u => q_go (by decide +kernel : am_Pg 37 130 = some (.iconst 1, 1, [], 0)) rfl,
  fun l0 l1 l2 l3 a b st E u => q_go (by decide +kernel : am_Pg 37 131 = some (.iadd, 1, [], 0)) rfl,
  fun l0 l1 l2 l3 a E u => q_ret (by decide +kernel : am_Pg 37 132 = some (.ireturn, 1, [], 0)) rfl,
  fun l0 l1 l2 l3 st E u => q_go (by decide +kernel : am_Pg 37 133 = some (.bipush (-4), 2, [], 0)) rfl,
  fun l0 l1 l2 l3 a E u => q_ret (by decide +kernel : am_Pg 37 135 = some (.ireturn, 1, [], 0)) rfl⟩
theorem x_C_isThread :
  (∀ (l0 : am_V) (a : Int) (st : List am_V) (E : am_E) (u : am_M), Rn m_C_isThread 0 [l0, vI a] st E u = Rn m_C_isThread 1 [l0, vI a] (vI a :: st) E u) ∧
  (∀ (l0 l1 : am_V) (a : Int) (st : List am_V) (E : am_E) (u : am_M), Rn m_C_isThread 1 [l0, l1] (vI a :: st) E u = if a < 0 then Rn m_C_isThread 16 [l0, l1] st E u else Rn m_C_isThread 4 [l0, l1] st E u) ∧
  (∀ (l0 : am_V) (a : Int) (st : List am_V) (E : am_E) (u : am_M), Rn m_C_isThread 4 [l0, vI a] st E u = Rn m_C_isThread 5 [l0, vI a] (vI a :: st) E u) ∧
  (∀ (l1 : am_V) (a : Option Nat) (st : List am_V) (E : am_E) (u : am_M), Rn m_C_isThread 5 [vR a, l1] st E u = Rn m_C_isThread 6 [vR a, l1] (vR a :: st) E u) ∧
  (∀ (l0 l1 : am_V) (k : Nat) (st : List am_V) (E : am_E) (u : am_M) (hE : SE E) (hk : cuB k), Rn m_C_isThread 6 [l0, l1] (vR (some k) :: st) E u = Rn m_C_isThread 9 [l0, l1] (vI (u k 3) :: st) E u) ∧
  (∀ (l0 l1 : am_V) (a b : Int) (st : List am_V) (E : am_E) (u : am_M), Rn m_C_isThread 9 [l0, l1] (vI b :: vI a :: st) E u = if a < b then Rn m_C_isThread 12 [l0, l1] st E u else Rn m_C_isThread 16 [l0, l1] st E u) ∧
  (∀ (l0 l1 : am_V) (st : List am_V) (E : am_E) (u : am_M), Rn m_C_isThread 12 [l0, l1] st E u = Rn m_C_isThread 13 [l0, l1] (vI 1 :: st) E u) ∧
  (∀ (l0 l1 : am_V) (st : List am_V) (E : am_E) (u : am_M), Rn m_C_isThread 13 [l0, l1] st E u = Rn m_C_isThread 17 [l0, l1] st E u) ∧
  (∀ (l0 l1 : am_V) (st : List am_V) (E : am_E) (u : am_M), Rn m_C_isThread 16 [l0, l1] st E u = Rn m_C_isThread 17 [l0, l1] (vI 0 :: st) E u) ∧
  (∀ (l0 l1 : am_V) (b : Bool) (E : am_E) (u : am_M), Rn m_C_isThread 17 [l0, l1] [vI (bI b)] E u = some (some (vI (bI b)), E, u)) ∧
  (∀ (l0 l1 : am_V) (E : am_E) (u : am_M), Rn m_C_isThread 17 [l0, l1] [vI 1] E u = some (some (vI 1), E, u)) ∧
  (∀ (l0 l1 : am_V) (E : am_E) (u : am_M), Rn m_C_isThread 17 [l0, l1] [vI 0] E u = some (some (vI 0), E, u)) :=
  ⟨fun l0 a st E u => q_go (by decide +kernel : am_Pg 38 0 = some (.iload_n 1, 1, [], 0)) rfl,
  fun l0 l1 a st E u => q_if_lt (tgt := 16) (by decide +kernel : am_Pg 38 1 = some (.ifCond .lt 15, 3, [], 0)) (by decide),
  fun l0 a st E u => q_go (by decide +kernel : am_Pg 38 4 = some (.iload_n 1, 1, [], 0)) rfl,
  fun l1 a st E u => q_go (by decide +kernel : am_Pg 38 5 = some (.aload_n 0, 1, [], 0)) rfl,
  fun l0 l1 k st E u hE hk => q_gfI (by decide +kernel : am_Pg 38 6 = some (.getfield 49, 3, [0, 14, 3, 0], 0)) (SE_k0 hE hk) (by decide),
  fun l0 l1 a b st E u => q_icmp_ge (tgt := 16) (by decide +kernel : am_Pg 38 9 = some (.if_icmp .ge 7, 3, [], 0)) (by decide),
  fun l0 l1 st E u => q_go (by decide +kernel : am_Pg 38 12 = some (.iconst 1, 1, [], 0)) rfl,
  fun l0 l1 st E u => q_go (by decide +kernel : am_Pg 38 13 = some (.goto 4, 3, [], 0)) rfl,
  fun l0 l1 st E u => q_go (by decide +kernel : am_Pg 38 16 = some (.iconst 0, 1, [], 0)) rfl,
  fun l0 l1 b E u => by cases b <;> exact q_ret (by decide +kernel : am_Pg 38 17 = some (.ireturn, 1, [1], 0)) rfl,
  fun l0 l1 E u => q_ret (by decide +kernel : am_Pg 38 17 = some (.ireturn, 1, [1], 0)) rfl,
  fun l0 l1 E u => q_ret (by decide +kernel : am_Pg 38 17 = some (.ireturn, 1, [1], 0)) rfl⟩
theorem x_C_isCut :
  (∀ (l1 : am_V) (a : Option Nat) (st : List am_V) (E : am_E) (u : am_M), Rn m_C_isCut 0 [vR a, l1] st E u = Rn m_C_isCut 1 [vR a, l1] (vR a :: st) E u) ∧
  (∀ (l0 l1 : am_V) (k : Nat) (st : List am_V) (E : am_E) (u : am_M) (hE : SE E) (hk : cuB k), Rn m_C_isCut 1 [l0, l1] (vR (some k) :: st) E u = Rn m_C_isCut 4 [l0, l1] (vI (u k 6) :: st) E u) ∧
  (∀ (l0 : am_V) (a : Int) (st : List am_V) (E : am_E) (u : am_M), Rn m_C_isCut 4 [l0, vI a] st E u = Rn m_C_isCut 5 [l0, vI a] (vI a :: st) E u) ∧
  (∀ (l0 l1 : am_V) (a b : Int) (st : List am_V) (E : am_E) (u : am_M), Rn m_C_isCut 5 [l0, l1] (vI b :: vI a :: st) E u = Rn m_C_isCut 6 [l0, l1] (vI (i_shr a b) :: st) E u) ∧
  (∀ (l0 l1 : am_V) (st : List am_V) (E : am_E) (u : am_M), Rn m_C_isCut 6 [l0, l1] st E u = Rn m_C_isCut 7 [l0, l1] (vI 1 :: st) E u) ∧
  (∀ (l0 l1 : am_V) (a b : Int) (st : List am_V) (E : am_E) (u : am_M), Rn m_C_isCut 7 [l0, l1] (vI b :: vI a :: st) E u = Rn m_C_isCut 8 [l0, l1] (vI (i_and a b) :: st) E u) ∧
  (∀ (l0 l1 : am_V) (a : Int) (st : List am_V) (E : am_E) (u : am_M), Rn m_C_isCut 8 [l0, l1] (vI a :: st) E u = if a = 0 then Rn m_C_isCut 15 [l0, l1] st E u else Rn m_C_isCut 11 [l0, l1] st E u) ∧
  (∀ (l0 l1 : am_V) (st : List am_V) (E : am_E) (u : am_M), Rn m_C_isCut 11 [l0, l1] st E u = Rn m_C_isCut 12 [l0, l1] (vI 1 :: st) E u) ∧
  (∀ (l0 l1 : am_V) (st : List am_V) (E : am_E) (u : am_M), Rn m_C_isCut 12 [l0, l1] st E u = Rn m_C_isCut 16 [l0, l1] st E u) ∧
  (∀ (l0 l1 : am_V) (st : List am_V) (E : am_E) (u : am_M), Rn m_C_isCut 15 [l0, l1] st E u = Rn m_C_isCut 16 [l0, l1] (vI 0 :: st) E u) ∧
  (∀ (l0 l1 : am_V) (b : Bool) (E : am_E) (u : am_M), Rn m_C_isCut 16 [l0, l1] [vI (bI b)] E u = some (some (vI (bI b)), E, u)) ∧
  (∀ (l0 l1 : am_V) (E : am_E) (u : am_M), Rn m_C_isCut 16 [l0, l1] [vI 1] E u = some (some (vI 1), E, u)) ∧
  (∀ (l0 l1 : am_V) (E : am_E) (u : am_M), Rn m_C_isCut 16 [l0, l1] [vI 0] E u = some (some (vI 0), E, u)) :=
  ⟨fun l1 a st E u => q_go (by decide +kernel : am_Pg 39 0 = some (.aload_n 0, 1, [], 0)) rfl,
  fun l0 l1 k st E u hE hk => q_gfI (by decide +kernel : am_Pg 39 1 = some (.getfield 55, 3, [0, 14, 6, 0], 0)) (SE_k0 hE hk) (by decide),
  fun l0 a st E u => q_go (by decide +kernel : am_Pg 39 4 = some (.iload_n 1, 1, [], 0)) rfl,
  fun l0 l1 a b st E u => q_go (by decide +kernel : am_Pg 39 5 = some (.ishr, 1, [], 0)) rfl,
  fun l0 l1 st E u => q_go (by decide +kernel : am_Pg 39 6 = some (.iconst 1, 1, [], 0)) rfl,
  fun l0 l1 a b st E u => q_go (by decide +kernel : am_Pg 39 7 = some (.iand, 1, [], 0)) rfl,
  fun l0 l1 a st E u => q_if_eq (tgt := 15) (by decide +kernel : am_Pg 39 8 = some (.ifCond .eq 7, 3, [], 0)) (by decide),
  fun l0 l1 st E u => q_go (by decide +kernel : am_Pg 39 11 = some (.iconst 1, 1, [], 0)) rfl,
  fun l0 l1 st E u => q_go (by decide +kernel : am_Pg 39 12 = some (.goto 4, 3, [], 0)) rfl,
  fun l0 l1 st E u => q_go (by decide +kernel : am_Pg 39 15 = some (.iconst 0, 1, [], 0)) rfl,
  fun l0 l1 b E u => by cases b <;> exact q_ret (by decide +kernel : am_Pg 39 16 = some (.ireturn, 1, [1], 0)) rfl,
  fun l0 l1 E u => q_ret (by decide +kernel : am_Pg 39 16 = some (.ireturn, 1, [1], 0)) rfl,
  fun l0 l1 E u => q_ret (by decide +kernel : am_Pg 39 16 = some (.ireturn, 1, [1], 0)) rfl⟩
theorem x_C_far :
  (∀ (l1 l2 l3 l4 l5 : am_V) (a : Option Nat) (st : List am_V) (E : am_E) (u : am_M), Rn m_C_far 0 [vR a, l1, l2, l3, l4, l5] st E u = Rn m_C_far 1 [vR a, l1, l2, l3, l4, l5] (vR a :: st) E u) ∧
  (∀ (l0 l1 l2 l3 l4 l5 : am_V) (k : Nat) (st : List am_V) (E : am_E) (u : am_M) (hE : SE E) (hk : cuB k), Rn m_C_far 1 [l0, l1, l2, l3, l4, l5] (vR (some k) :: st) E u = Rn m_C_far 4 [l0, l1, l2, l3, l4, l5] (vI (u k 1) :: st) E u) ∧
  (∀ (l0 l1 l2 l3 l4 l5 : am_V) (st : List am_V) (E : am_E) (u : am_M), Rn m_C_far 4 [l0, l1, l2, l3, l4, l5] st E u = Rn m_C_far 5 [l0, l1, l2, l3, l4, l5] (vI 1 :: st) E u) ∧
  (∀ (l0 l1 l2 l3 l4 l5 : am_V) (a b : Int) (st : List am_V) (E : am_E) (u : am_M), Rn m_C_far 5 [l0, l1, l2, l3, l4, l5] (vI b :: vI a :: st) E u = if a < b then Rn m_C_far 8 [l0, l1, l2, l3, l4, l5] st E u else Rn m_C_far 12 [l0, l1, l2, l3, l4, l5] st E u) ∧
  (∀ (l0 l1 l2 l3 l4 l5 : am_V) (st : List am_V) (E : am_E) (u : am_M), Rn m_C_far 8 [l0, l1, l2, l3, l4, l5] st E u = Rn m_C_far 9 [l0, l1, l2, l3, l4, l5] (vI 1 :: st) E u) ∧
  (∀ (l0 l1 l2 l3 l4 l5 : am_V) (st : List am_V) (E : am_E) (u : am_M), Rn m_C_far 9 [l0, l1, l2, l3, l4, l5] st E u = Rn m_C_far 16 [l0, l1, l2, l3, l4, l5] st E u) ∧
  (∀ (l1 l2 l3 l4 l5 : am_V) (a : Option Nat) (st : List am_V) (E : am_E) (u : am_M), Rn m_C_far 12 [vR a, l1, l2, l3, l4, l5] st E u = Rn m_C_far 13 [vR a, l1, l2, l3, l4, l5] (vR a :: st) E u) ∧
  (∀ (l0 l1 l2 l3 l4 l5 : am_V) (k : Nat) (st : List am_V) (E : am_E) (u : am_M) (hE : SE E) (hk : cuB k), Rn m_C_far 13 [l0, l1, l2, l3, l4, l5] (vR (some k) :: st) E u = Rn m_C_far 16 [l0, l1, l2, l3, l4, l5] (vI (u k 1) :: st) E u) ∧
  (∀ (l0 l1 l2 l3 l4 l5 : am_V) (a : Int) (st : List am_V) (E : am_E) (u : am_M), Rn m_C_far 16 [l0, l1, l2, l3, l4, l5] (vI a :: st) E u = Rn m_C_far 17 [l0, l1, am_fx l2, vI a, l4, l5] st E u) ∧
  (∀ (l0 l2 l3 l4 l5 : am_V) (a : Int) (st : List am_V) (E : am_E) (u : am_M), Rn m_C_far 17 [l0, vI a, l2, l3, l4, l5] st E u = Rn m_C_far 18 [l0, vI a, l2, l3, l4, l5] (vI a :: st) E u) ∧
  (∀ (l0 l1 l2 l4 l5 : am_V) (a : Int) (st : List am_V) (E : am_E) (u : am_M), Rn m_C_far 18 [l0, l1, l2, vI a, l4, l5] st E u = Rn m_C_far 19 [l0, l1, l2, vI a, l4, l5] (vI a :: st) E u) ∧
  (∀ (l0 l1 l2 l3 l4 l5 : am_V) (a b : Int) (st : List am_V) (E : am_E) (u : am_M) (h : b ≠ 0), Rn m_C_far 19 [l0, l1, l2, l3, l4, l5] (vI b :: vI a :: st) E u = Rn m_C_far 20 [l0, l1, l2, l3, l4, l5] (vI (w32 (a.tdiv b)) :: st) E u) ∧
  (∀ (l0 l1 l3 l4 l5 : am_V) (a : Int) (st : List am_V) (E : am_E) (u : am_M), Rn m_C_far 20 [l0, l1, vI a, l3, l4, l5] st E u = Rn m_C_far 21 [l0, l1, vI a, l3, l4, l5] (vI a :: st) E u) ∧
  (∀ (l0 l1 l2 l4 l5 : am_V) (a : Int) (st : List am_V) (E : am_E) (u : am_M), Rn m_C_far 21 [l0, l1, l2, vI a, l4, l5] st E u = Rn m_C_far 22 [l0, l1, l2, vI a, l4, l5] (vI a :: st) E u) ∧
  (∀ (l0 l1 l2 l3 l4 l5 : am_V) (a b : Int) (st : List am_V) (E : am_E) (u : am_M) (h : b ≠ 0), Rn m_C_far 22 [l0, l1, l2, l3, l4, l5] (vI b :: vI a :: st) E u = Rn m_C_far 23 [l0, l1, l2, l3, l4, l5] (vI (w32 (a.tdiv b)) :: st) E u) ∧
  (∀ (l0 l1 l2 l3 l4 l5 : am_V) (a b : Int) (st : List am_V) (E : am_E) (u : am_M), Rn m_C_far 23 [l0, l1, l2, l3, l4, l5] (vI b :: vI a :: st) E u = Rn m_C_far 24 [l0, l1, l2, l3, l4, l5] (vI (w32 (a - b)) :: st) E u) ∧
  (∀ (l0 l1 l2 l3 l4 l5 : am_V) (a : Int) (st : List am_V) (E : am_E) (u : am_M), Rn m_C_far 24 [l0, l1, l2, l3, l4, l5] (vI a :: st) E u = Rn m_C_far 26 [l0, l1, l2, am_fx l3, vI a, l5] st E u) ∧
  (∀ (l0 l2 l3 l4 l5 : am_V) (a : Int) (st : List am_V) (E : am_E) (u : am_M), Rn m_C_far 26 [l0, vI a, l2, l3, l4, l5] st E u = Rn m_C_far 27 [l0, vI a, l2, l3, l4, l5] (vI a :: st) E u) ∧
  (∀ (l0 l1 l2 l4 l5 : am_V) (a : Int) (st : List am_V) (E : am_E) (u : am_M), Rn m_C_far 27 [l0, l1, l2, vI a, l4, l5] st E u = Rn m_C_far 28 [l0, l1, l2, vI a, l4, l5] (vI a :: st) E u) ∧
  (∀ (l0 l1 l2 l3 l4 l5 : am_V) (a b : Int) (st : List am_V) (E : am_E) (u : am_M) (h : b ≠ 0), Rn m_C_far 28 [l0, l1, l2, l3, l4, l5] (vI b :: vI a :: st) E u = Rn m_C_far 29 [l0, l1, l2, l3, l4, l5] (vI (w32 (a.tmod b)) :: st) E u) ∧
  (∀ (l0 l1 l3 l4 l5 : am_V) (a : Int) (st : List am_V) (E : am_E) (u : am_M), Rn m_C_far 29 [l0, l1, vI a, l3, l4, l5] st E u = Rn m_C_far 30 [l0, l1, vI a, l3, l4, l5] (vI a :: st) E u) ∧
  (∀ (l0 l1 l2 l4 l5 : am_V) (a : Int) (st : List am_V) (E : am_E) (u : am_M), Rn m_C_far 30 [l0, l1, l2, vI a, l4, l5] st E u = Rn m_C_far 31 [l0, l1, l2, vI a, l4, l5] (vI a :: st) E u) ∧
  (∀ (l0 l1 l2 l3 l4 l5 : am_V) (a b : Int) (st : List am_V) (E : am_E) (u : am_M) (h : b ≠ 0), Rn m_C_far 31 [l0, l1, l2, l3, l4, l5] (vI b :: vI a :: st) E u = Rn m_C_far 32 [l0, l1, l2, l3, l4, l5] (vI (w32 (a.tmod b)) :: st) E u) ∧
  (∀ (l0 l1 l2 l3 l4 l5 : am_V) (a b : Int) (st : List am_V) (E : am_E) (u : am_M), Rn m_C_far 32 [l0, l1, l2, l3, l4, l5] (vI b :: vI a :: st) E u = Rn m_C_far 33 [l0, l1, l2, l3, l4, l5] (vI (w32 (a - b)) :: st) E u) ∧
  (∀ (l0 l1 l2 l3 l4 l5 : am_V) (a : Int) (st : List am_V) (E : am_E) (u : am_M), Rn m_C_far 33 [l0, l1, l2, l3, l4, l5] (vI a :: st) E u = Rn m_C_far 35 [l0, l1, l2, l3, am_fx l4, vI a] st E u) ∧
  (∀ (l0 l1 l2 l3 l5 : am_V) (a : Int) (st : List am_V) (E : am_E) (u : am_M), Rn m_C_far 35 [l0, l1, l2, l3, vI a, l5] st E u = Rn m_C_far 37 [l0, l1, l2, l3, vI a, l5] (vI a :: st) E u) ∧
  (∀ (l0 l1 l2 l3 l4 l5 : am_V) (a : Int) (st : List am_V) (E : am_E) (u : am_M), Rn m_C_far 37 [l0, l1, l2, l3, l4, l5] (vI a :: st) E u = if a < 0 then Rn m_C_far 40 [l0, l1, l2, l3, l4, l5] st E u else Rn m_C_far 46 [l0, l1, l2, l3, l4, l5] st E u) ∧
  (∀ (l0 l1 l2 l3 l5 : am_V) (a : Int) (st : List am_V) (E : am_E) (u : am_M), Rn m_C_far 40 [l0, l1, l2, l3, vI a, l5] st E u = Rn m_C_far 42 [l0, l1, l2, l3, vI a, l5] (vI a :: st) E u) ∧
  (∀ (l0 l1 l2 l3 l4 l5 : am_V) (a : Int) (st : List am_V) (E : am_E) (u : am_M), Rn m_C_far 42 [l0, l1, l2, l3, l4, l5] (vI a :: st) E u = Rn m_C_far 43 [l0, l1, l2, l3, l4, l5] (vI (w32 (-a)) :: st) E u) ∧
  (∀ (l0 l1 l2 l3 l4 l5 : am_V) (st : List am_V) (E : am_E) (u : am_M), Rn m_C_far 43 [l0, l1, l2, l3, l4, l5] st E u = Rn m_C_far 48 [l0, l1, l2, l3, l4, l5] st E u) ∧
  (∀ (l0 l1 l2 l3 l5 : am_V) (a : Int) (st : List am_V) (E : am_E) (u : am_M), Rn m_C_far 46 [l0, l1, l2, l3, vI a, l5] st E u = Rn m_C_far 48 [l0, l1, l2, l3, vI a, l5] (vI a :: st) E u) ∧
  (∀ (l0 l1 l2 l3 l4 : am_V) (a : Int) (st : List am_V) (E : am_E) (u : am_M), Rn m_C_far 48 [l0, l1, l2, l3, l4, vI a] st E u = Rn m_C_far 50 [l0, l1, l2, l3, l4, vI a] (vI a :: st) E u) ∧
  (∀ (l0 l1 l2 l3 l4 l5 : am_V) (a : Int) (st : List am_V) (E : am_E) (u : am_M), Rn m_C_far 50 [l0, l1, l2, l3, l4, l5] (vI a :: st) E u = if a < 0 then Rn m_C_far 53 [l0, l1, l2, l3, l4, l5] st E u else Rn m_C_far 59 [l0, l1, l2, l3, l4, l5] st E u) ∧
  (∀ (l0 l1 l2 l3 l4 : am_V) (a : Int) (st : List am_V) (E : am_E) (u : am_M), Rn m_C_far 53 [l0, l1, l2, l3, l4, vI a] st E u = Rn m_C_far 55 [l0, l1, l2, l3, l4, vI a] (vI a :: st) E u) ∧
  (∀ (l0 l1 l2 l3 l4 l5 : am_V) (a : Int) (st : List am_V) (E : am_E) (u : am_M), Rn m_C_far 55 [l0, l1, l2, l3, l4, l5] (vI a :: st) E u = Rn m_C_far 56 [l0, l1, l2, l3, l4, l5] (vI (w32 (-a)) :: st) E u) ∧
  (∀ (l0 l1 l2 l3 l4 l5 : am_V) (st : List am_V) (E : am_E) (u : am_M), Rn m_C_far 56 [l0, l1, l2, l3, l4, l5] st E u = Rn m_C_far 61 [l0, l1, l2, l3, l4, l5] st E u) ∧
  (∀ (l0 l1 l2 l3 l4 : am_V) (a : Int) (st : List am_V) (E : am_E) (u : am_M), Rn m_C_far 59 [l0, l1, l2, l3, l4, vI a] st E u = Rn m_C_far 61 [l0, l1, l2, l3, l4, vI a] (vI a :: st) E u) ∧
  (∀ (l0 l1 l2 l3 l4 l5 : am_V) (a b : Int) (st : List am_V) (E : am_E) (u : am_M), Rn m_C_far 61 [l0, l1, l2, l3, l4, l5] (vI b :: vI a :: st) E u = Rn m_C_far 62 [l0, l1, l2, l3, l4, l5] (vI (w32 (a + b)) :: st) E u) ∧
  (∀ (l0 l1 l2 l3 l4 l5 : am_V) (a : Int) (E : am_E) (u : am_M), Rn m_C_far 62 [l0, l1, l2, l3, l4, l5] [vI a] E u = some (some (vI a), E, u)) :=
  ⟨fun l1 l2 l3 l4 l5 a st E u => q_go (by decide +kernel : am_Pg 40 0 = some (.aload_n 0, 1, [], 0)) rfl,
  fun l0 l1 l2 l3 l4 l5 k st E u hE hk => q_gfI (by decide +kernel : am_Pg 40 1 = some (.getfield 15, 3, [0, 14, 1, 0], 0)) (SE_k0 hE hk) (by decide),
  fun l0 l1 l2 l3 l4 l5 st E u => q_go (by decide +kernel : am_Pg 40 4 = some (.iconst 1, 1, [], 0)) rfl,
  fun l0 l1 l2 l3 l4 l5 a b st E u => q_icmp_ge (tgt := 12) (by decide +kernel : am_Pg 40 5 = some (.if_icmp .ge 7, 3, [], 0)) (by decide),
  fun l0 l1 l2 l3 l4 l5 st E u => q_go (by decide +kernel : am_Pg 40 8 = some (.iconst 1, 1, [], 0)) rfl,
  fun l0 l1 l2 l3 l4 l5 st E u => q_go (by decide +kernel : am_Pg 40 9 = some (.goto 7, 3, [], 0)) rfl,
  fun l1 l2 l3 l4 l5 a st E u => q_go (by decide +kernel : am_Pg 40 12 = some (.aload_n 0, 1, [], 0)) rfl,
  fun l0 l1 l2 l3 l4 l5 k st E u hE hk => q_gfI (by decide +kernel : am_Pg 40 13 = some (.getfield 15, 3, [0, 14, 1, 0], 0)) (SE_k0 hE hk) (by decide),
  fun l0 l1 l2 l3 l4 l5 a st E u => q_go (by decide +kernel : am_Pg 40 16 = some (.istore_n 3, 1, [], 0)) rfl,
  fun l0 l2 l3 l4 l5 a st E u => q_go (by decide +kernel : am_Pg 40 17 = some (.iload_n 1, 1, [], 0)) rfl,
  fun l0 l1 l2 l4 l5 a st E u => q_go (by decide +kernel : am_Pg 40 18 = some (.iload_n 3, 1, [], 0)) rfl,
  fun l0 l1 l2 l3 l4 l5 a b st E u h => q_div (by decide +kernel : am_Pg 40 19 = some (.idiv, 1, [], 0)) h,
  fun l0 l1 l3 l4 l5 a st E u => q_go (by decide +kernel : am_Pg 40 20 = some (.iload_n 2, 1, [], 0)) rfl,
  fun l0 l1 l2 l4 l5 a st E u => q_go (by decide +kernel : am_Pg 40 21 = some (.iload_n 3, 1, [], 0)) rfl,
  fun l0 l1 l2 l3 l4 l5 a b st E u h => q_div (by decide +kernel : am_Pg 40 22 = some (.idiv, 1, [], 0)) h,
  fun l0 l1 l2 l3 l4 l5 a b st E u => q_go (by decide +kernel : am_Pg 40 23 = some (.isub, 1, [], 0)) rfl,
  fun l0 l1 l2 l3 l4 l5 a st E u => q_go (by decide +kernel : am_Pg 40 24 = some (.istore 4, 2, [], 0)) rfl,
  fun l0 l2 l3 l4 l5 a st E u => q_go (by decide +kernel : am_Pg 40 26 = some (.iload_n 1, 1, [], 0)) rfl,
  fun l0 l1 l2 l4 l5 a st E u => q_go (by decide +kernel : am_Pg 40 27 = some (.iload_n 3, 1, [], 0)) rfl,
  fun l0 l1 l2 l3 l4 l5 a b st E u h => q_rem (by decide +kernel : am_Pg 40 28 = some (.irem, 1, [], 0)) h,
  fun l0 l1 l3 l4 l5 a st E u => q_go (by decide +kernel : am_Pg 40 29 = some (.iload_n 2, 1, [], 0)) rfl,
  fun l0 l1 l2 l4 l5 a st E u => q_go (by decide +kernel : am_Pg 40 30 = some (.iload_n 3, 1, [], 0)) rfl,
  fun l0 l1 l2 l3 l4 l5 a b st E u h => q_rem (by decide +kernel : am_Pg 40 31 = some (.irem, 1, [], 0)) h,
  fun l0 l1 l2 l3 l4 l5 a b st E u => q_go (by decide +kernel : am_Pg 40 32 = some (.isub, 1, [], 0)) rfl,
  fun l0 l1 l2 l3 l4 l5 a st E u => q_go (by decide +kernel : am_Pg 40 33 = some (.istore 5, 2, [], 0)) rfl,
  fun l0 l1 l2 l3 l5 a st E u => q_go (by decide +kernel : am_Pg 40 35 = some (.iload 4, 2, [], 0)) rfl,
  fun l0 l1 l2 l3 l4 l5 a st E u => q_if_ge (tgt := 46) (by decide +kernel : am_Pg 40 37 = some (.ifCond .ge 9, 3, [], 0)) (by decide),
  fun l0 l1 l2 l3 l5 a st E u => q_go (by decide +kernel : am_Pg 40 40 = some (.iload 4, 2, [], 0)) rfl,
  fun l0 l1 l2 l3 l4 l5 a st E u => q_go (by decide +kernel : am_Pg 40 42 = some (.ineg, 1, [], 0)) rfl,
  fun l0 l1 l2 l3 l4 l5 st E u => q_go (by decide +kernel : am_Pg 40 43 = some (.goto 5, 3, [], 0)) rfl,
  fun l0 l1 l2 l3 l5 a st E u => q_go (by decide +kernel : am_Pg 40 46 = some (.iload 4, 2, [], 0)) rfl,
  fun l0 l1 l2 l3 l4 a st E u => q_go (by decide +kernel : am_Pg 40 48 = some (.iload 5, 2, [], 0)) rfl,
  fun l0 l1 l2 l3 l4 l5 a st E u => q_if_ge (tgt := 59) (by decide +kernel : am_Pg 40 50 = some (.ifCond .ge 9, 3, [], 0)) (by decide),
  fun l0 l1 l2 l3 l4 a st E u => q_go (by decide +kernel : am_Pg 40 53 = some (.iload 5, 2, [], 0)) rfl,
  fun l0 l1 l2 l3 l4 l5 a st E u => q_go (by decide +kernel : am_Pg 40 55 = some (.ineg, 1, [], 0)) rfl,
  fun l0 l1 l2 l3 l4 l5 st E u => q_go (by decide +kernel : am_Pg 40 56 = some (.goto 5, 3, [], 0)) rfl,
  fun l0 l1 l2 l3 l4 a st E u => q_go (by decide +kernel : am_Pg 40 59 = some (.iload 5, 2, [], 0)) rfl,
  fun l0 l1 l2 l3 l4 l5 a b st E u => q_go (by decide +kernel : am_Pg 40 61 = some (.iadd, 1, [], 0)) rfl,
  fun l0 l1 l2 l3 l4 l5 a E u => q_ret (by decide +kernel : am_Pg 40 62 = some (.ireturn, 1, [], 0)) rfl⟩
theorem x_C_holds :
  (∀ (l1 l2 l3 : am_V) (a : Option Nat) (st : List am_V) (E : am_E) (u : am_M), Rn m_C_holds 0 [vR a, l1, l2, l3] st E u = Rn m_C_holds 1 [vR a, l1, l2, l3] (vR a :: st) E u) ∧
  (∀ (l0 l2 l3 : am_V) (a : Int) (st : List am_V) (E : am_E) (u : am_M), Rn m_C_holds 1 [l0, vI a, l2, l3] st E u = Rn m_C_holds 2 [l0, vI a, l2, l3] (vI a :: st) E u) ∧
  (∀ (l0 l1 l2 l3 : am_V) (k : Nat) (a0 : Int) (E : am_E) (u : am_M) (hE : SE E) (hk : cuB k), Rn m_C_holds 2 [l0, l1, l2, l3] [vI a0, vR (some k)] E u = bdI (Rn m_C_isThread 0 [vR (some k), vI a0] [] E u) (KI m_C_holds 5 [l0, l1, l2, l3] [])) ∧
  (∀ (l0 l1 l2 l3 : am_V) (a : Int) (st : List am_V) (E : am_E) (u : am_M), Rn m_C_holds 5 [l0, l1, l2, l3] (vI a :: st) E u = if a = 0 then Rn m_C_holds 16 [l0, l1, l2, l3] st E u else Rn m_C_holds 8 [l0, l1, l2, l3] st E u) ∧
  (∀ (l1 l2 l3 : am_V) (a : Option Nat) (st : List am_V) (E : am_E) (u : am_M), Rn m_C_holds 8 [vR a, l1, l2, l3] st E u = Rn m_C_holds 9 [vR a, l1, l2, l3] (vR a :: st) E u) ∧
  (∀ (l0 l2 l3 : am_V) (a : Int) (st : List am_V) (E : am_E) (u : am_M), Rn m_C_holds 9 [l0, vI a, l2, l3] st E u = Rn m_C_holds 10 [l0, vI a, l2, l3] (vI a :: st) E u) ∧
  (∀ (l0 l1 l2 l3 : am_V) (k : Nat) (a0 : Int) (E : am_E) (u : am_M) (hE : SE E) (hk : cuB k), Rn m_C_holds 10 [l0, l1, l2, l3] [vI a0, vR (some k)] E u = bdI (Rn m_C_isCut 0 [vR (some k), vI a0] [] E u) (KI m_C_holds 13 [l0, l1, l2, l3] [])) ∧
  (∀ (l0 l1 l2 l3 : am_V) (a : Int) (st : List am_V) (E : am_E) (u : am_M), Rn m_C_holds 13 [l0, l1, l2, l3] (vI a :: st) E u = if a = 0 then Rn m_C_holds 18 [l0, l1, l2, l3] st E u else Rn m_C_holds 16 [l0, l1, l2, l3] st E u) ∧
  (∀ (l0 l1 l2 l3 : am_V) (st : List am_V) (E : am_E) (u : am_M), Rn m_C_holds 16 [l0, l1, l2, l3] st E u = Rn m_C_holds 17 [l0, l1, l2, l3] (vI 0 :: st) E u) ∧
  (∀ (l0 l1 l2 l3 : am_V) (b : Bool) (E : am_E) (u : am_M), Rn m_C_holds 17 [l0, l1, l2, l3] [vI (bI b)] E u = some (some (vI (bI b)), E, u)) ∧
  (∀ (l0 l1 l2 l3 : am_V) (E : am_E) (u : am_M), Rn m_C_holds 17 [l0, l1, l2, l3] [vI 1] E u = some (some (vI 1), E, u)) ∧
  (∀ (l0 l1 l2 l3 : am_V) (E : am_E) (u : am_M), Rn m_C_holds 17 [l0, l1, l2, l3] [vI 0] E u = some (some (vI 0), E, u)) ∧
  (∀ (l1 l2 l3 : am_V) (a : Option Nat) (st : List am_V) (E : am_E) (u : am_M), Rn m_C_holds 18 [vR a, l1, l2, l3] st E u = Rn m_C_holds 19 [vR a, l1, l2, l3] (vR a :: st) E u) ∧
  (∀ (l0 l1 l2 l3 : am_V) (k : Nat) (st : List am_V) (E : am_E) (u : am_M) (hE : SE E) (hk : cuB k), Rn m_C_holds 19 [l0, l1, l2, l3] (vR (some k) :: st) E u = Rn m_C_holds 22 [l0, l1, l2, l3] (vR (some (k + 2)) :: st) E u) ∧
  (∀ (l1 l2 l3 : am_V) (a : Option Nat) (st : List am_V) (E : am_E) (u : am_M), Rn m_C_holds 22 [vR a, l1, l2, l3] st E u = Rn m_C_holds 23 [vR a, l1, l2, l3] (vR a :: st) E u) ∧
  (∀ (l0 l1 l2 l3 : am_V) (k : Nat) (st : List am_V) (E : am_E) (u : am_M) (hE : SE E) (hk : cuB k), Rn m_C_holds 23 [l0, l1, l2, l3] (vR (some k) :: st) E u = Rn m_C_holds 26 [l0, l1, l2, l3] (vR (some (k + 4)) :: st) E u) ∧
  (∀ (l0 l2 l3 : am_V) (a : Int) (st : List am_V) (E : am_E) (u : am_M), Rn m_C_holds 26 [l0, vI a, l2, l3] st E u = Rn m_C_holds 27 [l0, vI a, l2, l3] (vI a :: st) E u) ∧
  (∀ (l0 l1 l2 l3 : am_V) (a0 : Option Nat) (a1 : Int) (r0 : am_V) (E : am_E) (u : am_M), Rn m_C_holds 27 [l0, l1, l2, l3] [vI a1, vR a0, r0] E u = bdI (Rn m_A_look 0 [vR a0, vI a1] [] E u) (KI m_C_holds 30 [l0, l1, l2, l3] [r0])) ∧
  (∀ (l0 l1 l2 l3 : am_V) (a0 : Option Nat) (a1 : Int) (E : am_E) (u : am_M), Rn m_C_holds 30 [l0, l1, l2, l3] [vI a1, vR a0] E u = bdI (Rn m_A_look 0 [vR a0, vI a1] [] E u) (KI m_C_holds 33 [l0, l1, l2, l3] [])) ∧
  (∀ (l0 l1 l2 l3 : am_V) (a : Int) (st : List am_V) (E : am_E) (u : am_M), Rn m_C_holds 33 [l0, l1, l2, l3] (vI a :: st) E u = Rn m_C_holds 34 [l0, am_fx l1, vI a, l3] st E u) ∧
  (∀ (l1 l2 l3 : am_V) (a : Option Nat) (st : List am_V) (E : am_E) (u : am_M), Rn m_C_holds 34 [vR a, l1, l2, l3] st E u = Rn m_C_holds 35 [vR a, l1, l2, l3] (vR a :: st) E u) ∧
  (∀ (l0 l1 l2 l3 : am_V) (k : Nat) (st : List am_V) (E : am_E) (u : am_M) (hE : SE E) (hk : cuB k), Rn m_C_holds 35 [l0, l1, l2, l3] (vR (some k) :: st) E u = Rn m_C_holds 38 [l0, l1, l2, l3] (vR (some (k + 2)) :: st) E u) ∧
  (∀ (l1 l2 l3 : am_V) (a : Option Nat) (st : List am_V) (E : am_E) (u : am_M), Rn m_C_holds 38 [vR a, l1, l2, l3] st E u = Rn m_C_holds 39 [vR a, l1, l2, l3] (vR a :: st) E u) ∧
  (∀ (l0 l1 l2 l3 : am_V) (k : Nat) (st : List am_V) (E : am_E) (u : am_M) (hE : SE E) (hk : cuB k), Rn m_C_holds 39 [l0, l1, l2, l3] (vR (some k) :: st) E u = Rn m_C_holds 42 [l0, l1, l2, l3] (vR (some (k + 5)) :: st) E u) ∧
  (∀ (l0 l2 l3 : am_V) (a : Int) (st : List am_V) (E : am_E) (u : am_M), Rn m_C_holds 42 [l0, vI a, l2, l3] st E u = Rn m_C_holds 43 [l0, vI a, l2, l3] (vI a :: st) E u) ∧
  (∀ (l0 l1 l2 l3 : am_V) (a0 : Option Nat) (a1 : Int) (r0 : am_V) (E : am_E) (u : am_M), Rn m_C_holds 43 [l0, l1, l2, l3] [vI a1, vR a0, r0] E u = bdI (Rn m_A_look 0 [vR a0, vI a1] [] E u) (KI m_C_holds 46 [l0, l1, l2, l3] [r0])) ∧
  (∀ (l0 l1 l2 l3 : am_V) (a0 : Option Nat) (a1 : Int) (E : am_E) (u : am_M), Rn m_C_holds 46 [l0, l1, l2, l3] [vI a1, vR a0] E u = bdI (Rn m_A_look 0 [vR a0, vI a1] [] E u) (KI m_C_holds 49 [l0, l1, l2, l3] [])) ∧
  (∀ (l0 l1 l2 l3 : am_V) (a : Int) (st : List am_V) (E : am_E) (u : am_M), Rn m_C_holds 49 [l0, l1, l2, l3] (vI a :: st) E u = Rn m_C_holds 50 [l0, l1, am_fx l2, vI a] st E u) ∧
  (∀ (l0 l1 l3 : am_V) (a : Int) (st : List am_V) (E : am_E) (u : am_M), Rn m_C_holds 50 [l0, l1, vI a, l3] st E u = Rn m_C_holds 51 [l0, l1, vI a, l3] (vI a :: st) E u) ∧
  (∀ (l0 l1 l2 l3 : am_V) (st : List am_V) (E : am_E) (u : am_M), Rn m_C_holds 51 [l0, l1, l2, l3] st E u = Rn m_C_holds 53 [l0, l1, l2, l3] (vI (-4) :: st) E u) ∧
  (∀ (l0 l1 l2 l3 : am_V) (a b : Int) (st : List am_V) (E : am_E) (u : am_M), Rn m_C_holds 53 [l0, l1, l2, l3] (vI b :: vI a :: st) E u = if a = b then Rn m_C_holds 83 [l0, l1, l2, l3] st E u else Rn m_C_holds 56 [l0, l1, l2, l3] st E u) ∧
  (∀ (l0 l1 l2 : am_V) (a : Int) (st : List am_V) (E : am_E) (u : am_M), Rn m_C_holds 56 [l0, l1, l2, vI a] st E u = Rn m_C_holds 57 [l0, l1, l2, vI a] (vI a :: st) E u) ∧
  (∀ (l0 l1 l2 l3 : am_V) (st : List am_V) (E : am_E) (u : am_M), Rn m_C_holds 57 [l0, l1, l2, l3] st E u = Rn m_C_holds 59 [l0, l1, l2, l3] (vI (-4) :: st) E u) ∧
  (∀ (l0 l1 l2 l3 : am_V) (a b : Int) (st : List am_V) (E : am_E) (u : am_M), Rn m_C_holds 59 [l0, l1, l2, l3] (vI b :: vI a :: st) E u = if a = b then Rn m_C_holds 83 [l0, l1, l2, l3] st E u else Rn m_C_holds 62 [l0, l1, l2, l3] st E u) ∧
  (∀ (l1 l2 l3 : am_V) (a : Option Nat) (st : List am_V) (E : am_E) (u : am_M), Rn m_C_holds 62 [vR a, l1, l2, l3] st E u = Rn m_C_holds 63 [vR a, l1, l2, l3] (vR a :: st) E u) ∧
  (∀ (l0 l1 l3 : am_V) (a : Int) (st : List am_V) (E : am_E) (u : am_M), Rn m_C_holds 63 [l0, l1, vI a, l3] st E u = Rn m_C_holds 64 [l0, l1, vI a, l3] (vI a :: st) E u) ∧
  (∀ (l0 l1 l2 : am_V) (a : Int) (st : List am_V) (E : am_E) (u : am_M), Rn m_C_holds 64 [l0, l1, l2, vI a] st E u = Rn m_C_holds 65 [l0, l1, l2, vI a] (vI a :: st) E u) ∧
  (∀ (l0 l1 l2 l3 : am_V) (k : Nat) (a0 : Int) (a1 : Int) (E : am_E) (u : am_M) (hE : SE E) (hk : cuB k), Rn m_C_holds 65 [l0, l1, l2, l3] [vI a1, vI a0, vR (some k)] E u = bdI (Rn m_C_far 0 [vR (some k), vI a0, vI a1, vB false, vB false, vB false] [] E u) (KI m_C_holds 68 [l0, l1, l2, l3] [])) ∧
  (∀ (l1 l2 l3 : am_V) (a : Option Nat) (st : List am_V) (E : am_E) (u : am_M), Rn m_C_holds 68 [vR a, l1, l2, l3] st E u = Rn m_C_holds 69 [vR a, l1, l2, l3] (vR a :: st) E u) ∧
  (∀ (l0 l1 l2 l3 : am_V) (k : Nat) (st : List am_V) (E : am_E) (u : am_M) (hE : SE E) (hk : cuB k), Rn m_C_holds 69 [l0, l1, l2, l3] (vR (some k) :: st) E u = Rn m_C_holds 72 [l0, l1, l2, l3] (vR (some (k + 6)) :: st) E u) ∧
  (∀ (l0 l2 l3 : am_V) (a : Int) (st : List am_V) (E : am_E) (u : am_M), Rn m_C_holds 72 [l0, vI a, l2, l3] st E u = Rn m_C_holds 73 [l0, vI a, l2, l3] (vI a :: st) E u) ∧
  (∀ (l0 l1 l2 l3 : am_V) (a0 : Option Nat) (a1 : Int) (r0 : am_V) (E : am_E) (u : am_M), Rn m_C_holds 73 [l0, l1, l2, l3] [vI a1, vR a0, r0] E u = bdI (Rn m_A_look 0 [vR a0, vI a1] [] E u) (KI m_C_holds 76 [l0, l1, l2, l3] [r0])) ∧
  (∀ (l0 l1 l2 l3 : am_V) (a b : Int) (st : List am_V) (E : am_E) (u : am_M), Rn m_C_holds 76 [l0, l1, l2, l3] (vI b :: vI a :: st) E u = if b < a then Rn m_C_holds 83 [l0, l1, l2, l3] st E u else Rn m_C_holds 79 [l0, l1, l2, l3] st E u) ∧
  (∀ (l0 l1 l2 l3 : am_V) (st : List am_V) (E : am_E) (u : am_M), Rn m_C_holds 79 [l0, l1, l2, l3] st E u = Rn m_C_holds 80 [l0, l1, l2, l3] (vI 1 :: st) E u) ∧
  (∀ (l0 l1 l2 l3 : am_V) (st : List am_V) (E : am_E) (u : am_M), Rn m_C_holds 80 [l0, l1, l2, l3] st E u = Rn m_C_holds 84 [l0, l1, l2, l3] st E u) ∧
  (∀ (l0 l1 l2 l3 : am_V) (st : List am_V) (E : am_E) (u : am_M), Rn m_C_holds 83 [l0, l1, l2, l3] st E u = Rn m_C_holds 84 [l0, l1, l2, l3] (vI 0 :: st) E u) ∧
  (∀ (l0 l1 l2 l3 : am_V) (b : Bool) (E : am_E) (u : am_M), Rn m_C_holds 84 [l0, l1, l2, l3] [vI (bI b)] E u = some (some (vI (bI b)), E, u)) ∧
  (∀ (l0 l1 l2 l3 : am_V) (E : am_E) (u : am_M), Rn m_C_holds 84 [l0, l1, l2, l3] [vI 1] E u = some (some (vI 1), E, u)) ∧
  (∀ (l0 l1 l2 l3 : am_V) (E : am_E) (u : am_M), Rn m_C_holds 84 [l0, l1, l2, l3] [vI 0] E u = some (some (vI 0), E, u)) :=
  ⟨fun l1 l2 l3 a st E u => q_go (by decide +kernel : am_Pg 41 0 = some (.aload_n 0, 1, [], 0)) rfl,
  fun l0 l2 l3 a st E u => q_go (by decide +kernel : am_Pg 41 1 = some (.iload_n 1, 1, [], 0)) rfl,
  fun l0 l1 l2 l3 k a0  E u hE hk => q_cI (by decide +kernel : am_Pg 41 2 = some (.invokevirtual 98, 3, [3, 38, 2, 0, 14, 0], 0)) (am_call_V (a := [vI a0]) (st' := []) (Nat.le_of_ble_eq_true rfl) rfl (SE_k0 hE hk)) (by decide +kernel : am_Lm m_C_isThread = 2) (Nat.le_of_ble_eq_true rfl) rfl (by decide +kernel),
  fun l0 l1 l2 l3 a st E u => q_if_eq (tgt := 16) (by decide +kernel : am_Pg 41 5 = some (.ifCond .eq 11, 3, [], 0)) (by decide),
  fun l1 l2 l3 a st E u => q_go (by decide +kernel : am_Pg 41 8 = some (.aload_n 0, 1, [], 0)) rfl,
  fun l0 l2 l3 a st E u => q_go (by decide +kernel : am_Pg 41 9 = some (.iload_n 1, 1, [], 0)) rfl,
  fun l0 l1 l2 l3 k a0  E u hE hk => q_cI (by decide +kernel : am_Pg 41 10 = some (.invokevirtual 102, 3, [3, 39, 2, 0, 14, 0], 0)) (am_call_V (a := [vI a0]) (st' := []) (Nat.le_of_ble_eq_true rfl) rfl (SE_k0 hE hk)) (by decide +kernel : am_Lm m_C_isCut = 2) (Nat.le_of_ble_eq_true rfl) rfl (by decide +kernel),
  fun l0 l1 l2 l3 a st E u => q_if_eq (tgt := 18) (by decide +kernel : am_Pg 41 13 = some (.ifCond .eq 5, 3, [], 0)) (by decide),
  fun l0 l1 l2 l3 st E u => q_go (by decide +kernel : am_Pg 41 16 = some (.iconst 0, 1, [], 0)) rfl,
  fun l0 l1 l2 l3 b E u => by cases b <;> exact q_ret (by decide +kernel : am_Pg 41 17 = some (.ireturn, 1, [1], 0)) rfl,
  fun l0 l1 l2 l3 E u => q_ret (by decide +kernel : am_Pg 41 17 = some (.ireturn, 1, [1], 0)) rfl,
  fun l0 l1 l2 l3 E u => q_ret (by decide +kernel : am_Pg 41 17 = some (.ireturn, 1, [1], 0)) rfl,
  fun l1 l2 l3 a st E u => q_go (by decide +kernel : am_Pg 41 18 = some (.aload_n 0, 1, [], 0)) rfl,
  fun l0 l1 l2 l3 k st E u hE hk => q_gfR (by decide +kernel : am_Pg 41 19 = some (.getfield 25, 3, [0, 14, 9, 0], 0)) (SE_k0 hE hk) rfl (SE_r0_9 hE hk),
  fun l1 l2 l3 a st E u => q_go (by decide +kernel : am_Pg 41 22 = some (.aload_n 0, 1, [], 0)) rfl,
  fun l0 l1 l2 l3 k st E u hE hk => q_gfR (by decide +kernel : am_Pg 41 23 = some (.getfield 31, 3, [0, 14, 11, 0], 0)) (SE_k0 hE hk) rfl (SE_r0_11 hE hk),
  fun l0 l2 l3 a st E u => q_go (by decide +kernel : am_Pg 41 26 = some (.iload_n 1, 1, [], 0)) rfl,
  fun l0 l1 l2 l3 a0 a1 r0 E u => q_cI (by decide +kernel : am_Pg 41 27 = some (.invokestatic 105, 3, [2, 36, 2, 1], 0)) (am_call_S (f := fun _ _ => true) (a := [vR a0, vI a1]) (st' := [r0]) (Nat.le_of_ble_eq_true rfl) rfl rfl) (by decide +kernel : am_Lm m_A_look = 2) (Nat.le_of_ble_eq_true rfl) rfl (by decide +kernel),
  fun l0 l1 l2 l3 a0 a1  E u => q_cI (by decide +kernel : am_Pg 41 30 = some (.invokestatic 105, 3, [2, 36, 2, 1], 0)) (am_call_S (f := fun _ _ => true) (a := [vR a0, vI a1]) (st' := []) (Nat.le_of_ble_eq_true rfl) rfl rfl) (by decide +kernel : am_Lm m_A_look = 2) (Nat.le_of_ble_eq_true rfl) rfl (by decide +kernel),
  fun l0 l1 l2 l3 a st E u => q_go (by decide +kernel : am_Pg 41 33 = some (.istore_n 2, 1, [], 0)) rfl,
  fun l1 l2 l3 a st E u => q_go (by decide +kernel : am_Pg 41 34 = some (.aload_n 0, 1, [], 0)) rfl,
  fun l0 l1 l2 l3 k st E u hE hk => q_gfR (by decide +kernel : am_Pg 41 35 = some (.getfield 25, 3, [0, 14, 9, 0], 0)) (SE_k0 hE hk) rfl (SE_r0_9 hE hk),
  fun l1 l2 l3 a st E u => q_go (by decide +kernel : am_Pg 41 38 = some (.aload_n 0, 1, [], 0)) rfl,
  fun l0 l1 l2 l3 k st E u hE hk => q_gfR (by decide +kernel : am_Pg 41 39 = some (.getfield 34, 3, [0, 14, 12, 0], 0)) (SE_k0 hE hk) rfl (SE_r0_12 hE hk),
  fun l0 l2 l3 a st E u => q_go (by decide +kernel : am_Pg 41 42 = some (.iload_n 1, 1, [], 0)) rfl,
  fun l0 l1 l2 l3 a0 a1 r0 E u => q_cI (by decide +kernel : am_Pg 41 43 = some (.invokestatic 105, 3, [2, 36, 2, 1], 0)) (am_call_S (f := fun _ _ => true) (a := [vR a0, vI a1]) (st' := [r0]) (Nat.le_of_ble_eq_true rfl) rfl rfl) (by decide +kernel : am_Lm m_A_look = 2) (Nat.le_of_ble_eq_true rfl) rfl (by decide +kernel),
  fun l0 l1 l2 l3 a0 a1  E u => q_cI (by decide +kernel : am_Pg 41 46 = some (.invokestatic 105, 3, [2, 36, 2, 1], 0)) (am_call_S (f := fun _ _ => true) (a := [vR a0, vI a1]) (st' := []) (Nat.le_of_ble_eq_true rfl) rfl rfl) (by decide +kernel : am_Lm m_A_look = 2) (Nat.le_of_ble_eq_true rfl) rfl (by decide +kernel),
  fun l0 l1 l2 l3 a st E u => q_go (by decide +kernel : am_Pg 41 49 = some (.istore_n 3, 1, [], 0)) rfl,
  fun l0 l1 l3 a st E u => q_go (by decide +kernel : am_Pg 41 50 = some (.iload_n 2, 1, [], 0)) rfl,
  fun l0 l1 l2 l3 st E u => q_go (by decide +kernel : am_Pg 41 51 = some (.bipush (-4), 2, [], 0)) rfl,
  fun l0 l1 l2 l3 a b st E u => q_icmp_eq (tgt := 83) (by decide +kernel : am_Pg 41 53 = some (.if_icmp .eq 30, 3, [], 0)) (by decide),
  fun l0 l1 l2 a st E u => q_go (by decide +kernel : am_Pg 41 56 = some (.iload_n 3, 1, [], 0)) rfl,
  fun l0 l1 l2 l3 st E u => q_go (by decide +kernel : am_Pg 41 57 = some (.bipush (-4), 2, [], 0)) rfl,
  fun l0 l1 l2 l3 a b st E u => q_icmp_eq (tgt := 83) (by decide +kernel : am_Pg 41 59 = some (.if_icmp .eq 24, 3, [], 0)) (by decide),
  fun l1 l2 l3 a st E u => q_go (by decide +kernel : am_Pg 41 62 = some (.aload_n 0, 1, [], 0)) rfl,
  fun l0 l1 l3 a st E u => q_go (by decide +kernel : am_Pg 41 63 = some (.iload_n 2, 1, [], 0)) rfl,
  fun l0 l1 l2 a st E u => q_go (by decide +kernel : am_Pg 41 64 = some (.iload_n 3, 1, [], 0)) rfl,
  fun l0 l1 l2 l3 k a0 a1  E u hE hk => q_cI (by decide +kernel : am_Pg 41 65 = some (.invokevirtual 95, 3, [3, 40, 3, 0, 14, 0], 0)) (am_call_V (a := [vI a0, vI a1]) (st' := []) (Nat.le_of_ble_eq_true rfl) rfl (SE_k0 hE hk)) (by decide +kernel : am_Lm m_C_far = 6) (Nat.le_of_ble_eq_true rfl) rfl (by decide +kernel),
  fun l1 l2 l3 a st E u => q_go (by decide +kernel : am_Pg 41 68 = some (.aload_n 0, 1, [], 0)) rfl,
  fun l0 l1 l2 l3 k st E u hE hk => q_gfR (by decide +kernel : am_Pg 41 69 = some (.getfield 37, 3, [0, 14, 13, 0], 0)) (SE_k0 hE hk) rfl (SE_r0_13 hE hk),
  fun l0 l2 l3 a st E u => q_go (by decide +kernel : am_Pg 41 72 = some (.iload_n 1, 1, [], 0)) rfl,
  fun l0 l1 l2 l3 a0 a1 r0 E u => q_cI (by decide +kernel : am_Pg 41 73 = some (.invokestatic 105, 3, [2, 36, 2, 1], 0)) (am_call_S (f := fun _ _ => true) (a := [vR a0, vI a1]) (st' := [r0]) (Nat.le_of_ble_eq_true rfl) rfl rfl) (by decide +kernel : am_Lm m_A_look = 2) (Nat.le_of_ble_eq_true rfl) rfl (by decide +kernel),
  fun l0 l1 l2 l3 a b st E u => q_icmp_gt (tgt := 83) (by decide +kernel : am_Pg 41 76 = some (.if_icmp .gt 7, 3, [], 0)) (by decide),
  fun l0 l1 l2 l3 st E u => q_go (by decide +kernel : am_Pg 41 79 = some (.iconst 1, 1, [], 0)) rfl,
  fun l0 l1 l2 l3 st E u => q_go (by decide +kernel : am_Pg 41 80 = some (.goto 4, 3, [], 0)) rfl,
  fun l0 l1 l2 l3 st E u => q_go (by decide +kernel : am_Pg 41 83 = some (.iconst 0, 1, [], 0)) rfl,
  fun l0 l1 l2 l3 b E u => by cases b <;> exact q_ret (by decide +kernel : am_Pg 41 84 = some (.ireturn, 1, [1], 0)) rfl,
  fun l0 l1 l2 l3 E u => q_ret (by decide +kernel : am_Pg 41 84 = some (.ireturn, 1, [1], 0)) rfl,
  fun l0 l1 l2 l3 E u => q_ret (by decide +kernel : am_Pg 41 84 = some (.ireturn, 1, [1], 0)) rfl⟩
theorem h_C_mayGo_22 : ∀ (l0 l1 l2 l4 l5 l6 : am_V) (a : Int) (st : List am_V) (E : am_E) (u : am_M), Rn m_C_mayGo 22 [l0, l1, l2, vI a, l4, l5, l6] st E u = Rn m_C_mayGo 23 [l0, l1, l2, vI a, l4, l5, l6] (vI a :: st) E u :=
  fun l0 l1 l2 l4 l5 l6 a st E u => q_go (by decide +kernel : am_Pg 42 22 = some (.iload_n 3, 1, [], 0)) rfl
theorem x_C_mayGo :
  (∀ (l1 l2 l3 l4 l5 l6 : am_V) (a : Option Nat) (st : List am_V) (E : am_E) (u : am_M), Rn m_C_mayGo 0 [vR a, l1, l2, l3, l4, l5, l6] st E u = Rn m_C_mayGo 1 [vR a, l1, l2, l3, l4, l5, l6] (vR a :: st) E u) ∧
  (∀ (l0 l1 l3 l4 l5 l6 : am_V) (a : Int) (st : List am_V) (E : am_E) (u : am_M), Rn m_C_mayGo 1 [l0, l1, vI a, l3, l4, l5, l6] st E u = Rn m_C_mayGo 2 [l0, l1, vI a, l3, l4, l5, l6] (vI a :: st) E u) ∧
  (∀ (l0 l1 l2 l3 l4 l5 l6 : am_V) (k : Nat) (a0 : Int) (E : am_E) (u : am_M) (hE : SE E) (hk : cuB k), Rn m_C_mayGo 2 [l0, l1, l2, l3, l4, l5, l6] [vI a0, vR (some k)] E u = bdI (Rn m_C_isCell 0 [vR (some k), vI a0] [] E u) (KI m_C_mayGo 5 [l0, l1, l2, l3, l4, l5, l6] [])) ∧
  (∀ (l0 l1 l2 l3 l4 l5 l6 : am_V) (a : Int) (st : List am_V) (E : am_E) (u : am_M), Rn m_C_mayGo 5 [l0, l1, l2, l3, l4, l5, l6] (vI a :: st) E u = if a = 0 then Rn m_C_mayGo 18 [l0, l1, l2, l3, l4, l5, l6] st E u else Rn m_C_mayGo 8 [l0, l1, l2, l3, l4, l5, l6] st E u) ∧
  (∀ (l1 l2 l3 l4 l5 l6 : am_V) (a : Option Nat) (st : List am_V) (E : am_E) (u : am_M), Rn m_C_mayGo 8 [vR a, l1, l2, l3, l4, l5, l6] st E u = Rn m_C_mayGo 9 [vR a, l1, l2, l3, l4, l5, l6] (vR a :: st) E u) ∧
  (∀ (l0 l1 l3 l4 l5 l6 : am_V) (a : Int) (st : List am_V) (E : am_E) (u : am_M), Rn m_C_mayGo 9 [l0, l1, vI a, l3, l4, l5, l6] st E u = Rn m_C_mayGo 10 [l0, l1, vI a, l3, l4, l5, l6] (vI a :: st) E u) ∧
  (∀ (l0 l1 l2 l3 l4 l5 l6 : am_V) (k : Nat) (a0 : Int) (E : am_E) (u : am_M) (hE : SE E) (hk : cuB k), Rn m_C_mayGo 10 [l0, l1, l2, l3, l4, l5, l6] [vI a0, vR (some k)] E u = bdI (Rn m_C_pinOn 0 [vR (some k), vI a0, vB false] [] E u) (KI m_C_mayGo 13 [l0, l1, l2, l3, l4, l5, l6] [])) ∧
  (∀ (l0 l1 l2 l3 l4 l5 l6 : am_V) (st : List am_V) (E : am_E) (u : am_M), Rn m_C_mayGo 13 [l0, l1, l2, l3, l4, l5, l6] st E u = Rn m_C_mayGo 15 [l0, l1, l2, l3, l4, l5, l6] (vI (-4) :: st) E u) ∧
  (∀ (l0 l1 l2 l3 l4 l5 l6 : am_V) (a b : Int) (st : List am_V) (E : am_E) (u : am_M), Rn m_C_mayGo 15 [l0, l1, l2, l3, l4, l5, l6] (vI b :: vI a :: st) E u = if a = b then Rn m_C_mayGo 20 [l0, l1, l2, l3, l4, l5, l6] st E u else Rn m_C_mayGo 18 [l0, l1, l2, l3, l4, l5, l6] st E u) ∧
  (∀ (l0 l1 l2 l3 l4 l5 l6 : am_V) (st : List am_V) (E : am_E) (u : am_M), Rn m_C_mayGo 18 [l0, l1, l2, l3, l4, l5, l6] st E u = Rn m_C_mayGo 19 [l0, l1, l2, l3, l4, l5, l6] (vI 0 :: st) E u) ∧
  (∀ (l0 l1 l2 l3 l4 l5 l6 : am_V) (b : Bool) (E : am_E) (u : am_M), Rn m_C_mayGo 19 [l0, l1, l2, l3, l4, l5, l6] [vI (bI b)] E u = some (some (vI (bI b)), E, u)) ∧
  (∀ (l0 l1 l2 l3 l4 l5 l6 : am_V) (E : am_E) (u : am_M), Rn m_C_mayGo 19 [l0, l1, l2, l3, l4, l5, l6] [vI 1] E u = some (some (vI 1), E, u)) ∧
  (∀ (l0 l1 l2 l3 l4 l5 l6 : am_V) (E : am_E) (u : am_M), Rn m_C_mayGo 19 [l0, l1, l2, l3, l4, l5, l6] [vI 0] E u = some (some (vI 0), E, u)) ∧
  (∀ (l0 l1 l2 l3 l4 l5 l6 : am_V) (st : List am_V) (E : am_E) (u : am_M), Rn m_C_mayGo 20 [l0, l1, l2, l3, l4, l5, l6] st E u = Rn m_C_mayGo 21 [l0, l1, l2, l3, l4, l5, l6] (vI 0 :: st) E u) ∧
  (∀ (l0 l1 l2 l3 l4 l5 l6 : am_V) (a : Int) (st : List am_V) (E : am_E) (u : am_M), Rn m_C_mayGo 21 [l0, l1, l2, l3, l4, l5, l6] (vI a :: st) E u = Rn m_C_mayGo 22 [l0, l1, am_fx l2, vI a, l4, l5, l6] st E u) ∧
  (∀ (l1 l2 l3 l4 l5 l6 : am_V) (a : Option Nat) (st : List am_V) (E : am_E) (u : am_M), Rn m_C_mayGo 23 [vR a, l1, l2, l3, l4, l5, l6] st E u = Rn m_C_mayGo 24 [vR a, l1, l2, l3, l4, l5, l6] (vR a :: st) E u) ∧
  (∀ (l0 l1 l2 l3 l4 l5 l6 : am_V) (k : Nat) (st : List am_V) (E : am_E) (u : am_M) (hE : SE E) (hk : cuB k), Rn m_C_mayGo 24 [l0, l1, l2, l3, l4, l5, l6] (vR (some k) :: st) E u = Rn m_C_mayGo 27 [l0, l1, l2, l3, l4, l5, l6] (vI (u k 3) :: st) E u) ∧
  (∀ (l0 l1 l2 l3 l4 l5 l6 : am_V) (a b : Int) (st : List am_V) (E : am_E) (u : am_M), Rn m_C_mayGo 27 [l0, l1, l2, l3, l4, l5, l6] (vI b :: vI a :: st) E u = if a < b then Rn m_C_mayGo 30 [l0, l1, l2, l3, l4, l5, l6] st E u else Rn m_C_mayGo 118 [l0, l1, l2, l3, l4, l5, l6] st E u) ∧
  (∀ (l1 l2 l3 l4 l5 l6 : am_V) (a : Option Nat) (st : List am_V) (E : am_E) (u : am_M), Rn m_C_mayGo 30 [vR a, l1, l2, l3, l4, l5, l6] st E u = Rn m_C_mayGo 31 [vR a, l1, l2, l3, l4, l5, l6] (vR a :: st) E u) ∧
  (∀ (l0 l1 l2 l3 l4 l5 l6 : am_V) (k : Nat) (st : List am_V) (E : am_E) (u : am_M) (hE : SE E) (hk : cuB k), Rn m_C_mayGo 31 [l0, l1, l2, l3, l4, l5, l6] (vR (some k) :: st) E u = Rn m_C_mayGo 34 [l0, l1, l2, l3, l4, l5, l6] (vR (some (k + 4)) :: st) E u) ∧
  (∀ (l0 l1 l2 l4 l5 l6 : am_V) (a : Int) (st : List am_V) (E : am_E) (u : am_M), Rn m_C_mayGo 34 [l0, l1, l2, vI a, l4, l5, l6] st E u = Rn m_C_mayGo 35 [l0, l1, l2, vI a, l4, l5, l6] (vI a :: st) E u) ∧
  (∀ (l0 l1 l2 l3 l4 l5 l6 : am_V) (a0 : Option Nat) (a1 : Int) (E : am_E) (u : am_M), Rn m_C_mayGo 35 [l0, l1, l2, l3, l4, l5, l6] [vI a1, vR a0] E u = bdI (Rn m_A_look 0 [vR a0, vI a1] [] E u) (KI m_C_mayGo 38 [l0, l1, l2, l3, l4, l5, l6] [])) ∧
  (∀ (l0 l1 l2 l3 l4 l5 l6 : am_V) (a : Int) (st : List am_V) (E : am_E) (u : am_M), Rn m_C_mayGo 38 [l0, l1, l2, l3, l4, l5, l6] (vI a :: st) E u = Rn m_C_mayGo 40 [l0, l1, l2, am_fx l3, vI a, l5, l6] st E u) ∧
  (∀ (l1 l2 l3 l4 l5 l6 : am_V) (a : Option Nat) (st : List am_V) (E : am_E) (u : am_M), Rn m_C_mayGo 40 [vR a, l1, l2, l3, l4, l5, l6] st E u = Rn m_C_mayGo 41 [vR a, l1, l2, l3, l4, l5, l6] (vR a :: st) E u) ∧
  (∀ (l0 l1 l2 l3 l4 l5 l6 : am_V) (k : Nat) (st : List am_V) (E : am_E) (u : am_M) (hE : SE E) (hk : cuB k), Rn m_C_mayGo 41 [l0, l1, l2, l3, l4, l5, l6] (vR (some k) :: st) E u = Rn m_C_mayGo 44 [l0, l1, l2, l3, l4, l5, l6] (vR (some (k + 5)) :: st) E u) ∧
  (∀ (l0 l1 l2 l4 l5 l6 : am_V) (a : Int) (st : List am_V) (E : am_E) (u : am_M), Rn m_C_mayGo 44 [l0, l1, l2, vI a, l4, l5, l6] st E u = Rn m_C_mayGo 45 [l0, l1, l2, vI a, l4, l5, l6] (vI a :: st) E u) ∧
  (∀ (l0 l1 l2 l3 l4 l5 l6 : am_V) (a0 : Option Nat) (a1 : Int) (E : am_E) (u : am_M), Rn m_C_mayGo 45 [l0, l1, l2, l3, l4, l5, l6] [vI a1, vR a0] E u = bdI (Rn m_A_look 0 [vR a0, vI a1] [] E u) (KI m_C_mayGo 48 [l0, l1, l2, l3, l4, l5, l6] [])) ∧
  (∀ (l0 l1 l2 l3 l4 l5 l6 : am_V) (a : Int) (st : List am_V) (E : am_E) (u : am_M), Rn m_C_mayGo 48 [l0, l1, l2, l3, l4, l5, l6] (vI a :: st) E u = Rn m_C_mayGo 50 [l0, l1, l2, l3, am_fx l4, vI a, l6] st E u) ∧
  (∀ (l0 l1 l2 l3 l5 l6 : am_V) (a : Int) (st : List am_V) (E : am_E) (u : am_M), Rn m_C_mayGo 50 [l0, l1, l2, l3, vI a, l5, l6] st E u = Rn m_C_mayGo 52 [l0, l1, l2, l3, vI a, l5, l6] (vI a :: st) E u) ∧
  (∀ (l0 l2 l3 l4 l5 l6 : am_V) (a : Int) (st : List am_V) (E : am_E) (u : am_M), Rn m_C_mayGo 52 [l0, vI a, l2, l3, l4, l5, l6] st E u = Rn m_C_mayGo 53 [l0, vI a, l2, l3, l4, l5, l6] (vI a :: st) E u) ∧
  (∀ (l0 l1 l2 l3 l4 l5 l6 : am_V) (a b : Int) (st : List am_V) (E : am_E) (u : am_M), Rn m_C_mayGo 53 [l0, l1, l2, l3, l4, l5, l6] (vI b :: vI a :: st) E u = if a = b then Rn m_C_mayGo 62 [l0, l1, l2, l3, l4, l5, l6] st E u else Rn m_C_mayGo 56 [l0, l1, l2, l3, l4, l5, l6] st E u) ∧
  (∀ (l0 l1 l2 l3 l4 l6 : am_V) (a : Int) (st : List am_V) (E : am_E) (u : am_M), Rn m_C_mayGo 56 [l0, l1, l2, l3, l4, vI a, l6] st E u = Rn m_C_mayGo 58 [l0, l1, l2, l3, l4, vI a, l6] (vI a :: st) E u) ∧
  (∀ (l0 l2 l3 l4 l5 l6 : am_V) (a : Int) (st : List am_V) (E : am_E) (u : am_M), Rn m_C_mayGo 58 [l0, vI a, l2, l3, l4, l5, l6] st E u = Rn m_C_mayGo 59 [l0, vI a, l2, l3, l4, l5, l6] (vI a :: st) E u) ∧
  (∀ (l0 l1 l2 l3 l4 l5 l6 : am_V) (a b : Int) (st : List am_V) (E : am_E) (u : am_M), Rn m_C_mayGo 59 [l0, l1, l2, l3, l4, l5, l6] (vI b :: vI a :: st) E u = if a = b then Rn m_C_mayGo 62 [l0, l1, l2, l3, l4, l5, l6] st E u else Rn m_C_mayGo 112 [l0, l1, l2, l3, l4, l5, l6] st E u) ∧
  (∀ (l1 l2 l3 l4 l5 l6 : am_V) (a : Option Nat) (st : List am_V) (E : am_E) (u : am_M), Rn m_C_mayGo 62 [vR a, l1, l2, l3, l4, l5, l6] st E u = Rn m_C_mayGo 63 [vR a, l1, l2, l3, l4, l5, l6] (vR a :: st) E u) ∧
  (∀ (l0 l1 l2 l4 l5 l6 : am_V) (a : Int) (st : List am_V) (E : am_E) (u : am_M), Rn m_C_mayGo 63 [l0, l1, l2, vI a, l4, l5, l6] st E u = Rn m_C_mayGo 64 [l0, l1, l2, vI a, l4, l5, l6] (vI a :: st) E u) ∧
  (∀ (l0 l1 l2 l3 l4 l5 l6 : am_V) (k : Nat) (a0 : Int) (E : am_E) (u : am_M) (hE : SE E) (hk : cuB k), Rn m_C_mayGo 64 [l0, l1, l2, l3, l4, l5, l6] [vI a0, vR (some k)] E u = bdI (Rn m_C_holds 0 [vR (some k), vI a0, vB false, vB false] [] E u) (KI m_C_mayGo 67 [l0, l1, l2, l3, l4, l5, l6] [])) ∧
  (∀ (l0 l1 l2 l3 l4 l5 l6 : am_V) (a : Int) (st : List am_V) (E : am_E) (u : am_M), Rn m_C_mayGo 67 [l0, l1, l2, l3, l4, l5, l6] (vI a :: st) E u = if a = 0 then Rn m_C_mayGo 112 [l0, l1, l2, l3, l4, l5, l6] st E u else Rn m_C_mayGo 70 [l0, l1, l2, l3, l4, l5, l6] st E u) ∧
  (∀ (l1 l2 l3 l4 l5 l6 : am_V) (a : Option Nat) (st : List am_V) (E : am_E) (u : am_M), Rn m_C_mayGo 70 [vR a, l1, l2, l3, l4, l5, l6] st E u = Rn m_C_mayGo 71 [vR a, l1, l2, l3, l4, l5, l6] (vR a :: st) E u) ∧
  (∀ (l0 l1 l2 l3 l4 l5 l6 : am_V) (k : Nat) (st : List am_V) (E : am_E) (u : am_M) (hE : SE E) (hk : cuB k), Rn m_C_mayGo 71 [l0, l1, l2, l3, l4, l5, l6] (vR (some k) :: st) E u = Rn m_C_mayGo 74 [l0, l1, l2, l3, l4, l5, l6] (vR (some (k + 2)) :: st) E u) ∧
  (∀ (l0 l1 l2 l3 l5 l6 : am_V) (a : Int) (st : List am_V) (E : am_E) (u : am_M), Rn m_C_mayGo 74 [l0, l1, l2, l3, vI a, l5, l6] st E u = Rn m_C_mayGo 76 [l0, l1, l2, l3, vI a, l5, l6] (vI a :: st) E u) ∧
  (∀ (l0 l2 l3 l4 l5 l6 : am_V) (a : Int) (st : List am_V) (E : am_E) (u : am_M), Rn m_C_mayGo 76 [l0, vI a, l2, l3, l4, l5, l6] st E u = Rn m_C_mayGo 77 [l0, vI a, l2, l3, l4, l5, l6] (vI a :: st) E u) ∧
  (∀ (l0 l1 l2 l3 l4 l5 l6 : am_V) (a b : Int) (st : List am_V) (E : am_E) (u : am_M), Rn m_C_mayGo 77 [l0, l1, l2, l3, l4, l5, l6] (vI b :: vI a :: st) E u = if a = b then Rn m_C_mayGo 80 [l0, l1, l2, l3, l4, l5, l6] st E u else Rn m_C_mayGo 85 [l0, l1, l2, l3, l4, l5, l6] st E u) ∧
  (∀ (l0 l1 l2 l3 l4 l6 : am_V) (a : Int) (st : List am_V) (E : am_E) (u : am_M), Rn m_C_mayGo 80 [l0, l1, l2, l3, l4, vI a, l6] st E u = Rn m_C_mayGo 82 [l0, l1, l2, l3, l4, vI a, l6] (vI a :: st) E u) ∧
  (∀ (l0 l1 l2 l3 l4 l5 l6 : am_V) (st : List am_V) (E : am_E) (u : am_M), Rn m_C_mayGo 82 [l0, l1, l2, l3, l4, l5, l6] st E u = Rn m_C_mayGo 87 [l0, l1, l2, l3, l4, l5, l6] st E u) ∧
  (∀ (l0 l1 l2 l3 l5 l6 : am_V) (a : Int) (st : List am_V) (E : am_E) (u : am_M), Rn m_C_mayGo 85 [l0, l1, l2, l3, vI a, l5, l6] st E u = Rn m_C_mayGo 87 [l0, l1, l2, l3, vI a, l5, l6] (vI a :: st) E u) ∧
  (∀ (l0 l1 l2 l3 l4 l5 l6 : am_V) (a0 : Option Nat) (a1 : Int) (E : am_E) (u : am_M), Rn m_C_mayGo 87 [l0, l1, l2, l3, l4, l5, l6] [vI a1, vR a0] E u = bdI (Rn m_A_look 0 [vR a0, vI a1] [] E u) (KI m_C_mayGo 90 [l0, l1, l2, l3, l4, l5, l6] [])) ∧
  (∀ (l0 l1 l2 l3 l4 l5 l6 : am_V) (a : Int) (st : List am_V) (E : am_E) (u : am_M), Rn m_C_mayGo 90 [l0, l1, l2, l3, l4, l5, l6] (vI a :: st) E u = Rn m_C_mayGo 92 [l0, l1, l2, l3, l4, am_fx l5, vI a] st E u) ∧
  (∀ (l1 l2 l3 l4 l5 l6 : am_V) (a : Option Nat) (st : List am_V) (E : am_E) (u : am_M), Rn m_C_mayGo 92 [vR a, l1, l2, l3, l4, l5, l6] st E u = Rn m_C_mayGo 93 [vR a, l1, l2, l3, l4, l5, l6] (vR a :: st) E u) ∧
  (∀ (l0 l1 l3 l4 l5 l6 : am_V) (a : Int) (st : List am_V) (E : am_E) (u : am_M), Rn m_C_mayGo 93 [l0, l1, vI a, l3, l4, l5, l6] st E u = Rn m_C_mayGo 94 [l0, l1, vI a, l3, l4, l5, l6] (vI a :: st) E u) ∧
  (∀ (l0 l1 l2 l3 l4 l5 : am_V) (a : Int) (st : List am_V) (E : am_E) (u : am_M), Rn m_C_mayGo 94 [l0, l1, l2, l3, l4, l5, vI a] st E u = Rn m_C_mayGo 96 [l0, l1, l2, l3, l4, l5, vI a] (vI a :: st) E u) ∧
  (∀ (l0 l1 l2 l3 l4 l5 l6 : am_V) (k : Nat) (a0 : Int) (a1 : Int) (E : am_E) (u : am_M) (hE : SE E) (hk : cuB k), Rn m_C_mayGo 96 [l0, l1, l2, l3, l4, l5, l6] [vI a1, vI a0, vR (some k)] E u = bdI (Rn m_C_far 0 [vR (some k), vI a0, vI a1, vB false, vB false, vB false] [] E u) (KI m_C_mayGo 99 [l0, l1, l2, l3, l4, l5, l6] [])) ∧
  (∀ (l1 l2 l3 l4 l5 l6 : am_V) (a : Option Nat) (st : List am_V) (E : am_E) (u : am_M), Rn m_C_mayGo 99 [vR a, l1, l2, l3, l4, l5, l6] st E u = Rn m_C_mayGo 100 [vR a, l1, l2, l3, l4, l5, l6] (vR a :: st) E u) ∧
  (∀ (l0 l1 l2 l3 l4 l5 l6 : am_V) (k : Nat) (st : List am_V) (E : am_E) (u : am_M) (hE : SE E) (hk : cuB k), Rn m_C_mayGo 100 [l0, l1, l2, l3, l4, l5, l6] (vR (some k) :: st) E u = Rn m_C_mayGo 103 [l0, l1, l2, l3, l4, l5, l6] (vR (some (k + 6)) :: st) E u) ∧
  (∀ (l0 l1 l2 l4 l5 l6 : am_V) (a : Int) (st : List am_V) (E : am_E) (u : am_M), Rn m_C_mayGo 103 [l0, l1, l2, vI a, l4, l5, l6] st E u = Rn m_C_mayGo 104 [l0, l1, l2, vI a, l4, l5, l6] (vI a :: st) E u) ∧
  (∀ (l0 l1 l2 l3 l4 l5 l6 : am_V) (a0 : Option Nat) (a1 : Int) (r0 : am_V) (E : am_E) (u : am_M), Rn m_C_mayGo 104 [l0, l1, l2, l3, l4, l5, l6] [vI a1, vR a0, r0] E u = bdI (Rn m_A_look 0 [vR a0, vI a1] [] E u) (KI m_C_mayGo 107 [l0, l1, l2, l3, l4, l5, l6] [r0])) ∧
  (∀ (l0 l1 l2 l3 l4 l5 l6 : am_V) (a b : Int) (st : List am_V) (E : am_E) (u : am_M), Rn m_C_mayGo 107 [l0, l1, l2, l3, l4, l5, l6] (vI b :: vI a :: st) E u = if b < a then Rn m_C_mayGo 110 [l0, l1, l2, l3, l4, l5, l6] st E u else Rn m_C_mayGo 112 [l0, l1, l2, l3, l4, l5, l6] st E u) ∧
  (∀ (l0 l1 l2 l3 l4 l5 l6 : am_V) (st : List am_V) (E : am_E) (u : am_M), Rn m_C_mayGo 110 [l0, l1, l2, l3, l4, l5, l6] st E u = Rn m_C_mayGo 111 [l0, l1, l2, l3, l4, l5, l6] (vI 0 :: st) E u) ∧
  (∀ (l0 l1 l2 l3 l4 l5 l6 : am_V) (b : Bool) (E : am_E) (u : am_M), Rn m_C_mayGo 111 [l0, l1, l2, l3, l4, l5, l6] [vI (bI b)] E u = some (some (vI (bI b)), E, u)) ∧
  (∀ (l0 l1 l2 l3 l4 l5 l6 : am_V) (E : am_E) (u : am_M), Rn m_C_mayGo 111 [l0, l1, l2, l3, l4, l5, l6] [vI 1] E u = some (some (vI 1), E, u)) ∧
  (∀ (l0 l1 l2 l3 l4 l5 l6 : am_V) (E : am_E) (u : am_M), Rn m_C_mayGo 111 [l0, l1, l2, l3, l4, l5, l6] [vI 0] E u = some (some (vI 0), E, u)) ∧
  (∀ (l0 l1 l2 l4 l5 l6 : am_V) (a : Int) (st : List am_V) (E : am_E) (u : am_M), Rn m_C_mayGo 112 [l0, l1, l2, vI a, l4, l5, l6] st E u = Rn m_C_mayGo 115 [l0, l1, am_fx l2, vI (w32 (a + 1)), l4, l5, l6] st E u) ∧
  (∀ (l0 l1 l2 l3 l4 l5 l6 : am_V) (st : List am_V) (E : am_E) (u : am_M), Rn m_C_mayGo 115 [l0, l1, l2, l3, l4, l5, l6] st E u = Rn m_C_mayGo 22 [l0, l1, l2, l3, l4, l5, l6] st E u) ∧
  (∀ (l0 l1 l2 l3 l4 l5 l6 : am_V) (st : List am_V) (E : am_E) (u : am_M), Rn m_C_mayGo 118 [l0, l1, l2, l3, l4, l5, l6] st E u = Rn m_C_mayGo 119 [l0, l1, l2, l3, l4, l5, l6] (vI 1 :: st) E u) ∧
  (∀ (l0 l1 l2 l3 l4 l5 l6 : am_V) (b : Bool) (E : am_E) (u : am_M), Rn m_C_mayGo 119 [l0, l1, l2, l3, l4, l5, l6] [vI (bI b)] E u = some (some (vI (bI b)), E, u)) ∧
  (∀ (l0 l1 l2 l3 l4 l5 l6 : am_V) (E : am_E) (u : am_M), Rn m_C_mayGo 119 [l0, l1, l2, l3, l4, l5, l6] [vI 1] E u = some (some (vI 1), E, u)) ∧
  (∀ (l0 l1 l2 l3 l4 l5 l6 : am_V) (E : am_E) (u : am_M), Rn m_C_mayGo 119 [l0, l1, l2, l3, l4, l5, l6] [vI 0] E u = some (some (vI 0), E, u)) :=
  ⟨fun l1 l2 l3 l4 l5 l6 a st E u => q_go (by decide +kernel : am_Pg 42 0 = some (.aload_n 0, 1, [], 0)) rfl,
  fun l0 l1 l3 l4 l5 l6 a st E u => q_go (by decide +kernel : am_Pg 42 1 = some (.iload_n 2, 1, [], 0)) rfl,
  fun l0 l1 l2 l3 l4 l5 l6 k a0  E u hE hk => q_cI (by decide +kernel : am_Pg 42 2 = some (.invokevirtual 126, 3, [3, 16, 2, 0, 14, 0], 0)) (am_call_V (a := [vI a0]) (st' := []) (Nat.le_of_ble_eq_true rfl) rfl (SE_k0 hE hk)) (by decide +kernel : am_Lm m_C_isCell = 2) (Nat.le_of_ble_eq_true rfl) rfl (by decide +kernel),
  fun l0 l1 l2 l3 l4 l5 l6 a st E u => q_if_eq (tgt := 18) (by decide +kernel : am_Pg 42 5 = some (.ifCond .eq 13, 3, [], 0)) (by decide),
  fun l1 l2 l3 l4 l5 l6 a st E u => q_go (by decide +kernel : am_Pg 42 8 = some (.aload_n 0, 1, [], 0)) rfl,
  fun l0 l1 l3 l4 l5 l6 a st E u => q_go (by decide +kernel : am_Pg 42 9 = some (.iload_n 2, 1, [], 0)) rfl,
  fun l0 l1 l2 l3 l4 l5 l6 k a0  E u hE hk => q_cI (by decide +kernel : am_Pg 42 10 = some (.invokevirtual 83, 3, [3, 17, 2, 0, 14, 0], 0)) (am_call_V (a := [vI a0]) (st' := []) (Nat.le_of_ble_eq_true rfl) rfl (SE_k0 hE hk)) (by decide +kernel : am_Lm m_C_pinOn = 3) (Nat.le_of_ble_eq_true rfl) rfl (by decide +kernel),
  fun l0 l1 l2 l3 l4 l5 l6 st E u => q_go (by decide +kernel : am_Pg 42 13 = some (.bipush (-4), 2, [], 0)) rfl,
  fun l0 l1 l2 l3 l4 l5 l6 a b st E u => q_icmp_eq (tgt := 20) (by decide +kernel : am_Pg 42 15 = some (.if_icmp .eq 5, 3, [], 0)) (by decide),
  fun l0 l1 l2 l3 l4 l5 l6 st E u => q_go (by decide +kernel : am_Pg 42 18 = some (.iconst 0, 1, [], 0)) rfl,
  fun l0 l1 l2 l3 l4 l5 l6 b E u => by cases b <;> exact q_ret (by decide +kernel : am_Pg 42 19 = some (.ireturn, 1, [1], 0)) rfl,
  fun l0 l1 l2 l3 l4 l5 l6 E u => q_ret (by decide +kernel : am_Pg 42 19 = some (.ireturn, 1, [1], 0)) rfl,
  fun l0 l1 l2 l3 l4 l5 l6 E u => q_ret (by decide +kernel : am_Pg 42 19 = some (.ireturn, 1, [1], 0)) rfl,
  fun l0 l1 l2 l3 l4 l5 l6 st E u => q_go (by decide +kernel : am_Pg 42 20 = some (.iconst 0, 1, [], 0)) rfl,
  fun l0 l1 l2 l3 l4 l5 l6 a st E u => q_go (by decide +kernel : am_Pg 42 21 = some (.istore_n 3, 1, [], 0)) rfl,
  fun l1 l2 l3 l4 l5 l6 a st E u => q_go (by decide +kernel : am_Pg 42 23 = some (.aload_n 0, 1, [], 0)) rfl,
  fun l0 l1 l2 l3 l4 l5 l6 k st E u hE hk => q_gfI (by decide +kernel : am_Pg 42 24 = some (.getfield 49, 3, [0, 14, 3, 0], 0)) (SE_k0 hE hk) (by decide),
  fun l0 l1 l2 l3 l4 l5 l6 a b st E u => q_icmp_ge (tgt := 118) (by decide +kernel : am_Pg 42 27 = some (.if_icmp .ge 91, 3, [], 0)) (by decide),
  fun l1 l2 l3 l4 l5 l6 a st E u => q_go (by decide +kernel : am_Pg 42 30 = some (.aload_n 0, 1, [], 0)) rfl,
  fun l0 l1 l2 l3 l4 l5 l6 k st E u hE hk => q_gfR (by decide +kernel : am_Pg 42 31 = some (.getfield 31, 3, [0, 14, 11, 0], 0)) (SE_k0 hE hk) rfl (SE_r0_11 hE hk),
  fun l0 l1 l2 l4 l5 l6 a st E u => q_go (by decide +kernel : am_Pg 42 34 = some (.iload_n 3, 1, [], 0)) rfl,
  fun l0 l1 l2 l3 l4 l5 l6 a0 a1  E u => q_cI (by decide +kernel : am_Pg 42 35 = some (.invokestatic 105, 3, [2, 36, 2, 1], 0)) (am_call_S (f := fun _ _ => true) (a := [vR a0, vI a1]) (st' := []) (Nat.le_of_ble_eq_true rfl) rfl rfl) (by decide +kernel : am_Lm m_A_look = 2) (Nat.le_of_ble_eq_true rfl) rfl (by decide +kernel),
  fun l0 l1 l2 l3 l4 l5 l6 a st E u => q_go (by decide +kernel : am_Pg 42 38 = some (.istore 4, 2, [], 0)) rfl,
  fun l1 l2 l3 l4 l5 l6 a st E u => q_go (by decide +kernel : am_Pg 42 40 = some (.aload_n 0, 1, [], 0)) rfl,
  fun l0 l1 l2 l3 l4 l5 l6 k st E u hE hk => q_gfR (by decide +kernel : am_Pg 42 41 = some (.getfield 34, 3, [0, 14, 12, 0], 0)) (SE_k0 hE hk) rfl (SE_r0_12 hE hk),
  fun l0 l1 l2 l4 l5 l6 a st E u => q_go (by decide +kernel : am_Pg 42 44 = some (.iload_n 3, 1, [], 0)) rfl,
  fun l0 l1 l2 l3 l4 l5 l6 a0 a1  E u => q_cI (by decide +kernel : am_Pg 42 45 = some (.invokestatic 105, 3, [2, 36, 2, 1], 0)) (am_call_S (f := fun _ _ => true) (a := [vR a0, vI a1]) (st' := []) (Nat.le_of_ble_eq_true rfl) rfl rfl) (by decide +kernel : am_Lm m_A_look = 2) (Nat.le_of_ble_eq_true rfl) rfl (by decide +kernel),
  fun l0 l1 l2 l3 l4 l5 l6 a st E u => q_go (by decide +kernel : am_Pg 42 48 = some (.istore 5, 2, [], 0)) rfl,
  fun l0 l1 l2 l3 l5 l6 a st E u => q_go (by decide +kernel : am_Pg 42 50 = some (.iload 4, 2, [], 0)) rfl,
  fun l0 l2 l3 l4 l5 l6 a st E u => q_go (by decide +kernel : am_Pg 42 52 = some (.iload_n 1, 1, [], 0)) rfl,
  fun l0 l1 l2 l3 l4 l5 l6 a b st E u => q_icmp_eq (tgt := 62) (by decide +kernel : am_Pg 42 53 = some (.if_icmp .eq 9, 3, [], 0)) (by decide),
  fun l0 l1 l2 l3 l4 l6 a st E u => q_go (by decide +kernel : am_Pg 42 56 = some (.iload 5, 2, [], 0)) rfl,
  fun l0 l2 l3 l4 l5 l6 a st E u => q_go (by decide +kernel : am_Pg 42 58 = some (.iload_n 1, 1, [], 0)) rfl,
  fun l0 l1 l2 l3 l4 l5 l6 a b st E u => q_icmp_ne (tgt := 112) (by decide +kernel : am_Pg 42 59 = some (.if_icmp .ne 53, 3, [], 0)) (by decide),
  fun l1 l2 l3 l4 l5 l6 a st E u => q_go (by decide +kernel : am_Pg 42 62 = some (.aload_n 0, 1, [], 0)) rfl,
  fun l0 l1 l2 l4 l5 l6 a st E u => q_go (by decide +kernel : am_Pg 42 63 = some (.iload_n 3, 1, [], 0)) rfl,
  fun l0 l1 l2 l3 l4 l5 l6 k a0  E u hE hk => q_cI (by decide +kernel : am_Pg 42 64 = some (.invokevirtual 109, 3, [3, 41, 2, 0, 14, 0], 0)) (am_call_V (a := [vI a0]) (st' := []) (Nat.le_of_ble_eq_true rfl) rfl (SE_k0 hE hk)) (by decide +kernel : am_Lm m_C_holds = 4) (Nat.le_of_ble_eq_true rfl) rfl (by decide +kernel),
  fun l0 l1 l2 l3 l4 l5 l6 a st E u => q_if_eq (tgt := 112) (by decide +kernel : am_Pg 42 67 = some (.ifCond .eq 45, 3, [], 0)) (by decide),
  fun l1 l2 l3 l4 l5 l6 a st E u => q_go (by decide +kernel : am_Pg 42 70 = some (.aload_n 0, 1, [], 0)) rfl,
  fun l0 l1 l2 l3 l4 l5 l6 k st E u hE hk => q_gfR (by decide +kernel : am_Pg 42 71 = some (.getfield 25, 3, [0, 14, 9, 0], 0)) (SE_k0 hE hk) rfl (SE_r0_9 hE hk),
  fun l0 l1 l2 l3 l5 l6 a st E u => q_go (by decide +kernel : am_Pg 42 74 = some (.iload 4, 2, [], 0)) rfl,
  fun l0 l2 l3 l4 l5 l6 a st E u => q_go (by decide +kernel : am_Pg 42 76 = some (.iload_n 1, 1, [], 0)) rfl,
  fun l0 l1 l2 l3 l4 l5 l6 a b st E u => q_icmp_ne (tgt := 85) (by decide +kernel : am_Pg 42 77 = some (.if_icmp .ne 8, 3, [], 0)) (by decide),
  fun l0 l1 l2 l3 l4 l6 a st E u => q_go (by decide +kernel : am_Pg 42 80 = some (.iload 5, 2, [], 0)) rfl,
  fun l0 l1 l2 l3 l4 l5 l6 st E u => q_go (by decide +kernel : am_Pg 42 82 = some (.goto 5, 3, [], 0)) rfl,
  fun l0 l1 l2 l3 l5 l6 a st E u => q_go (by decide +kernel : am_Pg 42 85 = some (.iload 4, 2, [], 0)) rfl,
  fun l0 l1 l2 l3 l4 l5 l6 a0 a1  E u => q_cI (by decide +kernel : am_Pg 42 87 = some (.invokestatic 105, 3, [2, 36, 2, 1], 0)) (am_call_S (f := fun _ _ => true) (a := [vR a0, vI a1]) (st' := []) (Nat.le_of_ble_eq_true rfl) rfl rfl) (by decide +kernel : am_Lm m_A_look = 2) (Nat.le_of_ble_eq_true rfl) rfl (by decide +kernel),
  fun l0 l1 l2 l3 l4 l5 l6 a st E u => q_go (by decide +kernel : am_Pg 42 90 = some (.istore 6, 2, [], 0)) rfl,
  fun l1 l2 l3 l4 l5 l6 a st E u => q_go (by decide +kernel : am_Pg 42 92 = some (.aload_n 0, 1, [], 0)) rfl,
  fun l0 l1 l3 l4 l5 l6 a st E u => q_go (by decide +kernel : am_Pg 42 93 = some (.iload_n 2, 1, [], 0)) rfl,
  fun l0 l1 l2 l3 l4 l5 a st E u => q_go (by decide +kernel : am_Pg 42 94 = some (.iload 6, 2, [], 0)) rfl,
  fun l0 l1 l2 l3 l4 l5 l6 k a0 a1  E u hE hk => q_cI (by decide +kernel : am_Pg 42 96 = some (.invokevirtual 95, 3, [3, 40, 3, 0, 14, 0], 0)) (am_call_V (a := [vI a0, vI a1]) (st' := []) (Nat.le_of_ble_eq_true rfl) rfl (SE_k0 hE hk)) (by decide +kernel : am_Lm m_C_far = 6) (Nat.le_of_ble_eq_true rfl) rfl (by decide +kernel),
  fun l1 l2 l3 l4 l5 l6 a st E u => q_go (by decide +kernel : am_Pg 42 99 = some (.aload_n 0, 1, [], 0)) rfl,
  fun l0 l1 l2 l3 l4 l5 l6 k st E u hE hk => q_gfR (by decide +kernel : am_Pg 42 100 = some (.getfield 37, 3, [0, 14, 13, 0], 0)) (SE_k0 hE hk) rfl (SE_r0_13 hE hk),
  fun l0 l1 l2 l4 l5 l6 a st E u => q_go (by decide +kernel : am_Pg 42 103 = some (.iload_n 3, 1, [], 0)) rfl,
  fun l0 l1 l2 l3 l4 l5 l6 a0 a1 r0 E u => q_cI (by decide +kernel : am_Pg 42 104 = some (.invokestatic 105, 3, [2, 36, 2, 1], 0)) (am_call_S (f := fun _ _ => true) (a := [vR a0, vI a1]) (st' := [r0]) (Nat.le_of_ble_eq_true rfl) rfl rfl) (by decide +kernel : am_Lm m_A_look = 2) (Nat.le_of_ble_eq_true rfl) rfl (by decide +kernel),
  fun l0 l1 l2 l3 l4 l5 l6 a b st E u => q_icmp_le (tgt := 112) (by decide +kernel : am_Pg 42 107 = some (.if_icmp .le 5, 3, [], 0)) (by decide),
  fun l0 l1 l2 l3 l4 l5 l6 st E u => q_go (by decide +kernel : am_Pg 42 110 = some (.iconst 0, 1, [], 0)) rfl,
  fun l0 l1 l2 l3 l4 l5 l6 b E u => by cases b <;> exact q_ret (by decide +kernel : am_Pg 42 111 = some (.ireturn, 1, [1], 0)) rfl,
  fun l0 l1 l2 l3 l4 l5 l6 E u => q_ret (by decide +kernel : am_Pg 42 111 = some (.ireturn, 1, [1], 0)) rfl,
  fun l0 l1 l2 l3 l4 l5 l6 E u => q_ret (by decide +kernel : am_Pg 42 111 = some (.ireturn, 1, [1], 0)) rfl,
  fun l0 l1 l2 l4 l5 l6 a st E u => q_go (by decide +kernel : am_Pg 42 112 = some (.iinc 3 1, 3, [], 0)) rfl,
  fun l0 l1 l2 l3 l4 l5 l6 st E u => q_go (by decide +kernel : am_Pg 42 115 = some (.goto (-93), 3, [], 0)) rfl,
  fun l0 l1 l2 l3 l4 l5 l6 st E u => q_go (by decide +kernel : am_Pg 42 118 = some (.iconst 1, 1, [], 0)) rfl,
  fun l0 l1 l2 l3 l4 l5 l6 b E u => by cases b <;> exact q_ret (by decide +kernel : am_Pg 42 119 = some (.ireturn, 1, [1], 0)) rfl,
  fun l0 l1 l2 l3 l4 l5 l6 E u => q_ret (by decide +kernel : am_Pg 42 119 = some (.ireturn, 1, [1], 0)) rfl,
  fun l0 l1 l2 l3 l4 l5 l6 E u => q_ret (by decide +kernel : am_Pg 42 119 = some (.ireturn, 1, [1], 0)) rfl⟩
theorem h_C_waysOf_4 : ∀ (l0 l1 l2 : am_V) (a : Int) (st : List am_V) (E : am_E) (u : am_M), Rn m_C_waysOf 4 [l0, l1, l2, vI a] st E u = Rn m_C_waysOf 5 [l0, l1, l2, vI a] (vI a :: st) E u :=
  fun l0 l1 l2 a st E u => q_go (by decide +kernel : am_Pg 43 4 = some (.iload_n 3, 1, [], 0)) rfl
theorem x_C_waysOf :
  (∀ (l0 l1 l2 l3 : am_V) (st : List am_V) (E : am_E) (u : am_M), Rn m_C_waysOf 0 [l0, l1, l2, l3] st E u = Rn m_C_waysOf 1 [l0, l1, l2, l3] (vI 0 :: st) E u) ∧
  (∀ (l0 l1 l2 l3 : am_V) (a : Int) (st : List am_V) (E : am_E) (u : am_M), Rn m_C_waysOf 1 [l0, l1, l2, l3] (vI a :: st) E u = Rn m_C_waysOf 2 [l0, am_fx l1, vI a, l3] st E u) ∧
  (∀ (l0 l1 l2 l3 : am_V) (st : List am_V) (E : am_E) (u : am_M), Rn m_C_waysOf 2 [l0, l1, l2, l3] st E u = Rn m_C_waysOf 3 [l0, l1, l2, l3] (vI 0 :: st) E u) ∧
  (∀ (l0 l1 l2 l3 : am_V) (a : Int) (st : List am_V) (E : am_E) (u : am_M), Rn m_C_waysOf 3 [l0, l1, l2, l3] (vI a :: st) E u = Rn m_C_waysOf 4 [l0, l1, am_fx l2, vI a] st E u) ∧
  (∀ (l0 l1 l2 l3 : am_V) (st : List am_V) (E : am_E) (u : am_M), Rn m_C_waysOf 5 [l0, l1, l2, l3] st E u = Rn m_C_waysOf 6 [l0, l1, l2, l3] (vI 4 :: st) E u) ∧
  (∀ (l0 l1 l2 l3 : am_V) (a b : Int) (st : List am_V) (E : am_E) (u : am_M), Rn m_C_waysOf 6 [l0, l1, l2, l3] (vI b :: vI a :: st) E u = if a < b then Rn m_C_waysOf 9 [l0, l1, l2, l3] st E u else Rn m_C_waysOf 42 [l0, l1, l2, l3] st E u) ∧
  (∀ (l1 l2 l3 : am_V) (a : Option Nat) (st : List am_V) (E : am_E) (u : am_M), Rn m_C_waysOf 9 [vR a, l1, l2, l3] st E u = Rn m_C_waysOf 10 [vR a, l1, l2, l3] (vR a :: st) E u) ∧
  (∀ (l0 l2 l3 : am_V) (a : Int) (st : List am_V) (E : am_E) (u : am_M), Rn m_C_waysOf 10 [l0, vI a, l2, l3] st E u = Rn m_C_waysOf 11 [l0, vI a, l2, l3] (vI a :: st) E u) ∧
  (∀ (l1 l2 l3 : am_V) (a : Option Nat) (st : List am_V) (E : am_E) (u : am_M), Rn m_C_waysOf 11 [vR a, l1, l2, l3] st E u = Rn m_C_waysOf 12 [vR a, l1, l2, l3] (vR a :: st) E u) ∧
  (∀ (l1 l2 l3 : am_V) (a : Option Nat) (st : List am_V) (E : am_E) (u : am_M), Rn m_C_waysOf 12 [vR a, l1, l2, l3] st E u = Rn m_C_waysOf 13 [vR a, l1, l2, l3] (vR a :: st) E u) ∧
  (∀ (l0 l1 l2 l3 : am_V) (k : Nat) (st : List am_V) (E : am_E) (u : am_M) (hE : SE E) (hk : cuB k), Rn m_C_waysOf 13 [l0, l1, l2, l3] (vR (some k) :: st) E u = Rn m_C_waysOf 16 [l0, l1, l2, l3] (vR (some (k + 2)) :: st) E u) ∧
  (∀ (l0 l2 l3 : am_V) (a : Int) (st : List am_V) (E : am_E) (u : am_M), Rn m_C_waysOf 16 [l0, vI a, l2, l3] st E u = Rn m_C_waysOf 17 [l0, vI a, l2, l3] (vI a :: st) E u) ∧
  (∀ (l0 l1 l2 l3 : am_V) (a0 : Option Nat) (a1 : Int) (r0 r1 r2 : am_V) (E : am_E) (u : am_M), Rn m_C_waysOf 17 [l0, l1, l2, l3] [vI a1, vR a0, r0, r1, r2] E u = bdI (Rn m_A_look 0 [vR a0, vI a1] [] E u) (KI m_C_waysOf 20 [l0, l1, l2, l3] [r0, r1, r2])) ∧
  (∀ (l0 l1 l2 : am_V) (a : Int) (st : List am_V) (E : am_E) (u : am_M), Rn m_C_waysOf 20 [l0, l1, l2, vI a] st E u = Rn m_C_waysOf 21 [l0, l1, l2, vI a] (vI a :: st) E u) ∧
  (∀ (l0 l1 l2 l3 : am_V) (k : Nat) (a0 : Int) (a1 : Int) (r0 r1 : am_V) (E : am_E) (u : am_M) (hE : SE E) (hk : cuB k), Rn m_C_waysOf 21 [l0, l1, l2, l3] [vI a1, vI a0, vR (some k), r0, r1] E u = bdI (Rn m_C_beside 0 [vR (some k), vI a0, vI a1, vB false] [] E u) (KI m_C_waysOf 24 [l0, l1, l2, l3] [r0, r1])) ∧
  (∀ (l0 l1 l2 l3 : am_V) (k : Nat) (a0 : Int) (a1 : Int) (E : am_E) (u : am_M) (hE : SE E) (hk : cuB k), Rn m_C_waysOf 24 [l0, l1, l2, l3] [vI a1, vI a0, vR (some k)] E u = bdI (Rn m_C_mayGo 0 [vR (some k), vI a0, vI a1, vB false, vB false, vB false, vB false] [] E u) (KI m_C_waysOf 27 [l0, l1, l2, l3] [])) ∧
  (∀ (l0 l1 l2 l3 : am_V) (a : Int) (st : List am_V) (E : am_E) (u : am_M), Rn m_C_waysOf 27 [l0, l1, l2, l3] (vI a :: st) E u = if a = 0 then Rn m_C_waysOf 36 [l0, l1, l2, l3] st E u else Rn m_C_waysOf 30 [l0, l1, l2, l3] st E u) ∧
  (∀ (l0 l1 l3 : am_V) (a : Int) (st : List am_V) (E : am_E) (u : am_M), Rn m_C_waysOf 30 [l0, l1, vI a, l3] st E u = Rn m_C_waysOf 31 [l0, l1, vI a, l3] (vI a :: st) E u) ∧
  (∀ (l0 l1 l2 l3 : am_V) (st : List am_V) (E : am_E) (u : am_M), Rn m_C_waysOf 31 [l0, l1, l2, l3] st E u = Rn m_C_waysOf 32 [l0, l1, l2, l3] (vI 1 :: st) E u) ∧
  (∀ (l0 l1 l2 : am_V) (a : Int) (st : List am_V) (E : am_E) (u : am_M), Rn m_C_waysOf 32 [l0, l1, l2, vI a] st E u = Rn m_C_waysOf 33 [l0, l1, l2, vI a] (vI a :: st) E u) ∧
  (∀ (l0 l1 l2 l3 : am_V) (a b : Int) (st : List am_V) (E : am_E) (u : am_M), Rn m_C_waysOf 33 [l0, l1, l2, l3] (vI b :: vI a :: st) E u = Rn m_C_waysOf 34 [l0, l1, l2, l3] (vI (i_shl a b) :: st) E u) ∧
  (∀ (l0 l1 l2 l3 : am_V) (a b : Int) (st : List am_V) (E : am_E) (u : am_M), Rn m_C_waysOf 34 [l0, l1, l2, l3] (vI b :: vI a :: st) E u = Rn m_C_waysOf 35 [l0, l1, l2, l3] (vI (i_or a b) :: st) E u) ∧
  (∀ (l0 l1 l2 l3 : am_V) (a : Int) (st : List am_V) (E : am_E) (u : am_M), Rn m_C_waysOf 35 [l0, l1, l2, l3] (vI a :: st) E u = Rn m_C_waysOf 36 [l0, am_fx l1, vI a, l3] st E u) ∧
  (∀ (l0 l1 l2 : am_V) (a : Int) (st : List am_V) (E : am_E) (u : am_M), Rn m_C_waysOf 36 [l0, l1, l2, vI a] st E u = Rn m_C_waysOf 39 [l0, l1, am_fx l2, vI (w32 (a + 1))] st E u) ∧
  (∀ (l0 l1 l2 l3 : am_V) (st : List am_V) (E : am_E) (u : am_M), Rn m_C_waysOf 39 [l0, l1, l2, l3] st E u = Rn m_C_waysOf 4 [l0, l1, l2, l3] st E u) ∧
  (∀ (l0 l1 l3 : am_V) (a : Int) (st : List am_V) (E : am_E) (u : am_M), Rn m_C_waysOf 42 [l0, l1, vI a, l3] st E u = Rn m_C_waysOf 43 [l0, l1, vI a, l3] (vI a :: st) E u) ∧
  (∀ (l0 l1 l2 l3 : am_V) (a : Int) (E : am_E) (u : am_M), Rn m_C_waysOf 43 [l0, l1, l2, l3] [vI a] E u = some (some (vI a), E, u)) :=
  ⟨fun l0 l1 l2 l3 st E u => q_go (by decide +kernel : am_Pg 43 0 = some (.iconst 0, 1, [], 0)) rfl,
  fun l0 l1 l2 l3 a st E u => q_go (by decide +kernel : am_Pg 43 1 = some (.istore_n 2, 1, [], 0)) rfl,
  fun l0 l1 l2 l3 st E u => q_go (by decide +kernel : am_Pg 43 2 = some (.iconst 0, 1, [], 0)) rfl,
  fun l0 l1 l2 l3 a st E u => q_go (by decide +kernel : am_Pg 43 3 = some (.istore_n 3, 1, [], 0)) rfl,
  fun l0 l1 l2 l3 st E u => q_go (by decide +kernel : am_Pg 43 5 = some (.iconst 4, 1, [], 0)) rfl,
  fun l0 l1 l2 l3 a b st E u => q_icmp_ge (tgt := 42) (by decide +kernel : am_Pg 43 6 = some (.if_icmp .ge 36, 3, [], 0)) (by decide),
  fun l1 l2 l3 a st E u => q_go (by decide +kernel : am_Pg 43 9 = some (.aload_n 0, 1, [], 0)) rfl,
  fun l0 l2 l3 a st E u => q_go (by decide +kernel : am_Pg 43 10 = some (.iload_n 1, 1, [], 0)) rfl,
  fun l1 l2 l3 a st E u => q_go (by decide +kernel : am_Pg 43 11 = some (.aload_n 0, 1, [], 0)) rfl,
  fun l1 l2 l3 a st E u => q_go (by decide +kernel : am_Pg 43 12 = some (.aload_n 0, 1, [], 0)) rfl,
  fun l0 l1 l2 l3 k st E u hE hk => q_gfR (by decide +kernel : am_Pg 43 13 = some (.getfield 25, 3, [0, 14, 9, 0], 0)) (SE_k0 hE hk) rfl (SE_r0_9 hE hk),
  fun l0 l2 l3 a st E u => q_go (by decide +kernel : am_Pg 43 16 = some (.iload_n 1, 1, [], 0)) rfl,
  fun l0 l1 l2 l3 a0 a1 r0 r1 r2 E u => q_cI (by decide +kernel : am_Pg 43 17 = some (.invokestatic 105, 3, [2, 36, 2, 1], 0)) (am_call_S (f := fun _ _ => true) (a := [vR a0, vI a1]) (st' := [r0, r1, r2]) (Nat.le_of_ble_eq_true rfl) rfl rfl) (by decide +kernel : am_Lm m_A_look = 2) (Nat.le_of_ble_eq_true rfl) rfl (by decide +kernel),
  fun l0 l1 l2 a st E u => q_go (by decide +kernel : am_Pg 43 20 = some (.iload_n 3, 1, [], 0)) rfl,
  fun l0 l1 l2 l3 k a0 a1 r0 r1 E u hE hk => q_cI (by decide +kernel : am_Pg 43 21 = some (.invokevirtual 120, 3, [3, 37, 3, 0, 14, 0], 0)) (am_call_V (a := [vI a0, vI a1]) (st' := [r0, r1]) (Nat.le_of_ble_eq_true rfl) rfl (SE_k0 hE hk)) (by decide +kernel : am_Lm m_C_beside = 4) (Nat.le_of_ble_eq_true rfl) rfl (by decide +kernel),
  fun l0 l1 l2 l3 k a0 a1  E u hE hk => q_cI (by decide +kernel : am_Pg 43 24 = some (.invokevirtual 123, 3, [3, 42, 3, 0, 14, 0], 0)) (am_call_V (a := [vI a0, vI a1]) (st' := []) (Nat.le_of_ble_eq_true rfl) rfl (SE_k0 hE hk)) (by decide +kernel : am_Lm m_C_mayGo = 7) (Nat.le_of_ble_eq_true rfl) rfl (by decide +kernel),
  fun l0 l1 l2 l3 a st E u => q_if_eq (tgt := 36) (by decide +kernel : am_Pg 43 27 = some (.ifCond .eq 9, 3, [], 0)) (by decide),
  fun l0 l1 l3 a st E u => q_go (by decide +kernel : am_Pg 43 30 = some (.iload_n 2, 1, [], 0)) rfl,
  fun l0 l1 l2 l3 st E u => q_go (by decide +kernel : am_Pg 43 31 = some (.iconst 1, 1, [], 0)) rfl,
  fun l0 l1 l2 a st E u => q_go (by decide +kernel : am_Pg 43 32 = some (.iload_n 3, 1, [], 0)) rfl,
  fun l0 l1 l2 l3 a b st E u => q_go (by decide +kernel : am_Pg 43 33 = some (.ishl, 1, [], 0)) rfl,
  fun l0 l1 l2 l3 a b st E u => q_go (by decide +kernel : am_Pg 43 34 = some (.ior, 1, [], 0)) rfl,
  fun l0 l1 l2 l3 a st E u => q_go (by decide +kernel : am_Pg 43 35 = some (.istore_n 2, 1, [], 0)) rfl,
  fun l0 l1 l2 a st E u => q_go (by decide +kernel : am_Pg 43 36 = some (.iinc 3 1, 3, [], 0)) rfl,
  fun l0 l1 l2 l3 st E u => q_go (by decide +kernel : am_Pg 43 39 = some (.goto (-35), 3, [], 0)) rfl,
  fun l0 l1 l3 a st E u => q_go (by decide +kernel : am_Pg 43 42 = some (.iload_n 2, 1, [], 0)) rfl,
  fun l0 l1 l2 l3 a E u => q_ret (by decide +kernel : am_Pg 43 43 = some (.ireturn, 1, [], 0)) rfl⟩
theorem x_T_takesOn :
  (∀ (l1 : am_V) (a : Option Nat) (st : List am_V) (E : am_E) (u : am_M), Rn m_T_takesOn 0 [vR a, l1] st E u = Rn m_T_takesOn 1 [vR a, l1] (vR a :: st) E u) ∧
  (∀ (l0 l1 : am_V) (st : List am_V) (E : am_E) (u : am_M) (hE : SE E), Rn m_T_takesOn 1 [l0, l1] (vR (some 138) :: st) E u = Rn m_T_takesOn 4 [l0, l1] (vI (u 138 1) :: st) E u) ∧
  (∀ (l0 l1 : am_V) (st : List am_V) (E : am_E) (u : am_M), Rn m_T_takesOn 4 [l0, l1] st E u = Rn m_T_takesOn 6 [l0, l1] (vI 120 :: st) E u) ∧
  (∀ (l0 l1 : am_V) (a b : Int) (st : List am_V) (E : am_E) (u : am_M), Rn m_T_takesOn 6 [l0, l1] (vI b :: vI a :: st) E u = if a < b then Rn m_T_takesOn 11 [l0, l1] st E u else Rn m_T_takesOn 9 [l0, l1] st E u) ∧
  (∀ (l0 l1 : am_V) (st : List am_V) (E : am_E) (u : am_M), Rn m_T_takesOn 9 [l0, l1] st E u = Rn m_T_takesOn 10 [l0, l1] (vI 0 :: st) E u) ∧
  (∀ (l0 l1 : am_V) (b : Bool) (E : am_E) (u : am_M), Rn m_T_takesOn 10 [l0, l1] [vI (bI b)] E u = some (some (vI (bI b)), E, u)) ∧
  (∀ (l0 l1 : am_V) (E : am_E) (u : am_M), Rn m_T_takesOn 10 [l0, l1] [vI 1] E u = some (some (vI 1), E, u)) ∧
  (∀ (l0 l1 : am_V) (E : am_E) (u : am_M), Rn m_T_takesOn 10 [l0, l1] [vI 0] E u = some (some (vI 0), E, u)) ∧
  (∀ (l1 : am_V) (a : Option Nat) (st : List am_V) (E : am_E) (u : am_M), Rn m_T_takesOn 11 [vR a, l1] st E u = Rn m_T_takesOn 12 [vR a, l1] (vR a :: st) E u) ∧
  (∀ (l0 l1 : am_V) (st : List am_V) (E : am_E) (u : am_M) (hE : SE E), Rn m_T_takesOn 12 [l0, l1] (vR (some 138) :: st) E u = Rn m_T_takesOn 15 [l0, l1] (vR (some 139) :: st) E u) ∧
  (∀ (l1 : am_V) (a : Option Nat) (st : List am_V) (E : am_E) (u : am_M), Rn m_T_takesOn 15 [vR a, l1] st E u = Rn m_T_takesOn 16 [vR a, l1] (vR a :: st) E u) ∧
  (∀ (l0 l1 : am_V) (st : List am_V) (E : am_E) (u : am_M) (hE : SE E), Rn m_T_takesOn 16 [l0, l1] (vR (some 138) :: st) E u = Rn m_T_takesOn 19 [l0, l1] (vI (u 138 1) :: st) E u) ∧
  (∀ (l0 : am_V) (a : Int) (st : List am_V) (E : am_E) (u : am_M), Rn m_T_takesOn 19 [l0, vI a] st E u = Rn m_T_takesOn 20 [l0, vI a] (vI a :: st) E u) ∧
  (∀ (l0 l1 : am_V) (a0 : Option Nat) (a1 : Int) (a2 : Int) (E : am_E) (u : am_M), Rn m_T_takesOn 20 [l0, l1] [vI a2, vI a1, vR a0] E u = bdV (Rn m_A_lay 0 [vR a0, vI a1, vI a2] [] E u) (KV m_T_takesOn 23 [l0, l1] [])) ∧
  (∀ (l1 : am_V) (a : Option Nat) (st : List am_V) (E : am_E) (u : am_M), Rn m_T_takesOn 23 [vR a, l1] st E u = Rn m_T_takesOn 24 [vR a, l1] (vR a :: st) E u) ∧
  (∀ (l0 l1 : am_V) (a : Int) (st : List am_V) (E : am_E) (u : am_M), Rn m_T_takesOn 24 [l0, l1] (vI a :: st) E u = Rn m_T_takesOn 25 [l0, l1] (vI a :: vI a :: st) E u) ∧
  (∀ (l0 l1 : am_V) (a : Option Nat) (st : List am_V) (E : am_E) (u : am_M), Rn m_T_takesOn 24 [l0, l1] (vR a :: st) E u = Rn m_T_takesOn 25 [l0, l1] (vR a :: vR a :: st) E u) ∧
  (∀ (l0 l1 : am_V) (st : List am_V) (E : am_E) (u : am_M) (hE : SE E), Rn m_T_takesOn 25 [l0, l1] (vR (some 138) :: st) E u = Rn m_T_takesOn 28 [l0, l1] (vI (u 138 1) :: st) E u) ∧
  (∀ (l0 l1 : am_V) (st : List am_V) (E : am_E) (u : am_M), Rn m_T_takesOn 28 [l0, l1] st E u = Rn m_T_takesOn 29 [l0, l1] (vI 1 :: st) E u) ∧
  (∀ (l0 l1 : am_V) (a b : Int) (st : List am_V) (E : am_E) (u : am_M), Rn m_T_takesOn 29 [l0, l1] (vI b :: vI a :: st) E u = Rn m_T_takesOn 30 [l0, l1] (vI (w32 (a + b)) :: st) E u) ∧
  (∀ (l0 l1 : am_V) (a : Int) (st : List am_V) (E : am_E) (u : am_M) (hE : SE E), Rn m_T_takesOn 30 [l0, l1] (vI a :: vR (some 138) :: st) E u = Rn m_T_takesOn 33 [l0, l1] st E (am_up u 138 1 a)) ∧
  (∀ (l0 l1 : am_V) (st : List am_V) (E : am_E) (u : am_M), Rn m_T_takesOn 33 [l0, l1] st E u = Rn m_T_takesOn 34 [l0, l1] (vI 1 :: st) E u) ∧
  (∀ (l0 l1 : am_V) (b : Bool) (E : am_E) (u : am_M), Rn m_T_takesOn 34 [l0, l1] [vI (bI b)] E u = some (some (vI (bI b)), E, u)) ∧
  (∀ (l0 l1 : am_V) (E : am_E) (u : am_M), Rn m_T_takesOn 34 [l0, l1] [vI 1] E u = some (some (vI 1), E, u)) ∧
  (∀ (l0 l1 : am_V) (E : am_E) (u : am_M), Rn m_T_takesOn 34 [l0, l1] [vI 0] E u = some (some (vI 0), E, u)) :=
  ⟨fun l1 a st E u => q_go (by decide +kernel : am_Pg 61 0 = some (.aload_n 0, 1, [], 0)) rfl,
  fun l0 l1 st E u hE => q_gfI (by decide +kernel : am_Pg 61 1 = some (.getfield 15, 3, [3, 3, 1, 0], 0)) (SE_k3 hE) (by decide),
  fun l0 l1 st E u => q_go (by decide +kernel : am_Pg 61 4 = some (.bipush 120, 2, [], 0)) rfl,
  fun l0 l1 a b st E u => q_icmp_lt (tgt := 11) (by decide +kernel : am_Pg 61 6 = some (.if_icmp .lt 5, 3, [], 0)) (by decide),
  fun l0 l1 st E u => q_go (by decide +kernel : am_Pg 61 9 = some (.iconst 0, 1, [], 0)) rfl,
  fun l0 l1 b E u => by cases b <;> exact q_ret (by decide +kernel : am_Pg 61 10 = some (.ireturn, 1, [1], 0)) rfl,
  fun l0 l1 E u => q_ret (by decide +kernel : am_Pg 61 10 = some (.ireturn, 1, [1], 0)) rfl,
  fun l0 l1 E u => q_ret (by decide +kernel : am_Pg 61 10 = some (.ireturn, 1, [1], 0)) rfl,
  fun l1 a st E u => q_go (by decide +kernel : am_Pg 61 11 = some (.aload_n 0, 1, [], 0)) rfl,
  fun l0 l1 st E u hE => q_gfR (by decide +kernel : am_Pg 61 12 = some (.getfield 9, 3, [3, 3, 0, 0], 0)) (SE_k3 hE) rfl (SE_r3_0 hE),
  fun l1 a st E u => q_go (by decide +kernel : am_Pg 61 15 = some (.aload_n 0, 1, [], 0)) rfl,
  fun l0 l1 st E u hE => q_gfI (by decide +kernel : am_Pg 61 16 = some (.getfield 15, 3, [3, 3, 1, 0], 0)) (SE_k3 hE) (by decide),
  fun l0 a st E u => q_go (by decide +kernel : am_Pg 61 19 = some (.iload_n 1, 1, [], 0)) rfl,
  fun l0 l1 a0 a1 a2  E u => q_cV (by decide +kernel : am_Pg 61 20 = some (.invokestatic 19, 3, [2, 19, 3, 1], 0)) (am_call_S (f := fun _ _ => true) (a := [vR a0, vI a1, vI a2]) (st' := []) (Nat.le_of_ble_eq_true rfl) rfl rfl) (by decide +kernel : am_Lm m_A_lay = 3) (Nat.le_of_ble_eq_true rfl) rfl (by decide +kernel),
  fun l1 a st E u => q_go (by decide +kernel : am_Pg 61 23 = some (.aload_n 0, 1, [], 0)) rfl,
  fun l0 l1 a st E u => q_go (by decide +kernel : am_Pg 61 24 = some (.dup, 1, [], 0)) rfl,
  fun l0 l1 a st E u => q_go (by decide +kernel : am_Pg 61 24 = some (.dup, 1, [], 0)) rfl,
  fun l0 l1 st E u hE => q_gfI (by decide +kernel : am_Pg 61 25 = some (.getfield 15, 3, [3, 3, 1, 0], 0)) (SE_k3 hE) (by decide),
  fun l0 l1 st E u => q_go (by decide +kernel : am_Pg 61 28 = some (.iconst 1, 1, [], 0)) rfl,
  fun l0 l1 a b st E u => q_go (by decide +kernel : am_Pg 61 29 = some (.iadd, 1, [], 0)) rfl,
  fun l0 l1 a st E u hE => q_pfI (by decide +kernel : am_Pg 61 30 = some (.putfield 15, 3, [3, 3, 1, 0], 0)) (SE_k3 hE) rfl,
  fun l0 l1 st E u => q_go (by decide +kernel : am_Pg 61 33 = some (.iconst 1, 1, [], 0)) rfl,
  fun l0 l1 b E u => by cases b <;> exact q_ret (by decide +kernel : am_Pg 61 34 = some (.ireturn, 1, [1], 0)) rfl,
  fun l0 l1 E u => q_ret (by decide +kernel : am_Pg 61 34 = some (.ireturn, 1, [1], 0)) rfl,
  fun l0 l1 E u => q_ret (by decide +kernel : am_Pg 61 34 = some (.ireturn, 1, [1], 0)) rfl⟩
theorem h_T_next_0 : ∀ (l1 : am_V) (a : Option Nat) (st : List am_V) (E : am_E) (u : am_M), Rn m_T_next 0 [vR a, l1] st E u = Rn m_T_next 1 [vR a, l1] (vR a :: st) E u :=
  fun l1 a st E u => q_go (by decide +kernel : am_Pg 64 0 = some (.aload_n 0, 1, [], 0)) rfl
theorem x_T_next :
  (∀ (l0 l1 : am_V) (st : List am_V) (E : am_E) (u : am_M) (hE : SE E), Rn m_T_next 1 [l0, l1] (vR (some 138) :: st) E u = Rn m_T_next 4 [l0, l1] (vI (u 138 2) :: st) E u) ∧
  (∀ (l1 : am_V) (a : Option Nat) (st : List am_V) (E : am_E) (u : am_M), Rn m_T_next 4 [vR a, l1] st E u = Rn m_T_next 5 [vR a, l1] (vR a :: st) E u) ∧
  (∀ (l0 l1 : am_V) (st : List am_V) (E : am_E) (u : am_M) (hE : SE E), Rn m_T_next 5 [l0, l1] (vR (some 138) :: st) E u = Rn m_T_next 8 [l0, l1] (vI (u 138 1) :: st) E u) ∧
  (∀ (l0 l1 : am_V) (a b : Int) (st : List am_V) (E : am_E) (u : am_M), Rn m_T_next 8 [l0, l1] (vI b :: vI a :: st) E u = if a < b then Rn m_T_next 11 [l0, l1] st E u else Rn m_T_next 44 [l0, l1] st E u) ∧
  (∀ (l1 : am_V) (a : Option Nat) (st : List am_V) (E : am_E) (u : am_M), Rn m_T_next 11 [vR a, l1] st E u = Rn m_T_next 12 [vR a, l1] (vR a :: st) E u) ∧
  (∀ (l0 l1 : am_V) (st : List am_V) (E : am_E) (u : am_M) (hE : SE E), Rn m_T_next 12 [l0, l1] (vR (some 138) :: st) E u = Rn m_T_next 15 [l0, l1] (vR (some 139) :: st) E u) ∧
  (∀ (l1 : am_V) (a : Option Nat) (st : List am_V) (E : am_E) (u : am_M), Rn m_T_next 15 [vR a, l1] st E u = Rn m_T_next 16 [vR a, l1] (vR a :: st) E u) ∧
  (∀ (l0 l1 : am_V) (st : List am_V) (E : am_E) (u : am_M) (hE : SE E), Rn m_T_next 16 [l0, l1] (vR (some 138) :: st) E u = Rn m_T_next 19 [l0, l1] (vI (u 138 2) :: st) E u) ∧
  (∀ (l0 l1 : am_V) (a0 : Option Nat) (a1 : Int) (E : am_E) (u : am_M), Rn m_T_next 19 [l0, l1] [vI a1, vR a0] E u = bdI (Rn m_A_look 0 [vR a0, vI a1] [] E u) (KI m_T_next 22 [l0, l1] [])) ∧
  (∀ (l0 l1 : am_V) (a : Int) (st : List am_V) (E : am_E) (u : am_M), Rn m_T_next 22 [l0, l1] (vI a :: st) E u = Rn m_T_next 23 [am_fx l0, vI a] st E u) ∧
  (∀ (l0 : am_V) (a : Int) (st : List am_V) (E : am_E) (u : am_M), Rn m_T_next 23 [l0, vI a] st E u = Rn m_T_next 24 [l0, vI a] (vI a :: st) E u) ∧
  (∀ (l0 l1 : am_V) (st : List am_V) (E : am_E) (u : am_M), Rn m_T_next 24 [l0, l1] st E u = Rn m_T_next 26 [l0, l1] (vI 32 :: st) E u) ∧
  (∀ (l0 l1 : am_V) (a b : Int) (st : List am_V) (E : am_E) (u : am_M), Rn m_T_next 26 [l0, l1] (vI b :: vI a :: st) E u = if a = b then Rn m_T_next 31 [l0, l1] st E u else Rn m_T_next 29 [l0, l1] st E u) ∧
  (∀ (l0 : am_V) (a : Int) (st : List am_V) (E : am_E) (u : am_M), Rn m_T_next 29 [l0, vI a] st E u = Rn m_T_next 30 [l0, vI a] (vI a :: st) E u) ∧
  (∀ (l0 l1 : am_V) (a : Int) (E : am_E) (u : am_M), Rn m_T_next 30 [l0, l1] [vI a] E u = some (some (vI a), E, u)) ∧
  (∀ (l1 : am_V) (a : Option Nat) (st : List am_V) (E : am_E) (u : am_M), Rn m_T_next 31 [vR a, l1] st E u = Rn m_T_next 32 [vR a, l1] (vR a :: st) E u) ∧
  (∀ (l0 l1 : am_V) (a : Int) (st : List am_V) (E : am_E) (u : am_M), Rn m_T_next 32 [l0, l1] (vI a :: st) E u = Rn m_T_next 33 [l0, l1] (vI a :: vI a :: st) E u) ∧
  (∀ (l0 l1 : am_V) (a : Option Nat) (st : List am_V) (E : am_E) (u : am_M), Rn m_T_next 32 [l0, l1] (vR a :: st) E u = Rn m_T_next 33 [l0, l1] (vR a :: vR a :: st) E u) ∧
  (∀ (l0 l1 : am_V) (st : List am_V) (E : am_E) (u : am_M) (hE : SE E), Rn m_T_next 33 [l0, l1] (vR (some 138) :: st) E u = Rn m_T_next 36 [l0, l1] (vI (u 138 2) :: st) E u) ∧
  (∀ (l0 l1 : am_V) (st : List am_V) (E : am_E) (u : am_M), Rn m_T_next 36 [l0, l1] st E u = Rn m_T_next 37 [l0, l1] (vI 1 :: st) E u) ∧
  (∀ (l0 l1 : am_V) (a b : Int) (st : List am_V) (E : am_E) (u : am_M), Rn m_T_next 37 [l0, l1] (vI b :: vI a :: st) E u = Rn m_T_next 38 [l0, l1] (vI (w32 (a + b)) :: st) E u) ∧
  (∀ (l0 l1 : am_V) (a : Int) (st : List am_V) (E : am_E) (u : am_M) (hE : SE E), Rn m_T_next 38 [l0, l1] (vI a :: vR (some 138) :: st) E u = Rn m_T_next 41 [l0, l1] st E (am_up u 138 2 a)) ∧
  (∀ (l0 l1 : am_V) (st : List am_V) (E : am_E) (u : am_M), Rn m_T_next 41 [l0, l1] st E u = Rn m_T_next 0 [l0, l1] st E u) ∧
  (∀ (l0 l1 : am_V) (st : List am_V) (E : am_E) (u : am_M), Rn m_T_next 44 [l0, l1] st E u = Rn m_T_next 45 [l0, l1] (vI (-1) :: st) E u) ∧
  (∀ (l0 l1 : am_V) (a : Int) (E : am_E) (u : am_M), Rn m_T_next 45 [l0, l1] [vI a] E u = some (some (vI a), E, u)) :=
  ⟨fun l0 l1 st E u hE => q_gfI (by decide +kernel : am_Pg 64 1 = some (.getfield 23, 3, [3, 3, 2, 0], 0)) (SE_k3 hE) (by decide),
  fun l1 a st E u => q_go (by decide +kernel : am_Pg 64 4 = some (.aload_n 0, 1, [], 0)) rfl,
  fun l0 l1 st E u hE => q_gfI (by decide +kernel : am_Pg 64 5 = some (.getfield 15, 3, [3, 3, 1, 0], 0)) (SE_k3 hE) (by decide),
  fun l0 l1 a b st E u => q_icmp_ge (tgt := 44) (by decide +kernel : am_Pg 64 8 = some (.if_icmp .ge 36, 3, [], 0)) (by decide),
  fun l1 a st E u => q_go (by decide +kernel : am_Pg 64 11 = some (.aload_n 0, 1, [], 0)) rfl,
  fun l0 l1 st E u hE => q_gfR (by decide +kernel : am_Pg 64 12 = some (.getfield 9, 3, [3, 3, 0, 0], 0)) (SE_k3 hE) rfl (SE_r3_0 hE),
  fun l1 a st E u => q_go (by decide +kernel : am_Pg 64 15 = some (.aload_n 0, 1, [], 0)) rfl,
  fun l0 l1 st E u hE => q_gfI (by decide +kernel : am_Pg 64 16 = some (.getfield 23, 3, [3, 3, 2, 0], 0)) (SE_k3 hE) (by decide),
  fun l0 l1 a0 a1  E u => q_cI (by decide +kernel : am_Pg 64 19 = some (.invokestatic 95, 3, [2, 36, 2, 1], 0)) (am_call_S (f := fun _ _ => true) (a := [vR a0, vI a1]) (st' := []) (Nat.le_of_ble_eq_true rfl) rfl rfl) (by decide +kernel : am_Lm m_A_look = 2) (Nat.le_of_ble_eq_true rfl) rfl (by decide +kernel),
  fun l0 l1 a st E u => q_go (by decide +kernel : am_Pg 64 22 = some (.istore_n 1, 1, [], 0)) rfl,
  fun l0 a st E u => q_go (by decide +kernel : am_Pg 64 23 = some (.iload_n 1, 1, [], 0)) rfl,
  fun l0 l1 st E u => q_go (by decide +kernel : am_Pg 64 24 = some (.bipush 32, 2, [], 0)) rfl,
  fun l0 l1 a b st E u => q_icmp_eq (tgt := 31) (by decide +kernel : am_Pg 64 26 = some (.if_icmp .eq 5, 3, [], 0)) (by decide),
  fun l0 a st E u => q_go (by decide +kernel : am_Pg 64 29 = some (.iload_n 1, 1, [], 0)) rfl,
  fun l0 l1 a E u => q_ret (by decide +kernel : am_Pg 64 30 = some (.ireturn, 1, [], 0)) rfl,
  fun l1 a st E u => q_go (by decide +kernel : am_Pg 64 31 = some (.aload_n 0, 1, [], 0)) rfl,
  fun l0 l1 a st E u => q_go (by decide +kernel : am_Pg 64 32 = some (.dup, 1, [], 0)) rfl,
  fun l0 l1 a st E u => q_go (by decide +kernel : am_Pg 64 32 = some (.dup, 1, [], 0)) rfl,
  fun l0 l1 st E u hE => q_gfI (by decide +kernel : am_Pg 64 33 = some (.getfield 23, 3, [3, 3, 2, 0], 0)) (SE_k3 hE) (by decide),
  fun l0 l1 st E u => q_go (by decide +kernel : am_Pg 64 36 = some (.iconst 1, 1, [], 0)) rfl,
  fun l0 l1 a b st E u => q_go (by decide +kernel : am_Pg 64 37 = some (.iadd, 1, [], 0)) rfl,
  fun l0 l1 a st E u hE => q_pfI (by decide +kernel : am_Pg 64 38 = some (.putfield 23, 3, [3, 3, 2, 0], 0)) (SE_k3 hE) rfl,
  fun l0 l1 st E u => q_go (by decide +kernel : am_Pg 64 41 = some (.goto (-41), 3, [], 0)) rfl,
  fun l0 l1 st E u => q_go (by decide +kernel : am_Pg 64 44 = some (.iconst (-1), 1, [], 0)) rfl,
  fun l0 l1 a E u => q_ret (by decide +kernel : am_Pg 64 45 = some (.ireturn, 1, [], 0)) rfl⟩
theorem x_T_digit :
  (∀ (l1 l2 l3 : am_V) (a : Option Nat) (st : List am_V) (E : am_E) (u : am_M), Rn m_T_digit 0 [vR a, l1, l2, l3] st E u = Rn m_T_digit 1 [vR a, l1, l2, l3] (vR a :: st) E u) ∧
  (∀ (l0 l1 l2 l3 : am_V) (E : am_E) (u : am_M) (hE : SE E), Rn m_T_digit 1 [l0, l1, l2, l3] [vR (some 138)] E u = bdI (Rn m_T_next 0 [vR (some 138), vB false] [] E u) (KI m_T_digit 4 [l0, l1, l2, l3] [])) ∧
  (∀ (l0 l1 l2 l3 : am_V) (st : List am_V) (E : am_E) (u : am_M), Rn m_T_digit 4 [l0, l1, l2, l3] st E u = Rn m_T_digit 6 [l0, l1, l2, l3] (vI 48 :: st) E u) ∧
  (∀ (l0 l1 l2 l3 : am_V) (a b : Int) (st : List am_V) (E : am_E) (u : am_M), Rn m_T_digit 6 [l0, l1, l2, l3] (vI b :: vI a :: st) E u = Rn m_T_digit 7 [l0, l1, l2, l3] (vI (w32 (a - b)) :: st) E u) ∧
  (∀ (l0 l1 l2 l3 : am_V) (a : Int) (st : List am_V) (E : am_E) (u : am_M), Rn m_T_digit 7 [l0, l1, l2, l3] (vI a :: st) E u = Rn m_T_digit 8 [l0, l1, am_fx l2, vI a] st E u) ∧
  (∀ (l0 l1 l2 : am_V) (a : Int) (st : List am_V) (E : am_E) (u : am_M), Rn m_T_digit 8 [l0, l1, l2, vI a] st E u = Rn m_T_digit 9 [l0, l1, l2, vI a] (vI a :: st) E u) ∧
  (∀ (l0 l2 l3 : am_V) (a : Int) (st : List am_V) (E : am_E) (u : am_M), Rn m_T_digit 9 [l0, vI a, l2, l3] st E u = Rn m_T_digit 10 [l0, vI a, l2, l3] (vI a :: st) E u) ∧
  (∀ (l0 l1 l3 : am_V) (a : Int) (st : List am_V) (E : am_E) (u : am_M), Rn m_T_digit 10 [l0, l1, vI a, l3] st E u = Rn m_T_digit 11 [l0, l1, vI a, l3] (vI a :: st) E u) ∧
  (∀ (l0 l1 l2 l3 : am_V) (a0 : Int) (a1 : Int) (a2 : Int) (E : am_E) (u : am_M), Rn m_T_digit 11 [l0, l1, l2, l3] [vI a2, vI a1, vI a0] E u = bdI (Rn m_A_isIn 0 [vI a0, vI a1, vI a2] [] E u) (KI m_T_digit 14 [l0, l1, l2, l3] [])) ∧
  (∀ (l0 l1 l2 l3 : am_V) (a : Int) (st : List am_V) (E : am_E) (u : am_M), Rn m_T_digit 14 [l0, l1, l2, l3] (vI a :: st) E u = if a = 0 then Rn m_T_digit 17 [l0, l1, l2, l3] st E u else Rn m_T_digit 20 [l0, l1, l2, l3] st E u) ∧
  (∀ (l0 l1 l2 l3 : am_V) (st : List am_V) (E : am_E) (u : am_M), Rn m_T_digit 17 [l0, l1, l2, l3] st E u = Rn m_T_digit 19 [l0, l1, l2, l3] (vI (-4) :: st) E u) ∧
  (∀ (l0 l1 l2 l3 : am_V) (a : Int) (E : am_E) (u : am_M), Rn m_T_digit 19 [l0, l1, l2, l3] [vI a] E u = some (some (vI a), E, u)) ∧
  (∀ (l1 l2 l3 : am_V) (a : Option Nat) (st : List am_V) (E : am_E) (u : am_M), Rn m_T_digit 20 [vR a, l1, l2, l3] st E u = Rn m_T_digit 21 [vR a, l1, l2, l3] (vR a :: st) E u) ∧
  (∀ (l0 l1 l2 l3 : am_V) (a : Int) (st : List am_V) (E : am_E) (u : am_M), Rn m_T_digit 21 [l0, l1, l2, l3] (vI a :: st) E u = Rn m_T_digit 22 [l0, l1, l2, l3] (vI a :: vI a :: st) E u) ∧
  (∀ (l0 l1 l2 l3 : am_V) (a : Option Nat) (st : List am_V) (E : am_E) (u : am_M), Rn m_T_digit 21 [l0, l1, l2, l3] (vR a :: st) E u = Rn m_T_digit 22 [l0, l1, l2, l3] (vR a :: vR a :: st) E u) ∧
  (∀ (l0 l1 l2 l3 : am_V) (st : List am_V) (E : am_E) (u : am_M) (hE : SE E), Rn m_T_digit 22 [l0, l1, l2, l3] (vR (some 138) :: st) E u = Rn m_T_digit 25 [l0, l1, l2, l3] (vI (u 138 2) :: st) E u) ∧
  (∀ (l0 l1 l2 l3 : am_V) (st : List am_V) (E : am_E) (u : am_M), Rn m_T_digit 25 [l0, l1, l2, l3] st E u = Rn m_T_digit 26 [l0, l1, l2, l3] (vI 1 :: st) E u) ∧
  (∀ (l0 l1 l2 l3 : am_V) (a b : Int) (st : List am_V) (E : am_E) (u : am_M), Rn m_T_digit 26 [l0, l1, l2, l3] (vI b :: vI a :: st) E u = Rn m_T_digit 27 [l0, l1, l2, l3] (vI (w32 (a + b)) :: st) E u) ∧
  (∀ (l0 l1 l2 l3 : am_V) (a : Int) (st : List am_V) (E : am_E) (u : am_M) (hE : SE E), Rn m_T_digit 27 [l0, l1, l2, l3] (vI a :: vR (some 138) :: st) E u = Rn m_T_digit 30 [l0, l1, l2, l3] st E (am_up u 138 2 a)) ∧
  (∀ (l0 l1 l2 : am_V) (a : Int) (st : List am_V) (E : am_E) (u : am_M), Rn m_T_digit 30 [l0, l1, l2, vI a] st E u = Rn m_T_digit 31 [l0, l1, l2, vI a] (vI a :: st) E u) ∧
  (∀ (l0 l1 l2 l3 : am_V) (a : Int) (E : am_E) (u : am_M), Rn m_T_digit 31 [l0, l1, l2, l3] [vI a] E u = some (some (vI a), E, u)) :=
  ⟨fun l1 l2 l3 a st E u => q_go (by decide +kernel : am_Pg 65 0 = some (.aload_n 0, 1, [], 0)) rfl,
  fun l0 l1 l2 l3   E u hE => q_cI (by decide +kernel : am_Pg 65 1 = some (.invokevirtual 40, 3, [3, 64, 1, 3, 3, 0], 0)) (am_call_V (a := []) (st' := []) (Nat.le_of_ble_eq_true rfl) rfl (SE_k3 hE)) (by decide +kernel : am_Lm m_T_next = 2) (Nat.le_of_ble_eq_true rfl) rfl (by decide +kernel),
  fun l0 l1 l2 l3 st E u => q_go (by decide +kernel : am_Pg 65 4 = some (.bipush 48, 2, [], 0)) rfl,
  fun l0 l1 l2 l3 a b st E u => q_go (by decide +kernel : am_Pg 65 6 = some (.isub, 1, [], 0)) rfl,
  fun l0 l1 l2 l3 a st E u => q_go (by decide +kernel : am_Pg 65 7 = some (.istore_n 3, 1, [], 0)) rfl,
  fun l0 l1 l2 a st E u => q_go (by decide +kernel : am_Pg 65 8 = some (.iload_n 3, 1, [], 0)) rfl,
  fun l0 l2 l3 a st E u => q_go (by decide +kernel : am_Pg 65 9 = some (.iload_n 1, 1, [], 0)) rfl,
  fun l0 l1 l3 a st E u => q_go (by decide +kernel : am_Pg 65 10 = some (.iload_n 2, 1, [], 0)) rfl,
  fun l0 l1 l2 l3 a0 a1 a2  E u => q_cI (by decide +kernel : am_Pg 65 11 = some (.invokestatic 99, 3, [2, 8, 3, 1], 0)) (am_call_S (f := fun _ _ => true) (a := [vI a0, vI a1, vI a2]) (st' := []) (Nat.le_of_ble_eq_true rfl) rfl rfl) (by decide +kernel : am_Lm m_A_isIn = 3) (Nat.le_of_ble_eq_true rfl) rfl (by decide +kernel),
  fun l0 l1 l2 l3 a st E u => q_if_ne (tgt := 20) (by decide +kernel : am_Pg 65 14 = some (.ifCond .ne 6, 3, [], 0)) (by decide),
  fun l0 l1 l2 l3 st E u => q_go (by decide +kernel : am_Pg 65 17 = some (.bipush (-4), 2, [], 0)) rfl,
  fun l0 l1 l2 l3 a E u => q_ret (by decide +kernel : am_Pg 65 19 = some (.ireturn, 1, [], 0)) rfl,
  fun l1 l2 l3 a st E u => q_go (by decide +kernel : am_Pg 65 20 = some (.aload_n 0, 1, [], 0)) rfl,
  fun l0 l1 l2 l3 a st E u => q_go (by decide +kernel : am_Pg 65 21 = some (.dup, 1, [], 0)) rfl,
  fun l0 l1 l2 l3 a st E u => q_go (by decide +kernel : am_Pg 65 21 = some (.dup, 1, [], 0)) rfl,
  fun l0 l1 l2 l3 st E u hE => q_gfI (by decide +kernel : am_Pg 65 22 = some (.getfield 23, 3, [3, 3, 2, 0], 0)) (SE_k3 hE) (by decide),
  fun l0 l1 l2 l3 st E u => q_go (by decide +kernel : am_Pg 65 25 = some (.iconst 1, 1, [], 0)) rfl,
  fun l0 l1 l2 l3 a b st E u => q_go (by decide +kernel : am_Pg 65 26 = some (.iadd, 1, [], 0)) rfl,
  fun l0 l1 l2 l3 a st E u hE => q_pfI (by decide +kernel : am_Pg 65 27 = some (.putfield 23, 3, [3, 3, 2, 0], 0)) (SE_k3 hE) rfl,
  fun l0 l1 l2 a st E u => q_go (by decide +kernel : am_Pg 65 30 = some (.iload_n 3, 1, [], 0)) rfl,
  fun l0 l1 l2 l3 a E u => q_ret (by decide +kernel : am_Pg 65 31 = some (.ireturn, 1, [], 0)) rfl⟩
theorem x_T_goesPast :
  (∀ (l1 : am_V) (a : Option Nat) (st : List am_V) (E : am_E) (u : am_M), Rn m_T_goesPast 0 [vR a, l1] st E u = Rn m_T_goesPast 1 [vR a, l1] (vR a :: st) E u) ∧
  (∀ (l0 l1 : am_V) (E : am_E) (u : am_M) (hE : SE E), Rn m_T_goesPast 1 [l0, l1] [vR (some 138)] E u = bdI (Rn m_T_next 0 [vR (some 138), vB false] [] E u) (KI m_T_goesPast 4 [l0, l1] [])) ∧
  (∀ (l0 : am_V) (a : Int) (st : List am_V) (E : am_E) (u : am_M), Rn m_T_goesPast 4 [l0, vI a] st E u = Rn m_T_goesPast 5 [l0, vI a] (vI a :: st) E u) ∧
  (∀ (l0 l1 : am_V) (a b : Int) (st : List am_V) (E : am_E) (u : am_M), Rn m_T_goesPast 5 [l0, l1] (vI b :: vI a :: st) E u = if a = b then Rn m_T_goesPast 10 [l0, l1] st E u else Rn m_T_goesPast 8 [l0, l1] st E u) ∧
  (∀ (l0 l1 : am_V) (st : List am_V) (E : am_E) (u : am_M), Rn m_T_goesPast 8 [l0, l1] st E u = Rn m_T_goesPast 9 [l0, l1] (vI 0 :: st) E u) ∧
  (∀ (l0 l1 : am_V) (b : Bool) (E : am_E) (u : am_M), Rn m_T_goesPast 9 [l0, l1] [vI (bI b)] E u = some (some (vI (bI b)), E, u)) ∧
  (∀ (l0 l1 : am_V) (E : am_E) (u : am_M), Rn m_T_goesPast 9 [l0, l1] [vI 1] E u = some (some (vI 1), E, u)) ∧
  (∀ (l0 l1 : am_V) (E : am_E) (u : am_M), Rn m_T_goesPast 9 [l0, l1] [vI 0] E u = some (some (vI 0), E, u)) ∧
  (∀ (l1 : am_V) (a : Option Nat) (st : List am_V) (E : am_E) (u : am_M), Rn m_T_goesPast 10 [vR a, l1] st E u = Rn m_T_goesPast 11 [vR a, l1] (vR a :: st) E u) ∧
  (∀ (l0 l1 : am_V) (a : Int) (st : List am_V) (E : am_E) (u : am_M), Rn m_T_goesPast 11 [l0, l1] (vI a :: st) E u = Rn m_T_goesPast 12 [l0, l1] (vI a :: vI a :: st) E u) ∧
  (∀ (l0 l1 : am_V) (a : Option Nat) (st : List am_V) (E : am_E) (u : am_M), Rn m_T_goesPast 11 [l0, l1] (vR a :: st) E u = Rn m_T_goesPast 12 [l0, l1] (vR a :: vR a :: st) E u) ∧
  (∀ (l0 l1 : am_V) (st : List am_V) (E : am_E) (u : am_M) (hE : SE E), Rn m_T_goesPast 12 [l0, l1] (vR (some 138) :: st) E u = Rn m_T_goesPast 15 [l0, l1] (vI (u 138 2) :: st) E u) ∧
  (∀ (l0 l1 : am_V) (st : List am_V) (E : am_E) (u : am_M), Rn m_T_goesPast 15 [l0, l1] st E u = Rn m_T_goesPast 16 [l0, l1] (vI 1 :: st) E u) ∧
  (∀ (l0 l1 : am_V) (a b : Int) (st : List am_V) (E : am_E) (u : am_M), Rn m_T_goesPast 16 [l0, l1] (vI b :: vI a :: st) E u = Rn m_T_goesPast 17 [l0, l1] (vI (w32 (a + b)) :: st) E u) ∧
  (∀ (l0 l1 : am_V) (a : Int) (st : List am_V) (E : am_E) (u : am_M) (hE : SE E), Rn m_T_goesPast 17 [l0, l1] (vI a :: vR (some 138) :: st) E u = Rn m_T_goesPast 20 [l0, l1] st E (am_up u 138 2 a)) ∧
  (∀ (l0 l1 : am_V) (st : List am_V) (E : am_E) (u : am_M), Rn m_T_goesPast 20 [l0, l1] st E u = Rn m_T_goesPast 21 [l0, l1] (vI 1 :: st) E u) ∧
  (∀ (l0 l1 : am_V) (b : Bool) (E : am_E) (u : am_M), Rn m_T_goesPast 21 [l0, l1] [vI (bI b)] E u = some (some (vI (bI b)), E, u)) ∧
  (∀ (l0 l1 : am_V) (E : am_E) (u : am_M), Rn m_T_goesPast 21 [l0, l1] [vI 1] E u = some (some (vI 1), E, u)) ∧
  (∀ (l0 l1 : am_V) (E : am_E) (u : am_M), Rn m_T_goesPast 21 [l0, l1] [vI 0] E u = some (some (vI 0), E, u)) :=
  ⟨fun l1 a st E u => q_go (by decide +kernel : am_Pg 66 0 = some (.aload_n 0, 1, [], 0)) rfl,
  fun l0 l1   E u hE => q_cI (by decide +kernel : am_Pg 66 1 = some (.invokevirtual 40, 3, [3, 64, 1, 3, 3, 0], 0)) (am_call_V (a := []) (st' := []) (Nat.le_of_ble_eq_true rfl) rfl (SE_k3 hE)) (by decide +kernel : am_Lm m_T_next = 2) (Nat.le_of_ble_eq_true rfl) rfl (by decide +kernel),
  fun l0 a st E u => q_go (by decide +kernel : am_Pg 66 4 = some (.iload_n 1, 1, [], 0)) rfl,
  fun l0 l1 a b st E u => q_icmp_eq (tgt := 10) (by decide +kernel : am_Pg 66 5 = some (.if_icmp .eq 5, 3, [], 0)) (by decide),
  fun l0 l1 st E u => q_go (by decide +kernel : am_Pg 66 8 = some (.iconst 0, 1, [], 0)) rfl,
  fun l0 l1 b E u => by cases b <;> exact q_ret (by decide +kernel : am_Pg 66 9 = some (.ireturn, 1, [1], 0)) rfl,
  fun l0 l1 E u => q_ret (by decide +kernel : am_Pg 66 9 = some (.ireturn, 1, [1], 0)) rfl,
  fun l0 l1 E u => q_ret (by decide +kernel : am_Pg 66 9 = some (.ireturn, 1, [1], 0)) rfl,
  fun l1 a st E u => q_go (by decide +kernel : am_Pg 66 10 = some (.aload_n 0, 1, [], 0)) rfl,
  fun l0 l1 a st E u => q_go (by decide +kernel : am_Pg 66 11 = some (.dup, 1, [], 0)) rfl,
  fun l0 l1 a st E u => q_go (by decide +kernel : am_Pg 66 11 = some (.dup, 1, [], 0)) rfl,
  fun l0 l1 st E u hE => q_gfI (by decide +kernel : am_Pg 66 12 = some (.getfield 23, 3, [3, 3, 2, 0], 0)) (SE_k3 hE) (by decide),
  fun l0 l1 st E u => q_go (by decide +kernel : am_Pg 66 15 = some (.iconst 1, 1, [], 0)) rfl,
  fun l0 l1 a b st E u => q_go (by decide +kernel : am_Pg 66 16 = some (.iadd, 1, [], 0)) rfl,
  fun l0 l1 a st E u hE => q_pfI (by decide +kernel : am_Pg 66 17 = some (.putfield 23, 3, [3, 3, 2, 0], 0)) (SE_k3 hE) rfl,
  fun l0 l1 st E u => q_go (by decide +kernel : am_Pg 66 20 = some (.iconst 1, 1, [], 0)) rfl,
  fun l0 l1 b E u => by cases b <;> exact q_ret (by decide +kernel : am_Pg 66 21 = some (.ireturn, 1, [1], 0)) rfl,
  fun l0 l1 E u => q_ret (by decide +kernel : am_Pg 66 21 = some (.ireturn, 1, [1], 0)) rfl,
  fun l0 l1 E u => q_ret (by decide +kernel : am_Pg 66 21 = some (.ireturn, 1, [1], 0)) rfl⟩
theorem x_T_freeCell :
  (∀ (l1 l2 l3 l4 : am_V) (a : Option Nat) (st : List am_V) (E : am_E) (u : am_M), Rn m_T_freeCell 0 [vR a, l1, l2, l3, l4] st E u = Rn m_T_freeCell 1 [vR a, l1, l2, l3, l4] (vR a :: st) E u) ∧
  (∀ (l0 l1 l2 l3 l4 : am_V) (st : List am_V) (E : am_E) (u : am_M), Rn m_T_freeCell 1 [l0, l1, l2, l3, l4] st E u = Rn m_T_freeCell 2 [l0, l1, l2, l3, l4] (vI 0 :: st) E u) ∧
  (∀ (l0 l2 l3 l4 : am_V) (a : Option Nat) (st : List am_V) (E : am_E) (u : am_M), Rn m_T_freeCell 2 [l0, vR a, l2, l3, l4] st E u = Rn m_T_freeCell 3 [l0, vR a, l2, l3, l4] (vR a :: st) E u) ∧
  (∀ (l0 l1 l2 l3 l4 : am_V) (k : Nat) (st : List am_V) (E : am_E) (u : am_M) (hE : SE E) (hk : cuB k), Rn m_T_freeCell 3 [l0, l1, l2, l3, l4] (vR (some k) :: st) E u = Rn m_T_freeCell 6 [l0, l1, l2, l3, l4] (vI (u k 0) :: st) E u) ∧
  (∀ (l0 l1 l2 l3 l4 : am_V) (st : List am_V) (E : am_E) (u : am_M), Rn m_T_freeCell 6 [l0, l1, l2, l3, l4] st E u = Rn m_T_freeCell 7 [l0, l1, l2, l3, l4] (vI 1 :: st) E u) ∧
  (∀ (l0 l1 l2 l3 l4 : am_V) (a b : Int) (st : List am_V) (E : am_E) (u : am_M), Rn m_T_freeCell 7 [l0, l1, l2, l3, l4] (vI b :: vI a :: st) E u = Rn m_T_freeCell 8 [l0, l1, l2, l3, l4] (vI (w32 (a - b)) :: st) E u) ∧
  (∀ (l0 l1 l2 l3 l4 : am_V) (a0 : Int) (a1 : Int) (E : am_E) (u : am_M) (hE : SE E), Rn m_T_freeCell 8 [l0, l1, l2, l3, l4] [vI a1, vI a0, vR (some 138)] E u = bdI (Rn m_T_digit 0 [vR (some 138), vI a0, vI a1, vB false] [] E u) (KI m_T_freeCell 11 [l0, l1, l2, l3, l4] [])) ∧
  (∀ (l0 l1 l2 l3 l4 : am_V) (a : Int) (st : List am_V) (E : am_E) (u : am_M), Rn m_T_freeCell 11 [l0, l1, l2, l3, l4] (vI a :: st) E u = Rn m_T_freeCell 12 [l0, am_fx l1, vI a, l3, l4] st E u) ∧
  (∀ (l0 l1 l3 l4 : am_V) (a : Int) (st : List am_V) (E : am_E) (u : am_M), Rn m_T_freeCell 12 [l0, l1, vI a, l3, l4] st E u = Rn m_T_freeCell 13 [l0, l1, vI a, l3, l4] (vI a :: st) E u) ∧
  (∀ (l0 l1 l2 l3 l4 : am_V) (st : List am_V) (E : am_E) (u : am_M), Rn m_T_freeCell 13 [l0, l1, l2, l3, l4] st E u = Rn m_T_freeCell 15 [l0, l1, l2, l3, l4] (vI (-4) :: st) E u) ∧
  (∀ (l0 l1 l2 l3 l4 : am_V) (a b : Int) (st : List am_V) (E : am_E) (u : am_M), Rn m_T_freeCell 15 [l0, l1, l2, l3, l4] (vI b :: vI a :: st) E u = if a = b then Rn m_T_freeCell 18 [l0, l1, l2, l3, l4] st E u else Rn m_T_freeCell 21 [l0, l1, l2, l3, l4] st E u) ∧
  (∀ (l0 l1 l2 l3 l4 : am_V) (st : List am_V) (E : am_E) (u : am_M), Rn m_T_freeCell 18 [l0, l1, l2, l3, l4] st E u = Rn m_T_freeCell 20 [l0, l1, l2, l3, l4] (vI (-4) :: st) E u) ∧
  (∀ (l0 l1 l2 l3 l4 : am_V) (a : Int) (E : am_E) (u : am_M), Rn m_T_freeCell 20 [l0, l1, l2, l3, l4] [vI a] E u = some (some (vI a), E, u)) ∧
  (∀ (l1 l2 l3 l4 : am_V) (a : Option Nat) (st : List am_V) (E : am_E) (u : am_M), Rn m_T_freeCell 21 [vR a, l1, l2, l3, l4] st E u = Rn m_T_freeCell 22 [vR a, l1, l2, l3, l4] (vR a :: st) E u) ∧
  (∀ (l0 l1 l2 l3 l4 : am_V) (st : List am_V) (E : am_E) (u : am_M), Rn m_T_freeCell 22 [l0, l1, l2, l3, l4] st E u = Rn m_T_freeCell 23 [l0, l1, l2, l3, l4] (vI 0 :: st) E u) ∧
  (∀ (l0 l2 l3 l4 : am_V) (a : Option Nat) (st : List am_V) (E : am_E) (u : am_M), Rn m_T_freeCell 23 [l0, vR a, l2, l3, l4] st E u = Rn m_T_freeCell 24 [l0, vR a, l2, l3, l4] (vR a :: st) E u) ∧
  (∀ (l0 l1 l2 l3 l4 : am_V) (k : Nat) (st : List am_V) (E : am_E) (u : am_M) (hE : SE E) (hk : cuB k), Rn m_T_freeCell 24 [l0, l1, l2, l3, l4] (vR (some k) :: st) E u = Rn m_T_freeCell 27 [l0, l1, l2, l3, l4] (vI (u k 1) :: st) E u) ∧
  (∀ (l0 l1 l2 l3 l4 : am_V) (st : List am_V) (E : am_E) (u : am_M), Rn m_T_freeCell 27 [l0, l1, l2, l3, l4] st E u = Rn m_T_freeCell 28 [l0, l1, l2, l3, l4] (vI 1 :: st) E u) ∧
  (∀ (l0 l1 l2 l3 l4 : am_V) (a b : Int) (st : List am_V) (E : am_E) (u : am_M), Rn m_T_freeCell 28 [l0, l1, l2, l3, l4] (vI b :: vI a :: st) E u = Rn m_T_freeCell 29 [l0, l1, l2, l3, l4] (vI (w32 (a - b)) :: st) E u) ∧
  (∀ (l0 l1 l2 l3 l4 : am_V) (a0 : Int) (a1 : Int) (E : am_E) (u : am_M) (hE : SE E), Rn m_T_freeCell 29 [l0, l1, l2, l3, l4] [vI a1, vI a0, vR (some 138)] E u = bdI (Rn m_T_digit 0 [vR (some 138), vI a0, vI a1, vB false] [] E u) (KI m_T_freeCell 32 [l0, l1, l2, l3, l4] [])) ∧
  (∀ (l0 l1 l2 l3 l4 : am_V) (a : Int) (st : List am_V) (E : am_E) (u : am_M), Rn m_T_freeCell 32 [l0, l1, l2, l3, l4] (vI a :: st) E u = Rn m_T_freeCell 33 [l0, l1, am_fx l2, vI a, l4] st E u) ∧
  (∀ (l0 l1 l2 l4 : am_V) (a : Int) (st : List am_V) (E : am_E) (u : am_M), Rn m_T_freeCell 33 [l0, l1, l2, vI a, l4] st E u = Rn m_T_freeCell 34 [l0, l1, l2, vI a, l4] (vI a :: st) E u) ∧
  (∀ (l0 l1 l2 l3 l4 : am_V) (st : List am_V) (E : am_E) (u : am_M), Rn m_T_freeCell 34 [l0, l1, l2, l3, l4] st E u = Rn m_T_freeCell 36 [l0, l1, l2, l3, l4] (vI (-4) :: st) E u) ∧
  (∀ (l0 l1 l2 l3 l4 : am_V) (a b : Int) (st : List am_V) (E : am_E) (u : am_M), Rn m_T_freeCell 36 [l0, l1, l2, l3, l4] (vI b :: vI a :: st) E u = if a = b then Rn m_T_freeCell 39 [l0, l1, l2, l3, l4] st E u else Rn m_T_freeCell 42 [l0, l1, l2, l3, l4] st E u) ∧
  (∀ (l0 l1 l2 l3 l4 : am_V) (st : List am_V) (E : am_E) (u : am_M), Rn m_T_freeCell 39 [l0, l1, l2, l3, l4] st E u = Rn m_T_freeCell 41 [l0, l1, l2, l3, l4] (vI (-4) :: st) E u) ∧
  (∀ (l0 l1 l2 l3 l4 : am_V) (a : Int) (E : am_E) (u : am_M), Rn m_T_freeCell 41 [l0, l1, l2, l3, l4] [vI a] E u = some (some (vI a), E, u)) ∧
  (∀ (l0 l1 l3 l4 : am_V) (a : Int) (st : List am_V) (E : am_E) (u : am_M), Rn m_T_freeCell 42 [l0, l1, vI a, l3, l4] st E u = Rn m_T_freeCell 43 [l0, l1, vI a, l3, l4] (vI a :: st) E u) ∧
  (∀ (l0 l2 l3 l4 : am_V) (a : Option Nat) (st : List am_V) (E : am_E) (u : am_M), Rn m_T_freeCell 43 [l0, vR a, l2, l3, l4] st E u = Rn m_T_freeCell 44 [l0, vR a, l2, l3, l4] (vR a :: st) E u) ∧
  (∀ (l0 l1 l2 l3 l4 : am_V) (k : Nat) (st : List am_V) (E : am_E) (u : am_M) (hE : SE E) (hk : cuB k), Rn m_T_freeCell 44 [l0, l1, l2, l3, l4] (vR (some k) :: st) E u = Rn m_T_freeCell 47 [l0, l1, l2, l3, l4] (vI (u k 1) :: st) E u) ∧
  (∀ (l0 l1 l2 l3 l4 : am_V) (a b : Int) (st : List am_V) (E : am_E) (u : am_M), Rn m_T_freeCell 47 [l0, l1, l2, l3, l4] (vI b :: vI a :: st) E u = Rn m_T_freeCell 48 [l0, l1, l2, l3, l4] (vI (w32 (a * b)) :: st) E u) ∧
  (∀ (l0 l1 l2 l4 : am_V) (a : Int) (st : List am_V) (E : am_E) (u : am_M), Rn m_T_freeCell 48 [l0, l1, l2, vI a, l4] st E u = Rn m_T_freeCell 49 [l0, l1, l2, vI a, l4] (vI a :: st) E u) ∧
  (∀ (l0 l1 l2 l3 l4 : am_V) (a b : Int) (st : List am_V) (E : am_E) (u : am_M), Rn m_T_freeCell 49 [l0, l1, l2, l3, l4] (vI b :: vI a :: st) E u = Rn m_T_freeCell 50 [l0, l1, l2, l3, l4] (vI (w32 (a + b)) :: st) E u) ∧
  (∀ (l0 l1 l2 l3 l4 : am_V) (a : Int) (st : List am_V) (E : am_E) (u : am_M), Rn m_T_freeCell 50 [l0, l1, l2, l3, l4] (vI a :: st) E u = Rn m_T_freeCell 52 [l0, l1, l2, am_fx l3, vI a] st E u) ∧
  (∀ (l0 l2 l3 l4 : am_V) (a : Option Nat) (st : List am_V) (E : am_E) (u : am_M), Rn m_T_freeCell 52 [l0, vR a, l2, l3, l4] st E u = Rn m_T_freeCell 53 [l0, vR a, l2, l3, l4] (vR a :: st) E u) ∧
  (∀ (l0 l1 l2 l3 : am_V) (a : Int) (st : List am_V) (E : am_E) (u : am_M), Rn m_T_freeCell 53 [l0, l1, l2, l3, vI a] st E u = Rn m_T_freeCell 55 [l0, l1, l2, l3, vI a] (vI a :: st) E u) ∧
  (∀ (l0 l1 l2 l3 l4 : am_V) (k : Nat) (a0 : Int) (E : am_E) (u : am_M) (hE : SE E) (hk : cuB k), Rn m_T_freeCell 55 [l0, l1, l2, l3, l4] [vI a0, vR (some k)] E u = bdI (Rn m_C_thingOn 0 [vR (some k), vI a0] [] E u) (KI m_T_freeCell 58 [l0, l1, l2, l3, l4] [])) ∧
  (∀ (l0 l1 l2 l3 l4 : am_V) (st : List am_V) (E : am_E) (u : am_M), Rn m_T_freeCell 58 [l0, l1, l2, l3, l4] st E u = Rn m_T_freeCell 60 [l0, l1, l2, l3, l4] (vI (-4) :: st) E u) ∧
  (∀ (l0 l1 l2 l3 l4 : am_V) (a b : Int) (st : List am_V) (E : am_E) (u : am_M), Rn m_T_freeCell 60 [l0, l1, l2, l3, l4] (vI b :: vI a :: st) E u = if a = b then Rn m_T_freeCell 76 [l0, l1, l2, l3, l4] st E u else Rn m_T_freeCell 63 [l0, l1, l2, l3, l4] st E u) ∧
  (∀ (l1 l2 l3 l4 : am_V) (a : Option Nat) (st : List am_V) (E : am_E) (u : am_M), Rn m_T_freeCell 63 [vR a, l1, l2, l3, l4] st E u = Rn m_T_freeCell 64 [vR a, l1, l2, l3, l4] (vR a :: st) E u) ∧
  (∀ (l0 l1 l2 l3 l4 : am_V) (a : Int) (st : List am_V) (E : am_E) (u : am_M), Rn m_T_freeCell 64 [l0, l1, l2, l3, l4] (vI a :: st) E u = Rn m_T_freeCell 65 [l0, l1, l2, l3, l4] (vI a :: vI a :: st) E u) ∧
  (∀ (l0 l1 l2 l3 l4 : am_V) (a : Option Nat) (st : List am_V) (E : am_E) (u : am_M), Rn m_T_freeCell 64 [l0, l1, l2, l3, l4] (vR a :: st) E u = Rn m_T_freeCell 65 [l0, l1, l2, l3, l4] (vR a :: vR a :: st) E u) ∧
  (∀ (l0 l1 l2 l3 l4 : am_V) (st : List am_V) (E : am_E) (u : am_M) (hE : SE E), Rn m_T_freeCell 65 [l0, l1, l2, l3, l4] (vR (some 138) :: st) E u = Rn m_T_freeCell 68 [l0, l1, l2, l3, l4] (vI (u 138 2) :: st) E u) ∧
  (∀ (l0 l1 l2 l3 l4 : am_V) (st : List am_V) (E : am_E) (u : am_M), Rn m_T_freeCell 68 [l0, l1, l2, l3, l4] st E u = Rn m_T_freeCell 69 [l0, l1, l2, l3, l4] (vI 1 :: st) E u) ∧
  (∀ (l0 l1 l2 l3 l4 : am_V) (a b : Int) (st : List am_V) (E : am_E) (u : am_M), Rn m_T_freeCell 69 [l0, l1, l2, l3, l4] (vI b :: vI a :: st) E u = Rn m_T_freeCell 70 [l0, l1, l2, l3, l4] (vI (w32 (a - b)) :: st) E u) ∧
  (∀ (l0 l1 l2 l3 l4 : am_V) (a : Int) (st : List am_V) (E : am_E) (u : am_M) (hE : SE E), Rn m_T_freeCell 70 [l0, l1, l2, l3, l4] (vI a :: vR (some 138) :: st) E u = Rn m_T_freeCell 73 [l0, l1, l2, l3, l4] st E (am_up u 138 2 a)) ∧
  (∀ (l0 l1 l2 l3 l4 : am_V) (st : List am_V) (E : am_E) (u : am_M), Rn m_T_freeCell 73 [l0, l1, l2, l3, l4] st E u = Rn m_T_freeCell 75 [l0, l1, l2, l3, l4] (vI (-4) :: st) E u) ∧
  (∀ (l0 l1 l2 l3 l4 : am_V) (a : Int) (E : am_E) (u : am_M), Rn m_T_freeCell 75 [l0, l1, l2, l3, l4] [vI a] E u = some (some (vI a), E, u)) ∧
  (∀ (l0 l1 l2 l3 : am_V) (a : Int) (st : List am_V) (E : am_E) (u : am_M), Rn m_T_freeCell 76 [l0, l1, l2, l3, vI a] st E u = Rn m_T_freeCell 78 [l0, l1, l2, l3, vI a] (vI a :: st) E u) ∧
  (∀ (l0 l1 l2 l3 l4 : am_V) (a : Int) (E : am_E) (u : am_M), Rn m_T_freeCell 78 [l0, l1, l2, l3, l4] [vI a] E u = some (some (vI a), E, u)) :=
  ⟨fun l1 l2 l3 l4 a st E u => q_go (by decide +kernel : am_Pg 67 0 = some (.aload_n 0, 1, [], 0)) rfl,
  fun l0 l1 l2 l3 l4 st E u => q_go (by decide +kernel : am_Pg 67 1 = some (.iconst 0, 1, [], 0)) rfl,
  fun l0 l2 l3 l4 a st E u => q_go (by decide +kernel : am_Pg 67 2 = some (.aload_n 1, 1, [], 0)) rfl,
  fun l0 l1 l2 l3 l4 k st E u hE hk => q_gfI (by decide +kernel : am_Pg 67 3 = some (.getfield 86, 3, [0, 14, 0, 1], 0)) (SE_k0 hE hk) (by decide),
  fun l0 l1 l2 l3 l4 st E u => q_go (by decide +kernel : am_Pg 67 6 = some (.iconst 1, 1, [], 0)) rfl,
  fun l0 l1 l2 l3 l4 a b st E u => q_go (by decide +kernel : am_Pg 67 7 = some (.isub, 1, [], 0)) rfl,
  fun l0 l1 l2 l3 l4 a0 a1  E u hE => q_cI (by decide +kernel : am_Pg 67 8 = some (.invokevirtual 26, 3, [3, 65, 3, 3, 3, 0], 0)) (am_call_V (a := [vI a0, vI a1]) (st' := []) (Nat.le_of_ble_eq_true rfl) rfl (SE_k3 hE)) (by decide +kernel : am_Lm m_T_digit = 4) (Nat.le_of_ble_eq_true rfl) rfl (by decide +kernel),
  fun l0 l1 l2 l3 l4 a st E u => q_go (by decide +kernel : am_Pg 67 11 = some (.istore_n 2, 1, [], 0)) rfl,
  fun l0 l1 l3 l4 a st E u => q_go (by decide +kernel : am_Pg 67 12 = some (.iload_n 2, 1, [], 0)) rfl,
  fun l0 l1 l2 l3 l4 st E u => q_go (by decide +kernel : am_Pg 67 13 = some (.bipush (-4), 2, [], 0)) rfl,
  fun l0 l1 l2 l3 l4 a b st E u => q_icmp_ne (tgt := 21) (by decide +kernel : am_Pg 67 15 = some (.if_icmp .ne 6, 3, [], 0)) (by decide),
  fun l0 l1 l2 l3 l4 st E u => q_go (by decide +kernel : am_Pg 67 18 = some (.bipush (-4), 2, [], 0)) rfl,
  fun l0 l1 l2 l3 l4 a E u => q_ret (by decide +kernel : am_Pg 67 20 = some (.ireturn, 1, [], 0)) rfl,
  fun l1 l2 l3 l4 a st E u => q_go (by decide +kernel : am_Pg 67 21 = some (.aload_n 0, 1, [], 0)) rfl,
  fun l0 l1 l2 l3 l4 st E u => q_go (by decide +kernel : am_Pg 67 22 = some (.iconst 0, 1, [], 0)) rfl,
  fun l0 l2 l3 l4 a st E u => q_go (by decide +kernel : am_Pg 67 23 = some (.aload_n 1, 1, [], 0)) rfl,
  fun l0 l1 l2 l3 l4 k st E u hE hk => q_gfI (by decide +kernel : am_Pg 67 24 = some (.getfield 89, 3, [0, 14, 1, 1], 0)) (SE_k0 hE hk) (by decide),
  fun l0 l1 l2 l3 l4 st E u => q_go (by decide +kernel : am_Pg 67 27 = some (.iconst 1, 1, [], 0)) rfl,
  fun l0 l1 l2 l3 l4 a b st E u => q_go (by decide +kernel : am_Pg 67 28 = some (.isub, 1, [], 0)) rfl,
  fun l0 l1 l2 l3 l4 a0 a1  E u hE => q_cI (by decide +kernel : am_Pg 67 29 = some (.invokevirtual 26, 3, [3, 65, 3, 3, 3, 0], 0)) (am_call_V (a := [vI a0, vI a1]) (st' := []) (Nat.le_of_ble_eq_true rfl) rfl (SE_k3 hE)) (by decide +kernel : am_Lm m_T_digit = 4) (Nat.le_of_ble_eq_true rfl) rfl (by decide +kernel),
  fun l0 l1 l2 l3 l4 a st E u => q_go (by decide +kernel : am_Pg 67 32 = some (.istore_n 3, 1, [], 0)) rfl,
  fun l0 l1 l2 l4 a st E u => q_go (by decide +kernel : am_Pg 67 33 = some (.iload_n 3, 1, [], 0)) rfl,
  fun l0 l1 l2 l3 l4 st E u => q_go (by decide +kernel : am_Pg 67 34 = some (.bipush (-4), 2, [], 0)) rfl,
  fun l0 l1 l2 l3 l4 a b st E u => q_icmp_ne (tgt := 42) (by decide +kernel : am_Pg 67 36 = some (.if_icmp .ne 6, 3, [], 0)) (by decide),
  fun l0 l1 l2 l3 l4 st E u => q_go (by decide +kernel : am_Pg 67 39 = some (.bipush (-4), 2, [], 0)) rfl,
  fun l0 l1 l2 l3 l4 a E u => q_ret (by decide +kernel : am_Pg 67 41 = some (.ireturn, 1, [], 0)) rfl,
  fun l0 l1 l3 l4 a st E u => q_go (by decide +kernel : am_Pg 67 42 = some (.iload_n 2, 1, [], 0)) rfl,
  fun l0 l2 l3 l4 a st E u => q_go (by decide +kernel : am_Pg 67 43 = some (.aload_n 1, 1, [], 0)) rfl,
  fun l0 l1 l2 l3 l4 k st E u hE hk => q_gfI (by decide +kernel : am_Pg 67 44 = some (.getfield 89, 3, [0, 14, 1, 1], 0)) (SE_k0 hE hk) (by decide),
  fun l0 l1 l2 l3 l4 a b st E u => q_go (by decide +kernel : am_Pg 67 47 = some (.imul, 1, [], 0)) rfl,
  fun l0 l1 l2 l4 a st E u => q_go (by decide +kernel : am_Pg 67 48 = some (.iload_n 3, 1, [], 0)) rfl,
  fun l0 l1 l2 l3 l4 a b st E u => q_go (by decide +kernel : am_Pg 67 49 = some (.iadd, 1, [], 0)) rfl,
  fun l0 l1 l2 l3 l4 a st E u => q_go (by decide +kernel : am_Pg 67 50 = some (.istore 4, 2, [], 0)) rfl,
  fun l0 l2 l3 l4 a st E u => q_go (by decide +kernel : am_Pg 67 52 = some (.aload_n 1, 1, [], 0)) rfl,
  fun l0 l1 l2 l3 a st E u => q_go (by decide +kernel : am_Pg 67 53 = some (.iload 4, 2, [], 0)) rfl,
  fun l0 l1 l2 l3 l4 k a0  E u hE hk => q_cI (by decide +kernel : am_Pg 67 55 = some (.invokevirtual 92, 3, [3, 18, 2, 0, 14, 1], 0)) (am_call_V (a := [vI a0]) (st' := []) (Nat.le_of_ble_eq_true rfl) rfl (SE_k0 hE hk)) (by decide +kernel : am_Lm m_C_thingOn = 2) (Nat.le_of_ble_eq_true rfl) rfl (by decide +kernel),
  fun l0 l1 l2 l3 l4 st E u => q_go (by decide +kernel : am_Pg 67 58 = some (.bipush (-4), 2, [], 0)) rfl,
  fun l0 l1 l2 l3 l4 a b st E u => q_icmp_eq (tgt := 76) (by decide +kernel : am_Pg 67 60 = some (.if_icmp .eq 16, 3, [], 0)) (by decide),
  fun l1 l2 l3 l4 a st E u => q_go (by decide +kernel : am_Pg 67 63 = some (.aload_n 0, 1, [], 0)) rfl,
  fun l0 l1 l2 l3 l4 a st E u => q_go (by decide +kernel : am_Pg 67 64 = some (.dup, 1, [], 0)) rfl,
  fun l0 l1 l2 l3 l4 a st E u => q_go (by decide +kernel : am_Pg 67 64 = some (.dup, 1, [], 0)) rfl,
  fun l0 l1 l2 l3 l4 st E u hE => q_gfI (by decide +kernel : am_Pg 67 65 = some (.getfield 23, 3, [3, 3, 2, 0], 0)) (SE_k3 hE) (by decide),
  fun l0 l1 l2 l3 l4 st E u => q_go (by decide +kernel : am_Pg 67 68 = some (.iconst 1, 1, [], 0)) rfl,
  fun l0 l1 l2 l3 l4 a b st E u => q_go (by decide +kernel : am_Pg 67 69 = some (.isub, 1, [], 0)) rfl,
  fun l0 l1 l2 l3 l4 a st E u hE => q_pfI (by decide +kernel : am_Pg 67 70 = some (.putfield 23, 3, [3, 3, 2, 0], 0)) (SE_k3 hE) rfl,
  fun l0 l1 l2 l3 l4 st E u => q_go (by decide +kernel : am_Pg 67 73 = some (.bipush (-4), 2, [], 0)) rfl,
  fun l0 l1 l2 l3 l4 a E u => q_ret (by decide +kernel : am_Pg 67 75 = some (.ireturn, 1, [], 0)) rfl,
  fun l0 l1 l2 l3 a st E u => q_go (by decide +kernel : am_Pg 67 76 = some (.iload 4, 2, [], 0)) rfl,
  fun l0 l1 l2 l3 l4 a E u => q_ret (by decide +kernel : am_Pg 67 78 = some (.ireturn, 1, [], 0)) rfl⟩
theorem x_T_courseOf :
  (∀ (a : Int) (st : List am_V) (E : am_E) (u : am_M), Rn m_T_courseOf 0 [vI a] st E u = Rn m_T_courseOf 1 [vI a] (vI a :: st) E u) ∧
  (∀ (l0 : am_V) (a : Int) (st : List am_V) (E : am_E) (u : am_M), Rn m_T_courseOf 1 [l0] (vI a :: st) E u = if a = 100 then Rn m_T_courseOf 46 [l0] st E u else if a = 108 then Rn m_T_courseOf 48 [l0] st E u else if a = 114 then Rn m_T_courseOf 50 [l0] st E u else if a = 117 then Rn m_T_courseOf 44 [l0] st E u else Rn m_T_courseOf 52 [l0] st E u) ∧
  (∀ (l0 : am_V) (st : List am_V) (E : am_E) (u : am_M), Rn m_T_courseOf 44 [l0] st E u = Rn m_T_courseOf 45 [l0] (vI 0 :: st) E u) ∧
  (∀ (l0 : am_V) (a : Int) (E : am_E) (u : am_M), Rn m_T_courseOf 45 [l0] [vI a] E u = some (some (vI a), E, u)) ∧
  (∀ (l0 : am_V) (st : List am_V) (E : am_E) (u : am_M), Rn m_T_courseOf 46 [l0] st E u = Rn m_T_courseOf 47 [l0] (vI 1 :: st) E u) ∧
  (∀ (l0 : am_V) (a : Int) (E : am_E) (u : am_M), Rn m_T_courseOf 47 [l0] [vI a] E u = some (some (vI a), E, u)) ∧
  (∀ (l0 : am_V) (st : List am_V) (E : am_E) (u : am_M), Rn m_T_courseOf 48 [l0] st E u = Rn m_T_courseOf 49 [l0] (vI 2 :: st) E u) ∧
  (∀ (l0 : am_V) (a : Int) (E : am_E) (u : am_M), Rn m_T_courseOf 49 [l0] [vI a] E u = some (some (vI a), E, u)) ∧
  (∀ (l0 : am_V) (st : List am_V) (E : am_E) (u : am_M), Rn m_T_courseOf 50 [l0] st E u = Rn m_T_courseOf 51 [l0] (vI 3 :: st) E u) ∧
  (∀ (l0 : am_V) (a : Int) (E : am_E) (u : am_M), Rn m_T_courseOf 51 [l0] [vI a] E u = some (some (vI a), E, u)) ∧
  (∀ (l0 : am_V) (st : List am_V) (E : am_E) (u : am_M), Rn m_T_courseOf 52 [l0] st E u = Rn m_T_courseOf 54 [l0] (vI (-4) :: st) E u) ∧
  (∀ (l0 : am_V) (a : Int) (E : am_E) (u : am_M), Rn m_T_courseOf 54 [l0] [vI a] E u = some (some (vI a), E, u)) :=
  ⟨fun a st E u => q_go (by decide +kernel : am_Pg 68 0 = some (.iload_n 0, 1, [], 0)) rfl,
  (fun l0 a st E u => by
  by_cases h0 : a = 100
  · subst h0; rw [if_pos rfl]; exact q_go (by decide +kernel : am_Pg 68 1 = some (.lookupswitch 51 #[(100, 45), (108, 47), (114, 49), (117, 43)], 43, [], 0)) rfl
  rw [if_neg h0]
  by_cases h1 : a = 108
  · subst h1; rw [if_pos rfl]; exact q_go (by decide +kernel : am_Pg 68 1 = some (.lookupswitch 51 #[(100, 45), (108, 47), (114, 49), (117, 43)], 43, [], 0)) rfl
  rw [if_neg h1]
  by_cases h2 : a = 114
  · subst h2; rw [if_pos rfl]; exact q_go (by decide +kernel : am_Pg 68 1 = some (.lookupswitch 51 #[(100, 45), (108, 47), (114, 49), (117, 43)], 43, [], 0)) rfl
  rw [if_neg h2]
  by_cases h3 : a = 117
  · subst h3; rw [if_pos rfl]; exact q_go (by decide +kernel : am_Pg 68 1 = some (.lookupswitch 51 #[(100, 45), (108, 47), (114, 49), (117, 43)], 43, [], 0)) rfl
  rw [if_neg h3]
  refine q_go (by decide +kernel : am_Pg 68 1 = some (.lookupswitch 51 #[(100, 45), (108, 47), (114, 49), (117, 43)], 43, [], 0)) ?_
  simp only [am_step]
  rw [if_pos (by decide)]
  have e : Op.lookupswitch.offset #[(100, 45), (108, 47), (114, 49), (117, 43)].toList 51 a = 51 := by
    show Op.lookupswitch.offset [(100, 45), (108, 47), (114, 49), (117, 43)] 51 a = _
    rw [Op.lookupswitch.offset_cons, if_neg (Ne.symm h0), Op.lookupswitch.offset_cons, if_neg (Ne.symm h1), Op.lookupswitch.offset_cons, if_neg (Ne.symm h2), Op.lookupswitch.offset_cons, if_neg (Ne.symm h3)]
    rfl
  rw [e]; rfl),
  fun l0 st E u => q_go (by decide +kernel : am_Pg 68 44 = some (.iconst 0, 1, [], 0)) rfl,
  fun l0 a E u => q_ret (by decide +kernel : am_Pg 68 45 = some (.ireturn, 1, [], 0)) rfl,
  fun l0 st E u => q_go (by decide +kernel : am_Pg 68 46 = some (.iconst 1, 1, [], 0)) rfl,
  fun l0 a E u => q_ret (by decide +kernel : am_Pg 68 47 = some (.ireturn, 1, [], 0)) rfl,
  fun l0 st E u => q_go (by decide +kernel : am_Pg 68 48 = some (.iconst 2, 1, [], 0)) rfl,
  fun l0 a E u => q_ret (by decide +kernel : am_Pg 68 49 = some (.ireturn, 1, [], 0)) rfl,
  fun l0 st E u => q_go (by decide +kernel : am_Pg 68 50 = some (.iconst 3, 1, [], 0)) rfl,
  fun l0 a E u => q_ret (by decide +kernel : am_Pg 68 51 = some (.ireturn, 1, [], 0)) rfl,
  fun l0 st E u => q_go (by decide +kernel : am_Pg 68 52 = some (.bipush (-4), 2, [], 0)) rfl,
  fun l0 a E u => q_ret (by decide +kernel : am_Pg 68 54 = some (.ireturn, 1, [], 0)) rfl⟩
theorem x_T_tellsPin :
  (∀ (l0 l2 l3 l4 : am_V) (a : Option Nat) (st : List am_V) (E : am_E) (u : am_M), Rn m_T_tellsPin 0 [l0, vR a, l2, l3, l4] st E u = Rn m_T_tellsPin 1 [l0, vR a, l2, l3, l4] (vR a :: st) E u) ∧
  (∀ (l0 l1 l2 l3 l4 : am_V) (k : Nat) (st : List am_V) (E : am_E) (u : am_M) (hE : SE E) (hk : cuB k), Rn m_T_tellsPin 1 [l0, l1, l2, l3, l4] (vR (some k) :: st) E u = Rn m_T_tellsPin 4 [l0, l1, l2, l3, l4] (vI (u k 2) :: st) E u) ∧
  (∀ (l0 l1 l2 l3 l4 : am_V) (st : List am_V) (E : am_E) (u : am_M), Rn m_T_tellsPin 4 [l0, l1, l2, l3, l4] st E u = Rn m_T_tellsPin 6 [l0, l1, l2, l3, l4] (vI 7 :: st) E u) ∧
  (∀ (l0 l1 l2 l3 l4 : am_V) (a b : Int) (st : List am_V) (E : am_E) (u : am_M), Rn m_T_tellsPin 6 [l0, l1, l2, l3, l4] (vI b :: vI a :: st) E u = if a < b then Rn m_T_tellsPin 11 [l0, l1, l2, l3, l4] st E u else Rn m_T_tellsPin 9 [l0, l1, l2, l3, l4] st E u) ∧
  (∀ (l0 l1 l2 l3 l4 : am_V) (st : List am_V) (E : am_E) (u : am_M), Rn m_T_tellsPin 9 [l0, l1, l2, l3, l4] st E u = Rn m_T_tellsPin 10 [l0, l1, l2, l3, l4] (vI 0 :: st) E u) ∧
  (∀ (l0 l1 l2 l3 l4 : am_V) (b : Bool) (E : am_E) (u : am_M), Rn m_T_tellsPin 10 [l0, l1, l2, l3, l4] [vI (bI b)] E u = some (some (vI (bI b)), E, u)) ∧
  (∀ (l0 l1 l2 l3 l4 : am_V) (E : am_E) (u : am_M), Rn m_T_tellsPin 10 [l0, l1, l2, l3, l4] [vI 1] E u = some (some (vI 1), E, u)) ∧
  (∀ (l0 l1 l2 l3 l4 : am_V) (E : am_E) (u : am_M), Rn m_T_tellsPin 10 [l0, l1, l2, l3, l4] [vI 0] E u = some (some (vI 0), E, u)) ∧
  (∀ (l1 l2 l3 l4 : am_V) (a : Option Nat) (st : List am_V) (E : am_E) (u : am_M), Rn m_T_tellsPin 11 [vR a, l1, l2, l3, l4] st E u = Rn m_T_tellsPin 12 [vR a, l1, l2, l3, l4] (vR a :: st) E u) ∧
  (∀ (l0 l1 l2 l3 l4 : am_V) (a : Int) (st : List am_V) (E : am_E) (u : am_M), Rn m_T_tellsPin 12 [l0, l1, l2, l3, l4] (vI a :: st) E u = Rn m_T_tellsPin 13 [l0, l1, l2, l3, l4] (vI a :: vI a :: st) E u) ∧
  (∀ (l0 l1 l2 l3 l4 : am_V) (a : Option Nat) (st : List am_V) (E : am_E) (u : am_M), Rn m_T_tellsPin 12 [l0, l1, l2, l3, l4] (vR a :: st) E u = Rn m_T_tellsPin 13 [l0, l1, l2, l3, l4] (vR a :: vR a :: st) E u) ∧
  (∀ (l0 l1 l2 l3 l4 : am_V) (st : List am_V) (E : am_E) (u : am_M) (hE : SE E), Rn m_T_tellsPin 13 [l0, l1, l2, l3, l4] (vR (some 138) :: st) E u = Rn m_T_tellsPin 16 [l0, l1, l2, l3, l4] (vI (u 138 2) :: st) E u) ∧
  (∀ (l0 l1 l2 l3 l4 : am_V) (st : List am_V) (E : am_E) (u : am_M), Rn m_T_tellsPin 16 [l0, l1, l2, l3, l4] st E u = Rn m_T_tellsPin 17 [l0, l1, l2, l3, l4] (vI 1 :: st) E u) ∧
  (∀ (l0 l1 l2 l3 l4 : am_V) (a b : Int) (st : List am_V) (E : am_E) (u : am_M), Rn m_T_tellsPin 17 [l0, l1, l2, l3, l4] (vI b :: vI a :: st) E u = Rn m_T_tellsPin 18 [l0, l1, l2, l3, l4] (vI (w32 (a + b)) :: st) E u) ∧
  (∀ (l0 l1 l2 l3 l4 : am_V) (a : Int) (st : List am_V) (E : am_E) (u : am_M) (hE : SE E), Rn m_T_tellsPin 18 [l0, l1, l2, l3, l4] (vI a :: vR (some 138) :: st) E u = Rn m_T_tellsPin 21 [l0, l1, l2, l3, l4] st E (am_up u 138 2 a)) ∧
  (∀ (l1 l2 l3 l4 : am_V) (a : Option Nat) (st : List am_V) (E : am_E) (u : am_M), Rn m_T_tellsPin 21 [vR a, l1, l2, l3, l4] st E u = Rn m_T_tellsPin 22 [vR a, l1, l2, l3, l4] (vR a :: st) E u) ∧
  (∀ (l0 l2 l3 l4 : am_V) (a : Option Nat) (st : List am_V) (E : am_E) (u : am_M), Rn m_T_tellsPin 22 [l0, vR a, l2, l3, l4] st E u = Rn m_T_tellsPin 23 [l0, vR a, l2, l3, l4] (vR a :: st) E u) ∧
  (∀ (l0 l1 l2 l3 l4 : am_V) (a0 : Option Nat) (E : am_E) (u : am_M) (hE : SE E), Rn m_T_tellsPin 23 [l0, l1, l2, l3, l4] [vR a0, vR (some 138)] E u = bdI (Rn m_T_freeCell 0 [vR (some 138), vR a0, vB false, vB false, vB false] [] E u) (KI m_T_tellsPin 26 [l0, l1, l2, l3, l4] [])) ∧
  (∀ (l0 l1 l2 l3 l4 : am_V) (a : Int) (st : List am_V) (E : am_E) (u : am_M), Rn m_T_tellsPin 26 [l0, l1, l2, l3, l4] (vI a :: st) E u = Rn m_T_tellsPin 27 [l0, l1, am_fx l2, vI a, l4] st E u) ∧
  (∀ (l0 l1 l2 l4 : am_V) (a : Int) (st : List am_V) (E : am_E) (u : am_M), Rn m_T_tellsPin 27 [l0, l1, l2, vI a, l4] st E u = Rn m_T_tellsPin 28 [l0, l1, l2, vI a, l4] (vI a :: st) E u) ∧
  (∀ (l0 l1 l2 l3 l4 : am_V) (st : List am_V) (E : am_E) (u : am_M), Rn m_T_tellsPin 28 [l0, l1, l2, l3, l4] st E u = Rn m_T_tellsPin 30 [l0, l1, l2, l3, l4] (vI (-4) :: st) E u) ∧
  (∀ (l0 l1 l2 l3 l4 : am_V) (a b : Int) (st : List am_V) (E : am_E) (u : am_M), Rn m_T_tellsPin 30 [l0, l1, l2, l3, l4] (vI b :: vI a :: st) E u = if a = b then Rn m_T_tellsPin 33 [l0, l1, l2, l3, l4] st E u else Rn m_T_tellsPin 35 [l0, l1, l2, l3, l4] st E u) ∧
  (∀ (l0 l1 l2 l3 l4 : am_V) (st : List am_V) (E : am_E) (u : am_M), Rn m_T_tellsPin 33 [l0, l1, l2, l3, l4] st E u = Rn m_T_tellsPin 34 [l0, l1, l2, l3, l4] (vI 0 :: st) E u) ∧
  (∀ (l0 l1 l2 l3 l4 : am_V) (b : Bool) (E : am_E) (u : am_M), Rn m_T_tellsPin 34 [l0, l1, l2, l3, l4] [vI (bI b)] E u = some (some (vI (bI b)), E, u)) ∧
  (∀ (l0 l1 l2 l3 l4 : am_V) (E : am_E) (u : am_M), Rn m_T_tellsPin 34 [l0, l1, l2, l3, l4] [vI 1] E u = some (some (vI 1), E, u)) ∧
  (∀ (l0 l1 l2 l3 l4 : am_V) (E : am_E) (u : am_M), Rn m_T_tellsPin 34 [l0, l1, l2, l3, l4] [vI 0] E u = some (some (vI 0), E, u)) ∧
  (∀ (l1 l2 l3 l4 : am_V) (a : Option Nat) (st : List am_V) (E : am_E) (u : am_M), Rn m_T_tellsPin 35 [vR a, l1, l2, l3, l4] st E u = Rn m_T_tellsPin 36 [vR a, l1, l2, l3, l4] (vR a :: st) E u) ∧
  (∀ (l0 l1 l2 l3 l4 : am_V) (E : am_E) (u : am_M) (hE : SE E), Rn m_T_tellsPin 36 [l0, l1, l2, l3, l4] [vR (some 138)] E u = bdI (Rn m_T_next 0 [vR (some 138), vB false] [] E u) (KI m_T_tellsPin 39 [l0, l1, l2, l3, l4] [])) ∧
  (∀ (l0 l1 l2 l3 l4 : am_V) (a0 : Int) (E : am_E) (u : am_M), Rn m_T_tellsPin 39 [l0, l1, l2, l3, l4] [vI a0] E u = bdI (Rn m_T_courseOf 0 [vI a0] [] E u) (KI m_T_tellsPin 42 [l0, l1, l2, l3, l4] [])) ∧
  (∀ (l0 l1 l2 l3 l4 : am_V) (a : Int) (st : List am_V) (E : am_E) (u : am_M), Rn m_T_tellsPin 42 [l0, l1, l2, l3, l4] (vI a :: st) E u = Rn m_T_tellsPin 44 [l0, l1, l2, am_fx l3, vI a] st E u) ∧
  (∀ (l0 l1 l2 l3 : am_V) (a : Int) (st : List am_V) (E : am_E) (u : am_M), Rn m_T_tellsPin 44 [l0, l1, l2, l3, vI a] st E u = Rn m_T_tellsPin 46 [l0, l1, l2, l3, vI a] (vI a :: st) E u) ∧
  (∀ (l0 l1 l2 l3 l4 : am_V) (st : List am_V) (E : am_E) (u : am_M), Rn m_T_tellsPin 46 [l0, l1, l2, l3, l4] st E u = Rn m_T_tellsPin 48 [l0, l1, l2, l3, l4] (vI (-4) :: st) E u) ∧
  (∀ (l0 l1 l2 l3 l4 : am_V) (a b : Int) (st : List am_V) (E : am_E) (u : am_M), Rn m_T_tellsPin 48 [l0, l1, l2, l3, l4] (vI b :: vI a :: st) E u = if a = b then Rn m_T_tellsPin 61 [l0, l1, l2, l3, l4] st E u else Rn m_T_tellsPin 51 [l0, l1, l2, l3, l4] st E u) ∧
  (∀ (l1 l2 l3 l4 : am_V) (a : Option Nat) (st : List am_V) (E : am_E) (u : am_M), Rn m_T_tellsPin 51 [vR a, l1, l2, l3, l4] st E u = Rn m_T_tellsPin 52 [vR a, l1, l2, l3, l4] (vR a :: st) E u) ∧
  (∀ (l0 l1 l2 l3 l4 : am_V) (a : Int) (st : List am_V) (E : am_E) (u : am_M), Rn m_T_tellsPin 52 [l0, l1, l2, l3, l4] (vI a :: st) E u = Rn m_T_tellsPin 53 [l0, l1, l2, l3, l4] (vI a :: vI a :: st) E u) ∧
  (∀ (l0 l1 l2 l3 l4 : am_V) (a : Option Nat) (st : List am_V) (E : am_E) (u : am_M), Rn m_T_tellsPin 52 [l0, l1, l2, l3, l4] (vR a :: st) E u = Rn m_T_tellsPin 53 [l0, l1, l2, l3, l4] (vR a :: vR a :: st) E u) ∧
  (∀ (l0 l1 l2 l3 l4 : am_V) (st : List am_V) (E : am_E) (u : am_M) (hE : SE E), Rn m_T_tellsPin 53 [l0, l1, l2, l3, l4] (vR (some 138) :: st) E u = Rn m_T_tellsPin 56 [l0, l1, l2, l3, l4] (vI (u 138 2) :: st) E u) ∧
  (∀ (l0 l1 l2 l3 l4 : am_V) (st : List am_V) (E : am_E) (u : am_M), Rn m_T_tellsPin 56 [l0, l1, l2, l3, l4] st E u = Rn m_T_tellsPin 57 [l0, l1, l2, l3, l4] (vI 1 :: st) E u) ∧
  (∀ (l0 l1 l2 l3 l4 : am_V) (a b : Int) (st : List am_V) (E : am_E) (u : am_M), Rn m_T_tellsPin 57 [l0, l1, l2, l3, l4] (vI b :: vI a :: st) E u = Rn m_T_tellsPin 58 [l0, l1, l2, l3, l4] (vI (w32 (a + b)) :: st) E u) ∧
  (∀ (l0 l1 l2 l3 l4 : am_V) (a : Int) (st : List am_V) (E : am_E) (u : am_M) (hE : SE E), Rn m_T_tellsPin 58 [l0, l1, l2, l3, l4] (vI a :: vR (some 138) :: st) E u = Rn m_T_tellsPin 61 [l0, l1, l2, l3, l4] st E (am_up u 138 2 a)) ∧
  (∀ (l0 l2 l3 l4 : am_V) (a : Option Nat) (st : List am_V) (E : am_E) (u : am_M), Rn m_T_tellsPin 61 [l0, vR a, l2, l3, l4] st E u = Rn m_T_tellsPin 62 [l0, vR a, l2, l3, l4] (vR a :: st) E u) ∧
  (∀ (l0 l1 l3 l4 : am_V) (a : Int) (st : List am_V) (E : am_E) (u : am_M), Rn m_T_tellsPin 62 [l0, l1, vI a, l3, l4] st E u = Rn m_T_tellsPin 63 [l0, l1, vI a, l3, l4] (vI a :: st) E u) ∧
  (∀ (l0 l1 l2 l4 : am_V) (a : Int) (st : List am_V) (E : am_E) (u : am_M), Rn m_T_tellsPin 63 [l0, l1, l2, vI a, l4] st E u = Rn m_T_tellsPin 64 [l0, l1, l2, vI a, l4] (vI a :: st) E u) ∧
  (∀ (l0 l1 l2 l3 : am_V) (a : Int) (st : List am_V) (E : am_E) (u : am_M), Rn m_T_tellsPin 64 [l0, l1, l2, l3, vI a] st E u = Rn m_T_tellsPin 66 [l0, l1, l2, l3, vI a] (vI a :: st) E u) ∧
  (∀ (l0 l1 l2 l3 l4 : am_V) (st : List am_V) (E : am_E) (u : am_M), Rn m_T_tellsPin 66 [l0, l1, l2, l3, l4] st E u = Rn m_T_tellsPin 68 [l0, l1, l2, l3, l4] (vI (-4) :: st) E u) ∧
  (∀ (l0 l1 l2 l3 l4 : am_V) (a b : Int) (st : List am_V) (E : am_E) (u : am_M), Rn m_T_tellsPin 68 [l0, l1, l2, l3, l4] (vI b :: vI a :: st) E u = if a = b then Rn m_T_tellsPin 71 [l0, l1, l2, l3, l4] st E u else Rn m_T_tellsPin 75 [l0, l1, l2, l3, l4] st E u) ∧
  (∀ (l0 l1 l2 l3 l4 : am_V) (st : List am_V) (E : am_E) (u : am_M), Rn m_T_tellsPin 71 [l0, l1, l2, l3, l4] st E u = Rn m_T_tellsPin 72 [l0, l1, l2, l3, l4] (vI 3 :: st) E u) ∧
  (∀ (l0 l1 l2 l3 l4 : am_V) (st : List am_V) (E : am_E) (u : am_M), Rn m_T_tellsPin 72 [l0, l1, l2, l3, l4] st E u = Rn m_T_tellsPin 77 [l0, l1, l2, l3, l4] st E u) ∧
  (∀ (l0 l1 l2 l3 : am_V) (a : Int) (st : List am_V) (E : am_E) (u : am_M), Rn m_T_tellsPin 75 [l0, l1, l2, l3, vI a] st E u = Rn m_T_tellsPin 77 [l0, l1, l2, l3, vI a] (vI a :: st) E u) ∧
  (∀ (l0 l1 l2 l3 l4 : am_V) (k : Nat) (a0 : Int) (a1 : Int) (a2 : Int) (E : am_E) (u : am_M) (hE : SE E) (hk : cuB k), Rn m_T_tellsPin 77 [l0, l1, l2, l3, l4] [vI a2, vI a1, vI a0, vR (some k)] E u = bdI (Rn m_C_addPin 0 [vR (some k), vI a0, vI a1, vI a2, vB false] [] E u) (KI m_T_tellsPin 80 [l0, l1, l2, l3, l4] [])) ∧
  (∀ (l0 l1 l2 l3 l4 : am_V) (a : Int) (st : List am_V) (E : am_E) (u : am_M), Rn m_T_tellsPin 80 [l0, l1, l2, l3, l4] (vI a :: st) E u = Rn m_T_tellsPin 81 [l0, l1, l2, l3, l4] st E u) ∧
  (∀ (l0 l1 l2 l3 l4 : am_V) (a : Option Nat) (st : List am_V) (E : am_E) (u : am_M), Rn m_T_tellsPin 80 [l0, l1, l2, l3, l4] (vR a :: st) E u = Rn m_T_tellsPin 81 [l0, l1, l2, l3, l4] st E u) ∧
  (∀ (l0 l1 l2 l3 l4 : am_V) (st : List am_V) (E : am_E) (u : am_M), Rn m_T_tellsPin 81 [l0, l1, l2, l3, l4] st E u = Rn m_T_tellsPin 82 [l0, l1, l2, l3, l4] (vI 1 :: st) E u) ∧
  (∀ (l0 l1 l2 l3 l4 : am_V) (b : Bool) (E : am_E) (u : am_M), Rn m_T_tellsPin 82 [l0, l1, l2, l3, l4] [vI (bI b)] E u = some (some (vI (bI b)), E, u)) ∧
  (∀ (l0 l1 l2 l3 l4 : am_V) (E : am_E) (u : am_M), Rn m_T_tellsPin 82 [l0, l1, l2, l3, l4] [vI 1] E u = some (some (vI 1), E, u)) ∧
  (∀ (l0 l1 l2 l3 l4 : am_V) (E : am_E) (u : am_M), Rn m_T_tellsPin 82 [l0, l1, l2, l3, l4] [vI 0] E u = some (some (vI 0), E, u)) :=
  ⟨fun l0 l2 l3 l4 a st E u => q_go (by decide +kernel : am_Pg 69 0 = some (.aload_n 1, 1, [], 0)) rfl,
  fun l0 l1 l2 l3 l4 k st E u hE hk => q_gfI (by decide +kernel : am_Pg 69 1 = some (.getfield 58, 3, [0, 14, 2, 1], 0)) (SE_k0 hE hk) (by decide),
  fun l0 l1 l2 l3 l4 st E u => q_go (by decide +kernel : am_Pg 69 4 = some (.bipush 7, 2, [], 0)) rfl,
  fun l0 l1 l2 l3 l4 a b st E u => q_icmp_lt (tgt := 11) (by decide +kernel : am_Pg 69 6 = some (.if_icmp .lt 5, 3, [], 0)) (by decide),
  fun l0 l1 l2 l3 l4 st E u => q_go (by decide +kernel : am_Pg 69 9 = some (.iconst 0, 1, [], 0)) rfl,
  fun l0 l1 l2 l3 l4 b E u => by cases b <;> exact q_ret (by decide +kernel : am_Pg 69 10 = some (.ireturn, 1, [1], 0)) rfl,
  fun l0 l1 l2 l3 l4 E u => q_ret (by decide +kernel : am_Pg 69 10 = some (.ireturn, 1, [1], 0)) rfl,
  fun l0 l1 l2 l3 l4 E u => q_ret (by decide +kernel : am_Pg 69 10 = some (.ireturn, 1, [1], 0)) rfl,
  fun l1 l2 l3 l4 a st E u => q_go (by decide +kernel : am_Pg 69 11 = some (.aload_n 0, 1, [], 0)) rfl,
  fun l0 l1 l2 l3 l4 a st E u => q_go (by decide +kernel : am_Pg 69 12 = some (.dup, 1, [], 0)) rfl,
  fun l0 l1 l2 l3 l4 a st E u => q_go (by decide +kernel : am_Pg 69 12 = some (.dup, 1, [], 0)) rfl,
  fun l0 l1 l2 l3 l4 st E u hE => q_gfI (by decide +kernel : am_Pg 69 13 = some (.getfield 23, 3, [3, 3, 2, 0], 0)) (SE_k3 hE) (by decide),
  fun l0 l1 l2 l3 l4 st E u => q_go (by decide +kernel : am_Pg 69 16 = some (.iconst 1, 1, [], 0)) rfl,
  fun l0 l1 l2 l3 l4 a b st E u => q_go (by decide +kernel : am_Pg 69 17 = some (.iadd, 1, [], 0)) rfl,
  fun l0 l1 l2 l3 l4 a st E u hE => q_pfI (by decide +kernel : am_Pg 69 18 = some (.putfield 23, 3, [3, 3, 2, 0], 0)) (SE_k3 hE) rfl,
  fun l1 l2 l3 l4 a st E u => q_go (by decide +kernel : am_Pg 69 21 = some (.aload_n 0, 1, [], 0)) rfl,
  fun l0 l2 l3 l4 a st E u => q_go (by decide +kernel : am_Pg 69 22 = some (.aload_n 1, 1, [], 0)) rfl,
  fun l0 l1 l2 l3 l4 a0  E u hE => q_cI (by decide +kernel : am_Pg 69 23 = some (.invokevirtual 61, 3, [3, 67, 2, 3, 3, 0], 0)) (am_call_V (a := [vR a0]) (st' := []) (Nat.le_of_ble_eq_true rfl) rfl (SE_k3 hE)) (by decide +kernel : am_Lm m_T_freeCell = 5) (Nat.le_of_ble_eq_true rfl) rfl (by decide +kernel),
  fun l0 l1 l2 l3 l4 a st E u => q_go (by decide +kernel : am_Pg 69 26 = some (.istore_n 3, 1, [], 0)) rfl,
  fun l0 l1 l2 l4 a st E u => q_go (by decide +kernel : am_Pg 69 27 = some (.iload_n 3, 1, [], 0)) rfl,
  fun l0 l1 l2 l3 l4 st E u => q_go (by decide +kernel : am_Pg 69 28 = some (.bipush (-4), 2, [], 0)) rfl,
  fun l0 l1 l2 l3 l4 a b st E u => q_icmp_ne (tgt := 35) (by decide +kernel : am_Pg 69 30 = some (.if_icmp .ne 5, 3, [], 0)) (by decide),
  fun l0 l1 l2 l3 l4 st E u => q_go (by decide +kernel : am_Pg 69 33 = some (.iconst 0, 1, [], 0)) rfl,
  fun l0 l1 l2 l3 l4 b E u => by cases b <;> exact q_ret (by decide +kernel : am_Pg 69 34 = some (.ireturn, 1, [1], 0)) rfl,
  fun l0 l1 l2 l3 l4 E u => q_ret (by decide +kernel : am_Pg 69 34 = some (.ireturn, 1, [1], 0)) rfl,
  fun l0 l1 l2 l3 l4 E u => q_ret (by decide +kernel : am_Pg 69 34 = some (.ireturn, 1, [1], 0)) rfl,
  fun l1 l2 l3 l4 a st E u => q_go (by decide +kernel : am_Pg 69 35 = some (.aload_n 0, 1, [], 0)) rfl,
  fun l0 l1 l2 l3 l4   E u hE => q_cI (by decide +kernel : am_Pg 69 36 = some (.invokevirtual 40, 3, [3, 64, 1, 3, 3, 0], 0)) (am_call_V (a := []) (st' := []) (Nat.le_of_ble_eq_true rfl) rfl (SE_k3 hE)) (by decide +kernel : am_Lm m_T_next = 2) (Nat.le_of_ble_eq_true rfl) rfl (by decide +kernel),
  fun l0 l1 l2 l3 l4 a0  E u => q_cI (by decide +kernel : am_Pg 69 39 = some (.invokestatic 65, 3, [2, 68, 1, 0], 0)) (am_call_S (f := fun _ _ => true) (a := [vI a0]) (st' := []) (Nat.le_of_ble_eq_true rfl) rfl rfl) (by decide +kernel : am_Lm m_T_courseOf = 1) (Nat.le_of_ble_eq_true rfl) rfl (by decide +kernel),
  fun l0 l1 l2 l3 l4 a st E u => q_go (by decide +kernel : am_Pg 69 42 = some (.istore 4, 2, [], 0)) rfl,
  fun l0 l1 l2 l3 a st E u => q_go (by decide +kernel : am_Pg 69 44 = some (.iload 4, 2, [], 0)) rfl,
  fun l0 l1 l2 l3 l4 st E u => q_go (by decide +kernel : am_Pg 69 46 = some (.bipush (-4), 2, [], 0)) rfl,
  fun l0 l1 l2 l3 l4 a b st E u => q_icmp_eq (tgt := 61) (by decide +kernel : am_Pg 69 48 = some (.if_icmp .eq 13, 3, [], 0)) (by decide),
  fun l1 l2 l3 l4 a st E u => q_go (by decide +kernel : am_Pg 69 51 = some (.aload_n 0, 1, [], 0)) rfl,
  fun l0 l1 l2 l3 l4 a st E u => q_go (by decide +kernel : am_Pg 69 52 = some (.dup, 1, [], 0)) rfl,
  fun l0 l1 l2 l3 l4 a st E u => q_go (by decide +kernel : am_Pg 69 52 = some (.dup, 1, [], 0)) rfl,
  fun l0 l1 l2 l3 l4 st E u hE => q_gfI (by decide +kernel : am_Pg 69 53 = some (.getfield 23, 3, [3, 3, 2, 0], 0)) (SE_k3 hE) (by decide),
  fun l0 l1 l2 l3 l4 st E u => q_go (by decide +kernel : am_Pg 69 56 = some (.iconst 1, 1, [], 0)) rfl,
  fun l0 l1 l2 l3 l4 a b st E u => q_go (by decide +kernel : am_Pg 69 57 = some (.iadd, 1, [], 0)) rfl,
  fun l0 l1 l2 l3 l4 a st E u hE => q_pfI (by decide +kernel : am_Pg 69 58 = some (.putfield 23, 3, [3, 3, 2, 0], 0)) (SE_k3 hE) rfl,
  fun l0 l2 l3 l4 a st E u => q_go (by decide +kernel : am_Pg 69 61 = some (.aload_n 1, 1, [], 0)) rfl,
  fun l0 l1 l3 l4 a st E u => q_go (by decide +kernel : am_Pg 69 62 = some (.iload_n 2, 1, [], 0)) rfl,
  fun l0 l1 l2 l4 a st E u => q_go (by decide +kernel : am_Pg 69 63 = some (.iload_n 3, 1, [], 0)) rfl,
  fun l0 l1 l2 l3 a st E u => q_go (by decide +kernel : am_Pg 69 64 = some (.iload 4, 2, [], 0)) rfl,
  fun l0 l1 l2 l3 l4 st E u => q_go (by decide +kernel : am_Pg 69 66 = some (.bipush (-4), 2, [], 0)) rfl,
  fun l0 l1 l2 l3 l4 a b st E u => q_icmp_ne (tgt := 75) (by decide +kernel : am_Pg 69 68 = some (.if_icmp .ne 7, 3, [], 0)) (by decide),
  fun l0 l1 l2 l3 l4 st E u => q_go (by decide +kernel : am_Pg 69 71 = some (.iconst 3, 1, [], 0)) rfl,
  fun l0 l1 l2 l3 l4 st E u => q_go (by decide +kernel : am_Pg 69 72 = some (.goto 5, 3, [], 0)) rfl,
  fun l0 l1 l2 l3 a st E u => q_go (by decide +kernel : am_Pg 69 75 = some (.iload 4, 2, [], 0)) rfl,
  fun l0 l1 l2 l3 l4 k a0 a1 a2  E u hE hk => q_cI (by decide +kernel : am_Pg 69 77 = some (.invokevirtual 69, 3, [3, 20, 4, 0, 14, 1], 0)) (am_call_V (a := [vI a0, vI a1, vI a2]) (st' := []) (Nat.le_of_ble_eq_true rfl) rfl (SE_k0 hE hk)) (by decide +kernel : am_Lm m_C_addPin = 5) (Nat.le_of_ble_eq_true rfl) rfl (by decide +kernel),
  fun l0 l1 l2 l3 l4 a st E u => q_go (by decide +kernel : am_Pg 69 80 = some (.pop, 1, [], 0)) rfl,
  fun l0 l1 l2 l3 l4 a st E u => q_go (by decide +kernel : am_Pg 69 80 = some (.pop, 1, [], 0)) rfl,
  fun l0 l1 l2 l3 l4 st E u => q_go (by decide +kernel : am_Pg 69 81 = some (.iconst 1, 1, [], 0)) rfl,
  fun l0 l1 l2 l3 l4 b E u => by cases b <;> exact q_ret (by decide +kernel : am_Pg 69 82 = some (.ireturn, 1, [1], 0)) rfl,
  fun l0 l1 l2 l3 l4 E u => q_ret (by decide +kernel : am_Pg 69 82 = some (.ireturn, 1, [1], 0)) rfl,
  fun l0 l1 l2 l3 l4 E u => q_ret (by decide +kernel : am_Pg 69 82 = some (.ireturn, 1, [1], 0)) rfl⟩
theorem x_C_opens :
  (∀ (l1 : am_V) (a : Option Nat) (st : List am_V) (E : am_E) (u : am_M), Rn m_C_opens 0 [vR a, l1] st E u = Rn m_C_opens 1 [vR a, l1] (vR a :: st) E u) ∧
  (∀ (l0 l1 : am_V) (a : Int) (st : List am_V) (E : am_E) (u : am_M), Rn m_C_opens 1 [l0, l1] (vI a :: st) E u = Rn m_C_opens 2 [l0, l1] (vI a :: vI a :: st) E u) ∧
  (∀ (l0 l1 : am_V) (a : Option Nat) (st : List am_V) (E : am_E) (u : am_M), Rn m_C_opens 1 [l0, l1] (vR a :: st) E u = Rn m_C_opens 2 [l0, l1] (vR a :: vR a :: st) E u) ∧
  (∀ (l0 l1 : am_V) (k : Nat) (st : List am_V) (E : am_E) (u : am_M) (hE : SE E) (hk : cuB k), Rn m_C_opens 2 [l0, l1] (vR (some k) :: st) E u = Rn m_C_opens 5 [l0, l1] (vL (u k 7) :: st) E u) ∧
  (∀ (l0 l1 : am_V) (st : List am_V) (E : am_E) (u : am_M), Rn m_C_opens 5 [l0, l1] st E u = Rn m_C_opens 6 [l0, l1] (vL 1 :: st) E u) ∧
  (∀ (l0 : am_V) (a : Int) (st : List am_V) (E : am_E) (u : am_M), Rn m_C_opens 6 [l0, vI a] st E u = Rn m_C_opens 7 [l0, vI a] (vI a :: st) E u) ∧
  (∀ (l0 l1 : am_V) (a b : Int) (st : List am_V) (E : am_E) (u : am_M), Rn m_C_opens 7 [l0, l1] (vI b :: vL a :: st) E u = Rn m_C_opens 8 [l0, l1] (vL (l_shl a b) :: st) E u) ∧
  (∀ (l0 l1 : am_V) (a b : Int) (st : List am_V) (E : am_E) (u : am_M), Rn m_C_opens 8 [l0, l1] (vL b :: vL a :: st) E u = Rn m_C_opens 9 [l0, l1] (vL (l_or a b) :: st) E u) ∧
  (∀ (l0 l1 : am_V) (k : Nat) (a : Int) (st : List am_V) (E : am_E) (u : am_M) (hE : SE E) (hk : cuB k), Rn m_C_opens 9 [l0, l1] (vL a :: vR (some k) :: st) E u = Rn m_C_opens 12 [l0, l1] st E (am_up u k 7 a)) ∧
  (∀ (l0 l1 : am_V) (E : am_E) (u : am_M), Rn m_C_opens 12 [l0, l1] [] E u = some (none, E, u)) :=
  ⟨fun l1 a st E u => q_go (by decide +kernel : am_Pg 70 0 = some (.aload_n 0, 1, [], 0)) rfl,
  fun l0 l1 a st E u => q_go (by decide +kernel : am_Pg 70 1 = some (.dup, 1, [], 0)) rfl,
  fun l0 l1 a st E u => q_go (by decide +kernel : am_Pg 70 1 = some (.dup, 1, [], 0)) rfl,
  fun l0 l1 k st E u hE hk => q_gfL (by decide +kernel : am_Pg 70 2 = some (.getfield 58, 3, [0, 14, 7, 0], 0)) (SE_k0 hE hk) rfl,
  fun l0 l1 st E u => q_go (by decide +kernel : am_Pg 70 5 = some (.lconst 1, 1, [], 0)) rfl,
  fun l0 a st E u => q_go (by decide +kernel : am_Pg 70 6 = some (.iload_n 1, 1, [], 0)) rfl,
  fun l0 l1 a b st E u => q_go (by decide +kernel : am_Pg 70 7 = some (.lshl, 1, [], 0)) rfl,
  fun l0 l1 a b st E u => q_go (by decide +kernel : am_Pg 70 8 = some (.lor, 1, [], 0)) rfl,
  fun l0 l1 k a st E u hE hk => q_pfL (by decide +kernel : am_Pg 70 9 = some (.putfield 58, 3, [0, 14, 7, 0], 0)) (SE_k0 hE hk) rfl,
  fun l0 l1 E u => q_ret (by decide +kernel : am_Pg 70 12 = some (.return_, 1, [], 0)) rfl⟩
theorem x_T_tellsHole :
  (∀ (l1 l2 : am_V) (a : Option Nat) (st : List am_V) (E : am_E) (u : am_M), Rn m_T_tellsHole 0 [vR a, l1, l2] st E u = Rn m_T_tellsHole 1 [vR a, l1, l2] (vR a :: st) E u) ∧
  (∀ (l0 l1 l2 : am_V) (a : Int) (st : List am_V) (E : am_E) (u : am_M), Rn m_T_tellsHole 1 [l0, l1, l2] (vI a :: st) E u = Rn m_T_tellsHole 2 [l0, l1, l2] (vI a :: vI a :: st) E u) ∧
  (∀ (l0 l1 l2 : am_V) (a : Option Nat) (st : List am_V) (E : am_E) (u : am_M), Rn m_T_tellsHole 1 [l0, l1, l2] (vR a :: st) E u = Rn m_T_tellsHole 2 [l0, l1, l2] (vR a :: vR a :: st) E u) ∧
  (∀ (l0 l1 l2 : am_V) (st : List am_V) (E : am_E) (u : am_M) (hE : SE E), Rn m_T_tellsHole 2 [l0, l1, l2] (vR (some 138) :: st) E u = Rn m_T_tellsHole 5 [l0, l1, l2] (vI (u 138 2) :: st) E u) ∧
  (∀ (l0 l1 l2 : am_V) (st : List am_V) (E : am_E) (u : am_M), Rn m_T_tellsHole 5 [l0, l1, l2] st E u = Rn m_T_tellsHole 6 [l0, l1, l2] (vI 1 :: st) E u) ∧
  (∀ (l0 l1 l2 : am_V) (a b : Int) (st : List am_V) (E : am_E) (u : am_M), Rn m_T_tellsHole 6 [l0, l1, l2] (vI b :: vI a :: st) E u = Rn m_T_tellsHole 7 [l0, l1, l2] (vI (w32 (a + b)) :: st) E u) ∧
  (∀ (l0 l1 l2 : am_V) (a : Int) (st : List am_V) (E : am_E) (u : am_M) (hE : SE E), Rn m_T_tellsHole 7 [l0, l1, l2] (vI a :: vR (some 138) :: st) E u = Rn m_T_tellsHole 10 [l0, l1, l2] st E (am_up u 138 2 a)) ∧
  (∀ (l1 l2 : am_V) (a : Option Nat) (st : List am_V) (E : am_E) (u : am_M), Rn m_T_tellsHole 10 [vR a, l1, l2] st E u = Rn m_T_tellsHole 11 [vR a, l1, l2] (vR a :: st) E u) ∧
  (∀ (l0 l2 : am_V) (a : Option Nat) (st : List am_V) (E : am_E) (u : am_M), Rn m_T_tellsHole 11 [l0, vR a, l2] st E u = Rn m_T_tellsHole 12 [l0, vR a, l2] (vR a :: st) E u) ∧
  (∀ (l0 l1 l2 : am_V) (a0 : Option Nat) (E : am_E) (u : am_M) (hE : SE E), Rn m_T_tellsHole 12 [l0, l1, l2] [vR a0, vR (some 138)] E u = bdI (Rn m_T_freeCell 0 [vR (some 138), vR a0, vB false, vB false, vB false] [] E u) (KI m_T_tellsHole 15 [l0, l1, l2] [])) ∧
  (∀ (l0 l1 l2 : am_V) (a : Int) (st : List am_V) (E : am_E) (u : am_M), Rn m_T_tellsHole 15 [l0, l1, l2] (vI a :: st) E u = Rn m_T_tellsHole 16 [l0, am_fx l1, vI a] st E u) ∧
  (∀ (l0 l1 : am_V) (a : Int) (st : List am_V) (E : am_E) (u : am_M), Rn m_T_tellsHole 16 [l0, l1, vI a] st E u = Rn m_T_tellsHole 17 [l0, l1, vI a] (vI a :: st) E u) ∧
  (∀ (l0 l1 l2 : am_V) (st : List am_V) (E : am_E) (u : am_M), Rn m_T_tellsHole 17 [l0, l1, l2] st E u = Rn m_T_tellsHole 19 [l0, l1, l2] (vI (-4) :: st) E u) ∧
  (∀ (l0 l1 l2 : am_V) (a b : Int) (st : List am_V) (E : am_E) (u : am_M), Rn m_T_tellsHole 19 [l0, l1, l2] (vI b :: vI a :: st) E u = if a = b then Rn m_T_tellsHole 22 [l0, l1, l2] st E u else Rn m_T_tellsHole 24 [l0, l1, l2] st E u) ∧
  (∀ (l0 l1 l2 : am_V) (st : List am_V) (E : am_E) (u : am_M), Rn m_T_tellsHole 22 [l0, l1, l2] st E u = Rn m_T_tellsHole 23 [l0, l1, l2] (vI 0 :: st) E u) ∧
  (∀ (l0 l1 l2 : am_V) (b : Bool) (E : am_E) (u : am_M), Rn m_T_tellsHole 23 [l0, l1, l2] [vI (bI b)] E u = some (some (vI (bI b)), E, u)) ∧
  (∀ (l0 l1 l2 : am_V) (E : am_E) (u : am_M), Rn m_T_tellsHole 23 [l0, l1, l2] [vI 1] E u = some (some (vI 1), E, u)) ∧
  (∀ (l0 l1 l2 : am_V) (E : am_E) (u : am_M), Rn m_T_tellsHole 23 [l0, l1, l2] [vI 0] E u = some (some (vI 0), E, u)) ∧
  (∀ (l0 l2 : am_V) (a : Option Nat) (st : List am_V) (E : am_E) (u : am_M), Rn m_T_tellsHole 24 [l0, vR a, l2] st E u = Rn m_T_tellsHole 25 [l0, vR a, l2] (vR a :: st) E u) ∧
  (∀ (l0 l1 : am_V) (a : Int) (st : List am_V) (E : am_E) (u : am_M), Rn m_T_tellsHole 25 [l0, l1, vI a] st E u = Rn m_T_tellsHole 26 [l0, l1, vI a] (vI a :: st) E u) ∧
  (∀ (l0 l1 l2 : am_V) (k : Nat) (a0 : Int) (E : am_E) (u : am_M) (hE : SE E) (hk : cuB k), Rn m_T_tellsHole 26 [l0, l1, l2] [vI a0, vR (some k)] E u = bdV (Rn m_C_opens 0 [vR (some k), vI a0] [] E u) (KV m_T_tellsHole 29 [l0, l1, l2] [])) ∧
  (∀ (l0 l1 l2 : am_V) (st : List am_V) (E : am_E) (u : am_M), Rn m_T_tellsHole 29 [l0, l1, l2] st E u = Rn m_T_tellsHole 30 [l0, l1, l2] (vI 1 :: st) E u) ∧
  (∀ (l0 l1 l2 : am_V) (b : Bool) (E : am_E) (u : am_M), Rn m_T_tellsHole 30 [l0, l1, l2] [vI (bI b)] E u = some (some (vI (bI b)), E, u)) ∧
  (∀ (l0 l1 l2 : am_V) (E : am_E) (u : am_M), Rn m_T_tellsHole 30 [l0, l1, l2] [vI 1] E u = some (some (vI 1), E, u)) ∧
  (∀ (l0 l1 l2 : am_V) (E : am_E) (u : am_M), Rn m_T_tellsHole 30 [l0, l1, l2] [vI 0] E u = some (some (vI 0), E, u)) :=
  ⟨fun l1 l2 a st E u => q_go (by decide +kernel : am_Pg 71 0 = some (.aload_n 0, 1, [], 0)) rfl,
  fun l0 l1 l2 a st E u => q_go (by decide +kernel : am_Pg 71 1 = some (.dup, 1, [], 0)) rfl,
  fun l0 l1 l2 a st E u => q_go (by decide +kernel : am_Pg 71 1 = some (.dup, 1, [], 0)) rfl,
  fun l0 l1 l2 st E u hE => q_gfI (by decide +kernel : am_Pg 71 2 = some (.getfield 23, 3, [3, 3, 2, 0], 0)) (SE_k3 hE) (by decide),
  fun l0 l1 l2 st E u => q_go (by decide +kernel : am_Pg 71 5 = some (.iconst 1, 1, [], 0)) rfl,
  fun l0 l1 l2 a b st E u => q_go (by decide +kernel : am_Pg 71 6 = some (.iadd, 1, [], 0)) rfl,
  fun l0 l1 l2 a st E u hE => q_pfI (by decide +kernel : am_Pg 71 7 = some (.putfield 23, 3, [3, 3, 2, 0], 0)) (SE_k3 hE) rfl,
  fun l1 l2 a st E u => q_go (by decide +kernel : am_Pg 71 10 = some (.aload_n 0, 1, [], 0)) rfl,
  fun l0 l2 a st E u => q_go (by decide +kernel : am_Pg 71 11 = some (.aload_n 1, 1, [], 0)) rfl,
  fun l0 l1 l2 a0  E u hE => q_cI (by decide +kernel : am_Pg 71 12 = some (.invokevirtual 61, 3, [3, 67, 2, 3, 3, 0], 0)) (am_call_V (a := [vR a0]) (st' := []) (Nat.le_of_ble_eq_true rfl) rfl (SE_k3 hE)) (by decide +kernel : am_Lm m_T_freeCell = 5) (Nat.le_of_ble_eq_true rfl) rfl (by decide +kernel),
  fun l0 l1 l2 a st E u => q_go (by decide +kernel : am_Pg 71 15 = some (.istore_n 2, 1, [], 0)) rfl,
  fun l0 l1 a st E u => q_go (by decide +kernel : am_Pg 71 16 = some (.iload_n 2, 1, [], 0)) rfl,
  fun l0 l1 l2 st E u => q_go (by decide +kernel : am_Pg 71 17 = some (.bipush (-4), 2, [], 0)) rfl,
  fun l0 l1 l2 a b st E u => q_icmp_ne (tgt := 24) (by decide +kernel : am_Pg 71 19 = some (.if_icmp .ne 5, 3, [], 0)) (by decide),
  fun l0 l1 l2 st E u => q_go (by decide +kernel : am_Pg 71 22 = some (.iconst 0, 1, [], 0)) rfl,
  fun l0 l1 l2 b E u => by cases b <;> exact q_ret (by decide +kernel : am_Pg 71 23 = some (.ireturn, 1, [1], 0)) rfl,
  fun l0 l1 l2 E u => q_ret (by decide +kernel : am_Pg 71 23 = some (.ireturn, 1, [1], 0)) rfl,
  fun l0 l1 l2 E u => q_ret (by decide +kernel : am_Pg 71 23 = some (.ireturn, 1, [1], 0)) rfl,
  fun l0 l2 a st E u => q_go (by decide +kernel : am_Pg 71 24 = some (.aload_n 1, 1, [], 0)) rfl,
  fun l0 l1 a st E u => q_go (by decide +kernel : am_Pg 71 25 = some (.iload_n 2, 1, [], 0)) rfl,
  fun l0 l1 l2 k a0  E u hE hk => q_cV (by decide +kernel : am_Pg 71 26 = some (.invokevirtual 73, 3, [3, 70, 2, 0, 14, 1], 0)) (am_call_V (a := [vI a0]) (st' := []) (Nat.le_of_ble_eq_true rfl) rfl (SE_k0 hE hk)) (by decide +kernel : am_Lm m_C_opens = 2) (Nat.le_of_ble_eq_true rfl) rfl (by decide +kernel),
  fun l0 l1 l2 st E u => q_go (by decide +kernel : am_Pg 71 29 = some (.iconst 1, 1, [], 0)) rfl,
  fun l0 l1 l2 b E u => by cases b <;> exact q_ret (by decide +kernel : am_Pg 71 30 = some (.ireturn, 1, [1], 0)) rfl,
  fun l0 l1 l2 E u => q_ret (by decide +kernel : am_Pg 71 30 = some (.ireturn, 1, [1], 0)) rfl,
  fun l0 l1 l2 E u => q_ret (by decide +kernel : am_Pg 71 30 = some (.ireturn, 1, [1], 0)) rfl⟩
theorem x_T_letterHere :
  (∀ (a : Option Nat) (st : List am_V) (E : am_E) (u : am_M), Rn m_T_letterHere 0 [vR a] st E u = Rn m_T_letterHere 1 [vR a] (vR a :: st) E u) ∧
  (∀ (l0 : am_V) (st : List am_V) (E : am_E) (u : am_M) (hE : SE E), Rn m_T_letterHere 1 [l0] (vR (some 138) :: st) E u = Rn m_T_letterHere 4 [l0] (vI (u 138 2) :: st) E u) ∧
  (∀ (a : Option Nat) (st : List am_V) (E : am_E) (u : am_M), Rn m_T_letterHere 4 [vR a] st E u = Rn m_T_letterHere 5 [vR a] (vR a :: st) E u) ∧
  (∀ (l0 : am_V) (st : List am_V) (E : am_E) (u : am_M) (hE : SE E), Rn m_T_letterHere 5 [l0] (vR (some 138) :: st) E u = Rn m_T_letterHere 8 [l0] (vI (u 138 1) :: st) E u) ∧
  (∀ (l0 : am_V) (a b : Int) (st : List am_V) (E : am_E) (u : am_M), Rn m_T_letterHere 8 [l0] (vI b :: vI a :: st) E u = if a < b then Rn m_T_letterHere 11 [l0] st E u else Rn m_T_letterHere 25 [l0] st E u) ∧
  (∀ (a : Option Nat) (st : List am_V) (E : am_E) (u : am_M), Rn m_T_letterHere 11 [vR a] st E u = Rn m_T_letterHere 12 [vR a] (vR a :: st) E u) ∧
  (∀ (l0 : am_V) (st : List am_V) (E : am_E) (u : am_M) (hE : SE E), Rn m_T_letterHere 12 [l0] (vR (some 138) :: st) E u = Rn m_T_letterHere 15 [l0] (vR (some 139) :: st) E u) ∧
  (∀ (a : Option Nat) (st : List am_V) (E : am_E) (u : am_M), Rn m_T_letterHere 15 [vR a] st E u = Rn m_T_letterHere 16 [vR a] (vR a :: st) E u) ∧
  (∀ (l0 : am_V) (st : List am_V) (E : am_E) (u : am_M) (hE : SE E), Rn m_T_letterHere 16 [l0] (vR (some 138) :: st) E u = Rn m_T_letterHere 19 [l0] (vI (u 138 2) :: st) E u) ∧
  (∀ (l0 : am_V) (a0 : Option Nat) (a1 : Int) (E : am_E) (u : am_M), Rn m_T_letterHere 19 [l0] [vI a1, vR a0] E u = bdI (Rn m_A_look 0 [vR a0, vI a1] [] E u) (KI m_T_letterHere 22 [l0] [])) ∧
  (∀ (l0 : am_V) (st : List am_V) (E : am_E) (u : am_M), Rn m_T_letterHere 22 [l0] st E u = Rn m_T_letterHere 26 [l0] st E u) ∧
  (∀ (l0 : am_V) (st : List am_V) (E : am_E) (u : am_M), Rn m_T_letterHere 25 [l0] st E u = Rn m_T_letterHere 26 [l0] (vI (-1) :: st) E u) ∧
  (∀ (l0 : am_V) (a : Int) (E : am_E) (u : am_M), Rn m_T_letterHere 26 [l0] [vI a] E u = some (some (vI a), E, u)) :=
  ⟨fun a st E u => q_go (by decide +kernel : am_Pg 72 0 = some (.aload_n 0, 1, [], 0)) rfl,
  fun l0 st E u hE => q_gfI (by decide +kernel : am_Pg 72 1 = some (.getfield 23, 3, [3, 3, 2, 0], 0)) (SE_k3 hE) (by decide),
  fun a st E u => q_go (by decide +kernel : am_Pg 72 4 = some (.aload_n 0, 1, [], 0)) rfl,
  fun l0 st E u hE => q_gfI (by decide +kernel : am_Pg 72 5 = some (.getfield 15, 3, [3, 3, 1, 0], 0)) (SE_k3 hE) (by decide),
  fun l0 a b st E u => q_icmp_ge (tgt := 25) (by decide +kernel : am_Pg 72 8 = some (.if_icmp .ge 17, 3, [], 0)) (by decide),
  fun a st E u => q_go (by decide +kernel : am_Pg 72 11 = some (.aload_n 0, 1, [], 0)) rfl,
  fun l0 st E u hE => q_gfR (by decide +kernel : am_Pg 72 12 = some (.getfield 9, 3, [3, 3, 0, 0], 0)) (SE_k3 hE) rfl (SE_r3_0 hE),
  fun a st E u => q_go (by decide +kernel : am_Pg 72 15 = some (.aload_n 0, 1, [], 0)) rfl,
  fun l0 st E u hE => q_gfI (by decide +kernel : am_Pg 72 16 = some (.getfield 23, 3, [3, 3, 2, 0], 0)) (SE_k3 hE) (by decide),
  fun l0 a0 a1  E u => q_cI (by decide +kernel : am_Pg 72 19 = some (.invokestatic 95, 3, [2, 36, 2, 1], 0)) (am_call_S (f := fun _ _ => true) (a := [vR a0, vI a1]) (st' := []) (Nat.le_of_ble_eq_true rfl) rfl rfl) (by decide +kernel : am_Lm m_A_look = 2) (Nat.le_of_ble_eq_true rfl) rfl (by decide +kernel),
  fun l0 st E u => q_go (by decide +kernel : am_Pg 72 22 = some (.goto 4, 3, [], 0)) rfl,
  fun l0 st E u => q_go (by decide +kernel : am_Pg 72 25 = some (.iconst (-1), 1, [], 0)) rfl,
  fun l0 a E u => q_ret (by decide +kernel : am_Pg 72 26 = some (.ireturn, 1, [], 0)) rfl⟩
theorem h_T_number_28 : ∀ (l0 l1 l2 l3 l4 : am_V) (a : Int) (st : List am_V) (E : am_E) (u : am_M), Rn m_T_number 28 [l0, l1, l2, l3, l4, vI a] st E u = Rn m_T_number 30 [l0, l1, l2, l3, l4, vI a] (vI a :: st) E u :=
  fun l0 l1 l2 l3 l4 a st E u => q_go (by decide +kernel : am_Pg 73 28 = some (.iload 5, 2, [], 0)) rfl
theorem x_T_number :
  (∀ (l1 l2 l3 l4 l5 : am_V) (a : Option Nat) (st : List am_V) (E : am_E) (u : am_M), Rn m_T_number 0 [vR a, l1, l2, l3, l4, l5] st E u = Rn m_T_number 1 [vR a, l1, l2, l3, l4, l5] (vR a :: st) E u) ∧
  (∀ (l0 l1 l2 l3 l4 l5 : am_V) (E : am_E) (u : am_M) (hE : SE E), Rn m_T_number 1 [l0, l1, l2, l3, l4, l5] [vR (some 138)] E u = bdI (Rn m_T_next 0 [vR (some 138), vB false] [] E u) (KI m_T_number 4 [l0, l1, l2, l3, l4, l5] [])) ∧
  (∀ (l0 l1 l2 l3 l4 l5 : am_V) (st : List am_V) (E : am_E) (u : am_M), Rn m_T_number 4 [l0, l1, l2, l3, l4, l5] st E u = Rn m_T_number 6 [l0, l1, l2, l3, l4, l5] (vI 48 :: st) E u) ∧
  (∀ (l0 l1 l2 l3 l4 l5 : am_V) (st : List am_V) (E : am_E) (u : am_M), Rn m_T_number 6 [l0, l1, l2, l3, l4, l5] st E u = Rn m_T_number 8 [l0, l1, l2, l3, l4, l5] (vI 57 :: st) E u) ∧
  (∀ (l0 l1 l2 l3 l4 l5 : am_V) (a0 : Int) (a1 : Int) (a2 : Int) (E : am_E) (u : am_M), Rn m_T_number 8 [l0, l1, l2, l3, l4, l5] [vI a2, vI a1, vI a0] E u = bdI (Rn m_A_isIn 0 [vI a0, vI a1, vI a2] [] E u) (KI m_T_number 11 [l0, l1, l2, l3, l4, l5] [])) ∧
  (∀ (l0 l1 l2 l3 l4 l5 : am_V) (a : Int) (st : List am_V) (E : am_E) (u : am_M), Rn m_T_number 11 [l0, l1, l2, l3, l4, l5] (vI a :: st) E u = if a = 0 then Rn m_T_number 14 [l0, l1, l2, l3, l4, l5] st E u else Rn m_T_number 17 [l0, l1, l2, l3, l4, l5] st E u) ∧
  (∀ (l0 l1 l2 l3 l4 l5 : am_V) (st : List am_V) (E : am_E) (u : am_M), Rn m_T_number 14 [l0, l1, l2, l3, l4, l5] st E u = Rn m_T_number 16 [l0, l1, l2, l3, l4, l5] (vI (-4) :: st) E u) ∧
  (∀ (l0 l1 l2 l3 l4 l5 : am_V) (a : Int) (E : am_E) (u : am_M), Rn m_T_number 16 [l0, l1, l2, l3, l4, l5] [vI a] E u = some (some (vI a), E, u)) ∧
  (∀ (l1 l2 l3 l4 l5 : am_V) (a : Option Nat) (st : List am_V) (E : am_E) (u : am_M), Rn m_T_number 17 [vR a, l1, l2, l3, l4, l5] st E u = Rn m_T_number 18 [vR a, l1, l2, l3, l4, l5] (vR a :: st) E u) ∧
  (∀ (l0 l1 l2 l3 l4 l5 : am_V) (st : List am_V) (E : am_E) (u : am_M) (hE : SE E), Rn m_T_number 18 [l0, l1, l2, l3, l4, l5] (vR (some 138) :: st) E u = Rn m_T_number 21 [l0, l1, l2, l3, l4, l5] (vI (u 138 2) :: st) E u) ∧
  (∀ (l0 l1 l2 l3 l4 l5 : am_V) (a : Int) (st : List am_V) (E : am_E) (u : am_M), Rn m_T_number 21 [l0, l1, l2, l3, l4, l5] (vI a :: st) E u = Rn m_T_number 22 [l0, l1, am_fx l2, vI a, l4, l5] st E u) ∧
  (∀ (l0 l1 l2 l3 l4 l5 : am_V) (st : List am_V) (E : am_E) (u : am_M), Rn m_T_number 22 [l0, l1, l2, l3, l4, l5] st E u = Rn m_T_number 23 [l0, l1, l2, l3, l4, l5] (vI 0 :: st) E u) ∧
  (∀ (l0 l1 l2 l3 l4 l5 : am_V) (a : Int) (st : List am_V) (E : am_E) (u : am_M), Rn m_T_number 23 [l0, l1, l2, l3, l4, l5] (vI a :: st) E u = Rn m_T_number 25 [l0, l1, l2, am_fx l3, vI a, l5] st E u) ∧
  (∀ (l0 l1 l2 l3 l4 l5 : am_V) (st : List am_V) (E : am_E) (u : am_M), Rn m_T_number 25 [l0, l1, l2, l3, l4, l5] st E u = Rn m_T_number 26 [l0, l1, l2, l3, l4, l5] (vI 0 :: st) E u) ∧
  (∀ (l0 l1 l2 l3 l4 l5 : am_V) (a : Int) (st : List am_V) (E : am_E) (u : am_M), Rn m_T_number 26 [l0, l1, l2, l3, l4, l5] (vI a :: st) E u = Rn m_T_number 28 [l0, l1, l2, l3, am_fx l4, vI a] st E u) ∧
  (∀ (l0 l1 l2 l3 l4 l5 : am_V) (st : List am_V) (E : am_E) (u : am_M), Rn m_T_number 30 [l0, l1, l2, l3, l4, l5] st E u = Rn m_T_number 31 [l0, l1, l2, l3, l4, l5] (vI 2 :: st) E u) ∧
  (∀ (l0 l1 l2 l3 l4 l5 : am_V) (a b : Int) (st : List am_V) (E : am_E) (u : am_M), Rn m_T_number 31 [l0, l1, l2, l3, l4, l5] (vI b :: vI a :: st) E u = if a < b then Rn m_T_number 34 [l0, l1, l2, l3, l4, l5] st E u else Rn m_T_number 79 [l0, l1, l2, l3, l4, l5] st E u) ∧
  (∀ (l1 l2 l3 l4 l5 : am_V) (a : Option Nat) (st : List am_V) (E : am_E) (u : am_M), Rn m_T_number 34 [vR a, l1, l2, l3, l4, l5] st E u = Rn m_T_number 35 [vR a, l1, l2, l3, l4, l5] (vR a :: st) E u) ∧
  (∀ (l0 l1 l2 l3 l4 l5 : am_V) (E : am_E) (u : am_M) (hE : SE E), Rn m_T_number 35 [l0, l1, l2, l3, l4, l5] [vR (some 138)] E u = bdI (Rn m_T_letterHere 0 [vR (some 138)] [] E u) (KI m_T_number 38 [l0, l1, l2, l3, l4, l5] [])) ∧
  (∀ (l0 l1 l2 l3 l4 l5 : am_V) (st : List am_V) (E : am_E) (u : am_M), Rn m_T_number 38 [l0, l1, l2, l3, l4, l5] st E u = Rn m_T_number 40 [l0, l1, l2, l3, l4, l5] (vI 48 :: st) E u) ∧
  (∀ (l0 l1 l2 l3 l4 l5 : am_V) (st : List am_V) (E : am_E) (u : am_M), Rn m_T_number 40 [l0, l1, l2, l3, l4, l5] st E u = Rn m_T_number 42 [l0, l1, l2, l3, l4, l5] (vI 57 :: st) E u) ∧
  (∀ (l0 l1 l2 l3 l4 l5 : am_V) (a0 : Int) (a1 : Int) (a2 : Int) (E : am_E) (u : am_M), Rn m_T_number 42 [l0, l1, l2, l3, l4, l5] [vI a2, vI a1, vI a0] E u = bdI (Rn m_A_isIn 0 [vI a0, vI a1, vI a2] [] E u) (KI m_T_number 45 [l0, l1, l2, l3, l4, l5] [])) ∧
  (∀ (l0 l1 l2 l3 l4 l5 : am_V) (a : Int) (st : List am_V) (E : am_E) (u : am_M), Rn m_T_number 45 [l0, l1, l2, l3, l4, l5] (vI a :: st) E u = if a = 0 then Rn m_T_number 79 [l0, l1, l2, l3, l4, l5] st E u else Rn m_T_number 48 [l0, l1, l2, l3, l4, l5] st E u) ∧
  (∀ (l0 l1 l2 l3 l5 : am_V) (a : Int) (st : List am_V) (E : am_E) (u : am_M), Rn m_T_number 48 [l0, l1, l2, l3, vI a, l5] st E u = Rn m_T_number 50 [l0, l1, l2, l3, vI a, l5] (vI a :: st) E u) ∧
  (∀ (l0 l1 l2 l3 l4 l5 : am_V) (st : List am_V) (E : am_E) (u : am_M), Rn m_T_number 50 [l0, l1, l2, l3, l4, l5] st E u = Rn m_T_number 52 [l0, l1, l2, l3, l4, l5] (vI 10 :: st) E u) ∧
  (∀ (l0 l1 l2 l3 l4 l5 : am_V) (a b : Int) (st : List am_V) (E : am_E) (u : am_M), Rn m_T_number 52 [l0, l1, l2, l3, l4, l5] (vI b :: vI a :: st) E u = Rn m_T_number 53 [l0, l1, l2, l3, l4, l5] (vI (w32 (a * b)) :: st) E u) ∧
  (∀ (l1 l2 l3 l4 l5 : am_V) (a : Option Nat) (st : List am_V) (E : am_E) (u : am_M), Rn m_T_number 53 [vR a, l1, l2, l3, l4, l5] st E u = Rn m_T_number 54 [vR a, l1, l2, l3, l4, l5] (vR a :: st) E u) ∧
  (∀ (l0 l1 l2 l3 l4 l5 : am_V) (r0 : am_V) (E : am_E) (u : am_M) (hE : SE E), Rn m_T_number 54 [l0, l1, l2, l3, l4, l5] [vR (some 138), r0] E u = bdI (Rn m_T_letterHere 0 [vR (some 138)] [] E u) (KI m_T_number 57 [l0, l1, l2, l3, l4, l5] [r0])) ∧
  (∀ (l0 l1 l2 l3 l4 l5 : am_V) (a b : Int) (st : List am_V) (E : am_E) (u : am_M), Rn m_T_number 57 [l0, l1, l2, l3, l4, l5] (vI b :: vI a :: st) E u = Rn m_T_number 58 [l0, l1, l2, l3, l4, l5] (vI (w32 (a + b)) :: st) E u) ∧
  (∀ (l0 l1 l2 l3 l4 l5 : am_V) (st : List am_V) (E : am_E) (u : am_M), Rn m_T_number 58 [l0, l1, l2, l3, l4, l5] st E u = Rn m_T_number 60 [l0, l1, l2, l3, l4, l5] (vI 48 :: st) E u) ∧
  (∀ (l0 l1 l2 l3 l4 l5 : am_V) (a b : Int) (st : List am_V) (E : am_E) (u : am_M), Rn m_T_number 60 [l0, l1, l2, l3, l4, l5] (vI b :: vI a :: st) E u = Rn m_T_number 61 [l0, l1, l2, l3, l4, l5] (vI (w32 (a - b)) :: st) E u) ∧
  (∀ (l0 l1 l2 l3 l4 l5 : am_V) (a : Int) (st : List am_V) (E : am_E) (u : am_M), Rn m_T_number 61 [l0, l1, l2, l3, l4, l5] (vI a :: st) E u = Rn m_T_number 63 [l0, l1, l2, am_fx l3, vI a, l5] st E u) ∧
  (∀ (l1 l2 l3 l4 l5 : am_V) (a : Option Nat) (st : List am_V) (E : am_E) (u : am_M), Rn m_T_number 63 [vR a, l1, l2, l3, l4, l5] st E u = Rn m_T_number 64 [vR a, l1, l2, l3, l4, l5] (vR a :: st) E u) ∧
  (∀ (l0 l1 l2 l3 l4 l5 : am_V) (a : Int) (st : List am_V) (E : am_E) (u : am_M), Rn m_T_number 64 [l0, l1, l2, l3, l4, l5] (vI a :: st) E u = Rn m_T_number 65 [l0, l1, l2, l3, l4, l5] (vI a :: vI a :: st) E u) ∧
  (∀ (l0 l1 l2 l3 l4 l5 : am_V) (a : Option Nat) (st : List am_V) (E : am_E) (u : am_M), Rn m_T_number 64 [l0, l1, l2, l3, l4, l5] (vR a :: st) E u = Rn m_T_number 65 [l0, l1, l2, l3, l4, l5] (vR a :: vR a :: st) E u) ∧
  (∀ (l0 l1 l2 l3 l4 l5 : am_V) (st : List am_V) (E : am_E) (u : am_M) (hE : SE E), Rn m_T_number 65 [l0, l1, l2, l3, l4, l5] (vR (some 138) :: st) E u = Rn m_T_number 68 [l0, l1, l2, l3, l4, l5] (vI (u 138 2) :: st) E u) ∧
  (∀ (l0 l1 l2 l3 l4 l5 : am_V) (st : List am_V) (E : am_E) (u : am_M), Rn m_T_number 68 [l0, l1, l2, l3, l4, l5] st E u = Rn m_T_number 69 [l0, l1, l2, l3, l4, l5] (vI 1 :: st) E u) ∧
  (∀ (l0 l1 l2 l3 l4 l5 : am_V) (a b : Int) (st : List am_V) (E : am_E) (u : am_M), Rn m_T_number 69 [l0, l1, l2, l3, l4, l5] (vI b :: vI a :: st) E u = Rn m_T_number 70 [l0, l1, l2, l3, l4, l5] (vI (w32 (a + b)) :: st) E u) ∧
  (∀ (l0 l1 l2 l3 l4 l5 : am_V) (a : Int) (st : List am_V) (E : am_E) (u : am_M) (hE : SE E), Rn m_T_number 70 [l0, l1, l2, l3, l4, l5] (vI a :: vR (some 138) :: st) E u = Rn m_T_number 73 [l0, l1, l2, l3, l4, l5] st E (am_up u 138 2 a)) ∧
  (∀ (l0 l1 l2 l3 l4 : am_V) (a : Int) (st : List am_V) (E : am_E) (u : am_M), Rn m_T_number 73 [l0, l1, l2, l3, l4, vI a] st E u = Rn m_T_number 76 [l0, l1, l2, l3, am_fx l4, vI (w32 (a + 1))] st E u) ∧
  (∀ (l0 l1 l2 l3 l4 l5 : am_V) (st : List am_V) (E : am_E) (u : am_M), Rn m_T_number 76 [l0, l1, l2, l3, l4, l5] st E u = Rn m_T_number 28 [l0, l1, l2, l3, l4, l5] st E u) ∧
  (∀ (l0 l1 l2 l3 l5 : am_V) (a : Int) (st : List am_V) (E : am_E) (u : am_M), Rn m_T_number 79 [l0, l1, l2, l3, vI a, l5] st E u = Rn m_T_number 81 [l0, l1, l2, l3, vI a, l5] (vI a :: st) E u) ∧
  (∀ (l0 l2 l3 l4 l5 : am_V) (a : Int) (st : List am_V) (E : am_E) (u : am_M), Rn m_T_number 81 [l0, vI a, l2, l3, l4, l5] st E u = Rn m_T_number 82 [l0, vI a, l2, l3, l4, l5] (vI a :: st) E u) ∧
  (∀ (l0 l1 l3 l4 l5 : am_V) (a : Int) (st : List am_V) (E : am_E) (u : am_M), Rn m_T_number 82 [l0, l1, vI a, l3, l4, l5] st E u = Rn m_T_number 83 [l0, l1, vI a, l3, l4, l5] (vI a :: st) E u) ∧
  (∀ (l0 l1 l2 l3 l4 l5 : am_V) (a0 : Int) (a1 : Int) (a2 : Int) (E : am_E) (u : am_M), Rn m_T_number 83 [l0, l1, l2, l3, l4, l5] [vI a2, vI a1, vI a0] E u = bdI (Rn m_A_isIn 0 [vI a0, vI a1, vI a2] [] E u) (KI m_T_number 86 [l0, l1, l2, l3, l4, l5] [])) ∧
  (∀ (l0 l1 l2 l3 l4 l5 : am_V) (a : Int) (st : List am_V) (E : am_E) (u : am_M), Rn m_T_number 86 [l0, l1, l2, l3, l4, l5] (vI a :: st) E u = if a = 0 then Rn m_T_number 89 [l0, l1, l2, l3, l4, l5] st E u else Rn m_T_number 97 [l0, l1, l2, l3, l4, l5] st E u) ∧
  (∀ (l1 l2 l3 l4 l5 : am_V) (a : Option Nat) (st : List am_V) (E : am_E) (u : am_M), Rn m_T_number 89 [vR a, l1, l2, l3, l4, l5] st E u = Rn m_T_number 90 [vR a, l1, l2, l3, l4, l5] (vR a :: st) E u) ∧
  (∀ (l0 l1 l2 l4 l5 : am_V) (a : Int) (st : List am_V) (E : am_E) (u : am_M), Rn m_T_number 90 [l0, l1, l2, vI a, l4, l5] st E u = Rn m_T_number 91 [l0, l1, l2, vI a, l4, l5] (vI a :: st) E u) ∧
  (∀ (l0 l1 l2 l3 l4 l5 : am_V) (a : Int) (st : List am_V) (E : am_E) (u : am_M) (hE : SE E), Rn m_T_number 91 [l0, l1, l2, l3, l4, l5] (vI a :: vR (some 138) :: st) E u = Rn m_T_number 94 [l0, l1, l2, l3, l4, l5] st E (am_up u 138 2 a)) ∧
  (∀ (l0 l1 l2 l3 l4 l5 : am_V) (st : List am_V) (E : am_E) (u : am_M), Rn m_T_number 94 [l0, l1, l2, l3, l4, l5] st E u = Rn m_T_number 96 [l0, l1, l2, l3, l4, l5] (vI (-4) :: st) E u) ∧
  (∀ (l0 l1 l2 l3 l4 l5 : am_V) (a : Int) (E : am_E) (u : am_M), Rn m_T_number 96 [l0, l1, l2, l3, l4, l5] [vI a] E u = some (some (vI a), E, u)) ∧
  (∀ (l0 l1 l2 l3 l5 : am_V) (a : Int) (st : List am_V) (E : am_E) (u : am_M), Rn m_T_number 97 [l0, l1, l2, l3, vI a, l5] st E u = Rn m_T_number 99 [l0, l1, l2, l3, vI a, l5] (vI a :: st) E u) ∧
  (∀ (l0 l1 l2 l3 l4 l5 : am_V) (a : Int) (E : am_E) (u : am_M), Rn m_T_number 99 [l0, l1, l2, l3, l4, l5] [vI a] E u = some (some (vI a), E, u)) :=
  ⟨fun l1 l2 l3 l4 l5 a st E u => q_go (by decide +kernel : am_Pg 73 0 = some (.aload_n 0, 1, [], 0)) rfl,
  fun l0 l1 l2 l3 l4 l5   E u hE => q_cI (by decide +kernel : am_Pg 73 1 = some (.invokevirtual 40, 3, [3, 64, 1, 3, 3, 0], 0)) (am_call_V (a := []) (st' := []) (Nat.le_of_ble_eq_true rfl) rfl (SE_k3 hE)) (by decide +kernel : am_Lm m_T_next = 2) (Nat.le_of_ble_eq_true rfl) rfl (by decide +kernel),
  fun l0 l1 l2 l3 l4 l5 st E u => q_go (by decide +kernel : am_Pg 73 4 = some (.bipush 48, 2, [], 0)) rfl,
  fun l0 l1 l2 l3 l4 l5 st E u => q_go (by decide +kernel : am_Pg 73 6 = some (.bipush 57, 2, [], 0)) rfl,
  fun l0 l1 l2 l3 l4 l5 a0 a1 a2  E u => q_cI (by decide +kernel : am_Pg 73 8 = some (.invokestatic 99, 3, [2, 8, 3, 1], 0)) (am_call_S (f := fun _ _ => true) (a := [vI a0, vI a1, vI a2]) (st' := []) (Nat.le_of_ble_eq_true rfl) rfl rfl) (by decide +kernel : am_Lm m_A_isIn = 3) (Nat.le_of_ble_eq_true rfl) rfl (by decide +kernel),
  fun l0 l1 l2 l3 l4 l5 a st E u => q_if_ne (tgt := 17) (by decide +kernel : am_Pg 73 11 = some (.ifCond .ne 6, 3, [], 0)) (by decide),
  fun l0 l1 l2 l3 l4 l5 st E u => q_go (by decide +kernel : am_Pg 73 14 = some (.bipush (-4), 2, [], 0)) rfl,
  fun l0 l1 l2 l3 l4 l5 a E u => q_ret (by decide +kernel : am_Pg 73 16 = some (.ireturn, 1, [], 0)) rfl,
  fun l1 l2 l3 l4 l5 a st E u => q_go (by decide +kernel : am_Pg 73 17 = some (.aload_n 0, 1, [], 0)) rfl,
  fun l0 l1 l2 l3 l4 l5 st E u hE => q_gfI (by decide +kernel : am_Pg 73 18 = some (.getfield 23, 3, [3, 3, 2, 0], 0)) (SE_k3 hE) (by decide),
  fun l0 l1 l2 l3 l4 l5 a st E u => q_go (by decide +kernel : am_Pg 73 21 = some (.istore_n 3, 1, [], 0)) rfl,
  fun l0 l1 l2 l3 l4 l5 st E u => q_go (by decide +kernel : am_Pg 73 22 = some (.iconst 0, 1, [], 0)) rfl,
  fun l0 l1 l2 l3 l4 l5 a st E u => q_go (by decide +kernel : am_Pg 73 23 = some (.istore 4, 2, [], 0)) rfl,
  fun l0 l1 l2 l3 l4 l5 st E u => q_go (by decide +kernel : am_Pg 73 25 = some (.iconst 0, 1, [], 0)) rfl,
  fun l0 l1 l2 l3 l4 l5 a st E u => q_go (by decide +kernel : am_Pg 73 26 = some (.istore 5, 2, [], 0)) rfl,
  fun l0 l1 l2 l3 l4 l5 st E u => q_go (by decide +kernel : am_Pg 73 30 = some (.iconst 2, 1, [], 0)) rfl,
  fun l0 l1 l2 l3 l4 l5 a b st E u => q_icmp_ge (tgt := 79) (by decide +kernel : am_Pg 73 31 = some (.if_icmp .ge 48, 3, [], 0)) (by decide),
  fun l1 l2 l3 l4 l5 a st E u => q_go (by decide +kernel : am_Pg 73 34 = some (.aload_n 0, 1, [], 0)) rfl,
  fun l0 l1 l2 l3 l4 l5   E u hE => q_cI (by decide +kernel : am_Pg 73 35 = some (.invokevirtual 103, 3, [3, 72, 1, 3, 3, 0], 0)) (am_call_V (a := []) (st' := []) (Nat.le_of_ble_eq_true rfl) rfl (SE_k3 hE)) (by decide +kernel : am_Lm m_T_letterHere = 1) (Nat.le_of_ble_eq_true rfl) rfl (by decide +kernel),
  fun l0 l1 l2 l3 l4 l5 st E u => q_go (by decide +kernel : am_Pg 73 38 = some (.bipush 48, 2, [], 0)) rfl,
  fun l0 l1 l2 l3 l4 l5 st E u => q_go (by decide +kernel : am_Pg 73 40 = some (.bipush 57, 2, [], 0)) rfl,
  fun l0 l1 l2 l3 l4 l5 a0 a1 a2  E u => q_cI (by decide +kernel : am_Pg 73 42 = some (.invokestatic 99, 3, [2, 8, 3, 1], 0)) (am_call_S (f := fun _ _ => true) (a := [vI a0, vI a1, vI a2]) (st' := []) (Nat.le_of_ble_eq_true rfl) rfl rfl) (by decide +kernel : am_Lm m_A_isIn = 3) (Nat.le_of_ble_eq_true rfl) rfl (by decide +kernel),
  fun l0 l1 l2 l3 l4 l5 a st E u => q_if_eq (tgt := 79) (by decide +kernel : am_Pg 73 45 = some (.ifCond .eq 34, 3, [], 0)) (by decide),
  fun l0 l1 l2 l3 l5 a st E u => q_go (by decide +kernel : am_Pg 73 48 = some (.iload 4, 2, [], 0)) rfl,
  fun l0 l1 l2 l3 l4 l5 st E u => q_go (by decide +kernel : am_Pg 73 50 = some (.bipush 10, 2, [], 0)) rfl,
  fun l0 l1 l2 l3 l4 l5 a b st E u => q_go (by decide +kernel : am_Pg 73 52 = some (.imul, 1, [], 0)) rfl,
  fun l1 l2 l3 l4 l5 a st E u => q_go (by decide +kernel : am_Pg 73 53 = some (.aload_n 0, 1, [], 0)) rfl,
  fun l0 l1 l2 l3 l4 l5  r0 E u hE => q_cI (by decide +kernel : am_Pg 73 54 = some (.invokevirtual 103, 3, [3, 72, 1, 3, 3, 0], 0)) (am_call_V (a := []) (st' := [r0]) (Nat.le_of_ble_eq_true rfl) rfl (SE_k3 hE)) (by decide +kernel : am_Lm m_T_letterHere = 1) (Nat.le_of_ble_eq_true rfl) rfl (by decide +kernel),
  fun l0 l1 l2 l3 l4 l5 a b st E u => q_go (by decide +kernel : am_Pg 73 57 = some (.iadd, 1, [], 0)) rfl,
  fun l0 l1 l2 l3 l4 l5 st E u => q_go (by decide +kernel : am_Pg 73 58 = some (.bipush 48, 2, [], 0)) rfl,
  fun l0 l1 l2 l3 l4 l5 a b st E u => q_go (by decide +kernel : am_Pg 73 60 = some (.isub, 1, [], 0)) rfl,
  fun l0 l1 l2 l3 l4 l5 a st E u => q_go (by decide +kernel : am_Pg 73 61 = some (.istore 4, 2, [], 0)) rfl,
  fun l1 l2 l3 l4 l5 a st E u => q_go (by decide +kernel : am_Pg 73 63 = some (.aload_n 0, 1, [], 0)) rfl,
  fun l0 l1 l2 l3 l4 l5 a st E u => q_go (by decide +kernel : am_Pg 73 64 = some (.dup, 1, [], 0)) rfl,
  fun l0 l1 l2 l3 l4 l5 a st E u => q_go (by decide +kernel : am_Pg 73 64 = some (.dup, 1, [], 0)) rfl,
  fun l0 l1 l2 l3 l4 l5 st E u hE => q_gfI (by decide +kernel : am_Pg 73 65 = some (.getfield 23, 3, [3, 3, 2, 0], 0)) (SE_k3 hE) (by decide),
  fun l0 l1 l2 l3 l4 l5 st E u => q_go (by decide +kernel : am_Pg 73 68 = some (.iconst 1, 1, [], 0)) rfl,
  fun l0 l1 l2 l3 l4 l5 a b st E u => q_go (by decide +kernel : am_Pg 73 69 = some (.iadd, 1, [], 0)) rfl,
  fun l0 l1 l2 l3 l4 l5 a st E u hE => q_pfI (by decide +kernel : am_Pg 73 70 = some (.putfield 23, 3, [3, 3, 2, 0], 0)) (SE_k3 hE) rfl,
  fun l0 l1 l2 l3 l4 a st E u => q_go (by decide +kernel : am_Pg 73 73 = some (.iinc 5 1, 3, [], 0)) rfl,
  fun l0 l1 l2 l3 l4 l5 st E u => q_go (by decide +kernel : am_Pg 73 76 = some (.goto (-48), 3, [], 0)) rfl,
  fun l0 l1 l2 l3 l5 a st E u => q_go (by decide +kernel : am_Pg 73 79 = some (.iload 4, 2, [], 0)) rfl,
  fun l0 l2 l3 l4 l5 a st E u => q_go (by decide +kernel : am_Pg 73 81 = some (.iload_n 1, 1, [], 0)) rfl,
  fun l0 l1 l3 l4 l5 a st E u => q_go (by decide +kernel : am_Pg 73 82 = some (.iload_n 2, 1, [], 0)) rfl,
  fun l0 l1 l2 l3 l4 l5 a0 a1 a2  E u => q_cI (by decide +kernel : am_Pg 73 83 = some (.invokestatic 99, 3, [2, 8, 3, 1], 0)) (am_call_S (f := fun _ _ => true) (a := [vI a0, vI a1, vI a2]) (st' := []) (Nat.le_of_ble_eq_true rfl) rfl rfl) (by decide +kernel : am_Lm m_A_isIn = 3) (Nat.le_of_ble_eq_true rfl) rfl (by decide +kernel),
  fun l0 l1 l2 l3 l4 l5 a st E u => q_if_ne (tgt := 97) (by decide +kernel : am_Pg 73 86 = some (.ifCond .ne 11, 3, [], 0)) (by decide),
  fun l1 l2 l3 l4 l5 a st E u => q_go (by decide +kernel : am_Pg 73 89 = some (.aload_n 0, 1, [], 0)) rfl,
  fun l0 l1 l2 l4 l5 a st E u => q_go (by decide +kernel : am_Pg 73 90 = some (.iload_n 3, 1, [], 0)) rfl,
  fun l0 l1 l2 l3 l4 l5 a st E u hE => q_pfI (by decide +kernel : am_Pg 73 91 = some (.putfield 23, 3, [3, 3, 2, 0], 0)) (SE_k3 hE) rfl,
  fun l0 l1 l2 l3 l4 l5 st E u => q_go (by decide +kernel : am_Pg 73 94 = some (.bipush (-4), 2, [], 0)) rfl,
  fun l0 l1 l2 l3 l4 l5 a E u => q_ret (by decide +kernel : am_Pg 73 96 = some (.ireturn, 1, [], 0)) rfl,
  fun l0 l1 l2 l3 l5 a st E u => q_go (by decide +kernel : am_Pg 73 97 = some (.iload 4, 2, [], 0)) rfl,
  fun l0 l1 l2 l3 l4 l5 a E u => q_ret (by decide +kernel : am_Pg 73 99 = some (.ireturn, 1, [], 0)) rfl⟩
theorem x_T_tellsThread :
  (∀ (l0 l2 l3 l4 : am_V) (a : Option Nat) (st : List am_V) (E : am_E) (u : am_M), Rn m_T_tellsThread 0 [l0, vR a, l2, l3, l4] st E u = Rn m_T_tellsThread 1 [l0, vR a, l2, l3, l4] (vR a :: st) E u) ∧
  (∀ (l0 l1 l2 l3 l4 : am_V) (k : Nat) (st : List am_V) (E : am_E) (u : am_M) (hE : SE E) (hk : cuB k), Rn m_T_tellsThread 1 [l0, l1, l2, l3, l4] (vR (some k) :: st) E u = Rn m_T_tellsThread 4 [l0, l1, l2, l3, l4] (vI (u k 3) :: st) E u) ∧
  (∀ (l0 l1 l2 l3 l4 : am_V) (st : List am_V) (E : am_E) (u : am_M), Rn m_T_tellsThread 4 [l0, l1, l2, l3, l4] st E u = Rn m_T_tellsThread 6 [l0, l1, l2, l3, l4] (vI 6 :: st) E u) ∧
  (∀ (l0 l1 l2 l3 l4 : am_V) (a b : Int) (st : List am_V) (E : am_E) (u : am_M), Rn m_T_tellsThread 6 [l0, l1, l2, l3, l4] (vI b :: vI a :: st) E u = if a < b then Rn m_T_tellsThread 11 [l0, l1, l2, l3, l4] st E u else Rn m_T_tellsThread 9 [l0, l1, l2, l3, l4] st E u) ∧
  (∀ (l0 l1 l2 l3 l4 : am_V) (st : List am_V) (E : am_E) (u : am_M), Rn m_T_tellsThread 9 [l0, l1, l2, l3, l4] st E u = Rn m_T_tellsThread 10 [l0, l1, l2, l3, l4] (vI 0 :: st) E u) ∧
  (∀ (l0 l1 l2 l3 l4 : am_V) (b : Bool) (E : am_E) (u : am_M), Rn m_T_tellsThread 10 [l0, l1, l2, l3, l4] [vI (bI b)] E u = some (some (vI (bI b)), E, u)) ∧
  (∀ (l0 l1 l2 l3 l4 : am_V) (E : am_E) (u : am_M), Rn m_T_tellsThread 10 [l0, l1, l2, l3, l4] [vI 1] E u = some (some (vI 1), E, u)) ∧
  (∀ (l0 l1 l2 l3 l4 : am_V) (E : am_E) (u : am_M), Rn m_T_tellsThread 10 [l0, l1, l2, l3, l4] [vI 0] E u = some (some (vI 0), E, u)) ∧
  (∀ (l1 l2 l3 l4 : am_V) (a : Option Nat) (st : List am_V) (E : am_E) (u : am_M), Rn m_T_tellsThread 11 [vR a, l1, l2, l3, l4] st E u = Rn m_T_tellsThread 12 [vR a, l1, l2, l3, l4] (vR a :: st) E u) ∧
  (∀ (l0 l1 l2 l3 l4 : am_V) (a : Int) (st : List am_V) (E : am_E) (u : am_M), Rn m_T_tellsThread 12 [l0, l1, l2, l3, l4] (vI a :: st) E u = Rn m_T_tellsThread 13 [l0, l1, l2, l3, l4] (vI a :: vI a :: st) E u) ∧
  (∀ (l0 l1 l2 l3 l4 : am_V) (a : Option Nat) (st : List am_V) (E : am_E) (u : am_M), Rn m_T_tellsThread 12 [l0, l1, l2, l3, l4] (vR a :: st) E u = Rn m_T_tellsThread 13 [l0, l1, l2, l3, l4] (vR a :: vR a :: st) E u) ∧
  (∀ (l0 l1 l2 l3 l4 : am_V) (st : List am_V) (E : am_E) (u : am_M) (hE : SE E), Rn m_T_tellsThread 13 [l0, l1, l2, l3, l4] (vR (some 138) :: st) E u = Rn m_T_tellsThread 16 [l0, l1, l2, l3, l4] (vI (u 138 2) :: st) E u) ∧
  (∀ (l0 l1 l2 l3 l4 : am_V) (st : List am_V) (E : am_E) (u : am_M), Rn m_T_tellsThread 16 [l0, l1, l2, l3, l4] st E u = Rn m_T_tellsThread 17 [l0, l1, l2, l3, l4] (vI 1 :: st) E u) ∧
  (∀ (l0 l1 l2 l3 l4 : am_V) (a b : Int) (st : List am_V) (E : am_E) (u : am_M), Rn m_T_tellsThread 17 [l0, l1, l2, l3, l4] (vI b :: vI a :: st) E u = Rn m_T_tellsThread 18 [l0, l1, l2, l3, l4] (vI (w32 (a + b)) :: st) E u) ∧
  (∀ (l0 l1 l2 l3 l4 : am_V) (a : Int) (st : List am_V) (E : am_E) (u : am_M) (hE : SE E), Rn m_T_tellsThread 18 [l0, l1, l2, l3, l4] (vI a :: vR (some 138) :: st) E u = Rn m_T_tellsThread 21 [l0, l1, l2, l3, l4] st E (am_up u 138 2 a)) ∧
  (∀ (l1 l2 l3 l4 : am_V) (a : Option Nat) (st : List am_V) (E : am_E) (u : am_M), Rn m_T_tellsThread 21 [vR a, l1, l2, l3, l4] st E u = Rn m_T_tellsThread 22 [vR a, l1, l2, l3, l4] (vR a :: st) E u) ∧
  (∀ (l0 l1 l2 l3 l4 : am_V) (st : List am_V) (E : am_E) (u : am_M), Rn m_T_tellsThread 22 [l0, l1, l2, l3, l4] st E u = Rn m_T_tellsThread 23 [l0, l1, l2, l3, l4] (vI 0 :: st) E u) ∧
  (∀ (l0 l2 l3 l4 : am_V) (a : Option Nat) (st : List am_V) (E : am_E) (u : am_M), Rn m_T_tellsThread 23 [l0, vR a, l2, l3, l4] st E u = Rn m_T_tellsThread 24 [l0, vR a, l2, l3, l4] (vR a :: st) E u) ∧
  (∀ (l0 l1 l2 l3 l4 : am_V) (k : Nat) (st : List am_V) (E : am_E) (u : am_M) (hE : SE E) (hk : cuB k), Rn m_T_tellsThread 24 [l0, l1, l2, l3, l4] (vR (some k) :: st) E u = Rn m_T_tellsThread 27 [l0, l1, l2, l3, l4] (vI (u k 2) :: st) E u) ∧
  (∀ (l0 l1 l2 l3 l4 : am_V) (st : List am_V) (E : am_E) (u : am_M), Rn m_T_tellsThread 27 [l0, l1, l2, l3, l4] st E u = Rn m_T_tellsThread 28 [l0, l1, l2, l3, l4] (vI 1 :: st) E u) ∧
  (∀ (l0 l1 l2 l3 l4 : am_V) (a b : Int) (st : List am_V) (E : am_E) (u : am_M), Rn m_T_tellsThread 28 [l0, l1, l2, l3, l4] (vI b :: vI a :: st) E u = Rn m_T_tellsThread 29 [l0, l1, l2, l3, l4] (vI (w32 (a - b)) :: st) E u) ∧
  (∀ (l0 l1 l2 l3 l4 : am_V) (a0 : Int) (a1 : Int) (E : am_E) (u : am_M) (hE : SE E), Rn m_T_tellsThread 29 [l0, l1, l2, l3, l4] [vI a1, vI a0, vR (some 138)] E u = bdI (Rn m_T_digit 0 [vR (some 138), vI a0, vI a1, vB false] [] E u) (KI m_T_tellsThread 32 [l0, l1, l2, l3, l4] [])) ∧
  (∀ (l0 l1 l2 l3 l4 : am_V) (a : Int) (st : List am_V) (E : am_E) (u : am_M), Rn m_T_tellsThread 32 [l0, l1, l2, l3, l4] (vI a :: st) E u = Rn m_T_tellsThread 33 [l0, am_fx l1, vI a, l3, l4] st E u) ∧
  (∀ (l0 l1 l3 l4 : am_V) (a : Int) (st : List am_V) (E : am_E) (u : am_M), Rn m_T_tellsThread 33 [l0, l1, vI a, l3, l4] st E u = Rn m_T_tellsThread 34 [l0, l1, vI a, l3, l4] (vI a :: st) E u) ∧
  (∀ (l0 l1 l2 l3 l4 : am_V) (st : List am_V) (E : am_E) (u : am_M), Rn m_T_tellsThread 34 [l0, l1, l2, l3, l4] st E u = Rn m_T_tellsThread 36 [l0, l1, l2, l3, l4] (vI (-4) :: st) E u) ∧
  (∀ (l0 l1 l2 l3 l4 : am_V) (a b : Int) (st : List am_V) (E : am_E) (u : am_M), Rn m_T_tellsThread 36 [l0, l1, l2, l3, l4] (vI b :: vI a :: st) E u = if a = b then Rn m_T_tellsThread 39 [l0, l1, l2, l3, l4] st E u else Rn m_T_tellsThread 41 [l0, l1, l2, l3, l4] st E u) ∧
  (∀ (l0 l1 l2 l3 l4 : am_V) (st : List am_V) (E : am_E) (u : am_M), Rn m_T_tellsThread 39 [l0, l1, l2, l3, l4] st E u = Rn m_T_tellsThread 40 [l0, l1, l2, l3, l4] (vI 0 :: st) E u) ∧
  (∀ (l0 l1 l2 l3 l4 : am_V) (b : Bool) (E : am_E) (u : am_M), Rn m_T_tellsThread 40 [l0, l1, l2, l3, l4] [vI (bI b)] E u = some (some (vI (bI b)), E, u)) ∧
  (∀ (l0 l1 l2 l3 l4 : am_V) (E : am_E) (u : am_M), Rn m_T_tellsThread 40 [l0, l1, l2, l3, l4] [vI 1] E u = some (some (vI 1), E, u)) ∧
  (∀ (l0 l1 l2 l3 l4 : am_V) (E : am_E) (u : am_M), Rn m_T_tellsThread 40 [l0, l1, l2, l3, l4] [vI 0] E u = some (some (vI 0), E, u)) ∧
  (∀ (l1 l2 l3 l4 : am_V) (a : Option Nat) (st : List am_V) (E : am_E) (u : am_M), Rn m_T_tellsThread 41 [vR a, l1, l2, l3, l4] st E u = Rn m_T_tellsThread 42 [vR a, l1, l2, l3, l4] (vR a :: st) E u) ∧
  (∀ (l0 l1 l2 l3 l4 : am_V) (st : List am_V) (E : am_E) (u : am_M), Rn m_T_tellsThread 42 [l0, l1, l2, l3, l4] st E u = Rn m_T_tellsThread 43 [l0, l1, l2, l3, l4] (vI 0 :: st) E u) ∧
  (∀ (l0 l2 l3 l4 : am_V) (a : Option Nat) (st : List am_V) (E : am_E) (u : am_M), Rn m_T_tellsThread 43 [l0, vR a, l2, l3, l4] st E u = Rn m_T_tellsThread 44 [l0, vR a, l2, l3, l4] (vR a :: st) E u) ∧
  (∀ (l0 l1 l2 l3 l4 : am_V) (k : Nat) (st : List am_V) (E : am_E) (u : am_M) (hE : SE E) (hk : cuB k), Rn m_T_tellsThread 44 [l0, l1, l2, l3, l4] (vR (some k) :: st) E u = Rn m_T_tellsThread 47 [l0, l1, l2, l3, l4] (vI (u k 2) :: st) E u) ∧
  (∀ (l0 l1 l2 l3 l4 : am_V) (st : List am_V) (E : am_E) (u : am_M), Rn m_T_tellsThread 47 [l0, l1, l2, l3, l4] st E u = Rn m_T_tellsThread 48 [l0, l1, l2, l3, l4] (vI 1 :: st) E u) ∧
  (∀ (l0 l1 l2 l3 l4 : am_V) (a b : Int) (st : List am_V) (E : am_E) (u : am_M), Rn m_T_tellsThread 48 [l0, l1, l2, l3, l4] (vI b :: vI a :: st) E u = Rn m_T_tellsThread 49 [l0, l1, l2, l3, l4] (vI (w32 (a - b)) :: st) E u) ∧
  (∀ (l0 l1 l2 l3 l4 : am_V) (a0 : Int) (a1 : Int) (E : am_E) (u : am_M) (hE : SE E), Rn m_T_tellsThread 49 [l0, l1, l2, l3, l4] [vI a1, vI a0, vR (some 138)] E u = bdI (Rn m_T_digit 0 [vR (some 138), vI a0, vI a1, vB false] [] E u) (KI m_T_tellsThread 52 [l0, l1, l2, l3, l4] [])) ∧
  (∀ (l0 l1 l2 l3 l4 : am_V) (a : Int) (st : List am_V) (E : am_E) (u : am_M), Rn m_T_tellsThread 52 [l0, l1, l2, l3, l4] (vI a :: st) E u = Rn m_T_tellsThread 53 [l0, l1, am_fx l2, vI a, l4] st E u) ∧
  (∀ (l0 l1 l2 l4 : am_V) (a : Int) (st : List am_V) (E : am_E) (u : am_M), Rn m_T_tellsThread 53 [l0, l1, l2, vI a, l4] st E u = Rn m_T_tellsThread 54 [l0, l1, l2, vI a, l4] (vI a :: st) E u) ∧
  (∀ (l0 l1 l3 l4 : am_V) (a : Int) (st : List am_V) (E : am_E) (u : am_M), Rn m_T_tellsThread 54 [l0, l1, vI a, l3, l4] st E u = Rn m_T_tellsThread 55 [l0, l1, vI a, l3, l4] (vI a :: st) E u) ∧
  (∀ (l0 l1 l2 l3 l4 : am_V) (a b : Int) (st : List am_V) (E : am_E) (u : am_M), Rn m_T_tellsThread 55 [l0, l1, l2, l3, l4] (vI b :: vI a :: st) E u = if a = b then Rn m_T_tellsThread 58 [l0, l1, l2, l3, l4] st E u else Rn m_T_tellsThread 70 [l0, l1, l2, l3, l4] st E u) ∧
  (∀ (l1 l2 l3 l4 : am_V) (a : Option Nat) (st : List am_V) (E : am_E) (u : am_M), Rn m_T_tellsThread 58 [vR a, l1, l2, l3, l4] st E u = Rn m_T_tellsThread 59 [vR a, l1, l2, l3, l4] (vR a :: st) E u) ∧
  (∀ (l0 l1 l2 l3 l4 : am_V) (a : Int) (st : List am_V) (E : am_E) (u : am_M), Rn m_T_tellsThread 59 [l0, l1, l2, l3, l4] (vI a :: st) E u = Rn m_T_tellsThread 60 [l0, l1, l2, l3, l4] (vI a :: vI a :: st) E u) ∧
  (∀ (l0 l1 l2 l3 l4 : am_V) (a : Option Nat) (st : List am_V) (E : am_E) (u : am_M), Rn m_T_tellsThread 59 [l0, l1, l2, l3, l4] (vR a :: st) E u = Rn m_T_tellsThread 60 [l0, l1, l2, l3, l4] (vR a :: vR a :: st) E u) ∧
  (∀ (l0 l1 l2 l3 l4 : am_V) (st : List am_V) (E : am_E) (u : am_M) (hE : SE E), Rn m_T_tellsThread 60 [l0, l1, l2, l3, l4] (vR (some 138) :: st) E u = Rn m_T_tellsThread 63 [l0, l1, l2, l3, l4] (vI (u 138 2) :: st) E u) ∧
  (∀ (l0 l1 l2 l3 l4 : am_V) (st : List am_V) (E : am_E) (u : am_M), Rn m_T_tellsThread 63 [l0, l1, l2, l3, l4] st E u = Rn m_T_tellsThread 64 [l0, l1, l2, l3, l4] (vI 1 :: st) E u) ∧
  (∀ (l0 l1 l2 l3 l4 : am_V) (a b : Int) (st : List am_V) (E : am_E) (u : am_M), Rn m_T_tellsThread 64 [l0, l1, l2, l3, l4] (vI b :: vI a :: st) E u = Rn m_T_tellsThread 65 [l0, l1, l2, l3, l4] (vI (w32 (a - b)) :: st) E u) ∧
  (∀ (l0 l1 l2 l3 l4 : am_V) (a : Int) (st : List am_V) (E : am_E) (u : am_M) (hE : SE E), Rn m_T_tellsThread 65 [l0, l1, l2, l3, l4] (vI a :: vR (some 138) :: st) E u = Rn m_T_tellsThread 68 [l0, l1, l2, l3, l4] st E (am_up u 138 2 a)) ∧
  (∀ (l0 l1 l2 l3 l4 : am_V) (st : List am_V) (E : am_E) (u : am_M), Rn m_T_tellsThread 68 [l0, l1, l2, l3, l4] st E u = Rn m_T_tellsThread 69 [l0, l1, l2, l3, l4] (vI 0 :: st) E u) ∧
  (∀ (l0 l1 l2 l3 l4 : am_V) (b : Bool) (E : am_E) (u : am_M), Rn m_T_tellsThread 69 [l0, l1, l2, l3, l4] [vI (bI b)] E u = some (some (vI (bI b)), E, u)) ∧
  (∀ (l0 l1 l2 l3 l4 : am_V) (E : am_E) (u : am_M), Rn m_T_tellsThread 69 [l0, l1, l2, l3, l4] [vI 1] E u = some (some (vI 1), E, u)) ∧
  (∀ (l0 l1 l2 l3 l4 : am_V) (E : am_E) (u : am_M), Rn m_T_tellsThread 69 [l0, l1, l2, l3, l4] [vI 0] E u = some (some (vI 0), E, u)) ∧
  (∀ (l0 l1 l2 l4 : am_V) (a : Int) (st : List am_V) (E : am_E) (u : am_M), Rn m_T_tellsThread 70 [l0, l1, l2, vI a, l4] st E u = Rn m_T_tellsThread 71 [l0, l1, l2, vI a, l4] (vI a :: st) E u) ∧
  (∀ (l0 l1 l2 l3 l4 : am_V) (st : List am_V) (E : am_E) (u : am_M), Rn m_T_tellsThread 71 [l0, l1, l2, l3, l4] st E u = Rn m_T_tellsThread 73 [l0, l1, l2, l3, l4] (vI (-4) :: st) E u) ∧
  (∀ (l0 l1 l2 l3 l4 : am_V) (a b : Int) (st : List am_V) (E : am_E) (u : am_M), Rn m_T_tellsThread 73 [l0, l1, l2, l3, l4] (vI b :: vI a :: st) E u = if a = b then Rn m_T_tellsThread 85 [l0, l1, l2, l3, l4] st E u else Rn m_T_tellsThread 76 [l0, l1, l2, l3, l4] st E u) ∧
  (∀ (l1 l2 l3 l4 : am_V) (a : Option Nat) (st : List am_V) (E : am_E) (u : am_M), Rn m_T_tellsThread 76 [vR a, l1, l2, l3, l4] st E u = Rn m_T_tellsThread 77 [vR a, l1, l2, l3, l4] (vR a :: st) E u) ∧
  (∀ (l0 l1 l2 l3 l4 : am_V) (st : List am_V) (E : am_E) (u : am_M), Rn m_T_tellsThread 77 [l0, l1, l2, l3, l4] st E u = Rn m_T_tellsThread 79 [l0, l1, l2, l3, l4] (vI 61 :: st) E u) ∧
  (∀ (l0 l1 l2 l3 l4 : am_V) (a0 : Int) (E : am_E) (u : am_M) (hE : SE E), Rn m_T_tellsThread 79 [l0, l1, l2, l3, l4] [vI a0, vR (some 138)] E u = bdI (Rn m_T_goesPast 0 [vR (some 138), vI a0] [] E u) (KI m_T_tellsThread 82 [l0, l1, l2, l3, l4] [])) ∧
  (∀ (l0 l1 l2 l3 l4 : am_V) (a : Int) (st : List am_V) (E : am_E) (u : am_M), Rn m_T_tellsThread 82 [l0, l1, l2, l3, l4] (vI a :: st) E u = if a = 0 then Rn m_T_tellsThread 85 [l0, l1, l2, l3, l4] st E u else Rn m_T_tellsThread 87 [l0, l1, l2, l3, l4] st E u) ∧
  (∀ (l0 l1 l2 l3 l4 : am_V) (st : List am_V) (E : am_E) (u : am_M), Rn m_T_tellsThread 85 [l0, l1, l2, l3, l4] st E u = Rn m_T_tellsThread 86 [l0, l1, l2, l3, l4] (vI 0 :: st) E u) ∧
  (∀ (l0 l1 l2 l3 l4 : am_V) (b : Bool) (E : am_E) (u : am_M), Rn m_T_tellsThread 86 [l0, l1, l2, l3, l4] [vI (bI b)] E u = some (some (vI (bI b)), E, u)) ∧
  (∀ (l0 l1 l2 l3 l4 : am_V) (E : am_E) (u : am_M), Rn m_T_tellsThread 86 [l0, l1, l2, l3, l4] [vI 1] E u = some (some (vI 1), E, u)) ∧
  (∀ (l0 l1 l2 l3 l4 : am_V) (E : am_E) (u : am_M), Rn m_T_tellsThread 86 [l0, l1, l2, l3, l4] [vI 0] E u = some (some (vI 0), E, u)) ∧
  (∀ (l1 l2 l3 l4 : am_V) (a : Option Nat) (st : List am_V) (E : am_E) (u : am_M), Rn m_T_tellsThread 87 [vR a, l1, l2, l3, l4] st E u = Rn m_T_tellsThread 88 [vR a, l1, l2, l3, l4] (vR a :: st) E u) ∧
  (∀ (l0 l1 l2 l3 l4 : am_V) (st : List am_V) (E : am_E) (u : am_M), Rn m_T_tellsThread 88 [l0, l1, l2, l3, l4] st E u = Rn m_T_tellsThread 89 [l0, l1, l2, l3, l4] (vI 1 :: st) E u) ∧
  (∀ (l0 l1 l2 l3 l4 : am_V) (st : List am_V) (E : am_E) (u : am_M), Rn m_T_tellsThread 89 [l0, l1, l2, l3, l4] st E u = Rn m_T_tellsThread 91 [l0, l1, l2, l3, l4] (vI 12 :: st) E u) ∧
  (∀ (l0 l1 l2 l3 l4 : am_V) (a0 : Int) (a1 : Int) (E : am_E) (u : am_M) (hE : SE E), Rn m_T_tellsThread 91 [l0, l1, l2, l3, l4] [vI a1, vI a0, vR (some 138)] E u = bdI (Rn m_T_number 0 [vR (some 138), vI a0, vI a1, vB false, vB false, vB false] [] E u) (KI m_T_tellsThread 94 [l0, l1, l2, l3, l4] [])) ∧
  (∀ (l0 l1 l2 l3 l4 : am_V) (a : Int) (st : List am_V) (E : am_E) (u : am_M), Rn m_T_tellsThread 94 [l0, l1, l2, l3, l4] (vI a :: st) E u = Rn m_T_tellsThread 96 [l0, l1, l2, am_fx l3, vI a] st E u) ∧
  (∀ (l0 l1 l2 l3 : am_V) (a : Int) (st : List am_V) (E : am_E) (u : am_M), Rn m_T_tellsThread 96 [l0, l1, l2, l3, vI a] st E u = Rn m_T_tellsThread 98 [l0, l1, l2, l3, vI a] (vI a :: st) E u) ∧
  (∀ (l0 l1 l2 l3 l4 : am_V) (st : List am_V) (E : am_E) (u : am_M), Rn m_T_tellsThread 98 [l0, l1, l2, l3, l4] st E u = Rn m_T_tellsThread 100 [l0, l1, l2, l3, l4] (vI (-4) :: st) E u) ∧
  (∀ (l0 l1 l2 l3 l4 : am_V) (a b : Int) (st : List am_V) (E : am_E) (u : am_M), Rn m_T_tellsThread 100 [l0, l1, l2, l3, l4] (vI b :: vI a :: st) E u = if a = b then Rn m_T_tellsThread 103 [l0, l1, l2, l3, l4] st E u else Rn m_T_tellsThread 105 [l0, l1, l2, l3, l4] st E u) ∧
  (∀ (l0 l1 l2 l3 l4 : am_V) (st : List am_V) (E : am_E) (u : am_M), Rn m_T_tellsThread 103 [l0, l1, l2, l3, l4] st E u = Rn m_T_tellsThread 104 [l0, l1, l2, l3, l4] (vI 0 :: st) E u) ∧
  (∀ (l0 l1 l2 l3 l4 : am_V) (b : Bool) (E : am_E) (u : am_M), Rn m_T_tellsThread 104 [l0, l1, l2, l3, l4] [vI (bI b)] E u = some (some (vI (bI b)), E, u)) ∧
  (∀ (l0 l1 l2 l3 l4 : am_V) (E : am_E) (u : am_M), Rn m_T_tellsThread 104 [l0, l1, l2, l3, l4] [vI 1] E u = some (some (vI 1), E, u)) ∧
  (∀ (l0 l1 l2 l3 l4 : am_V) (E : am_E) (u : am_M), Rn m_T_tellsThread 104 [l0, l1, l2, l3, l4] [vI 0] E u = some (some (vI 0), E, u)) ∧
  (∀ (l0 l2 l3 l4 : am_V) (a : Option Nat) (st : List am_V) (E : am_E) (u : am_M), Rn m_T_tellsThread 105 [l0, vR a, l2, l3, l4] st E u = Rn m_T_tellsThread 106 [l0, vR a, l2, l3, l4] (vR a :: st) E u) ∧
  (∀ (l0 l1 l3 l4 : am_V) (a : Int) (st : List am_V) (E : am_E) (u : am_M), Rn m_T_tellsThread 106 [l0, l1, vI a, l3, l4] st E u = Rn m_T_tellsThread 107 [l0, l1, vI a, l3, l4] (vI a :: st) E u) ∧
  (∀ (l0 l1 l2 l4 : am_V) (a : Int) (st : List am_V) (E : am_E) (u : am_M), Rn m_T_tellsThread 107 [l0, l1, l2, vI a, l4] st E u = Rn m_T_tellsThread 108 [l0, l1, l2, vI a, l4] (vI a :: st) E u) ∧
  (∀ (l0 l1 l2 l3 : am_V) (a : Int) (st : List am_V) (E : am_E) (u : am_M), Rn m_T_tellsThread 108 [l0, l1, l2, l3, vI a] st E u = Rn m_T_tellsThread 110 [l0, l1, l2, l3, vI a] (vI a :: st) E u) ∧
  (∀ (l0 l1 l2 l3 l4 : am_V) (k : Nat) (a0 : Int) (a1 : Int) (a2 : Int) (E : am_E) (u : am_M) (hE : SE E) (hk : cuB k), Rn m_T_tellsThread 110 [l0, l1, l2, l3, l4] [vI a2, vI a1, vI a0, vR (some k)] E u = bdI (Rn m_C_addThread 0 [vR (some k), vI a0, vI a1, vI a2, vB false] [] E u) (KI m_T_tellsThread 113 [l0, l1, l2, l3, l4] [])) ∧
  (∀ (l0 l1 l2 l3 l4 : am_V) (a : Int) (st : List am_V) (E : am_E) (u : am_M), Rn m_T_tellsThread 113 [l0, l1, l2, l3, l4] (vI a :: st) E u = Rn m_T_tellsThread 114 [l0, l1, l2, l3, l4] st E u) ∧
  (∀ (l0 l1 l2 l3 l4 : am_V) (a : Option Nat) (st : List am_V) (E : am_E) (u : am_M), Rn m_T_tellsThread 113 [l0, l1, l2, l3, l4] (vR a :: st) E u = Rn m_T_tellsThread 114 [l0, l1, l2, l3, l4] st E u) ∧
  (∀ (l0 l1 l2 l3 l4 : am_V) (st : List am_V) (E : am_E) (u : am_M), Rn m_T_tellsThread 114 [l0, l1, l2, l3, l4] st E u = Rn m_T_tellsThread 115 [l0, l1, l2, l3, l4] (vI 1 :: st) E u) ∧
  (∀ (l0 l1 l2 l3 l4 : am_V) (b : Bool) (E : am_E) (u : am_M), Rn m_T_tellsThread 115 [l0, l1, l2, l3, l4] [vI (bI b)] E u = some (some (vI (bI b)), E, u)) ∧
  (∀ (l0 l1 l2 l3 l4 : am_V) (E : am_E) (u : am_M), Rn m_T_tellsThread 115 [l0, l1, l2, l3, l4] [vI 1] E u = some (some (vI 1), E, u)) ∧
  (∀ (l0 l1 l2 l3 l4 : am_V) (E : am_E) (u : am_M), Rn m_T_tellsThread 115 [l0, l1, l2, l3, l4] [vI 0] E u = some (some (vI 0), E, u)) :=
  ⟨fun l0 l2 l3 l4 a st E u => q_go (by decide +kernel : am_Pg 74 0 = some (.aload_n 1, 1, [], 0)) rfl,
  fun l0 l1 l2 l3 l4 k st E u hE hk => q_gfI (by decide +kernel : am_Pg 74 1 = some (.getfield 77, 3, [0, 14, 3, 1], 0)) (SE_k0 hE hk) (by decide),
  fun l0 l1 l2 l3 l4 st E u => q_go (by decide +kernel : am_Pg 74 4 = some (.bipush 6, 2, [], 0)) rfl,
  fun l0 l1 l2 l3 l4 a b st E u => q_icmp_lt (tgt := 11) (by decide +kernel : am_Pg 74 6 = some (.if_icmp .lt 5, 3, [], 0)) (by decide),
  fun l0 l1 l2 l3 l4 st E u => q_go (by decide +kernel : am_Pg 74 9 = some (.iconst 0, 1, [], 0)) rfl,
  fun l0 l1 l2 l3 l4 b E u => by cases b <;> exact q_ret (by decide +kernel : am_Pg 74 10 = some (.ireturn, 1, [1], 0)) rfl,
  fun l0 l1 l2 l3 l4 E u => q_ret (by decide +kernel : am_Pg 74 10 = some (.ireturn, 1, [1], 0)) rfl,
  fun l0 l1 l2 l3 l4 E u => q_ret (by decide +kernel : am_Pg 74 10 = some (.ireturn, 1, [1], 0)) rfl,
  fun l1 l2 l3 l4 a st E u => q_go (by decide +kernel : am_Pg 74 11 = some (.aload_n 0, 1, [], 0)) rfl,
  fun l0 l1 l2 l3 l4 a st E u => q_go (by decide +kernel : am_Pg 74 12 = some (.dup, 1, [], 0)) rfl,
  fun l0 l1 l2 l3 l4 a st E u => q_go (by decide +kernel : am_Pg 74 12 = some (.dup, 1, [], 0)) rfl,
  fun l0 l1 l2 l3 l4 st E u hE => q_gfI (by decide +kernel : am_Pg 74 13 = some (.getfield 23, 3, [3, 3, 2, 0], 0)) (SE_k3 hE) (by decide),
  fun l0 l1 l2 l3 l4 st E u => q_go (by decide +kernel : am_Pg 74 16 = some (.iconst 1, 1, [], 0)) rfl,
  fun l0 l1 l2 l3 l4 a b st E u => q_go (by decide +kernel : am_Pg 74 17 = some (.iadd, 1, [], 0)) rfl,
  fun l0 l1 l2 l3 l4 a st E u hE => q_pfI (by decide +kernel : am_Pg 74 18 = some (.putfield 23, 3, [3, 3, 2, 0], 0)) (SE_k3 hE) rfl,
  fun l1 l2 l3 l4 a st E u => q_go (by decide +kernel : am_Pg 74 21 = some (.aload_n 0, 1, [], 0)) rfl,
  fun l0 l1 l2 l3 l4 st E u => q_go (by decide +kernel : am_Pg 74 22 = some (.iconst 0, 1, [], 0)) rfl,
  fun l0 l2 l3 l4 a st E u => q_go (by decide +kernel : am_Pg 74 23 = some (.aload_n 1, 1, [], 0)) rfl,
  fun l0 l1 l2 l3 l4 k st E u hE hk => q_gfI (by decide +kernel : am_Pg 74 24 = some (.getfield 58, 3, [0, 14, 2, 1], 0)) (SE_k0 hE hk) (by decide),
  fun l0 l1 l2 l3 l4 st E u => q_go (by decide +kernel : am_Pg 74 27 = some (.iconst 1, 1, [], 0)) rfl,
  fun l0 l1 l2 l3 l4 a b st E u => q_go (by decide +kernel : am_Pg 74 28 = some (.isub, 1, [], 0)) rfl,
  fun l0 l1 l2 l3 l4 a0 a1  E u hE => q_cI (by decide +kernel : am_Pg 74 29 = some (.invokevirtual 26, 3, [3, 65, 3, 3, 3, 0], 0)) (am_call_V (a := [vI a0, vI a1]) (st' := []) (Nat.le_of_ble_eq_true rfl) rfl (SE_k3 hE)) (by decide +kernel : am_Lm m_T_digit = 4) (Nat.le_of_ble_eq_true rfl) rfl (by decide +kernel),
  fun l0 l1 l2 l3 l4 a st E u => q_go (by decide +kernel : am_Pg 74 32 = some (.istore_n 2, 1, [], 0)) rfl,
  fun l0 l1 l3 l4 a st E u => q_go (by decide +kernel : am_Pg 74 33 = some (.iload_n 2, 1, [], 0)) rfl,
  fun l0 l1 l2 l3 l4 st E u => q_go (by decide +kernel : am_Pg 74 34 = some (.bipush (-4), 2, [], 0)) rfl,
  fun l0 l1 l2 l3 l4 a b st E u => q_icmp_ne (tgt := 41) (by decide +kernel : am_Pg 74 36 = some (.if_icmp .ne 5, 3, [], 0)) (by decide),
  fun l0 l1 l2 l3 l4 st E u => q_go (by decide +kernel : am_Pg 74 39 = some (.iconst 0, 1, [], 0)) rfl,
  fun l0 l1 l2 l3 l4 b E u => by cases b <;> exact q_ret (by decide +kernel : am_Pg 74 40 = some (.ireturn, 1, [1], 0)) rfl,
  fun l0 l1 l2 l3 l4 E u => q_ret (by decide +kernel : am_Pg 74 40 = some (.ireturn, 1, [1], 0)) rfl,
  fun l0 l1 l2 l3 l4 E u => q_ret (by decide +kernel : am_Pg 74 40 = some (.ireturn, 1, [1], 0)) rfl,
  fun l1 l2 l3 l4 a st E u => q_go (by decide +kernel : am_Pg 74 41 = some (.aload_n 0, 1, [], 0)) rfl,
  fun l0 l1 l2 l3 l4 st E u => q_go (by decide +kernel : am_Pg 74 42 = some (.iconst 0, 1, [], 0)) rfl,
  fun l0 l2 l3 l4 a st E u => q_go (by decide +kernel : am_Pg 74 43 = some (.aload_n 1, 1, [], 0)) rfl,
  fun l0 l1 l2 l3 l4 k st E u hE hk => q_gfI (by decide +kernel : am_Pg 74 44 = some (.getfield 58, 3, [0, 14, 2, 1], 0)) (SE_k0 hE hk) (by decide),
  fun l0 l1 l2 l3 l4 st E u => q_go (by decide +kernel : am_Pg 74 47 = some (.iconst 1, 1, [], 0)) rfl,
  fun l0 l1 l2 l3 l4 a b st E u => q_go (by decide +kernel : am_Pg 74 48 = some (.isub, 1, [], 0)) rfl,
  fun l0 l1 l2 l3 l4 a0 a1  E u hE => q_cI (by decide +kernel : am_Pg 74 49 = some (.invokevirtual 26, 3, [3, 65, 3, 3, 3, 0], 0)) (am_call_V (a := [vI a0, vI a1]) (st' := []) (Nat.le_of_ble_eq_true rfl) rfl (SE_k3 hE)) (by decide +kernel : am_Lm m_T_digit = 4) (Nat.le_of_ble_eq_true rfl) rfl (by decide +kernel),
  fun l0 l1 l2 l3 l4 a st E u => q_go (by decide +kernel : am_Pg 74 52 = some (.istore_n 3, 1, [], 0)) rfl,
  fun l0 l1 l2 l4 a st E u => q_go (by decide +kernel : am_Pg 74 53 = some (.iload_n 3, 1, [], 0)) rfl,
  fun l0 l1 l3 l4 a st E u => q_go (by decide +kernel : am_Pg 74 54 = some (.iload_n 2, 1, [], 0)) rfl,
  fun l0 l1 l2 l3 l4 a b st E u => q_icmp_ne (tgt := 70) (by decide +kernel : am_Pg 74 55 = some (.if_icmp .ne 15, 3, [], 0)) (by decide),
  fun l1 l2 l3 l4 a st E u => q_go (by decide +kernel : am_Pg 74 58 = some (.aload_n 0, 1, [], 0)) rfl,
  fun l0 l1 l2 l3 l4 a st E u => q_go (by decide +kernel : am_Pg 74 59 = some (.dup, 1, [], 0)) rfl,
  fun l0 l1 l2 l3 l4 a st E u => q_go (by decide +kernel : am_Pg 74 59 = some (.dup, 1, [], 0)) rfl,
  fun l0 l1 l2 l3 l4 st E u hE => q_gfI (by decide +kernel : am_Pg 74 60 = some (.getfield 23, 3, [3, 3, 2, 0], 0)) (SE_k3 hE) (by decide),
  fun l0 l1 l2 l3 l4 st E u => q_go (by decide +kernel : am_Pg 74 63 = some (.iconst 1, 1, [], 0)) rfl,
  fun l0 l1 l2 l3 l4 a b st E u => q_go (by decide +kernel : am_Pg 74 64 = some (.isub, 1, [], 0)) rfl,
  fun l0 l1 l2 l3 l4 a st E u hE => q_pfI (by decide +kernel : am_Pg 74 65 = some (.putfield 23, 3, [3, 3, 2, 0], 0)) (SE_k3 hE) rfl,
  fun l0 l1 l2 l3 l4 st E u => q_go (by decide +kernel : am_Pg 74 68 = some (.iconst 0, 1, [], 0)) rfl,
  fun l0 l1 l2 l3 l4 b E u => by cases b <;> exact q_ret (by decide +kernel : am_Pg 74 69 = some (.ireturn, 1, [1], 0)) rfl,
  fun l0 l1 l2 l3 l4 E u => q_ret (by decide +kernel : am_Pg 74 69 = some (.ireturn, 1, [1], 0)) rfl,
  fun l0 l1 l2 l3 l4 E u => q_ret (by decide +kernel : am_Pg 74 69 = some (.ireturn, 1, [1], 0)) rfl,
  fun l0 l1 l2 l4 a st E u => q_go (by decide +kernel : am_Pg 74 70 = some (.iload_n 3, 1, [], 0)) rfl,
  fun l0 l1 l2 l3 l4 st E u => q_go (by decide +kernel : am_Pg 74 71 = some (.bipush (-4), 2, [], 0)) rfl,
  fun l0 l1 l2 l3 l4 a b st E u => q_icmp_eq (tgt := 85) (by decide +kernel : am_Pg 74 73 = some (.if_icmp .eq 12, 3, [], 0)) (by decide),
  fun l1 l2 l3 l4 a st E u => q_go (by decide +kernel : am_Pg 74 76 = some (.aload_n 0, 1, [], 0)) rfl,
  fun l0 l1 l2 l3 l4 st E u => q_go (by decide +kernel : am_Pg 74 77 = some (.bipush 61, 2, [], 0)) rfl,
  fun l0 l1 l2 l3 l4 a0  E u hE => q_cI (by decide +kernel : am_Pg 74 79 = some (.invokevirtual 30, 3, [3, 66, 2, 3, 3, 0], 0)) (am_call_V (a := [vI a0]) (st' := []) (Nat.le_of_ble_eq_true rfl) rfl (SE_k3 hE)) (by decide +kernel : am_Lm m_T_goesPast = 2) (Nat.le_of_ble_eq_true rfl) rfl (by decide +kernel),
  fun l0 l1 l2 l3 l4 a st E u => q_if_ne (tgt := 87) (by decide +kernel : am_Pg 74 82 = some (.ifCond .ne 5, 3, [], 0)) (by decide),
  fun l0 l1 l2 l3 l4 st E u => q_go (by decide +kernel : am_Pg 74 85 = some (.iconst 0, 1, [], 0)) rfl,
  fun l0 l1 l2 l3 l4 b E u => by cases b <;> exact q_ret (by decide +kernel : am_Pg 74 86 = some (.ireturn, 1, [1], 0)) rfl,
  fun l0 l1 l2 l3 l4 E u => q_ret (by decide +kernel : am_Pg 74 86 = some (.ireturn, 1, [1], 0)) rfl,
  fun l0 l1 l2 l3 l4 E u => q_ret (by decide +kernel : am_Pg 74 86 = some (.ireturn, 1, [1], 0)) rfl,
  fun l1 l2 l3 l4 a st E u => q_go (by decide +kernel : am_Pg 74 87 = some (.aload_n 0, 1, [], 0)) rfl,
  fun l0 l1 l2 l3 l4 st E u => q_go (by decide +kernel : am_Pg 74 88 = some (.iconst 1, 1, [], 0)) rfl,
  fun l0 l1 l2 l3 l4 st E u => q_go (by decide +kernel : am_Pg 74 89 = some (.bipush 12, 2, [], 0)) rfl,
  fun l0 l1 l2 l3 l4 a0 a1  E u hE => q_cI (by decide +kernel : am_Pg 74 91 = some (.invokevirtual 80, 3, [3, 73, 3, 3, 3, 0], 0)) (am_call_V (a := [vI a0, vI a1]) (st' := []) (Nat.le_of_ble_eq_true rfl) rfl (SE_k3 hE)) (by decide +kernel : am_Lm m_T_number = 6) (Nat.le_of_ble_eq_true rfl) rfl (by decide +kernel),
  fun l0 l1 l2 l3 l4 a st E u => q_go (by decide +kernel : am_Pg 74 94 = some (.istore 4, 2, [], 0)) rfl,
  fun l0 l1 l2 l3 a st E u => q_go (by decide +kernel : am_Pg 74 96 = some (.iload 4, 2, [], 0)) rfl,
  fun l0 l1 l2 l3 l4 st E u => q_go (by decide +kernel : am_Pg 74 98 = some (.bipush (-4), 2, [], 0)) rfl,
  fun l0 l1 l2 l3 l4 a b st E u => q_icmp_ne (tgt := 105) (by decide +kernel : am_Pg 74 100 = some (.if_icmp .ne 5, 3, [], 0)) (by decide),
  fun l0 l1 l2 l3 l4 st E u => q_go (by decide +kernel : am_Pg 74 103 = some (.iconst 0, 1, [], 0)) rfl,
  fun l0 l1 l2 l3 l4 b E u => by cases b <;> exact q_ret (by decide +kernel : am_Pg 74 104 = some (.ireturn, 1, [1], 0)) rfl,
  fun l0 l1 l2 l3 l4 E u => q_ret (by decide +kernel : am_Pg 74 104 = some (.ireturn, 1, [1], 0)) rfl,
  fun l0 l1 l2 l3 l4 E u => q_ret (by decide +kernel : am_Pg 74 104 = some (.ireturn, 1, [1], 0)) rfl,
  fun l0 l2 l3 l4 a st E u => q_go (by decide +kernel : am_Pg 74 105 = some (.aload_n 1, 1, [], 0)) rfl,
  fun l0 l1 l3 l4 a st E u => q_go (by decide +kernel : am_Pg 74 106 = some (.iload_n 2, 1, [], 0)) rfl,
  fun l0 l1 l2 l4 a st E u => q_go (by decide +kernel : am_Pg 74 107 = some (.iload_n 3, 1, [], 0)) rfl,
  fun l0 l1 l2 l3 a st E u => q_go (by decide +kernel : am_Pg 74 108 = some (.iload 4, 2, [], 0)) rfl,
  fun l0 l1 l2 l3 l4 k a0 a1 a2  E u hE hk => q_cI (by decide +kernel : am_Pg 74 110 = some (.invokevirtual 83, 3, [3, 31, 4, 0, 14, 1], 0)) (am_call_V (a := [vI a0, vI a1, vI a2]) (st' := []) (Nat.le_of_ble_eq_true rfl) rfl (SE_k0 hE hk)) (by decide +kernel : am_Lm m_C_addThread = 5) (Nat.le_of_ble_eq_true rfl) rfl (by decide +kernel),
  fun l0 l1 l2 l3 l4 a st E u => q_go (by decide +kernel : am_Pg 74 113 = some (.pop, 1, [], 0)) rfl,
  fun l0 l1 l2 l3 l4 a st E u => q_go (by decide +kernel : am_Pg 74 113 = some (.pop, 1, [], 0)) rfl,
  fun l0 l1 l2 l3 l4 st E u => q_go (by decide +kernel : am_Pg 74 114 = some (.iconst 1, 1, [], 0)) rfl,
  fun l0 l1 l2 l3 l4 b E u => by cases b <;> exact q_ret (by decide +kernel : am_Pg 74 115 = some (.ireturn, 1, [1], 0)) rfl,
  fun l0 l1 l2 l3 l4 E u => q_ret (by decide +kernel : am_Pg 74 115 = some (.ireturn, 1, [1], 0)) rfl,
  fun l0 l1 l2 l3 l4 E u => q_ret (by decide +kernel : am_Pg 74 115 = some (.ireturn, 1, [1], 0)) rfl⟩
theorem x_T_tellsThing :
  (∀ (l1 : am_V) (a : Option Nat) (st : List am_V) (E : am_E) (u : am_M), Rn m_T_tellsThing 0 [vR a, l1] st E u = Rn m_T_tellsThing 1 [vR a, l1] (vR a :: st) E u) ∧
  (∀ (l0 l1 : am_V) (E : am_E) (u : am_M) (hE : SE E), Rn m_T_tellsThing 1 [l0, l1] [vR (some 138)] E u = bdI (Rn m_T_next 0 [vR (some 138), vB false] [] E u) (KI m_T_tellsThing 4 [l0, l1] [])) ∧
  (∀ (l0 l1 : am_V) (a : Int) (st : List am_V) (E : am_E) (u : am_M), Rn m_T_tellsThing 4 [l0, l1] (vI a :: st) E u = if a = 109 then Rn m_T_tellsThing 80 [l0, l1] st E u else if a = 110 then Rn m_T_tellsThing 73 [l0, l1] st E u else if a = 111 then Rn m_T_tellsThing 87 [l0, l1] st E u else if a = 112 then Rn m_T_tellsThing 52 [l0, l1] st E u else if a = 113 then Rn m_T_tellsThing 99 [l0, l1] st E u else if a = 114 then Rn m_T_tellsThing 66 [l0, l1] st E u else if a = 115 then Rn m_T_tellsThing 59 [l0, l1] st E u else if a = 116 then Rn m_T_tellsThing 93 [l0, l1] st E u else Rn m_T_tellsThing 99 [l0, l1] st E u) ∧
  (∀ (l1 : am_V) (a : Option Nat) (st : List am_V) (E : am_E) (u : am_M), Rn m_T_tellsThing 52 [vR a, l1] st E u = Rn m_T_tellsThing 53 [vR a, l1] (vR a :: st) E u) ∧
  (∀ (l0 : am_V) (a : Option Nat) (st : List am_V) (E : am_E) (u : am_M), Rn m_T_tellsThing 53 [l0, vR a] st E u = Rn m_T_tellsThing 54 [l0, vR a] (vR a :: st) E u) ∧
  (∀ (l0 l1 : am_V) (st : List am_V) (E : am_E) (u : am_M), Rn m_T_tellsThing 54 [l0, l1] st E u = Rn m_T_tellsThing 55 [l0, l1] (vI 0 :: st) E u) ∧
  (∀ (l0 l1 : am_V) (a0 : Option Nat) (a1 : Int) (E : am_E) (u : am_M) (hE : SE E), Rn m_T_tellsThing 55 [l0, l1] [vI a1, vR a0, vR (some 138)] E u = bdI (Rn m_T_tellsPin 0 [vR (some 138), vR a0, vI a1, vB false, vB false] [] E u) (KI m_T_tellsThing 58 [l0, l1] [])) ∧
  (∀ (l0 l1 : am_V) (b : Bool) (E : am_E) (u : am_M), Rn m_T_tellsThing 58 [l0, l1] [vI (bI b)] E u = some (some (vI (bI b)), E, u)) ∧
  (∀ (l0 l1 : am_V) (E : am_E) (u : am_M), Rn m_T_tellsThing 58 [l0, l1] [vI 1] E u = some (some (vI 1), E, u)) ∧
  (∀ (l0 l1 : am_V) (E : am_E) (u : am_M), Rn m_T_tellsThing 58 [l0, l1] [vI 0] E u = some (some (vI 0), E, u)) ∧
  (∀ (l1 : am_V) (a : Option Nat) (st : List am_V) (E : am_E) (u : am_M), Rn m_T_tellsThing 59 [vR a, l1] st E u = Rn m_T_tellsThing 60 [vR a, l1] (vR a :: st) E u) ∧
  (∀ (l0 : am_V) (a : Option Nat) (st : List am_V) (E : am_E) (u : am_M), Rn m_T_tellsThing 60 [l0, vR a] st E u = Rn m_T_tellsThing 61 [l0, vR a] (vR a :: st) E u) ∧
  (∀ (l0 l1 : am_V) (st : List am_V) (E : am_E) (u : am_M), Rn m_T_tellsThing 61 [l0, l1] st E u = Rn m_T_tellsThing 62 [l0, l1] (vI 1 :: st) E u) ∧
  (∀ (l0 l1 : am_V) (a0 : Option Nat) (a1 : Int) (E : am_E) (u : am_M) (hE : SE E), Rn m_T_tellsThing 62 [l0, l1] [vI a1, vR a0, vR (some 138)] E u = bdI (Rn m_T_tellsPin 0 [vR (some 138), vR a0, vI a1, vB false, vB false] [] E u) (KI m_T_tellsThing 65 [l0, l1] [])) ∧
  (∀ (l0 l1 : am_V) (b : Bool) (E : am_E) (u : am_M), Rn m_T_tellsThing 65 [l0, l1] [vI (bI b)] E u = some (some (vI (bI b)), E, u)) ∧
  (∀ (l0 l1 : am_V) (E : am_E) (u : am_M), Rn m_T_tellsThing 65 [l0, l1] [vI 1] E u = some (some (vI 1), E, u)) ∧
  (∀ (l0 l1 : am_V) (E : am_E) (u : am_M), Rn m_T_tellsThing 65 [l0, l1] [vI 0] E u = some (some (vI 0), E, u)) ∧
  (∀ (l1 : am_V) (a : Option Nat) (st : List am_V) (E : am_E) (u : am_M), Rn m_T_tellsThing 66 [vR a, l1] st E u = Rn m_T_tellsThing 67 [vR a, l1] (vR a :: st) E u) ∧
  (∀ (l0 : am_V) (a : Option Nat) (st : List am_V) (E : am_E) (u : am_M), Rn m_T_tellsThing 67 [l0, vR a] st E u = Rn m_T_tellsThing 68 [l0, vR a] (vR a :: st) E u) ∧
  (∀ (l0 l1 : am_V) (st : List am_V) (E : am_E) (u : am_M), Rn m_T_tellsThing 68 [l0, l1] st E u = Rn m_T_tellsThing 69 [l0, l1] (vI 2 :: st) E u) ∧
  (∀ (l0 l1 : am_V) (a0 : Option Nat) (a1 : Int) (E : am_E) (u : am_M) (hE : SE E), Rn m_T_tellsThing 69 [l0, l1] [vI a1, vR a0, vR (some 138)] E u = bdI (Rn m_T_tellsPin 0 [vR (some 138), vR a0, vI a1, vB false, vB false] [] E u) (KI m_T_tellsThing 72 [l0, l1] [])) ∧
  (∀ (l0 l1 : am_V) (b : Bool) (E : am_E) (u : am_M), Rn m_T_tellsThing 72 [l0, l1] [vI (bI b)] E u = some (some (vI (bI b)), E, u)) ∧
  (∀ (l0 l1 : am_V) (E : am_E) (u : am_M), Rn m_T_tellsThing 72 [l0, l1] [vI 1] E u = some (some (vI 1), E, u)) ∧
  (∀ (l0 l1 : am_V) (E : am_E) (u : am_M), Rn m_T_tellsThing 72 [l0, l1] [vI 0] E u = some (some (vI 0), E, u)) ∧
  (∀ (l1 : am_V) (a : Option Nat) (st : List am_V) (E : am_E) (u : am_M), Rn m_T_tellsThing 73 [vR a, l1] st E u = Rn m_T_tellsThing 74 [vR a, l1] (vR a :: st) E u) ∧
  (∀ (l0 : am_V) (a : Option Nat) (st : List am_V) (E : am_E) (u : am_M), Rn m_T_tellsThing 74 [l0, vR a] st E u = Rn m_T_tellsThing 75 [l0, vR a] (vR a :: st) E u) ∧
  (∀ (l0 l1 : am_V) (st : List am_V) (E : am_E) (u : am_M), Rn m_T_tellsThing 75 [l0, l1] st E u = Rn m_T_tellsThing 76 [l0, l1] (vI 3 :: st) E u) ∧
  (∀ (l0 l1 : am_V) (a0 : Option Nat) (a1 : Int) (E : am_E) (u : am_M) (hE : SE E), Rn m_T_tellsThing 76 [l0, l1] [vI a1, vR a0, vR (some 138)] E u = bdI (Rn m_T_tellsPin 0 [vR (some 138), vR a0, vI a1, vB false, vB false] [] E u) (KI m_T_tellsThing 79 [l0, l1] [])) ∧
  (∀ (l0 l1 : am_V) (b : Bool) (E : am_E) (u : am_M), Rn m_T_tellsThing 79 [l0, l1] [vI (bI b)] E u = some (some (vI (bI b)), E, u)) ∧
  (∀ (l0 l1 : am_V) (E : am_E) (u : am_M), Rn m_T_tellsThing 79 [l0, l1] [vI 1] E u = some (some (vI 1), E, u)) ∧
  (∀ (l0 l1 : am_V) (E : am_E) (u : am_M), Rn m_T_tellsThing 79 [l0, l1] [vI 0] E u = some (some (vI 0), E, u)) ∧
  (∀ (l1 : am_V) (a : Option Nat) (st : List am_V) (E : am_E) (u : am_M), Rn m_T_tellsThing 80 [vR a, l1] st E u = Rn m_T_tellsThing 81 [vR a, l1] (vR a :: st) E u) ∧
  (∀ (l0 : am_V) (a : Option Nat) (st : List am_V) (E : am_E) (u : am_M), Rn m_T_tellsThing 81 [l0, vR a] st E u = Rn m_T_tellsThing 82 [l0, vR a] (vR a :: st) E u) ∧
  (∀ (l0 l1 : am_V) (st : List am_V) (E : am_E) (u : am_M), Rn m_T_tellsThing 82 [l0, l1] st E u = Rn m_T_tellsThing 83 [l0, l1] (vI 4 :: st) E u) ∧
  (∀ (l0 l1 : am_V) (a0 : Option Nat) (a1 : Int) (E : am_E) (u : am_M) (hE : SE E), Rn m_T_tellsThing 83 [l0, l1] [vI a1, vR a0, vR (some 138)] E u = bdI (Rn m_T_tellsPin 0 [vR (some 138), vR a0, vI a1, vB false, vB false] [] E u) (KI m_T_tellsThing 86 [l0, l1] [])) ∧
  (∀ (l0 l1 : am_V) (b : Bool) (E : am_E) (u : am_M), Rn m_T_tellsThing 86 [l0, l1] [vI (bI b)] E u = some (some (vI (bI b)), E, u)) ∧
  (∀ (l0 l1 : am_V) (E : am_E) (u : am_M), Rn m_T_tellsThing 86 [l0, l1] [vI 1] E u = some (some (vI 1), E, u)) ∧
  (∀ (l0 l1 : am_V) (E : am_E) (u : am_M), Rn m_T_tellsThing 86 [l0, l1] [vI 0] E u = some (some (vI 0), E, u)) ∧
  (∀ (l1 : am_V) (a : Option Nat) (st : List am_V) (E : am_E) (u : am_M), Rn m_T_tellsThing 87 [vR a, l1] st E u = Rn m_T_tellsThing 88 [vR a, l1] (vR a :: st) E u) ∧
  (∀ (l0 : am_V) (a : Option Nat) (st : List am_V) (E : am_E) (u : am_M), Rn m_T_tellsThing 88 [l0, vR a] st E u = Rn m_T_tellsThing 89 [l0, vR a] (vR a :: st) E u) ∧
  (∀ (l0 l1 : am_V) (a0 : Option Nat) (E : am_E) (u : am_M) (hE : SE E), Rn m_T_tellsThing 89 [l0, l1] [vR a0, vR (some 138)] E u = bdI (Rn m_T_tellsHole 0 [vR (some 138), vR a0, vB false] [] E u) (KI m_T_tellsThing 92 [l0, l1] [])) ∧
  (∀ (l0 l1 : am_V) (b : Bool) (E : am_E) (u : am_M), Rn m_T_tellsThing 92 [l0, l1] [vI (bI b)] E u = some (some (vI (bI b)), E, u)) ∧
  (∀ (l0 l1 : am_V) (E : am_E) (u : am_M), Rn m_T_tellsThing 92 [l0, l1] [vI 1] E u = some (some (vI 1), E, u)) ∧
  (∀ (l0 l1 : am_V) (E : am_E) (u : am_M), Rn m_T_tellsThing 92 [l0, l1] [vI 0] E u = some (some (vI 0), E, u)) ∧
  (∀ (l1 : am_V) (a : Option Nat) (st : List am_V) (E : am_E) (u : am_M), Rn m_T_tellsThing 93 [vR a, l1] st E u = Rn m_T_tellsThing 94 [vR a, l1] (vR a :: st) E u) ∧
  (∀ (l0 : am_V) (a : Option Nat) (st : List am_V) (E : am_E) (u : am_M), Rn m_T_tellsThing 94 [l0, vR a] st E u = Rn m_T_tellsThing 95 [l0, vR a] (vR a :: st) E u) ∧
  (∀ (l0 l1 : am_V) (a0 : Option Nat) (E : am_E) (u : am_M) (hE : SE E), Rn m_T_tellsThing 95 [l0, l1] [vR a0, vR (some 138)] E u = bdI (Rn m_T_tellsThread 0 [vR (some 138), vR a0, vB false, vB false, vB false] [] E u) (KI m_T_tellsThing 98 [l0, l1] [])) ∧
  (∀ (l0 l1 : am_V) (b : Bool) (E : am_E) (u : am_M), Rn m_T_tellsThing 98 [l0, l1] [vI (bI b)] E u = some (some (vI (bI b)), E, u)) ∧
  (∀ (l0 l1 : am_V) (E : am_E) (u : am_M), Rn m_T_tellsThing 98 [l0, l1] [vI 1] E u = some (some (vI 1), E, u)) ∧
  (∀ (l0 l1 : am_V) (E : am_E) (u : am_M), Rn m_T_tellsThing 98 [l0, l1] [vI 0] E u = some (some (vI 0), E, u)) ∧
  (∀ (l0 l1 : am_V) (st : List am_V) (E : am_E) (u : am_M), Rn m_T_tellsThing 99 [l0, l1] st E u = Rn m_T_tellsThing 100 [l0, l1] (vI 0 :: st) E u) ∧
  (∀ (l0 l1 : am_V) (b : Bool) (E : am_E) (u : am_M), Rn m_T_tellsThing 100 [l0, l1] [vI (bI b)] E u = some (some (vI (bI b)), E, u)) ∧
  (∀ (l0 l1 : am_V) (E : am_E) (u : am_M), Rn m_T_tellsThing 100 [l0, l1] [vI 1] E u = some (some (vI 1), E, u)) ∧
  (∀ (l0 l1 : am_V) (E : am_E) (u : am_M), Rn m_T_tellsThing 100 [l0, l1] [vI 0] E u = some (some (vI 0), E, u)) :=
  ⟨fun l1 a st E u => q_go (by decide +kernel : am_Pg 75 0 = some (.aload_n 0, 1, [], 0)) rfl,
  fun l0 l1   E u hE => q_cI (by decide +kernel : am_Pg 75 1 = some (.invokevirtual 40, 3, [3, 64, 1, 3, 3, 0], 0)) (am_call_V (a := []) (st' := []) (Nat.le_of_ble_eq_true rfl) rfl (SE_k3 hE)) (by decide +kernel : am_Lm m_T_next = 2) (Nat.le_of_ble_eq_true rfl) rfl (by decide +kernel),
  (fun l0 l1 a st E u => by
  by_cases h0 : a = 109
  · subst h0; rw [if_pos rfl]; exact q_go (by decide +kernel : am_Pg 75 4 = some (.tableswitch 95 109 116 #[76, 69, 83, 48, 95, 62, 55, 89], 48, [], 0)) rfl
  rw [if_neg h0]
  by_cases h1 : a = 110
  · subst h1; rw [if_pos rfl]; exact q_go (by decide +kernel : am_Pg 75 4 = some (.tableswitch 95 109 116 #[76, 69, 83, 48, 95, 62, 55, 89], 48, [], 0)) rfl
  rw [if_neg h1]
  by_cases h2 : a = 111
  · subst h2; rw [if_pos rfl]; exact q_go (by decide +kernel : am_Pg 75 4 = some (.tableswitch 95 109 116 #[76, 69, 83, 48, 95, 62, 55, 89], 48, [], 0)) rfl
  rw [if_neg h2]
  by_cases h3 : a = 112
  · subst h3; rw [if_pos rfl]; exact q_go (by decide +kernel : am_Pg 75 4 = some (.tableswitch 95 109 116 #[76, 69, 83, 48, 95, 62, 55, 89], 48, [], 0)) rfl
  rw [if_neg h3]
  by_cases h4 : a = 113
  · subst h4; rw [if_pos rfl]; exact q_go (by decide +kernel : am_Pg 75 4 = some (.tableswitch 95 109 116 #[76, 69, 83, 48, 95, 62, 55, 89], 48, [], 0)) rfl
  rw [if_neg h4]
  by_cases h5 : a = 114
  · subst h5; rw [if_pos rfl]; exact q_go (by decide +kernel : am_Pg 75 4 = some (.tableswitch 95 109 116 #[76, 69, 83, 48, 95, 62, 55, 89], 48, [], 0)) rfl
  rw [if_neg h5]
  by_cases h6 : a = 115
  · subst h6; rw [if_pos rfl]; exact q_go (by decide +kernel : am_Pg 75 4 = some (.tableswitch 95 109 116 #[76, 69, 83, 48, 95, 62, 55, 89], 48, [], 0)) rfl
  rw [if_neg h6]
  by_cases h7 : a = 116
  · subst h7; rw [if_pos rfl]; exact q_go (by decide +kernel : am_Pg 75 4 = some (.tableswitch 95 109 116 #[76, 69, 83, 48, 95, 62, 55, 89], 48, [], 0)) rfl
  rw [if_neg h7]
  exact q_go (by decide +kernel : am_Pg 75 4 = some (.tableswitch 95 109 116 #[76, 69, 83, 48, 95, 62, 55, 89], 48, [], 0)) (by simp only [am_step, am_br]; rw [if_pos (by simp; omega)]; rfl)),
  fun l1 a st E u => q_go (by decide +kernel : am_Pg 75 52 = some (.aload_n 0, 1, [], 0)) rfl,
  fun l0 a st E u => q_go (by decide +kernel : am_Pg 75 53 = some (.aload_n 1, 1, [], 0)) rfl,
  fun l0 l1 st E u => q_go (by decide +kernel : am_Pg 75 54 = some (.iconst 0, 1, [], 0)) rfl,
  fun l0 l1 a0 a1  E u hE => q_cI (by decide +kernel : am_Pg 75 55 = some (.invokevirtual 48, 3, [3, 69, 3, 3, 3, 0], 0)) (am_call_V (a := [vR a0, vI a1]) (st' := []) (Nat.le_of_ble_eq_true rfl) rfl (SE_k3 hE)) (by decide +kernel : am_Lm m_T_tellsPin = 5) (Nat.le_of_ble_eq_true rfl) rfl (by decide +kernel),
  fun l0 l1 b E u => by cases b <;> exact q_ret (by decide +kernel : am_Pg 75 58 = some (.ireturn, 1, [1], 0)) rfl,
  fun l0 l1 E u => q_ret (by decide +kernel : am_Pg 75 58 = some (.ireturn, 1, [1], 0)) rfl,
  fun l0 l1 E u => q_ret (by decide +kernel : am_Pg 75 58 = some (.ireturn, 1, [1], 0)) rfl,
  fun l1 a st E u => q_go (by decide +kernel : am_Pg 75 59 = some (.aload_n 0, 1, [], 0)) rfl,
  fun l0 a st E u => q_go (by decide +kernel : am_Pg 75 60 = some (.aload_n 1, 1, [], 0)) rfl,
  fun l0 l1 st E u => q_go (by decide +kernel : am_Pg 75 61 = some (.iconst 1, 1, [], 0)) rfl,
  fun l0 l1 a0 a1  E u hE => q_cI (by decide +kernel : am_Pg 75 62 = some (.invokevirtual 48, 3, [3, 69, 3, 3, 3, 0], 0)) (am_call_V (a := [vR a0, vI a1]) (st' := []) (Nat.le_of_ble_eq_true rfl) rfl (SE_k3 hE)) (by decide +kernel : am_Lm m_T_tellsPin = 5) (Nat.le_of_ble_eq_true rfl) rfl (by decide +kernel),
  fun l0 l1 b E u => by cases b <;> exact q_ret (by decide +kernel : am_Pg 75 65 = some (.ireturn, 1, [1], 0)) rfl,
  fun l0 l1 E u => q_ret (by decide +kernel : am_Pg 75 65 = some (.ireturn, 1, [1], 0)) rfl,
  fun l0 l1 E u => q_ret (by decide +kernel : am_Pg 75 65 = some (.ireturn, 1, [1], 0)) rfl,
  fun l1 a st E u => q_go (by decide +kernel : am_Pg 75 66 = some (.aload_n 0, 1, [], 0)) rfl,
  fun l0 a st E u => q_go (by decide +kernel : am_Pg 75 67 = some (.aload_n 1, 1, [], 0)) rfl,
  fun l0 l1 st E u => q_go (by decide +kernel : am_Pg 75 68 = some (.iconst 2, 1, [], 0)) rfl,
  fun l0 l1 a0 a1  E u hE => q_cI (by decide +kernel : am_Pg 75 69 = some (.invokevirtual 48, 3, [3, 69, 3, 3, 3, 0], 0)) (am_call_V (a := [vR a0, vI a1]) (st' := []) (Nat.le_of_ble_eq_true rfl) rfl (SE_k3 hE)) (by decide +kernel : am_Lm m_T_tellsPin = 5) (Nat.le_of_ble_eq_true rfl) rfl (by decide +kernel),
  fun l0 l1 b E u => by cases b <;> exact q_ret (by decide +kernel : am_Pg 75 72 = some (.ireturn, 1, [1], 0)) rfl,
  fun l0 l1 E u => q_ret (by decide +kernel : am_Pg 75 72 = some (.ireturn, 1, [1], 0)) rfl,
  fun l0 l1 E u => q_ret (by decide +kernel : am_Pg 75 72 = some (.ireturn, 1, [1], 0)) rfl,
  fun l1 a st E u => q_go (by decide +kernel : am_Pg 75 73 = some (.aload_n 0, 1, [], 0)) rfl,
  fun l0 a st E u => q_go (by decide +kernel : am_Pg 75 74 = some (.aload_n 1, 1, [], 0)) rfl,
  fun l0 l1 st E u => q_go (by decide +kernel : am_Pg 75 75 = some (.iconst 3, 1, [], 0)) rfl,
  fun l0 l1 a0 a1  E u hE => q_cI (by decide +kernel : am_Pg 75 76 = some (.invokevirtual 48, 3, [3, 69, 3, 3, 3, 0], 0)) (am_call_V (a := [vR a0, vI a1]) (st' := []) (Nat.le_of_ble_eq_true rfl) rfl (SE_k3 hE)) (by decide +kernel : am_Lm m_T_tellsPin = 5) (Nat.le_of_ble_eq_true rfl) rfl (by decide +kernel),
  fun l0 l1 b E u => by cases b <;> exact q_ret (by decide +kernel : am_Pg 75 79 = some (.ireturn, 1, [1], 0)) rfl,
  fun l0 l1 E u => q_ret (by decide +kernel : am_Pg 75 79 = some (.ireturn, 1, [1], 0)) rfl,
  fun l0 l1 E u => q_ret (by decide +kernel : am_Pg 75 79 = some (.ireturn, 1, [1], 0)) rfl,
  fun l1 a st E u => q_go (by decide +kernel : am_Pg 75 80 = some (.aload_n 0, 1, [], 0)) rfl,
  fun l0 a st E u => q_go (by decide +kernel : am_Pg 75 81 = some (.aload_n 1, 1, [], 0)) rfl,
  fun l0 l1 st E u => q_go (by decide +kernel : am_Pg 75 82 = some (.iconst 4, 1, [], 0)) rfl,
  fun l0 l1 a0 a1  E u hE => q_cI (by decide +kernel : am_Pg 75 83 = some (.invokevirtual 48, 3, [3, 69, 3, 3, 3, 0], 0)) (am_call_V (a := [vR a0, vI a1]) (st' := []) (Nat.le_of_ble_eq_true rfl) rfl (SE_k3 hE)) (by decide +kernel : am_Lm m_T_tellsPin = 5) (Nat.le_of_ble_eq_true rfl) rfl (by decide +kernel),
  fun l0 l1 b E u => by cases b <;> exact q_ret (by decide +kernel : am_Pg 75 86 = some (.ireturn, 1, [1], 0)) rfl,
  fun l0 l1 E u => q_ret (by decide +kernel : am_Pg 75 86 = some (.ireturn, 1, [1], 0)) rfl,
  fun l0 l1 E u => q_ret (by decide +kernel : am_Pg 75 86 = some (.ireturn, 1, [1], 0)) rfl,
  fun l1 a st E u => q_go (by decide +kernel : am_Pg 75 87 = some (.aload_n 0, 1, [], 0)) rfl,
  fun l0 a st E u => q_go (by decide +kernel : am_Pg 75 88 = some (.aload_n 1, 1, [], 0)) rfl,
  fun l0 l1 a0  E u hE => q_cI (by decide +kernel : am_Pg 75 89 = some (.invokevirtual 52, 3, [3, 71, 2, 3, 3, 0], 0)) (am_call_V (a := [vR a0]) (st' := []) (Nat.le_of_ble_eq_true rfl) rfl (SE_k3 hE)) (by decide +kernel : am_Lm m_T_tellsHole = 3) (Nat.le_of_ble_eq_true rfl) rfl (by decide +kernel),
  fun l0 l1 b E u => by cases b <;> exact q_ret (by decide +kernel : am_Pg 75 92 = some (.ireturn, 1, [1], 0)) rfl,
  fun l0 l1 E u => q_ret (by decide +kernel : am_Pg 75 92 = some (.ireturn, 1, [1], 0)) rfl,
  fun l0 l1 E u => q_ret (by decide +kernel : am_Pg 75 92 = some (.ireturn, 1, [1], 0)) rfl,
  fun l1 a st E u => q_go (by decide +kernel : am_Pg 75 93 = some (.aload_n 0, 1, [], 0)) rfl,
  fun l0 a st E u => q_go (by decide +kernel : am_Pg 75 94 = some (.aload_n 1, 1, [], 0)) rfl,
  fun l0 l1 a0  E u hE => q_cI (by decide +kernel : am_Pg 75 95 = some (.invokevirtual 55, 3, [3, 74, 2, 3, 3, 0], 0)) (am_call_V (a := [vR a0]) (st' := []) (Nat.le_of_ble_eq_true rfl) rfl (SE_k3 hE)) (by decide +kernel : am_Lm m_T_tellsThread = 5) (Nat.le_of_ble_eq_true rfl) rfl (by decide +kernel),
  fun l0 l1 b E u => by cases b <;> exact q_ret (by decide +kernel : am_Pg 75 98 = some (.ireturn, 1, [1], 0)) rfl,
  fun l0 l1 E u => q_ret (by decide +kernel : am_Pg 75 98 = some (.ireturn, 1, [1], 0)) rfl,
  fun l0 l1 E u => q_ret (by decide +kernel : am_Pg 75 98 = some (.ireturn, 1, [1], 0)) rfl,
  fun l0 l1 st E u => q_go (by decide +kernel : am_Pg 75 99 = some (.iconst 0, 1, [], 0)) rfl,
  fun l0 l1 b E u => by cases b <;> exact q_ret (by decide +kernel : am_Pg 75 100 = some (.ireturn, 1, [1], 0)) rfl,
  fun l0 l1 E u => q_ret (by decide +kernel : am_Pg 75 100 = some (.ireturn, 1, [1], 0)) rfl,
  fun l0 l1 E u => q_ret (by decide +kernel : am_Pg 75 100 = some (.ireturn, 1, [1], 0)) rfl⟩
theorem h_T_tells_55 : ∀ (l0 l1 l2 l3 : am_V) (a : Int) (st : List am_V) (E : am_E) (u : am_M), Rn m_T_tells 55 [l0, l1, l2, l3, vI a] st E u = Rn m_T_tells 57 [l0, l1, l2, l3, vI a] (vI a :: st) E u :=
  fun l0 l1 l2 l3 a st E u => q_go (by decide +kernel : am_Pg 76 55 = some (.iload 4, 2, [], 0)) rfl
theorem x_T_tells :
  (∀ (l1 l2 l3 l4 : am_V) (a : Option Nat) (st : List am_V) (E : am_E) (u : am_M), Rn m_T_tells 0 [vR a, l1, l2, l3, l4] st E u = Rn m_T_tells 1 [vR a, l1, l2, l3, l4] (vR a :: st) E u) ∧
  (∀ (l0 l1 l2 l3 l4 : am_V) (st : List am_V) (E : am_E) (u : am_M), Rn m_T_tells 1 [l0, l1, l2, l3, l4] st E u = Rn m_T_tells 2 [l0, l1, l2, l3, l4] (vI 0 :: st) E u) ∧
  (∀ (l0 l1 l2 l3 l4 : am_V) (a : Int) (st : List am_V) (E : am_E) (u : am_M) (hE : SE E), Rn m_T_tells 2 [l0, l1, l2, l3, l4] (vI a :: vR (some 138) :: st) E u = Rn m_T_tells 5 [l0, l1, l2, l3, l4] st E (am_up u 138 2 a)) ∧
  (∀ (l1 l2 l3 l4 : am_V) (a : Option Nat) (st : List am_V) (E : am_E) (u : am_M), Rn m_T_tells 5 [vR a, l1, l2, l3, l4] st E u = Rn m_T_tells 6 [vR a, l1, l2, l3, l4] (vR a :: st) E u) ∧
  (∀ (l0 l1 l2 l3 l4 : am_V) (st : List am_V) (E : am_E) (u : am_M), Rn m_T_tells 6 [l0, l1, l2, l3, l4] st E u = Rn m_T_tells 7 [l0, l1, l2, l3, l4] (vI 3 :: st) E u) ∧
  (∀ (l0 l1 l2 l3 l4 : am_V) (st : List am_V) (E : am_E) (u : am_M), Rn m_T_tells 7 [l0, l1, l2, l3, l4] st E u = Rn m_T_tells 9 [l0, l1, l2, l3, l4] (vI 7 :: st) E u) ∧
  (∀ (l0 l1 l2 l3 l4 : am_V) (a0 : Int) (a1 : Int) (E : am_E) (u : am_M) (hE : SE E), Rn m_T_tells 9 [l0, l1, l2, l3, l4] [vI a1, vI a0, vR (some 138)] E u = bdI (Rn m_T_digit 0 [vR (some 138), vI a0, vI a1, vB false] [] E u) (KI m_T_tells 12 [l0, l1, l2, l3, l4] [])) ∧
  (∀ (l0 l1 l2 l3 l4 : am_V) (a : Int) (st : List am_V) (E : am_E) (u : am_M), Rn m_T_tells 12 [l0, l1, l2, l3, l4] (vI a :: st) E u = Rn m_T_tells 13 [l0, am_fx l1, vI a, l3, l4] st E u) ∧
  (∀ (l0 l1 l3 l4 : am_V) (a : Int) (st : List am_V) (E : am_E) (u : am_M), Rn m_T_tells 13 [l0, l1, vI a, l3, l4] st E u = Rn m_T_tells 14 [l0, l1, vI a, l3, l4] (vI a :: st) E u) ∧
  (∀ (l0 l1 l2 l3 l4 : am_V) (st : List am_V) (E : am_E) (u : am_M), Rn m_T_tells 14 [l0, l1, l2, l3, l4] st E u = Rn m_T_tells 16 [l0, l1, l2, l3, l4] (vI (-4) :: st) E u) ∧
  (∀ (l0 l1 l2 l3 l4 : am_V) (a b : Int) (st : List am_V) (E : am_E) (u : am_M), Rn m_T_tells 16 [l0, l1, l2, l3, l4] (vI b :: vI a :: st) E u = if a = b then Rn m_T_tells 28 [l0, l1, l2, l3, l4] st E u else Rn m_T_tells 19 [l0, l1, l2, l3, l4] st E u) ∧
  (∀ (l1 l2 l3 l4 : am_V) (a : Option Nat) (st : List am_V) (E : am_E) (u : am_M), Rn m_T_tells 19 [vR a, l1, l2, l3, l4] st E u = Rn m_T_tells 20 [vR a, l1, l2, l3, l4] (vR a :: st) E u) ∧
  (∀ (l0 l1 l2 l3 l4 : am_V) (st : List am_V) (E : am_E) (u : am_M), Rn m_T_tells 20 [l0, l1, l2, l3, l4] st E u = Rn m_T_tells 22 [l0, l1, l2, l3, l4] (vI 120 :: st) E u) ∧
  (∀ (l0 l1 l2 l3 l4 : am_V) (a0 : Int) (E : am_E) (u : am_M) (hE : SE E), Rn m_T_tells 22 [l0, l1, l2, l3, l4] [vI a0, vR (some 138)] E u = bdI (Rn m_T_goesPast 0 [vR (some 138), vI a0] [] E u) (KI m_T_tells 25 [l0, l1, l2, l3, l4] [])) ∧
  (∀ (l0 l1 l2 l3 l4 : am_V) (a : Int) (st : List am_V) (E : am_E) (u : am_M), Rn m_T_tells 25 [l0, l1, l2, l3, l4] (vI a :: st) E u = if a = 0 then Rn m_T_tells 28 [l0, l1, l2, l3, l4] st E u else Rn m_T_tells 30 [l0, l1, l2, l3, l4] st E u) ∧
  (∀ (l0 l1 l2 l3 l4 : am_V) (st : List am_V) (E : am_E) (u : am_M), Rn m_T_tells 28 [l0, l1, l2, l3, l4] st E u = Rn m_T_tells 29 [l0, l1, l2, l3, l4] (vI 0 :: st) E u) ∧
  (∀ (l0 l1 l2 l3 l4 : am_V) (b : Bool) (E : am_E) (u : am_M), Rn m_T_tells 29 [l0, l1, l2, l3, l4] [vI (bI b)] E u = some (some (vI (bI b)), E, u)) ∧
  (∀ (l0 l1 l2 l3 l4 : am_V) (E : am_E) (u : am_M), Rn m_T_tells 29 [l0, l1, l2, l3, l4] [vI 1] E u = some (some (vI 1), E, u)) ∧
  (∀ (l0 l1 l2 l3 l4 : am_V) (E : am_E) (u : am_M), Rn m_T_tells 29 [l0, l1, l2, l3, l4] [vI 0] E u = some (some (vI 0), E, u)) ∧
  (∀ (l1 l2 l3 l4 : am_V) (a : Option Nat) (st : List am_V) (E : am_E) (u : am_M), Rn m_T_tells 30 [vR a, l1, l2, l3, l4] st E u = Rn m_T_tells 31 [vR a, l1, l2, l3, l4] (vR a :: st) E u) ∧
  (∀ (l0 l1 l2 l3 l4 : am_V) (st : List am_V) (E : am_E) (u : am_M), Rn m_T_tells 31 [l0, l1, l2, l3, l4] st E u = Rn m_T_tells 32 [l0, l1, l2, l3, l4] (vI 3 :: st) E u) ∧
  (∀ (l0 l1 l2 l3 l4 : am_V) (st : List am_V) (E : am_E) (u : am_M), Rn m_T_tells 32 [l0, l1, l2, l3, l4] st E u = Rn m_T_tells 34 [l0, l1, l2, l3, l4] (vI 7 :: st) E u) ∧
  (∀ (l0 l1 l2 l3 l4 : am_V) (a0 : Int) (a1 : Int) (E : am_E) (u : am_M) (hE : SE E), Rn m_T_tells 34 [l0, l1, l2, l3, l4] [vI a1, vI a0, vR (some 138)] E u = bdI (Rn m_T_digit 0 [vR (some 138), vI a0, vI a1, vB false] [] E u) (KI m_T_tells 37 [l0, l1, l2, l3, l4] [])) ∧
  (∀ (l0 l1 l2 l3 l4 : am_V) (a : Int) (st : List am_V) (E : am_E) (u : am_M), Rn m_T_tells 37 [l0, l1, l2, l3, l4] (vI a :: st) E u = Rn m_T_tells 38 [l0, l1, am_fx l2, vI a, l4] st E u) ∧
  (∀ (l0 l1 l2 l4 : am_V) (a : Int) (st : List am_V) (E : am_E) (u : am_M), Rn m_T_tells 38 [l0, l1, l2, vI a, l4] st E u = Rn m_T_tells 39 [l0, l1, l2, vI a, l4] (vI a :: st) E u) ∧
  (∀ (l0 l1 l2 l3 l4 : am_V) (st : List am_V) (E : am_E) (u : am_M), Rn m_T_tells 39 [l0, l1, l2, l3, l4] st E u = Rn m_T_tells 41 [l0, l1, l2, l3, l4] (vI (-4) :: st) E u) ∧
  (∀ (l0 l1 l2 l3 l4 : am_V) (a b : Int) (st : List am_V) (E : am_E) (u : am_M), Rn m_T_tells 41 [l0, l1, l2, l3, l4] (vI b :: vI a :: st) E u = if a = b then Rn m_T_tells 44 [l0, l1, l2, l3, l4] st E u else Rn m_T_tells 46 [l0, l1, l2, l3, l4] st E u) ∧
  (∀ (l0 l1 l2 l3 l4 : am_V) (st : List am_V) (E : am_E) (u : am_M), Rn m_T_tells 44 [l0, l1, l2, l3, l4] st E u = Rn m_T_tells 45 [l0, l1, l2, l3, l4] (vI 0 :: st) E u) ∧
  (∀ (l0 l1 l2 l3 l4 : am_V) (b : Bool) (E : am_E) (u : am_M), Rn m_T_tells 45 [l0, l1, l2, l3, l4] [vI (bI b)] E u = some (some (vI (bI b)), E, u)) ∧
  (∀ (l0 l1 l2 l3 l4 : am_V) (E : am_E) (u : am_M), Rn m_T_tells 45 [l0, l1, l2, l3, l4] [vI 1] E u = some (some (vI 1), E, u)) ∧
  (∀ (l0 l1 l2 l3 l4 : am_V) (E : am_E) (u : am_M), Rn m_T_tells 45 [l0, l1, l2, l3, l4] [vI 0] E u = some (some (vI 0), E, u)) ∧
  (∀ (l0 l2 l3 l4 : am_V) (a : Option Nat) (st : List am_V) (E : am_E) (u : am_M), Rn m_T_tells 46 [l0, vR a, l2, l3, l4] st E u = Rn m_T_tells 47 [l0, vR a, l2, l3, l4] (vR a :: st) E u) ∧
  (∀ (l0 l1 l3 l4 : am_V) (a : Int) (st : List am_V) (E : am_E) (u : am_M), Rn m_T_tells 47 [l0, l1, vI a, l3, l4] st E u = Rn m_T_tells 48 [l0, l1, vI a, l3, l4] (vI a :: st) E u) ∧
  (∀ (l0 l1 l2 l4 : am_V) (a : Int) (st : List am_V) (E : am_E) (u : am_M), Rn m_T_tells 48 [l0, l1, l2, vI a, l4] st E u = Rn m_T_tells 49 [l0, l1, l2, vI a, l4] (vI a :: st) E u) ∧
  (∀ (l0 l1 l2 l3 l4 : am_V) (k : Nat) (a0 : Int) (a1 : Int) (E : am_E) (u : am_M) (hE : SE E) (hk : cuB k), Rn m_T_tells 49 [l0, l1, l2, l3, l4] [vI a1, vI a0, vR (some k)] E u = bdV (Rn m_C_empties 0 [vR (some k), vI a0, vI a1] [] E u) (KV m_T_tells 52 [l0, l1, l2, l3, l4] [])) ∧
  (∀ (l0 l1 l2 l3 l4 : am_V) (st : List am_V) (E : am_E) (u : am_M), Rn m_T_tells 52 [l0, l1, l2, l3, l4] st E u = Rn m_T_tells 53 [l0, l1, l2, l3, l4] (vI 0 :: st) E u) ∧
  (∀ (l0 l1 l2 l3 l4 : am_V) (a : Int) (st : List am_V) (E : am_E) (u : am_M), Rn m_T_tells 53 [l0, l1, l2, l3, l4] (vI a :: st) E u = Rn m_T_tells 55 [l0, l1, l2, am_fx l3, vI a] st E u) ∧
  (∀ (l0 l1 l2 l3 l4 : am_V) (st : List am_V) (E : am_E) (u : am_M), Rn m_T_tells 57 [l0, l1, l2, l3, l4] st E u = Rn m_T_tells 59 [l0, l1, l2, l3, l4] (vI 120 :: st) E u) ∧
  (∀ (l0 l1 l2 l3 l4 : am_V) (a b : Int) (st : List am_V) (E : am_E) (u : am_M), Rn m_T_tells 59 [l0, l1, l2, l3, l4] (vI b :: vI a :: st) E u = if a < b then Rn m_T_tells 62 [l0, l1, l2, l3, l4] st E u else Rn m_T_tells 95 [l0, l1, l2, l3, l4] st E u) ∧
  (∀ (l1 l2 l3 l4 : am_V) (a : Option Nat) (st : List am_V) (E : am_E) (u : am_M), Rn m_T_tells 62 [vR a, l1, l2, l3, l4] st E u = Rn m_T_tells 63 [vR a, l1, l2, l3, l4] (vR a :: st) E u) ∧
  (∀ (l0 l1 l2 l3 l4 : am_V) (E : am_E) (u : am_M) (hE : SE E), Rn m_T_tells 63 [l0, l1, l2, l3, l4] [vR (some 138)] E u = bdI (Rn m_T_next 0 [vR (some 138), vB false] [] E u) (KI m_T_tells 66 [l0, l1, l2, l3, l4] [])) ∧
  (∀ (l0 l1 l2 l3 l4 : am_V) (st : List am_V) (E : am_E) (u : am_M), Rn m_T_tells 66 [l0, l1, l2, l3, l4] st E u = Rn m_T_tells 67 [l0, l1, l2, l3, l4] (vI (-1) :: st) E u) ∧
  (∀ (l0 l1 l2 l3 l4 : am_V) (a b : Int) (st : List am_V) (E : am_E) (u : am_M), Rn m_T_tells 67 [l0, l1, l2, l3, l4] (vI b :: vI a :: st) E u = if a = b then Rn m_T_tells 95 [l0, l1, l2, l3, l4] st E u else Rn m_T_tells 70 [l0, l1, l2, l3, l4] st E u) ∧
  (∀ (l1 l2 l3 l4 : am_V) (a : Option Nat) (st : List am_V) (E : am_E) (u : am_M), Rn m_T_tells 70 [vR a, l1, l2, l3, l4] st E u = Rn m_T_tells 71 [vR a, l1, l2, l3, l4] (vR a :: st) E u) ∧
  (∀ (l0 l1 l2 l3 l4 : am_V) (st : List am_V) (E : am_E) (u : am_M), Rn m_T_tells 71 [l0, l1, l2, l3, l4] st E u = Rn m_T_tells 73 [l0, l1, l2, l3, l4] (vI 59 :: st) E u) ∧
  (∀ (l0 l1 l2 l3 l4 : am_V) (a0 : Int) (E : am_E) (u : am_M) (hE : SE E), Rn m_T_tells 73 [l0, l1, l2, l3, l4] [vI a0, vR (some 138)] E u = bdI (Rn m_T_goesPast 0 [vR (some 138), vI a0] [] E u) (KI m_T_tells 76 [l0, l1, l2, l3, l4] [])) ∧
  (∀ (l0 l1 l2 l3 l4 : am_V) (a : Int) (st : List am_V) (E : am_E) (u : am_M), Rn m_T_tells 76 [l0, l1, l2, l3, l4] (vI a :: st) E u = if a = 0 then Rn m_T_tells 87 [l0, l1, l2, l3, l4] st E u else Rn m_T_tells 79 [l0, l1, l2, l3, l4] st E u) ∧
  (∀ (l1 l2 l3 l4 : am_V) (a : Option Nat) (st : List am_V) (E : am_E) (u : am_M), Rn m_T_tells 79 [vR a, l1, l2, l3, l4] st E u = Rn m_T_tells 80 [vR a, l1, l2, l3, l4] (vR a :: st) E u) ∧
  (∀ (l0 l2 l3 l4 : am_V) (a : Option Nat) (st : List am_V) (E : am_E) (u : am_M), Rn m_T_tells 80 [l0, vR a, l2, l3, l4] st E u = Rn m_T_tells 81 [l0, vR a, l2, l3, l4] (vR a :: st) E u) ∧
  (∀ (l0 l1 l2 l3 l4 : am_V) (a0 : Option Nat) (E : am_E) (u : am_M) (hE : SE E), Rn m_T_tells 81 [l0, l1, l2, l3, l4] [vR a0, vR (some 138)] E u = bdI (Rn m_T_tellsThing 0 [vR (some 138), vR a0] [] E u) (KI m_T_tells 84 [l0, l1, l2, l3, l4] [])) ∧
  (∀ (l0 l1 l2 l3 l4 : am_V) (a : Int) (st : List am_V) (E : am_E) (u : am_M), Rn m_T_tells 84 [l0, l1, l2, l3, l4] (vI a :: st) E u = if a = 0 then Rn m_T_tells 87 [l0, l1, l2, l3, l4] st E u else Rn m_T_tells 89 [l0, l1, l2, l3, l4] st E u) ∧
  (∀ (l0 l1 l2 l3 l4 : am_V) (st : List am_V) (E : am_E) (u : am_M), Rn m_T_tells 87 [l0, l1, l2, l3, l4] st E u = Rn m_T_tells 88 [l0, l1, l2, l3, l4] (vI 0 :: st) E u) ∧
  (∀ (l0 l1 l2 l3 l4 : am_V) (b : Bool) (E : am_E) (u : am_M), Rn m_T_tells 88 [l0, l1, l2, l3, l4] [vI (bI b)] E u = some (some (vI (bI b)), E, u)) ∧
  (∀ (l0 l1 l2 l3 l4 : am_V) (E : am_E) (u : am_M), Rn m_T_tells 88 [l0, l1, l2, l3, l4] [vI 1] E u = some (some (vI 1), E, u)) ∧
  (∀ (l0 l1 l2 l3 l4 : am_V) (E : am_E) (u : am_M), Rn m_T_tells 88 [l0, l1, l2, l3, l4] [vI 0] E u = some (some (vI 0), E, u)) ∧
  (∀ (l0 l1 l2 l3 : am_V) (a : Int) (st : List am_V) (E : am_E) (u : am_M), Rn m_T_tells 89 [l0, l1, l2, l3, vI a] st E u = Rn m_T_tells 92 [l0, l1, l2, am_fx l3, vI (w32 (a + 1))] st E u) ∧
  (∀ (l0 l1 l2 l3 l4 : am_V) (st : List am_V) (E : am_E) (u : am_M), Rn m_T_tells 92 [l0, l1, l2, l3, l4] st E u = Rn m_T_tells 55 [l0, l1, l2, l3, l4] st E u) ∧
  (∀ (l0 l1 l2 l3 l4 : am_V) (st : List am_V) (E : am_E) (u : am_M), Rn m_T_tells 95 [l0, l1, l2, l3, l4] st E u = Rn m_T_tells 96 [l0, l1, l2, l3, l4] (vI 1 :: st) E u) ∧
  (∀ (l0 l1 l2 l3 l4 : am_V) (b : Bool) (E : am_E) (u : am_M), Rn m_T_tells 96 [l0, l1, l2, l3, l4] [vI (bI b)] E u = some (some (vI (bI b)), E, u)) ∧
  (∀ (l0 l1 l2 l3 l4 : am_V) (E : am_E) (u : am_M), Rn m_T_tells 96 [l0, l1, l2, l3, l4] [vI 1] E u = some (some (vI 1), E, u)) ∧
  (∀ (l0 l1 l2 l3 l4 : am_V) (E : am_E) (u : am_M), Rn m_T_tells 96 [l0, l1, l2, l3, l4] [vI 0] E u = some (some (vI 0), E, u)) :=
  ⟨fun l1 l2 l3 l4 a st E u => q_go (by decide +kernel : am_Pg 76 0 = some (.aload_n 0, 1, [], 0)) rfl,
  fun l0 l1 l2 l3 l4 st E u => q_go (by decide +kernel : am_Pg 76 1 = some (.iconst 0, 1, [], 0)) rfl,
  fun l0 l1 l2 l3 l4 a st E u hE => q_pfI (by decide +kernel : am_Pg 76 2 = some (.putfield 23, 3, [3, 3, 2, 0], 0)) (SE_k3 hE) rfl,
  fun l1 l2 l3 l4 a st E u => q_go (by decide +kernel : am_Pg 76 5 = some (.aload_n 0, 1, [], 0)) rfl,
  fun l0 l1 l2 l3 l4 st E u => q_go (by decide +kernel : am_Pg 76 6 = some (.iconst 3, 1, [], 0)) rfl,
  fun l0 l1 l2 l3 l4 st E u => q_go (by decide +kernel : am_Pg 76 7 = some (.bipush 7, 2, [], 0)) rfl,
  fun l0 l1 l2 l3 l4 a0 a1  E u hE => q_cI (by decide +kernel : am_Pg 76 9 = some (.invokevirtual 26, 3, [3, 65, 3, 3, 3, 0], 0)) (am_call_V (a := [vI a0, vI a1]) (st' := []) (Nat.le_of_ble_eq_true rfl) rfl (SE_k3 hE)) (by decide +kernel : am_Lm m_T_digit = 4) (Nat.le_of_ble_eq_true rfl) rfl (by decide +kernel),
  fun l0 l1 l2 l3 l4 a st E u => q_go (by decide +kernel : am_Pg 76 12 = some (.istore_n 2, 1, [], 0)) rfl,
  fun l0 l1 l3 l4 a st E u => q_go (by decide +kernel : am_Pg 76 13 = some (.iload_n 2, 1, [], 0)) rfl,
  fun l0 l1 l2 l3 l4 st E u => q_go (by decide +kernel : am_Pg 76 14 = some (.bipush (-4), 2, [], 0)) rfl,
  fun l0 l1 l2 l3 l4 a b st E u => q_icmp_eq (tgt := 28) (by decide +kernel : am_Pg 76 16 = some (.if_icmp .eq 12, 3, [], 0)) (by decide),
  fun l1 l2 l3 l4 a st E u => q_go (by decide +kernel : am_Pg 76 19 = some (.aload_n 0, 1, [], 0)) rfl,
  fun l0 l1 l2 l3 l4 st E u => q_go (by decide +kernel : am_Pg 76 20 = some (.bipush 120, 2, [], 0)) rfl,
  fun l0 l1 l2 l3 l4 a0  E u hE => q_cI (by decide +kernel : am_Pg 76 22 = some (.invokevirtual 30, 3, [3, 66, 2, 3, 3, 0], 0)) (am_call_V (a := [vI a0]) (st' := []) (Nat.le_of_ble_eq_true rfl) rfl (SE_k3 hE)) (by decide +kernel : am_Lm m_T_goesPast = 2) (Nat.le_of_ble_eq_true rfl) rfl (by decide +kernel),
  fun l0 l1 l2 l3 l4 a st E u => q_if_ne (tgt := 30) (by decide +kernel : am_Pg 76 25 = some (.ifCond .ne 5, 3, [], 0)) (by decide),
  fun l0 l1 l2 l3 l4 st E u => q_go (by decide +kernel : am_Pg 76 28 = some (.iconst 0, 1, [], 0)) rfl,
  fun l0 l1 l2 l3 l4 b E u => by cases b <;> exact q_ret (by decide +kernel : am_Pg 76 29 = some (.ireturn, 1, [1], 0)) rfl,
  fun l0 l1 l2 l3 l4 E u => q_ret (by decide +kernel : am_Pg 76 29 = some (.ireturn, 1, [1], 0)) rfl,
  fun l0 l1 l2 l3 l4 E u => q_ret (by decide +kernel : am_Pg 76 29 = some (.ireturn, 1, [1], 0)) rfl,
  fun l1 l2 l3 l4 a st E u => q_go (by decide +kernel : am_Pg 76 30 = some (.aload_n 0, 1, [], 0)) rfl,
  fun l0 l1 l2 l3 l4 st E u => q_go (by decide +kernel : am_Pg 76 31 = some (.iconst 3, 1, [], 0)) rfl,
  fun l0 l1 l2 l3 l4 st E u => q_go (by decide +kernel : am_Pg 76 32 = some (.bipush 7, 2, [], 0)) rfl,
  fun l0 l1 l2 l3 l4 a0 a1  E u hE => q_cI (by decide +kernel : am_Pg 76 34 = some (.invokevirtual 26, 3, [3, 65, 3, 3, 3, 0], 0)) (am_call_V (a := [vI a0, vI a1]) (st' := []) (Nat.le_of_ble_eq_true rfl) rfl (SE_k3 hE)) (by decide +kernel : am_Lm m_T_digit = 4) (Nat.le_of_ble_eq_true rfl) rfl (by decide +kernel),
  fun l0 l1 l2 l3 l4 a st E u => q_go (by decide +kernel : am_Pg 76 37 = some (.istore_n 3, 1, [], 0)) rfl,
  fun l0 l1 l2 l4 a st E u => q_go (by decide +kernel : am_Pg 76 38 = some (.iload_n 3, 1, [], 0)) rfl,
  fun l0 l1 l2 l3 l4 st E u => q_go (by decide +kernel : am_Pg 76 39 = some (.bipush (-4), 2, [], 0)) rfl,
  fun l0 l1 l2 l3 l4 a b st E u => q_icmp_ne (tgt := 46) (by decide +kernel : am_Pg 76 41 = some (.if_icmp .ne 5, 3, [], 0)) (by decide),
  fun l0 l1 l2 l3 l4 st E u => q_go (by decide +kernel : am_Pg 76 44 = some (.iconst 0, 1, [], 0)) rfl,
  fun l0 l1 l2 l3 l4 b E u => by cases b <;> exact q_ret (by decide +kernel : am_Pg 76 45 = some (.ireturn, 1, [1], 0)) rfl,
  fun l0 l1 l2 l3 l4 E u => q_ret (by decide +kernel : am_Pg 76 45 = some (.ireturn, 1, [1], 0)) rfl,
  fun l0 l1 l2 l3 l4 E u => q_ret (by decide +kernel : am_Pg 76 45 = some (.ireturn, 1, [1], 0)) rfl,
  fun l0 l2 l3 l4 a st E u => q_go (by decide +kernel : am_Pg 76 46 = some (.aload_n 1, 1, [], 0)) rfl,
  fun l0 l1 l3 l4 a st E u => q_go (by decide +kernel : am_Pg 76 47 = some (.iload_n 2, 1, [], 0)) rfl,
  fun l0 l1 l2 l4 a st E u => q_go (by decide +kernel : am_Pg 76 48 = some (.iload_n 3, 1, [], 0)) rfl,
  fun l0 l1 l2 l3 l4 k a0 a1  E u hE hk => q_cV (by decide +kernel : am_Pg 76 49 = some (.invokevirtual 34, 3, [3, 9, 3, 0, 14, 1], 0)) (am_call_V (a := [vI a0, vI a1]) (st' := []) (Nat.le_of_ble_eq_true rfl) rfl (SE_k0 hE hk)) (by decide +kernel : am_Lm m_C_empties = 3) (Nat.le_of_ble_eq_true rfl) rfl (by decide +kernel),
  fun l0 l1 l2 l3 l4 st E u => q_go (by decide +kernel : am_Pg 76 52 = some (.iconst 0, 1, [], 0)) rfl,
  fun l0 l1 l2 l3 l4 a st E u => q_go (by decide +kernel : am_Pg 76 53 = some (.istore 4, 2, [], 0)) rfl,
  fun l0 l1 l2 l3 l4 st E u => q_go (by decide +kernel : am_Pg 76 57 = some (.bipush 120, 2, [], 0)) rfl,
  fun l0 l1 l2 l3 l4 a b st E u => q_icmp_ge (tgt := 95) (by decide +kernel : am_Pg 76 59 = some (.if_icmp .ge 36, 3, [], 0)) (by decide),
  fun l1 l2 l3 l4 a st E u => q_go (by decide +kernel : am_Pg 76 62 = some (.aload_n 0, 1, [], 0)) rfl,
  fun l0 l1 l2 l3 l4   E u hE => q_cI (by decide +kernel : am_Pg 76 63 = some (.invokevirtual 40, 3, [3, 64, 1, 3, 3, 0], 0)) (am_call_V (a := []) (st' := []) (Nat.le_of_ble_eq_true rfl) rfl (SE_k3 hE)) (by decide +kernel : am_Lm m_T_next = 2) (Nat.le_of_ble_eq_true rfl) rfl (by decide +kernel),
  fun l0 l1 l2 l3 l4 st E u => q_go (by decide +kernel : am_Pg 76 66 = some (.iconst (-1), 1, [], 0)) rfl,
  fun l0 l1 l2 l3 l4 a b st E u => q_icmp_eq (tgt := 95) (by decide +kernel : am_Pg 76 67 = some (.if_icmp .eq 28, 3, [], 0)) (by decide),
  fun l1 l2 l3 l4 a st E u => q_go (by decide +kernel : am_Pg 76 70 = some (.aload_n 0, 1, [], 0)) rfl,
  fun l0 l1 l2 l3 l4 st E u => q_go (by decide +kernel : am_Pg 76 71 = some (.bipush 59, 2, [], 0)) rfl,
  fun l0 l1 l2 l3 l4 a0  E u hE => q_cI (by decide +kernel : am_Pg 76 73 = some (.invokevirtual 30, 3, [3, 66, 2, 3, 3, 0], 0)) (am_call_V (a := [vI a0]) (st' := []) (Nat.le_of_ble_eq_true rfl) rfl (SE_k3 hE)) (by decide +kernel : am_Lm m_T_goesPast = 2) (Nat.le_of_ble_eq_true rfl) rfl (by decide +kernel),
  fun l0 l1 l2 l3 l4 a st E u => q_if_eq (tgt := 87) (by decide +kernel : am_Pg 76 76 = some (.ifCond .eq 11, 3, [], 0)) (by decide),
  fun l1 l2 l3 l4 a st E u => q_go (by decide +kernel : am_Pg 76 79 = some (.aload_n 0, 1, [], 0)) rfl,
  fun l0 l2 l3 l4 a st E u => q_go (by decide +kernel : am_Pg 76 80 = some (.aload_n 1, 1, [], 0)) rfl,
  fun l0 l1 l2 l3 l4 a0  E u hE => q_cI (by decide +kernel : am_Pg 76 81 = some (.invokevirtual 44, 3, [3, 75, 2, 3, 3, 0], 0)) (am_call_V (a := [vR a0]) (st' := []) (Nat.le_of_ble_eq_true rfl) rfl (SE_k3 hE)) (by decide +kernel : am_Lm m_T_tellsThing = 2) (Nat.le_of_ble_eq_true rfl) rfl (by decide +kernel),
  fun l0 l1 l2 l3 l4 a st E u => q_if_ne (tgt := 89) (by decide +kernel : am_Pg 76 84 = some (.ifCond .ne 5, 3, [], 0)) (by decide),
  fun l0 l1 l2 l3 l4 st E u => q_go (by decide +kernel : am_Pg 76 87 = some (.iconst 0, 1, [], 0)) rfl,
  fun l0 l1 l2 l3 l4 b E u => by cases b <;> exact q_ret (by decide +kernel : am_Pg 76 88 = some (.ireturn, 1, [1], 0)) rfl,
  fun l0 l1 l2 l3 l4 E u => q_ret (by decide +kernel : am_Pg 76 88 = some (.ireturn, 1, [1], 0)) rfl,
  fun l0 l1 l2 l3 l4 E u => q_ret (by decide +kernel : am_Pg 76 88 = some (.ireturn, 1, [1], 0)) rfl,
  fun l0 l1 l2 l3 a st E u => q_go (by decide +kernel : am_Pg 76 89 = some (.iinc 4 1, 3, [], 0)) rfl,
  fun l0 l1 l2 l3 l4 st E u => q_go (by decide +kernel : am_Pg 76 92 = some (.goto (-37), 3, [], 0)) rfl,
  fun l0 l1 l2 l3 l4 st E u => q_go (by decide +kernel : am_Pg 76 95 = some (.iconst 1, 1, [], 0)) rfl,
  fun l0 l1 l2 l3 l4 b E u => by cases b <;> exact q_ret (by decide +kernel : am_Pg 76 96 = some (.ireturn, 1, [1], 0)) rfl,
  fun l0 l1 l2 l3 l4 E u => q_ret (by decide +kernel : am_Pg 76 96 = some (.ireturn, 1, [1], 0)) rfl,
  fun l0 l1 l2 l3 l4 E u => q_ret (by decide +kernel : am_Pg 76 96 = some (.ireturn, 1, [1], 0)) rfl⟩
theorem x_C_becomes :
  (∀ (l0 : am_V) (a : Option Nat) (st : List am_V) (E : am_E) (u : am_M), Rn m_C_becomes 0 [l0, vR a] st E u = Rn m_C_becomes 1 [l0, vR a] (vR a :: st) E u) ∧
  (∀ (l0 l1 : am_V) (st : List am_V) (E : am_E) (u : am_M), Rn m_C_becomes 1 [l0, l1] (vR none :: st) E u = Rn m_C_becomes 4 [l0, l1] st E u) ∧
  (∀ (l0 l1 : am_V) (a : Nat) (st : List am_V) (E : am_E) (u : am_M), Rn m_C_becomes 1 [l0, l1] (vR (some a) :: st) E u = Rn m_C_becomes 5 [l0, l1] st E u) ∧
  (∀ (l0 l1 : am_V) (E : am_E) (u : am_M), Rn m_C_becomes 4 [l0, l1] [] E u = some (none, E, u)) ∧
  (∀ (l1 : am_V) (a : Option Nat) (st : List am_V) (E : am_E) (u : am_M), Rn m_C_becomes 5 [vR a, l1] st E u = Rn m_C_becomes 6 [vR a, l1] (vR a :: st) E u) ∧
  (∀ (l0 : am_V) (a : Option Nat) (st : List am_V) (E : am_E) (u : am_M), Rn m_C_becomes 6 [l0, vR a] st E u = Rn m_C_becomes 7 [l0, vR a] (vR a :: st) E u) ∧
  (∀ (l0 l1 : am_V) (k : Nat) (st : List am_V) (E : am_E) (u : am_M) (hE : SE E) (hk : cuB k), Rn m_C_becomes 7 [l0, l1] (vR (some k) :: st) E u = Rn m_C_becomes 10 [l0, l1] (vI (u k 0) :: st) E u) ∧
  (∀ (l0 l1 : am_V) (k : Nat) (a : Int) (st : List am_V) (E : am_E) (u : am_M) (hE : SE E) (hk : cuB k), Rn m_C_becomes 10 [l0, l1] (vI a :: vR (some k) :: st) E u = Rn m_C_becomes 13 [l0, l1] st E (am_up u k 0 a)) ∧
  (∀ (l1 : am_V) (a : Option Nat) (st : List am_V) (E : am_E) (u : am_M), Rn m_C_becomes 13 [vR a, l1] st E u = Rn m_C_becomes 14 [vR a, l1] (vR a :: st) E u) ∧
  (∀ (l0 : am_V) (a : Option Nat) (st : List am_V) (E : am_E) (u : am_M), Rn m_C_becomes 14 [l0, vR a] st E u = Rn m_C_becomes 15 [l0, vR a] (vR a :: st) E u) ∧
  (∀ (l0 l1 : am_V) (k : Nat) (st : List am_V) (E : am_E) (u : am_M) (hE : SE E) (hk : cuB k), Rn m_C_becomes 15 [l0, l1] (vR (some k) :: st) E u = Rn m_C_becomes 18 [l0, l1] (vI (u k 1) :: st) E u) ∧
  (∀ (l0 l1 : am_V) (k : Nat) (a : Int) (st : List am_V) (E : am_E) (u : am_M) (hE : SE E) (hk : cuB k), Rn m_C_becomes 18 [l0, l1] (vI a :: vR (some k) :: st) E u = Rn m_C_becomes 21 [l0, l1] st E (am_up u k 1 a)) ∧
  (∀ (l1 : am_V) (a : Option Nat) (st : List am_V) (E : am_E) (u : am_M), Rn m_C_becomes 21 [vR a, l1] st E u = Rn m_C_becomes 22 [vR a, l1] (vR a :: st) E u) ∧
  (∀ (l0 : am_V) (a : Option Nat) (st : List am_V) (E : am_E) (u : am_M), Rn m_C_becomes 22 [l0, vR a] st E u = Rn m_C_becomes 23 [l0, vR a] (vR a :: st) E u) ∧
  (∀ (l0 l1 : am_V) (k : Nat) (st : List am_V) (E : am_E) (u : am_M) (hE : SE E) (hk : cuB k), Rn m_C_becomes 23 [l0, l1] (vR (some k) :: st) E u = Rn m_C_becomes 26 [l0, l1] (vI (u k 2) :: st) E u) ∧
  (∀ (l0 l1 : am_V) (k : Nat) (a : Int) (st : List am_V) (E : am_E) (u : am_M) (hE : SE E) (hk : cuB k), Rn m_C_becomes 26 [l0, l1] (vI a :: vR (some k) :: st) E u = Rn m_C_becomes 29 [l0, l1] st E (am_up u k 2 a)) ∧
  (∀ (l1 : am_V) (a : Option Nat) (st : List am_V) (E : am_E) (u : am_M), Rn m_C_becomes 29 [vR a, l1] st E u = Rn m_C_becomes 30 [vR a, l1] (vR a :: st) E u) ∧
  (∀ (l0 : am_V) (a : Option Nat) (st : List am_V) (E : am_E) (u : am_M), Rn m_C_becomes 30 [l0, vR a] st E u = Rn m_C_becomes 31 [l0, vR a] (vR a :: st) E u) ∧
  (∀ (l0 l1 : am_V) (k : Nat) (st : List am_V) (E : am_E) (u : am_M) (hE : SE E) (hk : cuB k), Rn m_C_becomes 31 [l0, l1] (vR (some k) :: st) E u = Rn m_C_becomes 34 [l0, l1] (vI (u k 3) :: st) E u) ∧
  (∀ (l0 l1 : am_V) (k : Nat) (a : Int) (st : List am_V) (E : am_E) (u : am_M) (hE : SE E) (hk : cuB k), Rn m_C_becomes 34 [l0, l1] (vI a :: vR (some k) :: st) E u = Rn m_C_becomes 37 [l0, l1] st E (am_up u k 3 a)) ∧
  (∀ (l1 : am_V) (a : Option Nat) (st : List am_V) (E : am_E) (u : am_M), Rn m_C_becomes 37 [vR a, l1] st E u = Rn m_C_becomes 38 [vR a, l1] (vR a :: st) E u) ∧
  (∀ (l0 : am_V) (a : Option Nat) (st : List am_V) (E : am_E) (u : am_M), Rn m_C_becomes 38 [l0, vR a] st E u = Rn m_C_becomes 39 [l0, vR a] (vR a :: st) E u) ∧
  (∀ (l0 l1 : am_V) (k : Nat) (st : List am_V) (E : am_E) (u : am_M) (hE : SE E) (hk : cuB k), Rn m_C_becomes 39 [l0, l1] (vR (some k) :: st) E u = Rn m_C_becomes 42 [l0, l1] (vI (u k 4) :: st) E u) ∧
  (∀ (l0 l1 : am_V) (k : Nat) (a : Int) (st : List am_V) (E : am_E) (u : am_M) (hE : SE E) (hk : cuB k), Rn m_C_becomes 42 [l0, l1] (vI a :: vR (some k) :: st) E u = Rn m_C_becomes 45 [l0, l1] st E (am_up u k 4 a)) ∧
  (∀ (l1 : am_V) (a : Option Nat) (st : List am_V) (E : am_E) (u : am_M), Rn m_C_becomes 45 [vR a, l1] st E u = Rn m_C_becomes 46 [vR a, l1] (vR a :: st) E u) ∧
  (∀ (l0 : am_V) (a : Option Nat) (st : List am_V) (E : am_E) (u : am_M), Rn m_C_becomes 46 [l0, vR a] st E u = Rn m_C_becomes 47 [l0, vR a] (vR a :: st) E u) ∧
  (∀ (l0 l1 : am_V) (k : Nat) (st : List am_V) (E : am_E) (u : am_M) (hE : SE E) (hk : cuB k), Rn m_C_becomes 47 [l0, l1] (vR (some k) :: st) E u = Rn m_C_becomes 50 [l0, l1] (vI (u k 5) :: st) E u) ∧
  (∀ (l0 l1 : am_V) (k : Nat) (a : Int) (st : List am_V) (E : am_E) (u : am_M) (hE : SE E) (hk : cuB k), Rn m_C_becomes 50 [l0, l1] (vI a :: vR (some k) :: st) E u = Rn m_C_becomes 53 [l0, l1] st E (am_up u k 5 a)) ∧
  (∀ (l1 : am_V) (a : Option Nat) (st : List am_V) (E : am_E) (u : am_M), Rn m_C_becomes 53 [vR a, l1] st E u = Rn m_C_becomes 54 [vR a, l1] (vR a :: st) E u) ∧
  (∀ (l0 : am_V) (a : Option Nat) (st : List am_V) (E : am_E) (u : am_M), Rn m_C_becomes 54 [l0, vR a] st E u = Rn m_C_becomes 55 [l0, vR a] (vR a :: st) E u) ∧
  (∀ (l0 l1 : am_V) (k : Nat) (st : List am_V) (E : am_E) (u : am_M) (hE : SE E) (hk : cuB k), Rn m_C_becomes 55 [l0, l1] (vR (some k) :: st) E u = Rn m_C_becomes 58 [l0, l1] (vI (u k 6) :: st) E u) ∧
  (∀ (l0 l1 : am_V) (k : Nat) (a : Int) (st : List am_V) (E : am_E) (u : am_M) (hE : SE E) (hk : cuB k), Rn m_C_becomes 58 [l0, l1] (vI a :: vR (some k) :: st) E u = Rn m_C_becomes 61 [l0, l1] st E (am_up u k 6 a)) ∧
  (∀ (l1 : am_V) (a : Option Nat) (st : List am_V) (E : am_E) (u : am_M), Rn m_C_becomes 61 [vR a, l1] st E u = Rn m_C_becomes 62 [vR a, l1] (vR a :: st) E u) ∧
  (∀ (l0 : am_V) (a : Option Nat) (st : List am_V) (E : am_E) (u : am_M), Rn m_C_becomes 62 [l0, vR a] st E u = Rn m_C_becomes 63 [l0, vR a] (vR a :: st) E u) ∧
  (∀ (l0 l1 : am_V) (k : Nat) (st : List am_V) (E : am_E) (u : am_M) (hE : SE E) (hk : cuB k), Rn m_C_becomes 63 [l0, l1] (vR (some k) :: st) E u = Rn m_C_becomes 66 [l0, l1] (vL (u k 7) :: st) E u) ∧
  (∀ (l0 l1 : am_V) (k : Nat) (a : Int) (st : List am_V) (E : am_E) (u : am_M) (hE : SE E) (hk : cuB k), Rn m_C_becomes 66 [l0, l1] (vL a :: vR (some k) :: st) E u = Rn m_C_becomes 69 [l0, l1] st E (am_up u k 7 a)) ∧
  (∀ (l0 : am_V) (a : Option Nat) (st : List am_V) (E : am_E) (u : am_M), Rn m_C_becomes 69 [l0, vR a] st E u = Rn m_C_becomes 70 [l0, vR a] (vR a :: st) E u) ∧
  (∀ (l0 l1 : am_V) (k : Nat) (st : List am_V) (E : am_E) (u : am_M) (hE : SE E) (hk : cuB k), Rn m_C_becomes 70 [l0, l1] (vR (some k) :: st) E u = Rn m_C_becomes 73 [l0, l1] (vR (some (k + 1)) :: st) E u) ∧
  (∀ (l1 : am_V) (a : Option Nat) (st : List am_V) (E : am_E) (u : am_M), Rn m_C_becomes 73 [vR a, l1] st E u = Rn m_C_becomes 74 [vR a, l1] (vR a :: st) E u) ∧
  (∀ (l0 l1 : am_V) (k : Nat) (st : List am_V) (E : am_E) (u : am_M) (hE : SE E) (hk : cuB k), Rn m_C_becomes 74 [l0, l1] (vR (some k) :: st) E u = Rn m_C_becomes 77 [l0, l1] (vR (some (k + 1)) :: st) E u) ∧
  (∀ (l0 l1 : am_V) (a0 : Option Nat) (a1 : Option Nat) (E : am_E) (u : am_M), Rn m_C_becomes 77 [l0, l1] [vR a1, vR a0] E u = bdV (Rn m_A_layAll 0 [vR a0, vR a1] [] E u) (KV m_C_becomes 80 [l0, l1] [])) ∧
  (∀ (l0 : am_V) (a : Option Nat) (st : List am_V) (E : am_E) (u : am_M), Rn m_C_becomes 80 [l0, vR a] st E u = Rn m_C_becomes 81 [l0, vR a] (vR a :: st) E u) ∧
  (∀ (l0 l1 : am_V) (k : Nat) (st : List am_V) (E : am_E) (u : am_M) (hE : SE E) (hk : cuB k), Rn m_C_becomes 81 [l0, l1] (vR (some k) :: st) E u = Rn m_C_becomes 84 [l0, l1] (vR (some (k + 2)) :: st) E u) ∧
  (∀ (l1 : am_V) (a : Option Nat) (st : List am_V) (E : am_E) (u : am_M), Rn m_C_becomes 84 [vR a, l1] st E u = Rn m_C_becomes 85 [vR a, l1] (vR a :: st) E u) ∧
  (∀ (l0 l1 : am_V) (k : Nat) (st : List am_V) (E : am_E) (u : am_M) (hE : SE E) (hk : cuB k), Rn m_C_becomes 85 [l0, l1] (vR (some k) :: st) E u = Rn m_C_becomes 88 [l0, l1] (vR (some (k + 2)) :: st) E u) ∧
  (∀ (l0 l1 : am_V) (a0 : Option Nat) (a1 : Option Nat) (E : am_E) (u : am_M), Rn m_C_becomes 88 [l0, l1] [vR a1, vR a0] E u = bdV (Rn m_A_layAll 0 [vR a0, vR a1] [] E u) (KV m_C_becomes 91 [l0, l1] [])) ∧
  (∀ (l0 : am_V) (a : Option Nat) (st : List am_V) (E : am_E) (u : am_M), Rn m_C_becomes 91 [l0, vR a] st E u = Rn m_C_becomes 92 [l0, vR a] (vR a :: st) E u) ∧
  (∀ (l0 l1 : am_V) (k : Nat) (st : List am_V) (E : am_E) (u : am_M) (hE : SE E) (hk : cuB k), Rn m_C_becomes 92 [l0, l1] (vR (some k) :: st) E u = Rn m_C_becomes 95 [l0, l1] (vR (some (k + 3)) :: st) E u) ∧
  (∀ (l1 : am_V) (a : Option Nat) (st : List am_V) (E : am_E) (u : am_M), Rn m_C_becomes 95 [vR a, l1] st E u = Rn m_C_becomes 96 [vR a, l1] (vR a :: st) E u) ∧
  (∀ (l0 l1 : am_V) (k : Nat) (st : List am_V) (E : am_E) (u : am_M) (hE : SE E) (hk : cuB k), Rn m_C_becomes 96 [l0, l1] (vR (some k) :: st) E u = Rn m_C_becomes 99 [l0, l1] (vR (some (k + 3)) :: st) E u) ∧
  (∀ (l0 l1 : am_V) (a0 : Option Nat) (a1 : Option Nat) (E : am_E) (u : am_M), Rn m_C_becomes 99 [l0, l1] [vR a1, vR a0] E u = bdV (Rn m_A_layAll 0 [vR a0, vR a1] [] E u) (KV m_C_becomes 102 [l0, l1] [])) ∧
  (∀ (l0 : am_V) (a : Option Nat) (st : List am_V) (E : am_E) (u : am_M), Rn m_C_becomes 102 [l0, vR a] st E u = Rn m_C_becomes 103 [l0, vR a] (vR a :: st) E u) ∧
  (∀ (l0 l1 : am_V) (k : Nat) (st : List am_V) (E : am_E) (u : am_M) (hE : SE E) (hk : cuB k), Rn m_C_becomes 103 [l0, l1] (vR (some k) :: st) E u = Rn m_C_becomes 106 [l0, l1] (vR (some (k + 4)) :: st) E u) ∧
  (∀ (l1 : am_V) (a : Option Nat) (st : List am_V) (E : am_E) (u : am_M), Rn m_C_becomes 106 [vR a, l1] st E u = Rn m_C_becomes 107 [vR a, l1] (vR a :: st) E u) ∧
  (∀ (l0 l1 : am_V) (k : Nat) (st : List am_V) (E : am_E) (u : am_M) (hE : SE E) (hk : cuB k), Rn m_C_becomes 107 [l0, l1] (vR (some k) :: st) E u = Rn m_C_becomes 110 [l0, l1] (vR (some (k + 4)) :: st) E u) ∧
  (∀ (l0 l1 : am_V) (a0 : Option Nat) (a1 : Option Nat) (E : am_E) (u : am_M), Rn m_C_becomes 110 [l0, l1] [vR a1, vR a0] E u = bdV (Rn m_A_layAll 0 [vR a0, vR a1] [] E u) (KV m_C_becomes 113 [l0, l1] [])) ∧
  (∀ (l0 : am_V) (a : Option Nat) (st : List am_V) (E : am_E) (u : am_M), Rn m_C_becomes 113 [l0, vR a] st E u = Rn m_C_becomes 114 [l0, vR a] (vR a :: st) E u) ∧
  (∀ (l0 l1 : am_V) (k : Nat) (st : List am_V) (E : am_E) (u : am_M) (hE : SE E) (hk : cuB k), Rn m_C_becomes 114 [l0, l1] (vR (some k) :: st) E u = Rn m_C_becomes 117 [l0, l1] (vR (some (k + 5)) :: st) E u) ∧
  (∀ (l1 : am_V) (a : Option Nat) (st : List am_V) (E : am_E) (u : am_M), Rn m_C_becomes 117 [vR a, l1] st E u = Rn m_C_becomes 118 [vR a, l1] (vR a :: st) E u) ∧
  (∀ (l0 l1 : am_V) (k : Nat) (st : List am_V) (E : am_E) (u : am_M) (hE : SE E) (hk : cuB k), Rn m_C_becomes 118 [l0, l1] (vR (some k) :: st) E u = Rn m_C_becomes 121 [l0, l1] (vR (some (k + 5)) :: st) E u) ∧
  (∀ (l0 l1 : am_V) (a0 : Option Nat) (a1 : Option Nat) (E : am_E) (u : am_M), Rn m_C_becomes 121 [l0, l1] [vR a1, vR a0] E u = bdV (Rn m_A_layAll 0 [vR a0, vR a1] [] E u) (KV m_C_becomes 124 [l0, l1] [])) ∧
  (∀ (l0 : am_V) (a : Option Nat) (st : List am_V) (E : am_E) (u : am_M), Rn m_C_becomes 124 [l0, vR a] st E u = Rn m_C_becomes 125 [l0, vR a] (vR a :: st) E u) ∧
  (∀ (l0 l1 : am_V) (k : Nat) (st : List am_V) (E : am_E) (u : am_M) (hE : SE E) (hk : cuB k), Rn m_C_becomes 125 [l0, l1] (vR (some k) :: st) E u = Rn m_C_becomes 128 [l0, l1] (vR (some (k + 6)) :: st) E u) ∧
  (∀ (l1 : am_V) (a : Option Nat) (st : List am_V) (E : am_E) (u : am_M), Rn m_C_becomes 128 [vR a, l1] st E u = Rn m_C_becomes 129 [vR a, l1] (vR a :: st) E u) ∧
  (∀ (l0 l1 : am_V) (k : Nat) (st : List am_V) (E : am_E) (u : am_M) (hE : SE E) (hk : cuB k), Rn m_C_becomes 129 [l0, l1] (vR (some k) :: st) E u = Rn m_C_becomes 132 [l0, l1] (vR (some (k + 6)) :: st) E u) ∧
  (∀ (l0 l1 : am_V) (a0 : Option Nat) (a1 : Option Nat) (E : am_E) (u : am_M), Rn m_C_becomes 132 [l0, l1] [vR a1, vR a0] E u = bdV (Rn m_A_layAll 0 [vR a0, vR a1] [] E u) (KV m_C_becomes 135 [l0, l1] [])) ∧
  (∀ (l0 l1 : am_V) (E : am_E) (u : am_M), Rn m_C_becomes 135 [l0, l1] [] E u = some (none, E, u)) :=
  ⟨fun l0 a st E u => q_go (by decide +kernel : am_Pg 78 0 = some (.aload_n 1, 1, [], 0)) rfl,
  fun l0 l1 st E u => q_go (by decide +kernel : am_Pg 78 1 = some (.ifnonnull 4, 3, [], 0)) rfl,
  fun l0 l1 a st E u => q_go (by decide +kernel : am_Pg 78 1 = some (.ifnonnull 4, 3, [], 0)) rfl,
  fun l0 l1 E u => q_ret (by decide +kernel : am_Pg 78 4 = some (.return_, 1, [], 0)) rfl,
  fun l1 a st E u => q_go (by decide +kernel : am_Pg 78 5 = some (.aload_n 0, 1, [], 0)) rfl,
  fun l0 a st E u => q_go (by decide +kernel : am_Pg 78 6 = some (.aload_n 1, 1, [], 0)) rfl,
  fun l0 l1 k st E u hE hk => q_gfI (by decide +kernel : am_Pg 78 7 = some (.getfield 9, 3, [0, 14, 0, 0], 0)) (SE_k0 hE hk) (by decide),
  fun l0 l1 k a st E u hE hk => q_pfI (by decide +kernel : am_Pg 78 10 = some (.putfield 9, 3, [0, 14, 0, 0], 0)) (SE_k0 hE hk) rfl,
  fun l1 a st E u => q_go (by decide +kernel : am_Pg 78 13 = some (.aload_n 0, 1, [], 0)) rfl,
  fun l0 a st E u => q_go (by decide +kernel : am_Pg 78 14 = some (.aload_n 1, 1, [], 0)) rfl,
  fun l0 l1 k st E u hE hk => q_gfI (by decide +kernel : am_Pg 78 15 = some (.getfield 15, 3, [0, 14, 1, 0], 0)) (SE_k0 hE hk) (by decide),
  fun l0 l1 k a st E u hE hk => q_pfI (by decide +kernel : am_Pg 78 18 = some (.putfield 15, 3, [0, 14, 1, 0], 0)) (SE_k0 hE hk) rfl,
  fun l1 a st E u => q_go (by decide +kernel : am_Pg 78 21 = some (.aload_n 0, 1, [], 0)) rfl,
  fun l0 a st E u => q_go (by decide +kernel : am_Pg 78 22 = some (.aload_n 1, 1, [], 0)) rfl,
  fun l0 l1 k st E u hE hk => q_gfI (by decide +kernel : am_Pg 78 23 = some (.getfield 46, 3, [0, 14, 2, 0], 0)) (SE_k0 hE hk) (by decide),
  fun l0 l1 k a st E u hE hk => q_pfI (by decide +kernel : am_Pg 78 26 = some (.putfield 46, 3, [0, 14, 2, 0], 0)) (SE_k0 hE hk) rfl,
  fun l1 a st E u => q_go (by decide +kernel : am_Pg 78 29 = some (.aload_n 0, 1, [], 0)) rfl,
  fun l0 a st E u => q_go (by decide +kernel : am_Pg 78 30 = some (.aload_n 1, 1, [], 0)) rfl,
  fun l0 l1 k st E u hE hk => q_gfI (by decide +kernel : am_Pg 78 31 = some (.getfield 49, 3, [0, 14, 3, 0], 0)) (SE_k0 hE hk) (by decide),
  fun l0 l1 k a st E u hE hk => q_pfI (by decide +kernel : am_Pg 78 34 = some (.putfield 49, 3, [0, 14, 3, 0], 0)) (SE_k0 hE hk) rfl,
  fun l1 a st E u => q_go (by decide +kernel : am_Pg 78 37 = some (.aload_n 0, 1, [], 0)) rfl,
  fun l0 a st E u => q_go (by decide +kernel : am_Pg 78 38 = some (.aload_n 1, 1, [], 0)) rfl,
  fun l0 l1 k st E u hE hk => q_gfI (by decide +kernel : am_Pg 78 39 = some (.getfield 52, 3, [0, 14, 4, 0], 0)) (SE_k0 hE hk) (by decide),
  fun l0 l1 k a st E u hE hk => q_pfI (by decide +kernel : am_Pg 78 42 = some (.putfield 52, 3, [0, 14, 4, 0], 0)) (SE_k0 hE hk) rfl,
  fun l1 a st E u => q_go (by decide +kernel : am_Pg 78 45 = some (.aload_n 0, 1, [], 0)) rfl,
  fun l0 a st E u => q_go (by decide +kernel : am_Pg 78 46 = some (.aload_n 1, 1, [], 0)) rfl,
  fun l0 l1 k st E u hE hk => q_gfI (by decide +kernel : am_Pg 78 47 = some (.getfield 18, 3, [0, 14, 5, 0], 0)) (SE_k0 hE hk) (by decide),
  fun l0 l1 k a st E u hE hk => q_pfI (by decide +kernel : am_Pg 78 50 = some (.putfield 18, 3, [0, 14, 5, 0], 0)) (SE_k0 hE hk) rfl,
  fun l1 a st E u => q_go (by decide +kernel : am_Pg 78 53 = some (.aload_n 0, 1, [], 0)) rfl,
  fun l0 a st E u => q_go (by decide +kernel : am_Pg 78 54 = some (.aload_n 1, 1, [], 0)) rfl,
  fun l0 l1 k st E u hE hk => q_gfI (by decide +kernel : am_Pg 78 55 = some (.getfield 55, 3, [0, 14, 6, 0], 0)) (SE_k0 hE hk) (by decide),
  fun l0 l1 k a st E u hE hk => q_pfI (by decide +kernel : am_Pg 78 58 = some (.putfield 55, 3, [0, 14, 6, 0], 0)) (SE_k0 hE hk) rfl,
  fun l1 a st E u => q_go (by decide +kernel : am_Pg 78 61 = some (.aload_n 0, 1, [], 0)) rfl,
  fun l0 a st E u => q_go (by decide +kernel : am_Pg 78 62 = some (.aload_n 1, 1, [], 0)) rfl,
  fun l0 l1 k st E u hE hk => q_gfL (by decide +kernel : am_Pg 78 63 = some (.getfield 58, 3, [0, 14, 7, 0], 0)) (SE_k0 hE hk) rfl,
  fun l0 l1 k a st E u hE hk => q_pfL (by decide +kernel : am_Pg 78 66 = some (.putfield 58, 3, [0, 14, 7, 0], 0)) (SE_k0 hE hk) rfl,
  fun l0 a st E u => q_go (by decide +kernel : am_Pg 78 69 = some (.aload_n 1, 1, [], 0)) rfl,
  fun l0 l1 k st E u hE hk => q_gfR (by decide +kernel : am_Pg 78 70 = some (.getfield 21, 3, [0, 14, 8, 0], 0)) (SE_k0 hE hk) rfl (SE_r0_8 hE hk),
  fun l1 a st E u => q_go (by decide +kernel : am_Pg 78 73 = some (.aload_n 0, 1, [], 0)) rfl,
  fun l0 l1 k st E u hE hk => q_gfR (by decide +kernel : am_Pg 78 74 = some (.getfield 21, 3, [0, 14, 8, 0], 0)) (SE_k0 hE hk) rfl (SE_r0_8 hE hk),
  fun l0 l1 a0 a1  E u => q_cV (by decide +kernel : am_Pg 78 77 = some (.invokestatic 62, 3, [2, 77, 2, 1], 0)) (am_call_S (f := fun _ _ => true) (a := [vR a0, vR a1]) (st' := []) (Nat.le_of_ble_eq_true rfl) rfl rfl) (by decide +kernel : am_Lm m_A_layAll = 2) (Nat.le_of_ble_eq_true rfl) rfl (by decide +kernel),
  fun l0 a st E u => q_go (by decide +kernel : am_Pg 78 80 = some (.aload_n 1, 1, [], 0)) rfl,
  fun l0 l1 k st E u hE hk => q_gfR (by decide +kernel : am_Pg 78 81 = some (.getfield 25, 3, [0, 14, 9, 0], 0)) (SE_k0 hE hk) rfl (SE_r0_9 hE hk),
  fun l1 a st E u => q_go (by decide +kernel : am_Pg 78 84 = some (.aload_n 0, 1, [], 0)) rfl,
  fun l0 l1 k st E u hE hk => q_gfR (by decide +kernel : am_Pg 78 85 = some (.getfield 25, 3, [0, 14, 9, 0], 0)) (SE_k0 hE hk) rfl (SE_r0_9 hE hk),
  fun l0 l1 a0 a1  E u => q_cV (by decide +kernel : am_Pg 78 88 = some (.invokestatic 62, 3, [2, 77, 2, 1], 0)) (am_call_S (f := fun _ _ => true) (a := [vR a0, vR a1]) (st' := []) (Nat.le_of_ble_eq_true rfl) rfl rfl) (by decide +kernel : am_Lm m_A_layAll = 2) (Nat.le_of_ble_eq_true rfl) rfl (by decide +kernel),
  fun l0 a st E u => q_go (by decide +kernel : am_Pg 78 91 = some (.aload_n 1, 1, [], 0)) rfl,
  fun l0 l1 k st E u hE hk => q_gfR (by decide +kernel : am_Pg 78 92 = some (.getfield 28, 3, [0, 14, 10, 0], 0)) (SE_k0 hE hk) rfl (SE_r0_10 hE hk),
  fun l1 a st E u => q_go (by decide +kernel : am_Pg 78 95 = some (.aload_n 0, 1, [], 0)) rfl,
  fun l0 l1 k st E u hE hk => q_gfR (by decide +kernel : am_Pg 78 96 = some (.getfield 28, 3, [0, 14, 10, 0], 0)) (SE_k0 hE hk) rfl (SE_r0_10 hE hk),
  fun l0 l1 a0 a1  E u => q_cV (by decide +kernel : am_Pg 78 99 = some (.invokestatic 62, 3, [2, 77, 2, 1], 0)) (am_call_S (f := fun _ _ => true) (a := [vR a0, vR a1]) (st' := []) (Nat.le_of_ble_eq_true rfl) rfl rfl) (by decide +kernel : am_Lm m_A_layAll = 2) (Nat.le_of_ble_eq_true rfl) rfl (by decide +kernel),
  fun l0 a st E u => q_go (by decide +kernel : am_Pg 78 102 = some (.aload_n 1, 1, [], 0)) rfl,
  fun l0 l1 k st E u hE hk => q_gfR (by decide +kernel : am_Pg 78 103 = some (.getfield 31, 3, [0, 14, 11, 0], 0)) (SE_k0 hE hk) rfl (SE_r0_11 hE hk),
  fun l1 a st E u => q_go (by decide +kernel : am_Pg 78 106 = some (.aload_n 0, 1, [], 0)) rfl,
  fun l0 l1 k st E u hE hk => q_gfR (by decide +kernel : am_Pg 78 107 = some (.getfield 31, 3, [0, 14, 11, 0], 0)) (SE_k0 hE hk) rfl (SE_r0_11 hE hk),
  fun l0 l1 a0 a1  E u => q_cV (by decide +kernel : am_Pg 78 110 = some (.invokestatic 62, 3, [2, 77, 2, 1], 0)) (am_call_S (f := fun _ _ => true) (a := [vR a0, vR a1]) (st' := []) (Nat.le_of_ble_eq_true rfl) rfl rfl) (by decide +kernel : am_Lm m_A_layAll = 2) (Nat.le_of_ble_eq_true rfl) rfl (by decide +kernel),
  fun l0 a st E u => q_go (by decide +kernel : am_Pg 78 113 = some (.aload_n 1, 1, [], 0)) rfl,
  fun l0 l1 k st E u hE hk => q_gfR (by decide +kernel : am_Pg 78 114 = some (.getfield 34, 3, [0, 14, 12, 0], 0)) (SE_k0 hE hk) rfl (SE_r0_12 hE hk),
  fun l1 a st E u => q_go (by decide +kernel : am_Pg 78 117 = some (.aload_n 0, 1, [], 0)) rfl,
  fun l0 l1 k st E u hE hk => q_gfR (by decide +kernel : am_Pg 78 118 = some (.getfield 34, 3, [0, 14, 12, 0], 0)) (SE_k0 hE hk) rfl (SE_r0_12 hE hk),
  fun l0 l1 a0 a1  E u => q_cV (by decide +kernel : am_Pg 78 121 = some (.invokestatic 62, 3, [2, 77, 2, 1], 0)) (am_call_S (f := fun _ _ => true) (a := [vR a0, vR a1]) (st' := []) (Nat.le_of_ble_eq_true rfl) rfl rfl) (by decide +kernel : am_Lm m_A_layAll = 2) (Nat.le_of_ble_eq_true rfl) rfl (by decide +kernel),
  fun l0 a st E u => q_go (by decide +kernel : am_Pg 78 124 = some (.aload_n 1, 1, [], 0)) rfl,
  fun l0 l1 k st E u hE hk => q_gfR (by decide +kernel : am_Pg 78 125 = some (.getfield 37, 3, [0, 14, 13, 0], 0)) (SE_k0 hE hk) rfl (SE_r0_13 hE hk),
  fun l1 a st E u => q_go (by decide +kernel : am_Pg 78 128 = some (.aload_n 0, 1, [], 0)) rfl,
  fun l0 l1 k st E u hE hk => q_gfR (by decide +kernel : am_Pg 78 129 = some (.getfield 37, 3, [0, 14, 13, 0], 0)) (SE_k0 hE hk) rfl (SE_r0_13 hE hk),
  fun l0 l1 a0 a1  E u => q_cV (by decide +kernel : am_Pg 78 132 = some (.invokestatic 62, 3, [2, 77, 2, 1], 0)) (am_call_S (f := fun _ _ => true) (a := [vR a0, vR a1]) (st' := []) (Nat.le_of_ble_eq_true rfl) rfl rfl) (by decide +kernel : am_Lm m_A_layAll = 2) (Nat.le_of_ble_eq_true rfl) rfl (by decide +kernel),
  fun l0 l1 E u => q_ret (by decide +kernel : am_Pg 78 135 = some (.return_, 1, [], 0)) rfl⟩
theorem x_J_bitL :
  (∀ (l1 : am_V) (a : Int) (st : List am_V) (E : am_E) (u : am_M), Rn m_J_bitL 0 [vL a, l1] st E u = Rn m_J_bitL 1 [vL a, l1] (vL a :: st) E u) ∧
  (∀ (l1 : am_V) (a : Int) (st : List am_V) (E : am_E) (u : am_M), Rn m_J_bitL 1 [vL a, l1] st E u = Rn m_J_bitL 2 [vL a, l1] (vL a :: st) E u) ∧
  (∀ (l0 l1 : am_V) (st : List am_V) (E : am_E) (u : am_M), Rn m_J_bitL 2 [l0, l1] st E u = Rn m_J_bitL 3 [l0, l1] (vI 1 :: st) E u) ∧
  (∀ (l0 l1 : am_V) (a b : Int) (st : List am_V) (E : am_E) (u : am_M), Rn m_J_bitL 3 [l0, l1] (vI b :: vL a :: st) E u = Rn m_J_bitL 4 [l0, l1] (vL (l_ush a b) :: st) E u) ∧
  (∀ (l0 l1 : am_V) (st : List am_V) (E : am_E) (u : am_M), Rn m_J_bitL 4 [l0, l1] st E u = Rn m_J_bitL 7 [l0, l1] (vL 6148914691236517205 :: st) E u) ∧
  (∀ (l0 l1 : am_V) (a b : Int) (st : List am_V) (E : am_E) (u : am_M), Rn m_J_bitL 7 [l0, l1] (vL b :: vL a :: st) E u = Rn m_J_bitL 8 [l0, l1] (vL (l_and a b) :: st) E u) ∧
  (∀ (l0 l1 : am_V) (a b : Int) (st : List am_V) (E : am_E) (u : am_M), Rn m_J_bitL 8 [l0, l1] (vL b :: vL a :: st) E u = Rn m_J_bitL 9 [l0, l1] (vL (w64 (a - b)) :: st) E u) ∧
  (∀ (l0 l1 : am_V) (a : Int) (st : List am_V) (E : am_E) (u : am_M), Rn m_J_bitL 9 [l0, l1] (vL a :: st) E u = Rn m_J_bitL 10 [vL a, vB false] st E u) ∧
  (∀ (l1 : am_V) (a : Int) (st : List am_V) (E : am_E) (u : am_M), Rn m_J_bitL 10 [vL a, l1] st E u = Rn m_J_bitL 11 [vL a, l1] (vL a :: st) E u) ∧
  (∀ (l0 l1 : am_V) (st : List am_V) (E : am_E) (u : am_M), Rn m_J_bitL 11 [l0, l1] st E u = Rn m_J_bitL 14 [l0, l1] (vL 3689348814741910323 :: st) E u) ∧
  (∀ (l0 l1 : am_V) (a b : Int) (st : List am_V) (E : am_E) (u : am_M), Rn m_J_bitL 14 [l0, l1] (vL b :: vL a :: st) E u = Rn m_J_bitL 15 [l0, l1] (vL (l_and a b) :: st) E u) ∧
  (∀ (l1 : am_V) (a : Int) (st : List am_V) (E : am_E) (u : am_M), Rn m_J_bitL 15 [vL a, l1] st E u = Rn m_J_bitL 16 [vL a, l1] (vL a :: st) E u) ∧
  (∀ (l0 l1 : am_V) (st : List am_V) (E : am_E) (u : am_M), Rn m_J_bitL 16 [l0, l1] st E u = Rn m_J_bitL 17 [l0, l1] (vI 2 :: st) E u) ∧
  (∀ (l0 l1 : am_V) (a b : Int) (st : List am_V) (E : am_E) (u : am_M), Rn m_J_bitL 17 [l0, l1] (vI b :: vL a :: st) E u = Rn m_J_bitL 18 [l0, l1] (vL (l_ush a b) :: st) E u) ∧
  (∀ (l0 l1 : am_V) (st : List am_V) (E : am_E) (u : am_M), Rn m_J_bitL 18 [l0, l1] st E u = Rn m_J_bitL 21 [l0, l1] (vL 3689348814741910323 :: st) E u) ∧
  (∀ (l0 l1 : am_V) (a b : Int) (st : List am_V) (E : am_E) (u : am_M), Rn m_J_bitL 21 [l0, l1] (vL b :: vL a :: st) E u = Rn m_J_bitL 22 [l0, l1] (vL (l_and a b) :: st) E u) ∧
  (∀ (l0 l1 : am_V) (a b : Int) (st : List am_V) (E : am_E) (u : am_M), Rn m_J_bitL 22 [l0, l1] (vL b :: vL a :: st) E u = Rn m_J_bitL 23 [l0, l1] (vL (w64 (a + b)) :: st) E u) ∧
  (∀ (l0 l1 : am_V) (a : Int) (st : List am_V) (E : am_E) (u : am_M), Rn m_J_bitL 23 [l0, l1] (vL a :: st) E u = Rn m_J_bitL 24 [vL a, vB false] st E u) ∧
  (∀ (l1 : am_V) (a : Int) (st : List am_V) (E : am_E) (u : am_M), Rn m_J_bitL 24 [vL a, l1] st E u = Rn m_J_bitL 25 [vL a, l1] (vL a :: st) E u) ∧
  (∀ (l1 : am_V) (a : Int) (st : List am_V) (E : am_E) (u : am_M), Rn m_J_bitL 25 [vL a, l1] st E u = Rn m_J_bitL 26 [vL a, l1] (vL a :: st) E u) ∧
  (∀ (l0 l1 : am_V) (st : List am_V) (E : am_E) (u : am_M), Rn m_J_bitL 26 [l0, l1] st E u = Rn m_J_bitL 27 [l0, l1] (vI 4 :: st) E u) ∧
  (∀ (l0 l1 : am_V) (a b : Int) (st : List am_V) (E : am_E) (u : am_M), Rn m_J_bitL 27 [l0, l1] (vI b :: vL a :: st) E u = Rn m_J_bitL 28 [l0, l1] (vL (l_ush a b) :: st) E u) ∧
  (∀ (l0 l1 : am_V) (a b : Int) (st : List am_V) (E : am_E) (u : am_M), Rn m_J_bitL 28 [l0, l1] (vL b :: vL a :: st) E u = Rn m_J_bitL 29 [l0, l1] (vL (w64 (a + b)) :: st) E u) ∧
  (∀ (l0 l1 : am_V) (st : List am_V) (E : am_E) (u : am_M), Rn m_J_bitL 29 [l0, l1] st E u = Rn m_J_bitL 32 [l0, l1] (vL 1085102592571150095 :: st) E u) ∧
  (∀ (l0 l1 : am_V) (a b : Int) (st : List am_V) (E : am_E) (u : am_M), Rn m_J_bitL 32 [l0, l1] (vL b :: vL a :: st) E u = Rn m_J_bitL 33 [l0, l1] (vL (l_and a b) :: st) E u) ∧
  (∀ (l0 l1 : am_V) (a : Int) (st : List am_V) (E : am_E) (u : am_M), Rn m_J_bitL 33 [l0, l1] (vL a :: st) E u = Rn m_J_bitL 34 [vL a, vB false] st E u) ∧
  (∀ (l1 : am_V) (a : Int) (st : List am_V) (E : am_E) (u : am_M), Rn m_J_bitL 34 [vL a, l1] st E u = Rn m_J_bitL 35 [vL a, l1] (vL a :: st) E u) ∧
  (∀ (l1 : am_V) (a : Int) (st : List am_V) (E : am_E) (u : am_M), Rn m_J_bitL 35 [vL a, l1] st E u = Rn m_J_bitL 36 [vL a, l1] (vL a :: st) E u) ∧
  (∀ (l0 l1 : am_V) (st : List am_V) (E : am_E) (u : am_M), Rn m_J_bitL 36 [l0, l1] st E u = Rn m_J_bitL 38 [l0, l1] (vI 8 :: st) E u) ∧
  (∀ (l0 l1 : am_V) (a b : Int) (st : List am_V) (E : am_E) (u : am_M), Rn m_J_bitL 38 [l0, l1] (vI b :: vL a :: st) E u = Rn m_J_bitL 39 [l0, l1] (vL (l_ush a b) :: st) E u) ∧
  (∀ (l0 l1 : am_V) (a b : Int) (st : List am_V) (E : am_E) (u : am_M), Rn m_J_bitL 39 [l0, l1] (vL b :: vL a :: st) E u = Rn m_J_bitL 40 [l0, l1] (vL (w64 (a + b)) :: st) E u) ∧
  (∀ (l0 l1 : am_V) (a : Int) (st : List am_V) (E : am_E) (u : am_M), Rn m_J_bitL 40 [l0, l1] (vL a :: st) E u = Rn m_J_bitL 41 [vL a, vB false] st E u) ∧
  (∀ (l1 : am_V) (a : Int) (st : List am_V) (E : am_E) (u : am_M), Rn m_J_bitL 41 [vL a, l1] st E u = Rn m_J_bitL 42 [vL a, l1] (vL a :: st) E u) ∧
  (∀ (l1 : am_V) (a : Int) (st : List am_V) (E : am_E) (u : am_M), Rn m_J_bitL 42 [vL a, l1] st E u = Rn m_J_bitL 43 [vL a, l1] (vL a :: st) E u) ∧
  (∀ (l0 l1 : am_V) (st : List am_V) (E : am_E) (u : am_M), Rn m_J_bitL 43 [l0, l1] st E u = Rn m_J_bitL 45 [l0, l1] (vI 16 :: st) E u) ∧
  (∀ (l0 l1 : am_V) (a b : Int) (st : List am_V) (E : am_E) (u : am_M), Rn m_J_bitL 45 [l0, l1] (vI b :: vL a :: st) E u = Rn m_J_bitL 46 [l0, l1] (vL (l_ush a b) :: st) E u) ∧
  (∀ (l0 l1 : am_V) (a b : Int) (st : List am_V) (E : am_E) (u : am_M), Rn m_J_bitL 46 [l0, l1] (vL b :: vL a :: st) E u = Rn m_J_bitL 47 [l0, l1] (vL (w64 (a + b)) :: st) E u) ∧
  (∀ (l0 l1 : am_V) (a : Int) (st : List am_V) (E : am_E) (u : am_M), Rn m_J_bitL 47 [l0, l1] (vL a :: st) E u = Rn m_J_bitL 48 [vL a, vB false] st E u) ∧
  (∀ (l1 : am_V) (a : Int) (st : List am_V) (E : am_E) (u : am_M), Rn m_J_bitL 48 [vL a, l1] st E u = Rn m_J_bitL 49 [vL a, l1] (vL a :: st) E u) ∧
  (∀ (l1 : am_V) (a : Int) (st : List am_V) (E : am_E) (u : am_M), Rn m_J_bitL 49 [vL a, l1] st E u = Rn m_J_bitL 50 [vL a, l1] (vL a :: st) E u) ∧
  (∀ (l0 l1 : am_V) (st : List am_V) (E : am_E) (u : am_M), Rn m_J_bitL 50 [l0, l1] st E u = Rn m_J_bitL 52 [l0, l1] (vI 32 :: st) E u) ∧
  (∀ (l0 l1 : am_V) (a b : Int) (st : List am_V) (E : am_E) (u : am_M), Rn m_J_bitL 52 [l0, l1] (vI b :: vL a :: st) E u = Rn m_J_bitL 53 [l0, l1] (vL (l_ush a b) :: st) E u) ∧
  (∀ (l0 l1 : am_V) (a b : Int) (st : List am_V) (E : am_E) (u : am_M), Rn m_J_bitL 53 [l0, l1] (vL b :: vL a :: st) E u = Rn m_J_bitL 54 [l0, l1] (vL (w64 (a + b)) :: st) E u) ∧
  (∀ (l0 l1 : am_V) (a : Int) (st : List am_V) (E : am_E) (u : am_M), Rn m_J_bitL 54 [l0, l1] (vL a :: st) E u = Rn m_J_bitL 55 [vL a, vB false] st E u) ∧
  (∀ (l1 : am_V) (a : Int) (st : List am_V) (E : am_E) (u : am_M), Rn m_J_bitL 55 [vL a, l1] st E u = Rn m_J_bitL 56 [vL a, l1] (vL a :: st) E u) ∧
  (∀ (l0 l1 : am_V) (a : Int) (st : List am_V) (E : am_E) (u : am_M), Rn m_J_bitL 56 [l0, l1] (vL a :: st) E u = Rn m_J_bitL 57 [l0, l1] (vI (w32 a) :: st) E u) ∧
  (∀ (l0 l1 : am_V) (st : List am_V) (E : am_E) (u : am_M), Rn m_J_bitL 57 [l0, l1] st E u = Rn m_J_bitL 59 [l0, l1] (vI 127 :: st) E u) ∧
  (∀ (l0 l1 : am_V) (a b : Int) (st : List am_V) (E : am_E) (u : am_M), Rn m_J_bitL 59 [l0, l1] (vI b :: vI a :: st) E u = Rn m_J_bitL 60 [l0, l1] (vI (i_and a b) :: st) E u) ∧
  (∀ (l0 l1 : am_V) (a : Int) (E : am_E) (u : am_M), Rn m_J_bitL 60 [l0, l1] [vI a] E u = some (some (vI a), E, u)) :=
  ⟨fun l1 a st E u => q_go (by decide +kernel : am_Pg 90 0 = some (.lload_n 0, 1, [], 0)) rfl,
  fun l1 a st E u => q_go (by decide +kernel : am_Pg 90 1 = some (.lload_n 0, 1, [], 0)) rfl,
  fun l0 l1 st E u => q_go (by decide +kernel : am_Pg 90 2 = some (.iconst 1, 1, [], 0)) rfl,
  fun l0 l1 a b st E u => q_go (by decide +kernel : am_Pg 90 3 = some (.lushr, 1, [], 0)) rfl,
  fun l0 l1 st E u => q_go (by decide +kernel : am_Pg 90 4 = some (.ldc2_w 314, 3, [], 6148914691236517205)) rfl,
  fun l0 l1 a b st E u => q_go (by decide +kernel : am_Pg 90 7 = some (.land, 1, [], 0)) rfl,
  fun l0 l1 a b st E u => q_go (by decide +kernel : am_Pg 90 8 = some (.lsub, 1, [], 0)) rfl,
  fun l0 l1 a st E u => q_go (by decide +kernel : am_Pg 90 9 = some (.lstore_n 0, 1, [], 0)) rfl,
  fun l1 a st E u => q_go (by decide +kernel : am_Pg 90 10 = some (.lload_n 0, 1, [], 0)) rfl,
  fun l0 l1 st E u => q_go (by decide +kernel : am_Pg 90 11 = some (.ldc2_w 316, 3, [], 3689348814741910323)) rfl,
  fun l0 l1 a b st E u => q_go (by decide +kernel : am_Pg 90 14 = some (.land, 1, [], 0)) rfl,
  fun l1 a st E u => q_go (by decide +kernel : am_Pg 90 15 = some (.lload_n 0, 1, [], 0)) rfl,
  fun l0 l1 st E u => q_go (by decide +kernel : am_Pg 90 16 = some (.iconst 2, 1, [], 0)) rfl,
  fun l0 l1 a b st E u => q_go (by decide +kernel : am_Pg 90 17 = some (.lushr, 1, [], 0)) rfl,
  fun l0 l1 st E u => q_go (by decide +kernel : am_Pg 90 18 = some (.ldc2_w 316, 3, [], 3689348814741910323)) rfl,
  fun l0 l1 a b st E u => q_go (by decide +kernel : am_Pg 90 21 = some (.land, 1, [], 0)) rfl,
  fun l0 l1 a b st E u => q_go (by decide +kernel : am_Pg 90 22 = some (.ladd, 1, [], 0)) rfl,
  fun l0 l1 a st E u => q_go (by decide +kernel : am_Pg 90 23 = some (.lstore_n 0, 1, [], 0)) rfl,
  fun l1 a st E u => q_go (by decide +kernel : am_Pg 90 24 = some (.lload_n 0, 1, [], 0)) rfl,
  fun l1 a st E u => q_go (by decide +kernel : am_Pg 90 25 = some (.lload_n 0, 1, [], 0)) rfl,
  fun l0 l1 st E u => q_go (by decide +kernel : am_Pg 90 26 = some (.iconst 4, 1, [], 0)) rfl,
  fun l0 l1 a b st E u => q_go (by decide +kernel : am_Pg 90 27 = some (.lushr, 1, [], 0)) rfl,
  fun l0 l1 a b st E u => q_go (by decide +kernel : am_Pg 90 28 = some (.ladd, 1, [], 0)) rfl,
  fun l0 l1 st E u => q_go (by decide +kernel : am_Pg 90 29 = some (.ldc2_w 318, 3, [], 1085102592571150095)) rfl,
  fun l0 l1 a b st E u => q_go (by decide +kernel : am_Pg 90 32 = some (.land, 1, [], 0)) rfl,
  fun l0 l1 a st E u => q_go (by decide +kernel : am_Pg 90 33 = some (.lstore_n 0, 1, [], 0)) rfl,
  fun l1 a st E u => q_go (by decide +kernel : am_Pg 90 34 = some (.lload_n 0, 1, [], 0)) rfl,
  fun l1 a st E u => q_go (by decide +kernel : am_Pg 90 35 = some (.lload_n 0, 1, [], 0)) rfl,
  fun l0 l1 st E u => q_go (by decide +kernel : am_Pg 90 36 = some (.bipush 8, 2, [], 0)) rfl,
  fun l0 l1 a b st E u => q_go (by decide +kernel : am_Pg 90 38 = some (.lushr, 1, [], 0)) rfl,
  fun l0 l1 a b st E u => q_go (by decide +kernel : am_Pg 90 39 = some (.ladd, 1, [], 0)) rfl,
  fun l0 l1 a st E u => q_go (by decide +kernel : am_Pg 90 40 = some (.lstore_n 0, 1, [], 0)) rfl,
  fun l1 a st E u => q_go (by decide +kernel : am_Pg 90 41 = some (.lload_n 0, 1, [], 0)) rfl,
  fun l1 a st E u => q_go (by decide +kernel : am_Pg 90 42 = some (.lload_n 0, 1, [], 0)) rfl,
  fun l0 l1 st E u => q_go (by decide +kernel : am_Pg 90 43 = some (.bipush 16, 2, [], 0)) rfl,
  fun l0 l1 a b st E u => q_go (by decide +kernel : am_Pg 90 45 = some (.lushr, 1, [], 0)) rfl,
  fun l0 l1 a b st E u => q_go (by decide +kernel : am_Pg 90 46 = some (.ladd, 1, [], 0)) rfl,
  fun l0 l1 a st E u => q_go (by decide +kernel : am_Pg 90 47 = some (.lstore_n 0, 1, [], 0)) rfl,
  fun l1 a st E u => q_go (by decide +kernel : am_Pg 90 48 = some (.lload_n 0, 1, [], 0)) rfl,
  fun l1 a st E u => q_go (by decide +kernel : am_Pg 90 49 = some (.lload_n 0, 1, [], 0)) rfl,
  fun l0 l1 st E u => q_go (by decide +kernel : am_Pg 90 50 = some (.bipush 32, 2, [], 0)) rfl,
  fun l0 l1 a b st E u => q_go (by decide +kernel : am_Pg 90 52 = some (.lushr, 1, [], 0)) rfl,
  fun l0 l1 a b st E u => q_go (by decide +kernel : am_Pg 90 53 = some (.ladd, 1, [], 0)) rfl,
  fun l0 l1 a st E u => q_go (by decide +kernel : am_Pg 90 54 = some (.lstore_n 0, 1, [], 0)) rfl,
  fun l1 a st E u => q_go (by decide +kernel : am_Pg 90 55 = some (.lload_n 0, 1, [], 0)) rfl,
  fun l0 l1 a st E u => q_go (by decide +kernel : am_Pg 90 56 = some (.l2i, 1, [], 0)) rfl,
  fun l0 l1 st E u => q_go (by decide +kernel : am_Pg 90 57 = some (.bipush 127, 2, [], 0)) rfl,
  fun l0 l1 a b st E u => q_go (by decide +kernel : am_Pg 90 59 = some (.iand, 1, [], 0)) rfl,
  fun l0 l1 a E u => q_ret (by decide +kernel : am_Pg 90 60 = some (.ireturn, 1, [], 0)) rfl⟩
theorem x_C_holeCount :
  (∀ (a : Option Nat) (st : List am_V) (E : am_E) (u : am_M), Rn m_C_holeCount 0 [vR a] st E u = Rn m_C_holeCount 1 [vR a] (vR a :: st) E u) ∧
  (∀ (l0 : am_V) (k : Nat) (st : List am_V) (E : am_E) (u : am_M) (hE : SE E) (hk : cuB k), Rn m_C_holeCount 1 [l0] (vR (some k) :: st) E u = Rn m_C_holeCount 4 [l0] (vL (u k 7) :: st) E u) ∧
  (∀ (l0 : am_V) (a0 : Int) (E : am_E) (u : am_M), Rn m_C_holeCount 4 [l0] [vL a0] E u = bdI (Rn m_J_bitL 0 [vL a0, vB false] [] E u) (KI m_C_holeCount 7 [l0] [])) ∧
  (∀ (l0 : am_V) (a : Int) (E : am_E) (u : am_M), Rn m_C_holeCount 7 [l0] [vI a] E u = some (some (vI a), E, u)) :=
  ⟨fun a st E u => q_go (by decide +kernel : am_Pg 91 0 = some (.aload_n 0, 1, [], 0)) rfl,
  fun l0 k st E u hE hk => q_gfL (by decide +kernel : am_Pg 91 1 = some (.getfield 58, 3, [0, 14, 7, 0], 0)) (SE_k0 hE hk) rfl,
  fun l0 a0  E u => q_cI (by decide +kernel : am_Pg 91 4 = some (.invokestatic 89, 3, [2, 90, 1, 0], 0)) (am_call_S (f := fun _ _ => true) (a := [vL a0]) (st' := []) (Nat.le_of_ble_eq_true rfl) rfl rfl) (by decide +kernel : am_Lm m_J_bitL = 2) (Nat.le_of_ble_eq_true rfl) rfl (by decide +kernel),
  fun l0 a E u => q_ret (by decide +kernel : am_Pg 91 7 = some (.ireturn, 1, [], 0)) rfl⟩
theorem h_C_outSet_4 : ∀ (l0 l1 : am_V) (a : Int) (st : List am_V) (E : am_E) (u : am_M), Rn m_C_outSet 4 [l0, l1, vI a] st E u = Rn m_C_outSet 5 [l0, l1, vI a] (vI a :: st) E u :=
  fun l0 l1 a st E u => q_go (by decide +kernel : am_Pg 92 4 = some (.iload_n 2, 1, [], 0)) rfl
theorem x_C_outSet :
  (∀ (l0 l1 l2 : am_V) (st : List am_V) (E : am_E) (u : am_M), Rn m_C_outSet 0 [l0, l1, l2] st E u = Rn m_C_outSet 1 [l0, l1, l2] (vI 0 :: st) E u) ∧
  (∀ (l0 l1 l2 : am_V) (a : Int) (st : List am_V) (E : am_E) (u : am_M), Rn m_C_outSet 1 [l0, l1, l2] (vI a :: st) E u = Rn m_C_outSet 2 [am_fx l0, vI a, l2] st E u) ∧
  (∀ (l0 l1 l2 : am_V) (st : List am_V) (E : am_E) (u : am_M), Rn m_C_outSet 2 [l0, l1, l2] st E u = Rn m_C_outSet 3 [l0, l1, l2] (vI 0 :: st) E u) ∧
  (∀ (l0 l1 l2 : am_V) (a : Int) (st : List am_V) (E : am_E) (u : am_M), Rn m_C_outSet 3 [l0, l1, l2] (vI a :: st) E u = Rn m_C_outSet 4 [l0, am_fx l1, vI a] st E u) ∧
  (∀ (l1 l2 : am_V) (a : Option Nat) (st : List am_V) (E : am_E) (u : am_M), Rn m_C_outSet 5 [vR a, l1, l2] st E u = Rn m_C_outSet 6 [vR a, l1, l2] (vR a :: st) E u) ∧
  (∀ (l0 l1 l2 : am_V) (k : Nat) (st : List am_V) (E : am_E) (u : am_M) (hE : SE E) (hk : cuB k), Rn m_C_outSet 6 [l0, l1, l2] (vR (some k) :: st) E u = Rn m_C_outSet 9 [l0, l1, l2] (vI (u k 2) :: st) E u) ∧
  (∀ (l0 l1 l2 : am_V) (a b : Int) (st : List am_V) (E : am_E) (u : am_M), Rn m_C_outSet 9 [l0, l1, l2] (vI b :: vI a :: st) E u = if a < b then Rn m_C_outSet 12 [l0, l1, l2] st E u else Rn m_C_outSet 37 [l0, l1, l2] st E u) ∧
  (∀ (l1 l2 : am_V) (a : Option Nat) (st : List am_V) (E : am_E) (u : am_M), Rn m_C_outSet 12 [vR a, l1, l2] st E u = Rn m_C_outSet 13 [vR a, l1, l2] (vR a :: st) E u) ∧
  (∀ (l0 l1 l2 : am_V) (k : Nat) (st : List am_V) (E : am_E) (u : am_M) (hE : SE E) (hk : cuB k), Rn m_C_outSet 13 [l0, l1, l2] (vR (some k) :: st) E u = Rn m_C_outSet 16 [l0, l1, l2] (vR (some (k + 2)) :: st) E u) ∧
  (∀ (l0 l1 : am_V) (a : Int) (st : List am_V) (E : am_E) (u : am_M), Rn m_C_outSet 16 [l0, l1, vI a] st E u = Rn m_C_outSet 17 [l0, l1, vI a] (vI a :: st) E u) ∧
  (∀ (l0 l1 l2 : am_V) (a0 : Option Nat) (a1 : Int) (E : am_E) (u : am_M), Rn m_C_outSet 17 [l0, l1, l2] [vI a1, vR a0] E u = bdI (Rn m_A_look 0 [vR a0, vI a1] [] E u) (KI m_C_outSet 20 [l0, l1, l2] [])) ∧
  (∀ (l0 l1 l2 : am_V) (st : List am_V) (E : am_E) (u : am_M), Rn m_C_outSet 20 [l0, l1, l2] st E u = Rn m_C_outSet 22 [l0, l1, l2] (vI (-4) :: st) E u) ∧
  (∀ (l0 l1 l2 : am_V) (a b : Int) (st : List am_V) (E : am_E) (u : am_M), Rn m_C_outSet 22 [l0, l1, l2] (vI b :: vI a :: st) E u = if a = b then Rn m_C_outSet 25 [l0, l1, l2] st E u else Rn m_C_outSet 31 [l0, l1, l2] st E u) ∧
  (∀ (l0 l2 : am_V) (a : Int) (st : List am_V) (E : am_E) (u : am_M), Rn m_C_outSet 25 [l0, vI a, l2] st E u = Rn m_C_outSet 26 [l0, vI a, l2] (vI a :: st) E u) ∧
  (∀ (l0 l1 l2 : am_V) (st : List am_V) (E : am_E) (u : am_M), Rn m_C_outSet 26 [l0, l1, l2] st E u = Rn m_C_outSet 27 [l0, l1, l2] (vI 1 :: st) E u) ∧
  (∀ (l0 l1 : am_V) (a : Int) (st : List am_V) (E : am_E) (u : am_M), Rn m_C_outSet 27 [l0, l1, vI a] st E u = Rn m_C_outSet 28 [l0, l1, vI a] (vI a :: st) E u) ∧
  (∀ (l0 l1 l2 : am_V) (a b : Int) (st : List am_V) (E : am_E) (u : am_M), Rn m_C_outSet 28 [l0, l1, l2] (vI b :: vI a :: st) E u = Rn m_C_outSet 29 [l0, l1, l2] (vI (i_shl a b) :: st) E u) ∧
  (∀ (l0 l1 l2 : am_V) (a b : Int) (st : List am_V) (E : am_E) (u : am_M), Rn m_C_outSet 29 [l0, l1, l2] (vI b :: vI a :: st) E u = Rn m_C_outSet 30 [l0, l1, l2] (vI (i_or a b) :: st) E u) ∧
  (∀ (l0 l1 l2 : am_V) (a : Int) (st : List am_V) (E : am_E) (u : am_M), Rn m_C_outSet 30 [l0, l1, l2] (vI a :: st) E u = Rn m_C_outSet 31 [am_fx l0, vI a, l2] st E u) ∧
  (∀ (l0 l1 : am_V) (a : Int) (st : List am_V) (E : am_E) (u : am_M), Rn m_C_outSet 31 [l0, l1, vI a] st E u = Rn m_C_outSet 34 [l0, am_fx l1, vI (w32 (a + 1))] st E u) ∧
  (∀ (l0 l1 l2 : am_V) (st : List am_V) (E : am_E) (u : am_M), Rn m_C_outSet 34 [l0, l1, l2] st E u = Rn m_C_outSet 4 [l0, l1, l2] st E u) ∧
  (∀ (l0 l2 : am_V) (a : Int) (st : List am_V) (E : am_E) (u : am_M), Rn m_C_outSet 37 [l0, vI a, l2] st E u = Rn m_C_outSet 38 [l0, vI a, l2] (vI a :: st) E u) ∧
  (∀ (l0 l1 l2 : am_V) (a : Int) (E : am_E) (u : am_M), Rn m_C_outSet 38 [l0, l1, l2] [vI a] E u = some (some (vI a), E, u)) :=
  ⟨fun l0 l1 l2 st E u => q_go (by decide +kernel : am_Pg 92 0 = some (.iconst 0, 1, [], 0)) rfl,
  fun l0 l1 l2 a st E u => q_go (by decide +kernel : am_Pg 92 1 = some (.istore_n 1, 1, [], 0)) rfl,
  fun l0 l1 l2 st E u => q_go (by decide +kernel : am_Pg 92 2 = some (.iconst 0, 1, [], 0)) rfl,
  fun l0 l1 l2 a st E u => q_go (by decide +kernel : am_Pg 92 3 = some (.istore_n 2, 1, [], 0)) rfl,
  fun l1 l2 a st E u => q_go (by decide +kernel : am_Pg 92 5 = some (.aload_n 0, 1, [], 0)) rfl,
  fun l0 l1 l2 k st E u hE hk => q_gfI (by decide +kernel : am_Pg 92 6 = some (.getfield 46, 3, [0, 14, 2, 0], 0)) (SE_k0 hE hk) (by decide),
  fun l0 l1 l2 a b st E u => q_icmp_ge (tgt := 37) (by decide +kernel : am_Pg 92 9 = some (.if_icmp .ge 28, 3, [], 0)) (by decide),
  fun l1 l2 a st E u => q_go (by decide +kernel : am_Pg 92 12 = some (.aload_n 0, 1, [], 0)) rfl,
  fun l0 l1 l2 k st E u hE hk => q_gfR (by decide +kernel : am_Pg 92 13 = some (.getfield 25, 3, [0, 14, 9, 0], 0)) (SE_k0 hE hk) rfl (SE_r0_9 hE hk),
  fun l0 l1 a st E u => q_go (by decide +kernel : am_Pg 92 16 = some (.iload_n 2, 1, [], 0)) rfl,
  fun l0 l1 l2 a0 a1  E u => q_cI (by decide +kernel : am_Pg 92 17 = some (.invokestatic 105, 3, [2, 36, 2, 1], 0)) (am_call_S (f := fun _ _ => true) (a := [vR a0, vI a1]) (st' := []) (Nat.le_of_ble_eq_true rfl) rfl rfl) (by decide +kernel : am_Lm m_A_look = 2) (Nat.le_of_ble_eq_true rfl) rfl (by decide +kernel),
  fun l0 l1 l2 st E u => q_go (by decide +kernel : am_Pg 92 20 = some (.bipush (-4), 2, [], 0)) rfl,
  fun l0 l1 l2 a b st E u => q_icmp_ne (tgt := 31) (by decide +kernel : am_Pg 92 22 = some (.if_icmp .ne 9, 3, [], 0)) (by decide),
  fun l0 l2 a st E u => q_go (by decide +kernel : am_Pg 92 25 = some (.iload_n 1, 1, [], 0)) rfl,
  fun l0 l1 l2 st E u => q_go (by decide +kernel : am_Pg 92 26 = some (.iconst 1, 1, [], 0)) rfl,
  fun l0 l1 a st E u => q_go (by decide +kernel : am_Pg 92 27 = some (.iload_n 2, 1, [], 0)) rfl,
  fun l0 l1 l2 a b st E u => q_go (by decide +kernel : am_Pg 92 28 = some (.ishl, 1, [], 0)) rfl,
  fun l0 l1 l2 a b st E u => q_go (by decide +kernel : am_Pg 92 29 = some (.ior, 1, [], 0)) rfl,
  fun l0 l1 l2 a st E u => q_go (by decide +kernel : am_Pg 92 30 = some (.istore_n 1, 1, [], 0)) rfl,
  fun l0 l1 a st E u => q_go (by decide +kernel : am_Pg 92 31 = some (.iinc 2 1, 3, [], 0)) rfl,
  fun l0 l1 l2 st E u => q_go (by decide +kernel : am_Pg 92 34 = some (.goto (-30), 3, [], 0)) rfl,
  fun l0 l2 a st E u => q_go (by decide +kernel : am_Pg 92 37 = some (.iload_n 1, 1, [], 0)) rfl,
  fun l0 l1 l2 a E u => q_ret (by decide +kernel : am_Pg 92 38 = some (.ireturn, 1, [], 0)) rfl⟩
theorem h_C_holdSet_4 : ∀ (l0 l1 : am_V) (a : Int) (st : List am_V) (E : am_E) (u : am_M), Rn m_C_holdSet 4 [l0, l1, vI a] st E u = Rn m_C_holdSet 5 [l0, l1, vI a] (vI a :: st) E u :=
  fun l0 l1 a st E u => q_go (by decide +kernel : am_Pg 93 4 = some (.iload_n 2, 1, [], 0)) rfl
theorem x_C_holdSet :
  (∀ (l0 l1 l2 : am_V) (st : List am_V) (E : am_E) (u : am_M), Rn m_C_holdSet 0 [l0, l1, l2] st E u = Rn m_C_holdSet 1 [l0, l1, l2] (vI 0 :: st) E u) ∧
  (∀ (l0 l1 l2 : am_V) (a : Int) (st : List am_V) (E : am_E) (u : am_M), Rn m_C_holdSet 1 [l0, l1, l2] (vI a :: st) E u = Rn m_C_holdSet 2 [am_fx l0, vI a, l2] st E u) ∧
  (∀ (l0 l1 l2 : am_V) (st : List am_V) (E : am_E) (u : am_M), Rn m_C_holdSet 2 [l0, l1, l2] st E u = Rn m_C_holdSet 3 [l0, l1, l2] (vI 0 :: st) E u) ∧
  (∀ (l0 l1 l2 : am_V) (a : Int) (st : List am_V) (E : am_E) (u : am_M), Rn m_C_holdSet 3 [l0, l1, l2] (vI a :: st) E u = Rn m_C_holdSet 4 [l0, am_fx l1, vI a] st E u) ∧
  (∀ (l1 l2 : am_V) (a : Option Nat) (st : List am_V) (E : am_E) (u : am_M), Rn m_C_holdSet 5 [vR a, l1, l2] st E u = Rn m_C_holdSet 6 [vR a, l1, l2] (vR a :: st) E u) ∧
  (∀ (l0 l1 l2 : am_V) (k : Nat) (st : List am_V) (E : am_E) (u : am_M) (hE : SE E) (hk : cuB k), Rn m_C_holdSet 6 [l0, l1, l2] (vR (some k) :: st) E u = Rn m_C_holdSet 9 [l0, l1, l2] (vI (u k 3) :: st) E u) ∧
  (∀ (l0 l1 l2 : am_V) (a b : Int) (st : List am_V) (E : am_E) (u : am_M), Rn m_C_holdSet 9 [l0, l1, l2] (vI b :: vI a :: st) E u = if a < b then Rn m_C_holdSet 12 [l0, l1, l2] st E u else Rn m_C_holdSet 32 [l0, l1, l2] st E u) ∧
  (∀ (l1 l2 : am_V) (a : Option Nat) (st : List am_V) (E : am_E) (u : am_M), Rn m_C_holdSet 12 [vR a, l1, l2] st E u = Rn m_C_holdSet 13 [vR a, l1, l2] (vR a :: st) E u) ∧
  (∀ (l0 l1 : am_V) (a : Int) (st : List am_V) (E : am_E) (u : am_M), Rn m_C_holdSet 13 [l0, l1, vI a] st E u = Rn m_C_holdSet 14 [l0, l1, vI a] (vI a :: st) E u) ∧
  (∀ (l0 l1 l2 : am_V) (k : Nat) (a0 : Int) (E : am_E) (u : am_M) (hE : SE E) (hk : cuB k), Rn m_C_holdSet 14 [l0, l1, l2] [vI a0, vR (some k)] E u = bdI (Rn m_C_holds 0 [vR (some k), vI a0, vB false, vB false] [] E u) (KI m_C_holdSet 17 [l0, l1, l2] [])) ∧
  (∀ (l0 l1 l2 : am_V) (a : Int) (st : List am_V) (E : am_E) (u : am_M), Rn m_C_holdSet 17 [l0, l1, l2] (vI a :: st) E u = if a = 0 then Rn m_C_holdSet 26 [l0, l1, l2] st E u else Rn m_C_holdSet 20 [l0, l1, l2] st E u) ∧
  (∀ (l0 l2 : am_V) (a : Int) (st : List am_V) (E : am_E) (u : am_M), Rn m_C_holdSet 20 [l0, vI a, l2] st E u = Rn m_C_holdSet 21 [l0, vI a, l2] (vI a :: st) E u) ∧
  (∀ (l0 l1 l2 : am_V) (st : List am_V) (E : am_E) (u : am_M), Rn m_C_holdSet 21 [l0, l1, l2] st E u = Rn m_C_holdSet 22 [l0, l1, l2] (vI 1 :: st) E u) ∧
  (∀ (l0 l1 : am_V) (a : Int) (st : List am_V) (E : am_E) (u : am_M), Rn m_C_holdSet 22 [l0, l1, vI a] st E u = Rn m_C_holdSet 23 [l0, l1, vI a] (vI a :: st) E u) ∧
  (∀ (l0 l1 l2 : am_V) (a b : Int) (st : List am_V) (E : am_E) (u : am_M), Rn m_C_holdSet 23 [l0, l1, l2] (vI b :: vI a :: st) E u = Rn m_C_holdSet 24 [l0, l1, l2] (vI (i_shl a b) :: st) E u) ∧
  (∀ (l0 l1 l2 : am_V) (a b : Int) (st : List am_V) (E : am_E) (u : am_M), Rn m_C_holdSet 24 [l0, l1, l2] (vI b :: vI a :: st) E u = Rn m_C_holdSet 25 [l0, l1, l2] (vI (i_or a b) :: st) E u) ∧
  (∀ (l0 l1 l2 : am_V) (a : Int) (st : List am_V) (E : am_E) (u : am_M), Rn m_C_holdSet 25 [l0, l1, l2] (vI a :: st) E u = Rn m_C_holdSet 26 [am_fx l0, vI a, l2] st E u) ∧
  (∀ (l0 l1 : am_V) (a : Int) (st : List am_V) (E : am_E) (u : am_M), Rn m_C_holdSet 26 [l0, l1, vI a] st E u = Rn m_C_holdSet 29 [l0, am_fx l1, vI (w32 (a + 1))] st E u) ∧
  (∀ (l0 l1 l2 : am_V) (st : List am_V) (E : am_E) (u : am_M), Rn m_C_holdSet 29 [l0, l1, l2] st E u = Rn m_C_holdSet 4 [l0, l1, l2] st E u) ∧
  (∀ (l0 l2 : am_V) (a : Int) (st : List am_V) (E : am_E) (u : am_M), Rn m_C_holdSet 32 [l0, vI a, l2] st E u = Rn m_C_holdSet 33 [l0, vI a, l2] (vI a :: st) E u) ∧
  (∀ (l0 l1 l2 : am_V) (a : Int) (E : am_E) (u : am_M), Rn m_C_holdSet 33 [l0, l1, l2] [vI a] E u = some (some (vI a), E, u)) :=
  ⟨fun l0 l1 l2 st E u => q_go (by decide +kernel : am_Pg 93 0 = some (.iconst 0, 1, [], 0)) rfl,
  fun l0 l1 l2 a st E u => q_go (by decide +kernel : am_Pg 93 1 = some (.istore_n 1, 1, [], 0)) rfl,
  fun l0 l1 l2 st E u => q_go (by decide +kernel : am_Pg 93 2 = some (.iconst 0, 1, [], 0)) rfl,
  fun l0 l1 l2 a st E u => q_go (by decide +kernel : am_Pg 93 3 = some (.istore_n 2, 1, [], 0)) rfl,
  fun l1 l2 a st E u => q_go (by decide +kernel : am_Pg 93 5 = some (.aload_n 0, 1, [], 0)) rfl,
  fun l0 l1 l2 k st E u hE hk => q_gfI (by decide +kernel : am_Pg 93 6 = some (.getfield 49, 3, [0, 14, 3, 0], 0)) (SE_k0 hE hk) (by decide),
  fun l0 l1 l2 a b st E u => q_icmp_ge (tgt := 32) (by decide +kernel : am_Pg 93 9 = some (.if_icmp .ge 23, 3, [], 0)) (by decide),
  fun l1 l2 a st E u => q_go (by decide +kernel : am_Pg 93 12 = some (.aload_n 0, 1, [], 0)) rfl,
  fun l0 l1 a st E u => q_go (by decide +kernel : am_Pg 93 13 = some (.iload_n 2, 1, [], 0)) rfl,
  fun l0 l1 l2 k a0  E u hE hk => q_cI (by decide +kernel : am_Pg 93 14 = some (.invokevirtual 109, 3, [3, 41, 2, 0, 14, 0], 0)) (am_call_V (a := [vI a0]) (st' := []) (Nat.le_of_ble_eq_true rfl) rfl (SE_k0 hE hk)) (by decide +kernel : am_Lm m_C_holds = 4) (Nat.le_of_ble_eq_true rfl) rfl (by decide +kernel),
  fun l0 l1 l2 a st E u => q_if_eq (tgt := 26) (by decide +kernel : am_Pg 93 17 = some (.ifCond .eq 9, 3, [], 0)) (by decide),
  fun l0 l2 a st E u => q_go (by decide +kernel : am_Pg 93 20 = some (.iload_n 1, 1, [], 0)) rfl,
  fun l0 l1 l2 st E u => q_go (by decide +kernel : am_Pg 93 21 = some (.iconst 1, 1, [], 0)) rfl,
  fun l0 l1 a st E u => q_go (by decide +kernel : am_Pg 93 22 = some (.iload_n 2, 1, [], 0)) rfl,
  fun l0 l1 l2 a b st E u => q_go (by decide +kernel : am_Pg 93 23 = some (.ishl, 1, [], 0)) rfl,
  fun l0 l1 l2 a b st E u => q_go (by decide +kernel : am_Pg 93 24 = some (.ior, 1, [], 0)) rfl,
  fun l0 l1 l2 a st E u => q_go (by decide +kernel : am_Pg 93 25 = some (.istore_n 1, 1, [], 0)) rfl,
  fun l0 l1 a st E u => q_go (by decide +kernel : am_Pg 93 26 = some (.iinc 2 1, 3, [], 0)) rfl,
  fun l0 l1 l2 st E u => q_go (by decide +kernel : am_Pg 93 29 = some (.goto (-25), 3, [], 0)) rfl,
  fun l0 l2 a st E u => q_go (by decide +kernel : am_Pg 93 32 = some (.iload_n 1, 1, [], 0)) rfl,
  fun l0 l1 l2 a E u => q_ret (by decide +kernel : am_Pg 93 33 = some (.ireturn, 1, [], 0)) rfl⟩
theorem x_P_moment :
  (∀ (l1 l2 : am_V) (a : Option Nat) (st : List am_V) (E : am_E) (u : am_M), Rn m_P_moment 0 [vR a, l1, l2] st E u = Rn m_P_moment 1 [vR a, l1, l2] (vR a :: st) E u) ∧
  (∀ (l0 l1 l2 : am_V) (k : Nat) (st : List am_V) (E : am_E) (u : am_M) (hE : SE E) (hk : paB k), Rn m_P_moment 1 [l0, l1, l2] (vR (some k) :: st) E u = Rn m_P_moment 4 [l0, l1, l2] (vI (u k 1) :: st) E u) ∧
  (∀ (l0 l2 : am_V) (a : Int) (st : List am_V) (E : am_E) (u : am_M), Rn m_P_moment 4 [l0, vI a, l2] st E u = Rn m_P_moment 5 [l0, vI a, l2] (vI a :: st) E u) ∧
  (∀ (l0 l1 l2 : am_V) (a b : Int) (st : List am_V) (E : am_E) (u : am_M), Rn m_P_moment 5 [l0, l1, l2] (vI b :: vI a :: st) E u = Rn m_P_moment 6 [l0, l1, l2] (vI (w32 (a + b)) :: st) E u) ∧
  (∀ (l0 l1 l2 : am_V) (st : List am_V) (E : am_E) (u : am_M), Rn m_P_moment 6 [l0, l1, l2] st E u = Rn m_P_moment 8 [l0, l1, l2] (vI 8 :: st) E u) ∧
  (∀ (l0 l1 l2 : am_V) (a b : Int) (st : List am_V) (E : am_E) (u : am_M) (h : b ≠ 0), Rn m_P_moment 8 [l0, l1, l2] (vI b :: vI a :: st) E u = Rn m_P_moment 9 [l0, l1, l2] (vI (w32 (a.tmod b)) :: st) E u) ∧
  (∀ (l0 l1 l2 : am_V) (a : Int) (st : List am_V) (E : am_E) (u : am_M), Rn m_P_moment 9 [l0, l1, l2] (vI a :: st) E u = Rn m_P_moment 10 [l0, am_fx l1, vI a] st E u) ∧
  (∀ (l0 l1 : am_V) (a : Int) (st : List am_V) (E : am_E) (u : am_M), Rn m_P_moment 10 [l0, l1, vI a] st E u = Rn m_P_moment 11 [l0, l1, vI a] (vI a :: st) E u) ∧
  (∀ (l0 l1 l2 : am_V) (a : Int) (st : List am_V) (E : am_E) (u : am_M), Rn m_P_moment 11 [l0, l1, l2] (vI a :: st) E u = if a < 0 then Rn m_P_moment 32 [l0, l1, l2] st E u else Rn m_P_moment 14 [l0, l1, l2] st E u) ∧
  (∀ (l0 l1 : am_V) (a : Int) (st : List am_V) (E : am_E) (u : am_M), Rn m_P_moment 14 [l0, l1, vI a] st E u = Rn m_P_moment 15 [l0, l1, vI a] (vI a :: st) E u) ∧
  (∀ (l1 l2 : am_V) (a : Option Nat) (st : List am_V) (E : am_E) (u : am_M), Rn m_P_moment 15 [vR a, l1, l2] st E u = Rn m_P_moment 16 [vR a, l1, l2] (vR a :: st) E u) ∧
  (∀ (l0 l1 l2 : am_V) (k : Nat) (st : List am_V) (E : am_E) (u : am_M) (hE : SE E) (hk : paB k), Rn m_P_moment 16 [l0, l1, l2] (vR (some k) :: st) E u = Rn m_P_moment 19 [l0, l1, l2] (vR (some (k + 1)) :: st) E u) ∧
  (∀ (l0 l1 l2 : am_V) (k : Nat) (st : List am_V) (E : am_E) (u : am_M) (hk : am_kn E k = 12), Rn m_P_moment 19 [l0, l1, l2] (vR (some k) :: st) E u = Rn m_P_moment 20 [l0, l1, l2] (vI (am_len 12 E k) :: st) E u) ∧
  (∀ (l0 l1 l2 : am_V) (a b : Int) (st : List am_V) (E : am_E) (u : am_M), Rn m_P_moment 20 [l0, l1, l2] (vI b :: vI a :: st) E u = if a < b then Rn m_P_moment 23 [l0, l1, l2] st E u else Rn m_P_moment 32 [l0, l1, l2] st E u) ∧
  (∀ (l1 l2 : am_V) (a : Option Nat) (st : List am_V) (E : am_E) (u : am_M), Rn m_P_moment 23 [vR a, l1, l2] st E u = Rn m_P_moment 24 [vR a, l1, l2] (vR a :: st) E u) ∧
  (∀ (l0 l1 l2 : am_V) (k : Nat) (st : List am_V) (E : am_E) (u : am_M) (hE : SE E) (hk : paB k), Rn m_P_moment 24 [l0, l1, l2] (vR (some k) :: st) E u = Rn m_P_moment 27 [l0, l1, l2] (vR (some (k + 1)) :: st) E u) ∧
  (∀ (l0 l1 : am_V) (a : Int) (st : List am_V) (E : am_E) (u : am_M), Rn m_P_moment 27 [l0, l1, vI a] st E u = Rn m_P_moment 28 [l0, l1, vI a] (vI a :: st) E u) ∧
  (∀ (l0 l1 l2 : am_V) (k : Nat) (i : Int) (st : List am_V) (E : am_E) (u : am_M) (h0 : 0 ≤ i) (h1 : i < am_len 12 E k), Rn m_P_moment 28 [l0, l1, l2] (vI i :: vR (some k) :: st) E u = Rn m_P_moment 29 [l0, l1, l2] (vR (E.2.1 k i.toNat) :: st) E u) ∧
  (∀ (l0 l1 l2 : am_V) (st : List am_V) (E : am_E) (u : am_M), Rn m_P_moment 29 [l0, l1, l2] st E u = Rn m_P_moment 33 [l0, l1, l2] st E u) ∧
  (∀ (l0 l1 l2 : am_V) (st : List am_V) (E : am_E) (u : am_M), Rn m_P_moment 32 [l0, l1, l2] st E u = Rn m_P_moment 33 [l0, l1, l2] (vR none :: st) E u) ∧
  (∀ (l0 l1 l2 : am_V) (a : Option Nat) (E : am_E) (u : am_M), Rn m_P_moment 33 [l0, l1, l2] [vR a] E u = some (some (vR a), E, u)) :=
  ⟨fun l1 l2 a st E u => q_go (by decide +kernel : am_Pg 99 0 = some (.aload_n 0, 1, [], 0)) rfl,
  fun l0 l1 l2 k st E u hE hk => q_gfI (by decide +kernel : am_Pg 99 1 = some (.getfield 18, 3, [1, 3, 1, 0], 0)) (SE_k1 hE hk) (by decide),
  fun l0 l2 a st E u => q_go (by decide +kernel : am_Pg 99 4 = some (.iload_n 1, 1, [], 0)) rfl,
  fun l0 l1 l2 a b st E u => q_go (by decide +kernel : am_Pg 99 5 = some (.iadd, 1, [], 0)) rfl,
  fun l0 l1 l2 st E u => q_go (by decide +kernel : am_Pg 99 6 = some (.bipush 8, 2, [], 0)) rfl,
  fun l0 l1 l2 a b st E u h => q_rem (by decide +kernel : am_Pg 99 8 = some (.irem, 1, [], 0)) h,
  fun l0 l1 l2 a st E u => q_go (by decide +kernel : am_Pg 99 9 = some (.istore_n 2, 1, [], 0)) rfl,
  fun l0 l1 a st E u => q_go (by decide +kernel : am_Pg 99 10 = some (.iload_n 2, 1, [], 0)) rfl,
  fun l0 l1 l2 a st E u => q_if_lt (tgt := 32) (by decide +kernel : am_Pg 99 11 = some (.ifCond .lt 21, 3, [], 0)) (by decide),
  fun l0 l1 a st E u => q_go (by decide +kernel : am_Pg 99 14 = some (.iload_n 2, 1, [], 0)) rfl,
  fun l1 l2 a st E u => q_go (by decide +kernel : am_Pg 99 15 = some (.aload_n 0, 1, [], 0)) rfl,
  fun l0 l1 l2 k st E u hE hk => q_gfR (by decide +kernel : am_Pg 99 16 = some (.getfield 11, 3, [1, 3, 0, 0], 0)) (SE_k1 hE hk) rfl (SE_r1_0 hE hk),
  fun l0 l1 l2 k st E u hk => q_alI (by decide +kernel : am_Pg 99 19 = some (.arraylength, 1, [], 0)) hk (by decide) (by decide),
  fun l0 l1 l2 a b st E u => q_icmp_ge (tgt := 32) (by decide +kernel : am_Pg 99 20 = some (.if_icmp .ge 12, 3, [], 0)) (by decide),
  fun l1 l2 a st E u => q_go (by decide +kernel : am_Pg 99 23 = some (.aload_n 0, 1, [], 0)) rfl,
  fun l0 l1 l2 k st E u hE hk => q_gfR (by decide +kernel : am_Pg 99 24 = some (.getfield 11, 3, [1, 3, 0, 0], 0)) (SE_k1 hE hk) rfl (SE_r1_0 hE hk),
  fun l0 l1 a st E u => q_go (by decide +kernel : am_Pg 99 27 = some (.iload_n 2, 1, [], 0)) rfl,
  fun l0 l1 l2 k i st E u h0 h1 => q_aald (by decide +kernel : am_Pg 99 28 = some (.aaload, 1, [], 0)) h0 (Or.inl h1),
  fun l0 l1 l2 st E u => q_go (by decide +kernel : am_Pg 99 29 = some (.goto 4, 3, [], 0)) rfl,
  fun l0 l1 l2 st E u => q_go (by decide +kernel : am_Pg 99 32 = some (.aconst_null, 1, [], 0)) rfl,
  fun l0 l1 l2 a E u => q_ret (by decide +kernel : am_Pg 99 33 = some (.areturn, 1, [], 0)) rfl⟩
theorem x_P_keeps :
  (∀ (l1 l2 : am_V) (a : Option Nat) (st : List am_V) (E : am_E) (u : am_M), Rn m_P_keeps 0 [vR a, l1, l2] st E u = Rn m_P_keeps 1 [vR a, l1, l2] (vR a :: st) E u) ∧
  (∀ (l0 l1 l2 : am_V) (k : Nat) (st : List am_V) (E : am_E) (u : am_M) (hE : SE E) (hk : paB k), Rn m_P_keeps 1 [l0, l1, l2] (vR (some k) :: st) E u = Rn m_P_keeps 4 [l0, l1, l2] (vI (u k 2) :: st) E u) ∧
  (∀ (l0 l1 l2 : am_V) (st : List am_V) (E : am_E) (u : am_M), Rn m_P_keeps 4 [l0, l1, l2] st E u = Rn m_P_keeps 6 [l0, l1, l2] (vI 8 :: st) E u) ∧
  (∀ (l0 l1 l2 : am_V) (a b : Int) (st : List am_V) (E : am_E) (u : am_M), Rn m_P_keeps 6 [l0, l1, l2] (vI b :: vI a :: st) E u = if a = b then Rn m_P_keeps 9 [l0, l1, l2] st E u else Rn m_P_keeps 32 [l0, l1, l2] st E u) ∧
  (∀ (l1 l2 : am_V) (a : Option Nat) (st : List am_V) (E : am_E) (u : am_M), Rn m_P_keeps 9 [vR a, l1, l2] st E u = Rn m_P_keeps 10 [vR a, l1, l2] (vR a :: st) E u) ∧
  (∀ (l1 l2 : am_V) (a : Option Nat) (st : List am_V) (E : am_E) (u : am_M), Rn m_P_keeps 10 [vR a, l1, l2] st E u = Rn m_P_keeps 11 [vR a, l1, l2] (vR a :: st) E u) ∧
  (∀ (l0 l1 l2 : am_V) (k : Nat) (st : List am_V) (E : am_E) (u : am_M) (hE : SE E) (hk : paB k), Rn m_P_keeps 11 [l0, l1, l2] (vR (some k) :: st) E u = Rn m_P_keeps 14 [l0, l1, l2] (vI (u k 1) :: st) E u) ∧
  (∀ (l0 l1 l2 : am_V) (st : List am_V) (E : am_E) (u : am_M), Rn m_P_keeps 14 [l0, l1, l2] st E u = Rn m_P_keeps 15 [l0, l1, l2] (vI 1 :: st) E u) ∧
  (∀ (l0 l1 l2 : am_V) (a b : Int) (st : List am_V) (E : am_E) (u : am_M), Rn m_P_keeps 15 [l0, l1, l2] (vI b :: vI a :: st) E u = Rn m_P_keeps 16 [l0, l1, l2] (vI (w32 (a + b)) :: st) E u) ∧
  (∀ (l0 l1 l2 : am_V) (st : List am_V) (E : am_E) (u : am_M), Rn m_P_keeps 16 [l0, l1, l2] st E u = Rn m_P_keeps 18 [l0, l1, l2] (vI 8 :: st) E u) ∧
  (∀ (l0 l1 l2 : am_V) (a b : Int) (st : List am_V) (E : am_E) (u : am_M) (h : b ≠ 0), Rn m_P_keeps 18 [l0, l1, l2] (vI b :: vI a :: st) E u = Rn m_P_keeps 19 [l0, l1, l2] (vI (w32 (a.tmod b)) :: st) E u) ∧
  (∀ (l0 l1 l2 : am_V) (k : Nat) (a : Int) (st : List am_V) (E : am_E) (u : am_M) (hE : SE E) (hk : paB k), Rn m_P_keeps 19 [l0, l1, l2] (vI a :: vR (some k) :: st) E u = Rn m_P_keeps 22 [l0, l1, l2] st E (am_up u k 1 a)) ∧
  (∀ (l1 l2 : am_V) (a : Option Nat) (st : List am_V) (E : am_E) (u : am_M), Rn m_P_keeps 22 [vR a, l1, l2] st E u = Rn m_P_keeps 23 [vR a, l1, l2] (vR a :: st) E u) ∧
  (∀ (l0 l1 l2 : am_V) (a : Int) (st : List am_V) (E : am_E) (u : am_M), Rn m_P_keeps 23 [l0, l1, l2] (vI a :: st) E u = Rn m_P_keeps 24 [l0, l1, l2] (vI a :: vI a :: st) E u) ∧
  (∀ (l0 l1 l2 : am_V) (a : Option Nat) (st : List am_V) (E : am_E) (u : am_M), Rn m_P_keeps 23 [l0, l1, l2] (vR a :: st) E u = Rn m_P_keeps 24 [l0, l1, l2] (vR a :: vR a :: st) E u) ∧
  (∀ (l0 l1 l2 : am_V) (k : Nat) (st : List am_V) (E : am_E) (u : am_M) (hE : SE E) (hk : paB k), Rn m_P_keeps 24 [l0, l1, l2] (vR (some k) :: st) E u = Rn m_P_keeps 27 [l0, l1, l2] (vI (u k 2) :: st) E u) ∧
  (∀ (l0 l1 l2 : am_V) (st : List am_V) (E : am_E) (u : am_M), Rn m_P_keeps 27 [l0, l1, l2] st E u = Rn m_P_keeps 28 [l0, l1, l2] (vI 1 :: st) E u) ∧
  (∀ (l0 l1 l2 : am_V) (a b : Int) (st : List am_V) (E : am_E) (u : am_M), Rn m_P_keeps 28 [l0, l1, l2] (vI b :: vI a :: st) E u = Rn m_P_keeps 29 [l0, l1, l2] (vI (w32 (a - b)) :: st) E u) ∧
  (∀ (l0 l1 l2 : am_V) (k : Nat) (a : Int) (st : List am_V) (E : am_E) (u : am_M) (hE : SE E) (hk : paB k), Rn m_P_keeps 29 [l0, l1, l2] (vI a :: vR (some k) :: st) E u = Rn m_P_keeps 32 [l0, l1, l2] st E (am_up u k 2 a)) ∧
  (∀ (l1 l2 : am_V) (a : Option Nat) (st : List am_V) (E : am_E) (u : am_M), Rn m_P_keeps 32 [vR a, l1, l2] st E u = Rn m_P_keeps 33 [vR a, l1, l2] (vR a :: st) E u) ∧
  (∀ (l1 l2 : am_V) (a : Option Nat) (st : List am_V) (E : am_E) (u : am_M), Rn m_P_keeps 33 [vR a, l1, l2] st E u = Rn m_P_keeps 34 [vR a, l1, l2] (vR a :: st) E u) ∧
  (∀ (l0 l1 l2 : am_V) (k : Nat) (st : List am_V) (E : am_E) (u : am_M) (hE : SE E) (hk : paB k), Rn m_P_keeps 34 [l0, l1, l2] (vR (some k) :: st) E u = Rn m_P_keeps 37 [l0, l1, l2] (vI (u k 2) :: st) E u) ∧
  (∀ (l0 l1 l2 : am_V) (k : Nat) (a0 : Int) (E : am_E) (u : am_M) (hE : SE E) (hk : paB k), Rn m_P_keeps 37 [l0, l1, l2] [vI a0, vR (some k)] E u = bdR (Rn m_P_moment 0 [vR (some k), vI a0, vB false] [] E u) (KR m_P_keeps 40 [l0, l1, l2] [])) ∧
  (∀ (l0 l1 l2 : am_V) (a : Option Nat) (st : List am_V) (E : am_E) (u : am_M), Rn m_P_keeps 40 [l0, l1, l2] (vR a :: st) E u = Rn m_P_keeps 41 [l0, am_fx l1, vR a] st E u) ∧
  (∀ (l0 l1 : am_V) (a : Option Nat) (st : List am_V) (E : am_E) (u : am_M), Rn m_P_keeps 41 [l0, l1, vR a] st E u = Rn m_P_keeps 42 [l0, l1, vR a] (vR a :: st) E u) ∧
  (∀ (l0 l1 l2 : am_V) (st : List am_V) (E : am_E) (u : am_M), Rn m_P_keeps 42 [l0, l1, l2] (vR none :: st) E u = Rn m_P_keeps 60 [l0, l1, l2] st E u) ∧
  (∀ (l0 l1 l2 : am_V) (a : Nat) (st : List am_V) (E : am_E) (u : am_M), Rn m_P_keeps 42 [l0, l1, l2] (vR (some a) :: st) E u = Rn m_P_keeps 45 [l0, l1, l2] st E u) ∧
  (∀ (l0 l1 : am_V) (a : Option Nat) (st : List am_V) (E : am_E) (u : am_M), Rn m_P_keeps 45 [l0, l1, vR a] st E u = Rn m_P_keeps 46 [l0, l1, vR a] (vR a :: st) E u) ∧
  (∀ (l0 l2 : am_V) (a : Option Nat) (st : List am_V) (E : am_E) (u : am_M), Rn m_P_keeps 46 [l0, vR a, l2] st E u = Rn m_P_keeps 47 [l0, vR a, l2] (vR a :: st) E u) ∧
  (∀ (l0 l1 l2 : am_V) (k : Nat) (a0 : Option Nat) (E : am_E) (u : am_M) (hE : SE E) (hk : cuB k), Rn m_P_keeps 47 [l0, l1, l2] [vR a0, vR (some k)] E u = bdV (Rn m_C_becomes 0 [vR (some k), vR a0] [] E u) (KV m_P_keeps 50 [l0, l1, l2] [])) ∧
  (∀ (l1 l2 : am_V) (a : Option Nat) (st : List am_V) (E : am_E) (u : am_M), Rn m_P_keeps 50 [vR a, l1, l2] st E u = Rn m_P_keeps 51 [vR a, l1, l2] (vR a :: st) E u) ∧
  (∀ (l0 l1 l2 : am_V) (a : Int) (st : List am_V) (E : am_E) (u : am_M), Rn m_P_keeps 51 [l0, l1, l2] (vI a :: st) E u = Rn m_P_keeps 52 [l0, l1, l2] (vI a :: vI a :: st) E u) ∧
  (∀ (l0 l1 l2 : am_V) (a : Option Nat) (st : List am_V) (E : am_E) (u : am_M), Rn m_P_keeps 51 [l0, l1, l2] (vR a :: st) E u = Rn m_P_keeps 52 [l0, l1, l2] (vR a :: vR a :: st) E u) ∧
  (∀ (l0 l1 l2 : am_V) (k : Nat) (st : List am_V) (E : am_E) (u : am_M) (hE : SE E) (hk : paB k), Rn m_P_keeps 52 [l0, l1, l2] (vR (some k) :: st) E u = Rn m_P_keeps 55 [l0, l1, l2] (vI (u k 2) :: st) E u) ∧
  (∀ (l0 l1 l2 : am_V) (st : List am_V) (E : am_E) (u : am_M), Rn m_P_keeps 55 [l0, l1, l2] st E u = Rn m_P_keeps 56 [l0, l1, l2] (vI 1 :: st) E u) ∧
  (∀ (l0 l1 l2 : am_V) (a b : Int) (st : List am_V) (E : am_E) (u : am_M), Rn m_P_keeps 56 [l0, l1, l2] (vI b :: vI a :: st) E u = Rn m_P_keeps 57 [l0, l1, l2] (vI (w32 (a + b)) :: st) E u) ∧
  (∀ (l0 l1 l2 : am_V) (k : Nat) (a : Int) (st : List am_V) (E : am_E) (u : am_M) (hE : SE E) (hk : paB k), Rn m_P_keeps 57 [l0, l1, l2] (vI a :: vR (some k) :: st) E u = Rn m_P_keeps 60 [l0, l1, l2] st E (am_up u k 2 a)) ∧
  (∀ (l0 l1 l2 : am_V) (E : am_E) (u : am_M), Rn m_P_keeps 60 [l0, l1, l2] [] E u = some (none, E, u)) :=
  ⟨fun l1 l2 a st E u => q_go (by decide +kernel : am_Pg 100 0 = some (.aload_n 0, 1, [], 0)) rfl,
  fun l0 l1 l2 k st E u hE hk => q_gfI (by decide +kernel : am_Pg 100 1 = some (.getfield 22, 3, [1, 3, 2, 0], 0)) (SE_k1 hE hk) (by decide),
  fun l0 l1 l2 st E u => q_go (by decide +kernel : am_Pg 100 4 = some (.bipush 8, 2, [], 0)) rfl,
  fun l0 l1 l2 a b st E u => q_icmp_ne (tgt := 32) (by decide +kernel : am_Pg 100 6 = some (.if_icmp .ne 26, 3, [], 0)) (by decide),
  fun l1 l2 a st E u => q_go (by decide +kernel : am_Pg 100 9 = some (.aload_n 0, 1, [], 0)) rfl,
  fun l1 l2 a st E u => q_go (by decide +kernel : am_Pg 100 10 = some (.aload_n 0, 1, [], 0)) rfl,
  fun l0 l1 l2 k st E u hE hk => q_gfI (by decide +kernel : am_Pg 100 11 = some (.getfield 18, 3, [1, 3, 1, 0], 0)) (SE_k1 hE hk) (by decide),
  fun l0 l1 l2 st E u => q_go (by decide +kernel : am_Pg 100 14 = some (.iconst 1, 1, [], 0)) rfl,
  fun l0 l1 l2 a b st E u => q_go (by decide +kernel : am_Pg 100 15 = some (.iadd, 1, [], 0)) rfl,
  fun l0 l1 l2 st E u => q_go (by decide +kernel : am_Pg 100 16 = some (.bipush 8, 2, [], 0)) rfl,
  fun l0 l1 l2 a b st E u h => q_rem (by decide +kernel : am_Pg 100 18 = some (.irem, 1, [], 0)) h,
  fun l0 l1 l2 k a st E u hE hk => q_pfI (by decide +kernel : am_Pg 100 19 = some (.putfield 18, 3, [1, 3, 1, 0], 0)) (SE_k1 hE hk) rfl,
  fun l1 l2 a st E u => q_go (by decide +kernel : am_Pg 100 22 = some (.aload_n 0, 1, [], 0)) rfl,
  fun l0 l1 l2 a st E u => q_go (by decide +kernel : am_Pg 100 23 = some (.dup, 1, [], 0)) rfl,
  fun l0 l1 l2 a st E u => q_go (by decide +kernel : am_Pg 100 23 = some (.dup, 1, [], 0)) rfl,
  fun l0 l1 l2 k st E u hE hk => q_gfI (by decide +kernel : am_Pg 100 24 = some (.getfield 22, 3, [1, 3, 2, 0], 0)) (SE_k1 hE hk) (by decide),
  fun l0 l1 l2 st E u => q_go (by decide +kernel : am_Pg 100 27 = some (.iconst 1, 1, [], 0)) rfl,
  fun l0 l1 l2 a b st E u => q_go (by decide +kernel : am_Pg 100 28 = some (.isub, 1, [], 0)) rfl,
  fun l0 l1 l2 k a st E u hE hk => q_pfI (by decide +kernel : am_Pg 100 29 = some (.putfield 22, 3, [1, 3, 2, 0], 0)) (SE_k1 hE hk) rfl,
  fun l1 l2 a st E u => q_go (by decide +kernel : am_Pg 100 32 = some (.aload_n 0, 1, [], 0)) rfl,
  fun l1 l2 a st E u => q_go (by decide +kernel : am_Pg 100 33 = some (.aload_n 0, 1, [], 0)) rfl,
  fun l0 l1 l2 k st E u hE hk => q_gfI (by decide +kernel : am_Pg 100 34 = some (.getfield 22, 3, [1, 3, 2, 0], 0)) (SE_k1 hE hk) (by decide),
  fun l0 l1 l2 k a0  E u hE hk => q_cR (by decide +kernel : am_Pg 100 37 = some (.invokevirtual 25, 3, [3, 99, 2, 1, 3, 0], 0)) (am_call_V (a := [vI a0]) (st' := []) (Nat.le_of_ble_eq_true rfl) rfl (SE_k1 hE hk)) (by decide +kernel : am_Lm m_P_moment = 3) (Nat.le_of_ble_eq_true rfl) rfl (by decide +kernel),
  fun l0 l1 l2 a st E u => q_go (by decide +kernel : am_Pg 100 40 = some (.astore_n 2, 1, [], 0)) rfl,
  fun l0 l1 a st E u => q_go (by decide +kernel : am_Pg 100 41 = some (.aload_n 2, 1, [], 0)) rfl,
  fun l0 l1 l2 st E u => q_go (by decide +kernel : am_Pg 100 42 = some (.ifnull 18, 3, [], 0)) rfl,
  fun l0 l1 l2 a st E u => q_go (by decide +kernel : am_Pg 100 42 = some (.ifnull 18, 3, [], 0)) rfl,
  fun l0 l1 a st E u => q_go (by decide +kernel : am_Pg 100 45 = some (.aload_n 2, 1, [], 0)) rfl,
  fun l0 l2 a st E u => q_go (by decide +kernel : am_Pg 100 46 = some (.aload_n 1, 1, [], 0)) rfl,
  fun l0 l1 l2 k a0  E u hE hk => q_cV (by decide +kernel : am_Pg 100 47 = some (.invokevirtual 29, 3, [3, 78, 2, 0, 14, 1], 0)) (am_call_V (a := [vR a0]) (st' := []) (Nat.le_of_ble_eq_true rfl) rfl (SE_k0 hE hk)) (by decide +kernel : am_Lm m_C_becomes = 2) (Nat.le_of_ble_eq_true rfl) rfl (by decide +kernel),
  fun l1 l2 a st E u => q_go (by decide +kernel : am_Pg 100 50 = some (.aload_n 0, 1, [], 0)) rfl,
  fun l0 l1 l2 a st E u => q_go (by decide +kernel : am_Pg 100 51 = some (.dup, 1, [], 0)) rfl,
  fun l0 l1 l2 a st E u => q_go (by decide +kernel : am_Pg 100 51 = some (.dup, 1, [], 0)) rfl,
  fun l0 l1 l2 k st E u hE hk => q_gfI (by decide +kernel : am_Pg 100 52 = some (.getfield 22, 3, [1, 3, 2, 0], 0)) (SE_k1 hE hk) (by decide),
  fun l0 l1 l2 st E u => q_go (by decide +kernel : am_Pg 100 55 = some (.iconst 1, 1, [], 0)) rfl,
  fun l0 l1 l2 a b st E u => q_go (by decide +kernel : am_Pg 100 56 = some (.iadd, 1, [], 0)) rfl,
  fun l0 l1 l2 k a st E u hE hk => q_pfI (by decide +kernel : am_Pg 100 57 = some (.putfield 22, 3, [1, 3, 2, 0], 0)) (SE_k1 hE hk) rfl,
  fun l0 l1 l2 E u => q_ret (by decide +kernel : am_Pg 100 60 = some (.return_, 1, [], 0)) rfl⟩
theorem x_C_gathersDust :
  (∀ (l1 l2 : am_V) (a : Option Nat) (st : List am_V) (E : am_E) (u : am_M), Rn m_C_gathersDust 0 [vR a, l1, l2] st E u = Rn m_C_gathersDust 1 [vR a, l1, l2] (vR a :: st) E u) ∧
  (∀ (l1 l2 : am_V) (a : Option Nat) (st : List am_V) (E : am_E) (u : am_M), Rn m_C_gathersDust 1 [vR a, l1, l2] st E u = Rn m_C_gathersDust 2 [vR a, l1, l2] (vR a :: st) E u) ∧
  (∀ (l0 l1 l2 : am_V) (k : Nat) (st : List am_V) (E : am_E) (u : am_M) (hE : SE E) (hk : cuB k), Rn m_C_gathersDust 2 [l0, l1, l2] (vR (some k) :: st) E u = Rn m_C_gathersDust 5 [l0, l1, l2] (vI (u k 5) :: st) E u) ∧
  (∀ (l0 l1 l2 : am_V) (st : List am_V) (E : am_E) (u : am_M), Rn m_C_gathersDust 5 [l0, l1, l2] st E u = Rn m_C_gathersDust 7 [l0, l1, l2] (vI 1103515245 :: st) E u) ∧
  (∀ (l0 l1 l2 : am_V) (a b : Int) (st : List am_V) (E : am_E) (u : am_M), Rn m_C_gathersDust 7 [l0, l1, l2] (vI b :: vI a :: st) E u = Rn m_C_gathersDust 8 [l0, l1, l2] (vI (w32 (a * b)) :: st) E u) ∧
  (∀ (l0 l1 l2 : am_V) (st : List am_V) (E : am_E) (u : am_M), Rn m_C_gathersDust 8 [l0, l1, l2] st E u = Rn m_C_gathersDust 11 [l0, l1, l2] (vI 12345 :: st) E u) ∧
  (∀ (l0 l1 l2 : am_V) (a b : Int) (st : List am_V) (E : am_E) (u : am_M), Rn m_C_gathersDust 11 [l0, l1, l2] (vI b :: vI a :: st) E u = Rn m_C_gathersDust 12 [l0, l1, l2] (vI (w32 (a + b)) :: st) E u) ∧
  (∀ (l0 l1 l2 : am_V) (st : List am_V) (E : am_E) (u : am_M), Rn m_C_gathersDust 12 [l0, l1, l2] st E u = Rn m_C_gathersDust 14 [l0, l1, l2] (vI 2147483647 :: st) E u) ∧
  (∀ (l0 l1 l2 : am_V) (a b : Int) (st : List am_V) (E : am_E) (u : am_M), Rn m_C_gathersDust 14 [l0, l1, l2] (vI b :: vI a :: st) E u = Rn m_C_gathersDust 15 [l0, l1, l2] (vI (i_and a b) :: st) E u) ∧
  (∀ (l0 l1 l2 : am_V) (k : Nat) (a : Int) (st : List am_V) (E : am_E) (u : am_M) (hE : SE E) (hk : cuB k), Rn m_C_gathersDust 15 [l0, l1, l2] (vI a :: vR (some k) :: st) E u = Rn m_C_gathersDust 18 [l0, l1, l2] st E (am_up u k 5 a)) ∧
  (∀ (l1 l2 : am_V) (a : Option Nat) (st : List am_V) (E : am_E) (u : am_M), Rn m_C_gathersDust 18 [vR a, l1, l2] st E u = Rn m_C_gathersDust 19 [vR a, l1, l2] (vR a :: st) E u) ∧
  (∀ (l0 l1 l2 : am_V) (k : Nat) (E : am_E) (u : am_M) (hE : SE E) (hk : cuB k), Rn m_C_gathersDust 19 [l0, l1, l2] [vR (some k)] E u = bdI (Rn m_C_cellCount 0 [vR (some k)] [] E u) (KI m_C_gathersDust 22 [l0, l1, l2] [])) ∧
  (∀ (l0 l1 l2 : am_V) (a : Int) (st : List am_V) (E : am_E) (u : am_M), Rn m_C_gathersDust 22 [l0, l1, l2] (vI a :: st) E u = Rn m_C_gathersDust 23 [am_fx l0, vI a, l2] st E u) ∧
  (∀ (l1 l2 : am_V) (a : Option Nat) (st : List am_V) (E : am_E) (u : am_M), Rn m_C_gathersDust 23 [vR a, l1, l2] st E u = Rn m_C_gathersDust 24 [vR a, l1, l2] (vR a :: st) E u) ∧
  (∀ (l0 l1 l2 : am_V) (k : Nat) (st : List am_V) (E : am_E) (u : am_M) (hE : SE E) (hk : cuB k), Rn m_C_gathersDust 24 [l0, l1, l2] (vR (some k) :: st) E u = Rn m_C_gathersDust 27 [l0, l1, l2] (vI (u k 5) :: st) E u) ∧
  (∀ (l0 l1 l2 : am_V) (st : List am_V) (E : am_E) (u : am_M), Rn m_C_gathersDust 27 [l0, l1, l2] st E u = Rn m_C_gathersDust 29 [l0, l1, l2] (vI 65536 :: st) E u) ∧
  (∀ (l0 l1 l2 : am_V) (a b : Int) (st : List am_V) (E : am_E) (u : am_M) (h : b ≠ 0), Rn m_C_gathersDust 29 [l0, l1, l2] (vI b :: vI a :: st) E u = Rn m_C_gathersDust 30 [l0, l1, l2] (vI (w32 (a.tdiv b)) :: st) E u) ∧
  (∀ (l0 l2 : am_V) (a : Int) (st : List am_V) (E : am_E) (u : am_M), Rn m_C_gathersDust 30 [l0, vI a, l2] st E u = Rn m_C_gathersDust 31 [l0, vI a, l2] (vI a :: st) E u) ∧
  (∀ (l0 l1 l2 : am_V) (st : List am_V) (E : am_E) (u : am_M), Rn m_C_gathersDust 31 [l0, l1, l2] st E u = Rn m_C_gathersDust 32 [l0, l1, l2] (vI 1 :: st) E u) ∧
  (∀ (l0 l1 l2 : am_V) (a b : Int) (st : List am_V) (E : am_E) (u : am_M), Rn m_C_gathersDust 32 [l0, l1, l2] (vI b :: vI a :: st) E u = if a < b then Rn m_C_gathersDust 35 [l0, l1, l2] st E u else Rn m_C_gathersDust 39 [l0, l1, l2] st E u) ∧
  (∀ (l0 l1 l2 : am_V) (st : List am_V) (E : am_E) (u : am_M), Rn m_C_gathersDust 35 [l0, l1, l2] st E u = Rn m_C_gathersDust 36 [l0, l1, l2] (vI 1 :: st) E u) ∧
  (∀ (l0 l1 l2 : am_V) (st : List am_V) (E : am_E) (u : am_M), Rn m_C_gathersDust 36 [l0, l1, l2] st E u = Rn m_C_gathersDust 40 [l0, l1, l2] st E u) ∧
  (∀ (l0 l2 : am_V) (a : Int) (st : List am_V) (E : am_E) (u : am_M), Rn m_C_gathersDust 39 [l0, vI a, l2] st E u = Rn m_C_gathersDust 40 [l0, vI a, l2] (vI a :: st) E u) ∧
  (∀ (l0 l1 l2 : am_V) (a b : Int) (st : List am_V) (E : am_E) (u : am_M) (h : b ≠ 0), Rn m_C_gathersDust 40 [l0, l1, l2] (vI b :: vI a :: st) E u = Rn m_C_gathersDust 41 [l0, l1, l2] (vI (w32 (a.tmod b)) :: st) E u) ∧
  (∀ (l0 l1 l2 : am_V) (a : Int) (st : List am_V) (E : am_E) (u : am_M), Rn m_C_gathersDust 41 [l0, l1, l2] (vI a :: st) E u = Rn m_C_gathersDust 42 [l0, am_fx l1, vI a] st E u) ∧
  (∀ (l1 l2 : am_V) (a : Option Nat) (st : List am_V) (E : am_E) (u : am_M), Rn m_C_gathersDust 42 [vR a, l1, l2] st E u = Rn m_C_gathersDust 43 [vR a, l1, l2] (vR a :: st) E u) ∧
  (∀ (l0 l1 : am_V) (a : Int) (st : List am_V) (E : am_E) (u : am_M), Rn m_C_gathersDust 43 [l0, l1, vI a] st E u = Rn m_C_gathersDust 44 [l0, l1, vI a] (vI a :: st) E u) ∧
  (∀ (l0 l1 l2 : am_V) (k : Nat) (a0 : Int) (E : am_E) (u : am_M) (hE : SE E) (hk : cuB k), Rn m_C_gathersDust 44 [l0, l1, l2] [vI a0, vR (some k)] E u = bdI (Rn m_C_pinOn 0 [vR (some k), vI a0, vB false] [] E u) (KI m_C_gathersDust 47 [l0, l1, l2] [])) ∧
  (∀ (l0 l1 l2 : am_V) (st : List am_V) (E : am_E) (u : am_M), Rn m_C_gathersDust 47 [l0, l1, l2] st E u = Rn m_C_gathersDust 49 [l0, l1, l2] (vI (-4) :: st) E u) ∧
  (∀ (l0 l1 l2 : am_V) (a b : Int) (st : List am_V) (E : am_E) (u : am_M), Rn m_C_gathersDust 49 [l0, l1, l2] (vI b :: vI a :: st) E u = if a = b then Rn m_C_gathersDust 52 [l0, l1, l2] st E u else Rn m_C_gathersDust 70 [l0, l1, l2] st E u) ∧
  (∀ (l1 l2 : am_V) (a : Option Nat) (st : List am_V) (E : am_E) (u : am_M), Rn m_C_gathersDust 52 [vR a, l1, l2] st E u = Rn m_C_gathersDust 53 [vR a, l1, l2] (vR a :: st) E u) ∧
  (∀ (l0 l1 l2 : am_V) (k : Nat) (st : List am_V) (E : am_E) (u : am_M) (hE : SE E) (hk : cuB k), Rn m_C_gathersDust 53 [l0, l1, l2] (vR (some k) :: st) E u = Rn m_C_gathersDust 56 [l0, l1, l2] (vI (u k 5) :: st) E u) ∧
  (∀ (l0 l1 l2 : am_V) (st : List am_V) (E : am_E) (u : am_M), Rn m_C_gathersDust 56 [l0, l1, l2] st E u = Rn m_C_gathersDust 59 [l0, l1, l2] (vI 128 :: st) E u) ∧
  (∀ (l0 l1 l2 : am_V) (a b : Int) (st : List am_V) (E : am_E) (u : am_M) (h : b ≠ 0), Rn m_C_gathersDust 59 [l0, l1, l2] (vI b :: vI a :: st) E u = Rn m_C_gathersDust 60 [l0, l1, l2] (vI (w32 (a.tdiv b)) :: st) E u) ∧
  (∀ (l0 l1 l2 : am_V) (st : List am_V) (E : am_E) (u : am_M), Rn m_C_gathersDust 60 [l0, l1, l2] st E u = Rn m_C_gathersDust 61 [l0, l1, l2] (vI 3 :: st) E u) ∧
  (∀ (l0 l1 l2 : am_V) (a b : Int) (st : List am_V) (E : am_E) (u : am_M) (h : b ≠ 0), Rn m_C_gathersDust 61 [l0, l1, l2] (vI b :: vI a :: st) E u = Rn m_C_gathersDust 62 [l0, l1, l2] (vI (w32 (a.tmod b)) :: st) E u) ∧
  (∀ (l0 l1 l2 : am_V) (a : Int) (st : List am_V) (E : am_E) (u : am_M), Rn m_C_gathersDust 62 [l0, l1, l2] (vI a :: st) E u = if a = 0 then Rn m_C_gathersDust 65 [l0, l1, l2] st E u else Rn m_C_gathersDust 70 [l0, l1, l2] st E u) ∧
  (∀ (l1 l2 : am_V) (a : Option Nat) (st : List am_V) (E : am_E) (u : am_M), Rn m_C_gathersDust 65 [vR a, l1, l2] st E u = Rn m_C_gathersDust 66 [vR a, l1, l2] (vR a :: st) E u) ∧
  (∀ (l0 l1 : am_V) (a : Int) (st : List am_V) (E : am_E) (u : am_M), Rn m_C_gathersDust 66 [l0, l1, vI a] st E u = Rn m_C_gathersDust 67 [l0, l1, vI a] (vI a :: st) E u) ∧
  (∀ (l0 l1 l2 : am_V) (k : Nat) (a0 : Int) (E : am_E) (u : am_M) (hE : SE E) (hk : cuB k), Rn m_C_gathersDust 67 [l0, l1, l2] [vI a0, vR (some k)] E u = bdV (Rn m_C_opens 0 [vR (some k), vI a0] [] E u) (KV m_C_gathersDust 70 [l0, l1, l2] [])) ∧
  (∀ (l0 l1 l2 : am_V) (E : am_E) (u : am_M), Rn m_C_gathersDust 70 [l0, l1, l2] [] E u = some (none, E, u)) :=
  ⟨fun l1 l2 a st E u => q_go (by decide +kernel : am_Pg 101 0 = some (.aload_n 0, 1, [], 0)) rfl,
  fun l1 l2 a st E u => q_go (by decide +kernel : am_Pg 101 1 = some (.aload_n 0, 1, [], 0)) rfl,
  fun l0 l1 l2 k st E u hE hk => q_gfI (by decide +kernel : am_Pg 101 2 = some (.getfield 18, 3, [0, 14, 5, 0], 0)) (SE_k0 hE hk) (by decide),
  fun l0 l1 l2 st E u => q_go (by decide +kernel : am_Pg 101 5 = some (.ldc 149, 2, [], 1103515245)) rfl,
  fun l0 l1 l2 a b st E u => q_go (by decide +kernel : am_Pg 101 7 = some (.imul, 1, [], 0)) rfl,
  fun l0 l1 l2 st E u => q_go (by decide +kernel : am_Pg 101 8 = some (.sipush 12345, 3, [], 0)) rfl,
  fun l0 l1 l2 a b st E u => q_go (by decide +kernel : am_Pg 101 11 = some (.iadd, 1, [], 0)) rfl,
  fun l0 l1 l2 st E u => q_go (by decide +kernel : am_Pg 101 12 = some (.ldc 150, 2, [], 2147483647)) rfl,
  fun l0 l1 l2 a b st E u => q_go (by decide +kernel : am_Pg 101 14 = some (.iand, 1, [], 0)) rfl,
  fun l0 l1 l2 k a st E u hE hk => q_pfI (by decide +kernel : am_Pg 101 15 = some (.putfield 18, 3, [0, 14, 5, 0], 0)) (SE_k0 hE hk) rfl,
  fun l1 l2 a st E u => q_go (by decide +kernel : am_Pg 101 18 = some (.aload_n 0, 1, [], 0)) rfl,
  fun l0 l1 l2 k   E u hE hk => q_cI (by decide +kernel : am_Pg 101 19 = some (.invokevirtual 151, 3, [3, 11, 1, 0, 14, 0], 0)) (am_call_V (a := []) (st' := []) (Nat.le_of_ble_eq_true rfl) rfl (SE_k0 hE hk)) (by decide +kernel : am_Lm m_C_cellCount = 1) (Nat.le_of_ble_eq_true rfl) rfl (by decide +kernel),
  fun l0 l1 l2 a st E u => q_go (by decide +kernel : am_Pg 101 22 = some (.istore_n 1, 1, [], 0)) rfl,
  fun l1 l2 a st E u => q_go (by decide +kernel : am_Pg 101 23 = some (.aload_n 0, 1, [], 0)) rfl,
  fun l0 l1 l2 k st E u hE hk => q_gfI (by decide +kernel : am_Pg 101 24 = some (.getfield 18, 3, [0, 14, 5, 0], 0)) (SE_k0 hE hk) (by decide),
  fun l0 l1 l2 st E u => q_go (by decide +kernel : am_Pg 101 27 = some (.ldc 154, 2, [], 65536)) rfl,
  fun l0 l1 l2 a b st E u h => q_div (by decide +kernel : am_Pg 101 29 = some (.idiv, 1, [], 0)) h,
  fun l0 l2 a st E u => q_go (by decide +kernel : am_Pg 101 30 = some (.iload_n 1, 1, [], 0)) rfl,
  fun l0 l1 l2 st E u => q_go (by decide +kernel : am_Pg 101 31 = some (.iconst 1, 1, [], 0)) rfl,
  fun l0 l1 l2 a b st E u => q_icmp_ge (tgt := 39) (by decide +kernel : am_Pg 101 32 = some (.if_icmp .ge 7, 3, [], 0)) (by decide),
  fun l0 l1 l2 st E u => q_go (by decide +kernel : am_Pg 101 35 = some (.iconst 1, 1, [], 0)) rfl,
  fun l0 l1 l2 st E u => q_go (by decide +kernel : am_Pg 101 36 = some (.goto 4, 3, [], 0)) rfl,
  fun l0 l2 a st E u => q_go (by decide +kernel : am_Pg 101 39 = some (.iload_n 1, 1, [], 0)) rfl,
  fun l0 l1 l2 a b st E u h => q_rem (by decide +kernel : am_Pg 101 40 = some (.irem, 1, [], 0)) h,
  fun l0 l1 l2 a st E u => q_go (by decide +kernel : am_Pg 101 41 = some (.istore_n 2, 1, [], 0)) rfl,
  fun l1 l2 a st E u => q_go (by decide +kernel : am_Pg 101 42 = some (.aload_n 0, 1, [], 0)) rfl,
  fun l0 l1 a st E u => q_go (by decide +kernel : am_Pg 101 43 = some (.iload_n 2, 1, [], 0)) rfl,
  fun l0 l1 l2 k a0  E u hE hk => q_cI (by decide +kernel : am_Pg 101 44 = some (.invokevirtual 83, 3, [3, 17, 2, 0, 14, 0], 0)) (am_call_V (a := [vI a0]) (st' := []) (Nat.le_of_ble_eq_true rfl) rfl (SE_k0 hE hk)) (by decide +kernel : am_Lm m_C_pinOn = 3) (Nat.le_of_ble_eq_true rfl) rfl (by decide +kernel),
  fun l0 l1 l2 st E u => q_go (by decide +kernel : am_Pg 101 47 = some (.bipush (-4), 2, [], 0)) rfl,
  fun l0 l1 l2 a b st E u => q_icmp_ne (tgt := 70) (by decide +kernel : am_Pg 101 49 = some (.if_icmp .ne 21, 3, [], 0)) (by decide),
  fun l1 l2 a st E u => q_go (by decide +kernel : am_Pg 101 52 = some (.aload_n 0, 1, [], 0)) rfl,
  fun l0 l1 l2 k st E u hE hk => q_gfI (by decide +kernel : am_Pg 101 53 = some (.getfield 18, 3, [0, 14, 5, 0], 0)) (SE_k0 hE hk) (by decide),
  fun l0 l1 l2 st E u => q_go (by decide +kernel : am_Pg 101 56 = some (.sipush 128, 3, [], 0)) rfl,
  fun l0 l1 l2 a b st E u h => q_div (by decide +kernel : am_Pg 101 59 = some (.idiv, 1, [], 0)) h,
  fun l0 l1 l2 st E u => q_go (by decide +kernel : am_Pg 101 60 = some (.iconst 3, 1, [], 0)) rfl,
  fun l0 l1 l2 a b st E u h => q_rem (by decide +kernel : am_Pg 101 61 = some (.irem, 1, [], 0)) h,
  fun l0 l1 l2 a st E u => q_if_ne (tgt := 70) (by decide +kernel : am_Pg 101 62 = some (.ifCond .ne 8, 3, [], 0)) (by decide),
  fun l1 l2 a st E u => q_go (by decide +kernel : am_Pg 101 65 = some (.aload_n 0, 1, [], 0)) rfl,
  fun l0 l1 a st E u => q_go (by decide +kernel : am_Pg 101 66 = some (.iload_n 2, 1, [], 0)) rfl,
  fun l0 l1 l2 k a0  E u hE hk => q_cV (by decide +kernel : am_Pg 101 67 = some (.invokevirtual 155, 3, [3, 70, 2, 0, 14, 0], 0)) (am_call_V (a := [vI a0]) (st' := []) (Nat.le_of_ble_eq_true rfl) rfl (SE_k0 hE hk)) (by decide +kernel : am_Lm m_C_opens = 2) (Nat.le_of_ble_eq_true rfl) rfl (by decide +kernel),
  fun l0 l1 l2 E u => q_ret (by decide +kernel : am_Pg 101 70 = some (.return_, 1, [], 0)) rfl⟩
theorem x_C_sets :
  (∀ (l1 l2 : am_V) (a : Option Nat) (st : List am_V) (E : am_E) (u : am_M), Rn m_C_sets 0 [vR a, l1, l2] st E u = Rn m_C_sets 1 [vR a, l1, l2] (vR a :: st) E u) ∧
  (∀ (l0 l1 l2 : am_V) (k : Nat) (st : List am_V) (E : am_E) (u : am_M) (hE : SE E) (hk : cuB k), Rn m_C_sets 1 [l0, l1, l2] (vR (some k) :: st) E u = Rn m_C_sets 4 [l0, l1, l2] (vR (some (k + 2)) :: st) E u) ∧
  (∀ (l0 l2 : am_V) (a : Int) (st : List am_V) (E : am_E) (u : am_M), Rn m_C_sets 4 [l0, vI a, l2] st E u = Rn m_C_sets 5 [l0, vI a, l2] (vI a :: st) E u) ∧
  (∀ (l0 l1 : am_V) (a : Int) (st : List am_V) (E : am_E) (u : am_M), Rn m_C_sets 5 [l0, l1, vI a] st E u = Rn m_C_sets 6 [l0, l1, vI a] (vI a :: st) E u) ∧
  (∀ (l0 l1 l2 : am_V) (a0 : Option Nat) (a1 : Int) (a2 : Int) (E : am_E) (u : am_M), Rn m_C_sets 6 [l0, l1, l2] [vI a2, vI a1, vR a0] E u = bdV (Rn m_A_lay 0 [vR a0, vI a1, vI a2] [] E u) (KV m_C_sets 9 [l0, l1, l2] [])) ∧
  (∀ (l1 l2 : am_V) (a : Option Nat) (st : List am_V) (E : am_E) (u : am_M), Rn m_C_sets 9 [vR a, l1, l2] st E u = Rn m_C_sets 10 [vR a, l1, l2] (vR a :: st) E u) ∧
  (∀ (l0 l1 l2 : am_V) (a : Int) (st : List am_V) (E : am_E) (u : am_M), Rn m_C_sets 10 [l0, l1, l2] (vI a :: st) E u = Rn m_C_sets 11 [l0, l1, l2] (vI a :: vI a :: st) E u) ∧
  (∀ (l0 l1 l2 : am_V) (a : Option Nat) (st : List am_V) (E : am_E) (u : am_M), Rn m_C_sets 10 [l0, l1, l2] (vR a :: st) E u = Rn m_C_sets 11 [l0, l1, l2] (vR a :: vR a :: st) E u) ∧
  (∀ (l0 l1 l2 : am_V) (k : Nat) (st : List am_V) (E : am_E) (u : am_M) (hE : SE E) (hk : cuB k), Rn m_C_sets 11 [l0, l1, l2] (vR (some k) :: st) E u = Rn m_C_sets 14 [l0, l1, l2] (vL (u k 7) :: st) E u) ∧
  (∀ (l0 l1 l2 : am_V) (st : List am_V) (E : am_E) (u : am_M), Rn m_C_sets 14 [l0, l1, l2] st E u = Rn m_C_sets 15 [l0, l1, l2] (vL 1 :: st) E u) ∧
  (∀ (l0 l1 : am_V) (a : Int) (st : List am_V) (E : am_E) (u : am_M), Rn m_C_sets 15 [l0, l1, vI a] st E u = Rn m_C_sets 16 [l0, l1, vI a] (vI a :: st) E u) ∧
  (∀ (l0 l1 l2 : am_V) (a b : Int) (st : List am_V) (E : am_E) (u : am_M), Rn m_C_sets 16 [l0, l1, l2] (vI b :: vL a :: st) E u = Rn m_C_sets 17 [l0, l1, l2] (vL (l_shl a b) :: st) E u) ∧
  (∀ (l0 l1 l2 : am_V) (st : List am_V) (E : am_E) (u : am_M), Rn m_C_sets 17 [l0, l1, l2] st E u = Rn m_C_sets 20 [l0, l1, l2] (vL (-1) :: st) E u) ∧
  (∀ (l0 l1 l2 : am_V) (a b : Int) (st : List am_V) (E : am_E) (u : am_M), Rn m_C_sets 20 [l0, l1, l2] (vL b :: vL a :: st) E u = Rn m_C_sets 21 [l0, l1, l2] (vL (l_xor a b) :: st) E u) ∧
  (∀ (l0 l1 l2 : am_V) (a b : Int) (st : List am_V) (E : am_E) (u : am_M), Rn m_C_sets 21 [l0, l1, l2] (vL b :: vL a :: st) E u = Rn m_C_sets 22 [l0, l1, l2] (vL (l_and a b) :: st) E u) ∧
  (∀ (l0 l1 l2 : am_V) (k : Nat) (a : Int) (st : List am_V) (E : am_E) (u : am_M) (hE : SE E) (hk : cuB k), Rn m_C_sets 22 [l0, l1, l2] (vL a :: vR (some k) :: st) E u = Rn m_C_sets 25 [l0, l1, l2] st E (am_up u k 7 a)) ∧
  (∀ (l0 l1 l2 : am_V) (E : am_E) (u : am_M), Rn m_C_sets 25 [l0, l1, l2] [] E u = some (none, E, u)) :=
  ⟨fun l1 l2 a st E u => q_go (by decide +kernel : am_Pg 102 0 = some (.aload_n 0, 1, [], 0)) rfl,
  fun l0 l1 l2 k st E u hE hk => q_gfR (by decide +kernel : am_Pg 102 1 = some (.getfield 25, 3, [0, 14, 9, 0], 0)) (SE_k0 hE hk) rfl (SE_r0_9 hE hk),
  fun l0 l2 a st E u => q_go (by decide +kernel : am_Pg 102 4 = some (.iload_n 1, 1, [], 0)) rfl,
  fun l0 l1 a st E u => q_go (by decide +kernel : am_Pg 102 5 = some (.iload_n 2, 1, [], 0)) rfl,
  fun l0 l1 l2 a0 a1 a2  E u => q_cV (by decide +kernel : am_Pg 102 6 = some (.invokestatic 70, 3, [2, 19, 3, 1], 0)) (am_call_S (f := fun _ _ => true) (a := [vR a0, vI a1, vI a2]) (st' := []) (Nat.le_of_ble_eq_true rfl) rfl rfl) (by decide +kernel : am_Lm m_A_lay = 3) (Nat.le_of_ble_eq_true rfl) rfl (by decide +kernel),
  fun l1 l2 a st E u => q_go (by decide +kernel : am_Pg 102 9 = some (.aload_n 0, 1, [], 0)) rfl,
  fun l0 l1 l2 a st E u => q_go (by decide +kernel : am_Pg 102 10 = some (.dup, 1, [], 0)) rfl,
  fun l0 l1 l2 a st E u => q_go (by decide +kernel : am_Pg 102 10 = some (.dup, 1, [], 0)) rfl,
  fun l0 l1 l2 k st E u hE hk => q_gfL (by decide +kernel : am_Pg 102 11 = some (.getfield 58, 3, [0, 14, 7, 0], 0)) (SE_k0 hE hk) rfl,
  fun l0 l1 l2 st E u => q_go (by decide +kernel : am_Pg 102 14 = some (.lconst 1, 1, [], 0)) rfl,
  fun l0 l1 a st E u => q_go (by decide +kernel : am_Pg 102 15 = some (.iload_n 2, 1, [], 0)) rfl,
  fun l0 l1 l2 a b st E u => q_go (by decide +kernel : am_Pg 102 16 = some (.lshl, 1, [], 0)) rfl,
  fun l0 l1 l2 st E u => q_go (by decide +kernel : am_Pg 102 17 = some (.ldc2_w 87, 3, [], (-1))) rfl,
  fun l0 l1 l2 a b st E u => q_go (by decide +kernel : am_Pg 102 20 = some (.lxor, 1, [], 0)) rfl,
  fun l0 l1 l2 a b st E u => q_go (by decide +kernel : am_Pg 102 21 = some (.land, 1, [], 0)) rfl,
  fun l0 l1 l2 k a st E u hE hk => q_pfL (by decide +kernel : am_Pg 102 22 = some (.putfield 58, 3, [0, 14, 7, 0], 0)) (SE_k0 hE hk) rfl,
  fun l0 l1 l2 E u => q_ret (by decide +kernel : am_Pg 102 25 = some (.return_, 1, [], 0)) rfl⟩
theorem x_C_sails :
  (∀ (l1 l2 l3 : am_V) (a : Option Nat) (st : List am_V) (E : am_E) (u : am_M), Rn m_C_sails 0 [vR a, l1, l2, l3] st E u = Rn m_C_sails 1 [vR a, l1, l2, l3] (vR a :: st) E u) ∧
  (∀ (l1 l2 l3 : am_V) (a : Option Nat) (st : List am_V) (E : am_E) (u : am_M), Rn m_C_sails 1 [vR a, l1, l2, l3] st E u = Rn m_C_sails 2 [vR a, l1, l2, l3] (vR a :: st) E u) ∧
  (∀ (l0 l1 l2 l3 : am_V) (k : Nat) (st : List am_V) (E : am_E) (u : am_M) (hE : SE E) (hk : cuB k), Rn m_C_sails 2 [l0, l1, l2, l3] (vR (some k) :: st) E u = Rn m_C_sails 5 [l0, l1, l2, l3] (vR (some (k + 2)) :: st) E u) ∧
  (∀ (l0 l2 l3 : am_V) (a : Int) (st : List am_V) (E : am_E) (u : am_M), Rn m_C_sails 5 [l0, vI a, l2, l3] st E u = Rn m_C_sails 6 [l0, vI a, l2, l3] (vI a :: st) E u) ∧
  (∀ (l0 l1 l2 l3 : am_V) (a0 : Option Nat) (a1 : Int) (r0 : am_V) (E : am_E) (u : am_M), Rn m_C_sails 6 [l0, l1, l2, l3] [vI a1, vR a0, r0] E u = bdI (Rn m_A_look 0 [vR a0, vI a1] [] E u) (KI m_C_sails 9 [l0, l1, l2, l3] [r0])) ∧
  (∀ (l0 l1 l3 : am_V) (a : Int) (st : List am_V) (E : am_E) (u : am_M), Rn m_C_sails 9 [l0, l1, vI a, l3] st E u = Rn m_C_sails 10 [l0, l1, vI a, l3] (vI a :: st) E u) ∧
  (∀ (l0 l1 l2 l3 : am_V) (k : Nat) (a0 : Int) (a1 : Int) (E : am_E) (u : am_M) (hE : SE E) (hk : cuB k), Rn m_C_sails 10 [l0, l1, l2, l3] [vI a1, vI a0, vR (some k)] E u = bdI (Rn m_C_beside 0 [vR (some k), vI a0, vI a1, vB false] [] E u) (KI m_C_sails 13 [l0, l1, l2, l3] [])) ∧
  (∀ (l0 l1 l2 l3 : am_V) (a : Int) (st : List am_V) (E : am_E) (u : am_M), Rn m_C_sails 13 [l0, l1, l2, l3] (vI a :: st) E u = Rn m_C_sails 14 [l0, l1, am_fx l2, vI a] st E u) ∧
  (∀ (l1 l2 l3 : am_V) (a : Option Nat) (st : List am_V) (E : am_E) (u : am_M), Rn m_C_sails 14 [vR a, l1, l2, l3] st E u = Rn m_C_sails 15 [vR a, l1, l2, l3] (vR a :: st) E u) ∧
  (∀ (l0 l2 l3 : am_V) (a : Int) (st : List am_V) (E : am_E) (u : am_M), Rn m_C_sails 15 [l0, vI a, l2, l3] st E u = Rn m_C_sails 16 [l0, vI a, l2, l3] (vI a :: st) E u) ∧
  (∀ (l0 l1 l2 : am_V) (a : Int) (st : List am_V) (E : am_E) (u : am_M), Rn m_C_sails 16 [l0, l1, l2, vI a] st E u = Rn m_C_sails 17 [l0, l1, l2, vI a] (vI a :: st) E u) ∧
  (∀ (l0 l1 l2 l3 : am_V) (k : Nat) (a0 : Int) (a1 : Int) (E : am_E) (u : am_M) (hE : SE E) (hk : cuB k), Rn m_C_sails 17 [l0, l1, l2, l3] [vI a1, vI a0, vR (some k)] E u = bdI (Rn m_C_mayGo 0 [vR (some k), vI a0, vI a1, vB false, vB false, vB false, vB false] [] E u) (KI m_C_sails 20 [l0, l1, l2, l3] [])) ∧
  (∀ (l0 l1 l2 l3 : am_V) (a : Int) (st : List am_V) (E : am_E) (u : am_M), Rn m_C_sails 20 [l0, l1, l2, l3] (vI a :: st) E u = if a = 0 then Rn m_C_sails 41 [l0, l1, l2, l3] st E u else Rn m_C_sails 23 [l0, l1, l2, l3] st E u) ∧
  (∀ (l1 l2 l3 : am_V) (a : Option Nat) (st : List am_V) (E : am_E) (u : am_M), Rn m_C_sails 23 [vR a, l1, l2, l3] st E u = Rn m_C_sails 24 [vR a, l1, l2, l3] (vR a :: st) E u) ∧
  (∀ (l0 l2 l3 : am_V) (a : Int) (st : List am_V) (E : am_E) (u : am_M), Rn m_C_sails 24 [l0, vI a, l2, l3] st E u = Rn m_C_sails 25 [l0, vI a, l2, l3] (vI a :: st) E u) ∧
  (∀ (l0 l1 l2 : am_V) (a : Int) (st : List am_V) (E : am_E) (u : am_M), Rn m_C_sails 25 [l0, l1, l2, vI a] st E u = Rn m_C_sails 26 [l0, l1, l2, vI a] (vI a :: st) E u) ∧
  (∀ (l0 l1 l2 l3 : am_V) (k : Nat) (a0 : Int) (a1 : Int) (E : am_E) (u : am_M) (hE : SE E) (hk : cuB k), Rn m_C_sails 26 [l0, l1, l2, l3] [vI a1, vI a0, vR (some k)] E u = bdV (Rn m_C_sets 0 [vR (some k), vI a0, vI a1] [] E u) (KV m_C_sails 29 [l0, l1, l2, l3] [])) ∧
  (∀ (l1 l2 l3 : am_V) (a : Option Nat) (st : List am_V) (E : am_E) (u : am_M), Rn m_C_sails 29 [vR a, l1, l2, l3] st E u = Rn m_C_sails 30 [vR a, l1, l2, l3] (vR a :: st) E u) ∧
  (∀ (l0 l1 l2 l3 : am_V) (k : Nat) (st : List am_V) (E : am_E) (u : am_M) (hE : SE E) (hk : cuB k), Rn m_C_sails 30 [l0, l1, l2, l3] (vR (some k) :: st) E u = Rn m_C_sails 33 [l0, l1, l2, l3] (vR (some (k + 3)) :: st) E u) ∧
  (∀ (l0 l2 l3 : am_V) (a : Int) (st : List am_V) (E : am_E) (u : am_M), Rn m_C_sails 33 [l0, vI a, l2, l3] st E u = Rn m_C_sails 34 [l0, vI a, l2, l3] (vI a :: st) E u) ∧
  (∀ (l0 l1 l3 : am_V) (a : Int) (st : List am_V) (E : am_E) (u : am_M), Rn m_C_sails 34 [l0, l1, vI a, l3] st E u = Rn m_C_sails 35 [l0, l1, vI a, l3] (vI a :: st) E u) ∧
  (∀ (l0 l1 l2 l3 : am_V) (a0 : Option Nat) (a1 : Int) (a2 : Int) (E : am_E) (u : am_M), Rn m_C_sails 35 [l0, l1, l2, l3] [vI a2, vI a1, vR a0] E u = bdV (Rn m_A_lay 0 [vR a0, vI a1, vI a2] [] E u) (KV m_C_sails 38 [l0, l1, l2, l3] [])) ∧
  (∀ (l0 l1 l2 l3 : am_V) (st : List am_V) (E : am_E) (u : am_M), Rn m_C_sails 38 [l0, l1, l2, l3] st E u = Rn m_C_sails 52 [l0, l1, l2, l3] st E u) ∧
  (∀ (l1 l2 l3 : am_V) (a : Option Nat) (st : List am_V) (E : am_E) (u : am_M), Rn m_C_sails 41 [vR a, l1, l2, l3] st E u = Rn m_C_sails 42 [vR a, l1, l2, l3] (vR a :: st) E u) ∧
  (∀ (l0 l1 l2 l3 : am_V) (k : Nat) (st : List am_V) (E : am_E) (u : am_M) (hE : SE E) (hk : cuB k), Rn m_C_sails 42 [l0, l1, l2, l3] (vR (some k) :: st) E u = Rn m_C_sails 45 [l0, l1, l2, l3] (vR (some (k + 3)) :: st) E u) ∧
  (∀ (l0 l2 l3 : am_V) (a : Int) (st : List am_V) (E : am_E) (u : am_M), Rn m_C_sails 45 [l0, vI a, l2, l3] st E u = Rn m_C_sails 46 [l0, vI a, l2, l3] (vI a :: st) E u) ∧
  (∀ (l0 l1 l3 : am_V) (a : Int) (st : List am_V) (E : am_E) (u : am_M), Rn m_C_sails 46 [l0, l1, vI a, l3] st E u = Rn m_C_sails 47 [l0, l1, vI a, l3] (vI a :: st) E u) ∧
  (∀ (l0 l1 l2 l3 : am_V) (st : List am_V) (E : am_E) (u : am_M), Rn m_C_sails 47 [l0, l1, l2, l3] st E u = Rn m_C_sails 48 [l0, l1, l2, l3] (vI 1 :: st) E u) ∧
  (∀ (l0 l1 l2 l3 : am_V) (a b : Int) (st : List am_V) (E : am_E) (u : am_M), Rn m_C_sails 48 [l0, l1, l2, l3] (vI b :: vI a :: st) E u = Rn m_C_sails 49 [l0, l1, l2, l3] (vI (i_xor a b) :: st) E u) ∧
  (∀ (l0 l1 l2 l3 : am_V) (a0 : Option Nat) (a1 : Int) (a2 : Int) (E : am_E) (u : am_M), Rn m_C_sails 49 [l0, l1, l2, l3] [vI a2, vI a1, vR a0] E u = bdV (Rn m_A_lay 0 [vR a0, vI a1, vI a2] [] E u) (KV m_C_sails 52 [l0, l1, l2, l3] [])) ∧
  (∀ (l0 l1 l2 l3 : am_V) (E : am_E) (u : am_M), Rn m_C_sails 52 [l0, l1, l2, l3] [] E u = some (none, E, u)) :=
  ⟨fun l1 l2 l3 a st E u => q_go (by decide +kernel : am_Pg 103 0 = some (.aload_n 0, 1, [], 0)) rfl,
  fun l1 l2 l3 a st E u => q_go (by decide +kernel : am_Pg 103 1 = some (.aload_n 0, 1, [], 0)) rfl,
  fun l0 l1 l2 l3 k st E u hE hk => q_gfR (by decide +kernel : am_Pg 103 2 = some (.getfield 25, 3, [0, 14, 9, 0], 0)) (SE_k0 hE hk) rfl (SE_r0_9 hE hk),
  fun l0 l2 l3 a st E u => q_go (by decide +kernel : am_Pg 103 5 = some (.iload_n 1, 1, [], 0)) rfl,
  fun l0 l1 l2 l3 a0 a1 r0 E u => q_cI (by decide +kernel : am_Pg 103 6 = some (.invokestatic 105, 3, [2, 36, 2, 1], 0)) (am_call_S (f := fun _ _ => true) (a := [vR a0, vI a1]) (st' := [r0]) (Nat.le_of_ble_eq_true rfl) rfl rfl) (by decide +kernel : am_Lm m_A_look = 2) (Nat.le_of_ble_eq_true rfl) rfl (by decide +kernel),
  fun l0 l1 l3 a st E u => q_go (by decide +kernel : am_Pg 103 9 = some (.iload_n 2, 1, [], 0)) rfl,
  fun l0 l1 l2 l3 k a0 a1  E u hE hk => q_cI (by decide +kernel : am_Pg 103 10 = some (.invokevirtual 120, 3, [3, 37, 3, 0, 14, 0], 0)) (am_call_V (a := [vI a0, vI a1]) (st' := []) (Nat.le_of_ble_eq_true rfl) rfl (SE_k0 hE hk)) (by decide +kernel : am_Lm m_C_beside = 4) (Nat.le_of_ble_eq_true rfl) rfl (by decide +kernel),
  fun l0 l1 l2 l3 a st E u => q_go (by decide +kernel : am_Pg 103 13 = some (.istore_n 3, 1, [], 0)) rfl,
  fun l1 l2 l3 a st E u => q_go (by decide +kernel : am_Pg 103 14 = some (.aload_n 0, 1, [], 0)) rfl,
  fun l0 l2 l3 a st E u => q_go (by decide +kernel : am_Pg 103 15 = some (.iload_n 1, 1, [], 0)) rfl,
  fun l0 l1 l2 a st E u => q_go (by decide +kernel : am_Pg 103 16 = some (.iload_n 3, 1, [], 0)) rfl,
  fun l0 l1 l2 l3 k a0 a1  E u hE hk => q_cI (by decide +kernel : am_Pg 103 17 = some (.invokevirtual 123, 3, [3, 42, 3, 0, 14, 0], 0)) (am_call_V (a := [vI a0, vI a1]) (st' := []) (Nat.le_of_ble_eq_true rfl) rfl (SE_k0 hE hk)) (by decide +kernel : am_Lm m_C_mayGo = 7) (Nat.le_of_ble_eq_true rfl) rfl (by decide +kernel),
  fun l0 l1 l2 l3 a st E u => q_if_eq (tgt := 41) (by decide +kernel : am_Pg 103 20 = some (.ifCond .eq 21, 3, [], 0)) (by decide),
  fun l1 l2 l3 a st E u => q_go (by decide +kernel : am_Pg 103 23 = some (.aload_n 0, 1, [], 0)) rfl,
  fun l0 l2 l3 a st E u => q_go (by decide +kernel : am_Pg 103 24 = some (.iload_n 1, 1, [], 0)) rfl,
  fun l0 l1 l2 a st E u => q_go (by decide +kernel : am_Pg 103 25 = some (.iload_n 3, 1, [], 0)) rfl,
  fun l0 l1 l2 l3 k a0 a1  E u hE hk => q_cV (by decide +kernel : am_Pg 103 26 = some (.invokevirtual 140, 3, [3, 102, 3, 0, 14, 0], 0)) (am_call_V (a := [vI a0, vI a1]) (st' := []) (Nat.le_of_ble_eq_true rfl) rfl (SE_k0 hE hk)) (by decide +kernel : am_Lm m_C_sets = 3) (Nat.le_of_ble_eq_true rfl) rfl (by decide +kernel),
  fun l1 l2 l3 a st E u => q_go (by decide +kernel : am_Pg 103 29 = some (.aload_n 0, 1, [], 0)) rfl,
  fun l0 l1 l2 l3 k st E u hE hk => q_gfR (by decide +kernel : am_Pg 103 30 = some (.getfield 28, 3, [0, 14, 10, 0], 0)) (SE_k0 hE hk) rfl (SE_r0_10 hE hk),
  fun l0 l2 l3 a st E u => q_go (by decide +kernel : am_Pg 103 33 = some (.iload_n 1, 1, [], 0)) rfl,
  fun l0 l1 l3 a st E u => q_go (by decide +kernel : am_Pg 103 34 = some (.iload_n 2, 1, [], 0)) rfl,
  fun l0 l1 l2 l3 a0 a1 a2  E u => q_cV (by decide +kernel : am_Pg 103 35 = some (.invokestatic 70, 3, [2, 19, 3, 1], 0)) (am_call_S (f := fun _ _ => true) (a := [vR a0, vI a1, vI a2]) (st' := []) (Nat.le_of_ble_eq_true rfl) rfl rfl) (by decide +kernel : am_Lm m_A_lay = 3) (Nat.le_of_ble_eq_true rfl) rfl (by decide +kernel),
  fun l0 l1 l2 l3 st E u => q_go (by decide +kernel : am_Pg 103 38 = some (.goto 14, 3, [], 0)) rfl,
  fun l1 l2 l3 a st E u => q_go (by decide +kernel : am_Pg 103 41 = some (.aload_n 0, 1, [], 0)) rfl,
  fun l0 l1 l2 l3 k st E u hE hk => q_gfR (by decide +kernel : am_Pg 103 42 = some (.getfield 28, 3, [0, 14, 10, 0], 0)) (SE_k0 hE hk) rfl (SE_r0_10 hE hk),
  fun l0 l2 l3 a st E u => q_go (by decide +kernel : am_Pg 103 45 = some (.iload_n 1, 1, [], 0)) rfl,
  fun l0 l1 l3 a st E u => q_go (by decide +kernel : am_Pg 103 46 = some (.iload_n 2, 1, [], 0)) rfl,
  fun l0 l1 l2 l3 st E u => q_go (by decide +kernel : am_Pg 103 47 = some (.iconst 1, 1, [], 0)) rfl,
  fun l0 l1 l2 l3 a b st E u => q_go (by decide +kernel : am_Pg 103 48 = some (.ixor, 1, [], 0)) rfl,
  fun l0 l1 l2 l3 a0 a1 a2  E u => q_cV (by decide +kernel : am_Pg 103 49 = some (.invokestatic 70, 3, [2, 19, 3, 1], 0)) (am_call_S (f := fun _ _ => true) (a := [vR a0, vI a1, vI a2]) (st' := []) (Nat.le_of_ble_eq_true rfl) rfl rfl) (by decide +kernel : am_Lm m_A_lay = 3) (Nat.le_of_ble_eq_true rfl) rfl (by decide +kernel),
  fun l0 l1 l2 l3 E u => q_ret (by decide +kernel : am_Pg 103 52 = some (.return_, 1, [], 0)) rfl⟩
theorem h_C_nearestHole_14 : ∀ (l0 l1 l2 l3 l4 l5 l7 : am_V) (a : Int) (st : List am_V) (E : am_E) (u : am_M), Rn m_C_nearestHole 14 [l0, l1, l2, l3, l4, l5, vI a, l7] st E u = Rn m_C_nearestHole 16 [l0, l1, l2, l3, l4, l5, vI a, l7] (vI a :: st) E u :=
  fun l0 l1 l2 l3 l4 l5 l7 a st E u => q_go (by decide +kernel : am_Pg 104 14 = some (.iload 6, 2, [], 0)) rfl
theorem x_C_nearestHole :
  (∀ (l0 l1 l2 l3 l4 l5 l6 l7 : am_V) (st : List am_V) (E : am_E) (u : am_M), Rn m_C_nearestHole 0 [l0, l1, l2, l3, l4, l5, l6, l7] st E u = Rn m_C_nearestHole 2 [l0, l1, l2, l3, l4, l5, l6, l7] (vI (-4) :: st) E u) ∧
  (∀ (l0 l1 l2 l3 l4 l5 l6 l7 : am_V) (a : Int) (st : List am_V) (E : am_E) (u : am_M), Rn m_C_nearestHole 2 [l0, l1, l2, l3, l4, l5, l6, l7] (vI a :: st) E u = Rn m_C_nearestHole 3 [l0, am_fx l1, vI a, l3, l4, l5, l6, l7] st E u) ∧
  (∀ (l0 l1 l2 l3 l4 l5 l6 l7 : am_V) (st : List am_V) (E : am_E) (u : am_M), Rn m_C_nearestHole 3 [l0, l1, l2, l3, l4, l5, l6, l7] st E u = Rn m_C_nearestHole 4 [l0, l1, l2, l3, l4, l5, l6, l7] (vI 0 :: st) E u) ∧
  (∀ (l0 l1 l2 l3 l4 l5 l6 l7 : am_V) (a : Int) (st : List am_V) (E : am_E) (u : am_M), Rn m_C_nearestHole 4 [l0, l1, l2, l3, l4, l5, l6, l7] (vI a :: st) E u = Rn m_C_nearestHole 5 [l0, l1, am_fx l2, vI a, l4, l5, l6, l7] st E u) ∧
  (∀ (l1 l2 l3 l4 l5 l6 l7 : am_V) (a : Option Nat) (st : List am_V) (E : am_E) (u : am_M), Rn m_C_nearestHole 5 [vR a, l1, l2, l3, l4, l5, l6, l7] st E u = Rn m_C_nearestHole 6 [vR a, l1, l2, l3, l4, l5, l6, l7] (vR a :: st) E u) ∧
  (∀ (l0 l1 l2 l3 l4 l5 l6 l7 : am_V) (k : Nat) (st : List am_V) (E : am_E) (u : am_M) (hE : SE E) (hk : cuB k), Rn m_C_nearestHole 6 [l0, l1, l2, l3, l4, l5, l6, l7] (vR (some k) :: st) E u = Rn m_C_nearestHole 9 [l0, l1, l2, l3, l4, l5, l6, l7] (vL (u k 7) :: st) E u) ∧
  (∀ (l0 l1 l2 l3 l4 l5 l6 l7 : am_V) (a : Int) (st : List am_V) (E : am_E) (u : am_M), Rn m_C_nearestHole 9 [l0, l1, l2, l3, l4, l5, l6, l7] (vL a :: st) E u = Rn m_C_nearestHole 11 [l0, l1, l2, am_fx l3, vL a, vB false, l6, l7] st E u) ∧
  (∀ (l0 l1 l2 l3 l4 l5 l6 l7 : am_V) (st : List am_V) (E : am_E) (u : am_M), Rn m_C_nearestHole 11 [l0, l1, l2, l3, l4, l5, l6, l7] st E u = Rn m_C_nearestHole 12 [l0, l1, l2, l3, l4, l5, l6, l7] (vI 0 :: st) E u) ∧
  (∀ (l0 l1 l2 l3 l4 l5 l6 l7 : am_V) (a : Int) (st : List am_V) (E : am_E) (u : am_M), Rn m_C_nearestHole 12 [l0, l1, l2, l3, l4, l5, l6, l7] (vI a :: st) E u = Rn m_C_nearestHole 14 [l0, l1, l2, l3, l4, am_fx l5, vI a, l7] st E u) ∧
  (∀ (l0 l1 l2 l3 l4 l5 l6 l7 : am_V) (st : List am_V) (E : am_E) (u : am_M), Rn m_C_nearestHole 16 [l0, l1, l2, l3, l4, l5, l6, l7] st E u = Rn m_C_nearestHole 18 [l0, l1, l2, l3, l4, l5, l6, l7] (vI 49 :: st) E u) ∧
  (∀ (l0 l1 l2 l3 l4 l5 l6 l7 : am_V) (a b : Int) (st : List am_V) (E : am_E) (u : am_M), Rn m_C_nearestHole 18 [l0, l1, l2, l3, l4, l5, l6, l7] (vI b :: vI a :: st) E u = if a < b then Rn m_C_nearestHole 21 [l0, l1, l2, l3, l4, l5, l6, l7] st E u else Rn m_C_nearestHole 76 [l0, l1, l2, l3, l4, l5, l6, l7] st E u) ∧
  (∀ (l0 l1 l2 l3 l5 l6 l7 : am_V) (a : Int) (st : List am_V) (E : am_E) (u : am_M), Rn m_C_nearestHole 21 [l0, l1, l2, l3, vL a, l5, l6, l7] st E u = Rn m_C_nearestHole 23 [l0, l1, l2, l3, vL a, l5, l6, l7] (vL a :: st) E u) ∧
  (∀ (l0 l1 l2 l3 l4 l5 l6 l7 : am_V) (st : List am_V) (E : am_E) (u : am_M), Rn m_C_nearestHole 23 [l0, l1, l2, l3, l4, l5, l6, l7] st E u = Rn m_C_nearestHole 24 [l0, l1, l2, l3, l4, l5, l6, l7] (vL 0 :: st) E u) ∧
  (∀ (l0 l1 l2 l3 l4 l5 l6 l7 : am_V) (a b : Int) (st : List am_V) (E : am_E) (u : am_M), Rn m_C_nearestHole 24 [l0, l1, l2, l3, l4, l5, l6, l7] (vL b :: vL a :: st) E u = Rn m_C_nearestHole 25 [l0, l1, l2, l3, l4, l5, l6, l7] (vI (l_cmp a b) :: st) E u) ∧
  (∀ (l0 l1 l2 l3 l4 l5 l6 l7 : am_V) (a : Int) (st : List am_V) (E : am_E) (u : am_M), Rn m_C_nearestHole 25 [l0, l1, l2, l3, l4, l5, l6, l7] (vI a :: st) E u = if a = 0 then Rn m_C_nearestHole 76 [l0, l1, l2, l3, l4, l5, l6, l7] st E u else Rn m_C_nearestHole 28 [l0, l1, l2, l3, l4, l5, l6, l7] st E u) ∧
  (∀ (l0 l1 l2 l3 l5 l6 l7 : am_V) (a : Int) (st : List am_V) (E : am_E) (u : am_M), Rn m_C_nearestHole 28 [l0, l1, l2, l3, vL a, l5, l6, l7] st E u = Rn m_C_nearestHole 30 [l0, l1, l2, l3, vL a, l5, l6, l7] (vL a :: st) E u) ∧
  (∀ (l0 l1 l2 l3 l4 l5 l6 l7 : am_V) (st : List am_V) (E : am_E) (u : am_M), Rn m_C_nearestHole 30 [l0, l1, l2, l3, l4, l5, l6, l7] st E u = Rn m_C_nearestHole 31 [l0, l1, l2, l3, l4, l5, l6, l7] (vL 1 :: st) E u) ∧
  (∀ (l0 l1 l2 l3 l4 l5 l6 l7 : am_V) (a b : Int) (st : List am_V) (E : am_E) (u : am_M), Rn m_C_nearestHole 31 [l0, l1, l2, l3, l4, l5, l6, l7] (vL b :: vL a :: st) E u = Rn m_C_nearestHole 32 [l0, l1, l2, l3, l4, l5, l6, l7] (vL (l_and a b) :: st) E u) ∧
  (∀ (l0 l1 l2 l3 l4 l5 l6 l7 : am_V) (st : List am_V) (E : am_E) (u : am_M), Rn m_C_nearestHole 32 [l0, l1, l2, l3, l4, l5, l6, l7] st E u = Rn m_C_nearestHole 33 [l0, l1, l2, l3, l4, l5, l6, l7] (vL 0 :: st) E u) ∧
  (∀ (l0 l1 l2 l3 l4 l5 l6 l7 : am_V) (a b : Int) (st : List am_V) (E : am_E) (u : am_M), Rn m_C_nearestHole 33 [l0, l1, l2, l3, l4, l5, l6, l7] (vL b :: vL a :: st) E u = Rn m_C_nearestHole 34 [l0, l1, l2, l3, l4, l5, l6, l7] (vI (l_cmp a b) :: st) E u) ∧
  (∀ (l0 l1 l2 l3 l4 l5 l6 l7 : am_V) (a : Int) (st : List am_V) (E : am_E) (u : am_M), Rn m_C_nearestHole 34 [l0, l1, l2, l3, l4, l5, l6, l7] (vI a :: st) E u = if a = 0 then Rn m_C_nearestHole 64 [l0, l1, l2, l3, l4, l5, l6, l7] st E u else Rn m_C_nearestHole 37 [l0, l1, l2, l3, l4, l5, l6, l7] st E u) ∧
  (∀ (l1 l2 l3 l4 l5 l6 l7 : am_V) (a : Option Nat) (st : List am_V) (E : am_E) (u : am_M), Rn m_C_nearestHole 37 [vR a, l1, l2, l3, l4, l5, l6, l7] st E u = Rn m_C_nearestHole 38 [vR a, l1, l2, l3, l4, l5, l6, l7] (vR a :: st) E u) ∧
  (∀ (l0 l2 l3 l4 l5 l6 l7 : am_V) (a : Int) (st : List am_V) (E : am_E) (u : am_M), Rn m_C_nearestHole 38 [l0, vI a, l2, l3, l4, l5, l6, l7] st E u = Rn m_C_nearestHole 39 [l0, vI a, l2, l3, l4, l5, l6, l7] (vI a :: st) E u) ∧
  (∀ (l0 l1 l2 l3 l4 l5 l7 : am_V) (a : Int) (st : List am_V) (E : am_E) (u : am_M), Rn m_C_nearestHole 39 [l0, l1, l2, l3, l4, l5, vI a, l7] st E u = Rn m_C_nearestHole 41 [l0, l1, l2, l3, l4, l5, vI a, l7] (vI a :: st) E u) ∧
  (∀ (l0 l1 l2 l3 l4 l5 l6 l7 : am_V) (k : Nat) (a0 : Int) (a1 : Int) (E : am_E) (u : am_M) (hE : SE E) (hk : cuB k), Rn m_C_nearestHole 41 [l0, l1, l2, l3, l4, l5, l6, l7] [vI a1, vI a0, vR (some k)] E u = bdI (Rn m_C_far 0 [vR (some k), vI a0, vI a1, vB false, vB false, vB false] [] E u) (KI m_C_nearestHole 44 [l0, l1, l2, l3, l4, l5, l6, l7] [])) ∧
  (∀ (l0 l1 l2 l3 l4 l5 l6 l7 : am_V) (a : Int) (st : List am_V) (E : am_E) (u : am_M), Rn m_C_nearestHole 44 [l0, l1, l2, l3, l4, l5, l6, l7] (vI a :: st) E u = Rn m_C_nearestHole 46 [l0, l1, l2, l3, l4, l5, am_fx l6, vI a] st E u) ∧
  (∀ (l0 l1 l3 l4 l5 l6 l7 : am_V) (a : Int) (st : List am_V) (E : am_E) (u : am_M), Rn m_C_nearestHole 46 [l0, l1, vI a, l3, l4, l5, l6, l7] st E u = Rn m_C_nearestHole 47 [l0, l1, vI a, l3, l4, l5, l6, l7] (vI a :: st) E u) ∧
  (∀ (l0 l1 l2 l3 l4 l5 l6 l7 : am_V) (st : List am_V) (E : am_E) (u : am_M), Rn m_C_nearestHole 47 [l0, l1, l2, l3, l4, l5, l6, l7] st E u = Rn m_C_nearestHole 49 [l0, l1, l2, l3, l4, l5, l6, l7] (vI (-4) :: st) E u) ∧
  (∀ (l0 l1 l2 l3 l4 l5 l6 l7 : am_V) (a b : Int) (st : List am_V) (E : am_E) (u : am_M), Rn m_C_nearestHole 49 [l0, l1, l2, l3, l4, l5, l6, l7] (vI b :: vI a :: st) E u = if a = b then Rn m_C_nearestHole 58 [l0, l1, l2, l3, l4, l5, l6, l7] st E u else Rn m_C_nearestHole 52 [l0, l1, l2, l3, l4, l5, l6, l7] st E u) ∧
  (∀ (l0 l1 l2 l3 l4 l5 l6 : am_V) (a : Int) (st : List am_V) (E : am_E) (u : am_M), Rn m_C_nearestHole 52 [l0, l1, l2, l3, l4, l5, l6, vI a] st E u = Rn m_C_nearestHole 54 [l0, l1, l2, l3, l4, l5, l6, vI a] (vI a :: st) E u) ∧
  (∀ (l0 l1 l2 l4 l5 l6 l7 : am_V) (a : Int) (st : List am_V) (E : am_E) (u : am_M), Rn m_C_nearestHole 54 [l0, l1, l2, vI a, l4, l5, l6, l7] st E u = Rn m_C_nearestHole 55 [l0, l1, l2, vI a, l4, l5, l6, l7] (vI a :: st) E u) ∧
  (∀ (l0 l1 l2 l3 l4 l5 l6 l7 : am_V) (a b : Int) (st : List am_V) (E : am_E) (u : am_M), Rn m_C_nearestHole 55 [l0, l1, l2, l3, l4, l5, l6, l7] (vI b :: vI a :: st) E u = if a < b then Rn m_C_nearestHole 58 [l0, l1, l2, l3, l4, l5, l6, l7] st E u else Rn m_C_nearestHole 64 [l0, l1, l2, l3, l4, l5, l6, l7] st E u) ∧
  (∀ (l0 l1 l2 l3 l4 l5 l7 : am_V) (a : Int) (st : List am_V) (E : am_E) (u : am_M), Rn m_C_nearestHole 58 [l0, l1, l2, l3, l4, l5, vI a, l7] st E u = Rn m_C_nearestHole 60 [l0, l1, l2, l3, l4, l5, vI a, l7] (vI a :: st) E u) ∧
  (∀ (l0 l1 l2 l3 l4 l5 l6 l7 : am_V) (a : Int) (st : List am_V) (E : am_E) (u : am_M), Rn m_C_nearestHole 60 [l0, l1, l2, l3, l4, l5, l6, l7] (vI a :: st) E u = Rn m_C_nearestHole 61 [l0, am_fx l1, vI a, l3, l4, l5, l6, l7] st E u) ∧
  (∀ (l0 l1 l2 l3 l4 l5 l6 : am_V) (a : Int) (st : List am_V) (E : am_E) (u : am_M), Rn m_C_nearestHole 61 [l0, l1, l2, l3, l4, l5, l6, vI a] st E u = Rn m_C_nearestHole 63 [l0, l1, l2, l3, l4, l5, l6, vI a] (vI a :: st) E u) ∧
  (∀ (l0 l1 l2 l3 l4 l5 l6 l7 : am_V) (a : Int) (st : List am_V) (E : am_E) (u : am_M), Rn m_C_nearestHole 63 [l0, l1, l2, l3, l4, l5, l6, l7] (vI a :: st) E u = Rn m_C_nearestHole 64 [l0, l1, am_fx l2, vI a, l4, l5, l6, l7] st E u) ∧
  (∀ (l0 l1 l2 l3 l5 l6 l7 : am_V) (a : Int) (st : List am_V) (E : am_E) (u : am_M), Rn m_C_nearestHole 64 [l0, l1, l2, l3, vL a, l5, l6, l7] st E u = Rn m_C_nearestHole 66 [l0, l1, l2, l3, vL a, l5, l6, l7] (vL a :: st) E u) ∧
  (∀ (l0 l1 l2 l3 l4 l5 l6 l7 : am_V) (st : List am_V) (E : am_E) (u : am_M), Rn m_C_nearestHole 66 [l0, l1, l2, l3, l4, l5, l6, l7] st E u = Rn m_C_nearestHole 67 [l0, l1, l2, l3, l4, l5, l6, l7] (vI 1 :: st) E u) ∧
  (∀ (l0 l1 l2 l3 l4 l5 l6 l7 : am_V) (a b : Int) (st : List am_V) (E : am_E) (u : am_M), Rn m_C_nearestHole 67 [l0, l1, l2, l3, l4, l5, l6, l7] (vI b :: vL a :: st) E u = Rn m_C_nearestHole 68 [l0, l1, l2, l3, l4, l5, l6, l7] (vL (l_ush a b) :: st) E u) ∧
  (∀ (l0 l1 l2 l3 l4 l5 l6 l7 : am_V) (a : Int) (st : List am_V) (E : am_E) (u : am_M), Rn m_C_nearestHole 68 [l0, l1, l2, l3, l4, l5, l6, l7] (vL a :: st) E u = Rn m_C_nearestHole 70 [l0, l1, l2, am_fx l3, vL a, vB false, l6, l7] st E u) ∧
  (∀ (l0 l1 l2 l3 l4 l5 l7 : am_V) (a : Int) (st : List am_V) (E : am_E) (u : am_M), Rn m_C_nearestHole 70 [l0, l1, l2, l3, l4, l5, vI a, l7] st E u = Rn m_C_nearestHole 73 [l0, l1, l2, l3, l4, am_fx l5, vI (w32 (a + 1)), l7] st E u) ∧
  (∀ (l0 l1 l2 l3 l4 l5 l6 l7 : am_V) (st : List am_V) (E : am_E) (u : am_M), Rn m_C_nearestHole 73 [l0, l1, l2, l3, l4, l5, l6, l7] st E u = Rn m_C_nearestHole 14 [l0, l1, l2, l3, l4, l5, l6, l7] st E u) ∧
  (∀ (l0 l1 l3 l4 l5 l6 l7 : am_V) (a : Int) (st : List am_V) (E : am_E) (u : am_M), Rn m_C_nearestHole 76 [l0, l1, vI a, l3, l4, l5, l6, l7] st E u = Rn m_C_nearestHole 77 [l0, l1, vI a, l3, l4, l5, l6, l7] (vI a :: st) E u) ∧
  (∀ (l0 l1 l2 l3 l4 l5 l6 l7 : am_V) (a : Int) (E : am_E) (u : am_M), Rn m_C_nearestHole 77 [l0, l1, l2, l3, l4, l5, l6, l7] [vI a] E u = some (some (vI a), E, u)) :=
  ⟨fun l0 l1 l2 l3 l4 l5 l6 l7 st E u => q_go (by decide +kernel : am_Pg 104 0 = some (.bipush (-4), 2, [], 0)) rfl,
  fun l0 l1 l2 l3 l4 l5 l6 l7 a st E u => q_go (by decide +kernel : am_Pg 104 2 = some (.istore_n 2, 1, [], 0)) rfl,
  fun l0 l1 l2 l3 l4 l5 l6 l7 st E u => q_go (by decide +kernel : am_Pg 104 3 = some (.iconst 0, 1, [], 0)) rfl,
  fun l0 l1 l2 l3 l4 l5 l6 l7 a st E u => q_go (by decide +kernel : am_Pg 104 4 = some (.istore_n 3, 1, [], 0)) rfl,
  fun l1 l2 l3 l4 l5 l6 l7 a st E u => q_go (by decide +kernel : am_Pg 104 5 = some (.aload_n 0, 1, [], 0)) rfl,
  fun l0 l1 l2 l3 l4 l5 l6 l7 k st E u hE hk => q_gfL (by decide +kernel : am_Pg 104 6 = some (.getfield 58, 3, [0, 14, 7, 0], 0)) (SE_k0 hE hk) rfl,
  fun l0 l1 l2 l3 l4 l5 l6 l7 a st E u => q_go (by decide +kernel : am_Pg 104 9 = some (.lstore 4, 2, [], 0)) rfl,
  fun l0 l1 l2 l3 l4 l5 l6 l7 st E u => q_go (by decide +kernel : am_Pg 104 11 = some (.iconst 0, 1, [], 0)) rfl,
  fun l0 l1 l2 l3 l4 l5 l6 l7 a st E u => q_go (by decide +kernel : am_Pg 104 12 = some (.istore 6, 2, [], 0)) rfl,
  fun l0 l1 l2 l3 l4 l5 l6 l7 st E u => q_go (by decide +kernel : am_Pg 104 16 = some (.bipush 49, 2, [], 0)) rfl,
  fun l0 l1 l2 l3 l4 l5 l6 l7 a b st E u => q_icmp_ge (tgt := 76) (by decide +kernel : am_Pg 104 18 = some (.if_icmp .ge 58, 3, [], 0)) (by decide),
  fun l0 l1 l2 l3 l5 l6 l7 a st E u => q_go (by decide +kernel : am_Pg 104 21 = some (.lload 4, 2, [], 0)) rfl,
  fun l0 l1 l2 l3 l4 l5 l6 l7 st E u => q_go (by decide +kernel : am_Pg 104 23 = some (.lconst 0, 1, [], 0)) rfl,
  fun l0 l1 l2 l3 l4 l5 l6 l7 a b st E u => q_go (by decide +kernel : am_Pg 104 24 = some (.lcmp, 1, [], 0)) rfl,
  fun l0 l1 l2 l3 l4 l5 l6 l7 a st E u => q_if_eq (tgt := 76) (by decide +kernel : am_Pg 104 25 = some (.ifCond .eq 51, 3, [], 0)) (by decide),
  fun l0 l1 l2 l3 l5 l6 l7 a st E u => q_go (by decide +kernel : am_Pg 104 28 = some (.lload 4, 2, [], 0)) rfl,
  fun l0 l1 l2 l3 l4 l5 l6 l7 st E u => q_go (by decide +kernel : am_Pg 104 30 = some (.lconst 1, 1, [], 0)) rfl,
  fun l0 l1 l2 l3 l4 l5 l6 l7 a b st E u => q_go (by decide +kernel : am_Pg 104 31 = some (.land, 1, [], 0)) rfl,
  fun l0 l1 l2 l3 l4 l5 l6 l7 st E u => q_go (by decide +kernel : am_Pg 104 32 = some (.lconst 0, 1, [], 0)) rfl,
  fun l0 l1 l2 l3 l4 l5 l6 l7 a b st E u => q_go (by decide +kernel : am_Pg 104 33 = some (.lcmp, 1, [], 0)) rfl,
  fun l0 l1 l2 l3 l4 l5 l6 l7 a st E u => q_if_eq (tgt := 64) (by decide +kernel : am_Pg 104 34 = some (.ifCond .eq 30, 3, [], 0)) (by decide),
  fun l1 l2 l3 l4 l5 l6 l7 a st E u => q_go (by decide +kernel : am_Pg 104 37 = some (.aload_n 0, 1, [], 0)) rfl,
  fun l0 l2 l3 l4 l5 l6 l7 a st E u => q_go (by decide +kernel : am_Pg 104 38 = some (.iload_n 1, 1, [], 0)) rfl,
  fun l0 l1 l2 l3 l4 l5 l7 a st E u => q_go (by decide +kernel : am_Pg 104 39 = some (.iload 6, 2, [], 0)) rfl,
  fun l0 l1 l2 l3 l4 l5 l6 l7 k a0 a1  E u hE hk => q_cI (by decide +kernel : am_Pg 104 41 = some (.invokevirtual 95, 3, [3, 40, 3, 0, 14, 0], 0)) (am_call_V (a := [vI a0, vI a1]) (st' := []) (Nat.le_of_ble_eq_true rfl) rfl (SE_k0 hE hk)) (by decide +kernel : am_Lm m_C_far = 6) (Nat.le_of_ble_eq_true rfl) rfl (by decide +kernel),
  fun l0 l1 l2 l3 l4 l5 l6 l7 a st E u => q_go (by decide +kernel : am_Pg 104 44 = some (.istore 7, 2, [], 0)) rfl,
  fun l0 l1 l3 l4 l5 l6 l7 a st E u => q_go (by decide +kernel : am_Pg 104 46 = some (.iload_n 2, 1, [], 0)) rfl,
  fun l0 l1 l2 l3 l4 l5 l6 l7 st E u => q_go (by decide +kernel : am_Pg 104 47 = some (.bipush (-4), 2, [], 0)) rfl,
  fun l0 l1 l2 l3 l4 l5 l6 l7 a b st E u => q_icmp_eq (tgt := 58) (by decide +kernel : am_Pg 104 49 = some (.if_icmp .eq 9, 3, [], 0)) (by decide),
  fun l0 l1 l2 l3 l4 l5 l6 a st E u => q_go (by decide +kernel : am_Pg 104 52 = some (.iload 7, 2, [], 0)) rfl,
  fun l0 l1 l2 l4 l5 l6 l7 a st E u => q_go (by decide +kernel : am_Pg 104 54 = some (.iload_n 3, 1, [], 0)) rfl,
  fun l0 l1 l2 l3 l4 l5 l6 l7 a b st E u => q_icmp_ge (tgt := 64) (by decide +kernel : am_Pg 104 55 = some (.if_icmp .ge 9, 3, [], 0)) (by decide),
  fun l0 l1 l2 l3 l4 l5 l7 a st E u => q_go (by decide +kernel : am_Pg 104 58 = some (.iload 6, 2, [], 0)) rfl,
  fun l0 l1 l2 l3 l4 l5 l6 l7 a st E u => q_go (by decide +kernel : am_Pg 104 60 = some (.istore_n 2, 1, [], 0)) rfl,
  fun l0 l1 l2 l3 l4 l5 l6 a st E u => q_go (by decide +kernel : am_Pg 104 61 = some (.iload 7, 2, [], 0)) rfl,
  fun l0 l1 l2 l3 l4 l5 l6 l7 a st E u => q_go (by decide +kernel : am_Pg 104 63 = some (.istore_n 3, 1, [], 0)) rfl,
  fun l0 l1 l2 l3 l5 l6 l7 a st E u => q_go (by decide +kernel : am_Pg 104 64 = some (.lload 4, 2, [], 0)) rfl,
  fun l0 l1 l2 l3 l4 l5 l6 l7 st E u => q_go (by decide +kernel : am_Pg 104 66 = some (.iconst 1, 1, [], 0)) rfl,
  fun l0 l1 l2 l3 l4 l5 l6 l7 a b st E u => q_go (by decide +kernel : am_Pg 104 67 = some (.lushr, 1, [], 0)) rfl,
  fun l0 l1 l2 l3 l4 l5 l6 l7 a st E u => q_go (by decide +kernel : am_Pg 104 68 = some (.lstore 4, 2, [], 0)) rfl,
  fun l0 l1 l2 l3 l4 l5 l7 a st E u => q_go (by decide +kernel : am_Pg 104 70 = some (.iinc 6 1, 3, [], 0)) rfl,
  fun l0 l1 l2 l3 l4 l5 l6 l7 st E u => q_go (by decide +kernel : am_Pg 104 73 = some (.goto (-59), 3, [], 0)) rfl,
  fun l0 l1 l3 l4 l5 l6 l7 a st E u => q_go (by decide +kernel : am_Pg 104 76 = some (.iload_n 2, 1, [], 0)) rfl,
  fun l0 l1 l2 l3 l4 l5 l6 l7 a E u => q_ret (by decide +kernel : am_Pg 104 77 = some (.ireturn, 1, [], 0)) rfl⟩
theorem x_C_nearer :
  (∀ (l1 l2 l3 : am_V) (a : Option Nat) (st : List am_V) (E : am_E) (u : am_M), Rn m_C_nearer 0 [vR a, l1, l2, l3] st E u = Rn m_C_nearer 1 [vR a, l1, l2, l3] (vR a :: st) E u) ∧
  (∀ (l0 l2 l3 : am_V) (a : Int) (st : List am_V) (E : am_E) (u : am_M), Rn m_C_nearer 1 [l0, vI a, l2, l3] st E u = Rn m_C_nearer 2 [l0, vI a, l2, l3] (vI a :: st) E u) ∧
  (∀ (l0 l1 l2 l3 : am_V) (k : Nat) (a0 : Int) (E : am_E) (u : am_M) (hE : SE E) (hk : cuB k), Rn m_C_nearer 2 [l0, l1, l2, l3] [vI a0, vR (some k)] E u = bdI (Rn m_C_isCell 0 [vR (some k), vI a0] [] E u) (KI m_C_nearer 5 [l0, l1, l2, l3] [])) ∧
  (∀ (l0 l1 l2 l3 : am_V) (a : Int) (st : List am_V) (E : am_E) (u : am_M), Rn m_C_nearer 5 [l0, l1, l2, l3] (vI a :: st) E u = if a = 0 then Rn m_C_nearer 24 [l0, l1, l2, l3] st E u else Rn m_C_nearer 8 [l0, l1, l2, l3] st E u) ∧
  (∀ (l1 l2 l3 : am_V) (a : Option Nat) (st : List am_V) (E : am_E) (u : am_M), Rn m_C_nearer 8 [vR a, l1, l2, l3] st E u = Rn m_C_nearer 9 [vR a, l1, l2, l3] (vR a :: st) E u) ∧
  (∀ (l0 l1 l3 : am_V) (a : Int) (st : List am_V) (E : am_E) (u : am_M), Rn m_C_nearer 9 [l0, l1, vI a, l3] st E u = Rn m_C_nearer 10 [l0, l1, vI a, l3] (vI a :: st) E u) ∧
  (∀ (l0 l1 l2 l3 : am_V) (k : Nat) (a0 : Int) (E : am_E) (u : am_M) (hE : SE E) (hk : cuB k), Rn m_C_nearer 10 [l0, l1, l2, l3] [vI a0, vR (some k)] E u = bdI (Rn m_C_isCell 0 [vR (some k), vI a0] [] E u) (KI m_C_nearer 13 [l0, l1, l2, l3] [])) ∧
  (∀ (l0 l1 l2 l3 : am_V) (a : Int) (st : List am_V) (E : am_E) (u : am_M), Rn m_C_nearer 13 [l0, l1, l2, l3] (vI a :: st) E u = if a = 0 then Rn m_C_nearer 24 [l0, l1, l2, l3] st E u else Rn m_C_nearer 16 [l0, l1, l2, l3] st E u) ∧
  (∀ (l1 l2 l3 : am_V) (a : Option Nat) (st : List am_V) (E : am_E) (u : am_M), Rn m_C_nearer 16 [vR a, l1, l2, l3] st E u = Rn m_C_nearer 17 [vR a, l1, l2, l3] (vR a :: st) E u) ∧
  (∀ (l0 l1 l2 l3 : am_V) (k : Nat) (st : List am_V) (E : am_E) (u : am_M) (hE : SE E) (hk : cuB k), Rn m_C_nearer 17 [l0, l1, l2, l3] (vR (some k) :: st) E u = Rn m_C_nearer 20 [l0, l1, l2, l3] (vI (u k 1) :: st) E u) ∧
  (∀ (l0 l1 l2 l3 : am_V) (st : List am_V) (E : am_E) (u : am_M), Rn m_C_nearer 20 [l0, l1, l2, l3] st E u = Rn m_C_nearer 21 [l0, l1, l2, l3] (vI 1 :: st) E u) ∧
  (∀ (l0 l1 l2 l3 : am_V) (a b : Int) (st : List am_V) (E : am_E) (u : am_M), Rn m_C_nearer 21 [l0, l1, l2, l3] (vI b :: vI a :: st) E u = if a < b then Rn m_C_nearer 24 [l0, l1, l2, l3] st E u else Rn m_C_nearer 27 [l0, l1, l2, l3] st E u) ∧
  (∀ (l0 l1 l2 l3 : am_V) (st : List am_V) (E : am_E) (u : am_M), Rn m_C_nearer 24 [l0, l1, l2, l3] st E u = Rn m_C_nearer 26 [l0, l1, l2, l3] (vI (-4) :: st) E u) ∧
  (∀ (l0 l1 l2 l3 : am_V) (a : Int) (E : am_E) (u : am_M), Rn m_C_nearer 26 [l0, l1, l2, l3] [vI a] E u = some (some (vI a), E, u)) ∧
  (∀ (l0 l1 l3 : am_V) (a : Int) (st : List am_V) (E : am_E) (u : am_M), Rn m_C_nearer 27 [l0, l1, vI a, l3] st E u = Rn m_C_nearer 28 [l0, l1, vI a, l3] (vI a :: st) E u) ∧
  (∀ (l1 l2 l3 : am_V) (a : Option Nat) (st : List am_V) (E : am_E) (u : am_M), Rn m_C_nearer 28 [vR a, l1, l2, l3] st E u = Rn m_C_nearer 29 [vR a, l1, l2, l3] (vR a :: st) E u) ∧
  (∀ (l0 l1 l2 l3 : am_V) (k : Nat) (st : List am_V) (E : am_E) (u : am_M) (hE : SE E) (hk : cuB k), Rn m_C_nearer 29 [l0, l1, l2, l3] (vR (some k) :: st) E u = Rn m_C_nearer 32 [l0, l1, l2, l3] (vI (u k 1) :: st) E u) ∧
  (∀ (l0 l1 l2 l3 : am_V) (a b : Int) (st : List am_V) (E : am_E) (u : am_M) (h : b ≠ 0), Rn m_C_nearer 32 [l0, l1, l2, l3] (vI b :: vI a :: st) E u = Rn m_C_nearer 33 [l0, l1, l2, l3] (vI (w32 (a.tdiv b)) :: st) E u) ∧
  (∀ (l0 l2 l3 : am_V) (a : Int) (st : List am_V) (E : am_E) (u : am_M), Rn m_C_nearer 33 [l0, vI a, l2, l3] st E u = Rn m_C_nearer 34 [l0, vI a, l2, l3] (vI a :: st) E u) ∧
  (∀ (l1 l2 l3 : am_V) (a : Option Nat) (st : List am_V) (E : am_E) (u : am_M), Rn m_C_nearer 34 [vR a, l1, l2, l3] st E u = Rn m_C_nearer 35 [vR a, l1, l2, l3] (vR a :: st) E u) ∧
  (∀ (l0 l1 l2 l3 : am_V) (k : Nat) (st : List am_V) (E : am_E) (u : am_M) (hE : SE E) (hk : cuB k), Rn m_C_nearer 35 [l0, l1, l2, l3] (vR (some k) :: st) E u = Rn m_C_nearer 38 [l0, l1, l2, l3] (vI (u k 1) :: st) E u) ∧
  (∀ (l0 l1 l2 l3 : am_V) (a b : Int) (st : List am_V) (E : am_E) (u : am_M) (h : b ≠ 0), Rn m_C_nearer 38 [l0, l1, l2, l3] (vI b :: vI a :: st) E u = Rn m_C_nearer 39 [l0, l1, l2, l3] (vI (w32 (a.tdiv b)) :: st) E u) ∧
  (∀ (l0 l1 l2 l3 : am_V) (a b : Int) (st : List am_V) (E : am_E) (u : am_M), Rn m_C_nearer 39 [l0, l1, l2, l3] (vI b :: vI a :: st) E u = Rn m_C_nearer 40 [l0, l1, l2, l3] (vI (w32 (a - b)) :: st) E u) ∧
  (∀ (l0 l1 l2 l3 : am_V) (a : Int) (st : List am_V) (E : am_E) (u : am_M), Rn m_C_nearer 40 [l0, l1, l2, l3] (vI a :: st) E u = Rn m_C_nearer 41 [l0, l1, am_fx l2, vI a] st E u) ∧
  (∀ (l0 l1 l2 : am_V) (a : Int) (st : List am_V) (E : am_E) (u : am_M), Rn m_C_nearer 41 [l0, l1, l2, vI a] st E u = Rn m_C_nearer 42 [l0, l1, l2, vI a] (vI a :: st) E u) ∧
  (∀ (l0 l1 l2 l3 : am_V) (a : Int) (st : List am_V) (E : am_E) (u : am_M), Rn m_C_nearer 42 [l0, l1, l2, l3] (vI a :: st) E u = if a = 0 then Rn m_C_nearer 60 [l0, l1, l2, l3] st E u else Rn m_C_nearer 45 [l0, l1, l2, l3] st E u) ∧
  (∀ (l1 l2 l3 : am_V) (a : Option Nat) (st : List am_V) (E : am_E) (u : am_M), Rn m_C_nearer 45 [vR a, l1, l2, l3] st E u = Rn m_C_nearer 46 [vR a, l1, l2, l3] (vR a :: st) E u) ∧
  (∀ (l0 l2 l3 : am_V) (a : Int) (st : List am_V) (E : am_E) (u : am_M), Rn m_C_nearer 46 [l0, vI a, l2, l3] st E u = Rn m_C_nearer 47 [l0, vI a, l2, l3] (vI a :: st) E u) ∧
  (∀ (l0 l1 l2 : am_V) (a : Int) (st : List am_V) (E : am_E) (u : am_M), Rn m_C_nearer 47 [l0, l1, l2, vI a] st E u = Rn m_C_nearer 48 [l0, l1, l2, vI a] (vI a :: st) E u) ∧
  (∀ (l0 l1 l2 l3 : am_V) (a : Int) (st : List am_V) (E : am_E) (u : am_M), Rn m_C_nearer 48 [l0, l1, l2, l3] (vI a :: st) E u = if 0 < a then Rn m_C_nearer 51 [l0, l1, l2, l3] st E u else Rn m_C_nearer 55 [l0, l1, l2, l3] st E u) ∧
  (∀ (l0 l1 l2 l3 : am_V) (st : List am_V) (E : am_E) (u : am_M), Rn m_C_nearer 51 [l0, l1, l2, l3] st E u = Rn m_C_nearer 52 [l0, l1, l2, l3] (vI 1 :: st) E u) ∧
  (∀ (l0 l1 l2 l3 : am_V) (st : List am_V) (E : am_E) (u : am_M), Rn m_C_nearer 52 [l0, l1, l2, l3] st E u = Rn m_C_nearer 56 [l0, l1, l2, l3] st E u) ∧
  (∀ (l0 l1 l2 l3 : am_V) (st : List am_V) (E : am_E) (u : am_M), Rn m_C_nearer 55 [l0, l1, l2, l3] st E u = Rn m_C_nearer 56 [l0, l1, l2, l3] (vI 0 :: st) E u) ∧
  (∀ (l0 l1 l2 l3 : am_V) (k : Nat) (a0 : Int) (a1 : Int) (E : am_E) (u : am_M) (hE : SE E) (hk : cuB k), Rn m_C_nearer 56 [l0, l1, l2, l3] [vI a1, vI a0, vR (some k)] E u = bdI (Rn m_C_beside 0 [vR (some k), vI a0, vI a1, vB false] [] E u) (KI m_C_nearer 59 [l0, l1, l2, l3] [])) ∧
  (∀ (l0 l1 l2 l3 : am_V) (a : Int) (E : am_E) (u : am_M), Rn m_C_nearer 59 [l0, l1, l2, l3] [vI a] E u = some (some (vI a), E, u)) ∧
  (∀ (l1 l2 l3 : am_V) (a : Option Nat) (st : List am_V) (E : am_E) (u : am_M), Rn m_C_nearer 60 [vR a, l1, l2, l3] st E u = Rn m_C_nearer 61 [vR a, l1, l2, l3] (vR a :: st) E u) ∧
  (∀ (l0 l2 l3 : am_V) (a : Int) (st : List am_V) (E : am_E) (u : am_M), Rn m_C_nearer 61 [l0, vI a, l2, l3] st E u = Rn m_C_nearer 62 [l0, vI a, l2, l3] (vI a :: st) E u) ∧
  (∀ (l0 l1 l3 : am_V) (a : Int) (st : List am_V) (E : am_E) (u : am_M), Rn m_C_nearer 62 [l0, l1, vI a, l3] st E u = Rn m_C_nearer 63 [l0, l1, vI a, l3] (vI a :: st) E u) ∧
  (∀ (l0 l2 l3 : am_V) (a : Int) (st : List am_V) (E : am_E) (u : am_M), Rn m_C_nearer 63 [l0, vI a, l2, l3] st E u = Rn m_C_nearer 64 [l0, vI a, l2, l3] (vI a :: st) E u) ∧
  (∀ (l0 l1 l2 l3 : am_V) (a b : Int) (st : List am_V) (E : am_E) (u : am_M), Rn m_C_nearer 64 [l0, l1, l2, l3] (vI b :: vI a :: st) E u = if b < a then Rn m_C_nearer 67 [l0, l1, l2, l3] st E u else Rn m_C_nearer 71 [l0, l1, l2, l3] st E u) ∧
  (∀ (l0 l1 l2 l3 : am_V) (st : List am_V) (E : am_E) (u : am_M), Rn m_C_nearer 67 [l0, l1, l2, l3] st E u = Rn m_C_nearer 68 [l0, l1, l2, l3] (vI 3 :: st) E u) ∧
  (∀ (l0 l1 l2 l3 : am_V) (st : List am_V) (E : am_E) (u : am_M), Rn m_C_nearer 68 [l0, l1, l2, l3] st E u = Rn m_C_nearer 72 [l0, l1, l2, l3] st E u) ∧
  (∀ (l0 l1 l2 l3 : am_V) (st : List am_V) (E : am_E) (u : am_M), Rn m_C_nearer 71 [l0, l1, l2, l3] st E u = Rn m_C_nearer 72 [l0, l1, l2, l3] (vI 2 :: st) E u) ∧
  (∀ (l0 l1 l2 l3 : am_V) (k : Nat) (a0 : Int) (a1 : Int) (E : am_E) (u : am_M) (hE : SE E) (hk : cuB k), Rn m_C_nearer 72 [l0, l1, l2, l3] [vI a1, vI a0, vR (some k)] E u = bdI (Rn m_C_beside 0 [vR (some k), vI a0, vI a1, vB false] [] E u) (KI m_C_nearer 75 [l0, l1, l2, l3] [])) ∧
  (∀ (l0 l1 l2 l3 : am_V) (a : Int) (E : am_E) (u : am_M), Rn m_C_nearer 75 [l0, l1, l2, l3] [vI a] E u = some (some (vI a), E, u)) :=
  ⟨fun l1 l2 l3 a st E u => q_go (by decide +kernel : am_Pg 105 0 = some (.aload_n 0, 1, [], 0)) rfl,
  fun l0 l2 l3 a st E u => q_go (by decide +kernel : am_Pg 105 1 = some (.iload_n 1, 1, [], 0)) rfl,
  fun l0 l1 l2 l3 k a0  E u hE hk => q_cI (by decide +kernel : am_Pg 105 2 = some (.invokevirtual 126, 3, [3, 16, 2, 0, 14, 0], 0)) (am_call_V (a := [vI a0]) (st' := []) (Nat.le_of_ble_eq_true rfl) rfl (SE_k0 hE hk)) (by decide +kernel : am_Lm m_C_isCell = 2) (Nat.le_of_ble_eq_true rfl) rfl (by decide +kernel),
  fun l0 l1 l2 l3 a st E u => q_if_eq (tgt := 24) (by decide +kernel : am_Pg 105 5 = some (.ifCond .eq 19, 3, [], 0)) (by decide),
  fun l1 l2 l3 a st E u => q_go (by decide +kernel : am_Pg 105 8 = some (.aload_n 0, 1, [], 0)) rfl,
  fun l0 l1 l3 a st E u => q_go (by decide +kernel : am_Pg 105 9 = some (.iload_n 2, 1, [], 0)) rfl,
  fun l0 l1 l2 l3 k a0  E u hE hk => q_cI (by decide +kernel : am_Pg 105 10 = some (.invokevirtual 126, 3, [3, 16, 2, 0, 14, 0], 0)) (am_call_V (a := [vI a0]) (st' := []) (Nat.le_of_ble_eq_true rfl) rfl (SE_k0 hE hk)) (by decide +kernel : am_Lm m_C_isCell = 2) (Nat.le_of_ble_eq_true rfl) rfl (by decide +kernel),
  fun l0 l1 l2 l3 a st E u => q_if_eq (tgt := 24) (by decide +kernel : am_Pg 105 13 = some (.ifCond .eq 11, 3, [], 0)) (by decide),
  fun l1 l2 l3 a st E u => q_go (by decide +kernel : am_Pg 105 16 = some (.aload_n 0, 1, [], 0)) rfl,
  fun l0 l1 l2 l3 k st E u hE hk => q_gfI (by decide +kernel : am_Pg 105 17 = some (.getfield 15, 3, [0, 14, 1, 0], 0)) (SE_k0 hE hk) (by decide),
  fun l0 l1 l2 l3 st E u => q_go (by decide +kernel : am_Pg 105 20 = some (.iconst 1, 1, [], 0)) rfl,
  fun l0 l1 l2 l3 a b st E u => q_icmp_ge (tgt := 27) (by decide +kernel : am_Pg 105 21 = some (.if_icmp .ge 6, 3, [], 0)) (by decide),
  fun l0 l1 l2 l3 st E u => q_go (by decide +kernel : am_Pg 105 24 = some (.bipush (-4), 2, [], 0)) rfl,
  fun l0 l1 l2 l3 a E u => q_ret (by decide +kernel : am_Pg 105 26 = some (.ireturn, 1, [], 0)) rfl,
  fun l0 l1 l3 a st E u => q_go (by decide +kernel : am_Pg 105 27 = some (.iload_n 2, 1, [], 0)) rfl,
  fun l1 l2 l3 a st E u => q_go (by decide +kernel : am_Pg 105 28 = some (.aload_n 0, 1, [], 0)) rfl,
  fun l0 l1 l2 l3 k st E u hE hk => q_gfI (by decide +kernel : am_Pg 105 29 = some (.getfield 15, 3, [0, 14, 1, 0], 0)) (SE_k0 hE hk) (by decide),
  fun l0 l1 l2 l3 a b st E u h => q_div (by decide +kernel : am_Pg 105 32 = some (.idiv, 1, [], 0)) h,
  fun l0 l2 l3 a st E u => q_go (by decide +kernel : am_Pg 105 33 = some (.iload_n 1, 1, [], 0)) rfl,
  fun l1 l2 l3 a st E u => q_go (by decide +kernel : am_Pg 105 34 = some (.aload_n 0, 1, [], 0)) rfl,
  fun l0 l1 l2 l3 k st E u hE hk => q_gfI (by decide +kernel : am_Pg 105 35 = some (.getfield 15, 3, [0, 14, 1, 0], 0)) (SE_k0 hE hk) (by decide),
  fun l0 l1 l2 l3 a b st E u h => q_div (by decide +kernel : am_Pg 105 38 = some (.idiv, 1, [], 0)) h,
  fun l0 l1 l2 l3 a b st E u => q_go (by decide +kernel : am_Pg 105 39 = some (.isub, 1, [], 0)) rfl,
  fun l0 l1 l2 l3 a st E u => q_go (by decide +kernel : am_Pg 105 40 = some (.istore_n 3, 1, [], 0)) rfl,
  fun l0 l1 l2 a st E u => q_go (by decide +kernel : am_Pg 105 41 = some (.iload_n 3, 1, [], 0)) rfl,
  fun l0 l1 l2 l3 a st E u => q_if_eq (tgt := 60) (by decide +kernel : am_Pg 105 42 = some (.ifCond .eq 18, 3, [], 0)) (by decide),
  fun l1 l2 l3 a st E u => q_go (by decide +kernel : am_Pg 105 45 = some (.aload_n 0, 1, [], 0)) rfl,
  fun l0 l2 l3 a st E u => q_go (by decide +kernel : am_Pg 105 46 = some (.iload_n 1, 1, [], 0)) rfl,
  fun l0 l1 l2 a st E u => q_go (by decide +kernel : am_Pg 105 47 = some (.iload_n 3, 1, [], 0)) rfl,
  fun l0 l1 l2 l3 a st E u => q_if_le (tgt := 55) (by decide +kernel : am_Pg 105 48 = some (.ifCond .le 7, 3, [], 0)) (by decide),
  fun l0 l1 l2 l3 st E u => q_go (by decide +kernel : am_Pg 105 51 = some (.iconst 1, 1, [], 0)) rfl,
  fun l0 l1 l2 l3 st E u => q_go (by decide +kernel : am_Pg 105 52 = some (.goto 4, 3, [], 0)) rfl,
  fun l0 l1 l2 l3 st E u => q_go (by decide +kernel : am_Pg 105 55 = some (.iconst 0, 1, [], 0)) rfl,
  fun l0 l1 l2 l3 k a0 a1  E u hE hk => q_cI (by decide +kernel : am_Pg 105 56 = some (.invokevirtual 120, 3, [3, 37, 3, 0, 14, 0], 0)) (am_call_V (a := [vI a0, vI a1]) (st' := []) (Nat.le_of_ble_eq_true rfl) rfl (SE_k0 hE hk)) (by decide +kernel : am_Lm m_C_beside = 4) (Nat.le_of_ble_eq_true rfl) rfl (by decide +kernel),
  fun l0 l1 l2 l3 a E u => q_ret (by decide +kernel : am_Pg 105 59 = some (.ireturn, 1, [], 0)) rfl,
  fun l1 l2 l3 a st E u => q_go (by decide +kernel : am_Pg 105 60 = some (.aload_n 0, 1, [], 0)) rfl,
  fun l0 l2 l3 a st E u => q_go (by decide +kernel : am_Pg 105 61 = some (.iload_n 1, 1, [], 0)) rfl,
  fun l0 l1 l3 a st E u => q_go (by decide +kernel : am_Pg 105 62 = some (.iload_n 2, 1, [], 0)) rfl,
  fun l0 l2 l3 a st E u => q_go (by decide +kernel : am_Pg 105 63 = some (.iload_n 1, 1, [], 0)) rfl,
  fun l0 l1 l2 l3 a b st E u => q_icmp_le (tgt := 71) (by decide +kernel : am_Pg 105 64 = some (.if_icmp .le 7, 3, [], 0)) (by decide),
  fun l0 l1 l2 l3 st E u => q_go (by decide +kernel : am_Pg 105 67 = some (.iconst 3, 1, [], 0)) rfl,
  fun l0 l1 l2 l3 st E u => q_go (by decide +kernel : am_Pg 105 68 = some (.goto 4, 3, [], 0)) rfl,
  fun l0 l1 l2 l3 st E u => q_go (by decide +kernel : am_Pg 105 71 = some (.iconst 2, 1, [], 0)) rfl,
  fun l0 l1 l2 l3 k a0 a1  E u hE hk => q_cI (by decide +kernel : am_Pg 105 72 = some (.invokevirtual 120, 3, [3, 37, 3, 0, 14, 0], 0)) (am_call_V (a := [vI a0, vI a1]) (st' := []) (Nat.le_of_ble_eq_true rfl) rfl (SE_k0 hE hk)) (by decide +kernel : am_Lm m_C_beside = 4) (Nat.le_of_ble_eq_true rfl) rfl (by decide +kernel),
  fun l0 l1 l2 l3 a E u => q_ret (by decide +kernel : am_Pg 105 75 = some (.ireturn, 1, [], 0)) rfl⟩
theorem x_C_seeks :
  (∀ (l1 l2 l3 : am_V) (a : Option Nat) (st : List am_V) (E : am_E) (u : am_M), Rn m_C_seeks 0 [vR a, l1, l2, l3] st E u = Rn m_C_seeks 1 [vR a, l1, l2, l3] (vR a :: st) E u) ∧
  (∀ (l0 l1 l2 l3 : am_V) (k : Nat) (st : List am_V) (E : am_E) (u : am_M) (hE : SE E) (hk : cuB k), Rn m_C_seeks 1 [l0, l1, l2, l3] (vR (some k) :: st) E u = Rn m_C_seeks 4 [l0, l1, l2, l3] (vR (some (k + 2)) :: st) E u) ∧
  (∀ (l0 l2 l3 : am_V) (a : Int) (st : List am_V) (E : am_E) (u : am_M), Rn m_C_seeks 4 [l0, vI a, l2, l3] st E u = Rn m_C_seeks 5 [l0, vI a, l2, l3] (vI a :: st) E u) ∧
  (∀ (l0 l1 l2 l3 : am_V) (a0 : Option Nat) (a1 : Int) (E : am_E) (u : am_M), Rn m_C_seeks 5 [l0, l1, l2, l3] [vI a1, vR a0] E u = bdI (Rn m_A_look 0 [vR a0, vI a1] [] E u) (KI m_C_seeks 8 [l0, l1, l2, l3] [])) ∧
  (∀ (l0 l1 l2 l3 : am_V) (a : Int) (st : List am_V) (E : am_E) (u : am_M), Rn m_C_seeks 8 [l0, l1, l2, l3] (vI a :: st) E u = Rn m_C_seeks 9 [l0, am_fx l1, vI a, l3] st E u) ∧
  (∀ (l1 l2 l3 : am_V) (a : Option Nat) (st : List am_V) (E : am_E) (u : am_M), Rn m_C_seeks 9 [vR a, l1, l2, l3] st E u = Rn m_C_seeks 10 [vR a, l1, l2, l3] (vR a :: st) E u) ∧
  (∀ (l0 l1 l3 : am_V) (a : Int) (st : List am_V) (E : am_E) (u : am_M), Rn m_C_seeks 10 [l0, l1, vI a, l3] st E u = Rn m_C_seeks 11 [l0, l1, vI a, l3] (vI a :: st) E u) ∧
  (∀ (l1 l2 l3 : am_V) (a : Option Nat) (st : List am_V) (E : am_E) (u : am_M), Rn m_C_seeks 11 [vR a, l1, l2, l3] st E u = Rn m_C_seeks 12 [vR a, l1, l2, l3] (vR a :: st) E u) ∧
  (∀ (l0 l1 l3 : am_V) (a : Int) (st : List am_V) (E : am_E) (u : am_M), Rn m_C_seeks 12 [l0, l1, vI a, l3] st E u = Rn m_C_seeks 13 [l0, l1, vI a, l3] (vI a :: st) E u) ∧
  (∀ (l0 l1 l2 l3 : am_V) (k : Nat) (a0 : Int) (r0 r1 : am_V) (E : am_E) (u : am_M) (hE : SE E) (hk : cuB k), Rn m_C_seeks 13 [l0, l1, l2, l3] [vI a0, vR (some k), r0, r1] E u = bdI (Rn m_C_nearestHole 0 [vR (some k), vI a0, vB false, vB false, vB false, vB false, vB false, vB false] [] E u) (KI m_C_seeks 16 [l0, l1, l2, l3] [r0, r1])) ∧
  (∀ (l0 l1 l2 l3 : am_V) (k : Nat) (a0 : Int) (a1 : Int) (E : am_E) (u : am_M) (hE : SE E) (hk : cuB k), Rn m_C_seeks 16 [l0, l1, l2, l3] [vI a1, vI a0, vR (some k)] E u = bdI (Rn m_C_nearer 0 [vR (some k), vI a0, vI a1, vB false] [] E u) (KI m_C_seeks 19 [l0, l1, l2, l3] [])) ∧
  (∀ (l0 l1 l2 l3 : am_V) (a : Int) (st : List am_V) (E : am_E) (u : am_M), Rn m_C_seeks 19 [l0, l1, l2, l3] (vI a :: st) E u = Rn m_C_seeks 20 [l0, l1, am_fx l2, vI a] st E u) ∧
  (∀ (l1 l2 l3 : am_V) (a : Option Nat) (st : List am_V) (E : am_E) (u : am_M), Rn m_C_seeks 20 [vR a, l1, l2, l3] st E u = Rn m_C_seeks 21 [vR a, l1, l2, l3] (vR a :: st) E u) ∧
  (∀ (l0 l2 l3 : am_V) (a : Int) (st : List am_V) (E : am_E) (u : am_M), Rn m_C_seeks 21 [l0, vI a, l2, l3] st E u = Rn m_C_seeks 22 [l0, vI a, l2, l3] (vI a :: st) E u) ∧
  (∀ (l0 l1 l2 : am_V) (a : Int) (st : List am_V) (E : am_E) (u : am_M), Rn m_C_seeks 22 [l0, l1, l2, vI a] st E u = Rn m_C_seeks 23 [l0, l1, l2, vI a] (vI a :: st) E u) ∧
  (∀ (l0 l1 l2 l3 : am_V) (k : Nat) (a0 : Int) (a1 : Int) (E : am_E) (u : am_M) (hE : SE E) (hk : cuB k), Rn m_C_seeks 23 [l0, l1, l2, l3] [vI a1, vI a0, vR (some k)] E u = bdI (Rn m_C_mayGo 0 [vR (some k), vI a0, vI a1, vB false, vB false, vB false, vB false] [] E u) (KI m_C_seeks 26 [l0, l1, l2, l3] [])) ∧
  (∀ (l0 l1 l2 l3 : am_V) (a : Int) (st : List am_V) (E : am_E) (u : am_M), Rn m_C_seeks 26 [l0, l1, l2, l3] (vI a :: st) E u = if a = 0 then Rn m_C_seeks 35 [l0, l1, l2, l3] st E u else Rn m_C_seeks 29 [l0, l1, l2, l3] st E u) ∧
  (∀ (l1 l2 l3 : am_V) (a : Option Nat) (st : List am_V) (E : am_E) (u : am_M), Rn m_C_seeks 29 [vR a, l1, l2, l3] st E u = Rn m_C_seeks 30 [vR a, l1, l2, l3] (vR a :: st) E u) ∧
  (∀ (l0 l2 l3 : am_V) (a : Int) (st : List am_V) (E : am_E) (u : am_M), Rn m_C_seeks 30 [l0, vI a, l2, l3] st E u = Rn m_C_seeks 31 [l0, vI a, l2, l3] (vI a :: st) E u) ∧
  (∀ (l0 l1 l2 : am_V) (a : Int) (st : List am_V) (E : am_E) (u : am_M), Rn m_C_seeks 31 [l0, l1, l2, vI a] st E u = Rn m_C_seeks 32 [l0, l1, l2, vI a] (vI a :: st) E u) ∧
  (∀ (l0 l1 l2 l3 : am_V) (k : Nat) (a0 : Int) (a1 : Int) (E : am_E) (u : am_M) (hE : SE E) (hk : cuB k), Rn m_C_seeks 32 [l0, l1, l2, l3] [vI a1, vI a0, vR (some k)] E u = bdV (Rn m_C_sets 0 [vR (some k), vI a0, vI a1] [] E u) (KV m_C_seeks 35 [l0, l1, l2, l3] [])) ∧
  (∀ (l0 l1 l2 l3 : am_V) (E : am_E) (u : am_M), Rn m_C_seeks 35 [l0, l1, l2, l3] [] E u = some (none, E, u)) :=
  ⟨fun l1 l2 l3 a st E u => q_go (by decide +kernel : am_Pg 106 0 = some (.aload_n 0, 1, [], 0)) rfl,
  fun l0 l1 l2 l3 k st E u hE hk => q_gfR (by decide +kernel : am_Pg 106 1 = some (.getfield 25, 3, [0, 14, 9, 0], 0)) (SE_k0 hE hk) rfl (SE_r0_9 hE hk),
  fun l0 l2 l3 a st E u => q_go (by decide +kernel : am_Pg 106 4 = some (.iload_n 1, 1, [], 0)) rfl,
  fun l0 l1 l2 l3 a0 a1  E u => q_cI (by decide +kernel : am_Pg 106 5 = some (.invokestatic 105, 3, [2, 36, 2, 1], 0)) (am_call_S (f := fun _ _ => true) (a := [vR a0, vI a1]) (st' := []) (Nat.le_of_ble_eq_true rfl) rfl rfl) (by decide +kernel : am_Lm m_A_look = 2) (Nat.le_of_ble_eq_true rfl) rfl (by decide +kernel),
  fun l0 l1 l2 l3 a st E u => q_go (by decide +kernel : am_Pg 106 8 = some (.istore_n 2, 1, [], 0)) rfl,
  fun l1 l2 l3 a st E u => q_go (by decide +kernel : am_Pg 106 9 = some (.aload_n 0, 1, [], 0)) rfl,
  fun l0 l1 l3 a st E u => q_go (by decide +kernel : am_Pg 106 10 = some (.iload_n 2, 1, [], 0)) rfl,
  fun l1 l2 l3 a st E u => q_go (by decide +kernel : am_Pg 106 11 = some (.aload_n 0, 1, [], 0)) rfl,
  fun l0 l1 l3 a st E u => q_go (by decide +kernel : am_Pg 106 12 = some (.iload_n 2, 1, [], 0)) rfl,
  fun l0 l1 l2 l3 k a0 r0 r1 E u hE hk => q_cI (by decide +kernel : am_Pg 106 13 = some (.invokevirtual 143, 3, [3, 104, 2, 0, 14, 0], 0)) (am_call_V (a := [vI a0]) (st' := [r0, r1]) (Nat.le_of_ble_eq_true rfl) rfl (SE_k0 hE hk)) (by decide +kernel : am_Lm m_C_nearestHole = 8) (Nat.le_of_ble_eq_true rfl) rfl (by decide +kernel),
  fun l0 l1 l2 l3 k a0 a1  E u hE hk => q_cI (by decide +kernel : am_Pg 106 16 = some (.invokevirtual 146, 3, [3, 105, 3, 0, 14, 0], 0)) (am_call_V (a := [vI a0, vI a1]) (st' := []) (Nat.le_of_ble_eq_true rfl) rfl (SE_k0 hE hk)) (by decide +kernel : am_Lm m_C_nearer = 4) (Nat.le_of_ble_eq_true rfl) rfl (by decide +kernel),
  fun l0 l1 l2 l3 a st E u => q_go (by decide +kernel : am_Pg 106 19 = some (.istore_n 3, 1, [], 0)) rfl,
  fun l1 l2 l3 a st E u => q_go (by decide +kernel : am_Pg 106 20 = some (.aload_n 0, 1, [], 0)) rfl,
  fun l0 l2 l3 a st E u => q_go (by decide +kernel : am_Pg 106 21 = some (.iload_n 1, 1, [], 0)) rfl,
  fun l0 l1 l2 a st E u => q_go (by decide +kernel : am_Pg 106 22 = some (.iload_n 3, 1, [], 0)) rfl,
  fun l0 l1 l2 l3 k a0 a1  E u hE hk => q_cI (by decide +kernel : am_Pg 106 23 = some (.invokevirtual 123, 3, [3, 42, 3, 0, 14, 0], 0)) (am_call_V (a := [vI a0, vI a1]) (st' := []) (Nat.le_of_ble_eq_true rfl) rfl (SE_k0 hE hk)) (by decide +kernel : am_Lm m_C_mayGo = 7) (Nat.le_of_ble_eq_true rfl) rfl (by decide +kernel),
  fun l0 l1 l2 l3 a st E u => q_if_eq (tgt := 35) (by decide +kernel : am_Pg 106 26 = some (.ifCond .eq 9, 3, [], 0)) (by decide),
  fun l1 l2 l3 a st E u => q_go (by decide +kernel : am_Pg 106 29 = some (.aload_n 0, 1, [], 0)) rfl,
  fun l0 l2 l3 a st E u => q_go (by decide +kernel : am_Pg 106 30 = some (.iload_n 1, 1, [], 0)) rfl,
  fun l0 l1 l2 a st E u => q_go (by decide +kernel : am_Pg 106 31 = some (.iload_n 3, 1, [], 0)) rfl,
  fun l0 l1 l2 l3 k a0 a1  E u hE hk => q_cV (by decide +kernel : am_Pg 106 32 = some (.invokevirtual 140, 3, [3, 102, 3, 0, 14, 0], 0)) (am_call_V (a := [vI a0, vI a1]) (st' := []) (Nat.le_of_ble_eq_true rfl) rfl (SE_k0 hE hk)) (by decide +kernel : am_Lm m_C_sets = 3) (Nat.le_of_ble_eq_true rfl) rfl (by decide +kernel),
  fun l0 l1 l2 l3 E u => q_ret (by decide +kernel : am_Pg 106 35 = some (.return_, 1, [], 0)) rfl⟩
theorem h_C_goesOn_2 : ∀ (l0 : am_V) (a : Int) (st : List am_V) (E : am_E) (u : am_M), Rn m_C_goesOn 2 [l0, vI a] st E u = Rn m_C_goesOn 3 [l0, vI a] (vI a :: st) E u :=
  fun l0 a st E u => q_go (by decide +kernel : am_Pg 107 2 = some (.iload_n 1, 1, [], 0)) rfl
theorem x_C_goesOn :
  (∀ (l0 l1 : am_V) (st : List am_V) (E : am_E) (u : am_M), Rn m_C_goesOn 0 [l0, l1] st E u = Rn m_C_goesOn 1 [l0, l1] (vI 0 :: st) E u) ∧
  (∀ (l0 l1 : am_V) (a : Int) (st : List am_V) (E : am_E) (u : am_M), Rn m_C_goesOn 1 [l0, l1] (vI a :: st) E u = Rn m_C_goesOn 2 [am_fx l0, vI a] st E u) ∧
  (∀ (l1 : am_V) (a : Option Nat) (st : List am_V) (E : am_E) (u : am_M), Rn m_C_goesOn 3 [vR a, l1] st E u = Rn m_C_goesOn 4 [vR a, l1] (vR a :: st) E u) ∧
  (∀ (l0 l1 : am_V) (k : Nat) (st : List am_V) (E : am_E) (u : am_M) (hE : SE E) (hk : cuB k), Rn m_C_goesOn 4 [l0, l1] (vR (some k) :: st) E u = Rn m_C_goesOn 7 [l0, l1] (vI (u k 2) :: st) E u) ∧
  (∀ (l0 l1 : am_V) (a b : Int) (st : List am_V) (E : am_E) (u : am_M), Rn m_C_goesOn 7 [l0, l1] (vI b :: vI a :: st) E u = if a < b then Rn m_C_goesOn 10 [l0, l1] st E u else Rn m_C_goesOn 116 [l0, l1] st E u) ∧
  (∀ (l1 : am_V) (a : Option Nat) (st : List am_V) (E : am_E) (u : am_M), Rn m_C_goesOn 10 [vR a, l1] st E u = Rn m_C_goesOn 11 [vR a, l1] (vR a :: st) E u) ∧
  (∀ (l0 l1 : am_V) (k : Nat) (st : List am_V) (E : am_E) (u : am_M) (hE : SE E) (hk : cuB k), Rn m_C_goesOn 11 [l0, l1] (vR (some k) :: st) E u = Rn m_C_goesOn 14 [l0, l1] (vR (some (k + 2)) :: st) E u) ∧
  (∀ (l0 : am_V) (a : Int) (st : List am_V) (E : am_E) (u : am_M), Rn m_C_goesOn 14 [l0, vI a] st E u = Rn m_C_goesOn 15 [l0, vI a] (vI a :: st) E u) ∧
  (∀ (l0 l1 : am_V) (a0 : Option Nat) (a1 : Int) (E : am_E) (u : am_M), Rn m_C_goesOn 15 [l0, l1] [vI a1, vR a0] E u = bdI (Rn m_A_look 0 [vR a0, vI a1] [] E u) (KI m_C_goesOn 18 [l0, l1] [])) ∧
  (∀ (l0 l1 : am_V) (st : List am_V) (E : am_E) (u : am_M), Rn m_C_goesOn 18 [l0, l1] st E u = Rn m_C_goesOn 20 [l0, l1] (vI (-4) :: st) E u) ∧
  (∀ (l0 l1 : am_V) (a b : Int) (st : List am_V) (E : am_E) (u : am_M), Rn m_C_goesOn 20 [l0, l1] (vI b :: vI a :: st) E u = if a = b then Rn m_C_goesOn 110 [l0, l1] st E u else Rn m_C_goesOn 23 [l0, l1] st E u) ∧
  (∀ (l1 : am_V) (a : Option Nat) (st : List am_V) (E : am_E) (u : am_M), Rn m_C_goesOn 23 [vR a, l1] st E u = Rn m_C_goesOn 24 [vR a, l1] (vR a :: st) E u) ∧
  (∀ (l0 l1 : am_V) (k : Nat) (st : List am_V) (E : am_E) (u : am_M) (hE : SE E) (hk : cuB k), Rn m_C_goesOn 24 [l0, l1] (vR (some k) :: st) E u = Rn m_C_goesOn 27 [l0, l1] (vR (some (k + 1)) :: st) E u) ∧
  (∀ (l0 : am_V) (a : Int) (st : List am_V) (E : am_E) (u : am_M), Rn m_C_goesOn 27 [l0, vI a] st E u = Rn m_C_goesOn 28 [l0, vI a] (vI a :: st) E u) ∧
  (∀ (l0 l1 : am_V) (a0 : Option Nat) (a1 : Int) (E : am_E) (u : am_M), Rn m_C_goesOn 28 [l0, l1] [vI a1, vR a0] E u = bdI (Rn m_A_look 0 [vR a0, vI a1] [] E u) (KI m_C_goesOn 31 [l0, l1] [])) ∧
  (∀ (l0 l1 : am_V) (a : Int) (st : List am_V) (E : am_E) (u : am_M), Rn m_C_goesOn 31 [l0, l1] (vI a :: st) E u = if a = 1 then Rn m_C_goesOn 60 [l0, l1] st E u else if a = 2 then Rn m_C_goesOn 85 [l0, l1] st E u else if a = 3 then Rn m_C_goesOn 76 [l0, l1] st E u else if a = 4 then Rn m_C_goesOn 102 [l0, l1] st E u else Rn m_C_goesOn 110 [l0, l1] st E u) ∧
  (∀ (l1 : am_V) (a : Option Nat) (st : List am_V) (E : am_E) (u : am_M), Rn m_C_goesOn 60 [vR a, l1] st E u = Rn m_C_goesOn 61 [vR a, l1] (vR a :: st) E u) ∧
  (∀ (l0 : am_V) (a : Int) (st : List am_V) (E : am_E) (u : am_M), Rn m_C_goesOn 61 [l0, vI a] st E u = Rn m_C_goesOn 62 [l0, vI a] (vI a :: st) E u) ∧
  (∀ (l1 : am_V) (a : Option Nat) (st : List am_V) (E : am_E) (u : am_M), Rn m_C_goesOn 62 [vR a, l1] st E u = Rn m_C_goesOn 63 [vR a, l1] (vR a :: st) E u) ∧
  (∀ (l0 l1 : am_V) (k : Nat) (st : List am_V) (E : am_E) (u : am_M) (hE : SE E) (hk : cuB k), Rn m_C_goesOn 63 [l0, l1] (vR (some k) :: st) E u = Rn m_C_goesOn 66 [l0, l1] (vR (some (k + 3)) :: st) E u) ∧
  (∀ (l0 : am_V) (a : Int) (st : List am_V) (E : am_E) (u : am_M), Rn m_C_goesOn 66 [l0, vI a] st E u = Rn m_C_goesOn 67 [l0, vI a] (vI a :: st) E u) ∧
  (∀ (l0 l1 : am_V) (a0 : Option Nat) (a1 : Int) (r0 r1 : am_V) (E : am_E) (u : am_M), Rn m_C_goesOn 67 [l0, l1] [vI a1, vR a0, r0, r1] E u = bdI (Rn m_A_look 0 [vR a0, vI a1] [] E u) (KI m_C_goesOn 70 [l0, l1] [r0, r1])) ∧
  (∀ (l0 l1 : am_V) (k : Nat) (a0 : Int) (a1 : Int) (E : am_E) (u : am_M) (hE : SE E) (hk : cuB k), Rn m_C_goesOn 70 [l0, l1] [vI a1, vI a0, vR (some k)] E u = bdV (Rn m_C_sails 0 [vR (some k), vI a0, vI a1, vB false] [] E u) (KV m_C_goesOn 73 [l0, l1] [])) ∧
  (∀ (l0 l1 : am_V) (st : List am_V) (E : am_E) (u : am_M), Rn m_C_goesOn 73 [l0, l1] st E u = Rn m_C_goesOn 110 [l0, l1] st E u) ∧
  (∀ (l1 : am_V) (a : Option Nat) (st : List am_V) (E : am_E) (u : am_M), Rn m_C_goesOn 76 [vR a, l1] st E u = Rn m_C_goesOn 77 [vR a, l1] (vR a :: st) E u) ∧
  (∀ (l0 : am_V) (a : Int) (st : List am_V) (E : am_E) (u : am_M), Rn m_C_goesOn 77 [l0, vI a] st E u = Rn m_C_goesOn 78 [l0, vI a] (vI a :: st) E u) ∧
  (∀ (l0 l1 : am_V) (st : List am_V) (E : am_E) (u : am_M), Rn m_C_goesOn 78 [l0, l1] st E u = Rn m_C_goesOn 79 [l0, l1] (vI 0 :: st) E u) ∧
  (∀ (l0 l1 : am_V) (k : Nat) (a0 : Int) (a1 : Int) (E : am_E) (u : am_M) (hE : SE E) (hk : cuB k), Rn m_C_goesOn 79 [l0, l1] [vI a1, vI a0, vR (some k)] E u = bdV (Rn m_C_sails 0 [vR (some k), vI a0, vI a1, vB false] [] E u) (KV m_C_goesOn 82 [l0, l1] [])) ∧
  (∀ (l0 l1 : am_V) (st : List am_V) (E : am_E) (u : am_M), Rn m_C_goesOn 82 [l0, l1] st E u = Rn m_C_goesOn 110 [l0, l1] st E u) ∧
  (∀ (l1 : am_V) (a : Option Nat) (st : List am_V) (E : am_E) (u : am_M), Rn m_C_goesOn 85 [vR a, l1] st E u = Rn m_C_goesOn 86 [vR a, l1] (vR a :: st) E u) ∧
  (∀ (l0 l1 : am_V) (k : Nat) (st : List am_V) (E : am_E) (u : am_M) (hE : SE E) (hk : cuB k), Rn m_C_goesOn 86 [l0, l1] (vR (some k) :: st) E u = Rn m_C_goesOn 89 [l0, l1] (vI (u k 4) :: st) E u) ∧
  (∀ (l0 l1 : am_V) (st : List am_V) (E : am_E) (u : am_M), Rn m_C_goesOn 89 [l0, l1] st E u = Rn m_C_goesOn 90 [l0, l1] (vI 1 :: st) E u) ∧
  (∀ (l0 l1 : am_V) (a b : Int) (st : List am_V) (E : am_E) (u : am_M), Rn m_C_goesOn 90 [l0, l1] (vI b :: vI a :: st) E u = Rn m_C_goesOn 91 [l0, l1] (vI (i_and a b) :: st) E u) ∧
  (∀ (l0 l1 : am_V) (a : Int) (st : List am_V) (E : am_E) (u : am_M), Rn m_C_goesOn 91 [l0, l1] (vI a :: st) E u = if a = 0 then Rn m_C_goesOn 94 [l0, l1] st E u else Rn m_C_goesOn 110 [l0, l1] st E u) ∧
  (∀ (l1 : am_V) (a : Option Nat) (st : List am_V) (E : am_E) (u : am_M), Rn m_C_goesOn 94 [vR a, l1] st E u = Rn m_C_goesOn 95 [vR a, l1] (vR a :: st) E u) ∧
  (∀ (l0 : am_V) (a : Int) (st : List am_V) (E : am_E) (u : am_M), Rn m_C_goesOn 95 [l0, vI a] st E u = Rn m_C_goesOn 96 [l0, vI a] (vI a :: st) E u) ∧
  (∀ (l0 l1 : am_V) (k : Nat) (a0 : Int) (E : am_E) (u : am_M) (hE : SE E) (hk : cuB k), Rn m_C_goesOn 96 [l0, l1] [vI a0, vR (some k)] E u = bdV (Rn m_C_seeks 0 [vR (some k), vI a0, vB false, vB false] [] E u) (KV m_C_goesOn 99 [l0, l1] [])) ∧
  (∀ (l0 l1 : am_V) (st : List am_V) (E : am_E) (u : am_M), Rn m_C_goesOn 99 [l0, l1] st E u = Rn m_C_goesOn 110 [l0, l1] st E u) ∧
  (∀ (l1 : am_V) (a : Option Nat) (st : List am_V) (E : am_E) (u : am_M), Rn m_C_goesOn 102 [vR a, l1] st E u = Rn m_C_goesOn 103 [vR a, l1] (vR a :: st) E u) ∧
  (∀ (l0 : am_V) (a : Int) (st : List am_V) (E : am_E) (u : am_M), Rn m_C_goesOn 103 [l0, vI a] st E u = Rn m_C_goesOn 104 [l0, vI a] (vI a :: st) E u) ∧
  (∀ (l0 l1 : am_V) (k : Nat) (a0 : Int) (E : am_E) (u : am_M) (hE : SE E) (hk : cuB k), Rn m_C_goesOn 104 [l0, l1] [vI a0, vR (some k)] E u = bdV (Rn m_C_seeks 0 [vR (some k), vI a0, vB false, vB false] [] E u) (KV m_C_goesOn 107 [l0, l1] [])) ∧
  (∀ (l0 l1 : am_V) (st : List am_V) (E : am_E) (u : am_M), Rn m_C_goesOn 107 [l0, l1] st E u = Rn m_C_goesOn 110 [l0, l1] st E u) ∧
  (∀ (l0 : am_V) (a : Int) (st : List am_V) (E : am_E) (u : am_M), Rn m_C_goesOn 110 [l0, vI a] st E u = Rn m_C_goesOn 113 [am_fx l0, vI (w32 (a + 1))] st E u) ∧
  (∀ (l0 l1 : am_V) (st : List am_V) (E : am_E) (u : am_M), Rn m_C_goesOn 113 [l0, l1] st E u = Rn m_C_goesOn 2 [l0, l1] st E u) ∧
  (∀ (l1 : am_V) (a : Option Nat) (st : List am_V) (E : am_E) (u : am_M), Rn m_C_goesOn 116 [vR a, l1] st E u = Rn m_C_goesOn 117 [vR a, l1] (vR a :: st) E u) ∧
  (∀ (l0 l1 : am_V) (a : Int) (st : List am_V) (E : am_E) (u : am_M), Rn m_C_goesOn 117 [l0, l1] (vI a :: st) E u = Rn m_C_goesOn 118 [l0, l1] (vI a :: vI a :: st) E u) ∧
  (∀ (l0 l1 : am_V) (a : Option Nat) (st : List am_V) (E : am_E) (u : am_M), Rn m_C_goesOn 117 [l0, l1] (vR a :: st) E u = Rn m_C_goesOn 118 [l0, l1] (vR a :: vR a :: st) E u) ∧
  (∀ (l0 l1 : am_V) (k : Nat) (st : List am_V) (E : am_E) (u : am_M) (hE : SE E) (hk : cuB k), Rn m_C_goesOn 118 [l0, l1] (vR (some k) :: st) E u = Rn m_C_goesOn 121 [l0, l1] (vI (u k 4) :: st) E u) ∧
  (∀ (l0 l1 : am_V) (st : List am_V) (E : am_E) (u : am_M), Rn m_C_goesOn 121 [l0, l1] st E u = Rn m_C_goesOn 122 [l0, l1] (vI 1 :: st) E u) ∧
  (∀ (l0 l1 : am_V) (a b : Int) (st : List am_V) (E : am_E) (u : am_M), Rn m_C_goesOn 122 [l0, l1] (vI b :: vI a :: st) E u = Rn m_C_goesOn 123 [l0, l1] (vI (w32 (a + b)) :: st) E u) ∧
  (∀ (l0 l1 : am_V) (k : Nat) (a : Int) (st : List am_V) (E : am_E) (u : am_M) (hE : SE E) (hk : cuB k), Rn m_C_goesOn 123 [l0, l1] (vI a :: vR (some k) :: st) E u = Rn m_C_goesOn 126 [l0, l1] st E (am_up u k 4 a)) ∧
  (∀ (l0 l1 : am_V) (E : am_E) (u : am_M), Rn m_C_goesOn 126 [l0, l1] [] E u = some (none, E, u)) :=
  ⟨fun l0 l1 st E u => q_go (by decide +kernel : am_Pg 107 0 = some (.iconst 0, 1, [], 0)) rfl,
  fun l0 l1 a st E u => q_go (by decide +kernel : am_Pg 107 1 = some (.istore_n 1, 1, [], 0)) rfl,
  fun l1 a st E u => q_go (by decide +kernel : am_Pg 107 3 = some (.aload_n 0, 1, [], 0)) rfl,
  fun l0 l1 k st E u hE hk => q_gfI (by decide +kernel : am_Pg 107 4 = some (.getfield 46, 3, [0, 14, 2, 0], 0)) (SE_k0 hE hk) (by decide),
  fun l0 l1 a b st E u => q_icmp_ge (tgt := 116) (by decide +kernel : am_Pg 107 7 = some (.if_icmp .ge 109, 3, [], 0)) (by decide),
  fun l1 a st E u => q_go (by decide +kernel : am_Pg 107 10 = some (.aload_n 0, 1, [], 0)) rfl,
  fun l0 l1 k st E u hE hk => q_gfR (by decide +kernel : am_Pg 107 11 = some (.getfield 25, 3, [0, 14, 9, 0], 0)) (SE_k0 hE hk) rfl (SE_r0_9 hE hk),
  fun l0 a st E u => q_go (by decide +kernel : am_Pg 107 14 = some (.iload_n 1, 1, [], 0)) rfl,
  fun l0 l1 a0 a1  E u => q_cI (by decide +kernel : am_Pg 107 15 = some (.invokestatic 105, 3, [2, 36, 2, 1], 0)) (am_call_S (f := fun _ _ => true) (a := [vR a0, vI a1]) (st' := []) (Nat.le_of_ble_eq_true rfl) rfl rfl) (by decide +kernel : am_Lm m_A_look = 2) (Nat.le_of_ble_eq_true rfl) rfl (by decide +kernel),
  fun l0 l1 st E u => q_go (by decide +kernel : am_Pg 107 18 = some (.bipush (-4), 2, [], 0)) rfl,
  fun l0 l1 a b st E u => q_icmp_eq (tgt := 110) (by decide +kernel : am_Pg 107 20 = some (.if_icmp .eq 90, 3, [], 0)) (by decide),
  fun l1 a st E u => q_go (by decide +kernel : am_Pg 107 23 = some (.aload_n 0, 1, [], 0)) rfl,
  fun l0 l1 k st E u hE hk => q_gfR (by decide +kernel : am_Pg 107 24 = some (.getfield 21, 3, [0, 14, 8, 0], 0)) (SE_k0 hE hk) rfl (SE_r0_8 hE hk),
  fun l0 a st E u => q_go (by decide +kernel : am_Pg 107 27 = some (.iload_n 1, 1, [], 0)) rfl,
  fun l0 l1 a0 a1  E u => q_cI (by decide +kernel : am_Pg 107 28 = some (.invokestatic 105, 3, [2, 36, 2, 1], 0)) (am_call_S (f := fun _ _ => true) (a := [vR a0, vI a1]) (st' := []) (Nat.le_of_ble_eq_true rfl) rfl rfl) (by decide +kernel : am_Lm m_A_look = 2) (Nat.le_of_ble_eq_true rfl) rfl (by decide +kernel),
  (fun l0 l1 a st E u => by
  by_cases h0 : a = 1
  · subst h0; rw [if_pos rfl]; exact q_go (by decide +kernel : am_Pg 107 31 = some (.tableswitch 79 1 4 #[29, 54, 45, 71], 29, [], 0)) rfl
  rw [if_neg h0]
  by_cases h1 : a = 2
  · subst h1; rw [if_pos rfl]; exact q_go (by decide +kernel : am_Pg 107 31 = some (.tableswitch 79 1 4 #[29, 54, 45, 71], 29, [], 0)) rfl
  rw [if_neg h1]
  by_cases h2 : a = 3
  · subst h2; rw [if_pos rfl]; exact q_go (by decide +kernel : am_Pg 107 31 = some (.tableswitch 79 1 4 #[29, 54, 45, 71], 29, [], 0)) rfl
  rw [if_neg h2]
  by_cases h3 : a = 4
  · subst h3; rw [if_pos rfl]; exact q_go (by decide +kernel : am_Pg 107 31 = some (.tableswitch 79 1 4 #[29, 54, 45, 71], 29, [], 0)) rfl
  rw [if_neg h3]
  exact q_go (by decide +kernel : am_Pg 107 31 = some (.tableswitch 79 1 4 #[29, 54, 45, 71], 29, [], 0)) (by simp only [am_step, am_br]; rw [if_pos (by simp; omega)]; rfl)),
  fun l1 a st E u => q_go (by decide +kernel : am_Pg 107 60 = some (.aload_n 0, 1, [], 0)) rfl,
  fun l0 a st E u => q_go (by decide +kernel : am_Pg 107 61 = some (.iload_n 1, 1, [], 0)) rfl,
  fun l1 a st E u => q_go (by decide +kernel : am_Pg 107 62 = some (.aload_n 0, 1, [], 0)) rfl,
  fun l0 l1 k st E u hE hk => q_gfR (by decide +kernel : am_Pg 107 63 = some (.getfield 28, 3, [0, 14, 10, 0], 0)) (SE_k0 hE hk) rfl (SE_r0_10 hE hk),
  fun l0 a st E u => q_go (by decide +kernel : am_Pg 107 66 = some (.iload_n 1, 1, [], 0)) rfl,
  fun l0 l1 a0 a1 r0 r1 E u => q_cI (by decide +kernel : am_Pg 107 67 = some (.invokestatic 105, 3, [2, 36, 2, 1], 0)) (am_call_S (f := fun _ _ => true) (a := [vR a0, vI a1]) (st' := [r0, r1]) (Nat.le_of_ble_eq_true rfl) rfl rfl) (by decide +kernel : am_Lm m_A_look = 2) (Nat.le_of_ble_eq_true rfl) rfl (by decide +kernel),
  fun l0 l1 k a0 a1  E u hE hk => q_cV (by decide +kernel : am_Pg 107 70 = some (.invokevirtual 129, 3, [3, 103, 3, 0, 14, 0], 0)) (am_call_V (a := [vI a0, vI a1]) (st' := []) (Nat.le_of_ble_eq_true rfl) rfl (SE_k0 hE hk)) (by decide +kernel : am_Lm m_C_sails = 4) (Nat.le_of_ble_eq_true rfl) rfl (by decide +kernel),
  fun l0 l1 st E u => q_go (by decide +kernel : am_Pg 107 73 = some (.goto 37, 3, [], 0)) rfl,
  fun l1 a st E u => q_go (by decide +kernel : am_Pg 107 76 = some (.aload_n 0, 1, [], 0)) rfl,
  fun l0 a st E u => q_go (by decide +kernel : am_Pg 107 77 = some (.iload_n 1, 1, [], 0)) rfl,
  fun l0 l1 st E u => q_go (by decide +kernel : am_Pg 107 78 = some (.iconst 0, 1, [], 0)) rfl,
  fun l0 l1 k a0 a1  E u hE hk => q_cV (by decide +kernel : am_Pg 107 79 = some (.invokevirtual 129, 3, [3, 103, 3, 0, 14, 0], 0)) (am_call_V (a := [vI a0, vI a1]) (st' := []) (Nat.le_of_ble_eq_true rfl) rfl (SE_k0 hE hk)) (by decide +kernel : am_Lm m_C_sails = 4) (Nat.le_of_ble_eq_true rfl) rfl (by decide +kernel),
  fun l0 l1 st E u => q_go (by decide +kernel : am_Pg 107 82 = some (.goto 28, 3, [], 0)) rfl,
  fun l1 a st E u => q_go (by decide +kernel : am_Pg 107 85 = some (.aload_n 0, 1, [], 0)) rfl,
  fun l0 l1 k st E u hE hk => q_gfI (by decide +kernel : am_Pg 107 86 = some (.getfield 52, 3, [0, 14, 4, 0], 0)) (SE_k0 hE hk) (by decide),
  fun l0 l1 st E u => q_go (by decide +kernel : am_Pg 107 89 = some (.iconst 1, 1, [], 0)) rfl,
  fun l0 l1 a b st E u => q_go (by decide +kernel : am_Pg 107 90 = some (.iand, 1, [], 0)) rfl,
  fun l0 l1 a st E u => q_if_ne (tgt := 110) (by decide +kernel : am_Pg 107 91 = some (.ifCond .ne 19, 3, [], 0)) (by decide),
  fun l1 a st E u => q_go (by decide +kernel : am_Pg 107 94 = some (.aload_n 0, 1, [], 0)) rfl,
  fun l0 a st E u => q_go (by decide +kernel : am_Pg 107 95 = some (.iload_n 1, 1, [], 0)) rfl,
  fun l0 l1 k a0  E u hE hk => q_cV (by decide +kernel : am_Pg 107 96 = some (.invokevirtual 133, 3, [3, 106, 2, 0, 14, 0], 0)) (am_call_V (a := [vI a0]) (st' := []) (Nat.le_of_ble_eq_true rfl) rfl (SE_k0 hE hk)) (by decide +kernel : am_Lm m_C_seeks = 4) (Nat.le_of_ble_eq_true rfl) rfl (by decide +kernel),
  fun l0 l1 st E u => q_go (by decide +kernel : am_Pg 107 99 = some (.goto 11, 3, [], 0)) rfl,
  fun l1 a st E u => q_go (by decide +kernel : am_Pg 107 102 = some (.aload_n 0, 1, [], 0)) rfl,
  fun l0 a st E u => q_go (by decide +kernel : am_Pg 107 103 = some (.iload_n 1, 1, [], 0)) rfl,
  fun l0 l1 k a0  E u hE hk => q_cV (by decide +kernel : am_Pg 107 104 = some (.invokevirtual 133, 3, [3, 106, 2, 0, 14, 0], 0)) (am_call_V (a := [vI a0]) (st' := []) (Nat.le_of_ble_eq_true rfl) rfl (SE_k0 hE hk)) (by decide +kernel : am_Lm m_C_seeks = 4) (Nat.le_of_ble_eq_true rfl) rfl (by decide +kernel),
  fun l0 l1 st E u => q_go (by decide +kernel : am_Pg 107 107 = some (.goto 3, 3, [], 0)) rfl,
  fun l0 a st E u => q_go (by decide +kernel : am_Pg 107 110 = some (.iinc 1 1, 3, [], 0)) rfl,
  fun l0 l1 st E u => q_go (by decide +kernel : am_Pg 107 113 = some (.goto (-111), 3, [], 0)) rfl,
  fun l1 a st E u => q_go (by decide +kernel : am_Pg 107 116 = some (.aload_n 0, 1, [], 0)) rfl,
  fun l0 l1 a st E u => q_go (by decide +kernel : am_Pg 107 117 = some (.dup, 1, [], 0)) rfl,
  fun l0 l1 a st E u => q_go (by decide +kernel : am_Pg 107 117 = some (.dup, 1, [], 0)) rfl,
  fun l0 l1 k st E u hE hk => q_gfI (by decide +kernel : am_Pg 107 118 = some (.getfield 52, 3, [0, 14, 4, 0], 0)) (SE_k0 hE hk) (by decide),
  fun l0 l1 st E u => q_go (by decide +kernel : am_Pg 107 121 = some (.iconst 1, 1, [], 0)) rfl,
  fun l0 l1 a b st E u => q_go (by decide +kernel : am_Pg 107 122 = some (.iadd, 1, [], 0)) rfl,
  fun l0 l1 k a st E u hE hk => q_pfI (by decide +kernel : am_Pg 107 123 = some (.putfield 52, 3, [0, 14, 4, 0], 0)) (SE_k0 hE hk) rfl,
  fun l0 l1 E u => q_ret (by decide +kernel : am_Pg 107 126 = some (.return_, 1, [], 0)) rfl⟩
theorem x_P_givesBack :
  (∀ (l1 : am_V) (a : Option Nat) (st : List am_V) (E : am_E) (u : am_M), Rn m_P_givesBack 0 [vR a, l1] st E u = Rn m_P_givesBack 1 [vR a, l1] (vR a :: st) E u) ∧
  (∀ (l0 l1 : am_V) (k : Nat) (st : List am_V) (E : am_E) (u : am_M) (hE : SE E) (hk : paB k), Rn m_P_givesBack 1 [l0, l1] (vR (some k) :: st) E u = Rn m_P_givesBack 4 [l0, l1] (vI (u k 2) :: st) E u) ∧
  (∀ (l0 l1 : am_V) (a : Int) (st : List am_V) (E : am_E) (u : am_M), Rn m_P_givesBack 4 [l0, l1] (vI a :: st) E u = if a = 0 then Rn m_P_givesBack 7 [l0, l1] st E u else Rn m_P_givesBack 9 [l0, l1] st E u) ∧
  (∀ (l0 l1 : am_V) (st : List am_V) (E : am_E) (u : am_M), Rn m_P_givesBack 7 [l0, l1] st E u = Rn m_P_givesBack 8 [l0, l1] (vI 0 :: st) E u) ∧
  (∀ (l0 l1 : am_V) (b : Bool) (E : am_E) (u : am_M), Rn m_P_givesBack 8 [l0, l1] [vI (bI b)] E u = some (some (vI (bI b)), E, u)) ∧
  (∀ (l0 l1 : am_V) (E : am_E) (u : am_M), Rn m_P_givesBack 8 [l0, l1] [vI 1] E u = some (some (vI 1), E, u)) ∧
  (∀ (l0 l1 : am_V) (E : am_E) (u : am_M), Rn m_P_givesBack 8 [l0, l1] [vI 0] E u = some (some (vI 0), E, u)) ∧
  (∀ (l1 : am_V) (a : Option Nat) (st : List am_V) (E : am_E) (u : am_M), Rn m_P_givesBack 9 [vR a, l1] st E u = Rn m_P_givesBack 10 [vR a, l1] (vR a :: st) E u) ∧
  (∀ (l0 l1 : am_V) (a : Int) (st : List am_V) (E : am_E) (u : am_M), Rn m_P_givesBack 10 [l0, l1] (vI a :: st) E u = Rn m_P_givesBack 11 [l0, l1] (vI a :: vI a :: st) E u) ∧
  (∀ (l0 l1 : am_V) (a : Option Nat) (st : List am_V) (E : am_E) (u : am_M), Rn m_P_givesBack 10 [l0, l1] (vR a :: st) E u = Rn m_P_givesBack 11 [l0, l1] (vR a :: vR a :: st) E u) ∧
  (∀ (l0 l1 : am_V) (k : Nat) (st : List am_V) (E : am_E) (u : am_M) (hE : SE E) (hk : paB k), Rn m_P_givesBack 11 [l0, l1] (vR (some k) :: st) E u = Rn m_P_givesBack 14 [l0, l1] (vI (u k 2) :: st) E u) ∧
  (∀ (l0 l1 : am_V) (st : List am_V) (E : am_E) (u : am_M), Rn m_P_givesBack 14 [l0, l1] st E u = Rn m_P_givesBack 15 [l0, l1] (vI 1 :: st) E u) ∧
  (∀ (l0 l1 : am_V) (a b : Int) (st : List am_V) (E : am_E) (u : am_M), Rn m_P_givesBack 15 [l0, l1] (vI b :: vI a :: st) E u = Rn m_P_givesBack 16 [l0, l1] (vI (w32 (a - b)) :: st) E u) ∧
  (∀ (l0 l1 : am_V) (k : Nat) (a : Int) (st : List am_V) (E : am_E) (u : am_M) (hE : SE E) (hk : paB k), Rn m_P_givesBack 16 [l0, l1] (vI a :: vR (some k) :: st) E u = Rn m_P_givesBack 19 [l0, l1] st E (am_up u k 2 a)) ∧
  (∀ (l0 : am_V) (a : Option Nat) (st : List am_V) (E : am_E) (u : am_M), Rn m_P_givesBack 19 [l0, vR a] st E u = Rn m_P_givesBack 20 [l0, vR a] (vR a :: st) E u) ∧
  (∀ (l1 : am_V) (a : Option Nat) (st : List am_V) (E : am_E) (u : am_M), Rn m_P_givesBack 20 [vR a, l1] st E u = Rn m_P_givesBack 21 [vR a, l1] (vR a :: st) E u) ∧
  (∀ (l1 : am_V) (a : Option Nat) (st : List am_V) (E : am_E) (u : am_M), Rn m_P_givesBack 21 [vR a, l1] st E u = Rn m_P_givesBack 22 [vR a, l1] (vR a :: st) E u) ∧
  (∀ (l0 l1 : am_V) (k : Nat) (st : List am_V) (E : am_E) (u : am_M) (hE : SE E) (hk : paB k), Rn m_P_givesBack 22 [l0, l1] (vR (some k) :: st) E u = Rn m_P_givesBack 25 [l0, l1] (vI (u k 2) :: st) E u) ∧
  (∀ (l0 l1 : am_V) (k : Nat) (a0 : Int) (r0 : am_V) (E : am_E) (u : am_M) (hE : SE E) (hk : paB k), Rn m_P_givesBack 25 [l0, l1] [vI a0, vR (some k), r0] E u = bdR (Rn m_P_moment 0 [vR (some k), vI a0, vB false] [] E u) (KR m_P_givesBack 28 [l0, l1] [r0])) ∧
  (∀ (l0 l1 : am_V) (k : Nat) (a0 : Option Nat) (E : am_E) (u : am_M) (hE : SE E) (hk : cuB k), Rn m_P_givesBack 28 [l0, l1] [vR a0, vR (some k)] E u = bdV (Rn m_C_becomes 0 [vR (some k), vR a0] [] E u) (KV m_P_givesBack 31 [l0, l1] [])) ∧
  (∀ (l0 l1 : am_V) (st : List am_V) (E : am_E) (u : am_M), Rn m_P_givesBack 31 [l0, l1] st E u = Rn m_P_givesBack 32 [l0, l1] (vI 1 :: st) E u) ∧
  (∀ (l0 l1 : am_V) (b : Bool) (E : am_E) (u : am_M), Rn m_P_givesBack 32 [l0, l1] [vI (bI b)] E u = some (some (vI (bI b)), E, u)) ∧
  (∀ (l0 l1 : am_V) (E : am_E) (u : am_M), Rn m_P_givesBack 32 [l0, l1] [vI 1] E u = some (some (vI 1), E, u)) ∧
  (∀ (l0 l1 : am_V) (E : am_E) (u : am_M), Rn m_P_givesBack 32 [l0, l1] [vI 0] E u = some (some (vI 0), E, u)) :=
  ⟨fun l1 a st E u => q_go (by decide +kernel : am_Pg 127 0 = some (.aload_n 0, 1, [], 0)) rfl,
  fun l0 l1 k st E u hE hk => q_gfI (by decide +kernel : am_Pg 127 1 = some (.getfield 22, 3, [1, 3, 2, 0], 0)) (SE_k1 hE hk) (by decide),
  fun l0 l1 a st E u => q_if_ne (tgt := 9) (by decide +kernel : am_Pg 127 4 = some (.ifCond .ne 5, 3, [], 0)) (by decide),
  fun l0 l1 st E u => q_go (by decide +kernel : am_Pg 127 7 = some (.iconst 0, 1, [], 0)) rfl,
  fun l0 l1 b E u => by cases b <;> exact q_ret (by decide +kernel : am_Pg 127 8 = some (.ireturn, 1, [1], 0)) rfl,
  fun l0 l1 E u => q_ret (by decide +kernel : am_Pg 127 8 = some (.ireturn, 1, [1], 0)) rfl,
  fun l0 l1 E u => q_ret (by decide +kernel : am_Pg 127 8 = some (.ireturn, 1, [1], 0)) rfl,
  fun l1 a st E u => q_go (by decide +kernel : am_Pg 127 9 = some (.aload_n 0, 1, [], 0)) rfl,
  fun l0 l1 a st E u => q_go (by decide +kernel : am_Pg 127 10 = some (.dup, 1, [], 0)) rfl,
  fun l0 l1 a st E u => q_go (by decide +kernel : am_Pg 127 10 = some (.dup, 1, [], 0)) rfl,
  fun l0 l1 k st E u hE hk => q_gfI (by decide +kernel : am_Pg 127 11 = some (.getfield 22, 3, [1, 3, 2, 0], 0)) (SE_k1 hE hk) (by decide),
  fun l0 l1 st E u => q_go (by decide +kernel : am_Pg 127 14 = some (.iconst 1, 1, [], 0)) rfl,
  fun l0 l1 a b st E u => q_go (by decide +kernel : am_Pg 127 15 = some (.isub, 1, [], 0)) rfl,
  fun l0 l1 k a st E u hE hk => q_pfI (by decide +kernel : am_Pg 127 16 = some (.putfield 22, 3, [1, 3, 2, 0], 0)) (SE_k1 hE hk) rfl,
  fun l0 a st E u => q_go (by decide +kernel : am_Pg 127 19 = some (.aload_n 1, 1, [], 0)) rfl,
  fun l1 a st E u => q_go (by decide +kernel : am_Pg 127 20 = some (.aload_n 0, 1, [], 0)) rfl,
  fun l1 a st E u => q_go (by decide +kernel : am_Pg 127 21 = some (.aload_n 0, 1, [], 0)) rfl,
  fun l0 l1 k st E u hE hk => q_gfI (by decide +kernel : am_Pg 127 22 = some (.getfield 22, 3, [1, 3, 2, 0], 0)) (SE_k1 hE hk) (by decide),
  fun l0 l1 k a0 r0 E u hE hk => q_cR (by decide +kernel : am_Pg 127 25 = some (.invokevirtual 25, 3, [3, 99, 2, 1, 3, 0], 0)) (am_call_V (a := [vI a0]) (st' := [r0]) (Nat.le_of_ble_eq_true rfl) rfl (SE_k1 hE hk)) (by decide +kernel : am_Lm m_P_moment = 3) (Nat.le_of_ble_eq_true rfl) rfl (by decide +kernel),
  fun l0 l1 k a0  E u hE hk => q_cV (by decide +kernel : am_Pg 127 28 = some (.invokevirtual 29, 3, [3, 78, 2, 0, 14, 1], 0)) (am_call_V (a := [vR a0]) (st' := []) (Nat.le_of_ble_eq_true rfl) rfl (SE_k0 hE hk)) (by decide +kernel : am_Lm m_C_becomes = 2) (Nat.le_of_ble_eq_true rfl) rfl (by decide +kernel),
  fun l0 l1 st E u => q_go (by decide +kernel : am_Pg 127 31 = some (.iconst 1, 1, [], 0)) rfl,
  fun l0 l1 b E u => by cases b <;> exact q_ret (by decide +kernel : am_Pg 127 32 = some (.ireturn, 1, [1], 0)) rfl,
  fun l0 l1 E u => q_ret (by decide +kernel : am_Pg 127 32 = some (.ireturn, 1, [1], 0)) rfl,
  fun l0 l1 E u => q_ret (by decide +kernel : am_Pg 127 32 = some (.ireturn, 1, [1], 0)) rfl⟩
theorem h_C_goesOnFor_2 : ∀ (l0 l1 : am_V) (a : Int) (st : List am_V) (E : am_E) (u : am_M), Rn m_C_goesOnFor 2 [l0, l1, vI a] st E u = Rn m_C_goesOnFor 3 [l0, l1, vI a] (vI a :: st) E u :=
  fun l0 l1 a st E u => q_go (by decide +kernel : am_Pg 132 2 = some (.iload_n 2, 1, [], 0)) rfl
theorem x_C_goesOnFor :
  (∀ (l0 l1 l2 : am_V) (st : List am_V) (E : am_E) (u : am_M), Rn m_C_goesOnFor 0 [l0, l1, l2] st E u = Rn m_C_goesOnFor 1 [l0, l1, l2] (vI 0 :: st) E u) ∧
  (∀ (l0 l1 l2 : am_V) (a : Int) (st : List am_V) (E : am_E) (u : am_M), Rn m_C_goesOnFor 1 [l0, l1, l2] (vI a :: st) E u = Rn m_C_goesOnFor 2 [l0, am_fx l1, vI a] st E u) ∧
  (∀ (l0 l2 : am_V) (a : Int) (st : List am_V) (E : am_E) (u : am_M), Rn m_C_goesOnFor 3 [l0, vI a, l2] st E u = Rn m_C_goesOnFor 4 [l0, vI a, l2] (vI a :: st) E u) ∧
  (∀ (l0 l1 l2 : am_V) (a b : Int) (st : List am_V) (E : am_E) (u : am_M), Rn m_C_goesOnFor 4 [l0, l1, l2] (vI b :: vI a :: st) E u = if a < b then Rn m_C_goesOnFor 7 [l0, l1, l2] st E u else Rn m_C_goesOnFor 17 [l0, l1, l2] st E u) ∧
  (∀ (l1 l2 : am_V) (a : Option Nat) (st : List am_V) (E : am_E) (u : am_M), Rn m_C_goesOnFor 7 [vR a, l1, l2] st E u = Rn m_C_goesOnFor 8 [vR a, l1, l2] (vR a :: st) E u) ∧
  (∀ (l0 l1 l2 : am_V) (k : Nat) (E : am_E) (u : am_M) (hE : SE E) (hk : cuB k), Rn m_C_goesOnFor 8 [l0, l1, l2] [vR (some k)] E u = bdV (Rn m_C_goesOn 0 [vR (some k), vB false] [] E u) (KV m_C_goesOnFor 11 [l0, l1, l2] [])) ∧
  (∀ (l0 l1 : am_V) (a : Int) (st : List am_V) (E : am_E) (u : am_M), Rn m_C_goesOnFor 11 [l0, l1, vI a] st E u = Rn m_C_goesOnFor 14 [l0, am_fx l1, vI (w32 (a + 1))] st E u) ∧
  (∀ (l0 l1 l2 : am_V) (st : List am_V) (E : am_E) (u : am_M), Rn m_C_goesOnFor 14 [l0, l1, l2] st E u = Rn m_C_goesOnFor 2 [l0, l1, l2] st E u) ∧
  (∀ (l0 l1 l2 : am_V) (E : am_E) (u : am_M), Rn m_C_goesOnFor 17 [l0, l1, l2] [] E u = some (none, E, u)) :=
  ⟨fun l0 l1 l2 st E u => q_go (by decide +kernel : am_Pg 132 0 = some (.iconst 0, 1, [], 0)) rfl,
  fun l0 l1 l2 a st E u => q_go (by decide +kernel : am_Pg 132 1 = some (.istore_n 2, 1, [], 0)) rfl,
  fun l0 l2 a st E u => q_go (by decide +kernel : am_Pg 132 3 = some (.iload_n 1, 1, [], 0)) rfl,
  fun l0 l1 l2 a b st E u => q_icmp_ge (tgt := 17) (by decide +kernel : am_Pg 132 4 = some (.if_icmp .ge 13, 3, [], 0)) (by decide),
  fun l1 l2 a st E u => q_go (by decide +kernel : am_Pg 132 7 = some (.aload_n 0, 1, [], 0)) rfl,
  fun l0 l1 l2 k   E u hE hk => q_cV (by decide +kernel : am_Pg 132 8 = some (.invokevirtual 137, 3, [3, 107, 1, 0, 14, 0], 0)) (am_call_V (a := []) (st' := []) (Nat.le_of_ble_eq_true rfl) rfl (SE_k0 hE hk)) (by decide +kernel : am_Lm m_C_goesOn = 2) (Nat.le_of_ble_eq_true rfl) rfl (by decide +kernel),
  fun l0 l1 a st E u => q_go (by decide +kernel : am_Pg 132 11 = some (.iinc 2 1, 3, [], 0)) rfl,
  fun l0 l1 l2 st E u => q_go (by decide +kernel : am_Pg 132 14 = some (.goto (-12), 3, [], 0)) rfl,
  fun l0 l1 l2 E u => q_ret (by decide +kernel : am_Pg 132 17 = some (.return_, 1, [], 0)) rfl⟩
theorem h_C_soonest_19 : ∀ (l0 l1 l2 l3 : am_V) (a : Int) (st : List am_V) (E : am_E) (u : am_M), Rn m_C_soonest 19 [l0, l1, l2, l3, vI a] st E u = Rn m_C_soonest 21 [l0, l1, l2, l3, vI a] (vI a :: st) E u :=
  fun l0 l1 l2 l3 a st E u => q_go (by decide +kernel : am_Pg 140 19 = some (.iload 4, 2, [], 0)) rfl
theorem x_C_soonest :
  (∀ (l1 l2 l3 l4 : am_V) (a : Option Nat) (st : List am_V) (E : am_E) (u : am_M), Rn m_C_soonest 0 [vR a, l1, l2, l3, l4] st E u = Rn m_C_soonest 1 [vR a, l1, l2, l3, l4] (vR a :: st) E u) ∧
  (∀ (l0 l1 l2 l3 l4 : am_V) (k : Nat) (st : List am_V) (E : am_E) (u : am_M) (hE : SE E) (hk : cuB k), Rn m_C_soonest 1 [l0, l1, l2, l3, l4] (vR (some k) :: st) E u = Rn m_C_soonest 4 [l0, l1, l2, l3, l4] (vR (some (k + 2)) :: st) E u) ∧
  (∀ (l0 l2 l3 l4 : am_V) (a : Int) (st : List am_V) (E : am_E) (u : am_M), Rn m_C_soonest 4 [l0, vI a, l2, l3, l4] st E u = Rn m_C_soonest 5 [l0, vI a, l2, l3, l4] (vI a :: st) E u) ∧
  (∀ (l0 l1 l2 l3 l4 : am_V) (a0 : Option Nat) (a1 : Int) (E : am_E) (u : am_M), Rn m_C_soonest 5 [l0, l1, l2, l3, l4] [vI a1, vR a0] E u = bdI (Rn m_A_look 0 [vR a0, vI a1] [] E u) (KI m_C_soonest 8 [l0, l1, l2, l3, l4] [])) ∧
  (∀ (l0 l1 l2 l3 l4 : am_V) (st : List am_V) (E : am_E) (u : am_M), Rn m_C_soonest 8 [l0, l1, l2, l3, l4] st E u = Rn m_C_soonest 10 [l0, l1, l2, l3, l4] (vI (-4) :: st) E u) ∧
  (∀ (l0 l1 l2 l3 l4 : am_V) (a b : Int) (st : List am_V) (E : am_E) (u : am_M), Rn m_C_soonest 10 [l0, l1, l2, l3, l4] (vI b :: vI a :: st) E u = if a = b then Rn m_C_soonest 13 [l0, l1, l2, l3, l4] st E u else Rn m_C_soonest 16 [l0, l1, l2, l3, l4] st E u) ∧
  (∀ (l0 l1 l2 l3 l4 : am_V) (st : List am_V) (E : am_E) (u : am_M), Rn m_C_soonest 13 [l0, l1, l2, l3, l4] st E u = Rn m_C_soonest 15 [l0, l1, l2, l3, l4] (vI (-4) :: st) E u) ∧
  (∀ (l0 l1 l2 l3 l4 : am_V) (a : Int) (E : am_E) (u : am_M), Rn m_C_soonest 15 [l0, l1, l2, l3, l4] [vI a] E u = some (some (vI a), E, u)) ∧
  (∀ (l0 l1 l2 l3 l4 : am_V) (st : List am_V) (E : am_E) (u : am_M), Rn m_C_soonest 16 [l0, l1, l2, l3, l4] st E u = Rn m_C_soonest 17 [l0, l1, l2, l3, l4] (vI 0 :: st) E u) ∧
  (∀ (l0 l1 l2 l3 l4 : am_V) (a : Int) (st : List am_V) (E : am_E) (u : am_M), Rn m_C_soonest 17 [l0, l1, l2, l3, l4] (vI a :: st) E u = Rn m_C_soonest 19 [l0, l1, l2, am_fx l3, vI a] st E u) ∧
  (∀ (l0 l1 l2 l4 : am_V) (a : Int) (st : List am_V) (E : am_E) (u : am_M), Rn m_C_soonest 21 [l0, l1, l2, vI a, l4] st E u = Rn m_C_soonest 22 [l0, l1, l2, vI a, l4] (vI a :: st) E u) ∧
  (∀ (l0 l1 l2 l3 l4 : am_V) (a b : Int) (st : List am_V) (E : am_E) (u : am_M), Rn m_C_soonest 22 [l0, l1, l2, l3, l4] (vI b :: vI a :: st) E u = if b < a then Rn m_C_soonest 50 [l0, l1, l2, l3, l4] st E u else Rn m_C_soonest 25 [l0, l1, l2, l3, l4] st E u) ∧
  (∀ (l1 l2 l3 l4 : am_V) (a : Option Nat) (st : List am_V) (E : am_E) (u : am_M), Rn m_C_soonest 25 [vR a, l1, l2, l3, l4] st E u = Rn m_C_soonest 26 [vR a, l1, l2, l3, l4] (vR a :: st) E u) ∧
  (∀ (l0 l1 l2 l3 l4 : am_V) (k : Nat) (st : List am_V) (E : am_E) (u : am_M) (hE : SE E) (hk : cuB k), Rn m_C_soonest 26 [l0, l1, l2, l3, l4] (vR (some k) :: st) E u = Rn m_C_soonest 29 [l0, l1, l2, l3, l4] (vR (some (k + 2)) :: st) E u) ∧
  (∀ (l0 l2 l3 l4 : am_V) (a : Int) (st : List am_V) (E : am_E) (u : am_M), Rn m_C_soonest 29 [l0, vI a, l2, l3, l4] st E u = Rn m_C_soonest 30 [l0, vI a, l2, l3, l4] (vI a :: st) E u) ∧
  (∀ (l0 l1 l2 l3 l4 : am_V) (a0 : Option Nat) (a1 : Int) (E : am_E) (u : am_M), Rn m_C_soonest 30 [l0, l1, l2, l3, l4] [vI a1, vR a0] E u = bdI (Rn m_A_look 0 [vR a0, vI a1] [] E u) (KI m_C_soonest 33 [l0, l1, l2, l3, l4] [])) ∧
  (∀ (l0 l1 l3 l4 : am_V) (a : Int) (st : List am_V) (E : am_E) (u : am_M), Rn m_C_soonest 33 [l0, l1, vI a, l3, l4] st E u = Rn m_C_soonest 34 [l0, l1, vI a, l3, l4] (vI a :: st) E u) ∧
  (∀ (l0 l1 l2 l3 l4 : am_V) (a b : Int) (st : List am_V) (E : am_E) (u : am_M), Rn m_C_soonest 34 [l0, l1, l2, l3, l4] (vI b :: vI a :: st) E u = if a = b then Rn m_C_soonest 37 [l0, l1, l2, l3, l4] st E u else Rn m_C_soonest 40 [l0, l1, l2, l3, l4] st E u) ∧
  (∀ (l0 l1 l2 l3 : am_V) (a : Int) (st : List am_V) (E : am_E) (u : am_M), Rn m_C_soonest 37 [l0, l1, l2, l3, vI a] st E u = Rn m_C_soonest 39 [l0, l1, l2, l3, vI a] (vI a :: st) E u) ∧
  (∀ (l0 l1 l2 l3 l4 : am_V) (a : Int) (E : am_E) (u : am_M), Rn m_C_soonest 39 [l0, l1, l2, l3, l4] [vI a] E u = some (some (vI a), E, u)) ∧
  (∀ (l1 l2 l3 l4 : am_V) (a : Option Nat) (st : List am_V) (E : am_E) (u : am_M), Rn m_C_soonest 40 [vR a, l1, l2, l3, l4] st E u = Rn m_C_soonest 41 [vR a, l1, l2, l3, l4] (vR a :: st) E u) ∧
  (∀ (l0 l1 l2 l3 l4 : am_V) (k : Nat) (E : am_E) (u : am_M) (hE : SE E) (hk : cuB k), Rn m_C_soonest 41 [l0, l1, l2, l3, l4] [vR (some k)] E u = bdV (Rn m_C_goesOn 0 [vR (some k), vB false] [] E u) (KV m_C_soonest 44 [l0, l1, l2, l3, l4] [])) ∧
  (∀ (l0 l1 l2 l3 : am_V) (a : Int) (st : List am_V) (E : am_E) (u : am_M), Rn m_C_soonest 44 [l0, l1, l2, l3, vI a] st E u = Rn m_C_soonest 47 [l0, l1, l2, am_fx l3, vI (w32 (a + 1))] st E u) ∧
  (∀ (l0 l1 l2 l3 l4 : am_V) (st : List am_V) (E : am_E) (u : am_M), Rn m_C_soonest 47 [l0, l1, l2, l3, l4] st E u = Rn m_C_soonest 19 [l0, l1, l2, l3, l4] st E u) ∧
  (∀ (l0 l1 l2 l3 l4 : am_V) (st : List am_V) (E : am_E) (u : am_M), Rn m_C_soonest 50 [l0, l1, l2, l3, l4] st E u = Rn m_C_soonest 52 [l0, l1, l2, l3, l4] (vI (-4) :: st) E u) ∧
  (∀ (l0 l1 l2 l3 l4 : am_V) (a : Int) (E : am_E) (u : am_M), Rn m_C_soonest 52 [l0, l1, l2, l3, l4] [vI a] E u = some (some (vI a), E, u)) :=
  ⟨fun l1 l2 l3 l4 a st E u => q_go (by decide +kernel : am_Pg 140 0 = some (.aload_n 0, 1, [], 0)) rfl,
  fun l0 l1 l2 l3 l4 k st E u hE hk => q_gfR (by decide +kernel : am_Pg 140 1 = some (.getfield 25, 3, [0, 14, 9, 0], 0)) (SE_k0 hE hk) rfl (SE_r0_9 hE hk),
  fun l0 l2 l3 l4 a st E u => q_go (by decide +kernel : am_Pg 140 4 = some (.iload_n 1, 1, [], 0)) rfl,
  fun l0 l1 l2 l3 l4 a0 a1  E u => q_cI (by decide +kernel : am_Pg 140 5 = some (.invokestatic 105, 3, [2, 36, 2, 1], 0)) (am_call_S (f := fun _ _ => true) (a := [vR a0, vI a1]) (st' := []) (Nat.le_of_ble_eq_true rfl) rfl rfl) (by decide +kernel : am_Lm m_A_look = 2) (Nat.le_of_ble_eq_true rfl) rfl (by decide +kernel),
  fun l0 l1 l2 l3 l4 st E u => q_go (by decide +kernel : am_Pg 140 8 = some (.bipush (-4), 2, [], 0)) rfl,
  fun l0 l1 l2 l3 l4 a b st E u => q_icmp_ne (tgt := 16) (by decide +kernel : am_Pg 140 10 = some (.if_icmp .ne 6, 3, [], 0)) (by decide),
  fun l0 l1 l2 l3 l4 st E u => q_go (by decide +kernel : am_Pg 140 13 = some (.bipush (-4), 2, [], 0)) rfl,
  fun l0 l1 l2 l3 l4 a E u => q_ret (by decide +kernel : am_Pg 140 15 = some (.ireturn, 1, [], 0)) rfl,
  fun l0 l1 l2 l3 l4 st E u => q_go (by decide +kernel : am_Pg 140 16 = some (.iconst 0, 1, [], 0)) rfl,
  fun l0 l1 l2 l3 l4 a st E u => q_go (by decide +kernel : am_Pg 140 17 = some (.istore 4, 2, [], 0)) rfl,
  fun l0 l1 l2 l4 a st E u => q_go (by decide +kernel : am_Pg 140 21 = some (.iload_n 3, 1, [], 0)) rfl,
  fun l0 l1 l2 l3 l4 a b st E u => q_icmp_gt (tgt := 50) (by decide +kernel : am_Pg 140 22 = some (.if_icmp .gt 28, 3, [], 0)) (by decide),
  fun l1 l2 l3 l4 a st E u => q_go (by decide +kernel : am_Pg 140 25 = some (.aload_n 0, 1, [], 0)) rfl,
  fun l0 l1 l2 l3 l4 k st E u hE hk => q_gfR (by decide +kernel : am_Pg 140 26 = some (.getfield 25, 3, [0, 14, 9, 0], 0)) (SE_k0 hE hk) rfl (SE_r0_9 hE hk),
  fun l0 l2 l3 l4 a st E u => q_go (by decide +kernel : am_Pg 140 29 = some (.iload_n 1, 1, [], 0)) rfl,
  fun l0 l1 l2 l3 l4 a0 a1  E u => q_cI (by decide +kernel : am_Pg 140 30 = some (.invokestatic 105, 3, [2, 36, 2, 1], 0)) (am_call_S (f := fun _ _ => true) (a := [vR a0, vI a1]) (st' := []) (Nat.le_of_ble_eq_true rfl) rfl rfl) (by decide +kernel : am_Lm m_A_look = 2) (Nat.le_of_ble_eq_true rfl) rfl (by decide +kernel),
  fun l0 l1 l3 l4 a st E u => q_go (by decide +kernel : am_Pg 140 33 = some (.iload_n 2, 1, [], 0)) rfl,
  fun l0 l1 l2 l3 l4 a b st E u => q_icmp_ne (tgt := 40) (by decide +kernel : am_Pg 140 34 = some (.if_icmp .ne 6, 3, [], 0)) (by decide),
  fun l0 l1 l2 l3 a st E u => q_go (by decide +kernel : am_Pg 140 37 = some (.iload 4, 2, [], 0)) rfl,
  fun l0 l1 l2 l3 l4 a E u => q_ret (by decide +kernel : am_Pg 140 39 = some (.ireturn, 1, [], 0)) rfl,
  fun l1 l2 l3 l4 a st E u => q_go (by decide +kernel : am_Pg 140 40 = some (.aload_n 0, 1, [], 0)) rfl,
  fun l0 l1 l2 l3 l4 k   E u hE hk => q_cV (by decide +kernel : am_Pg 140 41 = some (.invokevirtual 137, 3, [3, 107, 1, 0, 14, 0], 0)) (am_call_V (a := []) (st' := []) (Nat.le_of_ble_eq_true rfl) rfl (SE_k0 hE hk)) (by decide +kernel : am_Lm m_C_goesOn = 2) (Nat.le_of_ble_eq_true rfl) rfl (by decide +kernel),
  fun l0 l1 l2 l3 a st E u => q_go (by decide +kernel : am_Pg 140 44 = some (.iinc 4 1, 3, [], 0)) rfl,
  fun l0 l1 l2 l3 l4 st E u => q_go (by decide +kernel : am_Pg 140 47 = some (.goto (-28), 3, [], 0)) rfl,
  fun l0 l1 l2 l3 l4 st E u => q_go (by decide +kernel : am_Pg 140 50 = some (.bipush (-4), 2, [], 0)) rfl,
  fun l0 l1 l2 l3 l4 a E u => q_ret (by decide +kernel : am_Pg 140 52 = some (.ireturn, 1, [], 0)) rfl⟩
theorem h_C_soonestBeside_32 : ∀ (l0 l1 l2 l3 : am_V) (a : Int) (st : List am_V) (E : am_E) (u : am_M), Rn m_C_soonestBeside 32 [l0, l1, l2, l3, vI a] st E u = Rn m_C_soonestBeside 34 [l0, l1, l2, l3, vI a] (vI a :: st) E u :=
  fun l0 l1 l2 l3 a st E u => q_go (by decide +kernel : am_Pg 144 32 = some (.iload 4, 2, [], 0)) rfl
theorem x_C_soonestBeside :
  (∀ (l1 l2 l3 l4 : am_V) (a : Option Nat) (st : List am_V) (E : am_E) (u : am_M), Rn m_C_soonestBeside 0 [vR a, l1, l2, l3, l4] st E u = Rn m_C_soonestBeside 1 [vR a, l1, l2, l3, l4] (vR a :: st) E u) ∧
  (∀ (l0 l1 l2 l3 l4 : am_V) (k : Nat) (st : List am_V) (E : am_E) (u : am_M) (hE : SE E) (hk : cuB k), Rn m_C_soonestBeside 1 [l0, l1, l2, l3, l4] (vR (some k) :: st) E u = Rn m_C_soonestBeside 4 [l0, l1, l2, l3, l4] (vR (some (k + 2)) :: st) E u) ∧
  (∀ (l0 l2 l3 l4 : am_V) (a : Int) (st : List am_V) (E : am_E) (u : am_M), Rn m_C_soonestBeside 4 [l0, vI a, l2, l3, l4] st E u = Rn m_C_soonestBeside 5 [l0, vI a, l2, l3, l4] (vI a :: st) E u) ∧
  (∀ (l0 l1 l2 l3 l4 : am_V) (a0 : Option Nat) (a1 : Int) (E : am_E) (u : am_M), Rn m_C_soonestBeside 5 [l0, l1, l2, l3, l4] [vI a1, vR a0] E u = bdI (Rn m_A_look 0 [vR a0, vI a1] [] E u) (KI m_C_soonestBeside 8 [l0, l1, l2, l3, l4] [])) ∧
  (∀ (l0 l1 l2 l3 l4 : am_V) (st : List am_V) (E : am_E) (u : am_M), Rn m_C_soonestBeside 8 [l0, l1, l2, l3, l4] st E u = Rn m_C_soonestBeside 10 [l0, l1, l2, l3, l4] (vI (-4) :: st) E u) ∧
  (∀ (l0 l1 l2 l3 l4 : am_V) (a b : Int) (st : List am_V) (E : am_E) (u : am_M), Rn m_C_soonestBeside 10 [l0, l1, l2, l3, l4] (vI b :: vI a :: st) E u = if a = b then Rn m_C_soonestBeside 26 [l0, l1, l2, l3, l4] st E u else Rn m_C_soonestBeside 13 [l0, l1, l2, l3, l4] st E u) ∧
  (∀ (l1 l2 l3 l4 : am_V) (a : Option Nat) (st : List am_V) (E : am_E) (u : am_M), Rn m_C_soonestBeside 13 [vR a, l1, l2, l3, l4] st E u = Rn m_C_soonestBeside 14 [vR a, l1, l2, l3, l4] (vR a :: st) E u) ∧
  (∀ (l0 l1 l2 l3 l4 : am_V) (k : Nat) (st : List am_V) (E : am_E) (u : am_M) (hE : SE E) (hk : cuB k), Rn m_C_soonestBeside 14 [l0, l1, l2, l3, l4] (vR (some k) :: st) E u = Rn m_C_soonestBeside 17 [l0, l1, l2, l3, l4] (vR (some (k + 2)) :: st) E u) ∧
  (∀ (l0 l1 l3 l4 : am_V) (a : Int) (st : List am_V) (E : am_E) (u : am_M), Rn m_C_soonestBeside 17 [l0, l1, vI a, l3, l4] st E u = Rn m_C_soonestBeside 18 [l0, l1, vI a, l3, l4] (vI a :: st) E u) ∧
  (∀ (l0 l1 l2 l3 l4 : am_V) (a0 : Option Nat) (a1 : Int) (E : am_E) (u : am_M), Rn m_C_soonestBeside 18 [l0, l1, l2, l3, l4] [vI a1, vR a0] E u = bdI (Rn m_A_look 0 [vR a0, vI a1] [] E u) (KI m_C_soonestBeside 21 [l0, l1, l2, l3, l4] [])) ∧
  (∀ (l0 l1 l2 l3 l4 : am_V) (st : List am_V) (E : am_E) (u : am_M), Rn m_C_soonestBeside 21 [l0, l1, l2, l3, l4] st E u = Rn m_C_soonestBeside 23 [l0, l1, l2, l3, l4] (vI (-4) :: st) E u) ∧
  (∀ (l0 l1 l2 l3 l4 : am_V) (a b : Int) (st : List am_V) (E : am_E) (u : am_M), Rn m_C_soonestBeside 23 [l0, l1, l2, l3, l4] (vI b :: vI a :: st) E u = if a = b then Rn m_C_soonestBeside 26 [l0, l1, l2, l3, l4] st E u else Rn m_C_soonestBeside 29 [l0, l1, l2, l3, l4] st E u) ∧
  (∀ (l0 l1 l2 l3 l4 : am_V) (st : List am_V) (E : am_E) (u : am_M), Rn m_C_soonestBeside 26 [l0, l1, l2, l3, l4] st E u = Rn m_C_soonestBeside 28 [l0, l1, l2, l3, l4] (vI (-4) :: st) E u) ∧
  (∀ (l0 l1 l2 l3 l4 : am_V) (a : Int) (E : am_E) (u : am_M), Rn m_C_soonestBeside 28 [l0, l1, l2, l3, l4] [vI a] E u = some (some (vI a), E, u)) ∧
  (∀ (l0 l1 l2 l3 l4 : am_V) (st : List am_V) (E : am_E) (u : am_M), Rn m_C_soonestBeside 29 [l0, l1, l2, l3, l4] st E u = Rn m_C_soonestBeside 30 [l0, l1, l2, l3, l4] (vI 0 :: st) E u) ∧
  (∀ (l0 l1 l2 l3 l4 : am_V) (a : Int) (st : List am_V) (E : am_E) (u : am_M), Rn m_C_soonestBeside 30 [l0, l1, l2, l3, l4] (vI a :: st) E u = Rn m_C_soonestBeside 32 [l0, l1, l2, am_fx l3, vI a] st E u) ∧
  (∀ (l0 l1 l2 l4 : am_V) (a : Int) (st : List am_V) (E : am_E) (u : am_M), Rn m_C_soonestBeside 34 [l0, l1, l2, vI a, l4] st E u = Rn m_C_soonestBeside 35 [l0, l1, l2, vI a, l4] (vI a :: st) E u) ∧
  (∀ (l0 l1 l2 l3 l4 : am_V) (a b : Int) (st : List am_V) (E : am_E) (u : am_M), Rn m_C_soonestBeside 35 [l0, l1, l2, l3, l4] (vI b :: vI a :: st) E u = if b < a then Rn m_C_soonestBeside 75 [l0, l1, l2, l3, l4] st E u else Rn m_C_soonestBeside 38 [l0, l1, l2, l3, l4] st E u) ∧
  (∀ (l1 l2 l3 l4 : am_V) (a : Option Nat) (st : List am_V) (E : am_E) (u : am_M), Rn m_C_soonestBeside 38 [vR a, l1, l2, l3, l4] st E u = Rn m_C_soonestBeside 39 [vR a, l1, l2, l3, l4] (vR a :: st) E u) ∧
  (∀ (l1 l2 l3 l4 : am_V) (a : Option Nat) (st : List am_V) (E : am_E) (u : am_M), Rn m_C_soonestBeside 39 [vR a, l1, l2, l3, l4] st E u = Rn m_C_soonestBeside 40 [vR a, l1, l2, l3, l4] (vR a :: st) E u) ∧
  (∀ (l0 l1 l2 l3 l4 : am_V) (k : Nat) (st : List am_V) (E : am_E) (u : am_M) (hE : SE E) (hk : cuB k), Rn m_C_soonestBeside 40 [l0, l1, l2, l3, l4] (vR (some k) :: st) E u = Rn m_C_soonestBeside 43 [l0, l1, l2, l3, l4] (vR (some (k + 2)) :: st) E u) ∧
  (∀ (l0 l2 l3 l4 : am_V) (a : Int) (st : List am_V) (E : am_E) (u : am_M), Rn m_C_soonestBeside 43 [l0, vI a, l2, l3, l4] st E u = Rn m_C_soonestBeside 44 [l0, vI a, l2, l3, l4] (vI a :: st) E u) ∧
  (∀ (l0 l1 l2 l3 l4 : am_V) (a0 : Option Nat) (a1 : Int) (r0 : am_V) (E : am_E) (u : am_M), Rn m_C_soonestBeside 44 [l0, l1, l2, l3, l4] [vI a1, vR a0, r0] E u = bdI (Rn m_A_look 0 [vR a0, vI a1] [] E u) (KI m_C_soonestBeside 47 [l0, l1, l2, l3, l4] [r0])) ∧
  (∀ (l1 l2 l3 l4 : am_V) (a : Option Nat) (st : List am_V) (E : am_E) (u : am_M), Rn m_C_soonestBeside 47 [vR a, l1, l2, l3, l4] st E u = Rn m_C_soonestBeside 48 [vR a, l1, l2, l3, l4] (vR a :: st) E u) ∧
  (∀ (l0 l1 l2 l3 l4 : am_V) (k : Nat) (st : List am_V) (E : am_E) (u : am_M) (hE : SE E) (hk : cuB k), Rn m_C_soonestBeside 48 [l0, l1, l2, l3, l4] (vR (some k) :: st) E u = Rn m_C_soonestBeside 51 [l0, l1, l2, l3, l4] (vR (some (k + 2)) :: st) E u) ∧
  (∀ (l0 l1 l3 l4 : am_V) (a : Int) (st : List am_V) (E : am_E) (u : am_M), Rn m_C_soonestBeside 51 [l0, l1, vI a, l3, l4] st E u = Rn m_C_soonestBeside 52 [l0, l1, vI a, l3, l4] (vI a :: st) E u) ∧
  (∀ (l0 l1 l2 l3 l4 : am_V) (a0 : Option Nat) (a1 : Int) (r0 r1 : am_V) (E : am_E) (u : am_M), Rn m_C_soonestBeside 52 [l0, l1, l2, l3, l4] [vI a1, vR a0, r0, r1] E u = bdI (Rn m_A_look 0 [vR a0, vI a1] [] E u) (KI m_C_soonestBeside 55 [l0, l1, l2, l3, l4] [r0, r1])) ∧
  (∀ (l0 l1 l2 l3 l4 : am_V) (k : Nat) (a0 : Int) (a1 : Int) (E : am_E) (u : am_M) (hE : SE E) (hk : cuB k), Rn m_C_soonestBeside 55 [l0, l1, l2, l3, l4] [vI a1, vI a0, vR (some k)] E u = bdI (Rn m_C_far 0 [vR (some k), vI a0, vI a1, vB false, vB false, vB false] [] E u) (KI m_C_soonestBeside 58 [l0, l1, l2, l3, l4] [])) ∧
  (∀ (l0 l1 l2 l3 l4 : am_V) (st : List am_V) (E : am_E) (u : am_M), Rn m_C_soonestBeside 58 [l0, l1, l2, l3, l4] st E u = Rn m_C_soonestBeside 59 [l0, l1, l2, l3, l4] (vI 1 :: st) E u) ∧
  (∀ (l0 l1 l2 l3 l4 : am_V) (a b : Int) (st : List am_V) (E : am_E) (u : am_M), Rn m_C_soonestBeside 59 [l0, l1, l2, l3, l4] (vI b :: vI a :: st) E u = if a = b then Rn m_C_soonestBeside 62 [l0, l1, l2, l3, l4] st E u else Rn m_C_soonestBeside 65 [l0, l1, l2, l3, l4] st E u) ∧
  (∀ (l0 l1 l2 l3 : am_V) (a : Int) (st : List am_V) (E : am_E) (u : am_M), Rn m_C_soonestBeside 62 [l0, l1, l2, l3, vI a] st E u = Rn m_C_soonestBeside 64 [l0, l1, l2, l3, vI a] (vI a :: st) E u) ∧
  (∀ (l0 l1 l2 l3 l4 : am_V) (a : Int) (E : am_E) (u : am_M), Rn m_C_soonestBeside 64 [l0, l1, l2, l3, l4] [vI a] E u = some (some (vI a), E, u)) ∧
  (∀ (l1 l2 l3 l4 : am_V) (a : Option Nat) (st : List am_V) (E : am_E) (u : am_M), Rn m_C_soonestBeside 65 [vR a, l1, l2, l3, l4] st E u = Rn m_C_soonestBeside 66 [vR a, l1, l2, l3, l4] (vR a :: st) E u) ∧
  (∀ (l0 l1 l2 l3 l4 : am_V) (k : Nat) (E : am_E) (u : am_M) (hE : SE E) (hk : cuB k), Rn m_C_soonestBeside 66 [l0, l1, l2, l3, l4] [vR (some k)] E u = bdV (Rn m_C_goesOn 0 [vR (some k), vB false] [] E u) (KV m_C_soonestBeside 69 [l0, l1, l2, l3, l4] [])) ∧
  (∀ (l0 l1 l2 l3 : am_V) (a : Int) (st : List am_V) (E : am_E) (u : am_M), Rn m_C_soonestBeside 69 [l0, l1, l2, l3, vI a] st E u = Rn m_C_soonestBeside 72 [l0, l1, l2, am_fx l3, vI (w32 (a + 1))] st E u) ∧
  (∀ (l0 l1 l2 l3 l4 : am_V) (st : List am_V) (E : am_E) (u : am_M), Rn m_C_soonestBeside 72 [l0, l1, l2, l3, l4] st E u = Rn m_C_soonestBeside 32 [l0, l1, l2, l3, l4] st E u) ∧
  (∀ (l0 l1 l2 l3 l4 : am_V) (st : List am_V) (E : am_E) (u : am_M), Rn m_C_soonestBeside 75 [l0, l1, l2, l3, l4] st E u = Rn m_C_soonestBeside 77 [l0, l1, l2, l3, l4] (vI (-4) :: st) E u) ∧
  (∀ (l0 l1 l2 l3 l4 : am_V) (a : Int) (E : am_E) (u : am_M), Rn m_C_soonestBeside 77 [l0, l1, l2, l3, l4] [vI a] E u = some (some (vI a), E, u)) :=
  ⟨fun l1 l2 l3 l4 a st E u => q_go (by decide +kernel : am_Pg 144 0 = some (.aload_n 0, 1, [], 0)) rfl,
  fun l0 l1 l2 l3 l4 k st E u hE hk => q_gfR (by decide +kernel : am_Pg 144 1 = some (.getfield 25, 3, [0, 14, 9, 0], 0)) (SE_k0 hE hk) rfl (SE_r0_9 hE hk),
  fun l0 l2 l3 l4 a st E u => q_go (by decide +kernel : am_Pg 144 4 = some (.iload_n 1, 1, [], 0)) rfl,
  fun l0 l1 l2 l3 l4 a0 a1  E u => q_cI (by decide +kernel : am_Pg 144 5 = some (.invokestatic 105, 3, [2, 36, 2, 1], 0)) (am_call_S (f := fun _ _ => true) (a := [vR a0, vI a1]) (st' := []) (Nat.le_of_ble_eq_true rfl) rfl rfl) (by decide +kernel : am_Lm m_A_look = 2) (Nat.le_of_ble_eq_true rfl) rfl (by decide +kernel),
  fun l0 l1 l2 l3 l4 st E u => q_go (by decide +kernel : am_Pg 144 8 = some (.bipush (-4), 2, [], 0)) rfl,
  fun l0 l1 l2 l3 l4 a b st E u => q_icmp_eq (tgt := 26) (by decide +kernel : am_Pg 144 10 = some (.if_icmp .eq 16, 3, [], 0)) (by decide),
  fun l1 l2 l3 l4 a st E u => q_go (by decide +kernel : am_Pg 144 13 = some (.aload_n 0, 1, [], 0)) rfl,
  fun l0 l1 l2 l3 l4 k st E u hE hk => q_gfR (by decide +kernel : am_Pg 144 14 = some (.getfield 25, 3, [0, 14, 9, 0], 0)) (SE_k0 hE hk) rfl (SE_r0_9 hE hk),
  fun l0 l1 l3 l4 a st E u => q_go (by decide +kernel : am_Pg 144 17 = some (.iload_n 2, 1, [], 0)) rfl,
  fun l0 l1 l2 l3 l4 a0 a1  E u => q_cI (by decide +kernel : am_Pg 144 18 = some (.invokestatic 105, 3, [2, 36, 2, 1], 0)) (am_call_S (f := fun _ _ => true) (a := [vR a0, vI a1]) (st' := []) (Nat.le_of_ble_eq_true rfl) rfl rfl) (by decide +kernel : am_Lm m_A_look = 2) (Nat.le_of_ble_eq_true rfl) rfl (by decide +kernel),
  fun l0 l1 l2 l3 l4 st E u => q_go (by decide +kernel : am_Pg 144 21 = some (.bipush (-4), 2, [], 0)) rfl,
  fun l0 l1 l2 l3 l4 a b st E u => q_icmp_ne (tgt := 29) (by decide +kernel : am_Pg 144 23 = some (.if_icmp .ne 6, 3, [], 0)) (by decide),
  fun l0 l1 l2 l3 l4 st E u => q_go (by decide +kernel : am_Pg 144 26 = some (.bipush (-4), 2, [], 0)) rfl,
  fun l0 l1 l2 l3 l4 a E u => q_ret (by decide +kernel : am_Pg 144 28 = some (.ireturn, 1, [], 0)) rfl,
  fun l0 l1 l2 l3 l4 st E u => q_go (by decide +kernel : am_Pg 144 29 = some (.iconst 0, 1, [], 0)) rfl,
  fun l0 l1 l2 l3 l4 a st E u => q_go (by decide +kernel : am_Pg 144 30 = some (.istore 4, 2, [], 0)) rfl,
  fun l0 l1 l2 l4 a st E u => q_go (by decide +kernel : am_Pg 144 34 = some (.iload_n 3, 1, [], 0)) rfl,
  fun l0 l1 l2 l3 l4 a b st E u => q_icmp_gt (tgt := 75) (by decide +kernel : am_Pg 144 35 = some (.if_icmp .gt 40, 3, [], 0)) (by decide),
  fun l1 l2 l3 l4 a st E u => q_go (by decide +kernel : am_Pg 144 38 = some (.aload_n 0, 1, [], 0)) rfl,
  fun l1 l2 l3 l4 a st E u => q_go (by decide +kernel : am_Pg 144 39 = some (.aload_n 0, 1, [], 0)) rfl,
  fun l0 l1 l2 l3 l4 k st E u hE hk => q_gfR (by decide +kernel : am_Pg 144 40 = some (.getfield 25, 3, [0, 14, 9, 0], 0)) (SE_k0 hE hk) rfl (SE_r0_9 hE hk),
  fun l0 l2 l3 l4 a st E u => q_go (by decide +kernel : am_Pg 144 43 = some (.iload_n 1, 1, [], 0)) rfl,
  fun l0 l1 l2 l3 l4 a0 a1 r0 E u => q_cI (by decide +kernel : am_Pg 144 44 = some (.invokestatic 105, 3, [2, 36, 2, 1], 0)) (am_call_S (f := fun _ _ => true) (a := [vR a0, vI a1]) (st' := [r0]) (Nat.le_of_ble_eq_true rfl) rfl rfl) (by decide +kernel : am_Lm m_A_look = 2) (Nat.le_of_ble_eq_true rfl) rfl (by decide +kernel),
  fun l1 l2 l3 l4 a st E u => q_go (by decide +kernel : am_Pg 144 47 = some (.aload_n 0, 1, [], 0)) rfl,
  fun l0 l1 l2 l3 l4 k st E u hE hk => q_gfR (by decide +kernel : am_Pg 144 48 = some (.getfield 25, 3, [0, 14, 9, 0], 0)) (SE_k0 hE hk) rfl (SE_r0_9 hE hk),
  fun l0 l1 l3 l4 a st E u => q_go (by decide +kernel : am_Pg 144 51 = some (.iload_n 2, 1, [], 0)) rfl,
  fun l0 l1 l2 l3 l4 a0 a1 r0 r1 E u => q_cI (by decide +kernel : am_Pg 144 52 = some (.invokestatic 105, 3, [2, 36, 2, 1], 0)) (am_call_S (f := fun _ _ => true) (a := [vR a0, vI a1]) (st' := [r0, r1]) (Nat.le_of_ble_eq_true rfl) rfl rfl) (by decide +kernel : am_Lm m_A_look = 2) (Nat.le_of_ble_eq_true rfl) rfl (by decide +kernel),
  fun l0 l1 l2 l3 l4 k a0 a1  E u hE hk => q_cI (by decide +kernel : am_Pg 144 55 = some (.invokevirtual 95, 3, [3, 40, 3, 0, 14, 0], 0)) (am_call_V (a := [vI a0, vI a1]) (st' := []) (Nat.le_of_ble_eq_true rfl) rfl (SE_k0 hE hk)) (by decide +kernel : am_Lm m_C_far = 6) (Nat.le_of_ble_eq_true rfl) rfl (by decide +kernel),
  fun l0 l1 l2 l3 l4 st E u => q_go (by decide +kernel : am_Pg 144 58 = some (.iconst 1, 1, [], 0)) rfl,
  fun l0 l1 l2 l3 l4 a b st E u => q_icmp_ne (tgt := 65) (by decide +kernel : am_Pg 144 59 = some (.if_icmp .ne 6, 3, [], 0)) (by decide),
  fun l0 l1 l2 l3 a st E u => q_go (by decide +kernel : am_Pg 144 62 = some (.iload 4, 2, [], 0)) rfl,
  fun l0 l1 l2 l3 l4 a E u => q_ret (by decide +kernel : am_Pg 144 64 = some (.ireturn, 1, [], 0)) rfl,
  fun l1 l2 l3 l4 a st E u => q_go (by decide +kernel : am_Pg 144 65 = some (.aload_n 0, 1, [], 0)) rfl,
  fun l0 l1 l2 l3 l4 k   E u hE hk => q_cV (by decide +kernel : am_Pg 144 66 = some (.invokevirtual 137, 3, [3, 107, 1, 0, 14, 0], 0)) (am_call_V (a := []) (st' := []) (Nat.le_of_ble_eq_true rfl) rfl (SE_k0 hE hk)) (by decide +kernel : am_Lm m_C_goesOn = 2) (Nat.le_of_ble_eq_true rfl) rfl (by decide +kernel),
  fun l0 l1 l2 l3 a st E u => q_go (by decide +kernel : am_Pg 144 69 = some (.iinc 4 1, 3, [], 0)) rfl,
  fun l0 l1 l2 l3 l4 st E u => q_go (by decide +kernel : am_Pg 144 72 = some (.goto (-40), 3, [], 0)) rfl,
  fun l0 l1 l2 l3 l4 st E u => q_go (by decide +kernel : am_Pg 144 75 = some (.bipush (-4), 2, [], 0)) rfl,
  fun l0 l1 l2 l3 l4 a E u => q_ret (by decide +kernel : am_Pg 144 77 = some (.ireturn, 1, [], 0)) rfl⟩
theorem x_C_uncutSet :
  (∀ (l0 : am_V) (st : List am_V) (E : am_E) (u : am_M), Rn m_C_uncutSet 0 [l0] st E u = Rn m_C_uncutSet 1 [l0] (vI 1 :: st) E u) ∧
  (∀ (a : Option Nat) (st : List am_V) (E : am_E) (u : am_M), Rn m_C_uncutSet 1 [vR a] st E u = Rn m_C_uncutSet 2 [vR a] (vR a :: st) E u) ∧
  (∀ (l0 : am_V) (k : Nat) (st : List am_V) (E : am_E) (u : am_M) (hE : SE E) (hk : cuB k), Rn m_C_uncutSet 2 [l0] (vR (some k) :: st) E u = Rn m_C_uncutSet 5 [l0] (vI (u k 3) :: st) E u) ∧
  (∀ (l0 : am_V) (a b : Int) (st : List am_V) (E : am_E) (u : am_M), Rn m_C_uncutSet 5 [l0] (vI b :: vI a :: st) E u = Rn m_C_uncutSet 6 [l0] (vI (i_shl a b) :: st) E u) ∧
  (∀ (l0 : am_V) (st : List am_V) (E : am_E) (u : am_M), Rn m_C_uncutSet 6 [l0] st E u = Rn m_C_uncutSet 7 [l0] (vI 1 :: st) E u) ∧
  (∀ (l0 : am_V) (a b : Int) (st : List am_V) (E : am_E) (u : am_M), Rn m_C_uncutSet 7 [l0] (vI b :: vI a :: st) E u = Rn m_C_uncutSet 8 [l0] (vI (w32 (a - b)) :: st) E u) ∧
  (∀ (a : Option Nat) (st : List am_V) (E : am_E) (u : am_M), Rn m_C_uncutSet 8 [vR a] st E u = Rn m_C_uncutSet 9 [vR a] (vR a :: st) E u) ∧
  (∀ (l0 : am_V) (k : Nat) (st : List am_V) (E : am_E) (u : am_M) (hE : SE E) (hk : cuB k), Rn m_C_uncutSet 9 [l0] (vR (some k) :: st) E u = Rn m_C_uncutSet 12 [l0] (vI (u k 6) :: st) E u) ∧
  (∀ (l0 : am_V) (st : List am_V) (E : am_E) (u : am_M), Rn m_C_uncutSet 12 [l0] st E u = Rn m_C_uncutSet 13 [l0] (vI (-1) :: st) E u) ∧
  (∀ (l0 : am_V) (a b : Int) (st : List am_V) (E : am_E) (u : am_M), Rn m_C_uncutSet 13 [l0] (vI b :: vI a :: st) E u = Rn m_C_uncutSet 14 [l0] (vI (i_xor a b) :: st) E u) ∧
  (∀ (l0 : am_V) (a b : Int) (st : List am_V) (E : am_E) (u : am_M), Rn m_C_uncutSet 14 [l0] (vI b :: vI a :: st) E u = Rn m_C_uncutSet 15 [l0] (vI (i_and a b) :: st) E u) ∧
  (∀ (l0 : am_V) (a : Int) (E : am_E) (u : am_M), Rn m_C_uncutSet 15 [l0] [vI a] E u = some (some (vI a), E, u)) :=
  ⟨fun l0 st E u => q_go (by decide +kernel : am_Pg 150 0 = some (.iconst 1, 1, [], 0)) rfl,
  fun a st E u => q_go (by decide +kernel : am_Pg 150 1 = some (.aload_n 0, 1, [], 0)) rfl,
  fun l0 k st E u hE hk => q_gfI (by decide +kernel : am_Pg 150 2 = some (.getfield 49, 3, [0, 14, 3, 0], 0)) (SE_k0 hE hk) (by decide),
  fun l0 a b st E u => q_go (by decide +kernel : am_Pg 150 5 = some (.ishl, 1, [], 0)) rfl,
  fun l0 st E u => q_go (by decide +kernel : am_Pg 150 6 = some (.iconst 1, 1, [], 0)) rfl,
  fun l0 a b st E u => q_go (by decide +kernel : am_Pg 150 7 = some (.isub, 1, [], 0)) rfl,
  fun a st E u => q_go (by decide +kernel : am_Pg 150 8 = some (.aload_n 0, 1, [], 0)) rfl,
  fun l0 k st E u hE hk => q_gfI (by decide +kernel : am_Pg 150 9 = some (.getfield 55, 3, [0, 14, 6, 0], 0)) (SE_k0 hE hk) (by decide),
  fun l0 st E u => q_go (by decide +kernel : am_Pg 150 12 = some (.iconst (-1), 1, [], 0)) rfl,
  fun l0 a b st E u => q_go (by decide +kernel : am_Pg 150 13 = some (.ixor, 1, [], 0)) rfl,
  fun l0 a b st E u => q_go (by decide +kernel : am_Pg 150 14 = some (.iand, 1, [], 0)) rfl,
  fun l0 a E u => q_ret (by decide +kernel : am_Pg 150 15 = some (.ireturn, 1, [], 0)) rfl⟩
theorem x_J_bitI :
  (∀ (a : Int) (st : List am_V) (E : am_E) (u : am_M), Rn m_J_bitI 0 [vI a] st E u = Rn m_J_bitI 1 [vI a] (vI a :: st) E u) ∧
  (∀ (a : Int) (st : List am_V) (E : am_E) (u : am_M), Rn m_J_bitI 1 [vI a] st E u = Rn m_J_bitI 2 [vI a] (vI a :: st) E u) ∧
  (∀ (l0 : am_V) (st : List am_V) (E : am_E) (u : am_M), Rn m_J_bitI 2 [l0] st E u = Rn m_J_bitI 3 [l0] (vI 1 :: st) E u) ∧
  (∀ (l0 : am_V) (a b : Int) (st : List am_V) (E : am_E) (u : am_M), Rn m_J_bitI 3 [l0] (vI b :: vI a :: st) E u = Rn m_J_bitI 4 [l0] (vI (i_ush a b) :: st) E u) ∧
  (∀ (l0 : am_V) (st : List am_V) (E : am_E) (u : am_M), Rn m_J_bitI 4 [l0] st E u = Rn m_J_bitI 7 [l0] (vI 1431655765 :: st) E u) ∧
  (∀ (l0 : am_V) (a b : Int) (st : List am_V) (E : am_E) (u : am_M), Rn m_J_bitI 7 [l0] (vI b :: vI a :: st) E u = Rn m_J_bitI 8 [l0] (vI (i_and a b) :: st) E u) ∧
  (∀ (l0 : am_V) (a b : Int) (st : List am_V) (E : am_E) (u : am_M), Rn m_J_bitI 8 [l0] (vI b :: vI a :: st) E u = Rn m_J_bitI 9 [l0] (vI (w32 (a - b)) :: st) E u) ∧
  (∀ (l0 : am_V) (a : Int) (st : List am_V) (E : am_E) (u : am_M), Rn m_J_bitI 9 [l0] (vI a :: st) E u = Rn m_J_bitI 10 [vI a] st E u) ∧
  (∀ (a : Int) (st : List am_V) (E : am_E) (u : am_M), Rn m_J_bitI 10 [vI a] st E u = Rn m_J_bitI 11 [vI a] (vI a :: st) E u) ∧
  (∀ (l0 : am_V) (st : List am_V) (E : am_E) (u : am_M), Rn m_J_bitI 11 [l0] st E u = Rn m_J_bitI 14 [l0] (vI 858993459 :: st) E u) ∧
  (∀ (l0 : am_V) (a b : Int) (st : List am_V) (E : am_E) (u : am_M), Rn m_J_bitI 14 [l0] (vI b :: vI a :: st) E u = Rn m_J_bitI 15 [l0] (vI (i_and a b) :: st) E u) ∧
  (∀ (a : Int) (st : List am_V) (E : am_E) (u : am_M), Rn m_J_bitI 15 [vI a] st E u = Rn m_J_bitI 16 [vI a] (vI a :: st) E u) ∧
  (∀ (l0 : am_V) (st : List am_V) (E : am_E) (u : am_M), Rn m_J_bitI 16 [l0] st E u = Rn m_J_bitI 17 [l0] (vI 2 :: st) E u) ∧
  (∀ (l0 : am_V) (a b : Int) (st : List am_V) (E : am_E) (u : am_M), Rn m_J_bitI 17 [l0] (vI b :: vI a :: st) E u = Rn m_J_bitI 18 [l0] (vI (i_ush a b) :: st) E u) ∧
  (∀ (l0 : am_V) (st : List am_V) (E : am_E) (u : am_M), Rn m_J_bitI 18 [l0] st E u = Rn m_J_bitI 21 [l0] (vI 858993459 :: st) E u) ∧
  (∀ (l0 : am_V) (a b : Int) (st : List am_V) (E : am_E) (u : am_M), Rn m_J_bitI 21 [l0] (vI b :: vI a :: st) E u = Rn m_J_bitI 22 [l0] (vI (i_and a b) :: st) E u) ∧
  (∀ (l0 : am_V) (a b : Int) (st : List am_V) (E : am_E) (u : am_M), Rn m_J_bitI 22 [l0] (vI b :: vI a :: st) E u = Rn m_J_bitI 23 [l0] (vI (w32 (a + b)) :: st) E u) ∧
  (∀ (l0 : am_V) (a : Int) (st : List am_V) (E : am_E) (u : am_M), Rn m_J_bitI 23 [l0] (vI a :: st) E u = Rn m_J_bitI 24 [vI a] st E u) ∧
  (∀ (a : Int) (st : List am_V) (E : am_E) (u : am_M), Rn m_J_bitI 24 [vI a] st E u = Rn m_J_bitI 25 [vI a] (vI a :: st) E u) ∧
  (∀ (a : Int) (st : List am_V) (E : am_E) (u : am_M), Rn m_J_bitI 25 [vI a] st E u = Rn m_J_bitI 26 [vI a] (vI a :: st) E u) ∧
  (∀ (l0 : am_V) (st : List am_V) (E : am_E) (u : am_M), Rn m_J_bitI 26 [l0] st E u = Rn m_J_bitI 27 [l0] (vI 4 :: st) E u) ∧
  (∀ (l0 : am_V) (a b : Int) (st : List am_V) (E : am_E) (u : am_M), Rn m_J_bitI 27 [l0] (vI b :: vI a :: st) E u = Rn m_J_bitI 28 [l0] (vI (i_ush a b) :: st) E u) ∧
  (∀ (l0 : am_V) (a b : Int) (st : List am_V) (E : am_E) (u : am_M), Rn m_J_bitI 28 [l0] (vI b :: vI a :: st) E u = Rn m_J_bitI 29 [l0] (vI (w32 (a + b)) :: st) E u) ∧
  (∀ (l0 : am_V) (st : List am_V) (E : am_E) (u : am_M), Rn m_J_bitI 29 [l0] st E u = Rn m_J_bitI 32 [l0] (vI 252645135 :: st) E u) ∧
  (∀ (l0 : am_V) (a b : Int) (st : List am_V) (E : am_E) (u : am_M), Rn m_J_bitI 32 [l0] (vI b :: vI a :: st) E u = Rn m_J_bitI 33 [l0] (vI (i_and a b) :: st) E u) ∧
  (∀ (l0 : am_V) (a : Int) (st : List am_V) (E : am_E) (u : am_M), Rn m_J_bitI 33 [l0] (vI a :: st) E u = Rn m_J_bitI 34 [vI a] st E u) ∧
  (∀ (a : Int) (st : List am_V) (E : am_E) (u : am_M), Rn m_J_bitI 34 [vI a] st E u = Rn m_J_bitI 35 [vI a] (vI a :: st) E u) ∧
  (∀ (a : Int) (st : List am_V) (E : am_E) (u : am_M), Rn m_J_bitI 35 [vI a] st E u = Rn m_J_bitI 36 [vI a] (vI a :: st) E u) ∧
  (∀ (l0 : am_V) (st : List am_V) (E : am_E) (u : am_M), Rn m_J_bitI 36 [l0] st E u = Rn m_J_bitI 38 [l0] (vI 8 :: st) E u) ∧
  (∀ (l0 : am_V) (a b : Int) (st : List am_V) (E : am_E) (u : am_M), Rn m_J_bitI 38 [l0] (vI b :: vI a :: st) E u = Rn m_J_bitI 39 [l0] (vI (i_ush a b) :: st) E u) ∧
  (∀ (l0 : am_V) (a b : Int) (st : List am_V) (E : am_E) (u : am_M), Rn m_J_bitI 39 [l0] (vI b :: vI a :: st) E u = Rn m_J_bitI 40 [l0] (vI (w32 (a + b)) :: st) E u) ∧
  (∀ (l0 : am_V) (a : Int) (st : List am_V) (E : am_E) (u : am_M), Rn m_J_bitI 40 [l0] (vI a :: st) E u = Rn m_J_bitI 41 [vI a] st E u) ∧
  (∀ (a : Int) (st : List am_V) (E : am_E) (u : am_M), Rn m_J_bitI 41 [vI a] st E u = Rn m_J_bitI 42 [vI a] (vI a :: st) E u) ∧
  (∀ (a : Int) (st : List am_V) (E : am_E) (u : am_M), Rn m_J_bitI 42 [vI a] st E u = Rn m_J_bitI 43 [vI a] (vI a :: st) E u) ∧
  (∀ (l0 : am_V) (st : List am_V) (E : am_E) (u : am_M), Rn m_J_bitI 43 [l0] st E u = Rn m_J_bitI 45 [l0] (vI 16 :: st) E u) ∧
  (∀ (l0 : am_V) (a b : Int) (st : List am_V) (E : am_E) (u : am_M), Rn m_J_bitI 45 [l0] (vI b :: vI a :: st) E u = Rn m_J_bitI 46 [l0] (vI (i_ush a b) :: st) E u) ∧
  (∀ (l0 : am_V) (a b : Int) (st : List am_V) (E : am_E) (u : am_M), Rn m_J_bitI 46 [l0] (vI b :: vI a :: st) E u = Rn m_J_bitI 47 [l0] (vI (w32 (a + b)) :: st) E u) ∧
  (∀ (l0 : am_V) (a : Int) (st : List am_V) (E : am_E) (u : am_M), Rn m_J_bitI 47 [l0] (vI a :: st) E u = Rn m_J_bitI 48 [vI a] st E u) ∧
  (∀ (a : Int) (st : List am_V) (E : am_E) (u : am_M), Rn m_J_bitI 48 [vI a] st E u = Rn m_J_bitI 49 [vI a] (vI a :: st) E u) ∧
  (∀ (l0 : am_V) (st : List am_V) (E : am_E) (u : am_M), Rn m_J_bitI 49 [l0] st E u = Rn m_J_bitI 51 [l0] (vI 63 :: st) E u) ∧
  (∀ (l0 : am_V) (a b : Int) (st : List am_V) (E : am_E) (u : am_M), Rn m_J_bitI 51 [l0] (vI b :: vI a :: st) E u = Rn m_J_bitI 52 [l0] (vI (i_and a b) :: st) E u) ∧
  (∀ (l0 : am_V) (a : Int) (E : am_E) (u : am_M), Rn m_J_bitI 52 [l0] [vI a] E u = some (some (vI a), E, u)) :=
  ⟨fun a st E u => q_go (by decide +kernel : am_Pg 151 0 = some (.iload_n 0, 1, [], 0)) rfl,
  fun a st E u => q_go (by decide +kernel : am_Pg 151 1 = some (.iload_n 0, 1, [], 0)) rfl,
  fun l0 st E u => q_go (by decide +kernel : am_Pg 151 2 = some (.iconst 1, 1, [], 0)) rfl,
  fun l0 a b st E u => q_go (by decide +kernel : am_Pg 151 3 = some (.iushr, 1, [], 0)) rfl,
  fun l0 st E u => q_go (by decide +kernel : am_Pg 151 4 = some (.ldc_w 265, 3, [], 1431655765)) rfl,
  fun l0 a b st E u => q_go (by decide +kernel : am_Pg 151 7 = some (.iand, 1, [], 0)) rfl,
  fun l0 a b st E u => q_go (by decide +kernel : am_Pg 151 8 = some (.isub, 1, [], 0)) rfl,
  fun l0 a st E u => q_go (by decide +kernel : am_Pg 151 9 = some (.istore_n 0, 1, [], 0)) rfl,
  fun a st E u => q_go (by decide +kernel : am_Pg 151 10 = some (.iload_n 0, 1, [], 0)) rfl,
  fun l0 st E u => q_go (by decide +kernel : am_Pg 151 11 = some (.ldc_w 266, 3, [], 858993459)) rfl,
  fun l0 a b st E u => q_go (by decide +kernel : am_Pg 151 14 = some (.iand, 1, [], 0)) rfl,
  fun a st E u => q_go (by decide +kernel : am_Pg 151 15 = some (.iload_n 0, 1, [], 0)) rfl,
  fun l0 st E u => q_go (by decide +kernel : am_Pg 151 16 = some (.iconst 2, 1, [], 0)) rfl,
  fun l0 a b st E u => q_go (by decide +kernel : am_Pg 151 17 = some (.iushr, 1, [], 0)) rfl,
  fun l0 st E u => q_go (by decide +kernel : am_Pg 151 18 = some (.ldc_w 266, 3, [], 858993459)) rfl,
  fun l0 a b st E u => q_go (by decide +kernel : am_Pg 151 21 = some (.iand, 1, [], 0)) rfl,
  fun l0 a b st E u => q_go (by decide +kernel : am_Pg 151 22 = some (.iadd, 1, [], 0)) rfl,
  fun l0 a st E u => q_go (by decide +kernel : am_Pg 151 23 = some (.istore_n 0, 1, [], 0)) rfl,
  fun a st E u => q_go (by decide +kernel : am_Pg 151 24 = some (.iload_n 0, 1, [], 0)) rfl,
  fun a st E u => q_go (by decide +kernel : am_Pg 151 25 = some (.iload_n 0, 1, [], 0)) rfl,
  fun l0 st E u => q_go (by decide +kernel : am_Pg 151 26 = some (.iconst 4, 1, [], 0)) rfl,
  fun l0 a b st E u => q_go (by decide +kernel : am_Pg 151 27 = some (.iushr, 1, [], 0)) rfl,
  fun l0 a b st E u => q_go (by decide +kernel : am_Pg 151 28 = some (.iadd, 1, [], 0)) rfl,
  fun l0 st E u => q_go (by decide +kernel : am_Pg 151 29 = some (.ldc_w 267, 3, [], 252645135)) rfl,
  fun l0 a b st E u => q_go (by decide +kernel : am_Pg 151 32 = some (.iand, 1, [], 0)) rfl,
  fun l0 a st E u => q_go (by decide +kernel : am_Pg 151 33 = some (.istore_n 0, 1, [], 0)) rfl,
  fun a st E u => q_go (by decide +kernel : am_Pg 151 34 = some (.iload_n 0, 1, [], 0)) rfl,
  fun a st E u => q_go (by decide +kernel : am_Pg 151 35 = some (.iload_n 0, 1, [], 0)) rfl,
  fun l0 st E u => q_go (by decide +kernel : am_Pg 151 36 = some (.bipush 8, 2, [], 0)) rfl,
  fun l0 a b st E u => q_go (by decide +kernel : am_Pg 151 38 = some (.iushr, 1, [], 0)) rfl,
  fun l0 a b st E u => q_go (by decide +kernel : am_Pg 151 39 = some (.iadd, 1, [], 0)) rfl,
  fun l0 a st E u => q_go (by decide +kernel : am_Pg 151 40 = some (.istore_n 0, 1, [], 0)) rfl,
  fun a st E u => q_go (by decide +kernel : am_Pg 151 41 = some (.iload_n 0, 1, [], 0)) rfl,
  fun a st E u => q_go (by decide +kernel : am_Pg 151 42 = some (.iload_n 0, 1, [], 0)) rfl,
  fun l0 st E u => q_go (by decide +kernel : am_Pg 151 43 = some (.bipush 16, 2, [], 0)) rfl,
  fun l0 a b st E u => q_go (by decide +kernel : am_Pg 151 45 = some (.iushr, 1, [], 0)) rfl,
  fun l0 a b st E u => q_go (by decide +kernel : am_Pg 151 46 = some (.iadd, 1, [], 0)) rfl,
  fun l0 a st E u => q_go (by decide +kernel : am_Pg 151 47 = some (.istore_n 0, 1, [], 0)) rfl,
  fun a st E u => q_go (by decide +kernel : am_Pg 151 48 = some (.iload_n 0, 1, [], 0)) rfl,
  fun l0 st E u => q_go (by decide +kernel : am_Pg 151 49 = some (.bipush 63, 2, [], 0)) rfl,
  fun l0 a b st E u => q_go (by decide +kernel : am_Pg 151 51 = some (.iand, 1, [], 0)) rfl,
  fun l0 a E u => q_ret (by decide +kernel : am_Pg 151 52 = some (.ireturn, 1, [], 0)) rfl⟩
theorem x_C_becomesCut :
  (∀ (l1 l2 : am_V) (a : Option Nat) (st : List am_V) (E : am_E) (u : am_M), Rn m_C_becomesCut 0 [vR a, l1, l2] st E u = Rn m_C_becomesCut 1 [vR a, l1, l2] (vR a :: st) E u) ∧
  (∀ (l0 l2 : am_V) (a : Option Nat) (st : List am_V) (E : am_E) (u : am_M), Rn m_C_becomesCut 1 [l0, vR a, l2] st E u = Rn m_C_becomesCut 2 [l0, vR a, l2] (vR a :: st) E u) ∧
  (∀ (l0 l1 l2 : am_V) (k : Nat) (a0 : Option Nat) (E : am_E) (u : am_M) (hE : SE E) (hk : cuB k), Rn m_C_becomesCut 2 [l0, l1, l2] [vR a0, vR (some k)] E u = bdV (Rn m_C_becomes 0 [vR (some k), vR a0] [] E u) (KV m_C_becomesCut 5 [l0, l1, l2] [])) ∧
  (∀ (l1 l2 : am_V) (a : Option Nat) (st : List am_V) (E : am_E) (u : am_M), Rn m_C_becomesCut 5 [vR a, l1, l2] st E u = Rn m_C_becomesCut 6 [vR a, l1, l2] (vR a :: st) E u) ∧
  (∀ (l0 l1 l2 : am_V) (a : Int) (st : List am_V) (E : am_E) (u : am_M), Rn m_C_becomesCut 6 [l0, l1, l2] (vI a :: st) E u = Rn m_C_becomesCut 7 [l0, l1, l2] (vI a :: vI a :: st) E u) ∧
  (∀ (l0 l1 l2 : am_V) (a : Option Nat) (st : List am_V) (E : am_E) (u : am_M), Rn m_C_becomesCut 6 [l0, l1, l2] (vR a :: st) E u = Rn m_C_becomesCut 7 [l0, l1, l2] (vR a :: vR a :: st) E u) ∧
  (∀ (l0 l1 l2 : am_V) (k : Nat) (st : List am_V) (E : am_E) (u : am_M) (hE : SE E) (hk : cuB k), Rn m_C_becomesCut 7 [l0, l1, l2] (vR (some k) :: st) E u = Rn m_C_becomesCut 10 [l0, l1, l2] (vI (u k 6) :: st) E u) ∧
  (∀ (l0 l1 : am_V) (a : Int) (st : List am_V) (E : am_E) (u : am_M), Rn m_C_becomesCut 10 [l0, l1, vI a] st E u = Rn m_C_becomesCut 11 [l0, l1, vI a] (vI a :: st) E u) ∧
  (∀ (l0 l1 l2 : am_V) (a b : Int) (st : List am_V) (E : am_E) (u : am_M), Rn m_C_becomesCut 11 [l0, l1, l2] (vI b :: vI a :: st) E u = Rn m_C_becomesCut 12 [l0, l1, l2] (vI (i_or a b) :: st) E u) ∧
  (∀ (l0 l1 l2 : am_V) (k : Nat) (a : Int) (st : List am_V) (E : am_E) (u : am_M) (hE : SE E) (hk : cuB k), Rn m_C_becomesCut 12 [l0, l1, l2] (vI a :: vR (some k) :: st) E u = Rn m_C_becomesCut 15 [l0, l1, l2] st E (am_up u k 6 a)) ∧
  (∀ (l0 l1 l2 : am_V) (E : am_E) (u : am_M), Rn m_C_becomesCut 15 [l0, l1, l2] [] E u = some (none, E, u)) :=
  ⟨fun l1 l2 a st E u => q_go (by decide +kernel : am_Pg 152 0 = some (.aload_n 0, 1, [], 0)) rfl,
  fun l0 l2 a st E u => q_go (by decide +kernel : am_Pg 152 1 = some (.aload_n 1, 1, [], 0)) rfl,
  fun l0 l1 l2 k a0  E u hE hk => q_cV (by decide +kernel : am_Pg 152 2 = some (.invokevirtual 66, 3, [3, 78, 2, 0, 14, 0], 0)) (am_call_V (a := [vR a0]) (st' := []) (Nat.le_of_ble_eq_true rfl) rfl (SE_k0 hE hk)) (by decide +kernel : am_Lm m_C_becomes = 2) (Nat.le_of_ble_eq_true rfl) rfl (by decide +kernel),
  fun l1 l2 a st E u => q_go (by decide +kernel : am_Pg 152 5 = some (.aload_n 0, 1, [], 0)) rfl,
  fun l0 l1 l2 a st E u => q_go (by decide +kernel : am_Pg 152 6 = some (.dup, 1, [], 0)) rfl,
  fun l0 l1 l2 a st E u => q_go (by decide +kernel : am_Pg 152 6 = some (.dup, 1, [], 0)) rfl,
  fun l0 l1 l2 k st E u hE hk => q_gfI (by decide +kernel : am_Pg 152 7 = some (.getfield 55, 3, [0, 14, 6, 0], 0)) (SE_k0 hE hk) (by decide),
  fun l0 l1 a st E u => q_go (by decide +kernel : am_Pg 152 10 = some (.iload_n 2, 1, [], 0)) rfl,
  fun l0 l1 l2 a b st E u => q_go (by decide +kernel : am_Pg 152 11 = some (.ior, 1, [], 0)) rfl,
  fun l0 l1 l2 k a st E u hE hk => q_pfI (by decide +kernel : am_Pg 152 12 = some (.putfield 55, 3, [0, 14, 6, 0], 0)) (SE_k0 hE hk) rfl,
  fun l0 l1 l2 E u => q_ret (by decide +kernel : am_Pg 152 15 = some (.return_, 1, [], 0)) rfl⟩
theorem h_C_spreads_4 : ∀ (l0 l1 l2 l4 l5 : am_V) (a : Int) (st : List am_V) (E : am_E) (u : am_M), Rn m_C_spreads 4 [l0, l1, l2, vI a, l4, l5] st E u = Rn m_C_spreads 5 [l0, l1, l2, vI a, l4, l5] (vI a :: st) E u :=
  fun l0 l1 l2 l4 l5 a st E u => q_go (by decide +kernel : am_Pg 162 4 = some (.iload_n 3, 1, [], 0)) rfl
theorem x_C_spreads :
  (∀ (l0 l2 l3 l4 l5 : am_V) (a : Int) (st : List am_V) (E : am_E) (u : am_M), Rn m_C_spreads 0 [l0, vI a, l2, l3, l4, l5] st E u = Rn m_C_spreads 1 [l0, vI a, l2, l3, l4, l5] (vI a :: st) E u) ∧
  (∀ (l0 l1 l2 l3 l4 l5 : am_V) (a : Int) (st : List am_V) (E : am_E) (u : am_M), Rn m_C_spreads 1 [l0, l1, l2, l3, l4, l5] (vI a :: st) E u = Rn m_C_spreads 2 [l0, am_fx l1, vI a, l3, l4, l5] st E u) ∧
  (∀ (l0 l1 l2 l3 l4 l5 : am_V) (st : List am_V) (E : am_E) (u : am_M), Rn m_C_spreads 2 [l0, l1, l2, l3, l4, l5] st E u = Rn m_C_spreads 3 [l0, l1, l2, l3, l4, l5] (vI 0 :: st) E u) ∧
  (∀ (l0 l1 l2 l3 l4 l5 : am_V) (a : Int) (st : List am_V) (E : am_E) (u : am_M), Rn m_C_spreads 3 [l0, l1, l2, l3, l4, l5] (vI a :: st) E u = Rn m_C_spreads 4 [l0, l1, am_fx l2, vI a, l4, l5] st E u) ∧
  (∀ (l1 l2 l3 l4 l5 : am_V) (a : Option Nat) (st : List am_V) (E : am_E) (u : am_M), Rn m_C_spreads 5 [vR a, l1, l2, l3, l4, l5] st E u = Rn m_C_spreads 6 [vR a, l1, l2, l3, l4, l5] (vR a :: st) E u) ∧
  (∀ (l0 l1 l2 l3 l4 l5 : am_V) (k : Nat) (st : List am_V) (E : am_E) (u : am_M) (hE : SE E) (hk : cuB k), Rn m_C_spreads 6 [l0, l1, l2, l3, l4, l5] (vR (some k) :: st) E u = Rn m_C_spreads 9 [l0, l1, l2, l3, l4, l5] (vI (u k 3) :: st) E u) ∧
  (∀ (l0 l1 l2 l3 l4 l5 : am_V) (a b : Int) (st : List am_V) (E : am_E) (u : am_M), Rn m_C_spreads 9 [l0, l1, l2, l3, l4, l5] (vI b :: vI a :: st) E u = if a < b then Rn m_C_spreads 12 [l0, l1, l2, l3, l4, l5] st E u else Rn m_C_spreads 76 [l0, l1, l2, l3, l4, l5] st E u) ∧
  (∀ (l1 l2 l3 l4 l5 : am_V) (a : Option Nat) (st : List am_V) (E : am_E) (u : am_M), Rn m_C_spreads 12 [vR a, l1, l2, l3, l4, l5] st E u = Rn m_C_spreads 13 [vR a, l1, l2, l3, l4, l5] (vR a :: st) E u) ∧
  (∀ (l0 l1 l2 l3 l4 l5 : am_V) (k : Nat) (st : List am_V) (E : am_E) (u : am_M) (hE : SE E) (hk : cuB k), Rn m_C_spreads 13 [l0, l1, l2, l3, l4, l5] (vR (some k) :: st) E u = Rn m_C_spreads 16 [l0, l1, l2, l3, l4, l5] (vR (some (k + 4)) :: st) E u) ∧
  (∀ (l0 l1 l2 l4 l5 : am_V) (a : Int) (st : List am_V) (E : am_E) (u : am_M), Rn m_C_spreads 16 [l0, l1, l2, vI a, l4, l5] st E u = Rn m_C_spreads 17 [l0, l1, l2, vI a, l4, l5] (vI a :: st) E u) ∧
  (∀ (l0 l1 l2 l3 l4 l5 : am_V) (a0 : Option Nat) (a1 : Int) (E : am_E) (u : am_M), Rn m_C_spreads 17 [l0, l1, l2, l3, l4, l5] [vI a1, vR a0] E u = bdI (Rn m_A_look 0 [vR a0, vI a1] [] E u) (KI m_C_spreads 20 [l0, l1, l2, l3, l4, l5] [])) ∧
  (∀ (l0 l1 l2 l3 l4 l5 : am_V) (a : Int) (st : List am_V) (E : am_E) (u : am_M), Rn m_C_spreads 20 [l0, l1, l2, l3, l4, l5] (vI a :: st) E u = Rn m_C_spreads 22 [l0, l1, l2, am_fx l3, vI a, l5] st E u) ∧
  (∀ (l1 l2 l3 l4 l5 : am_V) (a : Option Nat) (st : List am_V) (E : am_E) (u : am_M), Rn m_C_spreads 22 [vR a, l1, l2, l3, l4, l5] st E u = Rn m_C_spreads 23 [vR a, l1, l2, l3, l4, l5] (vR a :: st) E u) ∧
  (∀ (l0 l1 l2 l3 l4 l5 : am_V) (k : Nat) (st : List am_V) (E : am_E) (u : am_M) (hE : SE E) (hk : cuB k), Rn m_C_spreads 23 [l0, l1, l2, l3, l4, l5] (vR (some k) :: st) E u = Rn m_C_spreads 26 [l0, l1, l2, l3, l4, l5] (vR (some (k + 5)) :: st) E u) ∧
  (∀ (l0 l1 l2 l4 l5 : am_V) (a : Int) (st : List am_V) (E : am_E) (u : am_M), Rn m_C_spreads 26 [l0, l1, l2, vI a, l4, l5] st E u = Rn m_C_spreads 27 [l0, l1, l2, vI a, l4, l5] (vI a :: st) E u) ∧
  (∀ (l0 l1 l2 l3 l4 l5 : am_V) (a0 : Option Nat) (a1 : Int) (E : am_E) (u : am_M), Rn m_C_spreads 27 [l0, l1, l2, l3, l4, l5] [vI a1, vR a0] E u = bdI (Rn m_A_look 0 [vR a0, vI a1] [] E u) (KI m_C_spreads 30 [l0, l1, l2, l3, l4, l5] [])) ∧
  (∀ (l0 l1 l2 l3 l4 l5 : am_V) (a : Int) (st : List am_V) (E : am_E) (u : am_M), Rn m_C_spreads 30 [l0, l1, l2, l3, l4, l5] (vI a :: st) E u = Rn m_C_spreads 32 [l0, l1, l2, l3, am_fx l4, vI a] st E u) ∧
  (∀ (l0 l2 l3 l4 l5 : am_V) (a : Int) (st : List am_V) (E : am_E) (u : am_M), Rn m_C_spreads 32 [l0, vI a, l2, l3, l4, l5] st E u = Rn m_C_spreads 33 [l0, vI a, l2, l3, l4, l5] (vI a :: st) E u) ∧
  (∀ (l0 l1 l2 l3 l5 : am_V) (a : Int) (st : List am_V) (E : am_E) (u : am_M), Rn m_C_spreads 33 [l0, l1, l2, l3, vI a, l5] st E u = Rn m_C_spreads 35 [l0, l1, l2, l3, vI a, l5] (vI a :: st) E u) ∧
  (∀ (l0 l1 l2 l3 l4 l5 : am_V) (a0 : Int) (a1 : Int) (E : am_E) (u : am_M), Rn m_C_spreads 35 [l0, l1, l2, l3, l4, l5] [vI a1, vI a0] E u = bdI (Rn m_A_has 0 [vI a0, vI a1] [] E u) (KI m_C_spreads 38 [l0, l1, l2, l3, l4, l5] [])) ∧
  (∀ (l0 l1 l2 l3 l4 l5 : am_V) (a : Int) (st : List am_V) (E : am_E) (u : am_M), Rn m_C_spreads 38 [l0, l1, l2, l3, l4, l5] (vI a :: st) E u = if a = 0 then Rn m_C_spreads 41 [l0, l1, l2, l3, l4, l5] st E u else Rn m_C_spreads 50 [l0, l1, l2, l3, l4, l5] st E u) ∧
  (∀ (l0 l2 l3 l4 l5 : am_V) (a : Int) (st : List am_V) (E : am_E) (u : am_M), Rn m_C_spreads 41 [l0, vI a, l2, l3, l4, l5] st E u = Rn m_C_spreads 42 [l0, vI a, l2, l3, l4, l5] (vI a :: st) E u) ∧
  (∀ (l0 l1 l2 l3 l4 : am_V) (a : Int) (st : List am_V) (E : am_E) (u : am_M), Rn m_C_spreads 42 [l0, l1, l2, l3, l4, vI a] st E u = Rn m_C_spreads 44 [l0, l1, l2, l3, l4, vI a] (vI a :: st) E u) ∧
  (∀ (l0 l1 l2 l3 l4 l5 : am_V) (a0 : Int) (a1 : Int) (E : am_E) (u : am_M), Rn m_C_spreads 44 [l0, l1, l2, l3, l4, l5] [vI a1, vI a0] E u = bdI (Rn m_A_has 0 [vI a0, vI a1] [] E u) (KI m_C_spreads 47 [l0, l1, l2, l3, l4, l5] [])) ∧
  (∀ (l0 l1 l2 l3 l4 l5 : am_V) (a : Int) (st : List am_V) (E : am_E) (u : am_M), Rn m_C_spreads 47 [l0, l1, l2, l3, l4, l5] (vI a :: st) E u = if a = 0 then Rn m_C_spreads 70 [l0, l1, l2, l3, l4, l5] st E u else Rn m_C_spreads 50 [l0, l1, l2, l3, l4, l5] st E u) ∧
  (∀ (l1 l2 l3 l4 l5 : am_V) (a : Option Nat) (st : List am_V) (E : am_E) (u : am_M), Rn m_C_spreads 50 [vR a, l1, l2, l3, l4, l5] st E u = Rn m_C_spreads 51 [vR a, l1, l2, l3, l4, l5] (vR a :: st) E u) ∧
  (∀ (l0 l1 l2 l4 l5 : am_V) (a : Int) (st : List am_V) (E : am_E) (u : am_M), Rn m_C_spreads 51 [l0, l1, l2, vI a, l4, l5] st E u = Rn m_C_spreads 52 [l0, l1, l2, vI a, l4, l5] (vI a :: st) E u) ∧
  (∀ (l0 l1 l2 l3 l4 l5 : am_V) (k : Nat) (a0 : Int) (E : am_E) (u : am_M) (hE : SE E) (hk : cuB k), Rn m_C_spreads 52 [l0, l1, l2, l3, l4, l5] [vI a0, vR (some k)] E u = bdI (Rn m_C_holds 0 [vR (some k), vI a0, vB false, vB false] [] E u) (KI m_C_spreads 55 [l0, l1, l2, l3, l4, l5] [])) ∧
  (∀ (l0 l1 l2 l3 l4 l5 : am_V) (a : Int) (st : List am_V) (E : am_E) (u : am_M), Rn m_C_spreads 55 [l0, l1, l2, l3, l4, l5] (vI a :: st) E u = if a = 0 then Rn m_C_spreads 70 [l0, l1, l2, l3, l4, l5] st E u else Rn m_C_spreads 58 [l0, l1, l2, l3, l4, l5] st E u) ∧
  (∀ (l0 l1 l3 l4 l5 : am_V) (a : Int) (st : List am_V) (E : am_E) (u : am_M), Rn m_C_spreads 58 [l0, l1, vI a, l3, l4, l5] st E u = Rn m_C_spreads 59 [l0, l1, vI a, l3, l4, l5] (vI a :: st) E u) ∧
  (∀ (l0 l1 l2 l3 l4 l5 : am_V) (st : List am_V) (E : am_E) (u : am_M), Rn m_C_spreads 59 [l0, l1, l2, l3, l4, l5] st E u = Rn m_C_spreads 60 [l0, l1, l2, l3, l4, l5] (vI 1 :: st) E u) ∧
  (∀ (l0 l1 l2 l3 l5 : am_V) (a : Int) (st : List am_V) (E : am_E) (u : am_M), Rn m_C_spreads 60 [l0, l1, l2, l3, vI a, l5] st E u = Rn m_C_spreads 62 [l0, l1, l2, l3, vI a, l5] (vI a :: st) E u) ∧
  (∀ (l0 l1 l2 l3 l4 l5 : am_V) (a b : Int) (st : List am_V) (E : am_E) (u : am_M), Rn m_C_spreads 62 [l0, l1, l2, l3, l4, l5] (vI b :: vI a :: st) E u = Rn m_C_spreads 63 [l0, l1, l2, l3, l4, l5] (vI (i_shl a b) :: st) E u) ∧
  (∀ (l0 l1 l2 l3 l4 l5 : am_V) (st : List am_V) (E : am_E) (u : am_M), Rn m_C_spreads 63 [l0, l1, l2, l3, l4, l5] st E u = Rn m_C_spreads 64 [l0, l1, l2, l3, l4, l5] (vI 1 :: st) E u) ∧
  (∀ (l0 l1 l2 l3 l4 : am_V) (a : Int) (st : List am_V) (E : am_E) (u : am_M), Rn m_C_spreads 64 [l0, l1, l2, l3, l4, vI a] st E u = Rn m_C_spreads 66 [l0, l1, l2, l3, l4, vI a] (vI a :: st) E u) ∧
  (∀ (l0 l1 l2 l3 l4 l5 : am_V) (a b : Int) (st : List am_V) (E : am_E) (u : am_M), Rn m_C_spreads 66 [l0, l1, l2, l3, l4, l5] (vI b :: vI a :: st) E u = Rn m_C_spreads 67 [l0, l1, l2, l3, l4, l5] (vI (i_shl a b) :: st) E u) ∧
  (∀ (l0 l1 l2 l3 l4 l5 : am_V) (a b : Int) (st : List am_V) (E : am_E) (u : am_M), Rn m_C_spreads 67 [l0, l1, l2, l3, l4, l5] (vI b :: vI a :: st) E u = Rn m_C_spreads 68 [l0, l1, l2, l3, l4, l5] (vI (i_or a b) :: st) E u) ∧
  (∀ (l0 l1 l2 l3 l4 l5 : am_V) (a b : Int) (st : List am_V) (E : am_E) (u : am_M), Rn m_C_spreads 68 [l0, l1, l2, l3, l4, l5] (vI b :: vI a :: st) E u = Rn m_C_spreads 69 [l0, l1, l2, l3, l4, l5] (vI (i_or a b) :: st) E u) ∧
  (∀ (l0 l1 l2 l3 l4 l5 : am_V) (a : Int) (st : List am_V) (E : am_E) (u : am_M), Rn m_C_spreads 69 [l0, l1, l2, l3, l4, l5] (vI a :: st) E u = Rn m_C_spreads 70 [l0, am_fx l1, vI a, l3, l4, l5] st E u) ∧
  (∀ (l0 l1 l2 l4 l5 : am_V) (a : Int) (st : List am_V) (E : am_E) (u : am_M), Rn m_C_spreads 70 [l0, l1, l2, vI a, l4, l5] st E u = Rn m_C_spreads 73 [l0, l1, am_fx l2, vI (w32 (a + 1)), l4, l5] st E u) ∧
  (∀ (l0 l1 l2 l3 l4 l5 : am_V) (st : List am_V) (E : am_E) (u : am_M), Rn m_C_spreads 73 [l0, l1, l2, l3, l4, l5] st E u = Rn m_C_spreads 4 [l0, l1, l2, l3, l4, l5] st E u) ∧
  (∀ (l0 l1 l3 l4 l5 : am_V) (a : Int) (st : List am_V) (E : am_E) (u : am_M), Rn m_C_spreads 76 [l0, l1, vI a, l3, l4, l5] st E u = Rn m_C_spreads 77 [l0, l1, vI a, l3, l4, l5] (vI a :: st) E u) ∧
  (∀ (l0 l1 l2 l3 l4 l5 : am_V) (a : Int) (E : am_E) (u : am_M), Rn m_C_spreads 77 [l0, l1, l2, l3, l4, l5] [vI a] E u = some (some (vI a), E, u)) :=
  ⟨fun l0 l2 l3 l4 l5 a st E u => q_go (by decide +kernel : am_Pg 162 0 = some (.iload_n 1, 1, [], 0)) rfl,
  fun l0 l1 l2 l3 l4 l5 a st E u => q_go (by decide +kernel : am_Pg 162 1 = some (.istore_n 2, 1, [], 0)) rfl,
  fun l0 l1 l2 l3 l4 l5 st E u => q_go (by decide +kernel : am_Pg 162 2 = some (.iconst 0, 1, [], 0)) rfl,
  fun l0 l1 l2 l3 l4 l5 a st E u => q_go (by decide +kernel : am_Pg 162 3 = some (.istore_n 3, 1, [], 0)) rfl,
  fun l1 l2 l3 l4 l5 a st E u => q_go (by decide +kernel : am_Pg 162 5 = some (.aload_n 0, 1, [], 0)) rfl,
  fun l0 l1 l2 l3 l4 l5 k st E u hE hk => q_gfI (by decide +kernel : am_Pg 162 6 = some (.getfield 49, 3, [0, 14, 3, 0], 0)) (SE_k0 hE hk) (by decide),
  fun l0 l1 l2 l3 l4 l5 a b st E u => q_icmp_ge (tgt := 76) (by decide +kernel : am_Pg 162 9 = some (.if_icmp .ge 67, 3, [], 0)) (by decide),
  fun l1 l2 l3 l4 l5 a st E u => q_go (by decide +kernel : am_Pg 162 12 = some (.aload_n 0, 1, [], 0)) rfl,
  fun l0 l1 l2 l3 l4 l5 k st E u hE hk => q_gfR (by decide +kernel : am_Pg 162 13 = some (.getfield 31, 3, [0, 14, 11, 0], 0)) (SE_k0 hE hk) rfl (SE_r0_11 hE hk),
  fun l0 l1 l2 l4 l5 a st E u => q_go (by decide +kernel : am_Pg 162 16 = some (.iload_n 3, 1, [], 0)) rfl,
  fun l0 l1 l2 l3 l4 l5 a0 a1  E u => q_cI (by decide +kernel : am_Pg 162 17 = some (.invokestatic 105, 3, [2, 36, 2, 1], 0)) (am_call_S (f := fun _ _ => true) (a := [vR a0, vI a1]) (st' := []) (Nat.le_of_ble_eq_true rfl) rfl rfl) (by decide +kernel : am_Lm m_A_look = 2) (Nat.le_of_ble_eq_true rfl) rfl (by decide +kernel),
  fun l0 l1 l2 l3 l4 l5 a st E u => q_go (by decide +kernel : am_Pg 162 20 = some (.istore 4, 2, [], 0)) rfl,
  fun l1 l2 l3 l4 l5 a st E u => q_go (by decide +kernel : am_Pg 162 22 = some (.aload_n 0, 1, [], 0)) rfl,
  fun l0 l1 l2 l3 l4 l5 k st E u hE hk => q_gfR (by decide +kernel : am_Pg 162 23 = some (.getfield 34, 3, [0, 14, 12, 0], 0)) (SE_k0 hE hk) rfl (SE_r0_12 hE hk),
  fun l0 l1 l2 l4 l5 a st E u => q_go (by decide +kernel : am_Pg 162 26 = some (.iload_n 3, 1, [], 0)) rfl,
  fun l0 l1 l2 l3 l4 l5 a0 a1  E u => q_cI (by decide +kernel : am_Pg 162 27 = some (.invokestatic 105, 3, [2, 36, 2, 1], 0)) (am_call_S (f := fun _ _ => true) (a := [vR a0, vI a1]) (st' := []) (Nat.le_of_ble_eq_true rfl) rfl rfl) (by decide +kernel : am_Lm m_A_look = 2) (Nat.le_of_ble_eq_true rfl) rfl (by decide +kernel),
  fun l0 l1 l2 l3 l4 l5 a st E u => q_go (by decide +kernel : am_Pg 162 30 = some (.istore 5, 2, [], 0)) rfl,
  fun l0 l2 l3 l4 l5 a st E u => q_go (by decide +kernel : am_Pg 162 32 = some (.iload_n 1, 1, [], 0)) rfl,
  fun l0 l1 l2 l3 l5 a st E u => q_go (by decide +kernel : am_Pg 162 33 = some (.iload 4, 2, [], 0)) rfl,
  fun l0 l1 l2 l3 l4 l5 a0 a1  E u => q_cI (by decide +kernel : am_Pg 162 35 = some (.invokestatic 116, 3, [2, 161, 2, 1], 0)) (am_call_S (f := fun _ _ => true) (a := [vI a0, vI a1]) (st' := []) (Nat.le_of_ble_eq_true rfl) rfl rfl) (by decide +kernel : am_Lm m_A_has = 2) (Nat.le_of_ble_eq_true rfl) rfl (by decide +kernel),
  fun l0 l1 l2 l3 l4 l5 a st E u => q_if_ne (tgt := 50) (by decide +kernel : am_Pg 162 38 = some (.ifCond .ne 12, 3, [], 0)) (by decide),
  fun l0 l2 l3 l4 l5 a st E u => q_go (by decide +kernel : am_Pg 162 41 = some (.iload_n 1, 1, [], 0)) rfl,
  fun l0 l1 l2 l3 l4 a st E u => q_go (by decide +kernel : am_Pg 162 42 = some (.iload 5, 2, [], 0)) rfl,
  fun l0 l1 l2 l3 l4 l5 a0 a1  E u => q_cI (by decide +kernel : am_Pg 162 44 = some (.invokestatic 116, 3, [2, 161, 2, 1], 0)) (am_call_S (f := fun _ _ => true) (a := [vI a0, vI a1]) (st' := []) (Nat.le_of_ble_eq_true rfl) rfl rfl) (by decide +kernel : am_Lm m_A_has = 2) (Nat.le_of_ble_eq_true rfl) rfl (by decide +kernel),
  fun l0 l1 l2 l3 l4 l5 a st E u => q_if_eq (tgt := 70) (by decide +kernel : am_Pg 162 47 = some (.ifCond .eq 23, 3, [], 0)) (by decide),
  fun l1 l2 l3 l4 l5 a st E u => q_go (by decide +kernel : am_Pg 162 50 = some (.aload_n 0, 1, [], 0)) rfl,
  fun l0 l1 l2 l4 l5 a st E u => q_go (by decide +kernel : am_Pg 162 51 = some (.iload_n 3, 1, [], 0)) rfl,
  fun l0 l1 l2 l3 l4 l5 k a0  E u hE hk => q_cI (by decide +kernel : am_Pg 162 52 = some (.invokevirtual 109, 3, [3, 41, 2, 0, 14, 0], 0)) (am_call_V (a := [vI a0]) (st' := []) (Nat.le_of_ble_eq_true rfl) rfl (SE_k0 hE hk)) (by decide +kernel : am_Lm m_C_holds = 4) (Nat.le_of_ble_eq_true rfl) rfl (by decide +kernel),
  fun l0 l1 l2 l3 l4 l5 a st E u => q_if_eq (tgt := 70) (by decide +kernel : am_Pg 162 55 = some (.ifCond .eq 15, 3, [], 0)) (by decide),
  fun l0 l1 l3 l4 l5 a st E u => q_go (by decide +kernel : am_Pg 162 58 = some (.iload_n 2, 1, [], 0)) rfl,
  fun l0 l1 l2 l3 l4 l5 st E u => q_go (by decide +kernel : am_Pg 162 59 = some (.iconst 1, 1, [], 0)) rfl,
  fun l0 l1 l2 l3 l5 a st E u => q_go (by decide +kernel : am_Pg 162 60 = some (.iload 4, 2, [], 0)) rfl,
  fun l0 l1 l2 l3 l4 l5 a b st E u => q_go (by decide +kernel : am_Pg 162 62 = some (.ishl, 1, [], 0)) rfl,
  fun l0 l1 l2 l3 l4 l5 st E u => q_go (by decide +kernel : am_Pg 162 63 = some (.iconst 1, 1, [], 0)) rfl,
  fun l0 l1 l2 l3 l4 a st E u => q_go (by decide +kernel : am_Pg 162 64 = some (.iload 5, 2, [], 0)) rfl,
  fun l0 l1 l2 l3 l4 l5 a b st E u => q_go (by decide +kernel : am_Pg 162 66 = some (.ishl, 1, [], 0)) rfl,
  fun l0 l1 l2 l3 l4 l5 a b st E u => q_go (by decide +kernel : am_Pg 162 67 = some (.ior, 1, [], 0)) rfl,
  fun l0 l1 l2 l3 l4 l5 a b st E u => q_go (by decide +kernel : am_Pg 162 68 = some (.ior, 1, [], 0)) rfl,
  fun l0 l1 l2 l3 l4 l5 a st E u => q_go (by decide +kernel : am_Pg 162 69 = some (.istore_n 2, 1, [], 0)) rfl,
  fun l0 l1 l2 l4 l5 a st E u => q_go (by decide +kernel : am_Pg 162 70 = some (.iinc 3 1, 3, [], 0)) rfl,
  fun l0 l1 l2 l3 l4 l5 st E u => q_go (by decide +kernel : am_Pg 162 73 = some (.goto (-69), 3, [], 0)) rfl,
  fun l0 l1 l3 l4 l5 a st E u => q_go (by decide +kernel : am_Pg 162 76 = some (.iload_n 2, 1, [], 0)) rfl,
  fun l0 l1 l2 l3 l4 l5 a E u => q_ret (by decide +kernel : am_Pg 162 77 = some (.ireturn, 1, [], 0)) rfl⟩
theorem h_C_aloneSet_18 : ∀ (l0 l1 : am_V) (a : Int) (st : List am_V) (E : am_E) (u : am_M), Rn m_C_aloneSet 18 [l0, l1, vI a] st E u = Rn m_C_aloneSet 19 [l0, l1, vI a] (vI a :: st) E u :=
  fun l0 l1 a st E u => q_go (by decide +kernel : am_Pg 168 18 = some (.iload_n 2, 1, [], 0)) rfl
theorem x_C_aloneSet :
  (∀ (l0 l1 l2 : am_V) (st : List am_V) (E : am_E) (u : am_M), Rn m_C_aloneSet 0 [l0, l1, l2] st E u = Rn m_C_aloneSet 1 [l0, l1, l2] (vI 1 :: st) E u) ∧
  (∀ (l1 l2 : am_V) (a : Option Nat) (st : List am_V) (E : am_E) (u : am_M), Rn m_C_aloneSet 1 [vR a, l1, l2] st E u = Rn m_C_aloneSet 2 [vR a, l1, l2] (vR a :: st) E u) ∧
  (∀ (l0 l1 l2 : am_V) (k : Nat) (st : List am_V) (E : am_E) (u : am_M) (hE : SE E) (hk : cuB k), Rn m_C_aloneSet 2 [l0, l1, l2] (vR (some k) :: st) E u = Rn m_C_aloneSet 5 [l0, l1, l2] (vI (u k 2) :: st) E u) ∧
  (∀ (l0 l1 l2 : am_V) (a b : Int) (st : List am_V) (E : am_E) (u : am_M), Rn m_C_aloneSet 5 [l0, l1, l2] (vI b :: vI a :: st) E u = Rn m_C_aloneSet 6 [l0, l1, l2] (vI (i_shl a b) :: st) E u) ∧
  (∀ (l0 l1 l2 : am_V) (st : List am_V) (E : am_E) (u : am_M), Rn m_C_aloneSet 6 [l0, l1, l2] st E u = Rn m_C_aloneSet 7 [l0, l1, l2] (vI 1 :: st) E u) ∧
  (∀ (l0 l1 l2 : am_V) (a b : Int) (st : List am_V) (E : am_E) (u : am_M), Rn m_C_aloneSet 7 [l0, l1, l2] (vI b :: vI a :: st) E u = Rn m_C_aloneSet 8 [l0, l1, l2] (vI (w32 (a - b)) :: st) E u) ∧
  (∀ (l1 l2 : am_V) (a : Option Nat) (st : List am_V) (E : am_E) (u : am_M), Rn m_C_aloneSet 8 [vR a, l1, l2] st E u = Rn m_C_aloneSet 9 [vR a, l1, l2] (vR a :: st) E u) ∧
  (∀ (l0 l1 l2 : am_V) (k : Nat) (r0 : am_V) (E : am_E) (u : am_M) (hE : SE E) (hk : cuB k), Rn m_C_aloneSet 9 [l0, l1, l2] [vR (some k), r0] E u = bdI (Rn m_C_outSet 0 [vR (some k), vB false, vB false] [] E u) (KI m_C_aloneSet 12 [l0, l1, l2] [r0])) ∧
  (∀ (l0 l1 l2 : am_V) (st : List am_V) (E : am_E) (u : am_M), Rn m_C_aloneSet 12 [l0, l1, l2] st E u = Rn m_C_aloneSet 13 [l0, l1, l2] (vI (-1) :: st) E u) ∧
  (∀ (l0 l1 l2 : am_V) (a b : Int) (st : List am_V) (E : am_E) (u : am_M), Rn m_C_aloneSet 13 [l0, l1, l2] (vI b :: vI a :: st) E u = Rn m_C_aloneSet 14 [l0, l1, l2] (vI (i_xor a b) :: st) E u) ∧
  (∀ (l0 l1 l2 : am_V) (a b : Int) (st : List am_V) (E : am_E) (u : am_M), Rn m_C_aloneSet 14 [l0, l1, l2] (vI b :: vI a :: st) E u = Rn m_C_aloneSet 15 [l0, l1, l2] (vI (i_and a b) :: st) E u) ∧
  (∀ (l0 l1 l2 : am_V) (a : Int) (st : List am_V) (E : am_E) (u : am_M), Rn m_C_aloneSet 15 [l0, l1, l2] (vI a :: st) E u = Rn m_C_aloneSet 16 [am_fx l0, vI a, l2] st E u) ∧
  (∀ (l0 l1 l2 : am_V) (st : List am_V) (E : am_E) (u : am_M), Rn m_C_aloneSet 16 [l0, l1, l2] st E u = Rn m_C_aloneSet 17 [l0, l1, l2] (vI 0 :: st) E u) ∧
  (∀ (l0 l1 l2 : am_V) (a : Int) (st : List am_V) (E : am_E) (u : am_M), Rn m_C_aloneSet 17 [l0, l1, l2] (vI a :: st) E u = Rn m_C_aloneSet 18 [l0, am_fx l1, vI a] st E u) ∧
  (∀ (l1 l2 : am_V) (a : Option Nat) (st : List am_V) (E : am_E) (u : am_M), Rn m_C_aloneSet 19 [vR a, l1, l2] st E u = Rn m_C_aloneSet 20 [vR a, l1, l2] (vR a :: st) E u) ∧
  (∀ (l0 l1 l2 : am_V) (k : Nat) (st : List am_V) (E : am_E) (u : am_M) (hE : SE E) (hk : cuB k), Rn m_C_aloneSet 20 [l0, l1, l2] (vR (some k) :: st) E u = Rn m_C_aloneSet 23 [l0, l1, l2] (vI (u k 3) :: st) E u) ∧
  (∀ (l0 l1 l2 : am_V) (a b : Int) (st : List am_V) (E : am_E) (u : am_M), Rn m_C_aloneSet 23 [l0, l1, l2] (vI b :: vI a :: st) E u = if a < b then Rn m_C_aloneSet 26 [l0, l1, l2] st E u else Rn m_C_aloneSet 66 [l0, l1, l2] st E u) ∧
  (∀ (l1 l2 : am_V) (a : Option Nat) (st : List am_V) (E : am_E) (u : am_M), Rn m_C_aloneSet 26 [vR a, l1, l2] st E u = Rn m_C_aloneSet 27 [vR a, l1, l2] (vR a :: st) E u) ∧
  (∀ (l0 l1 : am_V) (a : Int) (st : List am_V) (E : am_E) (u : am_M), Rn m_C_aloneSet 27 [l0, l1, vI a] st E u = Rn m_C_aloneSet 28 [l0, l1, vI a] (vI a :: st) E u) ∧
  (∀ (l0 l1 l2 : am_V) (k : Nat) (a0 : Int) (E : am_E) (u : am_M) (hE : SE E) (hk : cuB k), Rn m_C_aloneSet 28 [l0, l1, l2] [vI a0, vR (some k)] E u = bdI (Rn m_C_holds 0 [vR (some k), vI a0, vB false, vB false] [] E u) (KI m_C_aloneSet 31 [l0, l1, l2] [])) ∧
  (∀ (l0 l1 l2 : am_V) (a : Int) (st : List am_V) (E : am_E) (u : am_M), Rn m_C_aloneSet 31 [l0, l1, l2] (vI a :: st) E u = if a = 0 then Rn m_C_aloneSet 60 [l0, l1, l2] st E u else Rn m_C_aloneSet 34 [l0, l1, l2] st E u) ∧
  (∀ (l0 l2 : am_V) (a : Int) (st : List am_V) (E : am_E) (u : am_M), Rn m_C_aloneSet 34 [l0, vI a, l2] st E u = Rn m_C_aloneSet 35 [l0, vI a, l2] (vI a :: st) E u) ∧
  (∀ (l0 l1 l2 : am_V) (st : List am_V) (E : am_E) (u : am_M), Rn m_C_aloneSet 35 [l0, l1, l2] st E u = Rn m_C_aloneSet 36 [l0, l1, l2] (vI 1 :: st) E u) ∧
  (∀ (l1 l2 : am_V) (a : Option Nat) (st : List am_V) (E : am_E) (u : am_M), Rn m_C_aloneSet 36 [vR a, l1, l2] st E u = Rn m_C_aloneSet 37 [vR a, l1, l2] (vR a :: st) E u) ∧
  (∀ (l0 l1 l2 : am_V) (k : Nat) (st : List am_V) (E : am_E) (u : am_M) (hE : SE E) (hk : cuB k), Rn m_C_aloneSet 37 [l0, l1, l2] (vR (some k) :: st) E u = Rn m_C_aloneSet 40 [l0, l1, l2] (vR (some (k + 4)) :: st) E u) ∧
  (∀ (l0 l1 : am_V) (a : Int) (st : List am_V) (E : am_E) (u : am_M), Rn m_C_aloneSet 40 [l0, l1, vI a] st E u = Rn m_C_aloneSet 41 [l0, l1, vI a] (vI a :: st) E u) ∧
  (∀ (l0 l1 l2 : am_V) (a0 : Option Nat) (a1 : Int) (r0 r1 : am_V) (E : am_E) (u : am_M), Rn m_C_aloneSet 41 [l0, l1, l2] [vI a1, vR a0, r0, r1] E u = bdI (Rn m_A_look 0 [vR a0, vI a1] [] E u) (KI m_C_aloneSet 44 [l0, l1, l2] [r0, r1])) ∧
  (∀ (l0 l1 l2 : am_V) (a b : Int) (st : List am_V) (E : am_E) (u : am_M), Rn m_C_aloneSet 44 [l0, l1, l2] (vI b :: vI a :: st) E u = Rn m_C_aloneSet 45 [l0, l1, l2] (vI (i_shl a b) :: st) E u) ∧
  (∀ (l0 l1 l2 : am_V) (st : List am_V) (E : am_E) (u : am_M), Rn m_C_aloneSet 45 [l0, l1, l2] st E u = Rn m_C_aloneSet 46 [l0, l1, l2] (vI 1 :: st) E u) ∧
  (∀ (l1 l2 : am_V) (a : Option Nat) (st : List am_V) (E : am_E) (u : am_M), Rn m_C_aloneSet 46 [vR a, l1, l2] st E u = Rn m_C_aloneSet 47 [vR a, l1, l2] (vR a :: st) E u) ∧
  (∀ (l0 l1 l2 : am_V) (k : Nat) (st : List am_V) (E : am_E) (u : am_M) (hE : SE E) (hk : cuB k), Rn m_C_aloneSet 47 [l0, l1, l2] (vR (some k) :: st) E u = Rn m_C_aloneSet 50 [l0, l1, l2] (vR (some (k + 5)) :: st) E u) ∧
  (∀ (l0 l1 : am_V) (a : Int) (st : List am_V) (E : am_E) (u : am_M), Rn m_C_aloneSet 50 [l0, l1, vI a] st E u = Rn m_C_aloneSet 51 [l0, l1, vI a] (vI a :: st) E u) ∧
  (∀ (l0 l1 l2 : am_V) (a0 : Option Nat) (a1 : Int) (r0 r1 r2 : am_V) (E : am_E) (u : am_M), Rn m_C_aloneSet 51 [l0, l1, l2] [vI a1, vR a0, r0, r1, r2] E u = bdI (Rn m_A_look 0 [vR a0, vI a1] [] E u) (KI m_C_aloneSet 54 [l0, l1, l2] [r0, r1, r2])) ∧
  (∀ (l0 l1 l2 : am_V) (a b : Int) (st : List am_V) (E : am_E) (u : am_M), Rn m_C_aloneSet 54 [l0, l1, l2] (vI b :: vI a :: st) E u = Rn m_C_aloneSet 55 [l0, l1, l2] (vI (i_shl a b) :: st) E u) ∧
  (∀ (l0 l1 l2 : am_V) (a b : Int) (st : List am_V) (E : am_E) (u : am_M), Rn m_C_aloneSet 55 [l0, l1, l2] (vI b :: vI a :: st) E u = Rn m_C_aloneSet 56 [l0, l1, l2] (vI (i_or a b) :: st) E u) ∧
  (∀ (l0 l1 l2 : am_V) (st : List am_V) (E : am_E) (u : am_M), Rn m_C_aloneSet 56 [l0, l1, l2] st E u = Rn m_C_aloneSet 57 [l0, l1, l2] (vI (-1) :: st) E u) ∧
  (∀ (l0 l1 l2 : am_V) (a b : Int) (st : List am_V) (E : am_E) (u : am_M), Rn m_C_aloneSet 57 [l0, l1, l2] (vI b :: vI a :: st) E u = Rn m_C_aloneSet 58 [l0, l1, l2] (vI (i_xor a b) :: st) E u) ∧
  (∀ (l0 l1 l2 : am_V) (a b : Int) (st : List am_V) (E : am_E) (u : am_M), Rn m_C_aloneSet 58 [l0, l1, l2] (vI b :: vI a :: st) E u = Rn m_C_aloneSet 59 [l0, l1, l2] (vI (i_and a b) :: st) E u) ∧
  (∀ (l0 l1 l2 : am_V) (a : Int) (st : List am_V) (E : am_E) (u : am_M), Rn m_C_aloneSet 59 [l0, l1, l2] (vI a :: st) E u = Rn m_C_aloneSet 60 [am_fx l0, vI a, l2] st E u) ∧
  (∀ (l0 l1 : am_V) (a : Int) (st : List am_V) (E : am_E) (u : am_M), Rn m_C_aloneSet 60 [l0, l1, vI a] st E u = Rn m_C_aloneSet 63 [l0, am_fx l1, vI (w32 (a + 1))] st E u) ∧
  (∀ (l0 l1 l2 : am_V) (st : List am_V) (E : am_E) (u : am_M), Rn m_C_aloneSet 63 [l0, l1, l2] st E u = Rn m_C_aloneSet 18 [l0, l1, l2] st E u) ∧
  (∀ (l0 l2 : am_V) (a : Int) (st : List am_V) (E : am_E) (u : am_M), Rn m_C_aloneSet 66 [l0, vI a, l2] st E u = Rn m_C_aloneSet 67 [l0, vI a, l2] (vI a :: st) E u) ∧
  (∀ (l0 l1 l2 : am_V) (a : Int) (E : am_E) (u : am_M), Rn m_C_aloneSet 67 [l0, l1, l2] [vI a] E u = some (some (vI a), E, u)) :=
  ⟨fun l0 l1 l2 st E u => q_go (by decide +kernel : am_Pg 168 0 = some (.iconst 1, 1, [], 0)) rfl,
  fun l1 l2 a st E u => q_go (by decide +kernel : am_Pg 168 1 = some (.aload_n 0, 1, [], 0)) rfl,
  fun l0 l1 l2 k st E u hE hk => q_gfI (by decide +kernel : am_Pg 168 2 = some (.getfield 46, 3, [0, 14, 2, 0], 0)) (SE_k0 hE hk) (by decide),
  fun l0 l1 l2 a b st E u => q_go (by decide +kernel : am_Pg 168 5 = some (.ishl, 1, [], 0)) rfl,
  fun l0 l1 l2 st E u => q_go (by decide +kernel : am_Pg 168 6 = some (.iconst 1, 1, [], 0)) rfl,
  fun l0 l1 l2 a b st E u => q_go (by decide +kernel : am_Pg 168 7 = some (.isub, 1, [], 0)) rfl,
  fun l1 l2 a st E u => q_go (by decide +kernel : am_Pg 168 8 = some (.aload_n 0, 1, [], 0)) rfl,
  fun l0 l1 l2 k  r0 E u hE hk => q_cI (by decide +kernel : am_Pg 168 9 = some (.invokevirtual 112, 3, [3, 92, 1, 0, 14, 0], 0)) (am_call_V (a := []) (st' := [r0]) (Nat.le_of_ble_eq_true rfl) rfl (SE_k0 hE hk)) (by decide +kernel : am_Lm m_C_outSet = 3) (Nat.le_of_ble_eq_true rfl) rfl (by decide +kernel),
  fun l0 l1 l2 st E u => q_go (by decide +kernel : am_Pg 168 12 = some (.iconst (-1), 1, [], 0)) rfl,
  fun l0 l1 l2 a b st E u => q_go (by decide +kernel : am_Pg 168 13 = some (.ixor, 1, [], 0)) rfl,
  fun l0 l1 l2 a b st E u => q_go (by decide +kernel : am_Pg 168 14 = some (.iand, 1, [], 0)) rfl,
  fun l0 l1 l2 a st E u => q_go (by decide +kernel : am_Pg 168 15 = some (.istore_n 1, 1, [], 0)) rfl,
  fun l0 l1 l2 st E u => q_go (by decide +kernel : am_Pg 168 16 = some (.iconst 0, 1, [], 0)) rfl,
  fun l0 l1 l2 a st E u => q_go (by decide +kernel : am_Pg 168 17 = some (.istore_n 2, 1, [], 0)) rfl,
  fun l1 l2 a st E u => q_go (by decide +kernel : am_Pg 168 19 = some (.aload_n 0, 1, [], 0)) rfl,
  fun l0 l1 l2 k st E u hE hk => q_gfI (by decide +kernel : am_Pg 168 20 = some (.getfield 49, 3, [0, 14, 3, 0], 0)) (SE_k0 hE hk) (by decide),
  fun l0 l1 l2 a b st E u => q_icmp_ge (tgt := 66) (by decide +kernel : am_Pg 168 23 = some (.if_icmp .ge 43, 3, [], 0)) (by decide),
  fun l1 l2 a st E u => q_go (by decide +kernel : am_Pg 168 26 = some (.aload_n 0, 1, [], 0)) rfl,
  fun l0 l1 a st E u => q_go (by decide +kernel : am_Pg 168 27 = some (.iload_n 2, 1, [], 0)) rfl,
  fun l0 l1 l2 k a0  E u hE hk => q_cI (by decide +kernel : am_Pg 168 28 = some (.invokevirtual 109, 3, [3, 41, 2, 0, 14, 0], 0)) (am_call_V (a := [vI a0]) (st' := []) (Nat.le_of_ble_eq_true rfl) rfl (SE_k0 hE hk)) (by decide +kernel : am_Lm m_C_holds = 4) (Nat.le_of_ble_eq_true rfl) rfl (by decide +kernel),
  fun l0 l1 l2 a st E u => q_if_eq (tgt := 60) (by decide +kernel : am_Pg 168 31 = some (.ifCond .eq 29, 3, [], 0)) (by decide),
  fun l0 l2 a st E u => q_go (by decide +kernel : am_Pg 168 34 = some (.iload_n 1, 1, [], 0)) rfl,
  fun l0 l1 l2 st E u => q_go (by decide +kernel : am_Pg 168 35 = some (.iconst 1, 1, [], 0)) rfl,
  fun l1 l2 a st E u => q_go (by decide +kernel : am_Pg 168 36 = some (.aload_n 0, 1, [], 0)) rfl,
  fun l0 l1 l2 k st E u hE hk => q_gfR (by decide +kernel : am_Pg 168 37 = some (.getfield 31, 3, [0, 14, 11, 0], 0)) (SE_k0 hE hk) rfl (SE_r0_11 hE hk),
  fun l0 l1 a st E u => q_go (by decide +kernel : am_Pg 168 40 = some (.iload_n 2, 1, [], 0)) rfl,
  fun l0 l1 l2 a0 a1 r0 r1 E u => q_cI (by decide +kernel : am_Pg 168 41 = some (.invokestatic 105, 3, [2, 36, 2, 1], 0)) (am_call_S (f := fun _ _ => true) (a := [vR a0, vI a1]) (st' := [r0, r1]) (Nat.le_of_ble_eq_true rfl) rfl rfl) (by decide +kernel : am_Lm m_A_look = 2) (Nat.le_of_ble_eq_true rfl) rfl (by decide +kernel),
  fun l0 l1 l2 a b st E u => q_go (by decide +kernel : am_Pg 168 44 = some (.ishl, 1, [], 0)) rfl,
  fun l0 l1 l2 st E u => q_go (by decide +kernel : am_Pg 168 45 = some (.iconst 1, 1, [], 0)) rfl,
  fun l1 l2 a st E u => q_go (by decide +kernel : am_Pg 168 46 = some (.aload_n 0, 1, [], 0)) rfl,
  fun l0 l1 l2 k st E u hE hk => q_gfR (by decide +kernel : am_Pg 168 47 = some (.getfield 34, 3, [0, 14, 12, 0], 0)) (SE_k0 hE hk) rfl (SE_r0_12 hE hk),
  fun l0 l1 a st E u => q_go (by decide +kernel : am_Pg 168 50 = some (.iload_n 2, 1, [], 0)) rfl,
  fun l0 l1 l2 a0 a1 r0 r1 r2 E u => q_cI (by decide +kernel : am_Pg 168 51 = some (.invokestatic 105, 3, [2, 36, 2, 1], 0)) (am_call_S (f := fun _ _ => true) (a := [vR a0, vI a1]) (st' := [r0, r1, r2]) (Nat.le_of_ble_eq_true rfl) rfl rfl) (by decide +kernel : am_Lm m_A_look = 2) (Nat.le_of_ble_eq_true rfl) rfl (by decide +kernel),
  fun l0 l1 l2 a b st E u => q_go (by decide +kernel : am_Pg 168 54 = some (.ishl, 1, [], 0)) rfl,
  fun l0 l1 l2 a b st E u => q_go (by decide +kernel : am_Pg 168 55 = some (.ior, 1, [], 0)) rfl,
  fun l0 l1 l2 st E u => q_go (by decide +kernel : am_Pg 168 56 = some (.iconst (-1), 1, [], 0)) rfl,
  fun l0 l1 l2 a b st E u => q_go (by decide +kernel : am_Pg 168 57 = some (.ixor, 1, [], 0)) rfl,
  fun l0 l1 l2 a b st E u => q_go (by decide +kernel : am_Pg 168 58 = some (.iand, 1, [], 0)) rfl,
  fun l0 l1 l2 a st E u => q_go (by decide +kernel : am_Pg 168 59 = some (.istore_n 1, 1, [], 0)) rfl,
  fun l0 l1 a st E u => q_go (by decide +kernel : am_Pg 168 60 = some (.iinc 2 1, 3, [], 0)) rfl,
  fun l0 l1 l2 st E u => q_go (by decide +kernel : am_Pg 168 63 = some (.goto (-45), 3, [], 0)) rfl,
  fun l0 l2 a st E u => q_go (by decide +kernel : am_Pg 168 66 = some (.iload_n 1, 1, [], 0)) rfl,
  fun l0 l1 l2 a E u => q_ret (by decide +kernel : am_Pg 168 67 = some (.ireturn, 1, [], 0)) rfl⟩
theorem h_C_tautSet_4 : ∀ (l0 l1 l3 l4 : am_V) (a : Int) (st : List am_V) (E : am_E) (u : am_M), Rn m_C_tautSet 4 [l0, l1, vI a, l3, l4] st E u = Rn m_C_tautSet 5 [l0, l1, vI a, l3, l4] (vI a :: st) E u :=
  fun l0 l1 l3 l4 a st E u => q_go (by decide +kernel : am_Pg 169 4 = some (.iload_n 2, 1, [], 0)) rfl
theorem x_C_tautSet :
  (∀ (l0 l1 l2 l3 l4 : am_V) (st : List am_V) (E : am_E) (u : am_M), Rn m_C_tautSet 0 [l0, l1, l2, l3, l4] st E u = Rn m_C_tautSet 1 [l0, l1, l2, l3, l4] (vI 0 :: st) E u) ∧
  (∀ (l0 l1 l2 l3 l4 : am_V) (a : Int) (st : List am_V) (E : am_E) (u : am_M), Rn m_C_tautSet 1 [l0, l1, l2, l3, l4] (vI a :: st) E u = Rn m_C_tautSet 2 [am_fx l0, vI a, l2, l3, l4] st E u) ∧
  (∀ (l0 l1 l2 l3 l4 : am_V) (st : List am_V) (E : am_E) (u : am_M), Rn m_C_tautSet 2 [l0, l1, l2, l3, l4] st E u = Rn m_C_tautSet 3 [l0, l1, l2, l3, l4] (vI 0 :: st) E u) ∧
  (∀ (l0 l1 l2 l3 l4 : am_V) (a : Int) (st : List am_V) (E : am_E) (u : am_M), Rn m_C_tautSet 3 [l0, l1, l2, l3, l4] (vI a :: st) E u = Rn m_C_tautSet 4 [l0, am_fx l1, vI a, l3, l4] st E u) ∧
  (∀ (l1 l2 l3 l4 : am_V) (a : Option Nat) (st : List am_V) (E : am_E) (u : am_M), Rn m_C_tautSet 5 [vR a, l1, l2, l3, l4] st E u = Rn m_C_tautSet 6 [vR a, l1, l2, l3, l4] (vR a :: st) E u) ∧
  (∀ (l0 l1 l2 l3 l4 : am_V) (k : Nat) (st : List am_V) (E : am_E) (u : am_M) (hE : SE E) (hk : cuB k), Rn m_C_tautSet 6 [l0, l1, l2, l3, l4] (vR (some k) :: st) E u = Rn m_C_tautSet 9 [l0, l1, l2, l3, l4] (vI (u k 3) :: st) E u) ∧
  (∀ (l0 l1 l2 l3 l4 : am_V) (a b : Int) (st : List am_V) (E : am_E) (u : am_M), Rn m_C_tautSet 9 [l0, l1, l2, l3, l4] (vI b :: vI a :: st) E u = if a < b then Rn m_C_tautSet 12 [l0, l1, l2, l3, l4] st E u else Rn m_C_tautSet 83 [l0, l1, l2, l3, l4] st E u) ∧
  (∀ (l1 l2 l3 l4 : am_V) (a : Option Nat) (st : List am_V) (E : am_E) (u : am_M), Rn m_C_tautSet 12 [vR a, l1, l2, l3, l4] st E u = Rn m_C_tautSet 13 [vR a, l1, l2, l3, l4] (vR a :: st) E u) ∧
  (∀ (l0 l1 l2 l3 l4 : am_V) (k : Nat) (st : List am_V) (E : am_E) (u : am_M) (hE : SE E) (hk : cuB k), Rn m_C_tautSet 13 [l0, l1, l2, l3, l4] (vR (some k) :: st) E u = Rn m_C_tautSet 16 [l0, l1, l2, l3, l4] (vR (some (k + 2)) :: st) E u) ∧
  (∀ (l1 l2 l3 l4 : am_V) (a : Option Nat) (st : List am_V) (E : am_E) (u : am_M), Rn m_C_tautSet 16 [vR a, l1, l2, l3, l4] st E u = Rn m_C_tautSet 17 [vR a, l1, l2, l3, l4] (vR a :: st) E u) ∧
  (∀ (l0 l1 l2 l3 l4 : am_V) (k : Nat) (st : List am_V) (E : am_E) (u : am_M) (hE : SE E) (hk : cuB k), Rn m_C_tautSet 17 [l0, l1, l2, l3, l4] (vR (some k) :: st) E u = Rn m_C_tautSet 20 [l0, l1, l2, l3, l4] (vR (some (k + 4)) :: st) E u) ∧
  (∀ (l0 l1 l3 l4 : am_V) (a : Int) (st : List am_V) (E : am_E) (u : am_M), Rn m_C_tautSet 20 [l0, l1, vI a, l3, l4] st E u = Rn m_C_tautSet 21 [l0, l1, vI a, l3, l4] (vI a :: st) E u) ∧
  (∀ (l0 l1 l2 l3 l4 : am_V) (a0 : Option Nat) (a1 : Int) (r0 : am_V) (E : am_E) (u : am_M), Rn m_C_tautSet 21 [l0, l1, l2, l3, l4] [vI a1, vR a0, r0] E u = bdI (Rn m_A_look 0 [vR a0, vI a1] [] E u) (KI m_C_tautSet 24 [l0, l1, l2, l3, l4] [r0])) ∧
  (∀ (l0 l1 l2 l3 l4 : am_V) (a0 : Option Nat) (a1 : Int) (E : am_E) (u : am_M), Rn m_C_tautSet 24 [l0, l1, l2, l3, l4] [vI a1, vR a0] E u = bdI (Rn m_A_look 0 [vR a0, vI a1] [] E u) (KI m_C_tautSet 27 [l0, l1, l2, l3, l4] [])) ∧
  (∀ (l0 l1 l2 l3 l4 : am_V) (a : Int) (st : List am_V) (E : am_E) (u : am_M), Rn m_C_tautSet 27 [l0, l1, l2, l3, l4] (vI a :: st) E u = Rn m_C_tautSet 28 [l0, l1, am_fx l2, vI a, l4] st E u) ∧
  (∀ (l1 l2 l3 l4 : am_V) (a : Option Nat) (st : List am_V) (E : am_E) (u : am_M), Rn m_C_tautSet 28 [vR a, l1, l2, l3, l4] st E u = Rn m_C_tautSet 29 [vR a, l1, l2, l3, l4] (vR a :: st) E u) ∧
  (∀ (l0 l1 l2 l3 l4 : am_V) (k : Nat) (st : List am_V) (E : am_E) (u : am_M) (hE : SE E) (hk : cuB k), Rn m_C_tautSet 29 [l0, l1, l2, l3, l4] (vR (some k) :: st) E u = Rn m_C_tautSet 32 [l0, l1, l2, l3, l4] (vR (some (k + 2)) :: st) E u) ∧
  (∀ (l1 l2 l3 l4 : am_V) (a : Option Nat) (st : List am_V) (E : am_E) (u : am_M), Rn m_C_tautSet 32 [vR a, l1, l2, l3, l4] st E u = Rn m_C_tautSet 33 [vR a, l1, l2, l3, l4] (vR a :: st) E u) ∧
  (∀ (l0 l1 l2 l3 l4 : am_V) (k : Nat) (st : List am_V) (E : am_E) (u : am_M) (hE : SE E) (hk : cuB k), Rn m_C_tautSet 33 [l0, l1, l2, l3, l4] (vR (some k) :: st) E u = Rn m_C_tautSet 36 [l0, l1, l2, l3, l4] (vR (some (k + 5)) :: st) E u) ∧
  (∀ (l0 l1 l3 l4 : am_V) (a : Int) (st : List am_V) (E : am_E) (u : am_M), Rn m_C_tautSet 36 [l0, l1, vI a, l3, l4] st E u = Rn m_C_tautSet 37 [l0, l1, vI a, l3, l4] (vI a :: st) E u) ∧
  (∀ (l0 l1 l2 l3 l4 : am_V) (a0 : Option Nat) (a1 : Int) (r0 : am_V) (E : am_E) (u : am_M), Rn m_C_tautSet 37 [l0, l1, l2, l3, l4] [vI a1, vR a0, r0] E u = bdI (Rn m_A_look 0 [vR a0, vI a1] [] E u) (KI m_C_tautSet 40 [l0, l1, l2, l3, l4] [r0])) ∧
  (∀ (l0 l1 l2 l3 l4 : am_V) (a0 : Option Nat) (a1 : Int) (E : am_E) (u : am_M), Rn m_C_tautSet 40 [l0, l1, l2, l3, l4] [vI a1, vR a0] E u = bdI (Rn m_A_look 0 [vR a0, vI a1] [] E u) (KI m_C_tautSet 43 [l0, l1, l2, l3, l4] [])) ∧
  (∀ (l0 l1 l2 l3 l4 : am_V) (a : Int) (st : List am_V) (E : am_E) (u : am_M), Rn m_C_tautSet 43 [l0, l1, l2, l3, l4] (vI a :: st) E u = Rn m_C_tautSet 45 [l0, l1, l2, am_fx l3, vI a] st E u) ∧
  (∀ (l1 l2 l3 l4 : am_V) (a : Option Nat) (st : List am_V) (E : am_E) (u : am_M), Rn m_C_tautSet 45 [vR a, l1, l2, l3, l4] st E u = Rn m_C_tautSet 46 [vR a, l1, l2, l3, l4] (vR a :: st) E u) ∧
  (∀ (l0 l1 l3 l4 : am_V) (a : Int) (st : List am_V) (E : am_E) (u : am_M), Rn m_C_tautSet 46 [l0, l1, vI a, l3, l4] st E u = Rn m_C_tautSet 47 [l0, l1, vI a, l3, l4] (vI a :: st) E u) ∧
  (∀ (l0 l1 l2 l3 l4 : am_V) (k : Nat) (a0 : Int) (E : am_E) (u : am_M) (hE : SE E) (hk : cuB k), Rn m_C_tautSet 47 [l0, l1, l2, l3, l4] [vI a0, vR (some k)] E u = bdI (Rn m_C_holds 0 [vR (some k), vI a0, vB false, vB false] [] E u) (KI m_C_tautSet 50 [l0, l1, l2, l3, l4] [])) ∧
  (∀ (l0 l1 l2 l3 l4 : am_V) (a : Int) (st : List am_V) (E : am_E) (u : am_M), Rn m_C_tautSet 50 [l0, l1, l2, l3, l4] (vI a :: st) E u = if a = 0 then Rn m_C_tautSet 77 [l0, l1, l2, l3, l4] st E u else Rn m_C_tautSet 53 [l0, l1, l2, l3, l4] st E u) ∧
  (∀ (l1 l2 l3 l4 : am_V) (a : Option Nat) (st : List am_V) (E : am_E) (u : am_M), Rn m_C_tautSet 53 [vR a, l1, l2, l3, l4] st E u = Rn m_C_tautSet 54 [vR a, l1, l2, l3, l4] (vR a :: st) E u) ∧
  (∀ (l0 l1 l2 l4 : am_V) (a : Int) (st : List am_V) (E : am_E) (u : am_M), Rn m_C_tautSet 54 [l0, l1, l2, vI a, l4] st E u = Rn m_C_tautSet 55 [l0, l1, l2, vI a, l4] (vI a :: st) E u) ∧
  (∀ (l0 l1 l2 l3 : am_V) (a : Int) (st : List am_V) (E : am_E) (u : am_M), Rn m_C_tautSet 55 [l0, l1, l2, l3, vI a] st E u = Rn m_C_tautSet 57 [l0, l1, l2, l3, vI a] (vI a :: st) E u) ∧
  (∀ (l0 l1 l2 l3 l4 : am_V) (k : Nat) (a0 : Int) (a1 : Int) (E : am_E) (u : am_M) (hE : SE E) (hk : cuB k), Rn m_C_tautSet 57 [l0, l1, l2, l3, l4] [vI a1, vI a0, vR (some k)] E u = bdI (Rn m_C_far 0 [vR (some k), vI a0, vI a1, vB false, vB false, vB false] [] E u) (KI m_C_tautSet 60 [l0, l1, l2, l3, l4] [])) ∧
  (∀ (l1 l2 l3 l4 : am_V) (a : Option Nat) (st : List am_V) (E : am_E) (u : am_M), Rn m_C_tautSet 60 [vR a, l1, l2, l3, l4] st E u = Rn m_C_tautSet 61 [vR a, l1, l2, l3, l4] (vR a :: st) E u) ∧
  (∀ (l0 l1 l2 l3 l4 : am_V) (k : Nat) (st : List am_V) (E : am_E) (u : am_M) (hE : SE E) (hk : cuB k), Rn m_C_tautSet 61 [l0, l1, l2, l3, l4] (vR (some k) :: st) E u = Rn m_C_tautSet 64 [l0, l1, l2, l3, l4] (vR (some (k + 6)) :: st) E u) ∧
  (∀ (l0 l1 l3 l4 : am_V) (a : Int) (st : List am_V) (E : am_E) (u : am_M), Rn m_C_tautSet 64 [l0, l1, vI a, l3, l4] st E u = Rn m_C_tautSet 65 [l0, l1, vI a, l3, l4] (vI a :: st) E u) ∧
  (∀ (l0 l1 l2 l3 l4 : am_V) (a0 : Option Nat) (a1 : Int) (r0 : am_V) (E : am_E) (u : am_M), Rn m_C_tautSet 65 [l0, l1, l2, l3, l4] [vI a1, vR a0, r0] E u = bdI (Rn m_A_look 0 [vR a0, vI a1] [] E u) (KI m_C_tautSet 68 [l0, l1, l2, l3, l4] [r0])) ∧
  (∀ (l0 l1 l2 l3 l4 : am_V) (a b : Int) (st : List am_V) (E : am_E) (u : am_M), Rn m_C_tautSet 68 [l0, l1, l2, l3, l4] (vI b :: vI a :: st) E u = if a = b then Rn m_C_tautSet 71 [l0, l1, l2, l3, l4] st E u else Rn m_C_tautSet 77 [l0, l1, l2, l3, l4] st E u) ∧
  (∀ (l0 l2 l3 l4 : am_V) (a : Int) (st : List am_V) (E : am_E) (u : am_M), Rn m_C_tautSet 71 [l0, vI a, l2, l3, l4] st E u = Rn m_C_tautSet 72 [l0, vI a, l2, l3, l4] (vI a :: st) E u) ∧
  (∀ (l0 l1 l2 l3 l4 : am_V) (st : List am_V) (E : am_E) (u : am_M), Rn m_C_tautSet 72 [l0, l1, l2, l3, l4] st E u = Rn m_C_tautSet 73 [l0, l1, l2, l3, l4] (vI 1 :: st) E u) ∧
  (∀ (l0 l1 l3 l4 : am_V) (a : Int) (st : List am_V) (E : am_E) (u : am_M), Rn m_C_tautSet 73 [l0, l1, vI a, l3, l4] st E u = Rn m_C_tautSet 74 [l0, l1, vI a, l3, l4] (vI a :: st) E u) ∧
  (∀ (l0 l1 l2 l3 l4 : am_V) (a b : Int) (st : List am_V) (E : am_E) (u : am_M), Rn m_C_tautSet 74 [l0, l1, l2, l3, l4] (vI b :: vI a :: st) E u = Rn m_C_tautSet 75 [l0, l1, l2, l3, l4] (vI (i_shl a b) :: st) E u) ∧
  (∀ (l0 l1 l2 l3 l4 : am_V) (a b : Int) (st : List am_V) (E : am_E) (u : am_M), Rn m_C_tautSet 75 [l0, l1, l2, l3, l4] (vI b :: vI a :: st) E u = Rn m_C_tautSet 76 [l0, l1, l2, l3, l4] (vI (i_or a b) :: st) E u) ∧
  (∀ (l0 l1 l2 l3 l4 : am_V) (a : Int) (st : List am_V) (E : am_E) (u : am_M), Rn m_C_tautSet 76 [l0, l1, l2, l3, l4] (vI a :: st) E u = Rn m_C_tautSet 77 [am_fx l0, vI a, l2, l3, l4] st E u) ∧
  (∀ (l0 l1 l3 l4 : am_V) (a : Int) (st : List am_V) (E : am_E) (u : am_M), Rn m_C_tautSet 77 [l0, l1, vI a, l3, l4] st E u = Rn m_C_tautSet 80 [l0, am_fx l1, vI (w32 (a + 1)), l3, l4] st E u) ∧
  (∀ (l0 l1 l2 l3 l4 : am_V) (st : List am_V) (E : am_E) (u : am_M), Rn m_C_tautSet 80 [l0, l1, l2, l3, l4] st E u = Rn m_C_tautSet 4 [l0, l1, l2, l3, l4] st E u) ∧
  (∀ (l0 l2 l3 l4 : am_V) (a : Int) (st : List am_V) (E : am_E) (u : am_M), Rn m_C_tautSet 83 [l0, vI a, l2, l3, l4] st E u = Rn m_C_tautSet 84 [l0, vI a, l2, l3, l4] (vI a :: st) E u) ∧
  (∀ (l0 l1 l2 l3 l4 : am_V) (a : Int) (E : am_E) (u : am_M), Rn m_C_tautSet 84 [l0, l1, l2, l3, l4] [vI a] E u = some (some (vI a), E, u)) :=
  ⟨fun l0 l1 l2 l3 l4 st E u => q_go (by decide +kernel : am_Pg 169 0 = some (.iconst 0, 1, [], 0)) rfl,
  fun l0 l1 l2 l3 l4 a st E u => q_go (by decide +kernel : am_Pg 169 1 = some (.istore_n 1, 1, [], 0)) rfl,
  fun l0 l1 l2 l3 l4 st E u => q_go (by decide +kernel : am_Pg 169 2 = some (.iconst 0, 1, [], 0)) rfl,
  fun l0 l1 l2 l3 l4 a st E u => q_go (by decide +kernel : am_Pg 169 3 = some (.istore_n 2, 1, [], 0)) rfl,
  fun l1 l2 l3 l4 a st E u => q_go (by decide +kernel : am_Pg 169 5 = some (.aload_n 0, 1, [], 0)) rfl,
  fun l0 l1 l2 l3 l4 k st E u hE hk => q_gfI (by decide +kernel : am_Pg 169 6 = some (.getfield 49, 3, [0, 14, 3, 0], 0)) (SE_k0 hE hk) (by decide),
  fun l0 l1 l2 l3 l4 a b st E u => q_icmp_ge (tgt := 83) (by decide +kernel : am_Pg 169 9 = some (.if_icmp .ge 74, 3, [], 0)) (by decide),
  fun l1 l2 l3 l4 a st E u => q_go (by decide +kernel : am_Pg 169 12 = some (.aload_n 0, 1, [], 0)) rfl,
  fun l0 l1 l2 l3 l4 k st E u hE hk => q_gfR (by decide +kernel : am_Pg 169 13 = some (.getfield 25, 3, [0, 14, 9, 0], 0)) (SE_k0 hE hk) rfl (SE_r0_9 hE hk),
  fun l1 l2 l3 l4 a st E u => q_go (by decide +kernel : am_Pg 169 16 = some (.aload_n 0, 1, [], 0)) rfl,
  fun l0 l1 l2 l3 l4 k st E u hE hk => q_gfR (by decide +kernel : am_Pg 169 17 = some (.getfield 31, 3, [0, 14, 11, 0], 0)) (SE_k0 hE hk) rfl (SE_r0_11 hE hk),
  fun l0 l1 l3 l4 a st E u => q_go (by decide +kernel : am_Pg 169 20 = some (.iload_n 2, 1, [], 0)) rfl,
  fun l0 l1 l2 l3 l4 a0 a1 r0 E u => q_cI (by decide +kernel : am_Pg 169 21 = some (.invokestatic 105, 3, [2, 36, 2, 1], 0)) (am_call_S (f := fun _ _ => true) (a := [vR a0, vI a1]) (st' := [r0]) (Nat.le_of_ble_eq_true rfl) rfl rfl) (by decide +kernel : am_Lm m_A_look = 2) (Nat.le_of_ble_eq_true rfl) rfl (by decide +kernel),
  fun l0 l1 l2 l3 l4 a0 a1  E u => q_cI (by decide +kernel : am_Pg 169 24 = some (.invokestatic 105, 3, [2, 36, 2, 1], 0)) (am_call_S (f := fun _ _ => true) (a := [vR a0, vI a1]) (st' := []) (Nat.le_of_ble_eq_true rfl) rfl rfl) (by decide +kernel : am_Lm m_A_look = 2) (Nat.le_of_ble_eq_true rfl) rfl (by decide +kernel),
  fun l0 l1 l2 l3 l4 a st E u => q_go (by decide +kernel : am_Pg 169 27 = some (.istore_n 3, 1, [], 0)) rfl,
  fun l1 l2 l3 l4 a st E u => q_go (by decide +kernel : am_Pg 169 28 = some (.aload_n 0, 1, [], 0)) rfl,
  fun l0 l1 l2 l3 l4 k st E u hE hk => q_gfR (by decide +kernel : am_Pg 169 29 = some (.getfield 25, 3, [0, 14, 9, 0], 0)) (SE_k0 hE hk) rfl (SE_r0_9 hE hk),
  fun l1 l2 l3 l4 a st E u => q_go (by decide +kernel : am_Pg 169 32 = some (.aload_n 0, 1, [], 0)) rfl,
  fun l0 l1 l2 l3 l4 k st E u hE hk => q_gfR (by decide +kernel : am_Pg 169 33 = some (.getfield 34, 3, [0, 14, 12, 0], 0)) (SE_k0 hE hk) rfl (SE_r0_12 hE hk),
  fun l0 l1 l3 l4 a st E u => q_go (by decide +kernel : am_Pg 169 36 = some (.iload_n 2, 1, [], 0)) rfl,
  fun l0 l1 l2 l3 l4 a0 a1 r0 E u => q_cI (by decide +kernel : am_Pg 169 37 = some (.invokestatic 105, 3, [2, 36, 2, 1], 0)) (am_call_S (f := fun _ _ => true) (a := [vR a0, vI a1]) (st' := [r0]) (Nat.le_of_ble_eq_true rfl) rfl rfl) (by decide +kernel : am_Lm m_A_look = 2) (Nat.le_of_ble_eq_true rfl) rfl (by decide +kernel),
  fun l0 l1 l2 l3 l4 a0 a1  E u => q_cI (by decide +kernel : am_Pg 169 40 = some (.invokestatic 105, 3, [2, 36, 2, 1], 0)) (am_call_S (f := fun _ _ => true) (a := [vR a0, vI a1]) (st' := []) (Nat.le_of_ble_eq_true rfl) rfl rfl) (by decide +kernel : am_Lm m_A_look = 2) (Nat.le_of_ble_eq_true rfl) rfl (by decide +kernel),
  fun l0 l1 l2 l3 l4 a st E u => q_go (by decide +kernel : am_Pg 169 43 = some (.istore 4, 2, [], 0)) rfl,
  fun l1 l2 l3 l4 a st E u => q_go (by decide +kernel : am_Pg 169 45 = some (.aload_n 0, 1, [], 0)) rfl,
  fun l0 l1 l3 l4 a st E u => q_go (by decide +kernel : am_Pg 169 46 = some (.iload_n 2, 1, [], 0)) rfl,
  fun l0 l1 l2 l3 l4 k a0  E u hE hk => q_cI (by decide +kernel : am_Pg 169 47 = some (.invokevirtual 109, 3, [3, 41, 2, 0, 14, 0], 0)) (am_call_V (a := [vI a0]) (st' := []) (Nat.le_of_ble_eq_true rfl) rfl (SE_k0 hE hk)) (by decide +kernel : am_Lm m_C_holds = 4) (Nat.le_of_ble_eq_true rfl) rfl (by decide +kernel),
  fun l0 l1 l2 l3 l4 a st E u => q_if_eq (tgt := 77) (by decide +kernel : am_Pg 169 50 = some (.ifCond .eq 27, 3, [], 0)) (by decide),
  fun l1 l2 l3 l4 a st E u => q_go (by decide +kernel : am_Pg 169 53 = some (.aload_n 0, 1, [], 0)) rfl,
  fun l0 l1 l2 l4 a st E u => q_go (by decide +kernel : am_Pg 169 54 = some (.iload_n 3, 1, [], 0)) rfl,
  fun l0 l1 l2 l3 a st E u => q_go (by decide +kernel : am_Pg 169 55 = some (.iload 4, 2, [], 0)) rfl,
  fun l0 l1 l2 l3 l4 k a0 a1  E u hE hk => q_cI (by decide +kernel : am_Pg 169 57 = some (.invokevirtual 95, 3, [3, 40, 3, 0, 14, 0], 0)) (am_call_V (a := [vI a0, vI a1]) (st' := []) (Nat.le_of_ble_eq_true rfl) rfl (SE_k0 hE hk)) (by decide +kernel : am_Lm m_C_far = 6) (Nat.le_of_ble_eq_true rfl) rfl (by decide +kernel),
  fun l1 l2 l3 l4 a st E u => q_go (by decide +kernel : am_Pg 169 60 = some (.aload_n 0, 1, [], 0)) rfl,
  fun l0 l1 l2 l3 l4 k st E u hE hk => q_gfR (by decide +kernel : am_Pg 169 61 = some (.getfield 37, 3, [0, 14, 13, 0], 0)) (SE_k0 hE hk) rfl (SE_r0_13 hE hk),
  fun l0 l1 l3 l4 a st E u => q_go (by decide +kernel : am_Pg 169 64 = some (.iload_n 2, 1, [], 0)) rfl,
  fun l0 l1 l2 l3 l4 a0 a1 r0 E u => q_cI (by decide +kernel : am_Pg 169 65 = some (.invokestatic 105, 3, [2, 36, 2, 1], 0)) (am_call_S (f := fun _ _ => true) (a := [vR a0, vI a1]) (st' := [r0]) (Nat.le_of_ble_eq_true rfl) rfl rfl) (by decide +kernel : am_Lm m_A_look = 2) (Nat.le_of_ble_eq_true rfl) rfl (by decide +kernel),
  fun l0 l1 l2 l3 l4 a b st E u => q_icmp_ne (tgt := 77) (by decide +kernel : am_Pg 169 68 = some (.if_icmp .ne 9, 3, [], 0)) (by decide),
  fun l0 l2 l3 l4 a st E u => q_go (by decide +kernel : am_Pg 169 71 = some (.iload_n 1, 1, [], 0)) rfl,
  fun l0 l1 l2 l3 l4 st E u => q_go (by decide +kernel : am_Pg 169 72 = some (.iconst 1, 1, [], 0)) rfl,
  fun l0 l1 l3 l4 a st E u => q_go (by decide +kernel : am_Pg 169 73 = some (.iload_n 2, 1, [], 0)) rfl,
  fun l0 l1 l2 l3 l4 a b st E u => q_go (by decide +kernel : am_Pg 169 74 = some (.ishl, 1, [], 0)) rfl,
  fun l0 l1 l2 l3 l4 a b st E u => q_go (by decide +kernel : am_Pg 169 75 = some (.ior, 1, [], 0)) rfl,
  fun l0 l1 l2 l3 l4 a st E u => q_go (by decide +kernel : am_Pg 169 76 = some (.istore_n 1, 1, [], 0)) rfl,
  fun l0 l1 l3 l4 a st E u => q_go (by decide +kernel : am_Pg 169 77 = some (.iinc 2 1, 3, [], 0)) rfl,
  fun l0 l1 l2 l3 l4 st E u => q_go (by decide +kernel : am_Pg 169 80 = some (.goto (-76), 3, [], 0)) rfl,
  fun l0 l2 l3 l4 a st E u => q_go (by decide +kernel : am_Pg 169 83 = some (.iload_n 1, 1, [], 0)) rfl,
  fun l0 l1 l2 l3 l4 a E u => q_ret (by decide +kernel : am_Pg 169 84 = some (.ireturn, 1, [], 0)) rfl⟩
theorem h_P_becomes_20 : ∀ (l0 l1 l3 : am_V) (a : Int) (st : List am_V) (E : am_E) (u : am_M), Rn m_P_becomes 20 [l0, l1, vI a, l3] st E u = Rn m_P_becomes 21 [l0, l1, vI a, l3] (vI a :: st) E u :=
  fun l0 l1 l3 a st E u => q_go (by decide +kernel : am_Pg 176 20 = some (.iload_n 2, 1, [], 0)) rfl
theorem x_P_becomes :
  (∀ (l0 l2 l3 : am_V) (a : Option Nat) (st : List am_V) (E : am_E) (u : am_M), Rn m_P_becomes 0 [l0, vR a, l2, l3] st E u = Rn m_P_becomes 1 [l0, vR a, l2, l3] (vR a :: st) E u) ∧
  (∀ (l0 l1 l2 l3 : am_V) (st : List am_V) (E : am_E) (u : am_M), Rn m_P_becomes 1 [l0, l1, l2, l3] (vR none :: st) E u = Rn m_P_becomes 4 [l0, l1, l2, l3] st E u) ∧
  (∀ (l0 l1 l2 l3 : am_V) (a : Nat) (st : List am_V) (E : am_E) (u : am_M), Rn m_P_becomes 1 [l0, l1, l2, l3] (vR (some a) :: st) E u = Rn m_P_becomes 5 [l0, l1, l2, l3] st E u) ∧
  (∀ (l0 l1 l2 l3 : am_V) (E : am_E) (u : am_M), Rn m_P_becomes 4 [l0, l1, l2, l3] [] E u = some (none, E, u)) ∧
  (∀ (l1 l2 l3 : am_V) (a : Option Nat) (st : List am_V) (E : am_E) (u : am_M), Rn m_P_becomes 5 [vR a, l1, l2, l3] st E u = Rn m_P_becomes 6 [vR a, l1, l2, l3] (vR a :: st) E u) ∧
  (∀ (l0 l1 l2 l3 : am_V) (st : List am_V) (E : am_E) (u : am_M), Rn m_P_becomes 6 [l0, l1, l2, l3] st E u = Rn m_P_becomes 7 [l0, l1, l2, l3] (vI 0 :: st) E u) ∧
  (∀ (l0 l1 l2 l3 : am_V) (k : Nat) (a : Int) (st : List am_V) (E : am_E) (u : am_M) (hE : SE E) (hk : paB k), Rn m_P_becomes 7 [l0, l1, l2, l3] (vI a :: vR (some k) :: st) E u = Rn m_P_becomes 10 [l0, l1, l2, l3] st E (am_up u k 1 a)) ∧
  (∀ (l1 l2 l3 : am_V) (a : Option Nat) (st : List am_V) (E : am_E) (u : am_M), Rn m_P_becomes 10 [vR a, l1, l2, l3] st E u = Rn m_P_becomes 11 [vR a, l1, l2, l3] (vR a :: st) E u) ∧
  (∀ (l0 l2 l3 : am_V) (a : Option Nat) (st : List am_V) (E : am_E) (u : am_M), Rn m_P_becomes 11 [l0, vR a, l2, l3] st E u = Rn m_P_becomes 12 [l0, vR a, l2, l3] (vR a :: st) E u) ∧
  (∀ (l0 l1 l2 l3 : am_V) (k : Nat) (st : List am_V) (E : am_E) (u : am_M) (hE : SE E) (hk : paB k), Rn m_P_becomes 12 [l0, l1, l2, l3] (vR (some k) :: st) E u = Rn m_P_becomes 15 [l0, l1, l2, l3] (vI (u k 2) :: st) E u) ∧
  (∀ (l0 l1 l2 l3 : am_V) (k : Nat) (a : Int) (st : List am_V) (E : am_E) (u : am_M) (hE : SE E) (hk : paB k), Rn m_P_becomes 15 [l0, l1, l2, l3] (vI a :: vR (some k) :: st) E u = Rn m_P_becomes 18 [l0, l1, l2, l3] st E (am_up u k 2 a)) ∧
  (∀ (l0 l1 l2 l3 : am_V) (st : List am_V) (E : am_E) (u : am_M), Rn m_P_becomes 18 [l0, l1, l2, l3] st E u = Rn m_P_becomes 19 [l0, l1, l2, l3] (vI 0 :: st) E u) ∧
  (∀ (l0 l1 l2 l3 : am_V) (a : Int) (st : List am_V) (E : am_E) (u : am_M), Rn m_P_becomes 19 [l0, l1, l2, l3] (vI a :: st) E u = Rn m_P_becomes 20 [l0, am_fx l1, vI a, l3] st E u) ∧
  (∀ (l1 l2 l3 : am_V) (a : Option Nat) (st : List am_V) (E : am_E) (u : am_M), Rn m_P_becomes 21 [vR a, l1, l2, l3] st E u = Rn m_P_becomes 22 [vR a, l1, l2, l3] (vR a :: st) E u) ∧
  (∀ (l0 l1 l2 l3 : am_V) (k : Nat) (st : List am_V) (E : am_E) (u : am_M) (hE : SE E) (hk : paB k), Rn m_P_becomes 22 [l0, l1, l2, l3] (vR (some k) :: st) E u = Rn m_P_becomes 25 [l0, l1, l2, l3] (vI (u k 2) :: st) E u) ∧
  (∀ (l0 l1 l2 l3 : am_V) (a b : Int) (st : List am_V) (E : am_E) (u : am_M), Rn m_P_becomes 25 [l0, l1, l2, l3] (vI b :: vI a :: st) E u = if a < b then Rn m_P_becomes 28 [l0, l1, l2, l3] st E u else Rn m_P_becomes 53 [l0, l1, l2, l3] st E u) ∧
  (∀ (l1 l2 l3 : am_V) (a : Option Nat) (st : List am_V) (E : am_E) (u : am_M), Rn m_P_becomes 28 [vR a, l1, l2, l3] st E u = Rn m_P_becomes 29 [vR a, l1, l2, l3] (vR a :: st) E u) ∧
  (∀ (l0 l1 l3 : am_V) (a : Int) (st : List am_V) (E : am_E) (u : am_M), Rn m_P_becomes 29 [l0, l1, vI a, l3] st E u = Rn m_P_becomes 30 [l0, l1, vI a, l3] (vI a :: st) E u) ∧
  (∀ (l0 l1 l2 l3 : am_V) (k : Nat) (a0 : Int) (E : am_E) (u : am_M) (hE : SE E) (hk : paB k), Rn m_P_becomes 30 [l0, l1, l2, l3] [vI a0, vR (some k)] E u = bdR (Rn m_P_moment 0 [vR (some k), vI a0, vB false] [] E u) (KR m_P_becomes 33 [l0, l1, l2, l3] [])) ∧
  (∀ (l0 l1 l2 l3 : am_V) (a : Option Nat) (st : List am_V) (E : am_E) (u : am_M), Rn m_P_becomes 33 [l0, l1, l2, l3] (vR a :: st) E u = Rn m_P_becomes 34 [l0, l1, am_fx l2, vR a] st E u) ∧
  (∀ (l0 l1 l2 : am_V) (a : Option Nat) (st : List am_V) (E : am_E) (u : am_M), Rn m_P_becomes 34 [l0, l1, l2, vR a] st E u = Rn m_P_becomes 35 [l0, l1, l2, vR a] (vR a :: st) E u) ∧
  (∀ (l0 l1 l2 l3 : am_V) (st : List am_V) (E : am_E) (u : am_M), Rn m_P_becomes 35 [l0, l1, l2, l3] (vR none :: st) E u = Rn m_P_becomes 47 [l0, l1, l2, l3] st E u) ∧
  (∀ (l0 l1 l2 l3 : am_V) (a : Nat) (st : List am_V) (E : am_E) (u : am_M), Rn m_P_becomes 35 [l0, l1, l2, l3] (vR (some a) :: st) E u = Rn m_P_becomes 38 [l0, l1, l2, l3] st E u) ∧
  (∀ (l0 l1 l2 : am_V) (a : Option Nat) (st : List am_V) (E : am_E) (u : am_M), Rn m_P_becomes 38 [l0, l1, l2, vR a] st E u = Rn m_P_becomes 39 [l0, l1, l2, vR a] (vR a :: st) E u) ∧
  (∀ (l0 l2 l3 : am_V) (a : Option Nat) (st : List am_V) (E : am_E) (u : am_M), Rn m_P_becomes 39 [l0, vR a, l2, l3] st E u = Rn m_P_becomes 40 [l0, vR a, l2, l3] (vR a :: st) E u) ∧
  (∀ (l0 l1 l3 : am_V) (a : Int) (st : List am_V) (E : am_E) (u : am_M), Rn m_P_becomes 40 [l0, l1, vI a, l3] st E u = Rn m_P_becomes 41 [l0, l1, vI a, l3] (vI a :: st) E u) ∧
  (∀ (l0 l1 l2 l3 : am_V) (k : Nat) (a0 : Int) (r0 : am_V) (E : am_E) (u : am_M) (hE : SE E) (hk : paB k), Rn m_P_becomes 41 [l0, l1, l2, l3] [vI a0, vR (some k), r0] E u = bdR (Rn m_P_moment 0 [vR (some k), vI a0, vB false] [] E u) (KR m_P_becomes 44 [l0, l1, l2, l3] [r0])) ∧
  (∀ (l0 l1 l2 l3 : am_V) (k : Nat) (a0 : Option Nat) (E : am_E) (u : am_M) (hE : SE E) (hk : cuB k), Rn m_P_becomes 44 [l0, l1, l2, l3] [vR a0, vR (some k)] E u = bdV (Rn m_C_becomes 0 [vR (some k), vR a0] [] E u) (KV m_P_becomes 47 [l0, l1, l2, l3] [])) ∧
  (∀ (l0 l1 l3 : am_V) (a : Int) (st : List am_V) (E : am_E) (u : am_M), Rn m_P_becomes 47 [l0, l1, vI a, l3] st E u = Rn m_P_becomes 50 [l0, am_fx l1, vI (w32 (a + 1)), l3] st E u) ∧
  (∀ (l0 l1 l2 l3 : am_V) (st : List am_V) (E : am_E) (u : am_M), Rn m_P_becomes 50 [l0, l1, l2, l3] st E u = Rn m_P_becomes 20 [l0, l1, l2, l3] st E u) ∧
  (∀ (l0 l1 l2 l3 : am_V) (E : am_E) (u : am_M), Rn m_P_becomes 53 [l0, l1, l2, l3] [] E u = some (none, E, u)) :=
  ⟨fun l0 l2 l3 a st E u => q_go (by decide +kernel : am_Pg 176 0 = some (.aload_n 1, 1, [], 0)) rfl,
  fun l0 l1 l2 l3 st E u => q_go (by decide +kernel : am_Pg 176 1 = some (.ifnonnull 4, 3, [], 0)) rfl,
  fun l0 l1 l2 l3 a st E u => q_go (by decide +kernel : am_Pg 176 1 = some (.ifnonnull 4, 3, [], 0)) rfl,
  fun l0 l1 l2 l3 E u => q_ret (by decide +kernel : am_Pg 176 4 = some (.return_, 1, [], 0)) rfl,
  fun l1 l2 l3 a st E u => q_go (by decide +kernel : am_Pg 176 5 = some (.aload_n 0, 1, [], 0)) rfl,
  fun l0 l1 l2 l3 st E u => q_go (by decide +kernel : am_Pg 176 6 = some (.iconst 0, 1, [], 0)) rfl,
  fun l0 l1 l2 l3 k a st E u hE hk => q_pfI (by decide +kernel : am_Pg 176 7 = some (.putfield 18, 3, [1, 3, 1, 0], 0)) (SE_k1 hE hk) rfl,
  fun l1 l2 l3 a st E u => q_go (by decide +kernel : am_Pg 176 10 = some (.aload_n 0, 1, [], 0)) rfl,
  fun l0 l2 l3 a st E u => q_go (by decide +kernel : am_Pg 176 11 = some (.aload_n 1, 1, [], 0)) rfl,
  fun l0 l1 l2 l3 k st E u hE hk => q_gfI (by decide +kernel : am_Pg 176 12 = some (.getfield 22, 3, [1, 3, 2, 0], 0)) (SE_k1 hE hk) (by decide),
  fun l0 l1 l2 l3 k a st E u hE hk => q_pfI (by decide +kernel : am_Pg 176 15 = some (.putfield 22, 3, [1, 3, 2, 0], 0)) (SE_k1 hE hk) rfl,
  fun l0 l1 l2 l3 st E u => q_go (by decide +kernel : am_Pg 176 18 = some (.iconst 0, 1, [], 0)) rfl,
  fun l0 l1 l2 l3 a st E u => q_go (by decide +kernel : am_Pg 176 19 = some (.istore_n 2, 1, [], 0)) rfl,
  fun l1 l2 l3 a st E u => q_go (by decide +kernel : am_Pg 176 21 = some (.aload_n 0, 1, [], 0)) rfl,
  fun l0 l1 l2 l3 k st E u hE hk => q_gfI (by decide +kernel : am_Pg 176 22 = some (.getfield 22, 3, [1, 3, 2, 0], 0)) (SE_k1 hE hk) (by decide),
  fun l0 l1 l2 l3 a b st E u => q_icmp_ge (tgt := 53) (by decide +kernel : am_Pg 176 25 = some (.if_icmp .ge 28, 3, [], 0)) (by decide),
  fun l1 l2 l3 a st E u => q_go (by decide +kernel : am_Pg 176 28 = some (.aload_n 0, 1, [], 0)) rfl,
  fun l0 l1 l3 a st E u => q_go (by decide +kernel : am_Pg 176 29 = some (.iload_n 2, 1, [], 0)) rfl,
  fun l0 l1 l2 l3 k a0  E u hE hk => q_cR (by decide +kernel : am_Pg 176 30 = some (.invokevirtual 25, 3, [3, 99, 2, 1, 3, 0], 0)) (am_call_V (a := [vI a0]) (st' := []) (Nat.le_of_ble_eq_true rfl) rfl (SE_k1 hE hk)) (by decide +kernel : am_Lm m_P_moment = 3) (Nat.le_of_ble_eq_true rfl) rfl (by decide +kernel),
  fun l0 l1 l2 l3 a st E u => q_go (by decide +kernel : am_Pg 176 33 = some (.astore_n 3, 1, [], 0)) rfl,
  fun l0 l1 l2 a st E u => q_go (by decide +kernel : am_Pg 176 34 = some (.aload_n 3, 1, [], 0)) rfl,
  fun l0 l1 l2 l3 st E u => q_go (by decide +kernel : am_Pg 176 35 = some (.ifnull 12, 3, [], 0)) rfl,
  fun l0 l1 l2 l3 a st E u => q_go (by decide +kernel : am_Pg 176 35 = some (.ifnull 12, 3, [], 0)) rfl,
  fun l0 l1 l2 a st E u => q_go (by decide +kernel : am_Pg 176 38 = some (.aload_n 3, 1, [], 0)) rfl,
  fun l0 l2 l3 a st E u => q_go (by decide +kernel : am_Pg 176 39 = some (.aload_n 1, 1, [], 0)) rfl,
  fun l0 l1 l3 a st E u => q_go (by decide +kernel : am_Pg 176 40 = some (.iload_n 2, 1, [], 0)) rfl,
  fun l0 l1 l2 l3 k a0 r0 E u hE hk => q_cR (by decide +kernel : am_Pg 176 41 = some (.invokevirtual 25, 3, [3, 99, 2, 1, 3, 0], 0)) (am_call_V (a := [vI a0]) (st' := [r0]) (Nat.le_of_ble_eq_true rfl) rfl (SE_k1 hE hk)) (by decide +kernel : am_Lm m_P_moment = 3) (Nat.le_of_ble_eq_true rfl) rfl (by decide +kernel),
  fun l0 l1 l2 l3 k a0  E u hE hk => q_cV (by decide +kernel : am_Pg 176 44 = some (.invokevirtual 29, 3, [3, 78, 2, 0, 14, 1], 0)) (am_call_V (a := [vR a0]) (st' := []) (Nat.le_of_ble_eq_true rfl) rfl (SE_k0 hE hk)) (by decide +kernel : am_Lm m_C_becomes = 2) (Nat.le_of_ble_eq_true rfl) rfl (by decide +kernel),
  fun l0 l1 l3 a st E u => q_go (by decide +kernel : am_Pg 176 47 = some (.iinc 2 1, 3, [], 0)) rfl,
  fun l0 l1 l2 l3 st E u => q_go (by decide +kernel : am_Pg 176 50 = some (.goto (-30), 3, [], 0)) rfl,
  fun l0 l1 l2 l3 E u => q_ret (by decide +kernel : am_Pg 176 53 = some (.return_, 1, [], 0)) rfl⟩
theorem x_S_hasItems :
  (∀ (l0 l1 : am_V) (a : Int) (st : List am_V) (E : am_E) (u : am_M), Rn m_S_hasItems 0 [l0, l1, vI a] st E u = Rn m_S_hasItems 1 [l0, l1, vI a] (vI a :: st) E u) ∧
  (∀ (l0 l1 l2 : am_V) (a : Int) (st : List am_V) (E : am_E) (u : am_M), Rn m_S_hasItems 1 [l0, l1, l2] (vI a :: st) E u = if a < 0 then Rn m_S_hasItems 22 [l0, l1, l2] st E u else Rn m_S_hasItems 4 [l0, l1, l2] st E u) ∧
  (∀ (l0 l2 : am_V) (a : Int) (st : List am_V) (E : am_E) (u : am_M), Rn m_S_hasItems 4 [l0, vI a, l2] st E u = Rn m_S_hasItems 5 [l0, vI a, l2] (vI a :: st) E u) ∧
  (∀ (l0 l1 l2 : am_V) (a : Int) (st : List am_V) (E : am_E) (u : am_M), Rn m_S_hasItems 5 [l0, l1, l2] (vI a :: st) E u = if a < 0 then Rn m_S_hasItems 22 [l0, l1, l2] st E u else Rn m_S_hasItems 8 [l0, l1, l2] st E u) ∧
  (∀ (l0 l2 : am_V) (a : Int) (st : List am_V) (E : am_E) (u : am_M), Rn m_S_hasItems 8 [l0, vI a, l2] st E u = Rn m_S_hasItems 9 [l0, vI a, l2] (vI a :: st) E u) ∧
  (∀ (l1 l2 : am_V) (a : Option Nat) (st : List am_V) (E : am_E) (u : am_M), Rn m_S_hasItems 9 [vR a, l1, l2] st E u = Rn m_S_hasItems 10 [vR a, l1, l2] (vR a :: st) E u) ∧
  (∀ (l0 l1 l2 : am_V) (k : Nat) (st : List am_V) (E : am_E) (u : am_M) (hE : SE E) (hk : shB k), Rn m_S_hasItems 10 [l0, l1, l2] (vR (some k) :: st) E u = Rn m_S_hasItems 13 [l0, l1, l2] (vI (u k 3) :: st) E u) ∧
  (∀ (l0 l1 : am_V) (a : Int) (st : List am_V) (E : am_E) (u : am_M), Rn m_S_hasItems 13 [l0, l1, vI a] st E u = Rn m_S_hasItems 14 [l0, l1, vI a] (vI a :: st) E u) ∧
  (∀ (l0 l1 l2 : am_V) (a b : Int) (st : List am_V) (E : am_E) (u : am_M), Rn m_S_hasItems 14 [l0, l1, l2] (vI b :: vI a :: st) E u = Rn m_S_hasItems 15 [l0, l1, l2] (vI (w32 (a - b)) :: st) E u) ∧
  (∀ (l0 l1 l2 : am_V) (a b : Int) (st : List am_V) (E : am_E) (u : am_M), Rn m_S_hasItems 15 [l0, l1, l2] (vI b :: vI a :: st) E u = if b < a then Rn m_S_hasItems 22 [l0, l1, l2] st E u else Rn m_S_hasItems 18 [l0, l1, l2] st E u) ∧
  (∀ (l0 l1 l2 : am_V) (st : List am_V) (E : am_E) (u : am_M), Rn m_S_hasItems 18 [l0, l1, l2] st E u = Rn m_S_hasItems 19 [l0, l1, l2] (vI 1 :: st) E u) ∧
  (∀ (l0 l1 l2 : am_V) (st : List am_V) (E : am_E) (u : am_M), Rn m_S_hasItems 19 [l0, l1, l2] st E u = Rn m_S_hasItems 23 [l0, l1, l2] st E u) ∧
  (∀ (l0 l1 l2 : am_V) (st : List am_V) (E : am_E) (u : am_M), Rn m_S_hasItems 22 [l0, l1, l2] st E u = Rn m_S_hasItems 23 [l0, l1, l2] (vI 0 :: st) E u) ∧
  (∀ (l0 l1 l2 : am_V) (b : Bool) (E : am_E) (u : am_M), Rn m_S_hasItems 23 [l0, l1, l2] [vI (bI b)] E u = some (some (vI (bI b)), E, u)) ∧
  (∀ (l0 l1 l2 : am_V) (E : am_E) (u : am_M), Rn m_S_hasItems 23 [l0, l1, l2] [vI 1] E u = some (some (vI 1), E, u)) ∧
  (∀ (l0 l1 l2 : am_V) (E : am_E) (u : am_M), Rn m_S_hasItems 23 [l0, l1, l2] [vI 0] E u = some (some (vI 0), E, u)) :=
  ⟨fun l0 l1 a st E u => q_go (by decide +kernel : am_Pg 183 0 = some (.iload_n 2, 1, [], 0)) rfl,
  fun l0 l1 l2 a st E u => q_if_lt (tgt := 22) (by decide +kernel : am_Pg 183 1 = some (.ifCond .lt 21, 3, [], 0)) (by decide),
  fun l0 l2 a st E u => q_go (by decide +kernel : am_Pg 183 4 = some (.iload_n 1, 1, [], 0)) rfl,
  fun l0 l1 l2 a st E u => q_if_lt (tgt := 22) (by decide +kernel : am_Pg 183 5 = some (.ifCond .lt 17, 3, [], 0)) (by decide),
  fun l0 l2 a st E u => q_go (by decide +kernel : am_Pg 183 8 = some (.iload_n 1, 1, [], 0)) rfl,
  fun l1 l2 a st E u => q_go (by decide +kernel : am_Pg 183 9 = some (.aload_n 0, 1, [], 0)) rfl,
  fun l0 l1 l2 k st E u hE hk => q_gfI (by decide +kernel : am_Pg 183 10 = some (.getfield 23, 3, [2, 4, 3, 0], 0)) (SE_k2 hE hk) (by decide),
  fun l0 l1 a st E u => q_go (by decide +kernel : am_Pg 183 13 = some (.iload_n 2, 1, [], 0)) rfl,
  fun l0 l1 l2 a b st E u => q_go (by decide +kernel : am_Pg 183 14 = some (.isub, 1, [], 0)) rfl,
  fun l0 l1 l2 a b st E u => q_icmp_gt (tgt := 22) (by decide +kernel : am_Pg 183 15 = some (.if_icmp .gt 7, 3, [], 0)) (by decide),
  fun l0 l1 l2 st E u => q_go (by decide +kernel : am_Pg 183 18 = some (.iconst 1, 1, [], 0)) rfl,
  fun l0 l1 l2 st E u => q_go (by decide +kernel : am_Pg 183 19 = some (.goto 4, 3, [], 0)) rfl,
  fun l0 l1 l2 st E u => q_go (by decide +kernel : am_Pg 183 22 = some (.iconst 0, 1, [], 0)) rfl,
  fun l0 l1 l2 b E u => by cases b <;> exact q_ret (by decide +kernel : am_Pg 183 23 = some (.ireturn, 1, [1], 0)) rfl,
  fun l0 l1 l2 E u => q_ret (by decide +kernel : am_Pg 183 23 = some (.ireturn, 1, [1], 0)) rfl,
  fun l0 l1 l2 E u => q_ret (by decide +kernel : am_Pg 183 23 = some (.ireturn, 1, [1], 0)) rfl⟩
theorem x_S_refusal :
  (∀ (l1 l2 l3 : am_V) (a : Option Nat) (st : List am_V) (E : am_E) (u : am_M), Rn m_S_refusal 0 [vR a, l1, l2, l3] st E u = Rn m_S_refusal 1 [vR a, l1, l2, l3] (vR a :: st) E u) ∧
  (∀ (l0 l1 l2 l3 : am_V) (k : Nat) (st : List am_V) (E : am_E) (u : am_M) (hE : SE E) (hk : shB k), Rn m_S_refusal 1 [l0, l1, l2, l3] (vR (some k) :: st) E u = Rn m_S_refusal 4 [l0, l1, l2, l3] (vI (u k 1) :: st) E u) ∧
  (∀ (l0 l1 l2 l3 : am_V) (a : Int) (st : List am_V) (E : am_E) (u : am_M), Rn m_S_refusal 4 [l0, l1, l2, l3] (vI a :: st) E u = if a = 0 then Rn m_S_refusal 10 [l0, l1, l2, l3] st E u else Rn m_S_refusal 7 [l0, l1, l2, l3] st E u) ∧
  (∀ (l0 l1 l2 l3 : am_V) (st : List am_V) (E : am_E) (u : am_M), Rn m_S_refusal 7 [l0, l1, l2, l3] st E u = Rn m_S_refusal 9 [l0, l1, l2, l3] (vI (-11) :: st) E u) ∧
  (∀ (l0 l1 l2 l3 : am_V) (a : Int) (E : am_E) (u : am_M), Rn m_S_refusal 9 [l0, l1, l2, l3] [vI a] E u = some (some (vI a), E, u)) ∧
  (∀ (l0 l2 l3 : am_V) (a : Int) (st : List am_V) (E : am_E) (u : am_M), Rn m_S_refusal 10 [l0, vI a, l2, l3] st E u = Rn m_S_refusal 11 [l0, vI a, l2, l3] (vI a :: st) E u) ∧
  (∀ (l1 l2 l3 : am_V) (a : Option Nat) (st : List am_V) (E : am_E) (u : am_M), Rn m_S_refusal 11 [vR a, l1, l2, l3] st E u = Rn m_S_refusal 12 [vR a, l1, l2, l3] (vR a :: st) E u) ∧
  (∀ (l0 l1 l2 l3 : am_V) (k : Nat) (st : List am_V) (E : am_E) (u : am_M) (hE : SE E) (hk : shB k), Rn m_S_refusal 12 [l0, l1, l2, l3] (vR (some k) :: st) E u = Rn m_S_refusal 15 [l0, l1, l2, l3] (vI (u k 2) :: st) E u) ∧
  (∀ (l0 l1 l2 l3 : am_V) (a b : Int) (st : List am_V) (E : am_E) (u : am_M), Rn m_S_refusal 15 [l0, l1, l2, l3] (vI b :: vI a :: st) E u = if a = b then Rn m_S_refusal 21 [l0, l1, l2, l3] st E u else Rn m_S_refusal 18 [l0, l1, l2, l3] st E u) ∧
  (∀ (l0 l1 l2 l3 : am_V) (st : List am_V) (E : am_E) (u : am_M), Rn m_S_refusal 18 [l0, l1, l2, l3] st E u = Rn m_S_refusal 20 [l0, l1, l2, l3] (vI (-12) :: st) E u) ∧
  (∀ (l0 l1 l2 l3 : am_V) (a : Int) (E : am_E) (u : am_M), Rn m_S_refusal 20 [l0, l1, l2, l3] [vI a] E u = some (some (vI a), E, u)) ∧
  (∀ (l1 l2 l3 : am_V) (a : Option Nat) (st : List am_V) (E : am_E) (u : am_M), Rn m_S_refusal 21 [vR a, l1, l2, l3] st E u = Rn m_S_refusal 22 [vR a, l1, l2, l3] (vR a :: st) E u) ∧
  (∀ (l0 l1 l3 : am_V) (a : Int) (st : List am_V) (E : am_E) (u : am_M), Rn m_S_refusal 22 [l0, l1, vI a, l3] st E u = Rn m_S_refusal 23 [l0, l1, vI a, l3] (vI a :: st) E u) ∧
  (∀ (l0 l1 l2 : am_V) (a : Int) (st : List am_V) (E : am_E) (u : am_M), Rn m_S_refusal 23 [l0, l1, l2, vI a] st E u = Rn m_S_refusal 24 [l0, l1, l2, vI a] (vI a :: st) E u) ∧
  (∀ (l0 l1 l2 l3 : am_V) (k : Nat) (a0 : Int) (a1 : Int) (E : am_E) (u : am_M) (hE : SE E) (hk : shB k), Rn m_S_refusal 24 [l0, l1, l2, l3] [vI a1, vI a0, vR (some k)] E u = bdI (Rn m_S_hasItems 0 [vR (some k), vI a0, vI a1] [] E u) (KI m_S_refusal 27 [l0, l1, l2, l3] [])) ∧
  (∀ (l0 l1 l2 l3 : am_V) (a : Int) (st : List am_V) (E : am_E) (u : am_M), Rn m_S_refusal 27 [l0, l1, l2, l3] (vI a :: st) E u = if a = 0 then Rn m_S_refusal 34 [l0, l1, l2, l3] st E u else Rn m_S_refusal 30 [l0, l1, l2, l3] st E u) ∧
  (∀ (l0 l1 l2 l3 : am_V) (st : List am_V) (E : am_E) (u : am_M), Rn m_S_refusal 30 [l0, l1, l2, l3] st E u = Rn m_S_refusal 31 [l0, l1, l2, l3] (vI 0 :: st) E u) ∧
  (∀ (l0 l1 l2 l3 : am_V) (st : List am_V) (E : am_E) (u : am_M), Rn m_S_refusal 31 [l0, l1, l2, l3] st E u = Rn m_S_refusal 36 [l0, l1, l2, l3] st E u) ∧
  (∀ (l0 l1 l2 l3 : am_V) (st : List am_V) (E : am_E) (u : am_M), Rn m_S_refusal 34 [l0, l1, l2, l3] st E u = Rn m_S_refusal 36 [l0, l1, l2, l3] (vI (-13) :: st) E u) ∧
  (∀ (l0 l1 l2 l3 : am_V) (a : Int) (E : am_E) (u : am_M), Rn m_S_refusal 36 [l0, l1, l2, l3] [vI a] E u = some (some (vI a), E, u)) :=
  ⟨fun l1 l2 l3 a st E u => q_go (by decide +kernel : am_Pg 184 0 = some (.aload_n 0, 1, [], 0)) rfl,
  fun l0 l1 l2 l3 k st E u hE hk => q_gfI (by decide +kernel : am_Pg 184 1 = some (.getfield 15, 3, [2, 4, 1, 0], 0)) (SE_k2 hE hk) (by decide),
  fun l0 l1 l2 l3 a st E u => q_if_eq (tgt := 10) (by decide +kernel : am_Pg 184 4 = some (.ifCond .eq 6, 3, [], 0)) (by decide),
  fun l0 l1 l2 l3 st E u => q_go (by decide +kernel : am_Pg 184 7 = some (.bipush (-11), 2, [], 0)) rfl,
  fun l0 l1 l2 l3 a E u => q_ret (by decide +kernel : am_Pg 184 9 = some (.ireturn, 1, [], 0)) rfl,
  fun l0 l2 l3 a st E u => q_go (by decide +kernel : am_Pg 184 10 = some (.iload_n 1, 1, [], 0)) rfl,
  fun l1 l2 l3 a st E u => q_go (by decide +kernel : am_Pg 184 11 = some (.aload_n 0, 1, [], 0)) rfl,
  fun l0 l1 l2 l3 k st E u hE hk => q_gfI (by decide +kernel : am_Pg 184 12 = some (.getfield 19, 3, [2, 4, 2, 0], 0)) (SE_k2 hE hk) (by decide),
  fun l0 l1 l2 l3 a b st E u => q_icmp_eq (tgt := 21) (by decide +kernel : am_Pg 184 15 = some (.if_icmp .eq 6, 3, [], 0)) (by decide),
  fun l0 l1 l2 l3 st E u => q_go (by decide +kernel : am_Pg 184 18 = some (.bipush (-12), 2, [], 0)) rfl,
  fun l0 l1 l2 l3 a E u => q_ret (by decide +kernel : am_Pg 184 20 = some (.ireturn, 1, [], 0)) rfl,
  fun l1 l2 l3 a st E u => q_go (by decide +kernel : am_Pg 184 21 = some (.aload_n 0, 1, [], 0)) rfl,
  fun l0 l1 l3 a st E u => q_go (by decide +kernel : am_Pg 184 22 = some (.iload_n 2, 1, [], 0)) rfl,
  fun l0 l1 l2 a st E u => q_go (by decide +kernel : am_Pg 184 23 = some (.iload_n 3, 1, [], 0)) rfl,
  fun l0 l1 l2 l3 k a0 a1  E u hE hk => q_cI (by decide +kernel : am_Pg 184 24 = some (.invokevirtual 32, 3, [3, 183, 3, 2, 4, 0], 0)) (am_call_V (a := [vI a0, vI a1]) (st' := []) (Nat.le_of_ble_eq_true rfl) rfl (SE_k2 hE hk)) (by decide +kernel : am_Lm m_S_hasItems = 3) (Nat.le_of_ble_eq_true rfl) rfl (by decide +kernel),
  fun l0 l1 l2 l3 a st E u => q_if_eq (tgt := 34) (by decide +kernel : am_Pg 184 27 = some (.ifCond .eq 7, 3, [], 0)) (by decide),
  fun l0 l1 l2 l3 st E u => q_go (by decide +kernel : am_Pg 184 30 = some (.iconst 0, 1, [], 0)) rfl,
  fun l0 l1 l2 l3 st E u => q_go (by decide +kernel : am_Pg 184 31 = some (.goto 5, 3, [], 0)) rfl,
  fun l0 l1 l2 l3 st E u => q_go (by decide +kernel : am_Pg 184 34 = some (.bipush (-13), 2, [], 0)) rfl,
  fun l0 l1 l2 l3 a E u => q_ret (by decide +kernel : am_Pg 184 36 = some (.ireturn, 1, [], 0)) rfl⟩
theorem x_S_itemAt :
  (∀ (l0 : am_V) (a : Int) (st : List am_V) (E : am_E) (u : am_M), Rn m_S_itemAt 0 [l0, vI a] st E u = Rn m_S_itemAt 1 [l0, vI a] (vI a :: st) E u) ∧
  (∀ (l0 l1 : am_V) (a : Int) (st : List am_V) (E : am_E) (u : am_M), Rn m_S_itemAt 1 [l0, l1] (vI a :: st) E u = if a < 0 then Rn m_S_itemAt 22 [l0, l1] st E u else Rn m_S_itemAt 4 [l0, l1] st E u) ∧
  (∀ (l0 : am_V) (a : Int) (st : List am_V) (E : am_E) (u : am_M), Rn m_S_itemAt 4 [l0, vI a] st E u = Rn m_S_itemAt 5 [l0, vI a] (vI a :: st) E u) ∧
  (∀ (l1 : am_V) (a : Option Nat) (st : List am_V) (E : am_E) (u : am_M), Rn m_S_itemAt 5 [vR a, l1] st E u = Rn m_S_itemAt 6 [vR a, l1] (vR a :: st) E u) ∧
  (∀ (l0 l1 : am_V) (k : Nat) (st : List am_V) (E : am_E) (u : am_M) (hE : SE E) (hk : shB k), Rn m_S_itemAt 6 [l0, l1] (vR (some k) :: st) E u = Rn m_S_itemAt 9 [l0, l1] (vR (some (k + 1)) :: st) E u) ∧
  (∀ (l0 l1 : am_V) (k : Nat) (st : List am_V) (E : am_E) (u : am_M) (hk : am_kn E k = 11), Rn m_S_itemAt 9 [l0, l1] (vR (some k) :: st) E u = Rn m_S_itemAt 10 [l0, l1] (vI (am_len 11 E k) :: st) E u) ∧
  (∀ (l0 l1 : am_V) (a b : Int) (st : List am_V) (E : am_E) (u : am_M), Rn m_S_itemAt 10 [l0, l1] (vI b :: vI a :: st) E u = if a < b then Rn m_S_itemAt 13 [l0, l1] st E u else Rn m_S_itemAt 22 [l0, l1] st E u) ∧
  (∀ (l1 : am_V) (a : Option Nat) (st : List am_V) (E : am_E) (u : am_M), Rn m_S_itemAt 13 [vR a, l1] st E u = Rn m_S_itemAt 14 [vR a, l1] (vR a :: st) E u) ∧
  (∀ (l0 l1 : am_V) (k : Nat) (st : List am_V) (E : am_E) (u : am_M) (hE : SE E) (hk : shB k), Rn m_S_itemAt 14 [l0, l1] (vR (some k) :: st) E u = Rn m_S_itemAt 17 [l0, l1] (vR (some (k + 1)) :: st) E u) ∧
  (∀ (l0 : am_V) (a : Int) (st : List am_V) (E : am_E) (u : am_M), Rn m_S_itemAt 17 [l0, vI a] st E u = Rn m_S_itemAt 18 [l0, vI a] (vI a :: st) E u) ∧
  (∀ (l0 l1 : am_V) (k : Nat) (i : Int) (st : List am_V) (E : am_E) (u : am_M) (h0 : 0 ≤ i) (h1 : i < am_len 11 E k), Rn m_S_itemAt 18 [l0, l1] (vI i :: vR (some k) :: st) E u = Rn m_S_itemAt 19 [l0, l1] (vL (u k i.toNat) :: st) E u) ∧
  (∀ (l0 l1 : am_V) (st : List am_V) (E : am_E) (u : am_M), Rn m_S_itemAt 19 [l0, l1] st E u = Rn m_S_itemAt 23 [l0, l1] st E u) ∧
  (∀ (l0 l1 : am_V) (st : List am_V) (E : am_E) (u : am_M), Rn m_S_itemAt 22 [l0, l1] st E u = Rn m_S_itemAt 23 [l0, l1] (vL 0 :: st) E u) ∧
  (∀ (l0 l1 : am_V) (a : Int) (E : am_E) (u : am_M), Rn m_S_itemAt 23 [l0, l1] [vL a] E u = some (some (vL a), E, u)) :=
  ⟨fun l0 a st E u => q_go (by decide +kernel : am_Pg 185 0 = some (.iload_n 1, 1, [], 0)) rfl,
  fun l0 l1 a st E u => q_if_lt (tgt := 22) (by decide +kernel : am_Pg 185 1 = some (.ifCond .lt 21, 3, [], 0)) (by decide),
  fun l0 a st E u => q_go (by decide +kernel : am_Pg 185 4 = some (.iload_n 1, 1, [], 0)) rfl,
  fun l1 a st E u => q_go (by decide +kernel : am_Pg 185 5 = some (.aload_n 0, 1, [], 0)) rfl,
  fun l0 l1 k st E u hE hk => q_gfR (by decide +kernel : am_Pg 185 6 = some (.getfield 9, 3, [2, 4, 0, 0], 0)) (SE_k2 hE hk) rfl (SE_r2_0 hE hk),
  fun l0 l1 k st E u hk => q_alI (by decide +kernel : am_Pg 185 9 = some (.arraylength, 1, [], 0)) hk (by decide) (by decide),
  fun l0 l1 a b st E u => q_icmp_ge (tgt := 22) (by decide +kernel : am_Pg 185 10 = some (.if_icmp .ge 12, 3, [], 0)) (by decide),
  fun l1 a st E u => q_go (by decide +kernel : am_Pg 185 13 = some (.aload_n 0, 1, [], 0)) rfl,
  fun l0 l1 k st E u hE hk => q_gfR (by decide +kernel : am_Pg 185 14 = some (.getfield 9, 3, [2, 4, 0, 0], 0)) (SE_k2 hE hk) rfl (SE_r2_0 hE hk),
  fun l0 a st E u => q_go (by decide +kernel : am_Pg 185 17 = some (.iload_n 1, 1, [], 0)) rfl,
  fun l0 l1 k i st E u h0 h1 => q_lald (by decide +kernel : am_Pg 185 18 = some (.laload, 1, [], 0)) h0 h1,
  fun l0 l1 st E u => q_go (by decide +kernel : am_Pg 185 19 = some (.goto 4, 3, [], 0)) rfl,
  fun l0 l1 st E u => q_go (by decide +kernel : am_Pg 185 22 = some (.lconst 0, 1, [], 0)) rfl,
  fun l0 l1 a E u => q_ret (by decide +kernel : am_Pg 185 23 = some (.lreturn, 1, [], 0)) rfl⟩
theorem x_S_narrowed :
  (∀ (l1 l2 : am_V) (a : Option Nat) (st : List am_V) (E : am_E) (u : am_M), Rn m_S_narrowed 0 [vR a, l1, l2] st E u = Rn m_S_narrowed 1 [vR a, l1, l2] (vR a :: st) E u) ∧
  (∀ (l0 l1 l2 : am_V) (k : Nat) (st : List am_V) (E : am_E) (u : am_M) (hE : SE E) (hk : shB k), Rn m_S_narrowed 1 [l0, l1, l2] (vR (some k) :: st) E u = Rn m_S_narrowed 4 [l0, l1, l2] (vI (u k 2) :: st) E u) ∧
  (∀ (l0 l1 l2 : am_V) (a : Int) (st : List am_V) (E : am_E) (u : am_M), Rn m_S_narrowed 4 [l0, l1, l2] (vI a :: st) E u = if a = 0 then Rn m_S_narrowed 32 [l0, l1, l2] st E u else if a = 1 then Rn m_S_narrowed 37 [l0, l1, l2] st E u else if a = 2 then Rn m_S_narrowed 42 [l0, l1, l2] st E u else Rn m_S_narrowed 46 [l0, l1, l2] st E u) ∧
  (∀ (l0 l2 : am_V) (a : Int) (st : List am_V) (E : am_E) (u : am_M), Rn m_S_narrowed 32 [l0, vL a, l2] st E u = Rn m_S_narrowed 33 [l0, vL a, l2] (vL a :: st) E u) ∧
  (∀ (l0 l1 l2 : am_V) (a : Int) (st : List am_V) (E : am_E) (u : am_M), Rn m_S_narrowed 33 [l0, l1, l2] (vL a :: st) E u = Rn m_S_narrowed 34 [l0, l1, l2] (vI (w32 a) :: st) E u) ∧
  (∀ (l0 l1 l2 : am_V) (a : Int) (st : List am_V) (E : am_E) (u : am_M), Rn m_S_narrowed 34 [l0, l1, l2] (vI a :: st) E u = Rn m_S_narrowed 35 [l0, l1, l2] (vI (w8 a) :: st) E u) ∧
  (∀ (l0 l1 l2 : am_V) (a : Int) (st : List am_V) (E : am_E) (u : am_M), Rn m_S_narrowed 35 [l0, l1, l2] (vI a :: st) E u = Rn m_S_narrowed 36 [l0, l1, l2] (vL (a) :: st) E u) ∧
  (∀ (l0 l1 l2 : am_V) (a : Int) (E : am_E) (u : am_M), Rn m_S_narrowed 36 [l0, l1, l2] [vL a] E u = some (some (vL a), E, u)) ∧
  (∀ (l0 l2 : am_V) (a : Int) (st : List am_V) (E : am_E) (u : am_M), Rn m_S_narrowed 37 [l0, vL a, l2] st E u = Rn m_S_narrowed 38 [l0, vL a, l2] (vL a :: st) E u) ∧
  (∀ (l0 l1 l2 : am_V) (a : Int) (st : List am_V) (E : am_E) (u : am_M), Rn m_S_narrowed 38 [l0, l1, l2] (vL a :: st) E u = Rn m_S_narrowed 39 [l0, l1, l2] (vI (w32 a) :: st) E u) ∧
  (∀ (l0 l1 l2 : am_V) (a : Int) (st : List am_V) (E : am_E) (u : am_M), Rn m_S_narrowed 39 [l0, l1, l2] (vI a :: st) E u = Rn m_S_narrowed 40 [l0, l1, l2] (vI (w16 a) :: st) E u) ∧
  (∀ (l0 l1 l2 : am_V) (a : Int) (st : List am_V) (E : am_E) (u : am_M), Rn m_S_narrowed 40 [l0, l1, l2] (vI a :: st) E u = Rn m_S_narrowed 41 [l0, l1, l2] (vL (a) :: st) E u) ∧
  (∀ (l0 l1 l2 : am_V) (a : Int) (E : am_E) (u : am_M), Rn m_S_narrowed 41 [l0, l1, l2] [vL a] E u = some (some (vL a), E, u)) ∧
  (∀ (l0 l2 : am_V) (a : Int) (st : List am_V) (E : am_E) (u : am_M), Rn m_S_narrowed 42 [l0, vL a, l2] st E u = Rn m_S_narrowed 43 [l0, vL a, l2] (vL a :: st) E u) ∧
  (∀ (l0 l1 l2 : am_V) (a : Int) (st : List am_V) (E : am_E) (u : am_M), Rn m_S_narrowed 43 [l0, l1, l2] (vL a :: st) E u = Rn m_S_narrowed 44 [l0, l1, l2] (vI (w32 a) :: st) E u) ∧
  (∀ (l0 l1 l2 : am_V) (a : Int) (st : List am_V) (E : am_E) (u : am_M), Rn m_S_narrowed 44 [l0, l1, l2] (vI a :: st) E u = Rn m_S_narrowed 45 [l0, l1, l2] (vL (a) :: st) E u) ∧
  (∀ (l0 l1 l2 : am_V) (a : Int) (E : am_E) (u : am_M), Rn m_S_narrowed 45 [l0, l1, l2] [vL a] E u = some (some (vL a), E, u)) ∧
  (∀ (l0 l2 : am_V) (a : Int) (st : List am_V) (E : am_E) (u : am_M), Rn m_S_narrowed 46 [l0, vL a, l2] st E u = Rn m_S_narrowed 47 [l0, vL a, l2] (vL a :: st) E u) ∧
  (∀ (l0 l1 l2 : am_V) (a : Int) (E : am_E) (u : am_M), Rn m_S_narrowed 47 [l0, l1, l2] [vL a] E u = some (some (vL a), E, u)) :=
  ⟨fun l1 l2 a st E u => q_go (by decide +kernel : am_Pg 193 0 = some (.aload_n 0, 1, [], 0)) rfl,
  fun l0 l1 l2 k st E u hE hk => q_gfI (by decide +kernel : am_Pg 193 1 = some (.getfield 19, 3, [2, 4, 2, 0], 0)) (SE_k2 hE hk) (by decide),
  (fun l0 l1 l2 a st E u => by
  by_cases h0 : a = 0
  · subst h0; rw [if_pos rfl]; exact q_go (by decide +kernel : am_Pg 193 4 = some (.tableswitch 42 0 2 #[28, 33, 38], 28, [], 0)) rfl
  rw [if_neg h0]
  by_cases h1 : a = 1
  · subst h1; rw [if_pos rfl]; exact q_go (by decide +kernel : am_Pg 193 4 = some (.tableswitch 42 0 2 #[28, 33, 38], 28, [], 0)) rfl
  rw [if_neg h1]
  by_cases h2 : a = 2
  · subst h2; rw [if_pos rfl]; exact q_go (by decide +kernel : am_Pg 193 4 = some (.tableswitch 42 0 2 #[28, 33, 38], 28, [], 0)) rfl
  rw [if_neg h2]
  exact q_go (by decide +kernel : am_Pg 193 4 = some (.tableswitch 42 0 2 #[28, 33, 38], 28, [], 0)) (by simp only [am_step, am_br]; rw [if_pos (by simp; omega)]; rfl)),
  fun l0 l2 a st E u => q_go (by decide +kernel : am_Pg 193 32 = some (.lload_n 1, 1, [], 0)) rfl,
  fun l0 l1 l2 a st E u => q_go (by decide +kernel : am_Pg 193 33 = some (.l2i, 1, [], 0)) rfl,
  fun l0 l1 l2 a st E u => q_go (by decide +kernel : am_Pg 193 34 = some (.i2b, 1, [], 0)) rfl,
  fun l0 l1 l2 a st E u => q_go (by decide +kernel : am_Pg 193 35 = some (.i2l, 1, [], 0)) rfl,
  fun l0 l1 l2 a E u => q_ret (by decide +kernel : am_Pg 193 36 = some (.lreturn, 1, [], 0)) rfl,
  fun l0 l2 a st E u => q_go (by decide +kernel : am_Pg 193 37 = some (.lload_n 1, 1, [], 0)) rfl,
  fun l0 l1 l2 a st E u => q_go (by decide +kernel : am_Pg 193 38 = some (.l2i, 1, [], 0)) rfl,
  fun l0 l1 l2 a st E u => q_go (by decide +kernel : am_Pg 193 39 = some (.i2s, 1, [], 0)) rfl,
  fun l0 l1 l2 a st E u => q_go (by decide +kernel : am_Pg 193 40 = some (.i2l, 1, [], 0)) rfl,
  fun l0 l1 l2 a E u => q_ret (by decide +kernel : am_Pg 193 41 = some (.lreturn, 1, [], 0)) rfl,
  fun l0 l2 a st E u => q_go (by decide +kernel : am_Pg 193 42 = some (.lload_n 1, 1, [], 0)) rfl,
  fun l0 l1 l2 a st E u => q_go (by decide +kernel : am_Pg 193 43 = some (.l2i, 1, [], 0)) rfl,
  fun l0 l1 l2 a st E u => q_go (by decide +kernel : am_Pg 193 44 = some (.i2l, 1, [], 0)) rfl,
  fun l0 l1 l2 a E u => q_ret (by decide +kernel : am_Pg 193 45 = some (.lreturn, 1, [], 0)) rfl,
  fun l0 l2 a st E u => q_go (by decide +kernel : am_Pg 193 46 = some (.lload_n 1, 1, [], 0)) rfl,
  fun l0 l1 l2 a E u => q_ret (by decide +kernel : am_Pg 193 47 = some (.lreturn, 1, [], 0)) rfl⟩
theorem x_S_writes :
  (∀ (l0 l2 l3 : am_V) (a : Int) (st : List am_V) (E : am_E) (u : am_M), Rn m_S_writes 0 [l0, vI a, l2, l3] st E u = Rn m_S_writes 1 [l0, vI a, l2, l3] (vI a :: st) E u) ∧
  (∀ (l0 l1 l2 l3 : am_V) (a : Int) (st : List am_V) (E : am_E) (u : am_M), Rn m_S_writes 1 [l0, l1, l2, l3] (vI a :: st) E u = if a < 0 then Rn m_S_writes 24 [l0, l1, l2, l3] st E u else Rn m_S_writes 4 [l0, l1, l2, l3] st E u) ∧
  (∀ (l0 l2 l3 : am_V) (a : Int) (st : List am_V) (E : am_E) (u : am_M), Rn m_S_writes 4 [l0, vI a, l2, l3] st E u = Rn m_S_writes 5 [l0, vI a, l2, l3] (vI a :: st) E u) ∧
  (∀ (l1 l2 l3 : am_V) (a : Option Nat) (st : List am_V) (E : am_E) (u : am_M), Rn m_S_writes 5 [vR a, l1, l2, l3] st E u = Rn m_S_writes 6 [vR a, l1, l2, l3] (vR a :: st) E u) ∧
  (∀ (l0 l1 l2 l3 : am_V) (k : Nat) (st : List am_V) (E : am_E) (u : am_M) (hE : SE E) (hk : shB k), Rn m_S_writes 6 [l0, l1, l2, l3] (vR (some k) :: st) E u = Rn m_S_writes 9 [l0, l1, l2, l3] (vR (some (k + 1)) :: st) E u) ∧
  (∀ (l0 l1 l2 l3 : am_V) (k : Nat) (st : List am_V) (E : am_E) (u : am_M) (hk : am_kn E k = 11), Rn m_S_writes 9 [l0, l1, l2, l3] (vR (some k) :: st) E u = Rn m_S_writes 10 [l0, l1, l2, l3] (vI (am_len 11 E k) :: st) E u) ∧
  (∀ (l0 l1 l2 l3 : am_V) (a b : Int) (st : List am_V) (E : am_E) (u : am_M), Rn m_S_writes 10 [l0, l1, l2, l3] (vI b :: vI a :: st) E u = if a < b then Rn m_S_writes 13 [l0, l1, l2, l3] st E u else Rn m_S_writes 24 [l0, l1, l2, l3] st E u) ∧
  (∀ (l1 l2 l3 : am_V) (a : Option Nat) (st : List am_V) (E : am_E) (u : am_M), Rn m_S_writes 13 [vR a, l1, l2, l3] st E u = Rn m_S_writes 14 [vR a, l1, l2, l3] (vR a :: st) E u) ∧
  (∀ (l0 l1 l2 l3 : am_V) (k : Nat) (st : List am_V) (E : am_E) (u : am_M) (hE : SE E) (hk : shB k), Rn m_S_writes 14 [l0, l1, l2, l3] (vR (some k) :: st) E u = Rn m_S_writes 17 [l0, l1, l2, l3] (vR (some (k + 1)) :: st) E u) ∧
  (∀ (l0 l2 l3 : am_V) (a : Int) (st : List am_V) (E : am_E) (u : am_M), Rn m_S_writes 17 [l0, vI a, l2, l3] st E u = Rn m_S_writes 18 [l0, vI a, l2, l3] (vI a :: st) E u) ∧
  (∀ (l1 l2 l3 : am_V) (a : Option Nat) (st : List am_V) (E : am_E) (u : am_M), Rn m_S_writes 18 [vR a, l1, l2, l3] st E u = Rn m_S_writes 19 [vR a, l1, l2, l3] (vR a :: st) E u) ∧
  (∀ (l0 l1 l3 : am_V) (a : Int) (st : List am_V) (E : am_E) (u : am_M), Rn m_S_writes 19 [l0, l1, vL a, l3] st E u = Rn m_S_writes 20 [l0, l1, vL a, l3] (vL a :: st) E u) ∧
  (∀ (l0 l1 l2 l3 : am_V) (k : Nat) (a0 : Int) (r0 r1 : am_V) (E : am_E) (u : am_M) (hE : SE E) (hk : shB k), Rn m_S_writes 20 [l0, l1, l2, l3] [vL a0, vR (some k), r0, r1] E u = bdL (Rn m_S_narrowed 0 [vR (some k), vL a0, vB false] [] E u) (KL m_S_writes 23 [l0, l1, l2, l3] [r0, r1])) ∧
  (∀ (l0 l1 l2 l3 : am_V) (k : Nat) (i a : Int) (st : List am_V) (E : am_E) (u : am_M) (h0 : 0 ≤ i) (h1 : i < am_len 11 E k), Rn m_S_writes 23 [l0, l1, l2, l3] (vL a :: vI i :: vR (some k) :: st) E u = Rn m_S_writes 24 [l0, l1, l2, l3] st E (am_up u k i.toNat a)) ∧
  (∀ (l0 l1 l2 l3 : am_V) (E : am_E) (u : am_M), Rn m_S_writes 24 [l0, l1, l2, l3] [] E u = some (none, E, u)) :=
  ⟨fun l0 l2 l3 a st E u => q_go (by decide +kernel : am_Pg 194 0 = some (.iload_n 1, 1, [], 0)) rfl,
  fun l0 l1 l2 l3 a st E u => q_if_lt (tgt := 24) (by decide +kernel : am_Pg 194 1 = some (.ifCond .lt 23, 3, [], 0)) (by decide),
  fun l0 l2 l3 a st E u => q_go (by decide +kernel : am_Pg 194 4 = some (.iload_n 1, 1, [], 0)) rfl,
  fun l1 l2 l3 a st E u => q_go (by decide +kernel : am_Pg 194 5 = some (.aload_n 0, 1, [], 0)) rfl,
  fun l0 l1 l2 l3 k st E u hE hk => q_gfR (by decide +kernel : am_Pg 194 6 = some (.getfield 9, 3, [2, 4, 0, 0], 0)) (SE_k2 hE hk) rfl (SE_r2_0 hE hk),
  fun l0 l1 l2 l3 k st E u hk => q_alI (by decide +kernel : am_Pg 194 9 = some (.arraylength, 1, [], 0)) hk (by decide) (by decide),
  fun l0 l1 l2 l3 a b st E u => q_icmp_ge (tgt := 24) (by decide +kernel : am_Pg 194 10 = some (.if_icmp .ge 14, 3, [], 0)) (by decide),
  fun l1 l2 l3 a st E u => q_go (by decide +kernel : am_Pg 194 13 = some (.aload_n 0, 1, [], 0)) rfl,
  fun l0 l1 l2 l3 k st E u hE hk => q_gfR (by decide +kernel : am_Pg 194 14 = some (.getfield 9, 3, [2, 4, 0, 0], 0)) (SE_k2 hE hk) rfl (SE_r2_0 hE hk),
  fun l0 l2 l3 a st E u => q_go (by decide +kernel : am_Pg 194 17 = some (.iload_n 1, 1, [], 0)) rfl,
  fun l1 l2 l3 a st E u => q_go (by decide +kernel : am_Pg 194 18 = some (.aload_n 0, 1, [], 0)) rfl,
  fun l0 l1 l3 a st E u => q_go (by decide +kernel : am_Pg 194 19 = some (.lload_n 2, 1, [], 0)) rfl,
  fun l0 l1 l2 l3 k a0 r0 r1 E u hE hk => q_cL (by decide +kernel : am_Pg 194 20 = some (.invokevirtual 36, 3, [3, 193, 2, 2, 4, 0], 0)) (am_call_V (a := [vL a0]) (st' := [r0, r1]) (Nat.le_of_ble_eq_true rfl) rfl (SE_k2 hE hk)) (by decide +kernel : am_Lm m_S_narrowed = 3) (Nat.le_of_ble_eq_true rfl) rfl (by decide +kernel),
  fun l0 l1 l2 l3 k i a st E u h0 h1 => q_last (by decide +kernel : am_Pg 194 23 = some (.lastore, 1, [], 0)) h0 h1,
  fun l0 l1 l2 l3 E u => q_ret (by decide +kernel : am_Pg 194 24 = some (.return_, 1, [], 0)) rfl⟩
theorem h_J_fillL_6 : ∀ (l0 l1 l2 l4 : am_V) (a : Int) (st : List am_V) (E : am_E) (u : am_M), Rn m_J_fillL 6 [l0, l1, l2, vI a, l4] st E u = Rn m_J_fillL 7 [l0, l1, l2, vI a, l4] (vI a :: st) E u :=
  fun l0 l1 l2 l4 a st E u => q_go (by decide +kernel : am_Pg 197 6 = some (.iload_n 3, 1, [], 0)) rfl
theorem x_J_fillL :
  (∀ (l0 l1 l2 l3 l4 : am_V) (st : List am_V) (E : am_E) (u : am_M), Rn m_J_fillL 0 [l0, l1, l2, l3, l4] st E u = Rn m_J_fillL 1 [l0, l1, l2, l3, l4] (vI 0 :: st) E u) ∧
  (∀ (l0 l1 l2 l3 l4 : am_V) (a : Int) (st : List am_V) (E : am_E) (u : am_M), Rn m_J_fillL 1 [l0, l1, l2, l3, l4] (vI a :: st) E u = Rn m_J_fillL 2 [l0, l1, am_fx l2, vI a, l4] st E u) ∧
  (∀ (l1 l2 l3 l4 : am_V) (a : Option Nat) (st : List am_V) (E : am_E) (u : am_M), Rn m_J_fillL 2 [vR a, l1, l2, l3, l4] st E u = Rn m_J_fillL 3 [vR a, l1, l2, l3, l4] (vR a :: st) E u) ∧
  (∀ (l0 l1 l2 l3 l4 : am_V) (k : Nat) (st : List am_V) (E : am_E) (u : am_M) (hk : am_kn E k = 11), Rn m_J_fillL 3 [l0, l1, l2, l3, l4] (vR (some k) :: st) E u = Rn m_J_fillL 4 [l0, l1, l2, l3, l4] (vI (am_len 11 E k) :: st) E u) ∧
  (∀ (l0 l1 l2 l3 l4 : am_V) (a : Int) (st : List am_V) (E : am_E) (u : am_M), Rn m_J_fillL 4 [l0, l1, l2, l3, l4] (vI a :: st) E u = Rn m_J_fillL 6 [l0, l1, l2, am_fx l3, vI a] st E u) ∧
  (∀ (l0 l1 l2 l3 : am_V) (a : Int) (st : List am_V) (E : am_E) (u : am_M), Rn m_J_fillL 7 [l0, l1, l2, l3, vI a] st E u = Rn m_J_fillL 9 [l0, l1, l2, l3, vI a] (vI a :: st) E u) ∧
  (∀ (l0 l1 l2 l3 l4 : am_V) (a b : Int) (st : List am_V) (E : am_E) (u : am_M), Rn m_J_fillL 9 [l0, l1, l2, l3, l4] (vI b :: vI a :: st) E u = if a < b then Rn m_J_fillL 12 [l0, l1, l2, l3, l4] st E u else Rn m_J_fillL 22 [l0, l1, l2, l3, l4] st E u) ∧
  (∀ (l1 l2 l3 l4 : am_V) (a : Option Nat) (st : List am_V) (E : am_E) (u : am_M), Rn m_J_fillL 12 [vR a, l1, l2, l3, l4] st E u = Rn m_J_fillL 13 [vR a, l1, l2, l3, l4] (vR a :: st) E u) ∧
  (∀ (l0 l1 l2 l4 : am_V) (a : Int) (st : List am_V) (E : am_E) (u : am_M), Rn m_J_fillL 13 [l0, l1, l2, vI a, l4] st E u = Rn m_J_fillL 14 [l0, l1, l2, vI a, l4] (vI a :: st) E u) ∧
  (∀ (l0 l2 l3 l4 : am_V) (a : Int) (st : List am_V) (E : am_E) (u : am_M), Rn m_J_fillL 14 [l0, vL a, l2, l3, l4] st E u = Rn m_J_fillL 15 [l0, vL a, l2, l3, l4] (vL a :: st) E u) ∧
  (∀ (l0 l1 l2 l3 l4 : am_V) (k : Nat) (i a : Int) (st : List am_V) (E : am_E) (u : am_M) (h0 : 0 ≤ i) (h1 : i < am_len 11 E k), Rn m_J_fillL 15 [l0, l1, l2, l3, l4] (vL a :: vI i :: vR (some k) :: st) E u = Rn m_J_fillL 16 [l0, l1, l2, l3, l4] st E (am_up u k i.toNat a)) ∧
  (∀ (l0 l1 l2 l4 : am_V) (a : Int) (st : List am_V) (E : am_E) (u : am_M), Rn m_J_fillL 16 [l0, l1, l2, vI a, l4] st E u = Rn m_J_fillL 19 [l0, l1, am_fx l2, vI (w32 (a + 1)), l4] st E u) ∧
  (∀ (l0 l1 l2 l3 l4 : am_V) (st : List am_V) (E : am_E) (u : am_M), Rn m_J_fillL 19 [l0, l1, l2, l3, l4] st E u = Rn m_J_fillL 6 [l0, l1, l2, l3, l4] st E u) ∧
  (∀ (l0 l1 l2 l3 l4 : am_V) (E : am_E) (u : am_M), Rn m_J_fillL 22 [l0, l1, l2, l3, l4] [] E u = some (none, E, u)) :=
  ⟨fun l0 l1 l2 l3 l4 st E u => q_go (by decide +kernel : am_Pg 197 0 = some (.iconst 0, 1, [], 0)) rfl,
  fun l0 l1 l2 l3 l4 a st E u => q_go (by decide +kernel : am_Pg 197 1 = some (.istore_n 3, 1, [], 0)) rfl,
  fun l1 l2 l3 l4 a st E u => q_go (by decide +kernel : am_Pg 197 2 = some (.aload_n 0, 1, [], 0)) rfl,
  fun l0 l1 l2 l3 l4 k st E u hk => q_alI (by decide +kernel : am_Pg 197 3 = some (.arraylength, 1, [], 0)) hk (by decide) (by decide),
  fun l0 l1 l2 l3 l4 a st E u => q_go (by decide +kernel : am_Pg 197 4 = some (.istore 4, 2, [], 0)) rfl,
  fun l0 l1 l2 l3 a st E u => q_go (by decide +kernel : am_Pg 197 7 = some (.iload 4, 2, [], 0)) rfl,
  fun l0 l1 l2 l3 l4 a b st E u => q_icmp_ge (tgt := 22) (by decide +kernel : am_Pg 197 9 = some (.if_icmp .ge 13, 3, [], 0)) (by decide),
  fun l1 l2 l3 l4 a st E u => q_go (by decide +kernel : am_Pg 197 12 = some (.aload_n 0, 1, [], 0)) rfl,
  fun l0 l1 l2 l4 a st E u => q_go (by decide +kernel : am_Pg 197 13 = some (.iload_n 3, 1, [], 0)) rfl,
  fun l0 l2 l3 l4 a st E u => q_go (by decide +kernel : am_Pg 197 14 = some (.lload_n 1, 1, [], 0)) rfl,
  fun l0 l1 l2 l3 l4 k i a st E u h0 h1 => q_last (by decide +kernel : am_Pg 197 15 = some (.lastore, 1, [], 0)) h0 h1,
  fun l0 l1 l2 l4 a st E u => q_go (by decide +kernel : am_Pg 197 16 = some (.iinc 3 1, 3, [], 0)) rfl,
  fun l0 l1 l2 l3 l4 st E u => q_go (by decide +kernel : am_Pg 197 19 = some (.goto (-13), 3, [], 0)) rfl,
  fun l0 l1 l2 l3 l4 E u => q_ret (by decide +kernel : am_Pg 197 22 = some (.return_, 1, [], 0)) rfl⟩
theorem x_S_begins :
  (∀ (l1 l2 : am_V) (a : Option Nat) (st : List am_V) (E : am_E) (u : am_M), Rn m_S_begins 0 [vR a, l1, l2] st E u = Rn m_S_begins 1 [vR a, l1, l2] (vR a :: st) E u) ∧
  (∀ (l0 l1 l2 : am_V) (st : List am_V) (E : am_E) (u : am_M), Rn m_S_begins 1 [l0, l1, l2] st E u = Rn m_S_begins 2 [l0, l1, l2] (vI 0 :: st) E u) ∧
  (∀ (l0 l1 l2 : am_V) (k : Nat) (a : Int) (st : List am_V) (E : am_E) (u : am_M) (hE : SE E) (hk : shB k) (ha : a = 0 ∨ a = 1), Rn m_S_begins 2 [l0, l1, l2] (vI a :: vR (some k) :: st) E u = Rn m_S_begins 5 [l0, l1, l2] st E (am_up u k 1 a)) ∧
  (∀ (l0 l1 l2 : am_V) (k : Nat) (b : Bool) (st : List am_V) (E : am_E) (u : am_M) (hE : SE E) (hk : shB k), Rn m_S_begins 2 [l0, l1, l2] (vI (bI b) :: vR (some k) :: st) E u = Rn m_S_begins 5 [l0, l1, l2] st E (am_up u k 1 (bI b))) ∧
  (∀ (l1 l2 : am_V) (a : Option Nat) (st : List am_V) (E : am_E) (u : am_M), Rn m_S_begins 5 [vR a, l1, l2] st E u = Rn m_S_begins 6 [vR a, l1, l2] (vR a :: st) E u) ∧
  (∀ (l0 l2 : am_V) (a : Int) (st : List am_V) (E : am_E) (u : am_M), Rn m_S_begins 6 [l0, vI a, l2] st E u = Rn m_S_begins 7 [l0, vI a, l2] (vI a :: st) E u) ∧
  (∀ (l0 l1 l2 : am_V) (k : Nat) (a : Int) (st : List am_V) (E : am_E) (u : am_M) (hE : SE E) (hk : shB k), Rn m_S_begins 7 [l0, l1, l2] (vI a :: vR (some k) :: st) E u = Rn m_S_begins 10 [l0, l1, l2] st E (am_up u k 2 a)) ∧
  (∀ (l1 l2 : am_V) (a : Option Nat) (st : List am_V) (E : am_E) (u : am_M), Rn m_S_begins 10 [vR a, l1, l2] st E u = Rn m_S_begins 11 [vR a, l1, l2] (vR a :: st) E u) ∧
  (∀ (l0 l1 : am_V) (a : Int) (st : List am_V) (E : am_E) (u : am_M), Rn m_S_begins 11 [l0, l1, vI a] st E u = Rn m_S_begins 12 [l0, l1, vI a] (vI a :: st) E u) ∧
  (∀ (l0 l1 l2 : am_V) (k : Nat) (a : Int) (st : List am_V) (E : am_E) (u : am_M) (hE : SE E) (hk : shB k), Rn m_S_begins 12 [l0, l1, l2] (vI a :: vR (some k) :: st) E u = Rn m_S_begins 15 [l0, l1, l2] st E (am_up u k 3 a)) ∧
  (∀ (l1 l2 : am_V) (a : Option Nat) (st : List am_V) (E : am_E) (u : am_M), Rn m_S_begins 15 [vR a, l1, l2] st E u = Rn m_S_begins 16 [vR a, l1, l2] (vR a :: st) E u) ∧
  (∀ (l0 l1 l2 : am_V) (k : Nat) (st : List am_V) (E : am_E) (u : am_M) (hE : SE E) (hk : shB k), Rn m_S_begins 16 [l0, l1, l2] (vR (some k) :: st) E u = Rn m_S_begins 19 [l0, l1, l2] (vR (some (k + 1)) :: st) E u) ∧
  (∀ (l0 l1 l2 : am_V) (st : List am_V) (E : am_E) (u : am_M), Rn m_S_begins 19 [l0, l1, l2] st E u = Rn m_S_begins 20 [l0, l1, l2] (vL 0 :: st) E u) ∧
  (∀ (l0 l1 l2 : am_V) (a0 : Option Nat) (a1 : Int) (E : am_E) (u : am_M), Rn m_S_begins 20 [l0, l1, l2] [vL a1, vR a0] E u = bdV (Rn m_J_fillL 0 [vR a0, vL a1, vB false, vB false, vB false] [] E u) (KV m_S_begins 23 [l0, l1, l2] [])) ∧
  (∀ (l0 l1 l2 : am_V) (E : am_E) (u : am_M), Rn m_S_begins 23 [l0, l1, l2] [] E u = some (none, E, u)) :=
  ⟨fun l1 l2 a st E u => q_go (by decide +kernel : am_Pg 198 0 = some (.aload_n 0, 1, [], 0)) rfl,
  fun l0 l1 l2 st E u => q_go (by decide +kernel : am_Pg 198 1 = some (.iconst 0, 1, [], 0)) rfl,
  fun l0 l1 l2 k a st E u hE hk ha => q_pfZ (by decide +kernel : am_Pg 198 2 = some (.putfield 15, 3, [2, 4, 1, 0], 0)) (SE_k2 hE hk) rfl ha,
  fun l0 l1 l2 k b st E u hE hk => q_pfZ (by decide +kernel : am_Pg 198 2 = some (.putfield 15, 3, [2, 4, 1, 0], 0)) (SE_k2 hE hk) rfl (bI_01 b),
  fun l1 l2 a st E u => q_go (by decide +kernel : am_Pg 198 5 = some (.aload_n 0, 1, [], 0)) rfl,
  fun l0 l2 a st E u => q_go (by decide +kernel : am_Pg 198 6 = some (.iload_n 1, 1, [], 0)) rfl,
  fun l0 l1 l2 k a st E u hE hk => q_pfI (by decide +kernel : am_Pg 198 7 = some (.putfield 19, 3, [2, 4, 2, 0], 0)) (SE_k2 hE hk) rfl,
  fun l1 l2 a st E u => q_go (by decide +kernel : am_Pg 198 10 = some (.aload_n 0, 1, [], 0)) rfl,
  fun l0 l1 a st E u => q_go (by decide +kernel : am_Pg 198 11 = some (.iload_n 2, 1, [], 0)) rfl,
  fun l0 l1 l2 k a st E u hE hk => q_pfI (by decide +kernel : am_Pg 198 12 = some (.putfield 23, 3, [2, 4, 3, 0], 0)) (SE_k2 hE hk) rfl,
  fun l1 l2 a st E u => q_go (by decide +kernel : am_Pg 198 15 = some (.aload_n 0, 1, [], 0)) rfl,
  fun l0 l1 l2 k st E u hE hk => q_gfR (by decide +kernel : am_Pg 198 16 = some (.getfield 9, 3, [2, 4, 0, 0], 0)) (SE_k2 hE hk) rfl (SE_r2_0 hE hk),
  fun l0 l1 l2 st E u => q_go (by decide +kernel : am_Pg 198 19 = some (.lconst 0, 1, [], 0)) rfl,
  fun l0 l1 l2 a0 a1  E u => q_cV (by decide +kernel : am_Pg 198 20 = some (.invokestatic 26, 3, [2, 197, 2, 0], 0)) (am_call_S (f := fun _ _ => true) (a := [vR a0, vL a1]) (st' := []) (Nat.le_of_ble_eq_true rfl) rfl rfl) (by decide +kernel : am_Lm m_J_fillL = 5) (Nat.le_of_ble_eq_true rfl) rfl (by decide +kernel),
  fun l0 l1 l2 E u => q_ret (by decide +kernel : am_Pg 198 23 = some (.return_, 1, [], 0)) rfl⟩
theorem x_S_takes :
  (∀ (l0 l1 l3 l4 : am_V) (a : Option Nat) (st : List am_V) (E : am_E) (u : am_M), Rn m_S_takes 0 [l0, l1, vR a, l3, l4] st E u = Rn m_S_takes 1 [l0, l1, vR a, l3, l4] (vR a :: st) E u) ∧
  (∀ (l0 l1 l2 l3 l4 : am_V) (st : List am_V) (E : am_E) (u : am_M), Rn m_S_takes 1 [l0, l1, l2, l3, l4] (vR none :: st) E u = Rn m_S_takes 39 [l0, l1, l2, l3, l4] st E u) ∧
  (∀ (l0 l1 l2 l3 l4 : am_V) (a : Nat) (st : List am_V) (E : am_E) (u : am_M), Rn m_S_takes 1 [l0, l1, l2, l3, l4] (vR (some a) :: st) E u = Rn m_S_takes 4 [l0, l1, l2, l3, l4] st E u) ∧
  (∀ (l0 l1 l3 l4 : am_V) (a : Option Nat) (st : List am_V) (E : am_E) (u : am_M), Rn m_S_takes 4 [l0, l1, vR a, l3, l4] st E u = Rn m_S_takes 5 [l0, l1, vR a, l3, l4] (vR a :: st) E u) ∧
  (∀ (l0 l1 l2 l4 : am_V) (a : Int) (st : List am_V) (E : am_E) (u : am_M), Rn m_S_takes 5 [l0, l1, l2, vI a, l4] st E u = Rn m_S_takes 6 [l0, l1, l2, vI a, l4] (vI a :: st) E u) ∧
  (∀ (l0 l1 l2 l3 : am_V) (a : Int) (st : List am_V) (E : am_E) (u : am_M), Rn m_S_takes 6 [l0, l1, l2, l3, vI a] st E u = Rn m_S_takes 8 [l0, l1, l2, l3, vI a] (vI a :: st) E u) ∧
  (∀ (l0 l1 l2 l3 l4 : am_V) (k : Nat) (a0 : Int) (a1 : Int) (E : am_E) (u : am_M) (hE : SE E) (hk : shB k), Rn m_S_takes 8 [l0, l1, l2, l3, l4] [vI a1, vI a0, vR (some k)] E u = bdI (Rn m_S_hasItems 0 [vR (some k), vI a0, vI a1] [] E u) (KI m_S_takes 11 [l0, l1, l2, l3, l4] [])) ∧
  (∀ (l0 l1 l2 l3 l4 : am_V) (a : Int) (st : List am_V) (E : am_E) (u : am_M), Rn m_S_takes 11 [l0, l1, l2, l3, l4] (vI a :: st) E u = if a = 0 then Rn m_S_takes 39 [l0, l1, l2, l3, l4] st E u else Rn m_S_takes 14 [l0, l1, l2, l3, l4] st E u) ∧
  (∀ (l1 l2 l3 l4 : am_V) (a : Option Nat) (st : List am_V) (E : am_E) (u : am_M), Rn m_S_takes 14 [vR a, l1, l2, l3, l4] st E u = Rn m_S_takes 15 [vR a, l1, l2, l3, l4] (vR a :: st) E u) ∧
  (∀ (l0 l2 l3 l4 : am_V) (a : Int) (st : List am_V) (E : am_E) (u : am_M), Rn m_S_takes 15 [l0, vI a, l2, l3, l4] st E u = Rn m_S_takes 16 [l0, vI a, l2, l3, l4] (vI a :: st) E u) ∧
  (∀ (l0 l1 l2 l3 : am_V) (a : Int) (st : List am_V) (E : am_E) (u : am_M), Rn m_S_takes 16 [l0, l1, l2, l3, vI a] st E u = Rn m_S_takes 18 [l0, l1, l2, l3, vI a] (vI a :: st) E u) ∧
  (∀ (l0 l1 l2 l3 l4 : am_V) (k : Nat) (a0 : Int) (a1 : Int) (E : am_E) (u : am_M) (hE : SE E) (hk : shB k), Rn m_S_takes 18 [l0, l1, l2, l3, l4] [vI a1, vI a0, vR (some k)] E u = bdI (Rn m_S_hasItems 0 [vR (some k), vI a0, vI a1] [] E u) (KI m_S_takes 21 [l0, l1, l2, l3, l4] [])) ∧
  (∀ (l0 l1 l2 l3 l4 : am_V) (a : Int) (st : List am_V) (E : am_E) (u : am_M), Rn m_S_takes 21 [l0, l1, l2, l3, l4] (vI a :: st) E u = if a = 0 then Rn m_S_takes 39 [l0, l1, l2, l3, l4] st E u else Rn m_S_takes 24 [l0, l1, l2, l3, l4] st E u) ∧
  (∀ (l0 l1 l3 l4 : am_V) (a : Option Nat) (st : List am_V) (E : am_E) (u : am_M), Rn m_S_takes 24 [l0, l1, vR a, l3, l4] st E u = Rn m_S_takes 25 [l0, l1, vR a, l3, l4] (vR a :: st) E u) ∧
  (∀ (l0 l1 l2 l3 l4 : am_V) (k : Nat) (st : List am_V) (E : am_E) (u : am_M) (hE : SE E) (hk : shB k), Rn m_S_takes 25 [l0, l1, l2, l3, l4] (vR (some k) :: st) E u = Rn m_S_takes 28 [l0, l1, l2, l3, l4] (vR (some (k + 1)) :: st) E u) ∧
  (∀ (l0 l1 l2 l4 : am_V) (a : Int) (st : List am_V) (E : am_E) (u : am_M), Rn m_S_takes 28 [l0, l1, l2, vI a, l4] st E u = Rn m_S_takes 29 [l0, l1, l2, vI a, l4] (vI a :: st) E u) ∧
  (∀ (l1 l2 l3 l4 : am_V) (a : Option Nat) (st : List am_V) (E : am_E) (u : am_M), Rn m_S_takes 29 [vR a, l1, l2, l3, l4] st E u = Rn m_S_takes 30 [vR a, l1, l2, l3, l4] (vR a :: st) E u) ∧
  (∀ (l0 l1 l2 l3 l4 : am_V) (k : Nat) (st : List am_V) (E : am_E) (u : am_M) (hE : SE E) (hk : shB k), Rn m_S_takes 30 [l0, l1, l2, l3, l4] (vR (some k) :: st) E u = Rn m_S_takes 33 [l0, l1, l2, l3, l4] (vR (some (k + 1)) :: st) E u) ∧
  (∀ (l0 l2 l3 l4 : am_V) (a : Int) (st : List am_V) (E : am_E) (u : am_M), Rn m_S_takes 33 [l0, vI a, l2, l3, l4] st E u = Rn m_S_takes 34 [l0, vI a, l2, l3, l4] (vI a :: st) E u) ∧
  (∀ (l0 l1 l2 l3 : am_V) (a : Int) (st : List am_V) (E : am_E) (u : am_M), Rn m_S_takes 34 [l0, l1, l2, l3, vI a] st E u = Rn m_S_takes 36 [l0, l1, l2, l3, vI a] (vI a :: st) E u) ∧
  (∀ (l0 l1 l2 l3 l4 : am_V) (a b : Nat) (i j n : Int) (E : am_E) (u : am_M) (hn : 0 ≤ n) (hi : 0 ≤ i) (hj : 0 ≤ j) (ha : am_kn E a = 11) (hb : am_kn E b = 11) (h1 : i + n ≤ am_len 11 E a) (h2 : j + n ≤ am_len 11 E b), Rn m_S_takes 36 [l0, l1, l2, l3, l4] [vI n, vI j, vR (some b), vI i, vR (some a)] E u = Rn m_S_takes 39 [l0, l1, l2, l3, l4] [] E (am_cp u a i.toNat b j.toNat n.toNat)) ∧
  (∀ (l0 l1 l2 l3 l4 : am_V) (E : am_E) (u : am_M), Rn m_S_takes 39 [l0, l1, l2, l3, l4] [] E u = some (none, E, u)) :=
  ⟨fun l0 l1 l3 l4 a st E u => q_go (by decide +kernel : am_Pg 205 0 = some (.aload_n 2, 1, [], 0)) rfl,
  fun l0 l1 l2 l3 l4 st E u => q_go (by decide +kernel : am_Pg 205 1 = some (.ifnull 38, 3, [], 0)) rfl,
  fun l0 l1 l2 l3 l4 a st E u => q_go (by decide +kernel : am_Pg 205 1 = some (.ifnull 38, 3, [], 0)) rfl,
  fun l0 l1 l3 l4 a st E u => q_go (by decide +kernel : am_Pg 205 4 = some (.aload_n 2, 1, [], 0)) rfl,
  fun l0 l1 l2 l4 a st E u => q_go (by decide +kernel : am_Pg 205 5 = some (.iload_n 3, 1, [], 0)) rfl,
  fun l0 l1 l2 l3 a st E u => q_go (by decide +kernel : am_Pg 205 6 = some (.iload 4, 2, [], 0)) rfl,
  fun l0 l1 l2 l3 l4 k a0 a1  E u hE hk => q_cI (by decide +kernel : am_Pg 205 8 = some (.invokevirtual 32, 3, [3, 183, 3, 2, 4, 0], 0)) (am_call_V (a := [vI a0, vI a1]) (st' := []) (Nat.le_of_ble_eq_true rfl) rfl (SE_k2 hE hk)) (by decide +kernel : am_Lm m_S_hasItems = 3) (Nat.le_of_ble_eq_true rfl) rfl (by decide +kernel),
  fun l0 l1 l2 l3 l4 a st E u => q_if_eq (tgt := 39) (by decide +kernel : am_Pg 205 11 = some (.ifCond .eq 28, 3, [], 0)) (by decide),
  fun l1 l2 l3 l4 a st E u => q_go (by decide +kernel : am_Pg 205 14 = some (.aload_n 0, 1, [], 0)) rfl,
  fun l0 l2 l3 l4 a st E u => q_go (by decide +kernel : am_Pg 205 15 = some (.iload_n 1, 1, [], 0)) rfl,
  fun l0 l1 l2 l3 a st E u => q_go (by decide +kernel : am_Pg 205 16 = some (.iload 4, 2, [], 0)) rfl,
  fun l0 l1 l2 l3 l4 k a0 a1  E u hE hk => q_cI (by decide +kernel : am_Pg 205 18 = some (.invokevirtual 32, 3, [3, 183, 3, 2, 4, 0], 0)) (am_call_V (a := [vI a0, vI a1]) (st' := []) (Nat.le_of_ble_eq_true rfl) rfl (SE_k2 hE hk)) (by decide +kernel : am_Lm m_S_hasItems = 3) (Nat.le_of_ble_eq_true rfl) rfl (by decide +kernel),
  fun l0 l1 l2 l3 l4 a st E u => q_if_eq (tgt := 39) (by decide +kernel : am_Pg 205 21 = some (.ifCond .eq 18, 3, [], 0)) (by decide),
  fun l0 l1 l3 l4 a st E u => q_go (by decide +kernel : am_Pg 205 24 = some (.aload_n 2, 1, [], 0)) rfl,
  fun l0 l1 l2 l3 l4 k st E u hE hk => q_gfR (by decide +kernel : am_Pg 205 25 = some (.getfield 9, 3, [2, 4, 0, 0], 0)) (SE_k2 hE hk) rfl (SE_r2_0 hE hk),
  fun l0 l1 l2 l4 a st E u => q_go (by decide +kernel : am_Pg 205 28 = some (.iload_n 3, 1, [], 0)) rfl,
  fun l1 l2 l3 l4 a st E u => q_go (by decide +kernel : am_Pg 205 29 = some (.aload_n 0, 1, [], 0)) rfl,
  fun l0 l1 l2 l3 l4 k st E u hE hk => q_gfR (by decide +kernel : am_Pg 205 30 = some (.getfield 9, 3, [2, 4, 0, 0], 0)) (SE_k2 hE hk) rfl (SE_r2_0 hE hk),
  fun l0 l2 l3 l4 a st E u => q_go (by decide +kernel : am_Pg 205 33 = some (.iload_n 1, 1, [], 0)) rfl,
  fun l0 l1 l2 l3 a st E u => q_go (by decide +kernel : am_Pg 205 34 = some (.iload 4, 2, [], 0)) rfl,
  fun l0 l1 l2 l3 l4 a b i j n  E u hn hi hj ha hb h1 h2 => q_acp (by decide) (by decide +kernel : am_Pg 205 36 = some (.invokestatic 40, 3, [1], 0)) hn hi hj ha hb h1 h2 (Nat.le_of_ble_eq_true rfl),
  fun l0 l1 l2 l3 l4 E u => q_ret (by decide +kernel : am_Pg 205 39 = some (.return_, 1, [], 0)) rfl⟩

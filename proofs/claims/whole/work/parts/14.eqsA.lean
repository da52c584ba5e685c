/-! Equations of our machine, an instruction each (WRITTEN by wip/whole/gen_eqs.py): x_: a method's, but for its loops' heads and cuts, which are h_ -/
theorem h_A_init_80 : ∀ (l0 : am_V) (a : Int) (st : List am_V) (E : am_E) (u : am_M), Rn m_A_init 80 [l0, vI a] st E u = Rn m_A_init 81 [l0, vI a] (vI a :: st) E u :=
  fun l0 a st E u => q_go (by decide +kernel : am_Pg 5 80 = some (.iload_n 1, 1, [], 0)) rfl
theorem x_A_init :
  (∀ (l1 : am_V) (a : Option Nat) (st : List am_V) (E : am_E) (u : am_M), Rn m_A_init 0 [vR a, l1] st E u = Rn m_A_init 1 [vR a, l1] (vR a :: st) E u) ∧
  (∀ (l0 l1 : am_V) (k : Nat) (E : am_E) (u : am_M), Rn m_A_init 1 [l0, l1] [vR (some k)] E u = Rn m_A_init 4 [l0, l1] [] E u) ∧
  (∀ (l1 : am_V) (a : Option Nat) (st : List am_V) (E : am_E) (u : am_M), Rn m_A_init 4 [vR a, l1] st E u = Rn m_A_init 5 [vR a, l1] (vR a :: st) E u) ∧
  (∀ (l0 l1 : am_V) (st : List am_V) (E : am_E) (u : am_M), Rn m_A_init 5 [l0, l1] st E u = Rn m_A_init 8 [l0, l1] (vR (some E.1.length) :: st) (E.1 ++ [(0, 14)], am_zq E.2.1 E.1.length, E.2.2) (am_zr u E.1.length)) ∧
  (∀ (l0 l1 : am_V) (a : Int) (st : List am_V) (E : am_E) (u : am_M), Rn m_A_init 8 [l0, l1] (vI a :: st) E u = Rn m_A_init 9 [l0, l1] (vI a :: vI a :: st) E u) ∧
  (∀ (l0 l1 : am_V) (a : Option Nat) (st : List am_V) (E : am_E) (u : am_M), Rn m_A_init 8 [l0, l1] (vR a :: st) E u = Rn m_A_init 9 [l0, l1] (vR a :: vR a :: st) E u) ∧
  (∀ (l0 l1 : am_V) (k : Nat) (r0 r1 : am_V) (E : am_E) (u : am_M) (hk : E.1[k]? = some (0, 14)), Rn m_A_init 9 [l0, l1] [vR (some k), r0, r1] E u = bdV (Rn m_C_init 0 [vR (some k)] [] E u) (KV m_A_init 12 [l0, l1] [r0, r1])) ∧
  (∀ (l0 l1 : am_V) (k : Nat) (o : Option Nat) (st : List am_V) (E : am_E) (u : am_M) (hk : E.1[k]? = some (4, 8)), Rn m_A_init 12 [l0, l1] (vR o :: vR (some k) :: st) E u = Rn m_A_init 15 [l0, l1] st (E.1, am_rp E.2.1 k 0 o, E.2.2) u) ∧
  (∀ (l1 : am_V) (a : Option Nat) (st : List am_V) (E : am_E) (u : am_M), Rn m_A_init 15 [vR a, l1] st E u = Rn m_A_init 16 [vR a, l1] (vR a :: st) E u) ∧
  (∀ (l0 l1 : am_V) (st : List am_V) (E : am_E) (u : am_M), Rn m_A_init 16 [l0, l1] st E u = Rn m_A_init 19 [l0, l1] (vR (some E.1.length) :: st) (E.1 ++ [(0, 14)], am_zq E.2.1 E.1.length, E.2.2) (am_zr u E.1.length)) ∧
  (∀ (l0 l1 : am_V) (a : Int) (st : List am_V) (E : am_E) (u : am_M), Rn m_A_init 19 [l0, l1] (vI a :: st) E u = Rn m_A_init 20 [l0, l1] (vI a :: vI a :: st) E u) ∧
  (∀ (l0 l1 : am_V) (a : Option Nat) (st : List am_V) (E : am_E) (u : am_M), Rn m_A_init 19 [l0, l1] (vR a :: st) E u = Rn m_A_init 20 [l0, l1] (vR a :: vR a :: st) E u) ∧
  (∀ (l0 l1 : am_V) (k : Nat) (r0 r1 : am_V) (E : am_E) (u : am_M) (hk : E.1[k]? = some (0, 14)), Rn m_A_init 20 [l0, l1] [vR (some k), r0, r1] E u = bdV (Rn m_C_init 0 [vR (some k)] [] E u) (KV m_A_init 23 [l0, l1] [r0, r1])) ∧
  (∀ (l0 l1 : am_V) (k : Nat) (o : Option Nat) (st : List am_V) (E : am_E) (u : am_M) (hk : E.1[k]? = some (4, 8)), Rn m_A_init 23 [l0, l1] (vR o :: vR (some k) :: st) E u = Rn m_A_init 26 [l0, l1] st (E.1, am_rp E.2.1 k 1 o, E.2.2) u) ∧
  (∀ (l1 : am_V) (a : Option Nat) (st : List am_V) (E : am_E) (u : am_M), Rn m_A_init 26 [vR a, l1] st E u = Rn m_A_init 27 [vR a, l1] (vR a :: st) E u) ∧
  (∀ (l0 l1 : am_V) (st : List am_V) (E : am_E) (u : am_M), Rn m_A_init 27 [l0, l1] st E u = Rn m_A_init 30 [l0, l1] (vR (some E.1.length) :: st) (E.1 ++ [(1, 3)], am_zq E.2.1 E.1.length, E.2.2) (am_zr u E.1.length)) ∧
  (∀ (l0 l1 : am_V) (a : Int) (st : List am_V) (E : am_E) (u : am_M), Rn m_A_init 30 [l0, l1] (vI a :: st) E u = Rn m_A_init 31 [l0, l1] (vI a :: vI a :: st) E u) ∧
  (∀ (l0 l1 : am_V) (a : Option Nat) (st : List am_V) (E : am_E) (u : am_M), Rn m_A_init 30 [l0, l1] (vR a :: st) E u = Rn m_A_init 31 [l0, l1] (vR a :: vR a :: st) E u) ∧
  (∀ (l0 l1 : am_V) (k : Nat) (r0 r1 : am_V) (E : am_E) (u : am_M) (hk : E.1[k]? = some (1, 3)), Rn m_A_init 31 [l0, l1] [vR (some k), r0, r1] E u = bdV (Rn m_P_init 0 [vR (some k), vB false] [] E u) (KV m_A_init 34 [l0, l1] [r0, r1])) ∧
  (∀ (l0 l1 : am_V) (k : Nat) (o : Option Nat) (st : List am_V) (E : am_E) (u : am_M) (hk : E.1[k]? = some (4, 8)), Rn m_A_init 34 [l0, l1] (vR o :: vR (some k) :: st) E u = Rn m_A_init 37 [l0, l1] st (E.1, am_rp E.2.1 k 2 o, E.2.2) u) ∧
  (∀ (l1 : am_V) (a : Option Nat) (st : List am_V) (E : am_E) (u : am_M), Rn m_A_init 37 [vR a, l1] st E u = Rn m_A_init 38 [vR a, l1] (vR a :: st) E u) ∧
  (∀ (l0 l1 : am_V) (st : List am_V) (E : am_E) (u : am_M), Rn m_A_init 38 [l0, l1] st E u = Rn m_A_init 41 [l0, l1] (vR (some E.1.length) :: st) (E.1 ++ [(0, 14)], am_zq E.2.1 E.1.length, E.2.2) (am_zr u E.1.length)) ∧
  (∀ (l0 l1 : am_V) (a : Int) (st : List am_V) (E : am_E) (u : am_M), Rn m_A_init 41 [l0, l1] (vI a :: st) E u = Rn m_A_init 42 [l0, l1] (vI a :: vI a :: st) E u) ∧
  (∀ (l0 l1 : am_V) (a : Option Nat) (st : List am_V) (E : am_E) (u : am_M), Rn m_A_init 41 [l0, l1] (vR a :: st) E u = Rn m_A_init 42 [l0, l1] (vR a :: vR a :: st) E u) ∧
  (∀ (l0 l1 : am_V) (k : Nat) (r0 r1 : am_V) (E : am_E) (u : am_M) (hk : E.1[k]? = some (0, 14)), Rn m_A_init 42 [l0, l1] [vR (some k), r0, r1] E u = bdV (Rn m_C_init 0 [vR (some k)] [] E u) (KV m_A_init 45 [l0, l1] [r0, r1])) ∧
  (∀ (l0 l1 : am_V) (k : Nat) (o : Option Nat) (st : List am_V) (E : am_E) (u : am_M) (hk : E.1[k]? = some (4, 8)), Rn m_A_init 45 [l0, l1] (vR o :: vR (some k) :: st) E u = Rn m_A_init 48 [l0, l1] st (E.1, am_rp E.2.1 k 3 o, E.2.2) u) ∧
  (∀ (l1 : am_V) (a : Option Nat) (st : List am_V) (E : am_E) (u : am_M), Rn m_A_init 48 [vR a, l1] st E u = Rn m_A_init 49 [vR a, l1] (vR a :: st) E u) ∧
  (∀ (l0 l1 : am_V) (st : List am_V) (E : am_E) (u : am_M), Rn m_A_init 49 [l0, l1] st E u = Rn m_A_init 52 [l0, l1] (vR (some E.1.length) :: st) (E.1 ++ [(1, 3)], am_zq E.2.1 E.1.length, E.2.2) (am_zr u E.1.length)) ∧
  (∀ (l0 l1 : am_V) (a : Int) (st : List am_V) (E : am_E) (u : am_M), Rn m_A_init 52 [l0, l1] (vI a :: st) E u = Rn m_A_init 53 [l0, l1] (vI a :: vI a :: st) E u) ∧
  (∀ (l0 l1 : am_V) (a : Option Nat) (st : List am_V) (E : am_E) (u : am_M), Rn m_A_init 52 [l0, l1] (vR a :: st) E u = Rn m_A_init 53 [l0, l1] (vR a :: vR a :: st) E u) ∧
  (∀ (l0 l1 : am_V) (k : Nat) (r0 r1 : am_V) (E : am_E) (u : am_M) (hk : E.1[k]? = some (1, 3)), Rn m_A_init 53 [l0, l1] [vR (some k), r0, r1] E u = bdV (Rn m_P_init 0 [vR (some k), vB false] [] E u) (KV m_A_init 56 [l0, l1] [r0, r1])) ∧
  (∀ (l0 l1 : am_V) (k : Nat) (o : Option Nat) (st : List am_V) (E : am_E) (u : am_M) (hk : E.1[k]? = some (4, 8)), Rn m_A_init 56 [l0, l1] (vR o :: vR (some k) :: st) E u = Rn m_A_init 59 [l0, l1] st (E.1, am_rp E.2.1 k 4 o, E.2.2) u) ∧
  (∀ (l1 : am_V) (a : Option Nat) (st : List am_V) (E : am_E) (u : am_M), Rn m_A_init 59 [vR a, l1] st E u = Rn m_A_init 60 [vR a, l1] (vR a :: st) E u) ∧
  (∀ (l0 l1 : am_V) (st : List am_V) (E : am_E) (u : am_M), Rn m_A_init 60 [l0, l1] st E u = Rn m_A_init 63 [l0, l1] (vR (some E.1.length) :: st) (E.1 ++ [(3, 3)], am_zq E.2.1 E.1.length, E.2.2) (am_zr u E.1.length)) ∧
  (∀ (l0 l1 : am_V) (a : Int) (st : List am_V) (E : am_E) (u : am_M), Rn m_A_init 63 [l0, l1] (vI a :: st) E u = Rn m_A_init 64 [l0, l1] (vI a :: vI a :: st) E u) ∧
  (∀ (l0 l1 : am_V) (a : Option Nat) (st : List am_V) (E : am_E) (u : am_M), Rn m_A_init 63 [l0, l1] (vR a :: st) E u = Rn m_A_init 64 [l0, l1] (vR a :: vR a :: st) E u) ∧
  (∀ (l0 l1 : am_V) (k : Nat) (r0 r1 : am_V) (E : am_E) (u : am_M) (hk : E.1[k]? = some (3, 3)), Rn m_A_init 64 [l0, l1] [vR (some k), r0, r1] E u = bdV (Rn m_T_init 0 [vR (some k)] [] E u) (KV m_A_init 67 [l0, l1] [r0, r1])) ∧
  (∀ (l0 l1 : am_V) (k : Nat) (o : Option Nat) (st : List am_V) (E : am_E) (u : am_M) (hk : E.1[k]? = some (4, 8)), Rn m_A_init 67 [l0, l1] (vR o :: vR (some k) :: st) E u = Rn m_A_init 70 [l0, l1] st (E.1, am_rp E.2.1 k 5 o, E.2.2) u) ∧
  (∀ (l1 : am_V) (a : Option Nat) (st : List am_V) (E : am_E) (u : am_M), Rn m_A_init 70 [vR a, l1] st E u = Rn m_A_init 71 [vR a, l1] (vR a :: st) E u) ∧
  (∀ (l0 l1 : am_V) (st : List am_V) (E : am_E) (u : am_M), Rn m_A_init 71 [l0, l1] st E u = Rn m_A_init 72 [l0, l1] (vI 4 :: st) E u) ∧
  (∀ (l0 l1 : am_V) (n : Int) (st : List am_V) (E : am_E) (u : am_M) (hn : 0 ≤ n ∧ n ≤ 10000), Rn m_A_init 72 [l0, l1] (vI n :: st) E u = Rn m_A_init 75 [l0, l1] (vR (some E.1.length) :: st) (E.1 ++ [(13, n.toNat)], am_zq E.2.1 E.1.length, E.2.2) (am_zr u E.1.length)) ∧
  (∀ (l0 l1 : am_V) (k : Nat) (o : Option Nat) (st : List am_V) (E : am_E) (u : am_M) (hk : E.1[k]? = some (4, 8)), Rn m_A_init 75 [l0, l1] (vR o :: vR (some k) :: st) E u = Rn m_A_init 78 [l0, l1] st (E.1, am_rp E.2.1 k 6 o, E.2.2) u) ∧
  (∀ (l0 l1 : am_V) (st : List am_V) (E : am_E) (u : am_M), Rn m_A_init 78 [l0, l1] st E u = Rn m_A_init 79 [l0, l1] (vI 0 :: st) E u) ∧
  (∀ (l0 l1 : am_V) (a : Int) (st : List am_V) (E : am_E) (u : am_M), Rn m_A_init 79 [l0, l1] (vI a :: st) E u = Rn m_A_init 80 [am_fx l0, vI a] st E u) ∧
  (∀ (l1 : am_V) (a : Option Nat) (st : List am_V) (E : am_E) (u : am_M), Rn m_A_init 81 [vR a, l1] st E u = Rn m_A_init 82 [vR a, l1] (vR a :: st) E u) ∧
  (∀ (l0 l1 : am_V) (k : Nat) (o : Option Nat) (st : List am_V) (E : am_E) (u : am_M) (hk : E.1[k]? = some (4, 8)) (ho : E.2.1 k 6 = o), Rn m_A_init 82 [l0, l1] (vR (some k) :: st) E u = Rn m_A_init 85 [l0, l1] (vR o :: st) E u) ∧
  (∀ (l0 l1 : am_V) (k : Nat) (st : List am_V) (E : am_E) (u : am_M) (hk : am_kn E k = 13), Rn m_A_init 85 [l0, l1] (vR (some k) :: st) E u = Rn m_A_init 86 [l0, l1] (vI (am_len 13 E k) :: st) E u) ∧
  (∀ (l0 l1 : am_V) (a b : Int) (st : List am_V) (E : am_E) (u : am_M), Rn m_A_init 86 [l0, l1] (vI b :: vI a :: st) E u = if a < b then Rn m_A_init 89 [l0, l1] st E u else Rn m_A_init 108 [l0, l1] st E u) ∧
  (∀ (l1 : am_V) (a : Option Nat) (st : List am_V) (E : am_E) (u : am_M), Rn m_A_init 89 [vR a, l1] st E u = Rn m_A_init 90 [vR a, l1] (vR a :: st) E u) ∧
  (∀ (l0 l1 : am_V) (k : Nat) (o : Option Nat) (st : List am_V) (E : am_E) (u : am_M) (hk : E.1[k]? = some (4, 8)) (ho : E.2.1 k 6 = o), Rn m_A_init 90 [l0, l1] (vR (some k) :: st) E u = Rn m_A_init 93 [l0, l1] (vR o :: st) E u) ∧
  (∀ (l0 : am_V) (a : Int) (st : List am_V) (E : am_E) (u : am_M), Rn m_A_init 93 [l0, vI a] st E u = Rn m_A_init 94 [l0, vI a] (vI a :: st) E u) ∧
  (∀ (l0 l1 : am_V) (st : List am_V) (E : am_E) (u : am_M), Rn m_A_init 94 [l0, l1] st E u = Rn m_A_init 97 [l0, l1] (vR (some E.1.length) :: st) (E.1 ++ [(2, 4)], am_zq E.2.1 E.1.length, E.2.2) (am_zr u E.1.length)) ∧
  (∀ (l0 l1 : am_V) (a : Int) (st : List am_V) (E : am_E) (u : am_M), Rn m_A_init 97 [l0, l1] (vI a :: st) E u = Rn m_A_init 98 [l0, l1] (vI a :: vI a :: st) E u) ∧
  (∀ (l0 l1 : am_V) (a : Option Nat) (st : List am_V) (E : am_E) (u : am_M), Rn m_A_init 97 [l0, l1] (vR a :: st) E u = Rn m_A_init 98 [l0, l1] (vR a :: vR a :: st) E u) ∧
  (∀ (l0 l1 : am_V) (k : Nat) (r0 r1 r2 : am_V) (E : am_E) (u : am_M) (hk : E.1[k]? = some (2, 4)), Rn m_A_init 98 [l0, l1] [vR (some k), r0, r1, r2] E u = bdV (Rn m_S_init 0 [vR (some k)] [] E u) (KV m_A_init 101 [l0, l1] [r0, r1, r2])) ∧
  (∀ (l0 l1 : am_V) (k v : Nat) (i : Int) (st : List am_V) (E : am_E) (u : am_M) (h0 : 0 ≤ i) (h1 : i < am_len 13 E k) (h2 : am_kn E v = 2), Rn m_A_init 101 [l0, l1] (vR (some v) :: vI i :: vR (some k) :: st) E u = Rn m_A_init 102 [l0, l1] st (E.1, am_rp E.2.1 k i.toNat (some v), E.2.2) u) ∧
  (∀ (l0 : am_V) (a : Int) (st : List am_V) (E : am_E) (u : am_M), Rn m_A_init 102 [l0, vI a] st E u = Rn m_A_init 105 [am_fx l0, vI (w32 (a + 1))] st E u) ∧
  (∀ (l0 l1 : am_V) (st : List am_V) (E : am_E) (u : am_M), Rn m_A_init 105 [l0, l1] st E u = Rn m_A_init 80 [l0, l1] st E u) ∧
  (∀ (l0 l1 : am_V) (E : am_E) (u : am_M), Rn m_A_init 108 [l0, l1] [] E u = some (none, E, u)) :=
  ⟨fun l1 a st E u => q_go (by decide +kernel : am_Pg 5 0 = some (.aload_n 0, 1, [], 0)) rfl,
  fun l0 l1 k  E u => q_go (by decide +kernel : am_Pg 5 1 = some (.invokespecial 3, 3, [0], 0)) rfl,
  fun l1 a st E u => q_go (by decide +kernel : am_Pg 5 4 = some (.aload_n 0, 1, [], 0)) rfl,
  fun l0 l1 st E u => q_go (by decide +kernel : am_Pg 5 5 = some (.new 9, 3, [0, 14], 0)) rfl,
  fun l0 l1 a st E u => q_go (by decide +kernel : am_Pg 5 8 = some (.dup, 1, [], 0)) rfl,
  fun l0 l1 a st E u => q_go (by decide +kernel : am_Pg 5 8 = some (.dup, 1, [], 0)) rfl,
  fun l0 l1 k  r0 r1 E u hk => q_cV (by decide +kernel : am_Pg 5 9 = some (.invokespecial 11, 3, [3, 1, 1, 0, 14, 1], 0)) (am_call_V (a := []) (st' := [r0, r1]) (Nat.le_of_ble_eq_true rfl) rfl hk) (by decide +kernel : am_Lm m_C_init = 1) (Nat.le_of_ble_eq_true rfl) rfl (by decide +kernel),
  fun l0 l1 k o st E u hk => q_pfR (by decide +kernel : am_Pg 5 12 = some (.putfield 12, 3, [4, 8, 0, 0], 0)) hk rfl,
  fun l1 a st E u => q_go (by decide +kernel : am_Pg 5 15 = some (.aload_n 0, 1, [], 0)) rfl,
  fun l0 l1 st E u => q_go (by decide +kernel : am_Pg 5 16 = some (.new 9, 3, [0, 14], 0)) rfl,
  fun l0 l1 a st E u => q_go (by decide +kernel : am_Pg 5 19 = some (.dup, 1, [], 0)) rfl,
  fun l0 l1 a st E u => q_go (by decide +kernel : am_Pg 5 19 = some (.dup, 1, [], 0)) rfl,
  fun l0 l1 k  r0 r1 E u hk => q_cV (by decide +kernel : am_Pg 5 20 = some (.invokespecial 11, 3, [3, 1, 1, 0, 14, 1], 0)) (am_call_V (a := []) (st' := [r0, r1]) (Nat.le_of_ble_eq_true rfl) rfl hk) (by decide +kernel : am_Lm m_C_init = 1) (Nat.le_of_ble_eq_true rfl) rfl (by decide +kernel),
  fun l0 l1 k o st E u hk => q_pfR (by decide +kernel : am_Pg 5 23 = some (.putfield 16, 3, [4, 8, 1, 0], 0)) hk rfl,
  fun l1 a st E u => q_go (by decide +kernel : am_Pg 5 26 = some (.aload_n 0, 1, [], 0)) rfl,
  fun l0 l1 st E u => q_go (by decide +kernel : am_Pg 5 27 = some (.new 19, 3, [1, 3], 0)) rfl,
  fun l0 l1 a st E u => q_go (by decide +kernel : am_Pg 5 30 = some (.dup, 1, [], 0)) rfl,
  fun l0 l1 a st E u => q_go (by decide +kernel : am_Pg 5 30 = some (.dup, 1, [], 0)) rfl,
  fun l0 l1 k  r0 r1 E u hk => q_cV (by decide +kernel : am_Pg 5 31 = some (.invokespecial 21, 3, [3, 2, 1, 1, 3, 1], 0)) (am_call_V (a := []) (st' := [r0, r1]) (Nat.le_of_ble_eq_true rfl) rfl hk) (by decide +kernel : am_Lm m_P_init = 2) (Nat.le_of_ble_eq_true rfl) rfl (by decide +kernel),
  fun l0 l1 k o st E u hk => q_pfR (by decide +kernel : am_Pg 5 34 = some (.putfield 22, 3, [4, 8, 2, 0], 0)) hk rfl,
  fun l1 a st E u => q_go (by decide +kernel : am_Pg 5 37 = some (.aload_n 0, 1, [], 0)) rfl,
  fun l0 l1 st E u => q_go (by decide +kernel : am_Pg 5 38 = some (.new 9, 3, [0, 14], 0)) rfl,
  fun l0 l1 a st E u => q_go (by decide +kernel : am_Pg 5 41 = some (.dup, 1, [], 0)) rfl,
  fun l0 l1 a st E u => q_go (by decide +kernel : am_Pg 5 41 = some (.dup, 1, [], 0)) rfl,
  fun l0 l1 k  r0 r1 E u hk => q_cV (by decide +kernel : am_Pg 5 42 = some (.invokespecial 11, 3, [3, 1, 1, 0, 14, 1], 0)) (am_call_V (a := []) (st' := [r0, r1]) (Nat.le_of_ble_eq_true rfl) rfl hk) (by decide +kernel : am_Lm m_C_init = 1) (Nat.le_of_ble_eq_true rfl) rfl (by decide +kernel),
  fun l0 l1 k o st E u hk => q_pfR (by decide +kernel : am_Pg 5 45 = some (.putfield 26, 3, [4, 8, 3, 0], 0)) hk rfl,
  fun l1 a st E u => q_go (by decide +kernel : am_Pg 5 48 = some (.aload_n 0, 1, [], 0)) rfl,
  fun l0 l1 st E u => q_go (by decide +kernel : am_Pg 5 49 = some (.new 19, 3, [1, 3], 0)) rfl,
  fun l0 l1 a st E u => q_go (by decide +kernel : am_Pg 5 52 = some (.dup, 1, [], 0)) rfl,
  fun l0 l1 a st E u => q_go (by decide +kernel : am_Pg 5 52 = some (.dup, 1, [], 0)) rfl,
  fun l0 l1 k  r0 r1 E u hk => q_cV (by decide +kernel : am_Pg 5 53 = some (.invokespecial 21, 3, [3, 2, 1, 1, 3, 1], 0)) (am_call_V (a := []) (st' := [r0, r1]) (Nat.le_of_ble_eq_true rfl) rfl hk) (by decide +kernel : am_Lm m_P_init = 2) (Nat.le_of_ble_eq_true rfl) rfl (by decide +kernel),
  fun l0 l1 k o st E u hk => q_pfR (by decide +kernel : am_Pg 5 56 = some (.putfield 29, 3, [4, 8, 4, 0], 0)) hk rfl,
  fun l1 a st E u => q_go (by decide +kernel : am_Pg 5 59 = some (.aload_n 0, 1, [], 0)) rfl,
  fun l0 l1 st E u => q_go (by decide +kernel : am_Pg 5 60 = some (.new 32, 3, [3, 3], 0)) rfl,
  fun l0 l1 a st E u => q_go (by decide +kernel : am_Pg 5 63 = some (.dup, 1, [], 0)) rfl,
  fun l0 l1 a st E u => q_go (by decide +kernel : am_Pg 5 63 = some (.dup, 1, [], 0)) rfl,
  fun l0 l1 k  r0 r1 E u hk => q_cV (by decide +kernel : am_Pg 5 64 = some (.invokespecial 34, 3, [3, 3, 1, 3, 3, 1], 0)) (am_call_V (a := []) (st' := [r0, r1]) (Nat.le_of_ble_eq_true rfl) rfl hk) (by decide +kernel : am_Lm m_T_init = 1) (Nat.le_of_ble_eq_true rfl) rfl (by decide +kernel),
  fun l0 l1 k o st E u hk => q_pfR (by decide +kernel : am_Pg 5 67 = some (.putfield 35, 3, [4, 8, 5, 0], 0)) hk rfl,
  fun l1 a st E u => q_go (by decide +kernel : am_Pg 5 70 = some (.aload_n 0, 1, [], 0)) rfl,
  fun l0 l1 st E u => q_go (by decide +kernel : am_Pg 5 71 = some (.iconst 4, 1, [], 0)) rfl,
  fun l0 l1 n st E u hn => q_go (by decide +kernel : am_Pg 5 72 = some (.anewarray 39, 3, [13], 0)) (by simp only [am_step]; rw [if_pos hn]; rfl),
  fun l0 l1 k o st E u hk => q_pfR (by decide +kernel : am_Pg 5 75 = some (.putfield 41, 3, [4, 8, 6, 0], 0)) hk rfl,
  fun l0 l1 st E u => q_go (by decide +kernel : am_Pg 5 78 = some (.iconst 0, 1, [], 0)) rfl,
  fun l0 l1 a st E u => q_go (by decide +kernel : am_Pg 5 79 = some (.istore_n 1, 1, [], 0)) rfl,
  fun l1 a st E u => q_go (by decide +kernel : am_Pg 5 81 = some (.aload_n 0, 1, [], 0)) rfl,
  fun l0 l1 k o st E u hk ho => q_gfR (by decide +kernel : am_Pg 5 82 = some (.getfield 41, 3, [4, 8, 6, 0], 0)) hk rfl ho,
  fun l0 l1 k st E u hk => q_alI (by decide +kernel : am_Pg 5 85 = some (.arraylength, 1, [], 0)) hk (by decide) (by decide),
  fun l0 l1 a b st E u => q_icmp_ge (tgt := 108) (by decide +kernel : am_Pg 5 86 = some (.if_icmp .ge 22, 3, [], 0)) (by decide),
  fun l1 a st E u => q_go (by decide +kernel : am_Pg 5 89 = some (.aload_n 0, 1, [], 0)) rfl,
  fun l0 l1 k o st E u hk ho => q_gfR (by decide +kernel : am_Pg 5 90 = some (.getfield 41, 3, [4, 8, 6, 0], 0)) hk rfl ho,
  fun l0 a st E u => q_go (by decide +kernel : am_Pg 5 93 = some (.iload_n 1, 1, [], 0)) rfl,
  fun l0 l1 st E u => q_go (by decide +kernel : am_Pg 5 94 = some (.new 39, 3, [2, 4], 0)) rfl,
  fun l0 l1 a st E u => q_go (by decide +kernel : am_Pg 5 97 = some (.dup, 1, [], 0)) rfl,
  fun l0 l1 a st E u => q_go (by decide +kernel : am_Pg 5 97 = some (.dup, 1, [], 0)) rfl,
  fun l0 l1 k  r0 r1 r2 E u hk => q_cV (by decide +kernel : am_Pg 5 98 = some (.invokespecial 45, 3, [3, 4, 1, 2, 4, 1], 0)) (am_call_V (a := []) (st' := [r0, r1, r2]) (Nat.le_of_ble_eq_true rfl) rfl hk) (by decide +kernel : am_Lm m_S_init = 1) (Nat.le_of_ble_eq_true rfl) rfl (by decide +kernel),
  fun l0 l1 k v i st E u h0 h1 h2 => q_aast (by decide +kernel : am_Pg 5 101 = some (.aastore, 1, [], 0)) h0 (Or.inr ⟨h1, h2⟩),
  fun l0 a st E u => q_go (by decide +kernel : am_Pg 5 102 = some (.iinc 1 1, 3, [], 0)) rfl,
  fun l0 l1 st E u => q_go (by decide +kernel : am_Pg 5 105 = some (.goto (-25), 3, [], 0)) rfl,
  fun l0 l1 E u => q_ret (by decide +kernel : am_Pg 5 108 = some (.return_, 1, [], 0)) rfl⟩
theorem x_A_isIn :
  (∀ (l1 l2 : am_V) (a : Int) (st : List am_V) (E : am_E) (u : am_M), Rn m_A_isIn 0 [vI a, l1, l2] st E u = Rn m_A_isIn 1 [vI a, l1, l2] (vI a :: st) E u) ∧
  (∀ (l0 l2 : am_V) (a : Int) (st : List am_V) (E : am_E) (u : am_M), Rn m_A_isIn 1 [l0, vI a, l2] st E u = Rn m_A_isIn 2 [l0, vI a, l2] (vI a :: st) E u) ∧
  (∀ (l0 l1 l2 : am_V) (a b : Int) (st : List am_V) (E : am_E) (u : am_M), Rn m_A_isIn 2 [l0, l1, l2] (vI b :: vI a :: st) E u = if a < b then Rn m_A_isIn 14 [l0, l1, l2] st E u else Rn m_A_isIn 5 [l0, l1, l2] st E u) ∧
  (∀ (l1 l2 : am_V) (a : Int) (st : List am_V) (E : am_E) (u : am_M), Rn m_A_isIn 5 [vI a, l1, l2] st E u = Rn m_A_isIn 6 [vI a, l1, l2] (vI a :: st) E u) ∧
  (∀ (l0 l1 : am_V) (a : Int) (st : List am_V) (E : am_E) (u : am_M), Rn m_A_isIn 6 [l0, l1, vI a] st E u = Rn m_A_isIn 7 [l0, l1, vI a] (vI a :: st) E u) ∧
  (∀ (l0 l1 l2 : am_V) (a b : Int) (st : List am_V) (E : am_E) (u : am_M), Rn m_A_isIn 7 [l0, l1, l2] (vI b :: vI a :: st) E u = if b < a then Rn m_A_isIn 14 [l0, l1, l2] st E u else Rn m_A_isIn 10 [l0, l1, l2] st E u) ∧
  (∀ (l0 l1 l2 : am_V) (st : List am_V) (E : am_E) (u : am_M), Rn m_A_isIn 10 [l0, l1, l2] st E u = Rn m_A_isIn 11 [l0, l1, l2] (vI 1 :: st) E u) ∧
  (∀ (l0 l1 l2 : am_V) (st : List am_V) (E : am_E) (u : am_M), Rn m_A_isIn 11 [l0, l1, l2] st E u = Rn m_A_isIn 15 [l0, l1, l2] st E u) ∧
  (∀ (l0 l1 l2 : am_V) (st : List am_V) (E : am_E) (u : am_M), Rn m_A_isIn 14 [l0, l1, l2] st E u = Rn m_A_isIn 15 [l0, l1, l2] (vI 0 :: st) E u) ∧
  (∀ (l0 l1 l2 : am_V) (b : Bool) (E : am_E) (u : am_M), Rn m_A_isIn 15 [l0, l1, l2] [vI (bI b)] E u = some (some (vI (bI b)), E, u)) ∧
  (∀ (l0 l1 l2 : am_V) (E : am_E) (u : am_M), Rn m_A_isIn 15 [l0, l1, l2] [vI 1] E u = some (some (vI 1), E, u)) ∧
  (∀ (l0 l1 l2 : am_V) (E : am_E) (u : am_M), Rn m_A_isIn 15 [l0, l1, l2] [vI 0] E u = some (some (vI 0), E, u)) :=
  ⟨fun l1 l2 a st E u => q_go (by decide +kernel : am_Pg 8 0 = some (.iload_n 0, 1, [], 0)) rfl,
  fun l0 l2 a st E u => q_go (by decide +kernel : am_Pg 8 1 = some (.iload_n 1, 1, [], 0)) rfl,
  fun l0 l1 l2 a b st E u => q_icmp_lt (tgt := 14) (by decide +kernel : am_Pg 8 2 = some (.if_icmp .lt 12, 3, [], 0)) (by decide),
  fun l1 l2 a st E u => q_go (by decide +kernel : am_Pg 8 5 = some (.iload_n 0, 1, [], 0)) rfl,
  fun l0 l1 a st E u => q_go (by decide +kernel : am_Pg 8 6 = some (.iload_n 2, 1, [], 0)) rfl,
  fun l0 l1 l2 a b st E u => q_icmp_gt (tgt := 14) (by decide +kernel : am_Pg 8 7 = some (.if_icmp .gt 7, 3, [], 0)) (by decide),
  fun l0 l1 l2 st E u => q_go (by decide +kernel : am_Pg 8 10 = some (.iconst 1, 1, [], 0)) rfl,
  fun l0 l1 l2 st E u => q_go (by decide +kernel : am_Pg 8 11 = some (.goto 4, 3, [], 0)) rfl,
  fun l0 l1 l2 st E u => q_go (by decide +kernel : am_Pg 8 14 = some (.iconst 0, 1, [], 0)) rfl,
  fun l0 l1 l2 b E u => by cases b <;> exact q_ret (by decide +kernel : am_Pg 8 15 = some (.ireturn, 1, [1], 0)) rfl,
  fun l0 l1 l2 E u => q_ret (by decide +kernel : am_Pg 8 15 = some (.ireturn, 1, [1], 0)) rfl,
  fun l0 l1 l2 E u => q_ret (by decide +kernel : am_Pg 8 15 = some (.ireturn, 1, [1], 0)) rfl⟩
theorem x_A_cushion :
  (∀ (l0 l2 : am_V) (a : Int) (st : List am_V) (E : am_E) (u : am_M), Rn m_A_cushion 0 [l0, vI a, l2] st E u = Rn m_A_cushion 1 [l0, vI a, l2] (vI a :: st) E u) ∧
  (∀ (l0 l1 l2 : am_V) (st : List am_V) (E : am_E) (u : am_M), Rn m_A_cushion 1 [l0, l1, l2] st E u = Rn m_A_cushion 2 [l0, l1, l2] (vI 3 :: st) E u) ∧
  (∀ (l0 l1 l2 : am_V) (st : List am_V) (E : am_E) (u : am_M), Rn m_A_cushion 2 [l0, l1, l2] st E u = Rn m_A_cushion 4 [l0, l1, l2] (vI 7 :: st) E u) ∧
  (∀ (l0 l1 l2 : am_V) (a0 : Int) (a1 : Int) (a2 : Int) (E : am_E) (u : am_M), Rn m_A_cushion 4 [l0, l1, l2] [vI a2, vI a1, vI a0] E u = bdI (Rn m_A_isIn 0 [vI a0, vI a1, vI a2] [] E u) (KI m_A_cushion 7 [l0, l1, l2] [])) ∧
  (∀ (l0 l1 l2 : am_V) (a : Int) (st : List am_V) (E : am_E) (u : am_M), Rn m_A_cushion 7 [l0, l1, l2] (vI a :: st) E u = if a = 0 then Rn m_A_cushion 20 [l0, l1, l2] st E u else Rn m_A_cushion 10 [l0, l1, l2] st E u) ∧
  (∀ (l0 l1 : am_V) (a : Int) (st : List am_V) (E : am_E) (u : am_M), Rn m_A_cushion 10 [l0, l1, vI a] st E u = Rn m_A_cushion 11 [l0, l1, vI a] (vI a :: st) E u) ∧
  (∀ (l0 l1 l2 : am_V) (st : List am_V) (E : am_E) (u : am_M), Rn m_A_cushion 11 [l0, l1, l2] st E u = Rn m_A_cushion 12 [l0, l1, l2] (vI 3 :: st) E u) ∧
  (∀ (l0 l1 l2 : am_V) (st : List am_V) (E : am_E) (u : am_M), Rn m_A_cushion 12 [l0, l1, l2] st E u = Rn m_A_cushion 14 [l0, l1, l2] (vI 7 :: st) E u) ∧
  (∀ (l0 l1 l2 : am_V) (a0 : Int) (a1 : Int) (a2 : Int) (E : am_E) (u : am_M), Rn m_A_cushion 14 [l0, l1, l2] [vI a2, vI a1, vI a0] E u = bdI (Rn m_A_isIn 0 [vI a0, vI a1, vI a2] [] E u) (KI m_A_cushion 17 [l0, l1, l2] [])) ∧
  (∀ (l0 l1 l2 : am_V) (a : Int) (st : List am_V) (E : am_E) (u : am_M), Rn m_A_cushion 17 [l0, l1, l2] (vI a :: st) E u = if a = 0 then Rn m_A_cushion 20 [l0, l1, l2] st E u else Rn m_A_cushion 22 [l0, l1, l2] st E u) ∧
  (∀ (l0 l1 l2 : am_V) (st : List am_V) (E : am_E) (u : am_M), Rn m_A_cushion 20 [l0, l1, l2] st E u = Rn m_A_cushion 21 [l0, l1, l2] (vI (-1) :: st) E u) ∧
  (∀ (l0 l1 l2 : am_V) (a : Int) (E : am_E) (u : am_M), Rn m_A_cushion 21 [l0, l1, l2] [vI a] E u = some (some (vI a), E, u)) ∧
  (∀ (l1 l2 : am_V) (a : Option Nat) (st : List am_V) (E : am_E) (u : am_M), Rn m_A_cushion 22 [vR a, l1, l2] st E u = Rn m_A_cushion 23 [vR a, l1, l2] (vR a :: st) E u) ∧
  (∀ (l0 l1 l2 : am_V) (st : List am_V) (E : am_E) (u : am_M) (hE : SE E), Rn m_A_cushion 23 [l0, l1, l2] (vR (some 0) :: st) E u = Rn m_A_cushion 26 [l0, l1, l2] (vR (some 1) :: st) E u) ∧
  (∀ (l0 l2 : am_V) (a : Int) (st : List am_V) (E : am_E) (u : am_M), Rn m_A_cushion 26 [l0, vI a, l2] st E u = Rn m_A_cushion 27 [l0, vI a, l2] (vI a :: st) E u) ∧
  (∀ (l0 l1 : am_V) (a : Int) (st : List am_V) (E : am_E) (u : am_M), Rn m_A_cushion 27 [l0, l1, vI a] st E u = Rn m_A_cushion 28 [l0, l1, vI a] (vI a :: st) E u) ∧
  (∀ (l0 l1 l2 : am_V) (a0 : Int) (a1 : Int) (E : am_E) (u : am_M) (hE : SE E), Rn m_A_cushion 28 [l0, l1, l2] [vI a1, vI a0, vR (some 1)] E u = bdV (Rn m_C_empties 0 [vR (some 1), vI a0, vI a1] [] E u) (KV m_A_cushion 31 [l0, l1, l2] [])) ∧
  (∀ (l0 l1 l2 : am_V) (a0 : Int) (a1 : Int) (E : am_E) (u : am_M) (hE : SE E), Rn m_A_cushion 28 [l0, l1, l2] [vI a1, vI a0, vR (some 8)] E u = bdV (Rn m_C_empties 0 [vR (some 8), vI a0, vI a1] [] E u) (KV m_A_cushion 31 [l0, l1, l2] [])) ∧
  (∀ (l0 l1 l2 : am_V) (a0 : Int) (a1 : Int) (E : am_E) (u : am_M) (hE : SE E), Rn m_A_cushion 28 [l0, l1, l2] [vI a1, vI a0, vR (some 73)] E u = bdV (Rn m_C_empties 0 [vR (some 73), vI a0, vI a1] [] E u) (KV m_A_cushion 31 [l0, l1, l2] [])) ∧
  (∀ (l1 l2 : am_V) (a : Option Nat) (st : List am_V) (E : am_E) (u : am_M), Rn m_A_cushion 31 [vR a, l1, l2] st E u = Rn m_A_cushion 32 [vR a, l1, l2] (vR a :: st) E u) ∧
  (∀ (l0 l1 l2 : am_V) (st : List am_V) (E : am_E) (u : am_M) (hE : SE E), Rn m_A_cushion 32 [l0, l1, l2] (vR (some 0) :: st) E u = Rn m_A_cushion 35 [l0, l1, l2] (vR (some 15) :: st) E u) ∧
  (∀ (l0 l1 l2 : am_V) (E : am_E) (u : am_M) (hE : SE E), Rn m_A_cushion 35 [l0, l1, l2] [vR (some 15)] E u = bdV (Rn m_P_forgets 0 [vR (some 15)] [] E u) (KV m_A_cushion 38 [l0, l1, l2] [])) ∧
  (∀ (l0 l1 l2 : am_V) (E : am_E) (u : am_M) (hE : SE E), Rn m_A_cushion 35 [l0, l1, l2] [vR (some 80)] E u = bdV (Rn m_P_forgets 0 [vR (some 80)] [] E u) (KV m_A_cushion 38 [l0, l1, l2] [])) ∧
  (∀ (l1 l2 : am_V) (a : Option Nat) (st : List am_V) (E : am_E) (u : am_M), Rn m_A_cushion 38 [vR a, l1, l2] st E u = Rn m_A_cushion 39 [vR a, l1, l2] (vR a :: st) E u) ∧
  (∀ (l0 l1 l2 : am_V) (st : List am_V) (E : am_E) (u : am_M) (hE : SE E), Rn m_A_cushion 39 [l0, l1, l2] (vR (some 0) :: st) E u = Rn m_A_cushion 42 [l0, l1, l2] (vR (some 1) :: st) E u) ∧
  (∀ (l0 l1 l2 : am_V) (E : am_E) (u : am_M) (hE : SE E), Rn m_A_cushion 42 [l0, l1, l2] [vR (some 1)] E u = bdI (Rn m_C_cellCount 0 [vR (some 1)] [] E u) (KI m_A_cushion 45 [l0, l1, l2] [])) ∧
  (∀ (l0 l1 l2 : am_V) (E : am_E) (u : am_M) (hE : SE E), Rn m_A_cushion 42 [l0, l1, l2] [vR (some 8)] E u = bdI (Rn m_C_cellCount 0 [vR (some 8)] [] E u) (KI m_A_cushion 45 [l0, l1, l2] [])) ∧
  (∀ (l0 l1 l2 : am_V) (E : am_E) (u : am_M) (hE : SE E), Rn m_A_cushion 42 [l0, l1, l2] [vR (some 73)] E u = bdI (Rn m_C_cellCount 0 [vR (some 73)] [] E u) (KI m_A_cushion 45 [l0, l1, l2] [])) ∧
  (∀ (l0 l1 l2 : am_V) (a : Int) (E : am_E) (u : am_M), Rn m_A_cushion 45 [l0, l1, l2] [vI a] E u = some (some (vI a), E, u)) :=
  ⟨fun l0 l2 a st E u => q_go (by decide +kernel : am_Pg 12 0 = some (.iload_n 1, 1, [], 0)) rfl,
  fun l0 l1 l2 st E u => q_go (by decide +kernel : am_Pg 12 1 = some (.iconst 3, 1, [], 0)) rfl,
  fun l0 l1 l2 st E u => q_go (by decide +kernel : am_Pg 12 2 = some (.bipush 7, 2, [], 0)) rfl,
  fun l0 l1 l2 a0 a1 a2  E u => q_cI (by decide +kernel : am_Pg 12 4 = some (.invokestatic 46, 3, [2, 8, 3, 0], 0)) (am_call_S (f := fun _ _ => true) (a := [vI a0, vI a1, vI a2]) (st' := []) (Nat.le_of_ble_eq_true rfl) rfl rfl) (by decide +kernel : am_Lm m_A_isIn = 3) (Nat.le_of_ble_eq_true rfl) rfl (by decide +kernel),
  fun l0 l1 l2 a st E u => q_if_eq (tgt := 20) (by decide +kernel : am_Pg 12 7 = some (.ifCond .eq 13, 3, [], 0)) (by decide),
  fun l0 l1 a st E u => q_go (by decide +kernel : am_Pg 12 10 = some (.iload_n 2, 1, [], 0)) rfl,
  fun l0 l1 l2 st E u => q_go (by decide +kernel : am_Pg 12 11 = some (.iconst 3, 1, [], 0)) rfl,
  fun l0 l1 l2 st E u => q_go (by decide +kernel : am_Pg 12 12 = some (.bipush 7, 2, [], 0)) rfl,
  fun l0 l1 l2 a0 a1 a2  E u => q_cI (by decide +kernel : am_Pg 12 14 = some (.invokestatic 46, 3, [2, 8, 3, 0], 0)) (am_call_S (f := fun _ _ => true) (a := [vI a0, vI a1, vI a2]) (st' := []) (Nat.le_of_ble_eq_true rfl) rfl rfl) (by decide +kernel : am_Lm m_A_isIn = 3) (Nat.le_of_ble_eq_true rfl) rfl (by decide +kernel),
  fun l0 l1 l2 a st E u => q_if_ne (tgt := 22) (by decide +kernel : am_Pg 12 17 = some (.ifCond .ne 5, 3, [], 0)) (by decide),
  fun l0 l1 l2 st E u => q_go (by decide +kernel : am_Pg 12 20 = some (.iconst (-1), 1, [], 0)) rfl,
  fun l0 l1 l2 a E u => q_ret (by decide +kernel : am_Pg 12 21 = some (.ireturn, 1, [], 0)) rfl,
  fun l1 l2 a st E u => q_go (by decide +kernel : am_Pg 12 22 = some (.aload_n 0, 1, [], 0)) rfl,
  fun l0 l1 l2 st E u hE => q_gfR (by decide +kernel : am_Pg 12 23 = some (.getfield 12, 3, [4, 8, 0, 0], 0)) (SE_k4 hE) rfl (SE_r4_0 hE),
  fun l0 l2 a st E u => q_go (by decide +kernel : am_Pg 12 26 = some (.iload_n 1, 1, [], 0)) rfl,
  fun l0 l1 a st E u => q_go (by decide +kernel : am_Pg 12 27 = some (.iload_n 2, 1, [], 0)) rfl,
  fun l0 l1 l2 a0 a1  E u hE => q_cV (by decide +kernel : am_Pg 12 28 = some (.invokevirtual 50, 3, [3, 9, 3, 0, 14, 1], 0)) (am_call_V (a := [vI a0, vI a1]) (st' := []) (Nat.le_of_ble_eq_true rfl) rfl (SE_k0 hE cuB_1)) (by decide +kernel : am_Lm m_C_empties = 3) (Nat.le_of_ble_eq_true rfl) rfl (by decide +kernel),
  fun l0 l1 l2 a0 a1  E u hE => q_cV (by decide +kernel : am_Pg 12 28 = some (.invokevirtual 50, 3, [3, 9, 3, 0, 14, 1], 0)) (am_call_V (a := [vI a0, vI a1]) (st' := []) (Nat.le_of_ble_eq_true rfl) rfl (SE_k0 hE cuB_8)) (by decide +kernel : am_Lm m_C_empties = 3) (Nat.le_of_ble_eq_true rfl) rfl (by decide +kernel),
  fun l0 l1 l2 a0 a1  E u hE => q_cV (by decide +kernel : am_Pg 12 28 = some (.invokevirtual 50, 3, [3, 9, 3, 0, 14, 1], 0)) (am_call_V (a := [vI a0, vI a1]) (st' := []) (Nat.le_of_ble_eq_true rfl) rfl (SE_k0 hE cuB_73)) (by decide +kernel : am_Lm m_C_empties = 3) (Nat.le_of_ble_eq_true rfl) rfl (by decide +kernel),
  fun l1 l2 a st E u => q_go (by decide +kernel : am_Pg 12 31 = some (.aload_n 0, 1, [], 0)) rfl,
  fun l0 l1 l2 st E u hE => q_gfR (by decide +kernel : am_Pg 12 32 = some (.getfield 22, 3, [4, 8, 2, 0], 0)) (SE_k4 hE) rfl (SE_r4_2 hE),
  fun l0 l1 l2   E u hE => q_cV (by decide +kernel : am_Pg 12 35 = some (.invokevirtual 54, 3, [3, 10, 1, 1, 3, 1], 0)) (am_call_V (a := []) (st' := []) (Nat.le_of_ble_eq_true rfl) rfl (SE_k1 hE paB_15)) (by decide +kernel : am_Lm m_P_forgets = 1) (Nat.le_of_ble_eq_true rfl) rfl (by decide +kernel),
  fun l0 l1 l2   E u hE => q_cV (by decide +kernel : am_Pg 12 35 = some (.invokevirtual 54, 3, [3, 10, 1, 1, 3, 1], 0)) (am_call_V (a := []) (st' := []) (Nat.le_of_ble_eq_true rfl) rfl (SE_k1 hE paB_80)) (by decide +kernel : am_Lm m_P_forgets = 1) (Nat.le_of_ble_eq_true rfl) rfl (by decide +kernel),
  fun l1 l2 a st E u => q_go (by decide +kernel : am_Pg 12 38 = some (.aload_n 0, 1, [], 0)) rfl,
  fun l0 l1 l2 st E u hE => q_gfR (by decide +kernel : am_Pg 12 39 = some (.getfield 12, 3, [4, 8, 0, 0], 0)) (SE_k4 hE) rfl (SE_r4_0 hE),
  fun l0 l1 l2   E u hE => q_cI (by decide +kernel : am_Pg 12 42 = some (.invokevirtual 57, 3, [3, 11, 1, 0, 14, 1], 0)) (am_call_V (a := []) (st' := []) (Nat.le_of_ble_eq_true rfl) rfl (SE_k0 hE cuB_1)) (by decide +kernel : am_Lm m_C_cellCount = 1) (Nat.le_of_ble_eq_true rfl) rfl (by decide +kernel),
  fun l0 l1 l2   E u hE => q_cI (by decide +kernel : am_Pg 12 42 = some (.invokevirtual 57, 3, [3, 11, 1, 0, 14, 1], 0)) (am_call_V (a := []) (st' := []) (Nat.le_of_ble_eq_true rfl) rfl (SE_k0 hE cuB_8)) (by decide +kernel : am_Lm m_C_cellCount = 1) (Nat.le_of_ble_eq_true rfl) rfl (by decide +kernel),
  fun l0 l1 l2   E u hE => q_cI (by decide +kernel : am_Pg 12 42 = some (.invokevirtual 57, 3, [3, 11, 1, 0, 14, 1], 0)) (am_call_V (a := []) (st' := []) (Nat.le_of_ble_eq_true rfl) rfl (SE_k0 hE cuB_73)) (by decide +kernel : am_Lm m_C_cellCount = 1) (Nat.le_of_ble_eq_true rfl) rfl (by decide +kernel),
  fun l0 l1 l2 a E u => q_ret (by decide +kernel : am_Pg 12 45 = some (.ireturn, 1, [], 0)) rfl⟩
theorem x_A_lay :
  (∀ (l1 l2 : am_V) (a : Option Nat) (st : List am_V) (E : am_E) (u : am_M), Rn m_A_lay 0 [vR a, l1, l2] st E u = Rn m_A_lay 1 [vR a, l1, l2] (vR a :: st) E u) ∧
  (∀ (l0 l1 l2 : am_V) (st : List am_V) (E : am_E) (u : am_M), Rn m_A_lay 1 [l0, l1, l2] (vR none :: st) E u = Rn m_A_lay 18 [l0, l1, l2] st E u) ∧
  (∀ (l0 l1 l2 : am_V) (a : Nat) (st : List am_V) (E : am_E) (u : am_M), Rn m_A_lay 1 [l0, l1, l2] (vR (some a) :: st) E u = Rn m_A_lay 4 [l0, l1, l2] st E u) ∧
  (∀ (l0 l2 : am_V) (a : Int) (st : List am_V) (E : am_E) (u : am_M), Rn m_A_lay 4 [l0, vI a, l2] st E u = Rn m_A_lay 5 [l0, vI a, l2] (vI a :: st) E u) ∧
  (∀ (l0 l1 l2 : am_V) (a : Int) (st : List am_V) (E : am_E) (u : am_M), Rn m_A_lay 5 [l0, l1, l2] (vI a :: st) E u = if a < 0 then Rn m_A_lay 18 [l0, l1, l2] st E u else Rn m_A_lay 8 [l0, l1, l2] st E u) ∧
  (∀ (l0 l2 : am_V) (a : Int) (st : List am_V) (E : am_E) (u : am_M), Rn m_A_lay 8 [l0, vI a, l2] st E u = Rn m_A_lay 9 [l0, vI a, l2] (vI a :: st) E u) ∧
  (∀ (l1 l2 : am_V) (a : Option Nat) (st : List am_V) (E : am_E) (u : am_M), Rn m_A_lay 9 [vR a, l1, l2] st E u = Rn m_A_lay 10 [vR a, l1, l2] (vR a :: st) E u) ∧
  (∀ (l0 l1 l2 : am_V) (k : Nat) (st : List am_V) (E : am_E) (u : am_M) (hk : am_kn E k = 10), Rn m_A_lay 10 [l0, l1, l2] (vR (some k) :: st) E u = Rn m_A_lay 11 [l0, l1, l2] (vI (am_len 10 E k) :: st) E u) ∧
  (∀ (l0 l1 l2 : am_V) (a b : Int) (st : List am_V) (E : am_E) (u : am_M), Rn m_A_lay 11 [l0, l1, l2] (vI b :: vI a :: st) E u = if a < b then Rn m_A_lay 14 [l0, l1, l2] st E u else Rn m_A_lay 18 [l0, l1, l2] st E u) ∧
  (∀ (l1 l2 : am_V) (a : Option Nat) (st : List am_V) (E : am_E) (u : am_M), Rn m_A_lay 14 [vR a, l1, l2] st E u = Rn m_A_lay 15 [vR a, l1, l2] (vR a :: st) E u) ∧
  (∀ (l0 l2 : am_V) (a : Int) (st : List am_V) (E : am_E) (u : am_M), Rn m_A_lay 15 [l0, vI a, l2] st E u = Rn m_A_lay 16 [l0, vI a, l2] (vI a :: st) E u) ∧
  (∀ (l0 l1 : am_V) (a : Int) (st : List am_V) (E : am_E) (u : am_M), Rn m_A_lay 16 [l0, l1, vI a] st E u = Rn m_A_lay 17 [l0, l1, vI a] (vI a :: st) E u) ∧
  (∀ (l0 l1 l2 : am_V) (k : Nat) (i a : Int) (st : List am_V) (E : am_E) (u : am_M) (h0 : 0 ≤ i) (h1 : i < am_len 10 E k), Rn m_A_lay 17 [l0, l1, l2] (vI a :: vI i :: vR (some k) :: st) E u = Rn m_A_lay 18 [l0, l1, l2] st E (am_up u k i.toNat a)) ∧
  (∀ (l0 l1 l2 : am_V) (E : am_E) (u : am_M), Rn m_A_lay 18 [l0, l1, l2] [] E u = some (none, E, u)) :=
  ⟨fun l1 l2 a st E u => q_go (by decide +kernel : am_Pg 19 0 = some (.aload_n 0, 1, [], 0)) rfl,
  fun l0 l1 l2 st E u => q_go (by decide +kernel : am_Pg 19 1 = some (.ifnull 17, 3, [], 0)) rfl,
  fun l0 l1 l2 a st E u => q_go (by decide +kernel : am_Pg 19 1 = some (.ifnull 17, 3, [], 0)) rfl,
  fun l0 l2 a st E u => q_go (by decide +kernel : am_Pg 19 4 = some (.iload_n 1, 1, [], 0)) rfl,
  fun l0 l1 l2 a st E u => q_if_lt (tgt := 18) (by decide +kernel : am_Pg 19 5 = some (.ifCond .lt 13, 3, [], 0)) (by decide),
  fun l0 l2 a st E u => q_go (by decide +kernel : am_Pg 19 8 = some (.iload_n 1, 1, [], 0)) rfl,
  fun l1 l2 a st E u => q_go (by decide +kernel : am_Pg 19 9 = some (.aload_n 0, 1, [], 0)) rfl,
  fun l0 l1 l2 k st E u hk => q_alI (by decide +kernel : am_Pg 19 10 = some (.arraylength, 1, [], 0)) hk (by decide) (by decide),
  fun l0 l1 l2 a b st E u => q_icmp_ge (tgt := 18) (by decide +kernel : am_Pg 19 11 = some (.if_icmp .ge 7, 3, [], 0)) (by decide),
  fun l1 l2 a st E u => q_go (by decide +kernel : am_Pg 19 14 = some (.aload_n 0, 1, [], 0)) rfl,
  fun l0 l2 a st E u => q_go (by decide +kernel : am_Pg 19 15 = some (.iload_n 1, 1, [], 0)) rfl,
  fun l0 l1 a st E u => q_go (by decide +kernel : am_Pg 19 16 = some (.iload_n 2, 1, [], 0)) rfl,
  fun l0 l1 l2 k i a st E u h0 h1 => q_iast (by decide +kernel : am_Pg 19 17 = some (.iastore, 1, [], 0)) h0 h1,
  fun l0 l1 l2 E u => q_ret (by decide +kernel : am_Pg 19 18 = some (.return_, 1, [], 0)) rfl⟩
theorem x_A_pin :
  (∀ (l0 l2 : am_V) (a : Int) (st : List am_V) (E : am_E) (u : am_M), Rn m_A_pin 0 [l0, vI a, l2] st E u = Rn m_A_pin 1 [l0, vI a, l2] (vI a :: st) E u) ∧
  (∀ (l0 l1 l2 : am_V) (st : List am_V) (E : am_E) (u : am_M), Rn m_A_pin 1 [l0, l1, l2] st E u = Rn m_A_pin 2 [l0, l1, l2] (vI 0 :: st) E u) ∧
  (∀ (l0 l1 l2 : am_V) (st : List am_V) (E : am_E) (u : am_M), Rn m_A_pin 2 [l0, l1, l2] st E u = Rn m_A_pin 3 [l0, l1, l2] (vI 4 :: st) E u) ∧
  (∀ (l0 l1 l2 : am_V) (a0 : Int) (a1 : Int) (a2 : Int) (E : am_E) (u : am_M), Rn m_A_pin 3 [l0, l1, l2] [vI a2, vI a1, vI a0] E u = bdI (Rn m_A_isIn 0 [vI a0, vI a1, vI a2] [] E u) (KI m_A_pin 6 [l0, l1, l2] [])) ∧
  (∀ (l0 l1 l2 : am_V) (a : Int) (st : List am_V) (E : am_E) (u : am_M), Rn m_A_pin 6 [l0, l1, l2] (vI a :: st) E u = if a = 0 then Rn m_A_pin 20 [l0, l1, l2] st E u else Rn m_A_pin 9 [l0, l1, l2] st E u) ∧
  (∀ (l1 l2 : am_V) (a : Option Nat) (st : List am_V) (E : am_E) (u : am_M), Rn m_A_pin 9 [vR a, l1, l2] st E u = Rn m_A_pin 10 [vR a, l1, l2] (vR a :: st) E u) ∧
  (∀ (l0 l1 l2 : am_V) (st : List am_V) (E : am_E) (u : am_M) (hE : SE E), Rn m_A_pin 10 [l0, l1, l2] (vR (some 0) :: st) E u = Rn m_A_pin 13 [l0, l1, l2] (vR (some 1) :: st) E u) ∧
  (∀ (l0 l1 : am_V) (a : Int) (st : List am_V) (E : am_E) (u : am_M), Rn m_A_pin 13 [l0, l1, vI a] st E u = Rn m_A_pin 14 [l0, l1, vI a] (vI a :: st) E u) ∧
  (∀ (l0 l1 l2 : am_V) (a0 : Int) (E : am_E) (u : am_M) (hE : SE E), Rn m_A_pin 14 [l0, l1, l2] [vI a0, vR (some 1)] E u = bdI (Rn m_C_isCell 0 [vR (some 1), vI a0] [] E u) (KI m_A_pin 17 [l0, l1, l2] [])) ∧
  (∀ (l0 l1 l2 : am_V) (a0 : Int) (E : am_E) (u : am_M) (hE : SE E), Rn m_A_pin 14 [l0, l1, l2] [vI a0, vR (some 8)] E u = bdI (Rn m_C_isCell 0 [vR (some 8), vI a0] [] E u) (KI m_A_pin 17 [l0, l1, l2] [])) ∧
  (∀ (l0 l1 l2 : am_V) (a0 : Int) (E : am_E) (u : am_M) (hE : SE E), Rn m_A_pin 14 [l0, l1, l2] [vI a0, vR (some 73)] E u = bdI (Rn m_C_isCell 0 [vR (some 73), vI a0] [] E u) (KI m_A_pin 17 [l0, l1, l2] [])) ∧
  (∀ (l0 l1 l2 : am_V) (a : Int) (st : List am_V) (E : am_E) (u : am_M), Rn m_A_pin 17 [l0, l1, l2] (vI a :: st) E u = if a = 0 then Rn m_A_pin 20 [l0, l1, l2] st E u else Rn m_A_pin 22 [l0, l1, l2] st E u) ∧
  (∀ (l0 l1 l2 : am_V) (st : List am_V) (E : am_E) (u : am_M), Rn m_A_pin 20 [l0, l1, l2] st E u = Rn m_A_pin 21 [l0, l1, l2] (vI (-1) :: st) E u) ∧
  (∀ (l0 l1 l2 : am_V) (a : Int) (E : am_E) (u : am_M), Rn m_A_pin 21 [l0, l1, l2] [vI a] E u = some (some (vI a), E, u)) ∧
  (∀ (l1 l2 : am_V) (a : Option Nat) (st : List am_V) (E : am_E) (u : am_M), Rn m_A_pin 22 [vR a, l1, l2] st E u = Rn m_A_pin 23 [vR a, l1, l2] (vR a :: st) E u) ∧
  (∀ (l0 l1 l2 : am_V) (st : List am_V) (E : am_E) (u : am_M) (hE : SE E), Rn m_A_pin 23 [l0, l1, l2] (vR (some 0) :: st) E u = Rn m_A_pin 26 [l0, l1, l2] (vR (some 1) :: st) E u) ∧
  (∀ (l0 l1 : am_V) (a : Int) (st : List am_V) (E : am_E) (u : am_M), Rn m_A_pin 26 [l0, l1, vI a] st E u = Rn m_A_pin 27 [l0, l1, vI a] (vI a :: st) E u) ∧
  (∀ (l0 l1 l2 : am_V) (a0 : Int) (E : am_E) (u : am_M) (hE : SE E), Rn m_A_pin 27 [l0, l1, l2] [vI a0, vR (some 1)] E u = bdI (Rn m_C_thingOn 0 [vR (some 1), vI a0] [] E u) (KI m_A_pin 30 [l0, l1, l2] [])) ∧
  (∀ (l0 l1 l2 : am_V) (a0 : Int) (E : am_E) (u : am_M) (hE : SE E), Rn m_A_pin 27 [l0, l1, l2] [vI a0, vR (some 8)] E u = bdI (Rn m_C_thingOn 0 [vR (some 8), vI a0] [] E u) (KI m_A_pin 30 [l0, l1, l2] [])) ∧
  (∀ (l0 l1 l2 : am_V) (a0 : Int) (E : am_E) (u : am_M) (hE : SE E), Rn m_A_pin 27 [l0, l1, l2] [vI a0, vR (some 73)] E u = bdI (Rn m_C_thingOn 0 [vR (some 73), vI a0] [] E u) (KI m_A_pin 30 [l0, l1, l2] [])) ∧
  (∀ (l0 l1 l2 : am_V) (st : List am_V) (E : am_E) (u : am_M), Rn m_A_pin 30 [l0, l1, l2] st E u = Rn m_A_pin 32 [l0, l1, l2] (vI (-4) :: st) E u) ∧
  (∀ (l0 l1 l2 : am_V) (a b : Int) (st : List am_V) (E : am_E) (u : am_M), Rn m_A_pin 32 [l0, l1, l2] (vI b :: vI a :: st) E u = if a = b then Rn m_A_pin 38 [l0, l1, l2] st E u else Rn m_A_pin 35 [l0, l1, l2] st E u) ∧
  (∀ (l0 l1 l2 : am_V) (st : List am_V) (E : am_E) (u : am_M), Rn m_A_pin 35 [l0, l1, l2] st E u = Rn m_A_pin 37 [l0, l1, l2] (vI (-2) :: st) E u) ∧
  (∀ (l0 l1 l2 : am_V) (a : Int) (E : am_E) (u : am_M), Rn m_A_pin 37 [l0, l1, l2] [vI a] E u = some (some (vI a), E, u)) ∧
  (∀ (l1 l2 : am_V) (a : Option Nat) (st : List am_V) (E : am_E) (u : am_M), Rn m_A_pin 38 [vR a, l1, l2] st E u = Rn m_A_pin 39 [vR a, l1, l2] (vR a :: st) E u) ∧
  (∀ (l0 l1 l2 : am_V) (st : List am_V) (E : am_E) (u : am_M) (hE : SE E), Rn m_A_pin 39 [l0, l1, l2] (vR (some 0) :: st) E u = Rn m_A_pin 42 [l0, l1, l2] (vR (some 1) :: st) E u) ∧
  (∀ (l0 l1 l2 : am_V) (st : List am_V) (E : am_E) (u : am_M) (hE : SE E), Rn m_A_pin 42 [l0, l1, l2] (vR (some 1) :: st) E u = Rn m_A_pin 45 [l0, l1, l2] (vI (u 1 2) :: st) E u) ∧
  (∀ (l0 l1 l2 : am_V) (st : List am_V) (E : am_E) (u : am_M) (hE : SE E), Rn m_A_pin 42 [l0, l1, l2] (vR (some 8) :: st) E u = Rn m_A_pin 45 [l0, l1, l2] (vI (u 8 2) :: st) E u) ∧
  (∀ (l0 l1 l2 : am_V) (st : List am_V) (E : am_E) (u : am_M) (hE : SE E), Rn m_A_pin 42 [l0, l1, l2] (vR (some 73) :: st) E u = Rn m_A_pin 45 [l0, l1, l2] (vI (u 73 2) :: st) E u) ∧
  (∀ (l0 l1 l2 : am_V) (st : List am_V) (E : am_E) (u : am_M), Rn m_A_pin 45 [l0, l1, l2] st E u = Rn m_A_pin 47 [l0, l1, l2] (vI 7 :: st) E u) ∧
  (∀ (l0 l1 l2 : am_V) (a b : Int) (st : List am_V) (E : am_E) (u : am_M), Rn m_A_pin 47 [l0, l1, l2] (vI b :: vI a :: st) E u = if a < b then Rn m_A_pin 53 [l0, l1, l2] st E u else Rn m_A_pin 50 [l0, l1, l2] st E u) ∧
  (∀ (l0 l1 l2 : am_V) (st : List am_V) (E : am_E) (u : am_M), Rn m_A_pin 50 [l0, l1, l2] st E u = Rn m_A_pin 52 [l0, l1, l2] (vI (-3) :: st) E u) ∧
  (∀ (l0 l1 l2 : am_V) (a : Int) (E : am_E) (u : am_M), Rn m_A_pin 52 [l0, l1, l2] [vI a] E u = some (some (vI a), E, u)) ∧
  (∀ (l1 l2 : am_V) (a : Option Nat) (st : List am_V) (E : am_E) (u : am_M), Rn m_A_pin 53 [vR a, l1, l2] st E u = Rn m_A_pin 54 [vR a, l1, l2] (vR a :: st) E u) ∧
  (∀ (l0 l1 l2 : am_V) (st : List am_V) (E : am_E) (u : am_M) (hE : SE E), Rn m_A_pin 54 [l0, l1, l2] (vR (some 0) :: st) E u = Rn m_A_pin 57 [l0, l1, l2] (vR (some 15) :: st) E u) ∧
  (∀ (l0 l1 l2 : am_V) (E : am_E) (u : am_M) (hE : SE E), Rn m_A_pin 57 [l0, l1, l2] [vR (some 15)] E u = bdV (Rn m_P_forgets 0 [vR (some 15)] [] E u) (KV m_A_pin 60 [l0, l1, l2] [])) ∧
  (∀ (l0 l1 l2 : am_V) (E : am_E) (u : am_M) (hE : SE E), Rn m_A_pin 57 [l0, l1, l2] [vR (some 80)] E u = bdV (Rn m_P_forgets 0 [vR (some 80)] [] E u) (KV m_A_pin 60 [l0, l1, l2] [])) ∧
  (∀ (l1 l2 : am_V) (a : Option Nat) (st : List am_V) (E : am_E) (u : am_M), Rn m_A_pin 60 [vR a, l1, l2] st E u = Rn m_A_pin 61 [vR a, l1, l2] (vR a :: st) E u) ∧
  (∀ (l0 l1 l2 : am_V) (st : List am_V) (E : am_E) (u : am_M) (hE : SE E), Rn m_A_pin 61 [l0, l1, l2] (vR (some 0) :: st) E u = Rn m_A_pin 64 [l0, l1, l2] (vR (some 1) :: st) E u) ∧
  (∀ (l0 l2 : am_V) (a : Int) (st : List am_V) (E : am_E) (u : am_M), Rn m_A_pin 64 [l0, vI a, l2] st E u = Rn m_A_pin 65 [l0, vI a, l2] (vI a :: st) E u) ∧
  (∀ (l0 l1 : am_V) (a : Int) (st : List am_V) (E : am_E) (u : am_M), Rn m_A_pin 65 [l0, l1, vI a] st E u = Rn m_A_pin 66 [l0, l1, vI a] (vI a :: st) E u) ∧
  (∀ (l0 l1 l2 : am_V) (st : List am_V) (E : am_E) (u : am_M), Rn m_A_pin 66 [l0, l1, l2] st E u = Rn m_A_pin 67 [l0, l1, l2] (vI 3 :: st) E u) ∧
  (∀ (l0 l1 l2 : am_V) (a0 : Int) (a1 : Int) (a2 : Int) (E : am_E) (u : am_M) (hE : SE E), Rn m_A_pin 67 [l0, l1, l2] [vI a2, vI a1, vI a0, vR (some 1)] E u = bdI (Rn m_C_addPin 0 [vR (some 1), vI a0, vI a1, vI a2, vB false] [] E u) (KI m_A_pin 70 [l0, l1, l2] [])) ∧
  (∀ (l0 l1 l2 : am_V) (a0 : Int) (a1 : Int) (a2 : Int) (E : am_E) (u : am_M) (hE : SE E), Rn m_A_pin 67 [l0, l1, l2] [vI a2, vI a1, vI a0, vR (some 8)] E u = bdI (Rn m_C_addPin 0 [vR (some 8), vI a0, vI a1, vI a2, vB false] [] E u) (KI m_A_pin 70 [l0, l1, l2] [])) ∧
  (∀ (l0 l1 l2 : am_V) (a0 : Int) (a1 : Int) (a2 : Int) (E : am_E) (u : am_M) (hE : SE E), Rn m_A_pin 67 [l0, l1, l2] [vI a2, vI a1, vI a0, vR (some 73)] E u = bdI (Rn m_C_addPin 0 [vR (some 73), vI a0, vI a1, vI a2, vB false] [] E u) (KI m_A_pin 70 [l0, l1, l2] [])) ∧
  (∀ (l0 l1 l2 : am_V) (a : Int) (E : am_E) (u : am_M), Rn m_A_pin 70 [l0, l1, l2] [vI a] E u = some (some (vI a), E, u)) :=
  ⟨fun l0 l2 a st E u => q_go (by decide +kernel : am_Pg 21 0 = some (.iload_n 1, 1, [], 0)) rfl,
  fun l0 l1 l2 st E u => q_go (by decide +kernel : am_Pg 21 1 = some (.iconst 0, 1, [], 0)) rfl,
  fun l0 l1 l2 st E u => q_go (by decide +kernel : am_Pg 21 2 = some (.iconst 4, 1, [], 0)) rfl,
  fun l0 l1 l2 a0 a1 a2  E u => q_cI (by decide +kernel : am_Pg 21 3 = some (.invokestatic 46, 3, [2, 8, 3, 0], 0)) (am_call_S (f := fun _ _ => true) (a := [vI a0, vI a1, vI a2]) (st' := []) (Nat.le_of_ble_eq_true rfl) rfl rfl) (by decide +kernel : am_Lm m_A_isIn = 3) (Nat.le_of_ble_eq_true rfl) rfl (by decide +kernel),
  fun l0 l1 l2 a st E u => q_if_eq (tgt := 20) (by decide +kernel : am_Pg 21 6 = some (.ifCond .eq 14, 3, [], 0)) (by decide),
  fun l1 l2 a st E u => q_go (by decide +kernel : am_Pg 21 9 = some (.aload_n 0, 1, [], 0)) rfl,
  fun l0 l1 l2 st E u hE => q_gfR (by decide +kernel : am_Pg 21 10 = some (.getfield 12, 3, [4, 8, 0, 0], 0)) (SE_k4 hE) rfl (SE_r4_0 hE),
  fun l0 l1 a st E u => q_go (by decide +kernel : am_Pg 21 13 = some (.iload_n 2, 1, [], 0)) rfl,
  fun l0 l1 l2 a0  E u hE => q_cI (by decide +kernel : am_Pg 21 14 = some (.invokevirtual 61, 3, [3, 16, 2, 0, 14, 1], 0)) (am_call_V (a := [vI a0]) (st' := []) (Nat.le_of_ble_eq_true rfl) rfl (SE_k0 hE cuB_1)) (by decide +kernel : am_Lm m_C_isCell = 2) (Nat.le_of_ble_eq_true rfl) rfl (by decide +kernel),
  fun l0 l1 l2 a0  E u hE => q_cI (by decide +kernel : am_Pg 21 14 = some (.invokevirtual 61, 3, [3, 16, 2, 0, 14, 1], 0)) (am_call_V (a := [vI a0]) (st' := []) (Nat.le_of_ble_eq_true rfl) rfl (SE_k0 hE cuB_8)) (by decide +kernel : am_Lm m_C_isCell = 2) (Nat.le_of_ble_eq_true rfl) rfl (by decide +kernel),
  fun l0 l1 l2 a0  E u hE => q_cI (by decide +kernel : am_Pg 21 14 = some (.invokevirtual 61, 3, [3, 16, 2, 0, 14, 1], 0)) (am_call_V (a := [vI a0]) (st' := []) (Nat.le_of_ble_eq_true rfl) rfl (SE_k0 hE cuB_73)) (by decide +kernel : am_Lm m_C_isCell = 2) (Nat.le_of_ble_eq_true rfl) rfl (by decide +kernel),
  fun l0 l1 l2 a st E u => q_if_ne (tgt := 22) (by decide +kernel : am_Pg 21 17 = some (.ifCond .ne 5, 3, [], 0)) (by decide),
  fun l0 l1 l2 st E u => q_go (by decide +kernel : am_Pg 21 20 = some (.iconst (-1), 1, [], 0)) rfl,
  fun l0 l1 l2 a E u => q_ret (by decide +kernel : am_Pg 21 21 = some (.ireturn, 1, [], 0)) rfl,
  fun l1 l2 a st E u => q_go (by decide +kernel : am_Pg 21 22 = some (.aload_n 0, 1, [], 0)) rfl,
  fun l0 l1 l2 st E u hE => q_gfR (by decide +kernel : am_Pg 21 23 = some (.getfield 12, 3, [4, 8, 0, 0], 0)) (SE_k4 hE) rfl (SE_r4_0 hE),
  fun l0 l1 a st E u => q_go (by decide +kernel : am_Pg 21 26 = some (.iload_n 2, 1, [], 0)) rfl,
  fun l0 l1 l2 a0  E u hE => q_cI (by decide +kernel : am_Pg 21 27 = some (.invokevirtual 65, 3, [3, 18, 2, 0, 14, 1], 0)) (am_call_V (a := [vI a0]) (st' := []) (Nat.le_of_ble_eq_true rfl) rfl (SE_k0 hE cuB_1)) (by decide +kernel : am_Lm m_C_thingOn = 2) (Nat.le_of_ble_eq_true rfl) rfl (by decide +kernel),
  fun l0 l1 l2 a0  E u hE => q_cI (by decide +kernel : am_Pg 21 27 = some (.invokevirtual 65, 3, [3, 18, 2, 0, 14, 1], 0)) (am_call_V (a := [vI a0]) (st' := []) (Nat.le_of_ble_eq_true rfl) rfl (SE_k0 hE cuB_8)) (by decide +kernel : am_Lm m_C_thingOn = 2) (Nat.le_of_ble_eq_true rfl) rfl (by decide +kernel),
  fun l0 l1 l2 a0  E u hE => q_cI (by decide +kernel : am_Pg 21 27 = some (.invokevirtual 65, 3, [3, 18, 2, 0, 14, 1], 0)) (am_call_V (a := [vI a0]) (st' := []) (Nat.le_of_ble_eq_true rfl) rfl (SE_k0 hE cuB_73)) (by decide +kernel : am_Lm m_C_thingOn = 2) (Nat.le_of_ble_eq_true rfl) rfl (by decide +kernel),
  fun l0 l1 l2 st E u => q_go (by decide +kernel : am_Pg 21 30 = some (.bipush (-4), 2, [], 0)) rfl,
  fun l0 l1 l2 a b st E u => q_icmp_eq (tgt := 38) (by decide +kernel : am_Pg 21 32 = some (.if_icmp .eq 6, 3, [], 0)) (by decide),
  fun l0 l1 l2 st E u => q_go (by decide +kernel : am_Pg 21 35 = some (.bipush (-2), 2, [], 0)) rfl,
  fun l0 l1 l2 a E u => q_ret (by decide +kernel : am_Pg 21 37 = some (.ireturn, 1, [], 0)) rfl,
  fun l1 l2 a st E u => q_go (by decide +kernel : am_Pg 21 38 = some (.aload_n 0, 1, [], 0)) rfl,
  fun l0 l1 l2 st E u hE => q_gfR (by decide +kernel : am_Pg 21 39 = some (.getfield 12, 3, [4, 8, 0, 0], 0)) (SE_k4 hE) rfl (SE_r4_0 hE),
  fun l0 l1 l2 st E u hE => q_gfI (by decide +kernel : am_Pg 21 42 = some (.getfield 69, 3, [0, 14, 2, 1], 0)) (SE_k0 hE cuB_1) (by decide),
  fun l0 l1 l2 st E u hE => q_gfI (by decide +kernel : am_Pg 21 42 = some (.getfield 69, 3, [0, 14, 2, 1], 0)) (SE_k0 hE cuB_8) (by decide),
  fun l0 l1 l2 st E u hE => q_gfI (by decide +kernel : am_Pg 21 42 = some (.getfield 69, 3, [0, 14, 2, 1], 0)) (SE_k0 hE cuB_73) (by decide),
  fun l0 l1 l2 st E u => q_go (by decide +kernel : am_Pg 21 45 = some (.bipush 7, 2, [], 0)) rfl,
  fun l0 l1 l2 a b st E u => q_icmp_lt (tgt := 53) (by decide +kernel : am_Pg 21 47 = some (.if_icmp .lt 6, 3, [], 0)) (by decide),
  fun l0 l1 l2 st E u => q_go (by decide +kernel : am_Pg 21 50 = some (.bipush (-3), 2, [], 0)) rfl,
  fun l0 l1 l2 a E u => q_ret (by decide +kernel : am_Pg 21 52 = some (.ireturn, 1, [], 0)) rfl,
  fun l1 l2 a st E u => q_go (by decide +kernel : am_Pg 21 53 = some (.aload_n 0, 1, [], 0)) rfl,
  fun l0 l1 l2 st E u hE => q_gfR (by decide +kernel : am_Pg 21 54 = some (.getfield 22, 3, [4, 8, 2, 0], 0)) (SE_k4 hE) rfl (SE_r4_2 hE),
  fun l0 l1 l2   E u hE => q_cV (by decide +kernel : am_Pg 21 57 = some (.invokevirtual 54, 3, [3, 10, 1, 1, 3, 1], 0)) (am_call_V (a := []) (st' := []) (Nat.le_of_ble_eq_true rfl) rfl (SE_k1 hE paB_15)) (by decide +kernel : am_Lm m_P_forgets = 1) (Nat.le_of_ble_eq_true rfl) rfl (by decide +kernel),
  fun l0 l1 l2   E u hE => q_cV (by decide +kernel : am_Pg 21 57 = some (.invokevirtual 54, 3, [3, 10, 1, 1, 3, 1], 0)) (am_call_V (a := []) (st' := []) (Nat.le_of_ble_eq_true rfl) rfl (SE_k1 hE paB_80)) (by decide +kernel : am_Lm m_P_forgets = 1) (Nat.le_of_ble_eq_true rfl) rfl (by decide +kernel),
  fun l1 l2 a st E u => q_go (by decide +kernel : am_Pg 21 60 = some (.aload_n 0, 1, [], 0)) rfl,
  fun l0 l1 l2 st E u hE => q_gfR (by decide +kernel : am_Pg 21 61 = some (.getfield 12, 3, [4, 8, 0, 0], 0)) (SE_k4 hE) rfl (SE_r4_0 hE),
  fun l0 l2 a st E u => q_go (by decide +kernel : am_Pg 21 64 = some (.iload_n 1, 1, [], 0)) rfl,
  fun l0 l1 a st E u => q_go (by decide +kernel : am_Pg 21 65 = some (.iload_n 2, 1, [], 0)) rfl,
  fun l0 l1 l2 st E u => q_go (by decide +kernel : am_Pg 21 66 = some (.iconst 3, 1, [], 0)) rfl,
  fun l0 l1 l2 a0 a1 a2  E u hE => q_cI (by decide +kernel : am_Pg 21 67 = some (.invokevirtual 73, 3, [3, 20, 4, 0, 14, 1], 0)) (am_call_V (a := [vI a0, vI a1, vI a2]) (st' := []) (Nat.le_of_ble_eq_true rfl) rfl (SE_k0 hE cuB_1)) (by decide +kernel : am_Lm m_C_addPin = 5) (Nat.le_of_ble_eq_true rfl) rfl (by decide +kernel),
  fun l0 l1 l2 a0 a1 a2  E u hE => q_cI (by decide +kernel : am_Pg 21 67 = some (.invokevirtual 73, 3, [3, 20, 4, 0, 14, 1], 0)) (am_call_V (a := [vI a0, vI a1, vI a2]) (st' := []) (Nat.le_of_ble_eq_true rfl) rfl (SE_k0 hE cuB_8)) (by decide +kernel : am_Lm m_C_addPin = 5) (Nat.le_of_ble_eq_true rfl) rfl (by decide +kernel),
  fun l0 l1 l2 a0 a1 a2  E u hE => q_cI (by decide +kernel : am_Pg 21 67 = some (.invokevirtual 73, 3, [3, 20, 4, 0, 14, 1], 0)) (am_call_V (a := [vI a0, vI a1, vI a2]) (st' := []) (Nat.le_of_ble_eq_true rfl) rfl (SE_k0 hE cuB_73)) (by decide +kernel : am_Lm m_C_addPin = 5) (Nat.le_of_ble_eq_true rfl) rfl (by decide +kernel),
  fun l0 l1 l2 a E u => q_ret (by decide +kernel : am_Pg 21 70 = some (.ireturn, 1, [], 0)) rfl⟩
theorem x_A_areTwoPins :
  (∀ (l1 l2 : am_V) (a : Option Nat) (st : List am_V) (E : am_E) (u : am_M), Rn m_A_areTwoPins 0 [vR a, l1, l2] st E u = Rn m_A_areTwoPins 1 [vR a, l1, l2] (vR a :: st) E u) ∧
  (∀ (l0 l1 l2 : am_V) (st : List am_V) (E : am_E) (u : am_M) (hE : SE E), Rn m_A_areTwoPins 1 [l0, l1, l2] (vR (some 0) :: st) E u = Rn m_A_areTwoPins 4 [l0, l1, l2] (vR (some 1) :: st) E u) ∧
  (∀ (l0 l2 : am_V) (a : Int) (st : List am_V) (E : am_E) (u : am_M), Rn m_A_areTwoPins 4 [l0, vI a, l2] st E u = Rn m_A_areTwoPins 5 [l0, vI a, l2] (vI a :: st) E u) ∧
  (∀ (l0 l1 l2 : am_V) (a0 : Int) (E : am_E) (u : am_M) (hE : SE E), Rn m_A_areTwoPins 5 [l0, l1, l2] [vI a0, vR (some 1)] E u = bdI (Rn m_C_isPin 0 [vR (some 1), vI a0] [] E u) (KI m_A_areTwoPins 8 [l0, l1, l2] [])) ∧
  (∀ (l0 l1 l2 : am_V) (a0 : Int) (E : am_E) (u : am_M) (hE : SE E), Rn m_A_areTwoPins 5 [l0, l1, l2] [vI a0, vR (some 8)] E u = bdI (Rn m_C_isPin 0 [vR (some 8), vI a0] [] E u) (KI m_A_areTwoPins 8 [l0, l1, l2] [])) ∧
  (∀ (l0 l1 l2 : am_V) (a0 : Int) (E : am_E) (u : am_M) (hE : SE E), Rn m_A_areTwoPins 5 [l0, l1, l2] [vI a0, vR (some 73)] E u = bdI (Rn m_C_isPin 0 [vR (some 73), vI a0] [] E u) (KI m_A_areTwoPins 8 [l0, l1, l2] [])) ∧
  (∀ (l0 l1 l2 : am_V) (a : Int) (st : List am_V) (E : am_E) (u : am_M), Rn m_A_areTwoPins 8 [l0, l1, l2] (vI a :: st) E u = if a = 0 then Rn m_A_areTwoPins 31 [l0, l1, l2] st E u else Rn m_A_areTwoPins 11 [l0, l1, l2] st E u) ∧
  (∀ (l1 l2 : am_V) (a : Option Nat) (st : List am_V) (E : am_E) (u : am_M), Rn m_A_areTwoPins 11 [vR a, l1, l2] st E u = Rn m_A_areTwoPins 12 [vR a, l1, l2] (vR a :: st) E u) ∧
  (∀ (l0 l1 l2 : am_V) (st : List am_V) (E : am_E) (u : am_M) (hE : SE E), Rn m_A_areTwoPins 12 [l0, l1, l2] (vR (some 0) :: st) E u = Rn m_A_areTwoPins 15 [l0, l1, l2] (vR (some 1) :: st) E u) ∧
  (∀ (l0 l1 : am_V) (a : Int) (st : List am_V) (E : am_E) (u : am_M), Rn m_A_areTwoPins 15 [l0, l1, vI a] st E u = Rn m_A_areTwoPins 16 [l0, l1, vI a] (vI a :: st) E u) ∧
  (∀ (l0 l1 l2 : am_V) (a0 : Int) (E : am_E) (u : am_M) (hE : SE E), Rn m_A_areTwoPins 16 [l0, l1, l2] [vI a0, vR (some 1)] E u = bdI (Rn m_C_isPin 0 [vR (some 1), vI a0] [] E u) (KI m_A_areTwoPins 19 [l0, l1, l2] [])) ∧
  (∀ (l0 l1 l2 : am_V) (a0 : Int) (E : am_E) (u : am_M) (hE : SE E), Rn m_A_areTwoPins 16 [l0, l1, l2] [vI a0, vR (some 8)] E u = bdI (Rn m_C_isPin 0 [vR (some 8), vI a0] [] E u) (KI m_A_areTwoPins 19 [l0, l1, l2] [])) ∧
  (∀ (l0 l1 l2 : am_V) (a0 : Int) (E : am_E) (u : am_M) (hE : SE E), Rn m_A_areTwoPins 16 [l0, l1, l2] [vI a0, vR (some 73)] E u = bdI (Rn m_C_isPin 0 [vR (some 73), vI a0] [] E u) (KI m_A_areTwoPins 19 [l0, l1, l2] [])) ∧
  (∀ (l0 l1 l2 : am_V) (a : Int) (st : List am_V) (E : am_E) (u : am_M), Rn m_A_areTwoPins 19 [l0, l1, l2] (vI a :: st) E u = if a = 0 then Rn m_A_areTwoPins 31 [l0, l1, l2] st E u else Rn m_A_areTwoPins 22 [l0, l1, l2] st E u) ∧
  (∀ (l0 l2 : am_V) (a : Int) (st : List am_V) (E : am_E) (u : am_M), Rn m_A_areTwoPins 22 [l0, vI a, l2] st E u = Rn m_A_areTwoPins 23 [l0, vI a, l2] (vI a :: st) E u) ∧
  (∀ (l0 l1 : am_V) (a : Int) (st : List am_V) (E : am_E) (u : am_M), Rn m_A_areTwoPins 23 [l0, l1, vI a] st E u = Rn m_A_areTwoPins 24 [l0, l1, vI a] (vI a :: st) E u) ∧
  (∀ (l0 l1 l2 : am_V) (a b : Int) (st : List am_V) (E : am_E) (u : am_M), Rn m_A_areTwoPins 24 [l0, l1, l2] (vI b :: vI a :: st) E u = if a = b then Rn m_A_areTwoPins 31 [l0, l1, l2] st E u else Rn m_A_areTwoPins 27 [l0, l1, l2] st E u) ∧
  (∀ (l0 l1 l2 : am_V) (st : List am_V) (E : am_E) (u : am_M), Rn m_A_areTwoPins 27 [l0, l1, l2] st E u = Rn m_A_areTwoPins 28 [l0, l1, l2] (vI 1 :: st) E u) ∧
  (∀ (l0 l1 l2 : am_V) (st : List am_V) (E : am_E) (u : am_M), Rn m_A_areTwoPins 28 [l0, l1, l2] st E u = Rn m_A_areTwoPins 32 [l0, l1, l2] st E u) ∧
  (∀ (l0 l1 l2 : am_V) (st : List am_V) (E : am_E) (u : am_M), Rn m_A_areTwoPins 31 [l0, l1, l2] st E u = Rn m_A_areTwoPins 32 [l0, l1, l2] (vI 0 :: st) E u) ∧
  (∀ (l0 l1 l2 : am_V) (b : Bool) (E : am_E) (u : am_M), Rn m_A_areTwoPins 32 [l0, l1, l2] [vI (bI b)] E u = some (some (vI (bI b)), E, u)) ∧
  (∀ (l0 l1 l2 : am_V) (E : am_E) (u : am_M), Rn m_A_areTwoPins 32 [l0, l1, l2] [vI 1] E u = some (some (vI 1), E, u)) ∧
  (∀ (l0 l1 l2 : am_V) (E : am_E) (u : am_M), Rn m_A_areTwoPins 32 [l0, l1, l2] [vI 0] E u = some (some (vI 0), E, u)) :=
  ⟨fun l1 l2 a st E u => q_go (by decide +kernel : am_Pg 30 0 = some (.aload_n 0, 1, [], 0)) rfl,
  fun l0 l1 l2 st E u hE => q_gfR (by decide +kernel : am_Pg 30 1 = some (.getfield 12, 3, [4, 8, 0, 0], 0)) (SE_k4 hE) rfl (SE_r4_0 hE),
  fun l0 l2 a st E u => q_go (by decide +kernel : am_Pg 30 4 = some (.iload_n 1, 1, [], 0)) rfl,
  fun l0 l1 l2 a0  E u hE => q_cI (by decide +kernel : am_Pg 30 5 = some (.invokevirtual 87, 3, [3, 29, 2, 0, 14, 1], 0)) (am_call_V (a := [vI a0]) (st' := []) (Nat.le_of_ble_eq_true rfl) rfl (SE_k0 hE cuB_1)) (by decide +kernel : am_Lm m_C_isPin = 2) (Nat.le_of_ble_eq_true rfl) rfl (by decide +kernel),
  fun l0 l1 l2 a0  E u hE => q_cI (by decide +kernel : am_Pg 30 5 = some (.invokevirtual 87, 3, [3, 29, 2, 0, 14, 1], 0)) (am_call_V (a := [vI a0]) (st' := []) (Nat.le_of_ble_eq_true rfl) rfl (SE_k0 hE cuB_8)) (by decide +kernel : am_Lm m_C_isPin = 2) (Nat.le_of_ble_eq_true rfl) rfl (by decide +kernel),
  fun l0 l1 l2 a0  E u hE => q_cI (by decide +kernel : am_Pg 30 5 = some (.invokevirtual 87, 3, [3, 29, 2, 0, 14, 1], 0)) (am_call_V (a := [vI a0]) (st' := []) (Nat.le_of_ble_eq_true rfl) rfl (SE_k0 hE cuB_73)) (by decide +kernel : am_Lm m_C_isPin = 2) (Nat.le_of_ble_eq_true rfl) rfl (by decide +kernel),
  fun l0 l1 l2 a st E u => q_if_eq (tgt := 31) (by decide +kernel : am_Pg 30 8 = some (.ifCond .eq 23, 3, [], 0)) (by decide),
  fun l1 l2 a st E u => q_go (by decide +kernel : am_Pg 30 11 = some (.aload_n 0, 1, [], 0)) rfl,
  fun l0 l1 l2 st E u hE => q_gfR (by decide +kernel : am_Pg 30 12 = some (.getfield 12, 3, [4, 8, 0, 0], 0)) (SE_k4 hE) rfl (SE_r4_0 hE),
  fun l0 l1 a st E u => q_go (by decide +kernel : am_Pg 30 15 = some (.iload_n 2, 1, [], 0)) rfl,
  fun l0 l1 l2 a0  E u hE => q_cI (by decide +kernel : am_Pg 30 16 = some (.invokevirtual 87, 3, [3, 29, 2, 0, 14, 1], 0)) (am_call_V (a := [vI a0]) (st' := []) (Nat.le_of_ble_eq_true rfl) rfl (SE_k0 hE cuB_1)) (by decide +kernel : am_Lm m_C_isPin = 2) (Nat.le_of_ble_eq_true rfl) rfl (by decide +kernel),
  fun l0 l1 l2 a0  E u hE => q_cI (by decide +kernel : am_Pg 30 16 = some (.invokevirtual 87, 3, [3, 29, 2, 0, 14, 1], 0)) (am_call_V (a := [vI a0]) (st' := []) (Nat.le_of_ble_eq_true rfl) rfl (SE_k0 hE cuB_8)) (by decide +kernel : am_Lm m_C_isPin = 2) (Nat.le_of_ble_eq_true rfl) rfl (by decide +kernel),
  fun l0 l1 l2 a0  E u hE => q_cI (by decide +kernel : am_Pg 30 16 = some (.invokevirtual 87, 3, [3, 29, 2, 0, 14, 1], 0)) (am_call_V (a := [vI a0]) (st' := []) (Nat.le_of_ble_eq_true rfl) rfl (SE_k0 hE cuB_73)) (by decide +kernel : am_Lm m_C_isPin = 2) (Nat.le_of_ble_eq_true rfl) rfl (by decide +kernel),
  fun l0 l1 l2 a st E u => q_if_eq (tgt := 31) (by decide +kernel : am_Pg 30 19 = some (.ifCond .eq 12, 3, [], 0)) (by decide),
  fun l0 l2 a st E u => q_go (by decide +kernel : am_Pg 30 22 = some (.iload_n 1, 1, [], 0)) rfl,
  fun l0 l1 a st E u => q_go (by decide +kernel : am_Pg 30 23 = some (.iload_n 2, 1, [], 0)) rfl,
  fun l0 l1 l2 a b st E u => q_icmp_eq (tgt := 31) (by decide +kernel : am_Pg 30 24 = some (.if_icmp .eq 7, 3, [], 0)) (by decide),
  fun l0 l1 l2 st E u => q_go (by decide +kernel : am_Pg 30 27 = some (.iconst 1, 1, [], 0)) rfl,
  fun l0 l1 l2 st E u => q_go (by decide +kernel : am_Pg 30 28 = some (.goto 4, 3, [], 0)) rfl,
  fun l0 l1 l2 st E u => q_go (by decide +kernel : am_Pg 30 31 = some (.iconst 0, 1, [], 0)) rfl,
  fun l0 l1 l2 b E u => by cases b <;> exact q_ret (by decide +kernel : am_Pg 30 32 = some (.ireturn, 1, [1], 0)) rfl,
  fun l0 l1 l2 E u => q_ret (by decide +kernel : am_Pg 30 32 = some (.ireturn, 1, [1], 0)) rfl,
  fun l0 l1 l2 E u => q_ret (by decide +kernel : am_Pg 30 32 = some (.ireturn, 1, [1], 0)) rfl⟩
theorem x_A_thread :
  (∀ (l1 l2 l3 : am_V) (a : Option Nat) (st : List am_V) (E : am_E) (u : am_M), Rn m_A_thread 0 [vR a, l1, l2, l3] st E u = Rn m_A_thread 1 [vR a, l1, l2, l3] (vR a :: st) E u) ∧
  (∀ (l0 l2 l3 : am_V) (a : Int) (st : List am_V) (E : am_E) (u : am_M), Rn m_A_thread 1 [l0, vI a, l2, l3] st E u = Rn m_A_thread 2 [l0, vI a, l2, l3] (vI a :: st) E u) ∧
  (∀ (l0 l1 l3 : am_V) (a : Int) (st : List am_V) (E : am_E) (u : am_M), Rn m_A_thread 2 [l0, l1, vI a, l3] st E u = Rn m_A_thread 3 [l0, l1, vI a, l3] (vI a :: st) E u) ∧
  (∀ (l0 l1 l2 l3 : am_V) (a0 : Int) (a1 : Int) (E : am_E) (u : am_M) (hE : SE E), Rn m_A_thread 3 [l0, l1, l2, l3] [vI a1, vI a0, vR (some 0)] E u = bdI (Rn m_A_areTwoPins 0 [vR (some 0), vI a0, vI a1] [] E u) (KI m_A_thread 6 [l0, l1, l2, l3] [])) ∧
  (∀ (l0 l1 l2 l3 : am_V) (a : Int) (st : List am_V) (E : am_E) (u : am_M), Rn m_A_thread 6 [l0, l1, l2, l3] (vI a :: st) E u = if a = 0 then Rn m_A_thread 19 [l0, l1, l2, l3] st E u else Rn m_A_thread 9 [l0, l1, l2, l3] st E u) ∧
  (∀ (l0 l1 l2 : am_V) (a : Int) (st : List am_V) (E : am_E) (u : am_M), Rn m_A_thread 9 [l0, l1, l2, vI a] st E u = Rn m_A_thread 10 [l0, l1, l2, vI a] (vI a :: st) E u) ∧
  (∀ (l0 l1 l2 l3 : am_V) (st : List am_V) (E : am_E) (u : am_M), Rn m_A_thread 10 [l0, l1, l2, l3] st E u = Rn m_A_thread 11 [l0, l1, l2, l3] (vI 1 :: st) E u) ∧
  (∀ (l0 l1 l2 l3 : am_V) (st : List am_V) (E : am_E) (u : am_M), Rn m_A_thread 11 [l0, l1, l2, l3] st E u = Rn m_A_thread 13 [l0, l1, l2, l3] (vI 12 :: st) E u) ∧
  (∀ (l0 l1 l2 l3 : am_V) (a0 : Int) (a1 : Int) (a2 : Int) (E : am_E) (u : am_M), Rn m_A_thread 13 [l0, l1, l2, l3] [vI a2, vI a1, vI a0] E u = bdI (Rn m_A_isIn 0 [vI a0, vI a1, vI a2] [] E u) (KI m_A_thread 16 [l0, l1, l2, l3] [])) ∧
  (∀ (l0 l1 l2 l3 : am_V) (a : Int) (st : List am_V) (E : am_E) (u : am_M), Rn m_A_thread 16 [l0, l1, l2, l3] (vI a :: st) E u = if a = 0 then Rn m_A_thread 19 [l0, l1, l2, l3] st E u else Rn m_A_thread 21 [l0, l1, l2, l3] st E u) ∧
  (∀ (l0 l1 l2 l3 : am_V) (st : List am_V) (E : am_E) (u : am_M), Rn m_A_thread 19 [l0, l1, l2, l3] st E u = Rn m_A_thread 20 [l0, l1, l2, l3] (vI (-1) :: st) E u) ∧
  (∀ (l0 l1 l2 l3 : am_V) (a : Int) (E : am_E) (u : am_M), Rn m_A_thread 20 [l0, l1, l2, l3] [vI a] E u = some (some (vI a), E, u)) ∧
  (∀ (l1 l2 l3 : am_V) (a : Option Nat) (st : List am_V) (E : am_E) (u : am_M), Rn m_A_thread 21 [vR a, l1, l2, l3] st E u = Rn m_A_thread 22 [vR a, l1, l2, l3] (vR a :: st) E u) ∧
  (∀ (l0 l1 l2 l3 : am_V) (st : List am_V) (E : am_E) (u : am_M) (hE : SE E), Rn m_A_thread 22 [l0, l1, l2, l3] (vR (some 0) :: st) E u = Rn m_A_thread 25 [l0, l1, l2, l3] (vR (some 1) :: st) E u) ∧
  (∀ (l0 l1 l2 l3 : am_V) (st : List am_V) (E : am_E) (u : am_M) (hE : SE E), Rn m_A_thread 25 [l0, l1, l2, l3] (vR (some 1) :: st) E u = Rn m_A_thread 28 [l0, l1, l2, l3] (vI (u 1 3) :: st) E u) ∧
  (∀ (l0 l1 l2 l3 : am_V) (st : List am_V) (E : am_E) (u : am_M) (hE : SE E), Rn m_A_thread 25 [l0, l1, l2, l3] (vR (some 8) :: st) E u = Rn m_A_thread 28 [l0, l1, l2, l3] (vI (u 8 3) :: st) E u) ∧
  (∀ (l0 l1 l2 l3 : am_V) (st : List am_V) (E : am_E) (u : am_M) (hE : SE E), Rn m_A_thread 25 [l0, l1, l2, l3] (vR (some 73) :: st) E u = Rn m_A_thread 28 [l0, l1, l2, l3] (vI (u 73 3) :: st) E u) ∧
  (∀ (l0 l1 l2 l3 : am_V) (st : List am_V) (E : am_E) (u : am_M), Rn m_A_thread 28 [l0, l1, l2, l3] st E u = Rn m_A_thread 30 [l0, l1, l2, l3] (vI 6 :: st) E u) ∧
  (∀ (l0 l1 l2 l3 : am_V) (a b : Int) (st : List am_V) (E : am_E) (u : am_M), Rn m_A_thread 30 [l0, l1, l2, l3] (vI b :: vI a :: st) E u = if a < b then Rn m_A_thread 36 [l0, l1, l2, l3] st E u else Rn m_A_thread 33 [l0, l1, l2, l3] st E u) ∧
  (∀ (l0 l1 l2 l3 : am_V) (st : List am_V) (E : am_E) (u : am_M), Rn m_A_thread 33 [l0, l1, l2, l3] st E u = Rn m_A_thread 35 [l0, l1, l2, l3] (vI (-3) :: st) E u) ∧
  (∀ (l0 l1 l2 l3 : am_V) (a : Int) (E : am_E) (u : am_M), Rn m_A_thread 35 [l0, l1, l2, l3] [vI a] E u = some (some (vI a), E, u)) ∧
  (∀ (l1 l2 l3 : am_V) (a : Option Nat) (st : List am_V) (E : am_E) (u : am_M), Rn m_A_thread 36 [vR a, l1, l2, l3] st E u = Rn m_A_thread 37 [vR a, l1, l2, l3] (vR a :: st) E u) ∧
  (∀ (l0 l1 l2 l3 : am_V) (st : List am_V) (E : am_E) (u : am_M) (hE : SE E), Rn m_A_thread 37 [l0, l1, l2, l3] (vR (some 0) :: st) E u = Rn m_A_thread 40 [l0, l1, l2, l3] (vR (some 15) :: st) E u) ∧
  (∀ (l0 l1 l2 l3 : am_V) (E : am_E) (u : am_M) (hE : SE E), Rn m_A_thread 40 [l0, l1, l2, l3] [vR (some 15)] E u = bdV (Rn m_P_forgets 0 [vR (some 15)] [] E u) (KV m_A_thread 43 [l0, l1, l2, l3] [])) ∧
  (∀ (l0 l1 l2 l3 : am_V) (E : am_E) (u : am_M) (hE : SE E), Rn m_A_thread 40 [l0, l1, l2, l3] [vR (some 80)] E u = bdV (Rn m_P_forgets 0 [vR (some 80)] [] E u) (KV m_A_thread 43 [l0, l1, l2, l3] [])) ∧
  (∀ (l1 l2 l3 : am_V) (a : Option Nat) (st : List am_V) (E : am_E) (u : am_M), Rn m_A_thread 43 [vR a, l1, l2, l3] st E u = Rn m_A_thread 44 [vR a, l1, l2, l3] (vR a :: st) E u) ∧
  (∀ (l0 l1 l2 l3 : am_V) (st : List am_V) (E : am_E) (u : am_M) (hE : SE E), Rn m_A_thread 44 [l0, l1, l2, l3] (vR (some 0) :: st) E u = Rn m_A_thread 47 [l0, l1, l2, l3] (vR (some 1) :: st) E u) ∧
  (∀ (l0 l2 l3 : am_V) (a : Int) (st : List am_V) (E : am_E) (u : am_M), Rn m_A_thread 47 [l0, vI a, l2, l3] st E u = Rn m_A_thread 48 [l0, vI a, l2, l3] (vI a :: st) E u) ∧
  (∀ (l0 l1 l3 : am_V) (a : Int) (st : List am_V) (E : am_E) (u : am_M), Rn m_A_thread 48 [l0, l1, vI a, l3] st E u = Rn m_A_thread 49 [l0, l1, vI a, l3] (vI a :: st) E u) ∧
  (∀ (l0 l1 l2 : am_V) (a : Int) (st : List am_V) (E : am_E) (u : am_M), Rn m_A_thread 49 [l0, l1, l2, vI a] st E u = Rn m_A_thread 50 [l0, l1, l2, vI a] (vI a :: st) E u) ∧
  (∀ (l0 l1 l2 l3 : am_V) (a0 : Int) (a1 : Int) (a2 : Int) (E : am_E) (u : am_M) (hE : SE E), Rn m_A_thread 50 [l0, l1, l2, l3] [vI a2, vI a1, vI a0, vR (some 1)] E u = bdI (Rn m_C_addThread 0 [vR (some 1), vI a0, vI a1, vI a2, vB false] [] E u) (KI m_A_thread 53 [l0, l1, l2, l3] [])) ∧
  (∀ (l0 l1 l2 l3 : am_V) (a0 : Int) (a1 : Int) (a2 : Int) (E : am_E) (u : am_M) (hE : SE E), Rn m_A_thread 50 [l0, l1, l2, l3] [vI a2, vI a1, vI a0, vR (some 8)] E u = bdI (Rn m_C_addThread 0 [vR (some 8), vI a0, vI a1, vI a2, vB false] [] E u) (KI m_A_thread 53 [l0, l1, l2, l3] [])) ∧
  (∀ (l0 l1 l2 l3 : am_V) (a0 : Int) (a1 : Int) (a2 : Int) (E : am_E) (u : am_M) (hE : SE E), Rn m_A_thread 50 [l0, l1, l2, l3] [vI a2, vI a1, vI a0, vR (some 73)] E u = bdI (Rn m_C_addThread 0 [vR (some 73), vI a0, vI a1, vI a2, vB false] [] E u) (KI m_A_thread 53 [l0, l1, l2, l3] [])) ∧
  (∀ (l0 l1 l2 l3 : am_V) (a : Int) (E : am_E) (u : am_M), Rn m_A_thread 53 [l0, l1, l2, l3] [vI a] E u = some (some (vI a), E, u)) :=
  ⟨fun l1 l2 l3 a st E u => q_go (by decide +kernel : am_Pg 32 0 = some (.aload_n 0, 1, [], 0)) rfl,
  fun l0 l2 l3 a st E u => q_go (by decide +kernel : am_Pg 32 1 = some (.iload_n 1, 1, [], 0)) rfl,
  fun l0 l1 l3 a st E u => q_go (by decide +kernel : am_Pg 32 2 = some (.iload_n 2, 1, [], 0)) rfl,
  fun l0 l1 l2 l3 a0 a1  E u hE => q_cI (by decide +kernel : am_Pg 32 3 = some (.invokevirtual 77, 3, [3, 30, 3, 4, 8, 0], 0)) (am_call_V (a := [vI a0, vI a1]) (st' := []) (Nat.le_of_ble_eq_true rfl) rfl (SE_k4 hE)) (by decide +kernel : am_Lm m_A_areTwoPins = 3) (Nat.le_of_ble_eq_true rfl) rfl (by decide +kernel),
  fun l0 l1 l2 l3 a st E u => q_if_eq (tgt := 19) (by decide +kernel : am_Pg 32 6 = some (.ifCond .eq 13, 3, [], 0)) (by decide),
  fun l0 l1 l2 a st E u => q_go (by decide +kernel : am_Pg 32 9 = some (.iload_n 3, 1, [], 0)) rfl,
  fun l0 l1 l2 l3 st E u => q_go (by decide +kernel : am_Pg 32 10 = some (.iconst 1, 1, [], 0)) rfl,
  fun l0 l1 l2 l3 st E u => q_go (by decide +kernel : am_Pg 32 11 = some (.bipush 12, 2, [], 0)) rfl,
  fun l0 l1 l2 l3 a0 a1 a2  E u => q_cI (by decide +kernel : am_Pg 32 13 = some (.invokestatic 46, 3, [2, 8, 3, 0], 0)) (am_call_S (f := fun _ _ => true) (a := [vI a0, vI a1, vI a2]) (st' := []) (Nat.le_of_ble_eq_true rfl) rfl rfl) (by decide +kernel : am_Lm m_A_isIn = 3) (Nat.le_of_ble_eq_true rfl) rfl (by decide +kernel),
  fun l0 l1 l2 l3 a st E u => q_if_ne (tgt := 21) (by decide +kernel : am_Pg 32 16 = some (.ifCond .ne 5, 3, [], 0)) (by decide),
  fun l0 l1 l2 l3 st E u => q_go (by decide +kernel : am_Pg 32 19 = some (.iconst (-1), 1, [], 0)) rfl,
  fun l0 l1 l2 l3 a E u => q_ret (by decide +kernel : am_Pg 32 20 = some (.ireturn, 1, [], 0)) rfl,
  fun l1 l2 l3 a st E u => q_go (by decide +kernel : am_Pg 32 21 = some (.aload_n 0, 1, [], 0)) rfl,
  fun l0 l1 l2 l3 st E u hE => q_gfR (by decide +kernel : am_Pg 32 22 = some (.getfield 12, 3, [4, 8, 0, 0], 0)) (SE_k4 hE) rfl (SE_r4_0 hE),
  fun l0 l1 l2 l3 st E u hE => q_gfI (by decide +kernel : am_Pg 32 25 = some (.getfield 81, 3, [0, 14, 3, 1], 0)) (SE_k0 hE cuB_1) (by decide),
  fun l0 l1 l2 l3 st E u hE => q_gfI (by decide +kernel : am_Pg 32 25 = some (.getfield 81, 3, [0, 14, 3, 1], 0)) (SE_k0 hE cuB_8) (by decide),
  fun l0 l1 l2 l3 st E u hE => q_gfI (by decide +kernel : am_Pg 32 25 = some (.getfield 81, 3, [0, 14, 3, 1], 0)) (SE_k0 hE cuB_73) (by decide),
  fun l0 l1 l2 l3 st E u => q_go (by decide +kernel : am_Pg 32 28 = some (.bipush 6, 2, [], 0)) rfl,
  fun l0 l1 l2 l3 a b st E u => q_icmp_lt (tgt := 36) (by decide +kernel : am_Pg 32 30 = some (.if_icmp .lt 6, 3, [], 0)) (by decide),
  fun l0 l1 l2 l3 st E u => q_go (by decide +kernel : am_Pg 32 33 = some (.bipush (-3), 2, [], 0)) rfl,
  fun l0 l1 l2 l3 a E u => q_ret (by decide +kernel : am_Pg 32 35 = some (.ireturn, 1, [], 0)) rfl,
  fun l1 l2 l3 a st E u => q_go (by decide +kernel : am_Pg 32 36 = some (.aload_n 0, 1, [], 0)) rfl,
  fun l0 l1 l2 l3 st E u hE => q_gfR (by decide +kernel : am_Pg 32 37 = some (.getfield 22, 3, [4, 8, 2, 0], 0)) (SE_k4 hE) rfl (SE_r4_2 hE),
  fun l0 l1 l2 l3   E u hE => q_cV (by decide +kernel : am_Pg 32 40 = some (.invokevirtual 54, 3, [3, 10, 1, 1, 3, 1], 0)) (am_call_V (a := []) (st' := []) (Nat.le_of_ble_eq_true rfl) rfl (SE_k1 hE paB_15)) (by decide +kernel : am_Lm m_P_forgets = 1) (Nat.le_of_ble_eq_true rfl) rfl (by decide +kernel),
  fun l0 l1 l2 l3   E u hE => q_cV (by decide +kernel : am_Pg 32 40 = some (.invokevirtual 54, 3, [3, 10, 1, 1, 3, 1], 0)) (am_call_V (a := []) (st' := []) (Nat.le_of_ble_eq_true rfl) rfl (SE_k1 hE paB_80)) (by decide +kernel : am_Lm m_P_forgets = 1) (Nat.le_of_ble_eq_true rfl) rfl (by decide +kernel),
  fun l1 l2 l3 a st E u => q_go (by decide +kernel : am_Pg 32 43 = some (.aload_n 0, 1, [], 0)) rfl,
  fun l0 l1 l2 l3 st E u hE => q_gfR (by decide +kernel : am_Pg 32 44 = some (.getfield 12, 3, [4, 8, 0, 0], 0)) (SE_k4 hE) rfl (SE_r4_0 hE),
  fun l0 l2 l3 a st E u => q_go (by decide +kernel : am_Pg 32 47 = some (.iload_n 1, 1, [], 0)) rfl,
  fun l0 l1 l3 a st E u => q_go (by decide +kernel : am_Pg 32 48 = some (.iload_n 2, 1, [], 0)) rfl,
  fun l0 l1 l2 a st E u => q_go (by decide +kernel : am_Pg 32 49 = some (.iload_n 3, 1, [], 0)) rfl,
  fun l0 l1 l2 l3 a0 a1 a2  E u hE => q_cI (by decide +kernel : am_Pg 32 50 = some (.invokevirtual 84, 3, [3, 31, 4, 0, 14, 1], 0)) (am_call_V (a := [vI a0, vI a1, vI a2]) (st' := []) (Nat.le_of_ble_eq_true rfl) rfl (SE_k0 hE cuB_1)) (by decide +kernel : am_Lm m_C_addThread = 5) (Nat.le_of_ble_eq_true rfl) rfl (by decide +kernel),
  fun l0 l1 l2 l3 a0 a1 a2  E u hE => q_cI (by decide +kernel : am_Pg 32 50 = some (.invokevirtual 84, 3, [3, 31, 4, 0, 14, 1], 0)) (am_call_V (a := [vI a0, vI a1, vI a2]) (st' := []) (Nat.le_of_ble_eq_true rfl) rfl (SE_k0 hE cuB_8)) (by decide +kernel : am_Lm m_C_addThread = 5) (Nat.le_of_ble_eq_true rfl) rfl (by decide +kernel),
  fun l0 l1 l2 l3 a0 a1 a2  E u hE => q_cI (by decide +kernel : am_Pg 32 50 = some (.invokevirtual 84, 3, [3, 31, 4, 0, 14, 1], 0)) (am_call_V (a := [vI a0, vI a1, vI a2]) (st' := []) (Nat.le_of_ble_eq_true rfl) rfl (SE_k0 hE cuB_73)) (by decide +kernel : am_Lm m_C_addThread = 5) (Nat.le_of_ble_eq_true rfl) rfl (by decide +kernel),
  fun l0 l1 l2 l3 a E u => q_ret (by decide +kernel : am_Pg 32 53 = some (.ireturn, 1, [], 0)) rfl⟩
theorem x_A_look :
  (∀ (l1 : am_V) (a : Option Nat) (st : List am_V) (E : am_E) (u : am_M), Rn m_A_look 0 [vR a, l1] st E u = Rn m_A_look 1 [vR a, l1] (vR a :: st) E u) ∧
  (∀ (l0 l1 : am_V) (st : List am_V) (E : am_E) (u : am_M), Rn m_A_look 1 [l0, l1] (vR none :: st) E u = Rn m_A_look 20 [l0, l1] st E u) ∧
  (∀ (l0 l1 : am_V) (a : Nat) (st : List am_V) (E : am_E) (u : am_M), Rn m_A_look 1 [l0, l1] (vR (some a) :: st) E u = Rn m_A_look 4 [l0, l1] st E u) ∧
  (∀ (l0 : am_V) (a : Int) (st : List am_V) (E : am_E) (u : am_M), Rn m_A_look 4 [l0, vI a] st E u = Rn m_A_look 5 [l0, vI a] (vI a :: st) E u) ∧
  (∀ (l0 l1 : am_V) (a : Int) (st : List am_V) (E : am_E) (u : am_M), Rn m_A_look 5 [l0, l1] (vI a :: st) E u = if a < 0 then Rn m_A_look 20 [l0, l1] st E u else Rn m_A_look 8 [l0, l1] st E u) ∧
  (∀ (l0 : am_V) (a : Int) (st : List am_V) (E : am_E) (u : am_M), Rn m_A_look 8 [l0, vI a] st E u = Rn m_A_look 9 [l0, vI a] (vI a :: st) E u) ∧
  (∀ (l1 : am_V) (a : Option Nat) (st : List am_V) (E : am_E) (u : am_M), Rn m_A_look 9 [vR a, l1] st E u = Rn m_A_look 10 [vR a, l1] (vR a :: st) E u) ∧
  (∀ (l0 l1 : am_V) (k : Nat) (st : List am_V) (E : am_E) (u : am_M) (hk : am_kn E k = 10), Rn m_A_look 10 [l0, l1] (vR (some k) :: st) E u = Rn m_A_look 11 [l0, l1] (vI (am_len 10 E k) :: st) E u) ∧
  (∀ (l0 l1 : am_V) (a b : Int) (st : List am_V) (E : am_E) (u : am_M), Rn m_A_look 11 [l0, l1] (vI b :: vI a :: st) E u = if a < b then Rn m_A_look 14 [l0, l1] st E u else Rn m_A_look 20 [l0, l1] st E u) ∧
  (∀ (l1 : am_V) (a : Option Nat) (st : List am_V) (E : am_E) (u : am_M), Rn m_A_look 14 [vR a, l1] st E u = Rn m_A_look 15 [vR a, l1] (vR a :: st) E u) ∧
  (∀ (l0 : am_V) (a : Int) (st : List am_V) (E : am_E) (u : am_M), Rn m_A_look 15 [l0, vI a] st E u = Rn m_A_look 16 [l0, vI a] (vI a :: st) E u) ∧
  (∀ (l0 l1 : am_V) (k : Nat) (i : Int) (st : List am_V) (E : am_E) (u : am_M) (h0 : 0 ≤ i) (h1 : i < am_len 10 E k), Rn m_A_look 16 [l0, l1] (vI i :: vR (some k) :: st) E u = Rn m_A_look 17 [l0, l1] (vI (u k i.toNat) :: st) E u) ∧
  (∀ (l0 l1 : am_V) (st : List am_V) (E : am_E) (u : am_M), Rn m_A_look 17 [l0, l1] st E u = Rn m_A_look 21 [l0, l1] st E u) ∧
  (∀ (l0 l1 : am_V) (st : List am_V) (E : am_E) (u : am_M), Rn m_A_look 20 [l0, l1] st E u = Rn m_A_look 21 [l0, l1] (vI 0 :: st) E u) ∧
  (∀ (l0 l1 : am_V) (a : Int) (E : am_E) (u : am_M), Rn m_A_look 21 [l0, l1] [vI a] E u = some (some (vI a), E, u)) :=
  ⟨fun l1 a st E u => q_go (by decide +kernel : am_Pg 36 0 = some (.aload_n 0, 1, [], 0)) rfl,
  fun l0 l1 st E u => q_go (by decide +kernel : am_Pg 36 1 = some (.ifnull 19, 3, [], 0)) rfl,
  fun l0 l1 a st E u => q_go (by decide +kernel : am_Pg 36 1 = some (.ifnull 19, 3, [], 0)) rfl,
  fun l0 a st E u => q_go (by decide +kernel : am_Pg 36 4 = some (.iload_n 1, 1, [], 0)) rfl,
  fun l0 l1 a st E u => q_if_lt (tgt := 20) (by decide +kernel : am_Pg 36 5 = some (.ifCond .lt 15, 3, [], 0)) (by decide),
  fun l0 a st E u => q_go (by decide +kernel : am_Pg 36 8 = some (.iload_n 1, 1, [], 0)) rfl,
  fun l1 a st E u => q_go (by decide +kernel : am_Pg 36 9 = some (.aload_n 0, 1, [], 0)) rfl,
  fun l0 l1 k st E u hk => q_alI (by decide +kernel : am_Pg 36 10 = some (.arraylength, 1, [], 0)) hk (by decide) (by decide),
  fun l0 l1 a b st E u => q_icmp_ge (tgt := 20) (by decide +kernel : am_Pg 36 11 = some (.if_icmp .ge 9, 3, [], 0)) (by decide),
  fun l1 a st E u => q_go (by decide +kernel : am_Pg 36 14 = some (.aload_n 0, 1, [], 0)) rfl,
  fun l0 a st E u => q_go (by decide +kernel : am_Pg 36 15 = some (.iload_n 1, 1, [], 0)) rfl,
  fun l0 l1 k i st E u h0 h1 => q_iald (by decide +kernel : am_Pg 36 16 = some (.iaload, 1, [], 0)) h0 h1,
  fun l0 l1 st E u => q_go (by decide +kernel : am_Pg 36 17 = some (.goto 4, 3, [], 0)) rfl,
  fun l0 l1 st E u => q_go (by decide +kernel : am_Pg 36 20 = some (.iconst 0, 1, [], 0)) rfl,
  fun l0 l1 a E u => q_ret (by decide +kernel : am_Pg 36 21 = some (.ireturn, 1, [], 0)) rfl⟩
theorem x_A_of :
  (∀ (l1 l2 : am_V) (a : Option Nat) (st : List am_V) (E : am_E) (u : am_M), Rn m_A_of 0 [vR a, l1, l2] st E u = Rn m_A_of 1 [vR a, l1, l2] (vR a :: st) E u) ∧
  (∀ (l0 l1 l2 : am_V) (st : List am_V) (E : am_E) (u : am_M) (hE : SE E), Rn m_A_of 1 [l0, l1, l2] (vR (some 0) :: st) E u = Rn m_A_of 4 [l0, l1, l2] (vR (some 1) :: st) E u) ∧
  (∀ (l0 l2 : am_V) (a : Int) (st : List am_V) (E : am_E) (u : am_M), Rn m_A_of 4 [l0, vI a, l2] st E u = Rn m_A_of 5 [l0, vI a, l2] (vI a :: st) E u) ∧
  (∀ (l0 l1 l2 : am_V) (a0 : Int) (E : am_E) (u : am_M) (hE : SE E), Rn m_A_of 5 [l0, l1, l2] [vI a0, vR (some 1)] E u = bdI (Rn m_C_isPin 0 [vR (some 1), vI a0] [] E u) (KI m_A_of 8 [l0, l1, l2] [])) ∧
  (∀ (l0 l1 l2 : am_V) (a0 : Int) (E : am_E) (u : am_M) (hE : SE E), Rn m_A_of 5 [l0, l1, l2] [vI a0, vR (some 8)] E u = bdI (Rn m_C_isPin 0 [vR (some 8), vI a0] [] E u) (KI m_A_of 8 [l0, l1, l2] [])) ∧
  (∀ (l0 l1 l2 : am_V) (a0 : Int) (E : am_E) (u : am_M) (hE : SE E), Rn m_A_of 5 [l0, l1, l2] [vI a0, vR (some 73)] E u = bdI (Rn m_C_isPin 0 [vR (some 73), vI a0] [] E u) (KI m_A_of 8 [l0, l1, l2] [])) ∧
  (∀ (l0 l1 l2 : am_V) (a : Int) (st : List am_V) (E : am_E) (u : am_M), Rn m_A_of 8 [l0, l1, l2] (vI a :: st) E u = if a = 0 then Rn m_A_of 11 [l0, l1, l2] st E u else Rn m_A_of 13 [l0, l1, l2] st E u) ∧
  (∀ (l0 l1 l2 : am_V) (st : List am_V) (E : am_E) (u : am_M), Rn m_A_of 11 [l0, l1, l2] st E u = Rn m_A_of 12 [l0, l1, l2] (vI (-1) :: st) E u) ∧
  (∀ (l0 l1 l2 : am_V) (a : Int) (E : am_E) (u : am_M), Rn m_A_of 12 [l0, l1, l2] [vI a] E u = some (some (vI a), E, u)) ∧
  (∀ (l0 l1 : am_V) (a : Int) (st : List am_V) (E : am_E) (u : am_M), Rn m_A_of 13 [l0, l1, vI a] st E u = Rn m_A_of 14 [l0, l1, vI a] (vI a :: st) E u) ∧
  (∀ (l0 l1 l2 : am_V) (a : Int) (st : List am_V) (E : am_E) (u : am_M), Rn m_A_of 14 [l0, l1, l2] (vI a :: st) E u = if a = 0 then Rn m_A_of 44 [l0, l1, l2] st E u else if a = 1 then Rn m_A_of 56 [l0, l1, l2] st E u else if a = 2 then Rn m_A_of 68 [l0, l1, l2] st E u else if a = 3 then Rn m_A_of 80 [l0, l1, l2] st E u else Rn m_A_of 89 [l0, l1, l2] st E u) ∧
  (∀ (l1 l2 : am_V) (a : Option Nat) (st : List am_V) (E : am_E) (u : am_M), Rn m_A_of 44 [vR a, l1, l2] st E u = Rn m_A_of 45 [vR a, l1, l2] (vR a :: st) E u) ∧
  (∀ (l0 l1 l2 : am_V) (st : List am_V) (E : am_E) (u : am_M) (hE : SE E), Rn m_A_of 45 [l0, l1, l2] (vR (some 0) :: st) E u = Rn m_A_of 48 [l0, l1, l2] (vR (some 1) :: st) E u) ∧
  (∀ (l0 l1 l2 : am_V) (st : List am_V) (E : am_E) (u : am_M) (hE : SE E), Rn m_A_of 48 [l0, l1, l2] (vR (some 1) :: st) E u = Rn m_A_of 51 [l0, l1, l2] (vR (some 2) :: st) E u) ∧
  (∀ (l0 l1 l2 : am_V) (st : List am_V) (E : am_E) (u : am_M) (hE : SE E), Rn m_A_of 48 [l0, l1, l2] (vR (some 8) :: st) E u = Rn m_A_of 51 [l0, l1, l2] (vR (some 9) :: st) E u) ∧
  (∀ (l0 l1 l2 : am_V) (st : List am_V) (E : am_E) (u : am_M) (hE : SE E), Rn m_A_of 48 [l0, l1, l2] (vR (some 73) :: st) E u = Rn m_A_of 51 [l0, l1, l2] (vR (some 74) :: st) E u) ∧
  (∀ (l0 l2 : am_V) (a : Int) (st : List am_V) (E : am_E) (u : am_M), Rn m_A_of 51 [l0, vI a, l2] st E u = Rn m_A_of 52 [l0, vI a, l2] (vI a :: st) E u) ∧
  (∀ (l0 l1 l2 : am_V) (a0 : Option Nat) (a1 : Int) (E : am_E) (u : am_M), Rn m_A_of 52 [l0, l1, l2] [vI a1, vR a0] E u = bdI (Rn m_A_look 0 [vR a0, vI a1] [] E u) (KI m_A_of 55 [l0, l1, l2] [])) ∧
  (∀ (l0 l1 l2 : am_V) (a : Int) (E : am_E) (u : am_M), Rn m_A_of 55 [l0, l1, l2] [vI a] E u = some (some (vI a), E, u)) ∧
  (∀ (l1 l2 : am_V) (a : Option Nat) (st : List am_V) (E : am_E) (u : am_M), Rn m_A_of 56 [vR a, l1, l2] st E u = Rn m_A_of 57 [vR a, l1, l2] (vR a :: st) E u) ∧
  (∀ (l0 l1 l2 : am_V) (st : List am_V) (E : am_E) (u : am_M) (hE : SE E), Rn m_A_of 57 [l0, l1, l2] (vR (some 0) :: st) E u = Rn m_A_of 60 [l0, l1, l2] (vR (some 1) :: st) E u) ∧
  (∀ (l0 l1 l2 : am_V) (st : List am_V) (E : am_E) (u : am_M) (hE : SE E), Rn m_A_of 60 [l0, l1, l2] (vR (some 1) :: st) E u = Rn m_A_of 63 [l0, l1, l2] (vR (some 3) :: st) E u) ∧
  (∀ (l0 l1 l2 : am_V) (st : List am_V) (E : am_E) (u : am_M) (hE : SE E), Rn m_A_of 60 [l0, l1, l2] (vR (some 8) :: st) E u = Rn m_A_of 63 [l0, l1, l2] (vR (some 10) :: st) E u) ∧
  (∀ (l0 l1 l2 : am_V) (st : List am_V) (E : am_E) (u : am_M) (hE : SE E), Rn m_A_of 60 [l0, l1, l2] (vR (some 73) :: st) E u = Rn m_A_of 63 [l0, l1, l2] (vR (some 75) :: st) E u) ∧
  (∀ (l0 l2 : am_V) (a : Int) (st : List am_V) (E : am_E) (u : am_M), Rn m_A_of 63 [l0, vI a, l2] st E u = Rn m_A_of 64 [l0, vI a, l2] (vI a :: st) E u) ∧
  (∀ (l0 l1 l2 : am_V) (a0 : Option Nat) (a1 : Int) (E : am_E) (u : am_M), Rn m_A_of 64 [l0, l1, l2] [vI a1, vR a0] E u = bdI (Rn m_A_look 0 [vR a0, vI a1] [] E u) (KI m_A_of 67 [l0, l1, l2] [])) ∧
  (∀ (l0 l1 l2 : am_V) (a : Int) (E : am_E) (u : am_M), Rn m_A_of 67 [l0, l1, l2] [vI a] E u = some (some (vI a), E, u)) ∧
  (∀ (l1 l2 : am_V) (a : Option Nat) (st : List am_V) (E : am_E) (u : am_M), Rn m_A_of 68 [vR a, l1, l2] st E u = Rn m_A_of 69 [vR a, l1, l2] (vR a :: st) E u) ∧
  (∀ (l0 l1 l2 : am_V) (st : List am_V) (E : am_E) (u : am_M) (hE : SE E), Rn m_A_of 69 [l0, l1, l2] (vR (some 0) :: st) E u = Rn m_A_of 72 [l0, l1, l2] (vR (some 1) :: st) E u) ∧
  (∀ (l0 l1 l2 : am_V) (st : List am_V) (E : am_E) (u : am_M) (hE : SE E), Rn m_A_of 72 [l0, l1, l2] (vR (some 1) :: st) E u = Rn m_A_of 75 [l0, l1, l2] (vR (some 4) :: st) E u) ∧
  (∀ (l0 l1 l2 : am_V) (st : List am_V) (E : am_E) (u : am_M) (hE : SE E), Rn m_A_of 72 [l0, l1, l2] (vR (some 8) :: st) E u = Rn m_A_of 75 [l0, l1, l2] (vR (some 11) :: st) E u) ∧
  (∀ (l0 l1 l2 : am_V) (st : List am_V) (E : am_E) (u : am_M) (hE : SE E), Rn m_A_of 72 [l0, l1, l2] (vR (some 73) :: st) E u = Rn m_A_of 75 [l0, l1, l2] (vR (some 76) :: st) E u) ∧
  (∀ (l0 l2 : am_V) (a : Int) (st : List am_V) (E : am_E) (u : am_M), Rn m_A_of 75 [l0, vI a, l2] st E u = Rn m_A_of 76 [l0, vI a, l2] (vI a :: st) E u) ∧
  (∀ (l0 l1 l2 : am_V) (a0 : Option Nat) (a1 : Int) (E : am_E) (u : am_M), Rn m_A_of 76 [l0, l1, l2] [vI a1, vR a0] E u = bdI (Rn m_A_look 0 [vR a0, vI a1] [] E u) (KI m_A_of 79 [l0, l1, l2] [])) ∧
  (∀ (l0 l1 l2 : am_V) (a : Int) (E : am_E) (u : am_M), Rn m_A_of 79 [l0, l1, l2] [vI a] E u = some (some (vI a), E, u)) ∧
  (∀ (l1 l2 : am_V) (a : Option Nat) (st : List am_V) (E : am_E) (u : am_M), Rn m_A_of 80 [vR a, l1, l2] st E u = Rn m_A_of 81 [vR a, l1, l2] (vR a :: st) E u) ∧
  (∀ (l0 l1 l2 : am_V) (st : List am_V) (E : am_E) (u : am_M) (hE : SE E), Rn m_A_of 81 [l0, l1, l2] (vR (some 0) :: st) E u = Rn m_A_of 84 [l0, l1, l2] (vR (some 1) :: st) E u) ∧
  (∀ (l0 l2 : am_V) (a : Int) (st : List am_V) (E : am_E) (u : am_M), Rn m_A_of 84 [l0, vI a, l2] st E u = Rn m_A_of 85 [l0, vI a, l2] (vI a :: st) E u) ∧
  (∀ (l0 l1 l2 : am_V) (a0 : Int) (E : am_E) (u : am_M) (hE : SE E), Rn m_A_of 85 [l0, l1, l2] [vI a0, vR (some 1)] E u = bdI (Rn m_C_waysOf 0 [vR (some 1), vI a0, vB false, vB false] [] E u) (KI m_A_of 88 [l0, l1, l2] [])) ∧
  (∀ (l0 l1 l2 : am_V) (a0 : Int) (E : am_E) (u : am_M) (hE : SE E), Rn m_A_of 85 [l0, l1, l2] [vI a0, vR (some 8)] E u = bdI (Rn m_C_waysOf 0 [vR (some 8), vI a0, vB false, vB false] [] E u) (KI m_A_of 88 [l0, l1, l2] [])) ∧
  (∀ (l0 l1 l2 : am_V) (a0 : Int) (E : am_E) (u : am_M) (hE : SE E), Rn m_A_of 85 [l0, l1, l2] [vI a0, vR (some 73)] E u = bdI (Rn m_C_waysOf 0 [vR (some 73), vI a0, vB false, vB false] [] E u) (KI m_A_of 88 [l0, l1, l2] [])) ∧
  (∀ (l0 l1 l2 : am_V) (a : Int) (E : am_E) (u : am_M), Rn m_A_of 88 [l0, l1, l2] [vI a] E u = some (some (vI a), E, u)) ∧
  (∀ (l0 l1 l2 : am_V) (st : List am_V) (E : am_E) (u : am_M), Rn m_A_of 89 [l0, l1, l2] st E u = Rn m_A_of 90 [l0, l1, l2] (vI (-1) :: st) E u) ∧
  (∀ (l0 l1 l2 : am_V) (a : Int) (E : am_E) (u : am_M), Rn m_A_of 90 [l0, l1, l2] [vI a] E u = some (some (vI a), E, u)) :=
  ⟨fun l1 l2 a st E u => q_go (by decide +kernel : am_Pg 44 0 = some (.aload_n 0, 1, [], 0)) rfl,
  fun l0 l1 l2 st E u hE => q_gfR (by decide +kernel : am_Pg 44 1 = some (.getfield 12, 3, [4, 8, 0, 0], 0)) (SE_k4 hE) rfl (SE_r4_0 hE),
  fun l0 l2 a st E u => q_go (by decide +kernel : am_Pg 44 4 = some (.iload_n 1, 1, [], 0)) rfl,
  fun l0 l1 l2 a0  E u hE => q_cI (by decide +kernel : am_Pg 44 5 = some (.invokevirtual 87, 3, [3, 29, 2, 0, 14, 1], 0)) (am_call_V (a := [vI a0]) (st' := []) (Nat.le_of_ble_eq_true rfl) rfl (SE_k0 hE cuB_1)) (by decide +kernel : am_Lm m_C_isPin = 2) (Nat.le_of_ble_eq_true rfl) rfl (by decide +kernel),
  fun l0 l1 l2 a0  E u hE => q_cI (by decide +kernel : am_Pg 44 5 = some (.invokevirtual 87, 3, [3, 29, 2, 0, 14, 1], 0)) (am_call_V (a := [vI a0]) (st' := []) (Nat.le_of_ble_eq_true rfl) rfl (SE_k0 hE cuB_8)) (by decide +kernel : am_Lm m_C_isPin = 2) (Nat.le_of_ble_eq_true rfl) rfl (by decide +kernel),
  fun l0 l1 l2 a0  E u hE => q_cI (by decide +kernel : am_Pg 44 5 = some (.invokevirtual 87, 3, [3, 29, 2, 0, 14, 1], 0)) (am_call_V (a := [vI a0]) (st' := []) (Nat.le_of_ble_eq_true rfl) rfl (SE_k0 hE cuB_73)) (by decide +kernel : am_Lm m_C_isPin = 2) (Nat.le_of_ble_eq_true rfl) rfl (by decide +kernel),
  fun l0 l1 l2 a st E u => q_if_ne (tgt := 13) (by decide +kernel : am_Pg 44 8 = some (.ifCond .ne 5, 3, [], 0)) (by decide),
  fun l0 l1 l2 st E u => q_go (by decide +kernel : am_Pg 44 11 = some (.iconst (-1), 1, [], 0)) rfl,
  fun l0 l1 l2 a E u => q_ret (by decide +kernel : am_Pg 44 12 = some (.ireturn, 1, [], 0)) rfl,
  fun l0 l1 a st E u => q_go (by decide +kernel : am_Pg 44 13 = some (.iload_n 2, 1, [], 0)) rfl,
  (fun l0 l1 l2 a st E u => by
  by_cases h0 : a = 0
  · subst h0; rw [if_pos rfl]; exact q_go (by decide +kernel : am_Pg 44 14 = some (.tableswitch 75 0 3 #[30, 42, 54, 66], 30, [], 0)) rfl
  rw [if_neg h0]
  by_cases h1 : a = 1
  · subst h1; rw [if_pos rfl]; exact q_go (by decide +kernel : am_Pg 44 14 = some (.tableswitch 75 0 3 #[30, 42, 54, 66], 30, [], 0)) rfl
  rw [if_neg h1]
  by_cases h2 : a = 2
  · subst h2; rw [if_pos rfl]; exact q_go (by decide +kernel : am_Pg 44 14 = some (.tableswitch 75 0 3 #[30, 42, 54, 66], 30, [], 0)) rfl
  rw [if_neg h2]
  by_cases h3 : a = 3
  · subst h3; rw [if_pos rfl]; exact q_go (by decide +kernel : am_Pg 44 14 = some (.tableswitch 75 0 3 #[30, 42, 54, 66], 30, [], 0)) rfl
  rw [if_neg h3]
  exact q_go (by decide +kernel : am_Pg 44 14 = some (.tableswitch 75 0 3 #[30, 42, 54, 66], 30, [], 0)) (by simp only [am_step, am_br]; rw [if_pos (by simp; omega)]; rfl)),
  fun l1 l2 a st E u => q_go (by decide +kernel : am_Pg 44 44 = some (.aload_n 0, 1, [], 0)) rfl,
  fun l0 l1 l2 st E u hE => q_gfR (by decide +kernel : am_Pg 44 45 = some (.getfield 12, 3, [4, 8, 0, 0], 0)) (SE_k4 hE) rfl (SE_r4_0 hE),
  fun l0 l1 l2 st E u hE => q_gfR (by decide +kernel : am_Pg 44 48 = some (.getfield 90, 3, [0, 14, 8, 1], 0)) (SE_k0 hE cuB_1) rfl (SE_r0_8 hE cuB_1),
  fun l0 l1 l2 st E u hE => q_gfR (by decide +kernel : am_Pg 44 48 = some (.getfield 90, 3, [0, 14, 8, 1], 0)) (SE_k0 hE cuB_8) rfl (SE_r0_8 hE cuB_8),
  fun l0 l1 l2 st E u hE => q_gfR (by decide +kernel : am_Pg 44 48 = some (.getfield 90, 3, [0, 14, 8, 1], 0)) (SE_k0 hE cuB_73) rfl (SE_r0_8 hE cuB_73),
  fun l0 l2 a st E u => q_go (by decide +kernel : am_Pg 44 51 = some (.iload_n 1, 1, [], 0)) rfl,
  fun l0 l1 l2 a0 a1  E u => q_cI (by decide +kernel : am_Pg 44 52 = some (.invokestatic 94, 3, [2, 36, 2, 0], 0)) (am_call_S (f := fun _ _ => true) (a := [vR a0, vI a1]) (st' := []) (Nat.le_of_ble_eq_true rfl) rfl rfl) (by decide +kernel : am_Lm m_A_look = 2) (Nat.le_of_ble_eq_true rfl) rfl (by decide +kernel),
  fun l0 l1 l2 a E u => q_ret (by decide +kernel : am_Pg 44 55 = some (.ireturn, 1, [], 0)) rfl,
  fun l1 l2 a st E u => q_go (by decide +kernel : am_Pg 44 56 = some (.aload_n 0, 1, [], 0)) rfl,
  fun l0 l1 l2 st E u hE => q_gfR (by decide +kernel : am_Pg 44 57 = some (.getfield 12, 3, [4, 8, 0, 0], 0)) (SE_k4 hE) rfl (SE_r4_0 hE),
  fun l0 l1 l2 st E u hE => q_gfR (by decide +kernel : am_Pg 44 60 = some (.getfield 98, 3, [0, 14, 9, 1], 0)) (SE_k0 hE cuB_1) rfl (SE_r0_9 hE cuB_1),
  fun l0 l1 l2 st E u hE => q_gfR (by decide +kernel : am_Pg 44 60 = some (.getfield 98, 3, [0, 14, 9, 1], 0)) (SE_k0 hE cuB_8) rfl (SE_r0_9 hE cuB_8),
  fun l0 l1 l2 st E u hE => q_gfR (by decide +kernel : am_Pg 44 60 = some (.getfield 98, 3, [0, 14, 9, 1], 0)) (SE_k0 hE cuB_73) rfl (SE_r0_9 hE cuB_73),
  fun l0 l2 a st E u => q_go (by decide +kernel : am_Pg 44 63 = some (.iload_n 1, 1, [], 0)) rfl,
  fun l0 l1 l2 a0 a1  E u => q_cI (by decide +kernel : am_Pg 44 64 = some (.invokestatic 94, 3, [2, 36, 2, 0], 0)) (am_call_S (f := fun _ _ => true) (a := [vR a0, vI a1]) (st' := []) (Nat.le_of_ble_eq_true rfl) rfl rfl) (by decide +kernel : am_Lm m_A_look = 2) (Nat.le_of_ble_eq_true rfl) rfl (by decide +kernel),
  fun l0 l1 l2 a E u => q_ret (by decide +kernel : am_Pg 44 67 = some (.ireturn, 1, [], 0)) rfl,
  fun l1 l2 a st E u => q_go (by decide +kernel : am_Pg 44 68 = some (.aload_n 0, 1, [], 0)) rfl,
  fun l0 l1 l2 st E u hE => q_gfR (by decide +kernel : am_Pg 44 69 = some (.getfield 12, 3, [4, 8, 0, 0], 0)) (SE_k4 hE) rfl (SE_r4_0 hE),
  fun l0 l1 l2 st E u hE => q_gfR (by decide +kernel : am_Pg 44 72 = some (.getfield 101, 3, [0, 14, 10, 1], 0)) (SE_k0 hE cuB_1) rfl (SE_r0_10 hE cuB_1),
  fun l0 l1 l2 st E u hE => q_gfR (by decide +kernel : am_Pg 44 72 = some (.getfield 101, 3, [0, 14, 10, 1], 0)) (SE_k0 hE cuB_8) rfl (SE_r0_10 hE cuB_8),
  fun l0 l1 l2 st E u hE => q_gfR (by decide +kernel : am_Pg 44 72 = some (.getfield 101, 3, [0, 14, 10, 1], 0)) (SE_k0 hE cuB_73) rfl (SE_r0_10 hE cuB_73),
  fun l0 l2 a st E u => q_go (by decide +kernel : am_Pg 44 75 = some (.iload_n 1, 1, [], 0)) rfl,
  fun l0 l1 l2 a0 a1  E u => q_cI (by decide +kernel : am_Pg 44 76 = some (.invokestatic 94, 3, [2, 36, 2, 0], 0)) (am_call_S (f := fun _ _ => true) (a := [vR a0, vI a1]) (st' := []) (Nat.le_of_ble_eq_true rfl) rfl rfl) (by decide +kernel : am_Lm m_A_look = 2) (Nat.le_of_ble_eq_true rfl) rfl (by decide +kernel),
  fun l0 l1 l2 a E u => q_ret (by decide +kernel : am_Pg 44 79 = some (.ireturn, 1, [], 0)) rfl,
  fun l1 l2 a st E u => q_go (by decide +kernel : am_Pg 44 80 = some (.aload_n 0, 1, [], 0)) rfl,
  fun l0 l1 l2 st E u hE => q_gfR (by decide +kernel : am_Pg 44 81 = some (.getfield 12, 3, [4, 8, 0, 0], 0)) (SE_k4 hE) rfl (SE_r4_0 hE),
  fun l0 l2 a st E u => q_go (by decide +kernel : am_Pg 44 84 = some (.iload_n 1, 1, [], 0)) rfl,
  fun l0 l1 l2 a0  E u hE => q_cI (by decide +kernel : am_Pg 44 85 = some (.invokevirtual 104, 3, [3, 43, 2, 0, 14, 1], 0)) (am_call_V (a := [vI a0]) (st' := []) (Nat.le_of_ble_eq_true rfl) rfl (SE_k0 hE cuB_1)) (by decide +kernel : am_Lm m_C_waysOf = 4) (Nat.le_of_ble_eq_true rfl) rfl (by decide +kernel),
  fun l0 l1 l2 a0  E u hE => q_cI (by decide +kernel : am_Pg 44 85 = some (.invokevirtual 104, 3, [3, 43, 2, 0, 14, 1], 0)) (am_call_V (a := [vI a0]) (st' := []) (Nat.le_of_ble_eq_true rfl) rfl (SE_k0 hE cuB_8)) (by decide +kernel : am_Lm m_C_waysOf = 4) (Nat.le_of_ble_eq_true rfl) rfl (by decide +kernel),
  fun l0 l1 l2 a0  E u hE => q_cI (by decide +kernel : am_Pg 44 85 = some (.invokevirtual 104, 3, [3, 43, 2, 0, 14, 1], 0)) (am_call_V (a := [vI a0]) (st' := []) (Nat.le_of_ble_eq_true rfl) rfl (SE_k0 hE cuB_73)) (by decide +kernel : am_Lm m_C_waysOf = 4) (Nat.le_of_ble_eq_true rfl) rfl (by decide +kernel),
  fun l0 l1 l2 a E u => q_ret (by decide +kernel : am_Pg 44 88 = some (.ireturn, 1, [], 0)) rfl,
  fun l0 l1 l2 st E u => q_go (by decide +kernel : am_Pg 44 89 = some (.iconst (-1), 1, [], 0)) rfl,
  fun l0 l1 l2 a E u => q_ret (by decide +kernel : am_Pg 44 90 = some (.ireturn, 1, [], 0)) rfl⟩
theorem x_A_at :
  (∀ (l1 l2 : am_V) (a : Option Nat) (st : List am_V) (E : am_E) (u : am_M), Rn m_A_at 0 [vR a, l1, l2] st E u = Rn m_A_at 1 [vR a, l1, l2] (vR a :: st) E u) ∧
  (∀ (l0 l1 l2 : am_V) (st : List am_V) (E : am_E) (u : am_M) (hE : SE E), Rn m_A_at 1 [l0, l1, l2] (vR (some 0) :: st) E u = Rn m_A_at 4 [l0, l1, l2] (vR (some 1) :: st) E u) ∧
  (∀ (l0 l2 : am_V) (a : Int) (st : List am_V) (E : am_E) (u : am_M), Rn m_A_at 4 [l0, vI a, l2] st E u = Rn m_A_at 5 [l0, vI a, l2] (vI a :: st) E u) ∧
  (∀ (l0 l1 l2 : am_V) (a0 : Int) (E : am_E) (u : am_M) (hE : SE E), Rn m_A_at 5 [l0, l1, l2] [vI a0, vR (some 1)] E u = bdI (Rn m_C_isThread 0 [vR (some 1), vI a0] [] E u) (KI m_A_at 8 [l0, l1, l2] [])) ∧
  (∀ (l0 l1 l2 : am_V) (a0 : Int) (E : am_E) (u : am_M) (hE : SE E), Rn m_A_at 5 [l0, l1, l2] [vI a0, vR (some 8)] E u = bdI (Rn m_C_isThread 0 [vR (some 8), vI a0] [] E u) (KI m_A_at 8 [l0, l1, l2] [])) ∧
  (∀ (l0 l1 l2 : am_V) (a0 : Int) (E : am_E) (u : am_M) (hE : SE E), Rn m_A_at 5 [l0, l1, l2] [vI a0, vR (some 73)] E u = bdI (Rn m_C_isThread 0 [vR (some 73), vI a0] [] E u) (KI m_A_at 8 [l0, l1, l2] [])) ∧
  (∀ (l0 l1 l2 : am_V) (a : Int) (st : List am_V) (E : am_E) (u : am_M), Rn m_A_at 8 [l0, l1, l2] (vI a :: st) E u = if a = 0 then Rn m_A_at 11 [l0, l1, l2] st E u else Rn m_A_at 13 [l0, l1, l2] st E u) ∧
  (∀ (l0 l1 l2 : am_V) (st : List am_V) (E : am_E) (u : am_M), Rn m_A_at 11 [l0, l1, l2] st E u = Rn m_A_at 12 [l0, l1, l2] (vI (-1) :: st) E u) ∧
  (∀ (l0 l1 l2 : am_V) (a : Int) (E : am_E) (u : am_M), Rn m_A_at 12 [l0, l1, l2] [vI a] E u = some (some (vI a), E, u)) ∧
  (∀ (l0 l1 : am_V) (a : Int) (st : List am_V) (E : am_E) (u : am_M), Rn m_A_at 13 [l0, l1, vI a] st E u = Rn m_A_at 14 [l0, l1, vI a] (vI a :: st) E u) ∧
  (∀ (l0 l1 l2 : am_V) (a : Int) (st : List am_V) (E : am_E) (u : am_M), Rn m_A_at 14 [l0, l1, l2] (vI a :: st) E u = if a = 0 then Rn m_A_at 48 [l0, l1, l2] st E u else if a = 1 then Rn m_A_at 60 [l0, l1, l2] st E u else if a = 2 then Rn m_A_at 72 [l0, l1, l2] st E u else if a = 3 then Rn m_A_at 84 [l0, l1, l2] st E u else if a = 4 then Rn m_A_at 101 [l0, l1, l2] st E u else Rn m_A_at 118 [l0, l1, l2] st E u) ∧
  (∀ (l1 l2 : am_V) (a : Option Nat) (st : List am_V) (E : am_E) (u : am_M), Rn m_A_at 48 [vR a, l1, l2] st E u = Rn m_A_at 49 [vR a, l1, l2] (vR a :: st) E u) ∧
  (∀ (l0 l1 l2 : am_V) (st : List am_V) (E : am_E) (u : am_M) (hE : SE E), Rn m_A_at 49 [l0, l1, l2] (vR (some 0) :: st) E u = Rn m_A_at 52 [l0, l1, l2] (vR (some 1) :: st) E u) ∧
  (∀ (l0 l1 l2 : am_V) (st : List am_V) (E : am_E) (u : am_M) (hE : SE E), Rn m_A_at 52 [l0, l1, l2] (vR (some 1) :: st) E u = Rn m_A_at 55 [l0, l1, l2] (vR (some 5) :: st) E u) ∧
  (∀ (l0 l1 l2 : am_V) (st : List am_V) (E : am_E) (u : am_M) (hE : SE E), Rn m_A_at 52 [l0, l1, l2] (vR (some 8) :: st) E u = Rn m_A_at 55 [l0, l1, l2] (vR (some 12) :: st) E u) ∧
  (∀ (l0 l1 l2 : am_V) (st : List am_V) (E : am_E) (u : am_M) (hE : SE E), Rn m_A_at 52 [l0, l1, l2] (vR (some 73) :: st) E u = Rn m_A_at 55 [l0, l1, l2] (vR (some 77) :: st) E u) ∧
  (∀ (l0 l2 : am_V) (a : Int) (st : List am_V) (E : am_E) (u : am_M), Rn m_A_at 55 [l0, vI a, l2] st E u = Rn m_A_at 56 [l0, vI a, l2] (vI a :: st) E u) ∧
  (∀ (l0 l1 l2 : am_V) (a0 : Option Nat) (a1 : Int) (E : am_E) (u : am_M), Rn m_A_at 56 [l0, l1, l2] [vI a1, vR a0] E u = bdI (Rn m_A_look 0 [vR a0, vI a1] [] E u) (KI m_A_at 59 [l0, l1, l2] [])) ∧
  (∀ (l0 l1 l2 : am_V) (a : Int) (E : am_E) (u : am_M), Rn m_A_at 59 [l0, l1, l2] [vI a] E u = some (some (vI a), E, u)) ∧
  (∀ (l1 l2 : am_V) (a : Option Nat) (st : List am_V) (E : am_E) (u : am_M), Rn m_A_at 60 [vR a, l1, l2] st E u = Rn m_A_at 61 [vR a, l1, l2] (vR a :: st) E u) ∧
  (∀ (l0 l1 l2 : am_V) (st : List am_V) (E : am_E) (u : am_M) (hE : SE E), Rn m_A_at 61 [l0, l1, l2] (vR (some 0) :: st) E u = Rn m_A_at 64 [l0, l1, l2] (vR (some 1) :: st) E u) ∧
  (∀ (l0 l1 l2 : am_V) (st : List am_V) (E : am_E) (u : am_M) (hE : SE E), Rn m_A_at 64 [l0, l1, l2] (vR (some 1) :: st) E u = Rn m_A_at 67 [l0, l1, l2] (vR (some 6) :: st) E u) ∧
  (∀ (l0 l1 l2 : am_V) (st : List am_V) (E : am_E) (u : am_M) (hE : SE E), Rn m_A_at 64 [l0, l1, l2] (vR (some 8) :: st) E u = Rn m_A_at 67 [l0, l1, l2] (vR (some 13) :: st) E u) ∧
  (∀ (l0 l1 l2 : am_V) (st : List am_V) (E : am_E) (u : am_M) (hE : SE E), Rn m_A_at 64 [l0, l1, l2] (vR (some 73) :: st) E u = Rn m_A_at 67 [l0, l1, l2] (vR (some 78) :: st) E u) ∧
  (∀ (l0 l2 : am_V) (a : Int) (st : List am_V) (E : am_E) (u : am_M), Rn m_A_at 67 [l0, vI a, l2] st E u = Rn m_A_at 68 [l0, vI a, l2] (vI a :: st) E u) ∧
  (∀ (l0 l1 l2 : am_V) (a0 : Option Nat) (a1 : Int) (E : am_E) (u : am_M), Rn m_A_at 68 [l0, l1, l2] [vI a1, vR a0] E u = bdI (Rn m_A_look 0 [vR a0, vI a1] [] E u) (KI m_A_at 71 [l0, l1, l2] [])) ∧
  (∀ (l0 l1 l2 : am_V) (a : Int) (E : am_E) (u : am_M), Rn m_A_at 71 [l0, l1, l2] [vI a] E u = some (some (vI a), E, u)) ∧
  (∀ (l1 l2 : am_V) (a : Option Nat) (st : List am_V) (E : am_E) (u : am_M), Rn m_A_at 72 [vR a, l1, l2] st E u = Rn m_A_at 73 [vR a, l1, l2] (vR a :: st) E u) ∧
  (∀ (l0 l1 l2 : am_V) (st : List am_V) (E : am_E) (u : am_M) (hE : SE E), Rn m_A_at 73 [l0, l1, l2] (vR (some 0) :: st) E u = Rn m_A_at 76 [l0, l1, l2] (vR (some 1) :: st) E u) ∧
  (∀ (l0 l1 l2 : am_V) (st : List am_V) (E : am_E) (u : am_M) (hE : SE E), Rn m_A_at 76 [l0, l1, l2] (vR (some 1) :: st) E u = Rn m_A_at 79 [l0, l1, l2] (vR (some 7) :: st) E u) ∧
  (∀ (l0 l1 l2 : am_V) (st : List am_V) (E : am_E) (u : am_M) (hE : SE E), Rn m_A_at 76 [l0, l1, l2] (vR (some 8) :: st) E u = Rn m_A_at 79 [l0, l1, l2] (vR (some 14) :: st) E u) ∧
  (∀ (l0 l1 l2 : am_V) (st : List am_V) (E : am_E) (u : am_M) (hE : SE E), Rn m_A_at 76 [l0, l1, l2] (vR (some 73) :: st) E u = Rn m_A_at 79 [l0, l1, l2] (vR (some 79) :: st) E u) ∧
  (∀ (l0 l2 : am_V) (a : Int) (st : List am_V) (E : am_E) (u : am_M), Rn m_A_at 79 [l0, vI a, l2] st E u = Rn m_A_at 80 [l0, vI a, l2] (vI a :: st) E u) ∧
  (∀ (l0 l1 l2 : am_V) (a0 : Option Nat) (a1 : Int) (E : am_E) (u : am_M), Rn m_A_at 80 [l0, l1, l2] [vI a1, vR a0] E u = bdI (Rn m_A_look 0 [vR a0, vI a1] [] E u) (KI m_A_at 83 [l0, l1, l2] [])) ∧
  (∀ (l0 l1 l2 : am_V) (a : Int) (E : am_E) (u : am_M), Rn m_A_at 83 [l0, l1, l2] [vI a] E u = some (some (vI a), E, u)) ∧
  (∀ (l1 l2 : am_V) (a : Option Nat) (st : List am_V) (E : am_E) (u : am_M), Rn m_A_at 84 [vR a, l1, l2] st E u = Rn m_A_at 85 [vR a, l1, l2] (vR a :: st) E u) ∧
  (∀ (l0 l1 l2 : am_V) (st : List am_V) (E : am_E) (u : am_M) (hE : SE E), Rn m_A_at 85 [l0, l1, l2] (vR (some 0) :: st) E u = Rn m_A_at 88 [l0, l1, l2] (vR (some 1) :: st) E u) ∧
  (∀ (l0 l2 : am_V) (a : Int) (st : List am_V) (E : am_E) (u : am_M), Rn m_A_at 88 [l0, vI a, l2] st E u = Rn m_A_at 89 [l0, vI a, l2] (vI a :: st) E u) ∧
  (∀ (l0 l1 l2 : am_V) (a0 : Int) (E : am_E) (u : am_M) (hE : SE E), Rn m_A_at 89 [l0, l1, l2] [vI a0, vR (some 1)] E u = bdI (Rn m_C_isCut 0 [vR (some 1), vI a0] [] E u) (KI m_A_at 92 [l0, l1, l2] [])) ∧
  (∀ (l0 l1 l2 : am_V) (a0 : Int) (E : am_E) (u : am_M) (hE : SE E), Rn m_A_at 89 [l0, l1, l2] [vI a0, vR (some 8)] E u = bdI (Rn m_C_isCut 0 [vR (some 8), vI a0] [] E u) (KI m_A_at 92 [l0, l1, l2] [])) ∧
  (∀ (l0 l1 l2 : am_V) (a0 : Int) (E : am_E) (u : am_M) (hE : SE E), Rn m_A_at 89 [l0, l1, l2] [vI a0, vR (some 73)] E u = bdI (Rn m_C_isCut 0 [vR (some 73), vI a0] [] E u) (KI m_A_at 92 [l0, l1, l2] [])) ∧
  (∀ (l0 l1 l2 : am_V) (a : Int) (st : List am_V) (E : am_E) (u : am_M), Rn m_A_at 92 [l0, l1, l2] (vI a :: st) E u = if a = 0 then Rn m_A_at 99 [l0, l1, l2] st E u else Rn m_A_at 95 [l0, l1, l2] st E u) ∧
  (∀ (l0 l1 l2 : am_V) (st : List am_V) (E : am_E) (u : am_M), Rn m_A_at 95 [l0, l1, l2] st E u = Rn m_A_at 96 [l0, l1, l2] (vI 1 :: st) E u) ∧
  (∀ (l0 l1 l2 : am_V) (st : List am_V) (E : am_E) (u : am_M), Rn m_A_at 96 [l0, l1, l2] st E u = Rn m_A_at 100 [l0, l1, l2] st E u) ∧
  (∀ (l0 l1 l2 : am_V) (st : List am_V) (E : am_E) (u : am_M), Rn m_A_at 99 [l0, l1, l2] st E u = Rn m_A_at 100 [l0, l1, l2] (vI 0 :: st) E u) ∧
  (∀ (l0 l1 l2 : am_V) (a : Int) (E : am_E) (u : am_M), Rn m_A_at 100 [l0, l1, l2] [vI a] E u = some (some (vI a), E, u)) ∧
  (∀ (l1 l2 : am_V) (a : Option Nat) (st : List am_V) (E : am_E) (u : am_M), Rn m_A_at 101 [vR a, l1, l2] st E u = Rn m_A_at 102 [vR a, l1, l2] (vR a :: st) E u) ∧
  (∀ (l0 l1 l2 : am_V) (st : List am_V) (E : am_E) (u : am_M) (hE : SE E), Rn m_A_at 102 [l0, l1, l2] (vR (some 0) :: st) E u = Rn m_A_at 105 [l0, l1, l2] (vR (some 1) :: st) E u) ∧
  (∀ (l0 l2 : am_V) (a : Int) (st : List am_V) (E : am_E) (u : am_M), Rn m_A_at 105 [l0, vI a, l2] st E u = Rn m_A_at 106 [l0, vI a, l2] (vI a :: st) E u) ∧
  (∀ (l0 l1 l2 : am_V) (a0 : Int) (E : am_E) (u : am_M) (hE : SE E), Rn m_A_at 106 [l0, l1, l2] [vI a0, vR (some 1)] E u = bdI (Rn m_C_holds 0 [vR (some 1), vI a0, vB false, vB false] [] E u) (KI m_A_at 109 [l0, l1, l2] [])) ∧
  (∀ (l0 l1 l2 : am_V) (a0 : Int) (E : am_E) (u : am_M) (hE : SE E), Rn m_A_at 106 [l0, l1, l2] [vI a0, vR (some 8)] E u = bdI (Rn m_C_holds 0 [vR (some 8), vI a0, vB false, vB false] [] E u) (KI m_A_at 109 [l0, l1, l2] [])) ∧
  (∀ (l0 l1 l2 : am_V) (a0 : Int) (E : am_E) (u : am_M) (hE : SE E), Rn m_A_at 106 [l0, l1, l2] [vI a0, vR (some 73)] E u = bdI (Rn m_C_holds 0 [vR (some 73), vI a0, vB false, vB false] [] E u) (KI m_A_at 109 [l0, l1, l2] [])) ∧
  (∀ (l0 l1 l2 : am_V) (a : Int) (st : List am_V) (E : am_E) (u : am_M), Rn m_A_at 109 [l0, l1, l2] (vI a :: st) E u = if a = 0 then Rn m_A_at 116 [l0, l1, l2] st E u else Rn m_A_at 112 [l0, l1, l2] st E u) ∧
  (∀ (l0 l1 l2 : am_V) (st : List am_V) (E : am_E) (u : am_M), Rn m_A_at 112 [l0, l1, l2] st E u = Rn m_A_at 113 [l0, l1, l2] (vI 1 :: st) E u) ∧
  (∀ (l0 l1 l2 : am_V) (st : List am_V) (E : am_E) (u : am_M), Rn m_A_at 113 [l0, l1, l2] st E u = Rn m_A_at 117 [l0, l1, l2] st E u) ∧
  (∀ (l0 l1 l2 : am_V) (st : List am_V) (E : am_E) (u : am_M), Rn m_A_at 116 [l0, l1, l2] st E u = Rn m_A_at 117 [l0, l1, l2] (vI 0 :: st) E u) ∧
  (∀ (l0 l1 l2 : am_V) (a : Int) (E : am_E) (u : am_M), Rn m_A_at 117 [l0, l1, l2] [vI a] E u = some (some (vI a), E, u)) ∧
  (∀ (l0 l1 l2 : am_V) (st : List am_V) (E : am_E) (u : am_M), Rn m_A_at 118 [l0, l1, l2] st E u = Rn m_A_at 119 [l0, l1, l2] (vI (-1) :: st) E u) ∧
  (∀ (l0 l1 l2 : am_V) (a : Int) (E : am_E) (u : am_M), Rn m_A_at 119 [l0, l1, l2] [vI a] E u = some (some (vI a), E, u)) :=
  ⟨fun l1 l2 a st E u => q_go (by decide +kernel : am_Pg 56 0 = some (.aload_n 0, 1, [], 0)) rfl,
  fun l0 l1 l2 st E u hE => q_gfR (by decide +kernel : am_Pg 56 1 = some (.getfield 12, 3, [4, 8, 0, 0], 0)) (SE_k4 hE) rfl (SE_r4_0 hE),
  fun l0 l2 a st E u => q_go (by decide +kernel : am_Pg 56 4 = some (.iload_n 1, 1, [], 0)) rfl,
  fun l0 l1 l2 a0  E u hE => q_cI (by decide +kernel : am_Pg 56 5 = some (.invokevirtual 107, 3, [3, 38, 2, 0, 14, 1], 0)) (am_call_V (a := [vI a0]) (st' := []) (Nat.le_of_ble_eq_true rfl) rfl (SE_k0 hE cuB_1)) (by decide +kernel : am_Lm m_C_isThread = 2) (Nat.le_of_ble_eq_true rfl) rfl (by decide +kernel),
  fun l0 l1 l2 a0  E u hE => q_cI (by decide +kernel : am_Pg 56 5 = some (.invokevirtual 107, 3, [3, 38, 2, 0, 14, 1], 0)) (am_call_V (a := [vI a0]) (st' := []) (Nat.le_of_ble_eq_true rfl) rfl (SE_k0 hE cuB_8)) (by decide +kernel : am_Lm m_C_isThread = 2) (Nat.le_of_ble_eq_true rfl) rfl (by decide +kernel),
  fun l0 l1 l2 a0  E u hE => q_cI (by decide +kernel : am_Pg 56 5 = some (.invokevirtual 107, 3, [3, 38, 2, 0, 14, 1], 0)) (am_call_V (a := [vI a0]) (st' := []) (Nat.le_of_ble_eq_true rfl) rfl (SE_k0 hE cuB_73)) (by decide +kernel : am_Lm m_C_isThread = 2) (Nat.le_of_ble_eq_true rfl) rfl (by decide +kernel),
  fun l0 l1 l2 a st E u => q_if_ne (tgt := 13) (by decide +kernel : am_Pg 56 8 = some (.ifCond .ne 5, 3, [], 0)) (by decide),
  fun l0 l1 l2 st E u => q_go (by decide +kernel : am_Pg 56 11 = some (.iconst (-1), 1, [], 0)) rfl,
  fun l0 l1 l2 a E u => q_ret (by decide +kernel : am_Pg 56 12 = some (.ireturn, 1, [], 0)) rfl,
  fun l0 l1 a st E u => q_go (by decide +kernel : am_Pg 56 13 = some (.iload_n 2, 1, [], 0)) rfl,
  (fun l0 l1 l2 a st E u => by
  by_cases h0 : a = 0
  · subst h0; rw [if_pos rfl]; exact q_go (by decide +kernel : am_Pg 56 14 = some (.tableswitch 104 0 4 #[34, 46, 58, 70, 87], 34, [], 0)) rfl
  rw [if_neg h0]
  by_cases h1 : a = 1
  · subst h1; rw [if_pos rfl]; exact q_go (by decide +kernel : am_Pg 56 14 = some (.tableswitch 104 0 4 #[34, 46, 58, 70, 87], 34, [], 0)) rfl
  rw [if_neg h1]
  by_cases h2 : a = 2
  · subst h2; rw [if_pos rfl]; exact q_go (by decide +kernel : am_Pg 56 14 = some (.tableswitch 104 0 4 #[34, 46, 58, 70, 87], 34, [], 0)) rfl
  rw [if_neg h2]
  by_cases h3 : a = 3
  · subst h3; rw [if_pos rfl]; exact q_go (by decide +kernel : am_Pg 56 14 = some (.tableswitch 104 0 4 #[34, 46, 58, 70, 87], 34, [], 0)) rfl
  rw [if_neg h3]
  by_cases h4 : a = 4
  · subst h4; rw [if_pos rfl]; exact q_go (by decide +kernel : am_Pg 56 14 = some (.tableswitch 104 0 4 #[34, 46, 58, 70, 87], 34, [], 0)) rfl
  rw [if_neg h4]
  exact q_go (by decide +kernel : am_Pg 56 14 = some (.tableswitch 104 0 4 #[34, 46, 58, 70, 87], 34, [], 0)) (by simp only [am_step, am_br]; rw [if_pos (by simp; omega)]; rfl)),
  fun l1 l2 a st E u => q_go (by decide +kernel : am_Pg 56 48 = some (.aload_n 0, 1, [], 0)) rfl,
  fun l0 l1 l2 st E u hE => q_gfR (by decide +kernel : am_Pg 56 49 = some (.getfield 12, 3, [4, 8, 0, 0], 0)) (SE_k4 hE) rfl (SE_r4_0 hE),
  fun l0 l1 l2 st E u hE => q_gfR (by decide +kernel : am_Pg 56 52 = some (.getfield 110, 3, [0, 14, 11, 1], 0)) (SE_k0 hE cuB_1) rfl (SE_r0_11 hE cuB_1),
  fun l0 l1 l2 st E u hE => q_gfR (by decide +kernel : am_Pg 56 52 = some (.getfield 110, 3, [0, 14, 11, 1], 0)) (SE_k0 hE cuB_8) rfl (SE_r0_11 hE cuB_8),
  fun l0 l1 l2 st E u hE => q_gfR (by decide +kernel : am_Pg 56 52 = some (.getfield 110, 3, [0, 14, 11, 1], 0)) (SE_k0 hE cuB_73) rfl (SE_r0_11 hE cuB_73),
  fun l0 l2 a st E u => q_go (by decide +kernel : am_Pg 56 55 = some (.iload_n 1, 1, [], 0)) rfl,
  fun l0 l1 l2 a0 a1  E u => q_cI (by decide +kernel : am_Pg 56 56 = some (.invokestatic 94, 3, [2, 36, 2, 0], 0)) (am_call_S (f := fun _ _ => true) (a := [vR a0, vI a1]) (st' := []) (Nat.le_of_ble_eq_true rfl) rfl rfl) (by decide +kernel : am_Lm m_A_look = 2) (Nat.le_of_ble_eq_true rfl) rfl (by decide +kernel),
  fun l0 l1 l2 a E u => q_ret (by decide +kernel : am_Pg 56 59 = some (.ireturn, 1, [], 0)) rfl,
  fun l1 l2 a st E u => q_go (by decide +kernel : am_Pg 56 60 = some (.aload_n 0, 1, [], 0)) rfl,
  fun l0 l1 l2 st E u hE => q_gfR (by decide +kernel : am_Pg 56 61 = some (.getfield 12, 3, [4, 8, 0, 0], 0)) (SE_k4 hE) rfl (SE_r4_0 hE),
  fun l0 l1 l2 st E u hE => q_gfR (by decide +kernel : am_Pg 56 64 = some (.getfield 113, 3, [0, 14, 12, 1], 0)) (SE_k0 hE cuB_1) rfl (SE_r0_12 hE cuB_1),
  fun l0 l1 l2 st E u hE => q_gfR (by decide +kernel : am_Pg 56 64 = some (.getfield 113, 3, [0, 14, 12, 1], 0)) (SE_k0 hE cuB_8) rfl (SE_r0_12 hE cuB_8),
  fun l0 l1 l2 st E u hE => q_gfR (by decide +kernel : am_Pg 56 64 = some (.getfield 113, 3, [0, 14, 12, 1], 0)) (SE_k0 hE cuB_73) rfl (SE_r0_12 hE cuB_73),
  fun l0 l2 a st E u => q_go (by decide +kernel : am_Pg 56 67 = some (.iload_n 1, 1, [], 0)) rfl,
  fun l0 l1 l2 a0 a1  E u => q_cI (by decide +kernel : am_Pg 56 68 = some (.invokestatic 94, 3, [2, 36, 2, 0], 0)) (am_call_S (f := fun _ _ => true) (a := [vR a0, vI a1]) (st' := []) (Nat.le_of_ble_eq_true rfl) rfl rfl) (by decide +kernel : am_Lm m_A_look = 2) (Nat.le_of_ble_eq_true rfl) rfl (by decide +kernel),
  fun l0 l1 l2 a E u => q_ret (by decide +kernel : am_Pg 56 71 = some (.ireturn, 1, [], 0)) rfl,
  fun l1 l2 a st E u => q_go (by decide +kernel : am_Pg 56 72 = some (.aload_n 0, 1, [], 0)) rfl,
  fun l0 l1 l2 st E u hE => q_gfR (by decide +kernel : am_Pg 56 73 = some (.getfield 12, 3, [4, 8, 0, 0], 0)) (SE_k4 hE) rfl (SE_r4_0 hE),
  fun l0 l1 l2 st E u hE => q_gfR (by decide +kernel : am_Pg 56 76 = some (.getfield 116, 3, [0, 14, 13, 1], 0)) (SE_k0 hE cuB_1) rfl (SE_r0_13 hE cuB_1),
  fun l0 l1 l2 st E u hE => q_gfR (by decide +kernel : am_Pg 56 76 = some (.getfield 116, 3, [0, 14, 13, 1], 0)) (SE_k0 hE cuB_8) rfl (SE_r0_13 hE cuB_8),
  fun l0 l1 l2 st E u hE => q_gfR (by decide +kernel : am_Pg 56 76 = some (.getfield 116, 3, [0, 14, 13, 1], 0)) (SE_k0 hE cuB_73) rfl (SE_r0_13 hE cuB_73),
  fun l0 l2 a st E u => q_go (by decide +kernel : am_Pg 56 79 = some (.iload_n 1, 1, [], 0)) rfl,
  fun l0 l1 l2 a0 a1  E u => q_cI (by decide +kernel : am_Pg 56 80 = some (.invokestatic 94, 3, [2, 36, 2, 0], 0)) (am_call_S (f := fun _ _ => true) (a := [vR a0, vI a1]) (st' := []) (Nat.le_of_ble_eq_true rfl) rfl rfl) (by decide +kernel : am_Lm m_A_look = 2) (Nat.le_of_ble_eq_true rfl) rfl (by decide +kernel),
  fun l0 l1 l2 a E u => q_ret (by decide +kernel : am_Pg 56 83 = some (.ireturn, 1, [], 0)) rfl,
  fun l1 l2 a st E u => q_go (by decide +kernel : am_Pg 56 84 = some (.aload_n 0, 1, [], 0)) rfl,
  fun l0 l1 l2 st E u hE => q_gfR (by decide +kernel : am_Pg 56 85 = some (.getfield 12, 3, [4, 8, 0, 0], 0)) (SE_k4 hE) rfl (SE_r4_0 hE),
  fun l0 l2 a st E u => q_go (by decide +kernel : am_Pg 56 88 = some (.iload_n 1, 1, [], 0)) rfl,
  fun l0 l1 l2 a0  E u hE => q_cI (by decide +kernel : am_Pg 56 89 = some (.invokevirtual 119, 3, [3, 39, 2, 0, 14, 1], 0)) (am_call_V (a := [vI a0]) (st' := []) (Nat.le_of_ble_eq_true rfl) rfl (SE_k0 hE cuB_1)) (by decide +kernel : am_Lm m_C_isCut = 2) (Nat.le_of_ble_eq_true rfl) rfl (by decide +kernel),
  fun l0 l1 l2 a0  E u hE => q_cI (by decide +kernel : am_Pg 56 89 = some (.invokevirtual 119, 3, [3, 39, 2, 0, 14, 1], 0)) (am_call_V (a := [vI a0]) (st' := []) (Nat.le_of_ble_eq_true rfl) rfl (SE_k0 hE cuB_8)) (by decide +kernel : am_Lm m_C_isCut = 2) (Nat.le_of_ble_eq_true rfl) rfl (by decide +kernel),
  fun l0 l1 l2 a0  E u hE => q_cI (by decide +kernel : am_Pg 56 89 = some (.invokevirtual 119, 3, [3, 39, 2, 0, 14, 1], 0)) (am_call_V (a := [vI a0]) (st' := []) (Nat.le_of_ble_eq_true rfl) rfl (SE_k0 hE cuB_73)) (by decide +kernel : am_Lm m_C_isCut = 2) (Nat.le_of_ble_eq_true rfl) rfl (by decide +kernel),
  fun l0 l1 l2 a st E u => q_if_eq (tgt := 99) (by decide +kernel : am_Pg 56 92 = some (.ifCond .eq 7, 3, [], 0)) (by decide),
  fun l0 l1 l2 st E u => q_go (by decide +kernel : am_Pg 56 95 = some (.iconst 1, 1, [], 0)) rfl,
  fun l0 l1 l2 st E u => q_go (by decide +kernel : am_Pg 56 96 = some (.goto 4, 3, [], 0)) rfl,
  fun l0 l1 l2 st E u => q_go (by decide +kernel : am_Pg 56 99 = some (.iconst 0, 1, [], 0)) rfl,
  fun l0 l1 l2 a E u => q_ret (by decide +kernel : am_Pg 56 100 = some (.ireturn, 1, [], 0)) rfl,
  fun l1 l2 a st E u => q_go (by decide +kernel : am_Pg 56 101 = some (.aload_n 0, 1, [], 0)) rfl,
  fun l0 l1 l2 st E u hE => q_gfR (by decide +kernel : am_Pg 56 102 = some (.getfield 12, 3, [4, 8, 0, 0], 0)) (SE_k4 hE) rfl (SE_r4_0 hE),
  fun l0 l2 a st E u => q_go (by decide +kernel : am_Pg 56 105 = some (.iload_n 1, 1, [], 0)) rfl,
  fun l0 l1 l2 a0  E u hE => q_cI (by decide +kernel : am_Pg 56 106 = some (.invokevirtual 122, 3, [3, 41, 2, 0, 14, 1], 0)) (am_call_V (a := [vI a0]) (st' := []) (Nat.le_of_ble_eq_true rfl) rfl (SE_k0 hE cuB_1)) (by decide +kernel : am_Lm m_C_holds = 4) (Nat.le_of_ble_eq_true rfl) rfl (by decide +kernel),
  fun l0 l1 l2 a0  E u hE => q_cI (by decide +kernel : am_Pg 56 106 = some (.invokevirtual 122, 3, [3, 41, 2, 0, 14, 1], 0)) (am_call_V (a := [vI a0]) (st' := []) (Nat.le_of_ble_eq_true rfl) rfl (SE_k0 hE cuB_8)) (by decide +kernel : am_Lm m_C_holds = 4) (Nat.le_of_ble_eq_true rfl) rfl (by decide +kernel),
  fun l0 l1 l2 a0  E u hE => q_cI (by decide +kernel : am_Pg 56 106 = some (.invokevirtual 122, 3, [3, 41, 2, 0, 14, 1], 0)) (am_call_V (a := [vI a0]) (st' := []) (Nat.le_of_ble_eq_true rfl) rfl (SE_k0 hE cuB_73)) (by decide +kernel : am_Lm m_C_holds = 4) (Nat.le_of_ble_eq_true rfl) rfl (by decide +kernel),
  fun l0 l1 l2 a st E u => q_if_eq (tgt := 116) (by decide +kernel : am_Pg 56 109 = some (.ifCond .eq 7, 3, [], 0)) (by decide),
  fun l0 l1 l2 st E u => q_go (by decide +kernel : am_Pg 56 112 = some (.iconst 1, 1, [], 0)) rfl,
  fun l0 l1 l2 st E u => q_go (by decide +kernel : am_Pg 56 113 = some (.goto 4, 3, [], 0)) rfl,
  fun l0 l1 l2 st E u => q_go (by decide +kernel : am_Pg 56 116 = some (.iconst 0, 1, [], 0)) rfl,
  fun l0 l1 l2 a E u => q_ret (by decide +kernel : am_Pg 56 117 = some (.ireturn, 1, [], 0)) rfl,
  fun l0 l1 l2 st E u => q_go (by decide +kernel : am_Pg 56 118 = some (.iconst (-1), 1, [], 0)) rfl,
  fun l0 l1 l2 a E u => q_ret (by decide +kernel : am_Pg 56 119 = some (.ireturn, 1, [], 0)) rfl⟩
theorem x_A_cell :
  (∀ (l1 : am_V) (a : Option Nat) (st : List am_V) (E : am_E) (u : am_M), Rn m_A_cell 0 [vR a, l1] st E u = Rn m_A_cell 1 [vR a, l1] (vR a :: st) E u) ∧
  (∀ (l0 l1 : am_V) (st : List am_V) (E : am_E) (u : am_M) (hE : SE E), Rn m_A_cell 1 [l0, l1] (vR (some 0) :: st) E u = Rn m_A_cell 4 [l0, l1] (vR (some 1) :: st) E u) ∧
  (∀ (l0 : am_V) (a : Int) (st : List am_V) (E : am_E) (u : am_M), Rn m_A_cell 4 [l0, vI a] st E u = Rn m_A_cell 5 [l0, vI a] (vI a :: st) E u) ∧
  (∀ (l0 l1 : am_V) (a0 : Int) (E : am_E) (u : am_M) (hE : SE E), Rn m_A_cell 5 [l0, l1] [vI a0, vR (some 1)] E u = bdI (Rn m_C_isCell 0 [vR (some 1), vI a0] [] E u) (KI m_A_cell 8 [l0, l1] [])) ∧
  (∀ (l0 l1 : am_V) (a0 : Int) (E : am_E) (u : am_M) (hE : SE E), Rn m_A_cell 5 [l0, l1] [vI a0, vR (some 8)] E u = bdI (Rn m_C_isCell 0 [vR (some 8), vI a0] [] E u) (KI m_A_cell 8 [l0, l1] [])) ∧
  (∀ (l0 l1 : am_V) (a0 : Int) (E : am_E) (u : am_M) (hE : SE E), Rn m_A_cell 5 [l0, l1] [vI a0, vR (some 73)] E u = bdI (Rn m_C_isCell 0 [vR (some 73), vI a0] [] E u) (KI m_A_cell 8 [l0, l1] [])) ∧
  (∀ (l0 l1 : am_V) (a : Int) (st : List am_V) (E : am_E) (u : am_M), Rn m_A_cell 8 [l0, l1] (vI a :: st) E u = if a = 0 then Rn m_A_cell 22 [l0, l1] st E u else Rn m_A_cell 11 [l0, l1] st E u) ∧
  (∀ (l1 : am_V) (a : Option Nat) (st : List am_V) (E : am_E) (u : am_M), Rn m_A_cell 11 [vR a, l1] st E u = Rn m_A_cell 12 [vR a, l1] (vR a :: st) E u) ∧
  (∀ (l0 l1 : am_V) (st : List am_V) (E : am_E) (u : am_M) (hE : SE E), Rn m_A_cell 12 [l0, l1] (vR (some 0) :: st) E u = Rn m_A_cell 15 [l0, l1] (vR (some 1) :: st) E u) ∧
  (∀ (l0 : am_V) (a : Int) (st : List am_V) (E : am_E) (u : am_M), Rn m_A_cell 15 [l0, vI a] st E u = Rn m_A_cell 16 [l0, vI a] (vI a :: st) E u) ∧
  (∀ (l0 l1 : am_V) (a0 : Int) (E : am_E) (u : am_M) (hE : SE E), Rn m_A_cell 16 [l0, l1] [vI a0, vR (some 1)] E u = bdI (Rn m_C_thingOn 0 [vR (some 1), vI a0] [] E u) (KI m_A_cell 19 [l0, l1] [])) ∧
  (∀ (l0 l1 : am_V) (a0 : Int) (E : am_E) (u : am_M) (hE : SE E), Rn m_A_cell 16 [l0, l1] [vI a0, vR (some 8)] E u = bdI (Rn m_C_thingOn 0 [vR (some 8), vI a0] [] E u) (KI m_A_cell 19 [l0, l1] [])) ∧
  (∀ (l0 l1 : am_V) (a0 : Int) (E : am_E) (u : am_M) (hE : SE E), Rn m_A_cell 16 [l0, l1] [vI a0, vR (some 73)] E u = bdI (Rn m_C_thingOn 0 [vR (some 73), vI a0] [] E u) (KI m_A_cell 19 [l0, l1] [])) ∧
  (∀ (l0 l1 : am_V) (st : List am_V) (E : am_E) (u : am_M), Rn m_A_cell 19 [l0, l1] st E u = Rn m_A_cell 23 [l0, l1] st E u) ∧
  (∀ (l0 l1 : am_V) (st : List am_V) (E : am_E) (u : am_M), Rn m_A_cell 22 [l0, l1] st E u = Rn m_A_cell 23 [l0, l1] (vI (-1) :: st) E u) ∧
  (∀ (l0 l1 : am_V) (a : Int) (E : am_E) (u : am_M), Rn m_A_cell 23 [l0, l1] [vI a] E u = some (some (vI a), E, u)) :=
  ⟨fun l1 a st E u => q_go (by decide +kernel : am_Pg 59 0 = some (.aload_n 0, 1, [], 0)) rfl,
  fun l0 l1 st E u hE => q_gfR (by decide +kernel : am_Pg 59 1 = some (.getfield 12, 3, [4, 8, 0, 0], 0)) (SE_k4 hE) rfl (SE_r4_0 hE),
  fun l0 a st E u => q_go (by decide +kernel : am_Pg 59 4 = some (.iload_n 1, 1, [], 0)) rfl,
  fun l0 l1 a0  E u hE => q_cI (by decide +kernel : am_Pg 59 5 = some (.invokevirtual 61, 3, [3, 16, 2, 0, 14, 1], 0)) (am_call_V (a := [vI a0]) (st' := []) (Nat.le_of_ble_eq_true rfl) rfl (SE_k0 hE cuB_1)) (by decide +kernel : am_Lm m_C_isCell = 2) (Nat.le_of_ble_eq_true rfl) rfl (by decide +kernel),
  fun l0 l1 a0  E u hE => q_cI (by decide +kernel : am_Pg 59 5 = some (.invokevirtual 61, 3, [3, 16, 2, 0, 14, 1], 0)) (am_call_V (a := [vI a0]) (st' := []) (Nat.le_of_ble_eq_true rfl) rfl (SE_k0 hE cuB_8)) (by decide +kernel : am_Lm m_C_isCell = 2) (Nat.le_of_ble_eq_true rfl) rfl (by decide +kernel),
  fun l0 l1 a0  E u hE => q_cI (by decide +kernel : am_Pg 59 5 = some (.invokevirtual 61, 3, [3, 16, 2, 0, 14, 1], 0)) (am_call_V (a := [vI a0]) (st' := []) (Nat.le_of_ble_eq_true rfl) rfl (SE_k0 hE cuB_73)) (by decide +kernel : am_Lm m_C_isCell = 2) (Nat.le_of_ble_eq_true rfl) rfl (by decide +kernel),
  fun l0 l1 a st E u => q_if_eq (tgt := 22) (by decide +kernel : am_Pg 59 8 = some (.ifCond .eq 14, 3, [], 0)) (by decide),
  fun l1 a st E u => q_go (by decide +kernel : am_Pg 59 11 = some (.aload_n 0, 1, [], 0)) rfl,
  fun l0 l1 st E u hE => q_gfR (by decide +kernel : am_Pg 59 12 = some (.getfield 12, 3, [4, 8, 0, 0], 0)) (SE_k4 hE) rfl (SE_r4_0 hE),
  fun l0 a st E u => q_go (by decide +kernel : am_Pg 59 15 = some (.iload_n 1, 1, [], 0)) rfl,
  fun l0 l1 a0  E u hE => q_cI (by decide +kernel : am_Pg 59 16 = some (.invokevirtual 65, 3, [3, 18, 2, 0, 14, 1], 0)) (am_call_V (a := [vI a0]) (st' := []) (Nat.le_of_ble_eq_true rfl) rfl (SE_k0 hE cuB_1)) (by decide +kernel : am_Lm m_C_thingOn = 2) (Nat.le_of_ble_eq_true rfl) rfl (by decide +kernel),
  fun l0 l1 a0  E u hE => q_cI (by decide +kernel : am_Pg 59 16 = some (.invokevirtual 65, 3, [3, 18, 2, 0, 14, 1], 0)) (am_call_V (a := [vI a0]) (st' := []) (Nat.le_of_ble_eq_true rfl) rfl (SE_k0 hE cuB_8)) (by decide +kernel : am_Lm m_C_thingOn = 2) (Nat.le_of_ble_eq_true rfl) rfl (by decide +kernel),
  fun l0 l1 a0  E u hE => q_cI (by decide +kernel : am_Pg 59 16 = some (.invokevirtual 65, 3, [3, 18, 2, 0, 14, 1], 0)) (am_call_V (a := [vI a0]) (st' := []) (Nat.le_of_ble_eq_true rfl) rfl (SE_k0 hE cuB_73)) (by decide +kernel : am_Lm m_C_thingOn = 2) (Nat.le_of_ble_eq_true rfl) rfl (by decide +kernel),
  fun l0 l1 st E u => q_go (by decide +kernel : am_Pg 59 19 = some (.goto 4, 3, [], 0)) rfl,
  fun l0 l1 st E u => q_go (by decide +kernel : am_Pg 59 22 = some (.iconst (-1), 1, [], 0)) rfl,
  fun l0 l1 a E u => q_ret (by decide +kernel : am_Pg 59 23 = some (.ireturn, 1, [], 0)) rfl⟩
theorem x_A_type :
  (∀ (l0 : am_V) (a : Int) (st : List am_V) (E : am_E) (u : am_M), Rn m_A_type 0 [l0, vI a] st E u = Rn m_A_type 1 [l0, vI a] (vI a :: st) E u) ∧
  (∀ (l0 l1 : am_V) (st : List am_V) (E : am_E) (u : am_M), Rn m_A_type 1 [l0, l1] st E u = Rn m_A_type 3 [l0, l1] (vI 32 :: st) E u) ∧
  (∀ (l0 l1 : am_V) (st : List am_V) (E : am_E) (u : am_M), Rn m_A_type 3 [l0, l1] st E u = Rn m_A_type 5 [l0, l1] (vI 126 :: st) E u) ∧
  (∀ (l0 l1 : am_V) (a0 : Int) (a1 : Int) (a2 : Int) (E : am_E) (u : am_M), Rn m_A_type 5 [l0, l1] [vI a2, vI a1, vI a0] E u = bdI (Rn m_A_isIn 0 [vI a0, vI a1, vI a2] [] E u) (KI m_A_type 8 [l0, l1] [])) ∧
  (∀ (l0 l1 : am_V) (a : Int) (st : List am_V) (E : am_E) (u : am_M), Rn m_A_type 8 [l0, l1] (vI a :: st) E u = if a = 0 then Rn m_A_type 11 [l0, l1] st E u else Rn m_A_type 13 [l0, l1] st E u) ∧
  (∀ (l0 l1 : am_V) (st : List am_V) (E : am_E) (u : am_M), Rn m_A_type 11 [l0, l1] st E u = Rn m_A_type 12 [l0, l1] (vI (-1) :: st) E u) ∧
  (∀ (l0 l1 : am_V) (a : Int) (E : am_E) (u : am_M), Rn m_A_type 12 [l0, l1] [vI a] E u = some (some (vI a), E, u)) ∧
  (∀ (l1 : am_V) (a : Option Nat) (st : List am_V) (E : am_E) (u : am_M), Rn m_A_type 13 [vR a, l1] st E u = Rn m_A_type 14 [vR a, l1] (vR a :: st) E u) ∧
  (∀ (l0 l1 : am_V) (st : List am_V) (E : am_E) (u : am_M) (hE : SE E), Rn m_A_type 14 [l0, l1] (vR (some 0) :: st) E u = Rn m_A_type 17 [l0, l1] (vR (some 138) :: st) E u) ∧
  (∀ (l0 : am_V) (a : Int) (st : List am_V) (E : am_E) (u : am_M), Rn m_A_type 17 [l0, vI a] st E u = Rn m_A_type 18 [l0, vI a] (vI a :: st) E u) ∧
  (∀ (l0 l1 : am_V) (a0 : Int) (E : am_E) (u : am_M) (hE : SE E), Rn m_A_type 18 [l0, l1] [vI a0, vR (some 138)] E u = bdI (Rn m_T_takesOn 0 [vR (some 138), vI a0] [] E u) (KI m_A_type 21 [l0, l1] [])) ∧
  (∀ (l0 l1 : am_V) (a : Int) (st : List am_V) (E : am_E) (u : am_M), Rn m_A_type 21 [l0, l1] (vI a :: st) E u = if a = 0 then Rn m_A_type 34 [l0, l1] st E u else Rn m_A_type 24 [l0, l1] st E u) ∧
  (∀ (l1 : am_V) (a : Option Nat) (st : List am_V) (E : am_E) (u : am_M), Rn m_A_type 24 [vR a, l1] st E u = Rn m_A_type 25 [vR a, l1] (vR a :: st) E u) ∧
  (∀ (l0 l1 : am_V) (st : List am_V) (E : am_E) (u : am_M) (hE : SE E), Rn m_A_type 25 [l0, l1] (vR (some 0) :: st) E u = Rn m_A_type 28 [l0, l1] (vR (some 138) :: st) E u) ∧
  (∀ (l0 l1 : am_V) (st : List am_V) (E : am_E) (u : am_M) (hE : SE E), Rn m_A_type 28 [l0, l1] (vR (some 138) :: st) E u = Rn m_A_type 31 [l0, l1] (vI (u 138 1) :: st) E u) ∧
  (∀ (l0 l1 : am_V) (st : List am_V) (E : am_E) (u : am_M), Rn m_A_type 31 [l0, l1] st E u = Rn m_A_type 36 [l0, l1] st E u) ∧
  (∀ (l0 l1 : am_V) (st : List am_V) (E : am_E) (u : am_M), Rn m_A_type 34 [l0, l1] st E u = Rn m_A_type 36 [l0, l1] (vI (-3) :: st) E u) ∧
  (∀ (l0 l1 : am_V) (a : Int) (E : am_E) (u : am_M), Rn m_A_type 36 [l0, l1] [vI a] E u = some (some (vI a), E, u)) :=
  ⟨fun l0 a st E u => q_go (by decide +kernel : am_Pg 62 0 = some (.iload_n 1, 1, [], 0)) rfl,
  fun l0 l1 st E u => q_go (by decide +kernel : am_Pg 62 1 = some (.bipush 32, 2, [], 0)) rfl,
  fun l0 l1 st E u => q_go (by decide +kernel : am_Pg 62 3 = some (.bipush 126, 2, [], 0)) rfl,
  fun l0 l1 a0 a1 a2  E u => q_cI (by decide +kernel : am_Pg 62 5 = some (.invokestatic 46, 3, [2, 8, 3, 0], 0)) (am_call_S (f := fun _ _ => true) (a := [vI a0, vI a1, vI a2]) (st' := []) (Nat.le_of_ble_eq_true rfl) rfl rfl) (by decide +kernel : am_Lm m_A_isIn = 3) (Nat.le_of_ble_eq_true rfl) rfl (by decide +kernel),
  fun l0 l1 a st E u => q_if_ne (tgt := 13) (by decide +kernel : am_Pg 62 8 = some (.ifCond .ne 5, 3, [], 0)) (by decide),
  fun l0 l1 st E u => q_go (by decide +kernel : am_Pg 62 11 = some (.iconst (-1), 1, [], 0)) rfl,
  fun l0 l1 a E u => q_ret (by decide +kernel : am_Pg 62 12 = some (.ireturn, 1, [], 0)) rfl,
  fun l1 a st E u => q_go (by decide +kernel : am_Pg 62 13 = some (.aload_n 0, 1, [], 0)) rfl,
  fun l0 l1 st E u hE => q_gfR (by decide +kernel : am_Pg 62 14 = some (.getfield 35, 3, [4, 8, 5, 0], 0)) (SE_k4 hE) rfl (SE_r4_5 hE),
  fun l0 a st E u => q_go (by decide +kernel : am_Pg 62 17 = some (.iload_n 1, 1, [], 0)) rfl,
  fun l0 l1 a0  E u hE => q_cI (by decide +kernel : am_Pg 62 18 = some (.invokevirtual 125, 3, [3, 61, 2, 3, 3, 1], 0)) (am_call_V (a := [vI a0]) (st' := []) (Nat.le_of_ble_eq_true rfl) rfl (SE_k3 hE)) (by decide +kernel : am_Lm m_T_takesOn = 2) (Nat.le_of_ble_eq_true rfl) rfl (by decide +kernel),
  fun l0 l1 a st E u => q_if_eq (tgt := 34) (by decide +kernel : am_Pg 62 21 = some (.ifCond .eq 13, 3, [], 0)) (by decide),
  fun l1 a st E u => q_go (by decide +kernel : am_Pg 62 24 = some (.aload_n 0, 1, [], 0)) rfl,
  fun l0 l1 st E u hE => q_gfR (by decide +kernel : am_Pg 62 25 = some (.getfield 35, 3, [4, 8, 5, 0], 0)) (SE_k4 hE) rfl (SE_r4_5 hE),
  fun l0 l1 st E u hE => q_gfI (by decide +kernel : am_Pg 62 28 = some (.getfield 128, 3, [3, 3, 1, 1], 0)) (SE_k3 hE) (by decide),
  fun l0 l1 st E u => q_go (by decide +kernel : am_Pg 62 31 = some (.goto 5, 3, [], 0)) rfl,
  fun l0 l1 st E u => q_go (by decide +kernel : am_Pg 62 34 = some (.bipush (-3), 2, [], 0)) rfl,
  fun l0 l1 a E u => q_ret (by decide +kernel : am_Pg 62 36 = some (.ireturn, 1, [], 0)) rfl⟩
theorem x_A_layAll :
  (∀ (l1 : am_V) (a : Option Nat) (st : List am_V) (E : am_E) (u : am_M), Rn m_A_layAll 0 [vR a, l1] st E u = Rn m_A_layAll 1 [vR a, l1] (vR a :: st) E u) ∧
  (∀ (l0 l1 : am_V) (st : List am_V) (E : am_E) (u : am_M), Rn m_A_layAll 1 [l0, l1] (vR none :: st) E u = Rn m_A_layAll 22 [l0, l1] st E u) ∧
  (∀ (l0 l1 : am_V) (a : Nat) (st : List am_V) (E : am_E) (u : am_M), Rn m_A_layAll 1 [l0, l1] (vR (some a) :: st) E u = Rn m_A_layAll 4 [l0, l1] st E u) ∧
  (∀ (l0 : am_V) (a : Option Nat) (st : List am_V) (E : am_E) (u : am_M), Rn m_A_layAll 4 [l0, vR a] st E u = Rn m_A_layAll 5 [l0, vR a] (vR a :: st) E u) ∧
  (∀ (l0 l1 : am_V) (st : List am_V) (E : am_E) (u : am_M), Rn m_A_layAll 5 [l0, l1] (vR none :: st) E u = Rn m_A_layAll 22 [l0, l1] st E u) ∧
  (∀ (l0 l1 : am_V) (a : Nat) (st : List am_V) (E : am_E) (u : am_M), Rn m_A_layAll 5 [l0, l1] (vR (some a) :: st) E u = Rn m_A_layAll 8 [l0, l1] st E u) ∧
  (∀ (l1 : am_V) (a : Option Nat) (st : List am_V) (E : am_E) (u : am_M), Rn m_A_layAll 8 [vR a, l1] st E u = Rn m_A_layAll 9 [vR a, l1] (vR a :: st) E u) ∧
  (∀ (l0 l1 : am_V) (st : List am_V) (E : am_E) (u : am_M), Rn m_A_layAll 9 [l0, l1] st E u = Rn m_A_layAll 10 [l0, l1] (vI 0 :: st) E u) ∧
  (∀ (l0 : am_V) (a : Option Nat) (st : List am_V) (E : am_E) (u : am_M), Rn m_A_layAll 10 [l0, vR a] st E u = Rn m_A_layAll 11 [l0, vR a] (vR a :: st) E u) ∧
  (∀ (l0 l1 : am_V) (st : List am_V) (E : am_E) (u : am_M), Rn m_A_layAll 11 [l0, l1] st E u = Rn m_A_layAll 12 [l0, l1] (vI 0 :: st) E u) ∧
  (∀ (l1 : am_V) (a : Option Nat) (st : List am_V) (E : am_E) (u : am_M), Rn m_A_layAll 12 [vR a, l1] st E u = Rn m_A_layAll 13 [vR a, l1] (vR a :: st) E u) ∧
  (∀ (l0 l1 : am_V) (k : Nat) (st : List am_V) (E : am_E) (u : am_M) (hk : am_kn E k = 10), Rn m_A_layAll 13 [l0, l1] (vR (some k) :: st) E u = Rn m_A_layAll 14 [l0, l1] (vI (am_len 10 E k) :: st) E u) ∧
  (∀ (l0 : am_V) (a : Option Nat) (st : List am_V) (E : am_E) (u : am_M), Rn m_A_layAll 14 [l0, vR a] st E u = Rn m_A_layAll 15 [l0, vR a] (vR a :: st) E u) ∧
  (∀ (l0 l1 : am_V) (k : Nat) (st : List am_V) (E : am_E) (u : am_M) (hk : am_kn E k = 10), Rn m_A_layAll 15 [l0, l1] (vR (some k) :: st) E u = Rn m_A_layAll 16 [l0, l1] (vI (am_len 10 E k) :: st) E u) ∧
  (∀ (l0 l1 : am_V) (a b : Int) (r0 r1 r2 r3 : am_V) (E : am_E) (u : am_M), Rn m_A_layAll 16 [l0, l1] [vI b, vI a, r0, r1, r2, r3] E u = Rn m_A_layAll 19 [l0, l1] [vI (if b < a then b else a), r0, r1, r2, r3] E u) ∧
  (∀ (l0 l1 : am_V) (a b : Nat) (i j n : Int) (E : am_E) (u : am_M) (hn : 0 ≤ n) (hi : 0 ≤ i) (hj : 0 ≤ j) (ha : am_kn E a = 10) (hb : am_kn E b = 10) (h1 : i + n ≤ am_len 10 E a) (h2 : j + n ≤ am_len 10 E b), Rn m_A_layAll 19 [l0, l1] [vI n, vI j, vR (some b), vI i, vR (some a)] E u = Rn m_A_layAll 22 [l0, l1] [] E (am_cp u a i.toNat b j.toNat n.toNat)) ∧
  (∀ (l0 l1 : am_V) (E : am_E) (u : am_M), Rn m_A_layAll 22 [l0, l1] [] E u = some (none, E, u)) :=
  ⟨fun l1 a st E u => q_go (by decide +kernel : am_Pg 77 0 = some (.aload_n 0, 1, [], 0)) rfl,
  fun l0 l1 st E u => q_go (by decide +kernel : am_Pg 77 1 = some (.ifnull 21, 3, [], 0)) rfl,
  fun l0 l1 a st E u => q_go (by decide +kernel : am_Pg 77 1 = some (.ifnull 21, 3, [], 0)) rfl,
  fun l0 a st E u => q_go (by decide +kernel : am_Pg 77 4 = some (.aload_n 1, 1, [], 0)) rfl,
  fun l0 l1 st E u => q_go (by decide +kernel : am_Pg 77 5 = some (.ifnull 17, 3, [], 0)) rfl,
  fun l0 l1 a st E u => q_go (by decide +kernel : am_Pg 77 5 = some (.ifnull 17, 3, [], 0)) rfl,
  fun l1 a st E u => q_go (by decide +kernel : am_Pg 77 8 = some (.aload_n 0, 1, [], 0)) rfl,
  fun l0 l1 st E u => q_go (by decide +kernel : am_Pg 77 9 = some (.iconst 0, 1, [], 0)) rfl,
  fun l0 a st E u => q_go (by decide +kernel : am_Pg 77 10 = some (.aload_n 1, 1, [], 0)) rfl,
  fun l0 l1 st E u => q_go (by decide +kernel : am_Pg 77 11 = some (.iconst 0, 1, [], 0)) rfl,
  fun l1 a st E u => q_go (by decide +kernel : am_Pg 77 12 = some (.aload_n 0, 1, [], 0)) rfl,
  fun l0 l1 k st E u hk => q_alI (by decide +kernel : am_Pg 77 13 = some (.arraylength, 1, [], 0)) hk (by decide) (by decide),
  fun l0 a st E u => q_go (by decide +kernel : am_Pg 77 14 = some (.aload_n 1, 1, [], 0)) rfl,
  fun l0 l1 k st E u hk => q_alI (by decide +kernel : am_Pg 77 15 = some (.arraylength, 1, [], 0)) hk (by decide) (by decide),
  fun l0 l1 a b r0 r1 r2 r3 E u => q_go (by decide +kernel : am_Pg 77 16 = some (.invokestatic 297, 3, [5], 0)) rfl,
  fun l0 l1 a b i j n  E u hn hi hj ha hb h1 h2 => q_acp (by decide) (by decide +kernel : am_Pg 77 19 = some (.invokestatic 302, 3, [1], 0)) hn hi hj ha hb h1 h2 (Nat.le_of_ble_eq_true rfl),
  fun l0 l1 E u => q_ret (by decide +kernel : am_Pg 77 22 = some (.return_, 1, [], 0)) rfl⟩
theorem x_A_read :
  (∀ (l1 l2 : am_V) (a : Option Nat) (st : List am_V) (E : am_E) (u : am_M), Rn m_A_read 0 [vR a, l1, l2] st E u = Rn m_A_read 1 [vR a, l1, l2] (vR a :: st) E u) ∧
  (∀ (l0 l1 l2 : am_V) (st : List am_V) (E : am_E) (u : am_M) (hE : SE E), Rn m_A_read 1 [l0, l1, l2] (vR (some 0) :: st) E u = Rn m_A_read 4 [l0, l1, l2] (vR (some 138) :: st) E u) ∧
  (∀ (l1 l2 : am_V) (a : Option Nat) (st : List am_V) (E : am_E) (u : am_M), Rn m_A_read 4 [vR a, l1, l2] st E u = Rn m_A_read 5 [vR a, l1, l2] (vR a :: st) E u) ∧
  (∀ (l0 l1 l2 : am_V) (st : List am_V) (E : am_E) (u : am_M) (hE : SE E), Rn m_A_read 5 [l0, l1, l2] (vR (some 0) :: st) E u = Rn m_A_read 8 [l0, l1, l2] (vR (some 8) :: st) E u) ∧
  (∀ (l0 l1 l2 : am_V) (a0 : Option Nat) (E : am_E) (u : am_M) (hE : SE E), Rn m_A_read 8 [l0, l1, l2] [vR a0, vR (some 138)] E u = bdI (Rn m_T_tells 0 [vR (some 138), vR a0, vB false, vB false, vB false] [] E u) (KI m_A_read 11 [l0, l1, l2] [])) ∧
  (∀ (l0 l1 l2 : am_V) (a : Int) (st : List am_V) (E : am_E) (u : am_M), Rn m_A_read 11 [l0, l1, l2] (vI a :: st) E u = Rn m_A_read 12 [am_fx l0, vI a, l2] st E u) ∧
  (∀ (l0 l1 l2 : am_V) (st : List am_V) (E : am_E) (u : am_M), Rn m_A_read 12 [l0, l1, l2] st E u = Rn m_A_read 14 [l0, l1, l2] (vI (-20) :: st) E u) ∧
  (∀ (l1 l2 : am_V) (a : Option Nat) (st : List am_V) (E : am_E) (u : am_M), Rn m_A_read 14 [vR a, l1, l2] st E u = Rn m_A_read 15 [vR a, l1, l2] (vR a :: st) E u) ∧
  (∀ (l0 l1 l2 : am_V) (st : List am_V) (E : am_E) (u : am_M) (hE : SE E), Rn m_A_read 15 [l0, l1, l2] (vR (some 0) :: st) E u = Rn m_A_read 18 [l0, l1, l2] (vR (some 138) :: st) E u) ∧
  (∀ (l0 l1 l2 : am_V) (st : List am_V) (E : am_E) (u : am_M) (hE : SE E), Rn m_A_read 18 [l0, l1, l2] (vR (some 138) :: st) E u = Rn m_A_read 21 [l0, l1, l2] (vI (u 138 2) :: st) E u) ∧
  (∀ (l0 l1 l2 : am_V) (a b : Int) (st : List am_V) (E : am_E) (u : am_M), Rn m_A_read 21 [l0, l1, l2] (vI b :: vI a :: st) E u = Rn m_A_read 22 [l0, l1, l2] (vI (w32 (a - b)) :: st) E u) ∧
  (∀ (l0 l1 l2 : am_V) (a : Int) (st : List am_V) (E : am_E) (u : am_M), Rn m_A_read 22 [l0, l1, l2] (vI a :: st) E u = Rn m_A_read 23 [l0, am_fx l1, vI a] st E u) ∧
  (∀ (l1 l2 : am_V) (a : Option Nat) (st : List am_V) (E : am_E) (u : am_M), Rn m_A_read 23 [vR a, l1, l2] st E u = Rn m_A_read 24 [vR a, l1, l2] (vR a :: st) E u) ∧
  (∀ (l0 l1 l2 : am_V) (st : List am_V) (E : am_E) (u : am_M) (hE : SE E), Rn m_A_read 24 [l0, l1, l2] (vR (some 0) :: st) E u = Rn m_A_read 27 [l0, l1, l2] (vR (some 138) :: st) E u) ∧
  (∀ (l0 l1 l2 : am_V) (st : List am_V) (E : am_E) (u : am_M), Rn m_A_read 27 [l0, l1, l2] st E u = Rn m_A_read 28 [l0, l1, l2] (vI 0 :: st) E u) ∧
  (∀ (l0 l1 l2 : am_V) (a : Int) (st : List am_V) (E : am_E) (u : am_M) (hE : SE E), Rn m_A_read 28 [l0, l1, l2] (vI a :: vR (some 138) :: st) E u = Rn m_A_read 31 [l0, l1, l2] st E (am_up u 138 1 a)) ∧
  (∀ (l0 l2 : am_V) (a : Int) (st : List am_V) (E : am_E) (u : am_M), Rn m_A_read 31 [l0, vI a, l2] st E u = Rn m_A_read 32 [l0, vI a, l2] (vI a :: st) E u) ∧
  (∀ (l0 l1 l2 : am_V) (a : Int) (st : List am_V) (E : am_E) (u : am_M), Rn m_A_read 32 [l0, l1, l2] (vI a :: st) E u = if a = 0 then Rn m_A_read 35 [l0, l1, l2] st E u else Rn m_A_read 37 [l0, l1, l2] st E u) ∧
  (∀ (l0 l1 : am_V) (a : Int) (st : List am_V) (E : am_E) (u : am_M), Rn m_A_read 35 [l0, l1, vI a] st E u = Rn m_A_read 36 [l0, l1, vI a] (vI a :: st) E u) ∧
  (∀ (l0 l1 l2 : am_V) (a : Int) (E : am_E) (u : am_M), Rn m_A_read 36 [l0, l1, l2] [vI a] E u = some (some (vI a), E, u)) ∧
  (∀ (l1 l2 : am_V) (a : Option Nat) (st : List am_V) (E : am_E) (u : am_M), Rn m_A_read 37 [vR a, l1, l2] st E u = Rn m_A_read 38 [vR a, l1, l2] (vR a :: st) E u) ∧
  (∀ (l0 l1 l2 : am_V) (st : List am_V) (E : am_E) (u : am_M) (hE : SE E), Rn m_A_read 38 [l0, l1, l2] (vR (some 0) :: st) E u = Rn m_A_read 41 [l0, l1, l2] (vR (some 8) :: st) E u) ∧
  (∀ (l1 l2 : am_V) (a : Option Nat) (st : List am_V) (E : am_E) (u : am_M), Rn m_A_read 41 [vR a, l1, l2] st E u = Rn m_A_read 42 [vR a, l1, l2] (vR a :: st) E u) ∧
  (∀ (l0 l1 l2 : am_V) (st : List am_V) (E : am_E) (u : am_M) (hE : SE E), Rn m_A_read 42 [l0, l1, l2] (vR (some 0) :: st) E u = Rn m_A_read 45 [l0, l1, l2] (vR (some 1) :: st) E u) ∧
  (∀ (l0 l1 l2 : am_V) (st : List am_V) (E : am_E) (u : am_M) (hE : SE E), Rn m_A_read 45 [l0, l1, l2] (vR (some 1) :: st) E u = Rn m_A_read 48 [l0, l1, l2] (vI (u 1 5) :: st) E u) ∧
  (∀ (l0 l1 l2 : am_V) (st : List am_V) (E : am_E) (u : am_M) (hE : SE E), Rn m_A_read 45 [l0, l1, l2] (vR (some 8) :: st) E u = Rn m_A_read 48 [l0, l1, l2] (vI (u 8 5) :: st) E u) ∧
  (∀ (l0 l1 l2 : am_V) (st : List am_V) (E : am_E) (u : am_M) (hE : SE E), Rn m_A_read 45 [l0, l1, l2] (vR (some 73) :: st) E u = Rn m_A_read 48 [l0, l1, l2] (vI (u 73 5) :: st) E u) ∧
  (∀ (l0 l1 l2 : am_V) (a : Int) (st : List am_V) (E : am_E) (u : am_M) (hE : SE E), Rn m_A_read 48 [l0, l1, l2] (vI a :: vR (some 1) :: st) E u = Rn m_A_read 51 [l0, l1, l2] st E (am_up u 1 5 a)) ∧
  (∀ (l0 l1 l2 : am_V) (a : Int) (st : List am_V) (E : am_E) (u : am_M) (hE : SE E), Rn m_A_read 48 [l0, l1, l2] (vI a :: vR (some 8) :: st) E u = Rn m_A_read 51 [l0, l1, l2] st E (am_up u 8 5 a)) ∧
  (∀ (l0 l1 l2 : am_V) (a : Int) (st : List am_V) (E : am_E) (u : am_M) (hE : SE E), Rn m_A_read 48 [l0, l1, l2] (vI a :: vR (some 73) :: st) E u = Rn m_A_read 51 [l0, l1, l2] st E (am_up u 73 5 a)) ∧
  (∀ (l1 l2 : am_V) (a : Option Nat) (st : List am_V) (E : am_E) (u : am_M), Rn m_A_read 51 [vR a, l1, l2] st E u = Rn m_A_read 52 [vR a, l1, l2] (vR a :: st) E u) ∧
  (∀ (l0 l1 l2 : am_V) (st : List am_V) (E : am_E) (u : am_M) (hE : SE E), Rn m_A_read 52 [l0, l1, l2] (vR (some 0) :: st) E u = Rn m_A_read 55 [l0, l1, l2] (vR (some 1) :: st) E u) ∧
  (∀ (l1 l2 : am_V) (a : Option Nat) (st : List am_V) (E : am_E) (u : am_M), Rn m_A_read 55 [vR a, l1, l2] st E u = Rn m_A_read 56 [vR a, l1, l2] (vR a :: st) E u) ∧
  (∀ (l0 l1 l2 : am_V) (st : List am_V) (E : am_E) (u : am_M) (hE : SE E), Rn m_A_read 56 [l0, l1, l2] (vR (some 0) :: st) E u = Rn m_A_read 59 [l0, l1, l2] (vR (some 8) :: st) E u) ∧
  (∀ (l0 l1 l2 : am_V) (a0 : Option Nat) (E : am_E) (u : am_M) (hE : SE E), Rn m_A_read 59 [l0, l1, l2] [vR a0, vR (some 1)] E u = bdV (Rn m_C_becomes 0 [vR (some 1), vR a0] [] E u) (KV m_A_read 62 [l0, l1, l2] [])) ∧
  (∀ (l0 l1 l2 : am_V) (a0 : Option Nat) (E : am_E) (u : am_M) (hE : SE E), Rn m_A_read 59 [l0, l1, l2] [vR a0, vR (some 8)] E u = bdV (Rn m_C_becomes 0 [vR (some 8), vR a0] [] E u) (KV m_A_read 62 [l0, l1, l2] [])) ∧
  (∀ (l0 l1 l2 : am_V) (a0 : Option Nat) (E : am_E) (u : am_M) (hE : SE E), Rn m_A_read 59 [l0, l1, l2] [vR a0, vR (some 73)] E u = bdV (Rn m_C_becomes 0 [vR (some 73), vR a0] [] E u) (KV m_A_read 62 [l0, l1, l2] [])) ∧
  (∀ (l1 l2 : am_V) (a : Option Nat) (st : List am_V) (E : am_E) (u : am_M), Rn m_A_read 62 [vR a, l1, l2] st E u = Rn m_A_read 63 [vR a, l1, l2] (vR a :: st) E u) ∧
  (∀ (l0 l1 l2 : am_V) (st : List am_V) (E : am_E) (u : am_M) (hE : SE E), Rn m_A_read 63 [l0, l1, l2] (vR (some 0) :: st) E u = Rn m_A_read 66 [l0, l1, l2] (vR (some 15) :: st) E u) ∧
  (∀ (l0 l1 l2 : am_V) (E : am_E) (u : am_M) (hE : SE E), Rn m_A_read 66 [l0, l1, l2] [vR (some 15)] E u = bdV (Rn m_P_forgets 0 [vR (some 15)] [] E u) (KV m_A_read 69 [l0, l1, l2] [])) ∧
  (∀ (l0 l1 l2 : am_V) (E : am_E) (u : am_M) (hE : SE E), Rn m_A_read 66 [l0, l1, l2] [vR (some 80)] E u = bdV (Rn m_P_forgets 0 [vR (some 80)] [] E u) (KV m_A_read 69 [l0, l1, l2] [])) ∧
  (∀ (l1 l2 : am_V) (a : Option Nat) (st : List am_V) (E : am_E) (u : am_M), Rn m_A_read 69 [vR a, l1, l2] st E u = Rn m_A_read 70 [vR a, l1, l2] (vR a :: st) E u) ∧
  (∀ (l0 l1 l2 : am_V) (st : List am_V) (E : am_E) (u : am_M) (hE : SE E), Rn m_A_read 70 [l0, l1, l2] (vR (some 0) :: st) E u = Rn m_A_read 73 [l0, l1, l2] (vR (some 1) :: st) E u) ∧
  (∀ (l0 l1 l2 : am_V) (st : List am_V) (E : am_E) (u : am_M) (hE : SE E), Rn m_A_read 73 [l0, l1, l2] (vR (some 1) :: st) E u = Rn m_A_read 76 [l0, l1, l2] (vI (u 1 2) :: st) E u) ∧
  (∀ (l0 l1 l2 : am_V) (st : List am_V) (E : am_E) (u : am_M) (hE : SE E), Rn m_A_read 73 [l0, l1, l2] (vR (some 8) :: st) E u = Rn m_A_read 76 [l0, l1, l2] (vI (u 8 2) :: st) E u) ∧
  (∀ (l0 l1 l2 : am_V) (st : List am_V) (E : am_E) (u : am_M) (hE : SE E), Rn m_A_read 73 [l0, l1, l2] (vR (some 73) :: st) E u = Rn m_A_read 76 [l0, l1, l2] (vI (u 73 2) :: st) E u) ∧
  (∀ (l0 l1 l2 : am_V) (a : Int) (E : am_E) (u : am_M), Rn m_A_read 76 [l0, l1, l2] [vI a] E u = some (some (vI a), E, u)) :=
  ⟨fun l1 l2 a st E u => q_go (by decide +kernel : am_Pg 79 0 = some (.aload_n 0, 1, [], 0)) rfl,
  fun l0 l1 l2 st E u hE => q_gfR (by decide +kernel : am_Pg 79 1 = some (.getfield 35, 3, [4, 8, 5, 0], 0)) (SE_k4 hE) rfl (SE_r4_5 hE),
  fun l1 l2 a st E u => q_go (by decide +kernel : am_Pg 79 4 = some (.aload_n 0, 1, [], 0)) rfl,
  fun l0 l1 l2 st E u hE => q_gfR (by decide +kernel : am_Pg 79 5 = some (.getfield 16, 3, [4, 8, 1, 0], 0)) (SE_k4 hE) rfl (SE_r4_1 hE),
  fun l0 l1 l2 a0  E u hE => q_cI (by decide +kernel : am_Pg 79 8 = some (.invokevirtual 131, 3, [3, 76, 2, 3, 3, 1], 0)) (am_call_V (a := [vR a0]) (st' := []) (Nat.le_of_ble_eq_true rfl) rfl (SE_k3 hE)) (by decide +kernel : am_Lm m_T_tells = 5) (Nat.le_of_ble_eq_true rfl) rfl (by decide +kernel),
  fun l0 l1 l2 a st E u => q_go (by decide +kernel : am_Pg 79 11 = some (.istore_n 1, 1, [], 0)) rfl,
  fun l0 l1 l2 st E u => q_go (by decide +kernel : am_Pg 79 12 = some (.bipush (-20), 2, [], 0)) rfl,
  fun l1 l2 a st E u => q_go (by decide +kernel : am_Pg 79 14 = some (.aload_n 0, 1, [], 0)) rfl,
  fun l0 l1 l2 st E u hE => q_gfR (by decide +kernel : am_Pg 79 15 = some (.getfield 35, 3, [4, 8, 5, 0], 0)) (SE_k4 hE) rfl (SE_r4_5 hE),
  fun l0 l1 l2 st E u hE => q_gfI (by decide +kernel : am_Pg 79 18 = some (.getfield 135, 3, [3, 3, 2, 1], 0)) (SE_k3 hE) (by decide),
  fun l0 l1 l2 a b st E u => q_go (by decide +kernel : am_Pg 79 21 = some (.isub, 1, [], 0)) rfl,
  fun l0 l1 l2 a st E u => q_go (by decide +kernel : am_Pg 79 22 = some (.istore_n 2, 1, [], 0)) rfl,
  fun l1 l2 a st E u => q_go (by decide +kernel : am_Pg 79 23 = some (.aload_n 0, 1, [], 0)) rfl,
  fun l0 l1 l2 st E u hE => q_gfR (by decide +kernel : am_Pg 79 24 = some (.getfield 35, 3, [4, 8, 5, 0], 0)) (SE_k4 hE) rfl (SE_r4_5 hE),
  fun l0 l1 l2 st E u => q_go (by decide +kernel : am_Pg 79 27 = some (.iconst 0, 1, [], 0)) rfl,
  fun l0 l1 l2 a st E u hE => q_pfI (by decide +kernel : am_Pg 79 28 = some (.putfield 128, 3, [3, 3, 1, 1], 0)) (SE_k3 hE) rfl,
  fun l0 l2 a st E u => q_go (by decide +kernel : am_Pg 79 31 = some (.iload_n 1, 1, [], 0)) rfl,
  fun l0 l1 l2 a st E u => q_if_ne (tgt := 37) (by decide +kernel : am_Pg 79 32 = some (.ifCond .ne 5, 3, [], 0)) (by decide),
  fun l0 l1 a st E u => q_go (by decide +kernel : am_Pg 79 35 = some (.iload_n 2, 1, [], 0)) rfl,
  fun l0 l1 l2 a E u => q_ret (by decide +kernel : am_Pg 79 36 = some (.ireturn, 1, [], 0)) rfl,
  fun l1 l2 a st E u => q_go (by decide +kernel : am_Pg 79 37 = some (.aload_n 0, 1, [], 0)) rfl,
  fun l0 l1 l2 st E u hE => q_gfR (by decide +kernel : am_Pg 79 38 = some (.getfield 16, 3, [4, 8, 1, 0], 0)) (SE_k4 hE) rfl (SE_r4_1 hE),
  fun l1 l2 a st E u => q_go (by decide +kernel : am_Pg 79 41 = some (.aload_n 0, 1, [], 0)) rfl,
  fun l0 l1 l2 st E u hE => q_gfR (by decide +kernel : am_Pg 79 42 = some (.getfield 12, 3, [4, 8, 0, 0], 0)) (SE_k4 hE) rfl (SE_r4_0 hE),
  fun l0 l1 l2 st E u hE => q_gfI (by decide +kernel : am_Pg 79 45 = some (.getfield 138, 3, [0, 14, 5, 1], 0)) (SE_k0 hE cuB_1) (by decide),
  fun l0 l1 l2 st E u hE => q_gfI (by decide +kernel : am_Pg 79 45 = some (.getfield 138, 3, [0, 14, 5, 1], 0)) (SE_k0 hE cuB_8) (by decide),
  fun l0 l1 l2 st E u hE => q_gfI (by decide +kernel : am_Pg 79 45 = some (.getfield 138, 3, [0, 14, 5, 1], 0)) (SE_k0 hE cuB_73) (by decide),
  fun l0 l1 l2 a st E u hE => q_pfI (by decide +kernel : am_Pg 79 48 = some (.putfield 138, 3, [0, 14, 5, 1], 0)) (SE_k0 hE cuB_1) rfl,
  fun l0 l1 l2 a st E u hE => q_pfI (by decide +kernel : am_Pg 79 48 = some (.putfield 138, 3, [0, 14, 5, 1], 0)) (SE_k0 hE cuB_8) rfl,
  fun l0 l1 l2 a st E u hE => q_pfI (by decide +kernel : am_Pg 79 48 = some (.putfield 138, 3, [0, 14, 5, 1], 0)) (SE_k0 hE cuB_73) rfl,
  fun l1 l2 a st E u => q_go (by decide +kernel : am_Pg 79 51 = some (.aload_n 0, 1, [], 0)) rfl,
  fun l0 l1 l2 st E u hE => q_gfR (by decide +kernel : am_Pg 79 52 = some (.getfield 12, 3, [4, 8, 0, 0], 0)) (SE_k4 hE) rfl (SE_r4_0 hE),
  fun l1 l2 a st E u => q_go (by decide +kernel : am_Pg 79 55 = some (.aload_n 0, 1, [], 0)) rfl,
  fun l0 l1 l2 st E u hE => q_gfR (by decide +kernel : am_Pg 79 56 = some (.getfield 16, 3, [4, 8, 1, 0], 0)) (SE_k4 hE) rfl (SE_r4_1 hE),
  fun l0 l1 l2 a0  E u hE => q_cV (by decide +kernel : am_Pg 79 59 = some (.invokevirtual 141, 3, [3, 78, 2, 0, 14, 1], 0)) (am_call_V (a := [vR a0]) (st' := []) (Nat.le_of_ble_eq_true rfl) rfl (SE_k0 hE cuB_1)) (by decide +kernel : am_Lm m_C_becomes = 2) (Nat.le_of_ble_eq_true rfl) rfl (by decide +kernel),
  fun l0 l1 l2 a0  E u hE => q_cV (by decide +kernel : am_Pg 79 59 = some (.invokevirtual 141, 3, [3, 78, 2, 0, 14, 1], 0)) (am_call_V (a := [vR a0]) (st' := []) (Nat.le_of_ble_eq_true rfl) rfl (SE_k0 hE cuB_8)) (by decide +kernel : am_Lm m_C_becomes = 2) (Nat.le_of_ble_eq_true rfl) rfl (by decide +kernel),
  fun l0 l1 l2 a0  E u hE => q_cV (by decide +kernel : am_Pg 79 59 = some (.invokevirtual 141, 3, [3, 78, 2, 0, 14, 1], 0)) (am_call_V (a := [vR a0]) (st' := []) (Nat.le_of_ble_eq_true rfl) rfl (SE_k0 hE cuB_73)) (by decide +kernel : am_Lm m_C_becomes = 2) (Nat.le_of_ble_eq_true rfl) rfl (by decide +kernel),
  fun l1 l2 a st E u => q_go (by decide +kernel : am_Pg 79 62 = some (.aload_n 0, 1, [], 0)) rfl,
  fun l0 l1 l2 st E u hE => q_gfR (by decide +kernel : am_Pg 79 63 = some (.getfield 22, 3, [4, 8, 2, 0], 0)) (SE_k4 hE) rfl (SE_r4_2 hE),
  fun l0 l1 l2   E u hE => q_cV (by decide +kernel : am_Pg 79 66 = some (.invokevirtual 54, 3, [3, 10, 1, 1, 3, 1], 0)) (am_call_V (a := []) (st' := []) (Nat.le_of_ble_eq_true rfl) rfl (SE_k1 hE paB_15)) (by decide +kernel : am_Lm m_P_forgets = 1) (Nat.le_of_ble_eq_true rfl) rfl (by decide +kernel),
  fun l0 l1 l2   E u hE => q_cV (by decide +kernel : am_Pg 79 66 = some (.invokevirtual 54, 3, [3, 10, 1, 1, 3, 1], 0)) (am_call_V (a := []) (st' := []) (Nat.le_of_ble_eq_true rfl) rfl (SE_k1 hE paB_80)) (by decide +kernel : am_Lm m_P_forgets = 1) (Nat.le_of_ble_eq_true rfl) rfl (by decide +kernel),
  fun l1 l2 a st E u => q_go (by decide +kernel : am_Pg 79 69 = some (.aload_n 0, 1, [], 0)) rfl,
  fun l0 l1 l2 st E u hE => q_gfR (by decide +kernel : am_Pg 79 70 = some (.getfield 12, 3, [4, 8, 0, 0], 0)) (SE_k4 hE) rfl (SE_r4_0 hE),
  fun l0 l1 l2 st E u hE => q_gfI (by decide +kernel : am_Pg 79 73 = some (.getfield 69, 3, [0, 14, 2, 1], 0)) (SE_k0 hE cuB_1) (by decide),
  fun l0 l1 l2 st E u hE => q_gfI (by decide +kernel : am_Pg 79 73 = some (.getfield 69, 3, [0, 14, 2, 1], 0)) (SE_k0 hE cuB_8) (by decide),
  fun l0 l1 l2 st E u hE => q_gfI (by decide +kernel : am_Pg 79 73 = some (.getfield 69, 3, [0, 14, 2, 1], 0)) (SE_k0 hE cuB_73) (by decide),
  fun l0 l1 l2 a E u => q_ret (by decide +kernel : am_Pg 79 76 = some (.ireturn, 1, [], 0)) rfl⟩
theorem x_A_count :
  (∀ (l0 : am_V) (a : Int) (st : List am_V) (E : am_E) (u : am_M), Rn m_A_count 0 [l0, vI a] st E u = Rn m_A_count 1 [l0, vI a] (vI a :: st) E u) ∧
  (∀ (l0 l1 : am_V) (a : Int) (st : List am_V) (E : am_E) (u : am_M), Rn m_A_count 1 [l0, l1] (vI a :: st) E u = if a = 0 then Rn m_A_count 52 [l0, l1] st E u else if a = 1 then Rn m_A_count 60 [l0, l1] st E u else if a = 2 then Rn m_A_count 68 [l0, l1] st E u else if a = 3 then Rn m_A_count 76 [l0, l1] st E u else if a = 4 then Rn m_A_count 84 [l0, l1] st E u else if a = 5 then Rn m_A_count 92 [l0, l1] st E u else if a = 6 then Rn m_A_count 100 [l0, l1] st E u else if a = 7 then Rn m_A_count 108 [l0, l1] st E u else if a = 8 then Rn m_A_count 116 [l0, l1] st E u else Rn m_A_count 124 [l0, l1] st E u) ∧
  (∀ (l1 : am_V) (a : Option Nat) (st : List am_V) (E : am_E) (u : am_M), Rn m_A_count 52 [vR a, l1] st E u = Rn m_A_count 53 [vR a, l1] (vR a :: st) E u) ∧
  (∀ (l0 l1 : am_V) (st : List am_V) (E : am_E) (u : am_M) (hE : SE E), Rn m_A_count 53 [l0, l1] (vR (some 0) :: st) E u = Rn m_A_count 56 [l0, l1] (vR (some 1) :: st) E u) ∧
  (∀ (l0 l1 : am_V) (st : List am_V) (E : am_E) (u : am_M) (hE : SE E), Rn m_A_count 56 [l0, l1] (vR (some 1) :: st) E u = Rn m_A_count 59 [l0, l1] (vI (u 1 0) :: st) E u) ∧
  (∀ (l0 l1 : am_V) (st : List am_V) (E : am_E) (u : am_M) (hE : SE E), Rn m_A_count 56 [l0, l1] (vR (some 8) :: st) E u = Rn m_A_count 59 [l0, l1] (vI (u 8 0) :: st) E u) ∧
  (∀ (l0 l1 : am_V) (st : List am_V) (E : am_E) (u : am_M) (hE : SE E), Rn m_A_count 56 [l0, l1] (vR (some 73) :: st) E u = Rn m_A_count 59 [l0, l1] (vI (u 73 0) :: st) E u) ∧
  (∀ (l0 l1 : am_V) (a : Int) (E : am_E) (u : am_M), Rn m_A_count 59 [l0, l1] [vI a] E u = some (some (vI a), E, u)) ∧
  (∀ (l1 : am_V) (a : Option Nat) (st : List am_V) (E : am_E) (u : am_M), Rn m_A_count 60 [vR a, l1] st E u = Rn m_A_count 61 [vR a, l1] (vR a :: st) E u) ∧
  (∀ (l0 l1 : am_V) (st : List am_V) (E : am_E) (u : am_M) (hE : SE E), Rn m_A_count 61 [l0, l1] (vR (some 0) :: st) E u = Rn m_A_count 64 [l0, l1] (vR (some 1) :: st) E u) ∧
  (∀ (l0 l1 : am_V) (st : List am_V) (E : am_E) (u : am_M) (hE : SE E), Rn m_A_count 64 [l0, l1] (vR (some 1) :: st) E u = Rn m_A_count 67 [l0, l1] (vI (u 1 1) :: st) E u) ∧
  (∀ (l0 l1 : am_V) (st : List am_V) (E : am_E) (u : am_M) (hE : SE E), Rn m_A_count 64 [l0, l1] (vR (some 8) :: st) E u = Rn m_A_count 67 [l0, l1] (vI (u 8 1) :: st) E u) ∧
  (∀ (l0 l1 : am_V) (st : List am_V) (E : am_E) (u : am_M) (hE : SE E), Rn m_A_count 64 [l0, l1] (vR (some 73) :: st) E u = Rn m_A_count 67 [l0, l1] (vI (u 73 1) :: st) E u) ∧
  (∀ (l0 l1 : am_V) (a : Int) (E : am_E) (u : am_M), Rn m_A_count 67 [l0, l1] [vI a] E u = some (some (vI a), E, u)) ∧
  (∀ (l1 : am_V) (a : Option Nat) (st : List am_V) (E : am_E) (u : am_M), Rn m_A_count 68 [vR a, l1] st E u = Rn m_A_count 69 [vR a, l1] (vR a :: st) E u) ∧
  (∀ (l0 l1 : am_V) (st : List am_V) (E : am_E) (u : am_M) (hE : SE E), Rn m_A_count 69 [l0, l1] (vR (some 0) :: st) E u = Rn m_A_count 72 [l0, l1] (vR (some 1) :: st) E u) ∧
  (∀ (l0 l1 : am_V) (st : List am_V) (E : am_E) (u : am_M) (hE : SE E), Rn m_A_count 72 [l0, l1] (vR (some 1) :: st) E u = Rn m_A_count 75 [l0, l1] (vI (u 1 2) :: st) E u) ∧
  (∀ (l0 l1 : am_V) (st : List am_V) (E : am_E) (u : am_M) (hE : SE E), Rn m_A_count 72 [l0, l1] (vR (some 8) :: st) E u = Rn m_A_count 75 [l0, l1] (vI (u 8 2) :: st) E u) ∧
  (∀ (l0 l1 : am_V) (st : List am_V) (E : am_E) (u : am_M) (hE : SE E), Rn m_A_count 72 [l0, l1] (vR (some 73) :: st) E u = Rn m_A_count 75 [l0, l1] (vI (u 73 2) :: st) E u) ∧
  (∀ (l0 l1 : am_V) (a : Int) (E : am_E) (u : am_M), Rn m_A_count 75 [l0, l1] [vI a] E u = some (some (vI a), E, u)) ∧
  (∀ (l1 : am_V) (a : Option Nat) (st : List am_V) (E : am_E) (u : am_M), Rn m_A_count 76 [vR a, l1] st E u = Rn m_A_count 77 [vR a, l1] (vR a :: st) E u) ∧
  (∀ (l0 l1 : am_V) (st : List am_V) (E : am_E) (u : am_M) (hE : SE E), Rn m_A_count 77 [l0, l1] (vR (some 0) :: st) E u = Rn m_A_count 80 [l0, l1] (vR (some 1) :: st) E u) ∧
  (∀ (l0 l1 : am_V) (st : List am_V) (E : am_E) (u : am_M) (hE : SE E), Rn m_A_count 80 [l0, l1] (vR (some 1) :: st) E u = Rn m_A_count 83 [l0, l1] (vI (u 1 3) :: st) E u) ∧
  (∀ (l0 l1 : am_V) (st : List am_V) (E : am_E) (u : am_M) (hE : SE E), Rn m_A_count 80 [l0, l1] (vR (some 8) :: st) E u = Rn m_A_count 83 [l0, l1] (vI (u 8 3) :: st) E u) ∧
  (∀ (l0 l1 : am_V) (st : List am_V) (E : am_E) (u : am_M) (hE : SE E), Rn m_A_count 80 [l0, l1] (vR (some 73) :: st) E u = Rn m_A_count 83 [l0, l1] (vI (u 73 3) :: st) E u) ∧
  (∀ (l0 l1 : am_V) (a : Int) (E : am_E) (u : am_M), Rn m_A_count 83 [l0, l1] [vI a] E u = some (some (vI a), E, u)) ∧
  (∀ (l1 : am_V) (a : Option Nat) (st : List am_V) (E : am_E) (u : am_M), Rn m_A_count 84 [vR a, l1] st E u = Rn m_A_count 85 [vR a, l1] (vR a :: st) E u) ∧
  (∀ (l0 l1 : am_V) (st : List am_V) (E : am_E) (u : am_M) (hE : SE E), Rn m_A_count 85 [l0, l1] (vR (some 0) :: st) E u = Rn m_A_count 88 [l0, l1] (vR (some 1) :: st) E u) ∧
  (∀ (l0 l1 : am_V) (st : List am_V) (E : am_E) (u : am_M) (hE : SE E), Rn m_A_count 88 [l0, l1] (vR (some 1) :: st) E u = Rn m_A_count 91 [l0, l1] (vI (u 1 4) :: st) E u) ∧
  (∀ (l0 l1 : am_V) (st : List am_V) (E : am_E) (u : am_M) (hE : SE E), Rn m_A_count 88 [l0, l1] (vR (some 8) :: st) E u = Rn m_A_count 91 [l0, l1] (vI (u 8 4) :: st) E u) ∧
  (∀ (l0 l1 : am_V) (st : List am_V) (E : am_E) (u : am_M) (hE : SE E), Rn m_A_count 88 [l0, l1] (vR (some 73) :: st) E u = Rn m_A_count 91 [l0, l1] (vI (u 73 4) :: st) E u) ∧
  (∀ (l0 l1 : am_V) (a : Int) (E : am_E) (u : am_M), Rn m_A_count 91 [l0, l1] [vI a] E u = some (some (vI a), E, u)) ∧
  (∀ (l1 : am_V) (a : Option Nat) (st : List am_V) (E : am_E) (u : am_M), Rn m_A_count 92 [vR a, l1] st E u = Rn m_A_count 93 [vR a, l1] (vR a :: st) E u) ∧
  (∀ (l0 l1 : am_V) (st : List am_V) (E : am_E) (u : am_M) (hE : SE E), Rn m_A_count 93 [l0, l1] (vR (some 0) :: st) E u = Rn m_A_count 96 [l0, l1] (vR (some 1) :: st) E u) ∧
  (∀ (l0 l1 : am_V) (E : am_E) (u : am_M) (hE : SE E), Rn m_A_count 96 [l0, l1] [vR (some 1)] E u = bdI (Rn m_C_holeCount 0 [vR (some 1)] [] E u) (KI m_A_count 99 [l0, l1] [])) ∧
  (∀ (l0 l1 : am_V) (E : am_E) (u : am_M) (hE : SE E), Rn m_A_count 96 [l0, l1] [vR (some 8)] E u = bdI (Rn m_C_holeCount 0 [vR (some 8)] [] E u) (KI m_A_count 99 [l0, l1] [])) ∧
  (∀ (l0 l1 : am_V) (E : am_E) (u : am_M) (hE : SE E), Rn m_A_count 96 [l0, l1] [vR (some 73)] E u = bdI (Rn m_C_holeCount 0 [vR (some 73)] [] E u) (KI m_A_count 99 [l0, l1] [])) ∧
  (∀ (l0 l1 : am_V) (a : Int) (E : am_E) (u : am_M), Rn m_A_count 99 [l0, l1] [vI a] E u = some (some (vI a), E, u)) ∧
  (∀ (l1 : am_V) (a : Option Nat) (st : List am_V) (E : am_E) (u : am_M), Rn m_A_count 100 [vR a, l1] st E u = Rn m_A_count 101 [vR a, l1] (vR a :: st) E u) ∧
  (∀ (l0 l1 : am_V) (st : List am_V) (E : am_E) (u : am_M) (hE : SE E), Rn m_A_count 101 [l0, l1] (vR (some 0) :: st) E u = Rn m_A_count 104 [l0, l1] (vR (some 1) :: st) E u) ∧
  (∀ (l0 l1 : am_V) (E : am_E) (u : am_M) (hE : SE E), Rn m_A_count 104 [l0, l1] [vR (some 1)] E u = bdI (Rn m_C_outSet 0 [vR (some 1), vB false, vB false] [] E u) (KI m_A_count 107 [l0, l1] [])) ∧
  (∀ (l0 l1 : am_V) (E : am_E) (u : am_M) (hE : SE E), Rn m_A_count 104 [l0, l1] [vR (some 8)] E u = bdI (Rn m_C_outSet 0 [vR (some 8), vB false, vB false] [] E u) (KI m_A_count 107 [l0, l1] [])) ∧
  (∀ (l0 l1 : am_V) (E : am_E) (u : am_M) (hE : SE E), Rn m_A_count 104 [l0, l1] [vR (some 73)] E u = bdI (Rn m_C_outSet 0 [vR (some 73), vB false, vB false] [] E u) (KI m_A_count 107 [l0, l1] [])) ∧
  (∀ (l0 l1 : am_V) (a : Int) (E : am_E) (u : am_M), Rn m_A_count 107 [l0, l1] [vI a] E u = some (some (vI a), E, u)) ∧
  (∀ (l1 : am_V) (a : Option Nat) (st : List am_V) (E : am_E) (u : am_M), Rn m_A_count 108 [vR a, l1] st E u = Rn m_A_count 109 [vR a, l1] (vR a :: st) E u) ∧
  (∀ (l0 l1 : am_V) (st : List am_V) (E : am_E) (u : am_M) (hE : SE E), Rn m_A_count 109 [l0, l1] (vR (some 0) :: st) E u = Rn m_A_count 112 [l0, l1] (vR (some 1) :: st) E u) ∧
  (∀ (l0 l1 : am_V) (E : am_E) (u : am_M) (hE : SE E), Rn m_A_count 112 [l0, l1] [vR (some 1)] E u = bdI (Rn m_C_holdSet 0 [vR (some 1), vB false, vB false] [] E u) (KI m_A_count 115 [l0, l1] [])) ∧
  (∀ (l0 l1 : am_V) (E : am_E) (u : am_M) (hE : SE E), Rn m_A_count 112 [l0, l1] [vR (some 8)] E u = bdI (Rn m_C_holdSet 0 [vR (some 8), vB false, vB false] [] E u) (KI m_A_count 115 [l0, l1] [])) ∧
  (∀ (l0 l1 : am_V) (E : am_E) (u : am_M) (hE : SE E), Rn m_A_count 112 [l0, l1] [vR (some 73)] E u = bdI (Rn m_C_holdSet 0 [vR (some 73), vB false, vB false] [] E u) (KI m_A_count 115 [l0, l1] [])) ∧
  (∀ (l0 l1 : am_V) (a : Int) (E : am_E) (u : am_M), Rn m_A_count 115 [l0, l1] [vI a] E u = some (some (vI a), E, u)) ∧
  (∀ (l1 : am_V) (a : Option Nat) (st : List am_V) (E : am_E) (u : am_M), Rn m_A_count 116 [vR a, l1] st E u = Rn m_A_count 117 [vR a, l1] (vR a :: st) E u) ∧
  (∀ (l0 l1 : am_V) (st : List am_V) (E : am_E) (u : am_M) (hE : SE E), Rn m_A_count 117 [l0, l1] (vR (some 0) :: st) E u = Rn m_A_count 120 [l0, l1] (vR (some 15) :: st) E u) ∧
  (∀ (l0 l1 : am_V) (st : List am_V) (E : am_E) (u : am_M) (hE : SE E), Rn m_A_count 120 [l0, l1] (vR (some 15) :: st) E u = Rn m_A_count 123 [l0, l1] (vI (u 15 2) :: st) E u) ∧
  (∀ (l0 l1 : am_V) (st : List am_V) (E : am_E) (u : am_M) (hE : SE E), Rn m_A_count 120 [l0, l1] (vR (some 80) :: st) E u = Rn m_A_count 123 [l0, l1] (vI (u 80 2) :: st) E u) ∧
  (∀ (l0 l1 : am_V) (a : Int) (E : am_E) (u : am_M), Rn m_A_count 123 [l0, l1] [vI a] E u = some (some (vI a), E, u)) ∧
  (∀ (l0 l1 : am_V) (st : List am_V) (E : am_E) (u : am_M), Rn m_A_count 124 [l0, l1] st E u = Rn m_A_count 125 [l0, l1] (vI (-1) :: st) E u) ∧
  (∀ (l0 l1 : am_V) (a : Int) (E : am_E) (u : am_M), Rn m_A_count 125 [l0, l1] [vI a] E u = some (some (vI a), E, u)) :=
  ⟨fun l0 a st E u => q_go (by decide +kernel : am_Pg 94 0 = some (.iload_n 1, 1, [], 0)) rfl,
  (fun l0 l1 a st E u => by
  by_cases h0 : a = 0
  · subst h0; rw [if_pos rfl]; exact q_go (by decide +kernel : am_Pg 94 1 = some (.tableswitch 123 0 8 #[51, 59, 67, 75, 83, 91, 99, 107, 115], 51, [], 0)) rfl
  rw [if_neg h0]
  by_cases h1 : a = 1
  · subst h1; rw [if_pos rfl]; exact q_go (by decide +kernel : am_Pg 94 1 = some (.tableswitch 123 0 8 #[51, 59, 67, 75, 83, 91, 99, 107, 115], 51, [], 0)) rfl
  rw [if_neg h1]
  by_cases h2 : a = 2
  · subst h2; rw [if_pos rfl]; exact q_go (by decide +kernel : am_Pg 94 1 = some (.tableswitch 123 0 8 #[51, 59, 67, 75, 83, 91, 99, 107, 115], 51, [], 0)) rfl
  rw [if_neg h2]
  by_cases h3 : a = 3
  · subst h3; rw [if_pos rfl]; exact q_go (by decide +kernel : am_Pg 94 1 = some (.tableswitch 123 0 8 #[51, 59, 67, 75, 83, 91, 99, 107, 115], 51, [], 0)) rfl
  rw [if_neg h3]
  by_cases h4 : a = 4
  · subst h4; rw [if_pos rfl]; exact q_go (by decide +kernel : am_Pg 94 1 = some (.tableswitch 123 0 8 #[51, 59, 67, 75, 83, 91, 99, 107, 115], 51, [], 0)) rfl
  rw [if_neg h4]
  by_cases h5 : a = 5
  · subst h5; rw [if_pos rfl]; exact q_go (by decide +kernel : am_Pg 94 1 = some (.tableswitch 123 0 8 #[51, 59, 67, 75, 83, 91, 99, 107, 115], 51, [], 0)) rfl
  rw [if_neg h5]
  by_cases h6 : a = 6
  · subst h6; rw [if_pos rfl]; exact q_go (by decide +kernel : am_Pg 94 1 = some (.tableswitch 123 0 8 #[51, 59, 67, 75, 83, 91, 99, 107, 115], 51, [], 0)) rfl
  rw [if_neg h6]
  by_cases h7 : a = 7
  · subst h7; rw [if_pos rfl]; exact q_go (by decide +kernel : am_Pg 94 1 = some (.tableswitch 123 0 8 #[51, 59, 67, 75, 83, 91, 99, 107, 115], 51, [], 0)) rfl
  rw [if_neg h7]
  by_cases h8 : a = 8
  · subst h8; rw [if_pos rfl]; exact q_go (by decide +kernel : am_Pg 94 1 = some (.tableswitch 123 0 8 #[51, 59, 67, 75, 83, 91, 99, 107, 115], 51, [], 0)) rfl
  rw [if_neg h8]
  exact q_go (by decide +kernel : am_Pg 94 1 = some (.tableswitch 123 0 8 #[51, 59, 67, 75, 83, 91, 99, 107, 115], 51, [], 0)) (by simp only [am_step, am_br]; rw [if_pos (by simp; omega)]; rfl)),
  fun l1 a st E u => q_go (by decide +kernel : am_Pg 94 52 = some (.aload_n 0, 1, [], 0)) rfl,
  fun l0 l1 st E u hE => q_gfR (by decide +kernel : am_Pg 94 53 = some (.getfield 12, 3, [4, 8, 0, 0], 0)) (SE_k4 hE) rfl (SE_r4_0 hE),
  fun l0 l1 st E u hE => q_gfI (by decide +kernel : am_Pg 94 56 = some (.getfield 145, 3, [0, 14, 0, 1], 0)) (SE_k0 hE cuB_1) (by decide),
  fun l0 l1 st E u hE => q_gfI (by decide +kernel : am_Pg 94 56 = some (.getfield 145, 3, [0, 14, 0, 1], 0)) (SE_k0 hE cuB_8) (by decide),
  fun l0 l1 st E u hE => q_gfI (by decide +kernel : am_Pg 94 56 = some (.getfield 145, 3, [0, 14, 0, 1], 0)) (SE_k0 hE cuB_73) (by decide),
  fun l0 l1 a E u => q_ret (by decide +kernel : am_Pg 94 59 = some (.ireturn, 1, [], 0)) rfl,
  fun l1 a st E u => q_go (by decide +kernel : am_Pg 94 60 = some (.aload_n 0, 1, [], 0)) rfl,
  fun l0 l1 st E u hE => q_gfR (by decide +kernel : am_Pg 94 61 = some (.getfield 12, 3, [4, 8, 0, 0], 0)) (SE_k4 hE) rfl (SE_r4_0 hE),
  fun l0 l1 st E u hE => q_gfI (by decide +kernel : am_Pg 94 64 = some (.getfield 148, 3, [0, 14, 1, 1], 0)) (SE_k0 hE cuB_1) (by decide),
  fun l0 l1 st E u hE => q_gfI (by decide +kernel : am_Pg 94 64 = some (.getfield 148, 3, [0, 14, 1, 1], 0)) (SE_k0 hE cuB_8) (by decide),
  fun l0 l1 st E u hE => q_gfI (by decide +kernel : am_Pg 94 64 = some (.getfield 148, 3, [0, 14, 1, 1], 0)) (SE_k0 hE cuB_73) (by decide),
  fun l0 l1 a E u => q_ret (by decide +kernel : am_Pg 94 67 = some (.ireturn, 1, [], 0)) rfl,
  fun l1 a st E u => q_go (by decide +kernel : am_Pg 94 68 = some (.aload_n 0, 1, [], 0)) rfl,
  fun l0 l1 st E u hE => q_gfR (by decide +kernel : am_Pg 94 69 = some (.getfield 12, 3, [4, 8, 0, 0], 0)) (SE_k4 hE) rfl (SE_r4_0 hE),
  fun l0 l1 st E u hE => q_gfI (by decide +kernel : am_Pg 94 72 = some (.getfield 69, 3, [0, 14, 2, 1], 0)) (SE_k0 hE cuB_1) (by decide),
  fun l0 l1 st E u hE => q_gfI (by decide +kernel : am_Pg 94 72 = some (.getfield 69, 3, [0, 14, 2, 1], 0)) (SE_k0 hE cuB_8) (by decide),
  fun l0 l1 st E u hE => q_gfI (by decide +kernel : am_Pg 94 72 = some (.getfield 69, 3, [0, 14, 2, 1], 0)) (SE_k0 hE cuB_73) (by decide),
  fun l0 l1 a E u => q_ret (by decide +kernel : am_Pg 94 75 = some (.ireturn, 1, [], 0)) rfl,
  fun l1 a st E u => q_go (by decide +kernel : am_Pg 94 76 = some (.aload_n 0, 1, [], 0)) rfl,
  fun l0 l1 st E u hE => q_gfR (by decide +kernel : am_Pg 94 77 = some (.getfield 12, 3, [4, 8, 0, 0], 0)) (SE_k4 hE) rfl (SE_r4_0 hE),
  fun l0 l1 st E u hE => q_gfI (by decide +kernel : am_Pg 94 80 = some (.getfield 81, 3, [0, 14, 3, 1], 0)) (SE_k0 hE cuB_1) (by decide),
  fun l0 l1 st E u hE => q_gfI (by decide +kernel : am_Pg 94 80 = some (.getfield 81, 3, [0, 14, 3, 1], 0)) (SE_k0 hE cuB_8) (by decide),
  fun l0 l1 st E u hE => q_gfI (by decide +kernel : am_Pg 94 80 = some (.getfield 81, 3, [0, 14, 3, 1], 0)) (SE_k0 hE cuB_73) (by decide),
  fun l0 l1 a E u => q_ret (by decide +kernel : am_Pg 94 83 = some (.ireturn, 1, [], 0)) rfl,
  fun l1 a st E u => q_go (by decide +kernel : am_Pg 94 84 = some (.aload_n 0, 1, [], 0)) rfl,
  fun l0 l1 st E u hE => q_gfR (by decide +kernel : am_Pg 94 85 = some (.getfield 12, 3, [4, 8, 0, 0], 0)) (SE_k4 hE) rfl (SE_r4_0 hE),
  fun l0 l1 st E u hE => q_gfI (by decide +kernel : am_Pg 94 88 = some (.getfield 151, 3, [0, 14, 4, 1], 0)) (SE_k0 hE cuB_1) (by decide),
  fun l0 l1 st E u hE => q_gfI (by decide +kernel : am_Pg 94 88 = some (.getfield 151, 3, [0, 14, 4, 1], 0)) (SE_k0 hE cuB_8) (by decide),
  fun l0 l1 st E u hE => q_gfI (by decide +kernel : am_Pg 94 88 = some (.getfield 151, 3, [0, 14, 4, 1], 0)) (SE_k0 hE cuB_73) (by decide),
  fun l0 l1 a E u => q_ret (by decide +kernel : am_Pg 94 91 = some (.ireturn, 1, [], 0)) rfl,
  fun l1 a st E u => q_go (by decide +kernel : am_Pg 94 92 = some (.aload_n 0, 1, [], 0)) rfl,
  fun l0 l1 st E u hE => q_gfR (by decide +kernel : am_Pg 94 93 = some (.getfield 12, 3, [4, 8, 0, 0], 0)) (SE_k4 hE) rfl (SE_r4_0 hE),
  fun l0 l1   E u hE => q_cI (by decide +kernel : am_Pg 94 96 = some (.invokevirtual 154, 3, [3, 91, 1, 0, 14, 1], 0)) (am_call_V (a := []) (st' := []) (Nat.le_of_ble_eq_true rfl) rfl (SE_k0 hE cuB_1)) (by decide +kernel : am_Lm m_C_holeCount = 1) (Nat.le_of_ble_eq_true rfl) rfl (by decide +kernel),
  fun l0 l1   E u hE => q_cI (by decide +kernel : am_Pg 94 96 = some (.invokevirtual 154, 3, [3, 91, 1, 0, 14, 1], 0)) (am_call_V (a := []) (st' := []) (Nat.le_of_ble_eq_true rfl) rfl (SE_k0 hE cuB_8)) (by decide +kernel : am_Lm m_C_holeCount = 1) (Nat.le_of_ble_eq_true rfl) rfl (by decide +kernel),
  fun l0 l1   E u hE => q_cI (by decide +kernel : am_Pg 94 96 = some (.invokevirtual 154, 3, [3, 91, 1, 0, 14, 1], 0)) (am_call_V (a := []) (st' := []) (Nat.le_of_ble_eq_true rfl) rfl (SE_k0 hE cuB_73)) (by decide +kernel : am_Lm m_C_holeCount = 1) (Nat.le_of_ble_eq_true rfl) rfl (by decide +kernel),
  fun l0 l1 a E u => q_ret (by decide +kernel : am_Pg 94 99 = some (.ireturn, 1, [], 0)) rfl,
  fun l1 a st E u => q_go (by decide +kernel : am_Pg 94 100 = some (.aload_n 0, 1, [], 0)) rfl,
  fun l0 l1 st E u hE => q_gfR (by decide +kernel : am_Pg 94 101 = some (.getfield 12, 3, [4, 8, 0, 0], 0)) (SE_k4 hE) rfl (SE_r4_0 hE),
  fun l0 l1   E u hE => q_cI (by decide +kernel : am_Pg 94 104 = some (.invokevirtual 157, 3, [3, 92, 1, 0, 14, 1], 0)) (am_call_V (a := []) (st' := []) (Nat.le_of_ble_eq_true rfl) rfl (SE_k0 hE cuB_1)) (by decide +kernel : am_Lm m_C_outSet = 3) (Nat.le_of_ble_eq_true rfl) rfl (by decide +kernel),
  fun l0 l1   E u hE => q_cI (by decide +kernel : am_Pg 94 104 = some (.invokevirtual 157, 3, [3, 92, 1, 0, 14, 1], 0)) (am_call_V (a := []) (st' := []) (Nat.le_of_ble_eq_true rfl) rfl (SE_k0 hE cuB_8)) (by decide +kernel : am_Lm m_C_outSet = 3) (Nat.le_of_ble_eq_true rfl) rfl (by decide +kernel),
  fun l0 l1   E u hE => q_cI (by decide +kernel : am_Pg 94 104 = some (.invokevirtual 157, 3, [3, 92, 1, 0, 14, 1], 0)) (am_call_V (a := []) (st' := []) (Nat.le_of_ble_eq_true rfl) rfl (SE_k0 hE cuB_73)) (by decide +kernel : am_Lm m_C_outSet = 3) (Nat.le_of_ble_eq_true rfl) rfl (by decide +kernel),
  fun l0 l1 a E u => q_ret (by decide +kernel : am_Pg 94 107 = some (.ireturn, 1, [], 0)) rfl,
  fun l1 a st E u => q_go (by decide +kernel : am_Pg 94 108 = some (.aload_n 0, 1, [], 0)) rfl,
  fun l0 l1 st E u hE => q_gfR (by decide +kernel : am_Pg 94 109 = some (.getfield 12, 3, [4, 8, 0, 0], 0)) (SE_k4 hE) rfl (SE_r4_0 hE),
  fun l0 l1   E u hE => q_cI (by decide +kernel : am_Pg 94 112 = some (.invokevirtual 160, 3, [3, 93, 1, 0, 14, 1], 0)) (am_call_V (a := []) (st' := []) (Nat.le_of_ble_eq_true rfl) rfl (SE_k0 hE cuB_1)) (by decide +kernel : am_Lm m_C_holdSet = 3) (Nat.le_of_ble_eq_true rfl) rfl (by decide +kernel),
  fun l0 l1   E u hE => q_cI (by decide +kernel : am_Pg 94 112 = some (.invokevirtual 160, 3, [3, 93, 1, 0, 14, 1], 0)) (am_call_V (a := []) (st' := []) (Nat.le_of_ble_eq_true rfl) rfl (SE_k0 hE cuB_8)) (by decide +kernel : am_Lm m_C_holdSet = 3) (Nat.le_of_ble_eq_true rfl) rfl (by decide +kernel),
  fun l0 l1   E u hE => q_cI (by decide +kernel : am_Pg 94 112 = some (.invokevirtual 160, 3, [3, 93, 1, 0, 14, 1], 0)) (am_call_V (a := []) (st' := []) (Nat.le_of_ble_eq_true rfl) rfl (SE_k0 hE cuB_73)) (by decide +kernel : am_Lm m_C_holdSet = 3) (Nat.le_of_ble_eq_true rfl) rfl (by decide +kernel),
  fun l0 l1 a E u => q_ret (by decide +kernel : am_Pg 94 115 = some (.ireturn, 1, [], 0)) rfl,
  fun l1 a st E u => q_go (by decide +kernel : am_Pg 94 116 = some (.aload_n 0, 1, [], 0)) rfl,
  fun l0 l1 st E u hE => q_gfR (by decide +kernel : am_Pg 94 117 = some (.getfield 22, 3, [4, 8, 2, 0], 0)) (SE_k4 hE) rfl (SE_r4_2 hE),
  fun l0 l1 st E u hE => q_gfI (by decide +kernel : am_Pg 94 120 = some (.getfield 163, 3, [1, 3, 2, 1], 0)) (SE_k1 hE paB_15) (by decide),
  fun l0 l1 st E u hE => q_gfI (by decide +kernel : am_Pg 94 120 = some (.getfield 163, 3, [1, 3, 2, 1], 0)) (SE_k1 hE paB_80) (by decide),
  fun l0 l1 a E u => q_ret (by decide +kernel : am_Pg 94 123 = some (.ireturn, 1, [], 0)) rfl,
  fun l0 l1 st E u => q_go (by decide +kernel : am_Pg 94 124 = some (.iconst (-1), 1, [], 0)) rfl,
  fun l0 l1 a E u => q_ret (by decide +kernel : am_Pg 94 125 = some (.ireturn, 1, [], 0)) rfl⟩
theorem h_A_passes_32 : ∀ (l0 l1 l2 : am_V) (a : Int) (st : List am_V) (E : am_E) (u : am_M), Rn m_A_passes 32 [l0, l1, l2, vI a] st E u = Rn m_A_passes 33 [l0, l1, l2, vI a] (vI a :: st) E u :=
  fun l0 l1 l2 a st E u => q_go (by decide +kernel : am_Pg 108 32 = some (.iload_n 3, 1, [], 0)) rfl
theorem x_A_passes :
  (∀ (l0 l2 l3 : am_V) (a : Int) (st : List am_V) (E : am_E) (u : am_M), Rn m_A_passes 0 [l0, vI a, l2, l3] st E u = Rn m_A_passes 1 [l0, vI a, l2, l3] (vI a :: st) E u) ∧
  (∀ (l0 l1 l2 l3 : am_V) (st : List am_V) (E : am_E) (u : am_M), Rn m_A_passes 1 [l0, l1, l2, l3] st E u = Rn m_A_passes 2 [l0, l1, l2, l3] (vI 1 :: st) E u) ∧
  (∀ (l0 l1 l2 l3 : am_V) (st : List am_V) (E : am_E) (u : am_M), Rn m_A_passes 2 [l0, l1, l2, l3] st E u = Rn m_A_passes 4 [l0, l1, l2, l3] (vI 40 :: st) E u) ∧
  (∀ (l0 l1 l2 l3 : am_V) (a0 : Int) (a1 : Int) (a2 : Int) (E : am_E) (u : am_M), Rn m_A_passes 4 [l0, l1, l2, l3] [vI a2, vI a1, vI a0] E u = bdI (Rn m_A_isIn 0 [vI a0, vI a1, vI a2] [] E u) (KI m_A_passes 7 [l0, l1, l2, l3] [])) ∧
  (∀ (l0 l1 l2 l3 : am_V) (a : Int) (st : List am_V) (E : am_E) (u : am_M), Rn m_A_passes 7 [l0, l1, l2, l3] (vI a :: st) E u = if a = 0 then Rn m_A_passes 10 [l0, l1, l2, l3] st E u else Rn m_A_passes 12 [l0, l1, l2, l3] st E u) ∧
  (∀ (l0 l1 l2 l3 : am_V) (st : List am_V) (E : am_E) (u : am_M), Rn m_A_passes 10 [l0, l1, l2, l3] st E u = Rn m_A_passes 11 [l0, l1, l2, l3] (vI (-1) :: st) E u) ∧
  (∀ (l0 l1 l2 l3 : am_V) (a : Int) (E : am_E) (u : am_M), Rn m_A_passes 11 [l0, l1, l2, l3] [vI a] E u = some (some (vI a), E, u)) ∧
  (∀ (l1 l2 l3 : am_V) (a : Option Nat) (st : List am_V) (E : am_E) (u : am_M), Rn m_A_passes 12 [vR a, l1, l2, l3] st E u = Rn m_A_passes 13 [vR a, l1, l2, l3] (vR a :: st) E u) ∧
  (∀ (l0 l1 l2 l3 : am_V) (st : List am_V) (E : am_E) (u : am_M) (hE : SE E), Rn m_A_passes 13 [l0, l1, l2, l3] (vR (some 0) :: st) E u = Rn m_A_passes 16 [l0, l1, l2, l3] (vR (some 1) :: st) E u) ∧
  (∀ (l0 l1 l2 l3 : am_V) (st : List am_V) (E : am_E) (u : am_M) (hE : SE E), Rn m_A_passes 16 [l0, l1, l2, l3] (vR (some 1) :: st) E u = Rn m_A_passes 19 [l0, l1, l2, l3] (vI (u 1 4) :: st) E u) ∧
  (∀ (l0 l1 l2 l3 : am_V) (st : List am_V) (E : am_E) (u : am_M) (hE : SE E), Rn m_A_passes 16 [l0, l1, l2, l3] (vR (some 8) :: st) E u = Rn m_A_passes 19 [l0, l1, l2, l3] (vI (u 8 4) :: st) E u) ∧
  (∀ (l0 l1 l2 l3 : am_V) (st : List am_V) (E : am_E) (u : am_M) (hE : SE E), Rn m_A_passes 16 [l0, l1, l2, l3] (vR (some 73) :: st) E u = Rn m_A_passes 19 [l0, l1, l2, l3] (vI (u 73 4) :: st) E u) ∧
  (∀ (l0 l1 l2 l3 : am_V) (st : List am_V) (E : am_E) (u : am_M), Rn m_A_passes 19 [l0, l1, l2, l3] st E u = Rn m_A_passes 22 [l0, l1, l2, l3] (vI 9999 :: st) E u) ∧
  (∀ (l0 l2 l3 : am_V) (a : Int) (st : List am_V) (E : am_E) (u : am_M), Rn m_A_passes 22 [l0, vI a, l2, l3] st E u = Rn m_A_passes 23 [l0, vI a, l2, l3] (vI a :: st) E u) ∧
  (∀ (l0 l1 l2 l3 : am_V) (a b : Int) (st : List am_V) (E : am_E) (u : am_M), Rn m_A_passes 23 [l0, l1, l2, l3] (vI b :: vI a :: st) E u = Rn m_A_passes 24 [l0, l1, l2, l3] (vI (w32 (a - b)) :: st) E u) ∧
  (∀ (l0 l1 l2 l3 : am_V) (a b : Int) (st : List am_V) (E : am_E) (u : am_M), Rn m_A_passes 24 [l0, l1, l2, l3] (vI b :: vI a :: st) E u = if b < a then Rn m_A_passes 27 [l0, l1, l2, l3] st E u else Rn m_A_passes 30 [l0, l1, l2, l3] st E u) ∧
  (∀ (l0 l1 l2 l3 : am_V) (st : List am_V) (E : am_E) (u : am_M), Rn m_A_passes 27 [l0, l1, l2, l3] st E u = Rn m_A_passes 29 [l0, l1, l2, l3] (vI (-3) :: st) E u) ∧
  (∀ (l0 l1 l2 l3 : am_V) (a : Int) (E : am_E) (u : am_M), Rn m_A_passes 29 [l0, l1, l2, l3] [vI a] E u = some (some (vI a), E, u)) ∧
  (∀ (l0 l1 l2 l3 : am_V) (st : List am_V) (E : am_E) (u : am_M), Rn m_A_passes 30 [l0, l1, l2, l3] st E u = Rn m_A_passes 31 [l0, l1, l2, l3] (vI 0 :: st) E u) ∧
  (∀ (l0 l1 l2 l3 : am_V) (a : Int) (st : List am_V) (E : am_E) (u : am_M), Rn m_A_passes 31 [l0, l1, l2, l3] (vI a :: st) E u = Rn m_A_passes 32 [l0, l1, am_fx l2, vI a] st E u) ∧
  (∀ (l0 l2 l3 : am_V) (a : Int) (st : List am_V) (E : am_E) (u : am_M), Rn m_A_passes 33 [l0, vI a, l2, l3] st E u = Rn m_A_passes 34 [l0, vI a, l2, l3] (vI a :: st) E u) ∧
  (∀ (l0 l1 l2 l3 : am_V) (a b : Int) (st : List am_V) (E : am_E) (u : am_M), Rn m_A_passes 34 [l0, l1, l2, l3] (vI b :: vI a :: st) E u = if a < b then Rn m_A_passes 37 [l0, l1, l2, l3] st E u else Rn m_A_passes 72 [l0, l1, l2, l3] st E u) ∧
  (∀ (l1 l2 l3 : am_V) (a : Option Nat) (st : List am_V) (E : am_E) (u : am_M), Rn m_A_passes 37 [vR a, l1, l2, l3] st E u = Rn m_A_passes 38 [vR a, l1, l2, l3] (vR a :: st) E u) ∧
  (∀ (l0 l1 l2 l3 : am_V) (st : List am_V) (E : am_E) (u : am_M) (hE : SE E), Rn m_A_passes 38 [l0, l1, l2, l3] (vR (some 0) :: st) E u = Rn m_A_passes 41 [l0, l1, l2, l3] (vR (some 15) :: st) E u) ∧
  (∀ (l1 l2 l3 : am_V) (a : Option Nat) (st : List am_V) (E : am_E) (u : am_M), Rn m_A_passes 41 [vR a, l1, l2, l3] st E u = Rn m_A_passes 42 [vR a, l1, l2, l3] (vR a :: st) E u) ∧
  (∀ (l0 l1 l2 l3 : am_V) (st : List am_V) (E : am_E) (u : am_M) (hE : SE E), Rn m_A_passes 42 [l0, l1, l2, l3] (vR (some 0) :: st) E u = Rn m_A_passes 45 [l0, l1, l2, l3] (vR (some 1) :: st) E u) ∧
  (∀ (l0 l1 l2 l3 : am_V) (a0 : Option Nat) (E : am_E) (u : am_M) (hE : SE E), Rn m_A_passes 45 [l0, l1, l2, l3] [vR a0, vR (some 15)] E u = bdV (Rn m_P_keeps 0 [vR (some 15), vR a0, vB false] [] E u) (KV m_A_passes 48 [l0, l1, l2, l3] [])) ∧
  (∀ (l0 l1 l2 l3 : am_V) (a0 : Option Nat) (E : am_E) (u : am_M) (hE : SE E), Rn m_A_passes 45 [l0, l1, l2, l3] [vR a0, vR (some 80)] E u = bdV (Rn m_P_keeps 0 [vR (some 80), vR a0, vB false] [] E u) (KV m_A_passes 48 [l0, l1, l2, l3] [])) ∧
  (∀ (l0 l1 l3 : am_V) (a : Int) (st : List am_V) (E : am_E) (u : am_M), Rn m_A_passes 48 [l0, l1, vI a, l3] st E u = Rn m_A_passes 49 [l0, l1, vI a, l3] (vI a :: st) E u) ∧
  (∀ (l0 l1 l2 l3 : am_V) (a : Int) (st : List am_V) (E : am_E) (u : am_M), Rn m_A_passes 49 [l0, l1, l2, l3] (vI a :: st) E u = if a = 0 then Rn m_A_passes 59 [l0, l1, l2, l3] st E u else Rn m_A_passes 52 [l0, l1, l2, l3] st E u) ∧
  (∀ (l1 l2 l3 : am_V) (a : Option Nat) (st : List am_V) (E : am_E) (u : am_M), Rn m_A_passes 52 [vR a, l1, l2, l3] st E u = Rn m_A_passes 53 [vR a, l1, l2, l3] (vR a :: st) E u) ∧
  (∀ (l0 l1 l2 l3 : am_V) (st : List am_V) (E : am_E) (u : am_M) (hE : SE E), Rn m_A_passes 53 [l0, l1, l2, l3] (vR (some 0) :: st) E u = Rn m_A_passes 56 [l0, l1, l2, l3] (vR (some 1) :: st) E u) ∧
  (∀ (l0 l1 l2 l3 : am_V) (E : am_E) (u : am_M) (hE : SE E), Rn m_A_passes 56 [l0, l1, l2, l3] [vR (some 1)] E u = bdV (Rn m_C_gathersDust 0 [vR (some 1), vB false, vB false] [] E u) (KV m_A_passes 59 [l0, l1, l2, l3] [])) ∧
  (∀ (l0 l1 l2 l3 : am_V) (E : am_E) (u : am_M) (hE : SE E), Rn m_A_passes 56 [l0, l1, l2, l3] [vR (some 8)] E u = bdV (Rn m_C_gathersDust 0 [vR (some 8), vB false, vB false] [] E u) (KV m_A_passes 59 [l0, l1, l2, l3] [])) ∧
  (∀ (l0 l1 l2 l3 : am_V) (E : am_E) (u : am_M) (hE : SE E), Rn m_A_passes 56 [l0, l1, l2, l3] [vR (some 73)] E u = bdV (Rn m_C_gathersDust 0 [vR (some 73), vB false, vB false] [] E u) (KV m_A_passes 59 [l0, l1, l2, l3] [])) ∧
  (∀ (l1 l2 l3 : am_V) (a : Option Nat) (st : List am_V) (E : am_E) (u : am_M), Rn m_A_passes 59 [vR a, l1, l2, l3] st E u = Rn m_A_passes 60 [vR a, l1, l2, l3] (vR a :: st) E u) ∧
  (∀ (l0 l1 l2 l3 : am_V) (st : List am_V) (E : am_E) (u : am_M) (hE : SE E), Rn m_A_passes 60 [l0, l1, l2, l3] (vR (some 0) :: st) E u = Rn m_A_passes 63 [l0, l1, l2, l3] (vR (some 1) :: st) E u) ∧
  (∀ (l0 l1 l2 l3 : am_V) (E : am_E) (u : am_M) (hE : SE E), Rn m_A_passes 63 [l0, l1, l2, l3] [vR (some 1)] E u = bdV (Rn m_C_goesOn 0 [vR (some 1), vB false] [] E u) (KV m_A_passes 66 [l0, l1, l2, l3] [])) ∧
  (∀ (l0 l1 l2 l3 : am_V) (E : am_E) (u : am_M) (hE : SE E), Rn m_A_passes 63 [l0, l1, l2, l3] [vR (some 8)] E u = bdV (Rn m_C_goesOn 0 [vR (some 8), vB false] [] E u) (KV m_A_passes 66 [l0, l1, l2, l3] [])) ∧
  (∀ (l0 l1 l2 l3 : am_V) (E : am_E) (u : am_M) (hE : SE E), Rn m_A_passes 63 [l0, l1, l2, l3] [vR (some 73)] E u = bdV (Rn m_C_goesOn 0 [vR (some 73), vB false] [] E u) (KV m_A_passes 66 [l0, l1, l2, l3] [])) ∧
  (∀ (l0 l1 l2 : am_V) (a : Int) (st : List am_V) (E : am_E) (u : am_M), Rn m_A_passes 66 [l0, l1, l2, vI a] st E u = Rn m_A_passes 69 [l0, l1, am_fx l2, vI (w32 (a + 1))] st E u) ∧
  (∀ (l0 l1 l2 l3 : am_V) (st : List am_V) (E : am_E) (u : am_M), Rn m_A_passes 69 [l0, l1, l2, l3] st E u = Rn m_A_passes 32 [l0, l1, l2, l3] st E u) ∧
  (∀ (l1 l2 l3 : am_V) (a : Option Nat) (st : List am_V) (E : am_E) (u : am_M), Rn m_A_passes 72 [vR a, l1, l2, l3] st E u = Rn m_A_passes 73 [vR a, l1, l2, l3] (vR a :: st) E u) ∧
  (∀ (l0 l1 l2 l3 : am_V) (st : List am_V) (E : am_E) (u : am_M) (hE : SE E), Rn m_A_passes 73 [l0, l1, l2, l3] (vR (some 0) :: st) E u = Rn m_A_passes 76 [l0, l1, l2, l3] (vR (some 1) :: st) E u) ∧
  (∀ (l0 l1 l2 l3 : am_V) (E : am_E) (u : am_M) (hE : SE E), Rn m_A_passes 76 [l0, l1, l2, l3] [vR (some 1)] E u = bdI (Rn m_C_holeCount 0 [vR (some 1)] [] E u) (KI m_A_passes 79 [l0, l1, l2, l3] [])) ∧
  (∀ (l0 l1 l2 l3 : am_V) (E : am_E) (u : am_M) (hE : SE E), Rn m_A_passes 76 [l0, l1, l2, l3] [vR (some 8)] E u = bdI (Rn m_C_holeCount 0 [vR (some 8)] [] E u) (KI m_A_passes 79 [l0, l1, l2, l3] [])) ∧
  (∀ (l0 l1 l2 l3 : am_V) (E : am_E) (u : am_M) (hE : SE E), Rn m_A_passes 76 [l0, l1, l2, l3] [vR (some 73)] E u = bdI (Rn m_C_holeCount 0 [vR (some 73)] [] E u) (KI m_A_passes 79 [l0, l1, l2, l3] [])) ∧
  (∀ (l0 l1 l2 l3 : am_V) (a : Int) (E : am_E) (u : am_M), Rn m_A_passes 79 [l0, l1, l2, l3] [vI a] E u = some (some (vI a), E, u)) :=
  ⟨fun l0 l2 l3 a st E u => q_go (by decide +kernel : am_Pg 108 0 = some (.iload_n 1, 1, [], 0)) rfl,
  fun l0 l1 l2 l3 st E u => q_go (by decide +kernel : am_Pg 108 1 = some (.iconst 1, 1, [], 0)) rfl,
  fun l0 l1 l2 l3 st E u => q_go (by decide +kernel : am_Pg 108 2 = some (.bipush 40, 2, [], 0)) rfl,
  fun l0 l1 l2 l3 a0 a1 a2  E u => q_cI (by decide +kernel : am_Pg 108 4 = some (.invokestatic 46, 3, [2, 8, 3, 0], 0)) (am_call_S (f := fun _ _ => true) (a := [vI a0, vI a1, vI a2]) (st' := []) (Nat.le_of_ble_eq_true rfl) rfl rfl) (by decide +kernel : am_Lm m_A_isIn = 3) (Nat.le_of_ble_eq_true rfl) rfl (by decide +kernel),
  fun l0 l1 l2 l3 a st E u => q_if_ne (tgt := 12) (by decide +kernel : am_Pg 108 7 = some (.ifCond .ne 5, 3, [], 0)) (by decide),
  fun l0 l1 l2 l3 st E u => q_go (by decide +kernel : am_Pg 108 10 = some (.iconst (-1), 1, [], 0)) rfl,
  fun l0 l1 l2 l3 a E u => q_ret (by decide +kernel : am_Pg 108 11 = some (.ireturn, 1, [], 0)) rfl,
  fun l1 l2 l3 a st E u => q_go (by decide +kernel : am_Pg 108 12 = some (.aload_n 0, 1, [], 0)) rfl,
  fun l0 l1 l2 l3 st E u hE => q_gfR (by decide +kernel : am_Pg 108 13 = some (.getfield 12, 3, [4, 8, 0, 0], 0)) (SE_k4 hE) rfl (SE_r4_0 hE),
  fun l0 l1 l2 l3 st E u hE => q_gfI (by decide +kernel : am_Pg 108 16 = some (.getfield 151, 3, [0, 14, 4, 1], 0)) (SE_k0 hE cuB_1) (by decide),
  fun l0 l1 l2 l3 st E u hE => q_gfI (by decide +kernel : am_Pg 108 16 = some (.getfield 151, 3, [0, 14, 4, 1], 0)) (SE_k0 hE cuB_8) (by decide),
  fun l0 l1 l2 l3 st E u hE => q_gfI (by decide +kernel : am_Pg 108 16 = some (.getfield 151, 3, [0, 14, 4, 1], 0)) (SE_k0 hE cuB_73) (by decide),
  fun l0 l1 l2 l3 st E u => q_go (by decide +kernel : am_Pg 108 19 = some (.sipush 9999, 3, [], 0)) rfl,
  fun l0 l2 l3 a st E u => q_go (by decide +kernel : am_Pg 108 22 = some (.iload_n 1, 1, [], 0)) rfl,
  fun l0 l1 l2 l3 a b st E u => q_go (by decide +kernel : am_Pg 108 23 = some (.isub, 1, [], 0)) rfl,
  fun l0 l1 l2 l3 a b st E u => q_icmp_le (tgt := 30) (by decide +kernel : am_Pg 108 24 = some (.if_icmp .le 6, 3, [], 0)) (by decide),
  fun l0 l1 l2 l3 st E u => q_go (by decide +kernel : am_Pg 108 27 = some (.bipush (-3), 2, [], 0)) rfl,
  fun l0 l1 l2 l3 a E u => q_ret (by decide +kernel : am_Pg 108 29 = some (.ireturn, 1, [], 0)) rfl,
  fun l0 l1 l2 l3 st E u => q_go (by decide +kernel : am_Pg 108 30 = some (.iconst 0, 1, [], 0)) rfl,
  fun l0 l1 l2 l3 a st E u => q_go (by decide +kernel : am_Pg 108 31 = some (.istore_n 3, 1, [], 0)) rfl,
  fun l0 l2 l3 a st E u => q_go (by decide +kernel : am_Pg 108 33 = some (.iload_n 1, 1, [], 0)) rfl,
  fun l0 l1 l2 l3 a b st E u => q_icmp_ge (tgt := 72) (by decide +kernel : am_Pg 108 34 = some (.if_icmp .ge 38, 3, [], 0)) (by decide),
  fun l1 l2 l3 a st E u => q_go (by decide +kernel : am_Pg 108 37 = some (.aload_n 0, 1, [], 0)) rfl,
  fun l0 l1 l2 l3 st E u hE => q_gfR (by decide +kernel : am_Pg 108 38 = some (.getfield 22, 3, [4, 8, 2, 0], 0)) (SE_k4 hE) rfl (SE_r4_2 hE),
  fun l1 l2 l3 a st E u => q_go (by decide +kernel : am_Pg 108 41 = some (.aload_n 0, 1, [], 0)) rfl,
  fun l0 l1 l2 l3 st E u hE => q_gfR (by decide +kernel : am_Pg 108 42 = some (.getfield 12, 3, [4, 8, 0, 0], 0)) (SE_k4 hE) rfl (SE_r4_0 hE),
  fun l0 l1 l2 l3 a0  E u hE => q_cV (by decide +kernel : am_Pg 108 45 = some (.invokevirtual 170, 3, [3, 100, 2, 1, 3, 1], 0)) (am_call_V (a := [vR a0]) (st' := []) (Nat.le_of_ble_eq_true rfl) rfl (SE_k1 hE paB_15)) (by decide +kernel : am_Lm m_P_keeps = 3) (Nat.le_of_ble_eq_true rfl) rfl (by decide +kernel),
  fun l0 l1 l2 l3 a0  E u hE => q_cV (by decide +kernel : am_Pg 108 45 = some (.invokevirtual 170, 3, [3, 100, 2, 1, 3, 1], 0)) (am_call_V (a := [vR a0]) (st' := []) (Nat.le_of_ble_eq_true rfl) rfl (SE_k1 hE paB_80)) (by decide +kernel : am_Lm m_P_keeps = 3) (Nat.le_of_ble_eq_true rfl) rfl (by decide +kernel),
  fun l0 l1 l3 a st E u => q_go (by decide +kernel : am_Pg 108 48 = some (.iload_n 2, 1, [], 0)) rfl,
  fun l0 l1 l2 l3 a st E u => q_if_eq (tgt := 59) (by decide +kernel : am_Pg 108 49 = some (.ifCond .eq 10, 3, [], 0)) (by decide),
  fun l1 l2 l3 a st E u => q_go (by decide +kernel : am_Pg 108 52 = some (.aload_n 0, 1, [], 0)) rfl,
  fun l0 l1 l2 l3 st E u hE => q_gfR (by decide +kernel : am_Pg 108 53 = some (.getfield 12, 3, [4, 8, 0, 0], 0)) (SE_k4 hE) rfl (SE_r4_0 hE),
  fun l0 l1 l2 l3   E u hE => q_cV (by decide +kernel : am_Pg 108 56 = some (.invokevirtual 290, 3, [3, 101, 1, 0, 14, 1], 0)) (am_call_V (a := []) (st' := []) (Nat.le_of_ble_eq_true rfl) rfl (SE_k0 hE cuB_1)) (by decide +kernel : am_Lm m_C_gathersDust = 3) (Nat.le_of_ble_eq_true rfl) rfl (by decide +kernel),
  fun l0 l1 l2 l3   E u hE => q_cV (by decide +kernel : am_Pg 108 56 = some (.invokevirtual 290, 3, [3, 101, 1, 0, 14, 1], 0)) (am_call_V (a := []) (st' := []) (Nat.le_of_ble_eq_true rfl) rfl (SE_k0 hE cuB_8)) (by decide +kernel : am_Lm m_C_gathersDust = 3) (Nat.le_of_ble_eq_true rfl) rfl (by decide +kernel),
  fun l0 l1 l2 l3   E u hE => q_cV (by decide +kernel : am_Pg 108 56 = some (.invokevirtual 290, 3, [3, 101, 1, 0, 14, 1], 0)) (am_call_V (a := []) (st' := []) (Nat.le_of_ble_eq_true rfl) rfl (SE_k0 hE cuB_73)) (by decide +kernel : am_Lm m_C_gathersDust = 3) (Nat.le_of_ble_eq_true rfl) rfl (by decide +kernel),
  fun l1 l2 l3 a st E u => q_go (by decide +kernel : am_Pg 108 59 = some (.aload_n 0, 1, [], 0)) rfl,
  fun l0 l1 l2 l3 st E u hE => q_gfR (by decide +kernel : am_Pg 108 60 = some (.getfield 12, 3, [4, 8, 0, 0], 0)) (SE_k4 hE) rfl (SE_r4_0 hE),
  fun l0 l1 l2 l3   E u hE => q_cV (by decide +kernel : am_Pg 108 63 = some (.invokevirtual 264, 3, [3, 107, 1, 0, 14, 1], 0)) (am_call_V (a := []) (st' := []) (Nat.le_of_ble_eq_true rfl) rfl (SE_k0 hE cuB_1)) (by decide +kernel : am_Lm m_C_goesOn = 2) (Nat.le_of_ble_eq_true rfl) rfl (by decide +kernel),
  fun l0 l1 l2 l3   E u hE => q_cV (by decide +kernel : am_Pg 108 63 = some (.invokevirtual 264, 3, [3, 107, 1, 0, 14, 1], 0)) (am_call_V (a := []) (st' := []) (Nat.le_of_ble_eq_true rfl) rfl (SE_k0 hE cuB_8)) (by decide +kernel : am_Lm m_C_goesOn = 2) (Nat.le_of_ble_eq_true rfl) rfl (by decide +kernel),
  fun l0 l1 l2 l3   E u hE => q_cV (by decide +kernel : am_Pg 108 63 = some (.invokevirtual 264, 3, [3, 107, 1, 0, 14, 1], 0)) (am_call_V (a := []) (st' := []) (Nat.le_of_ble_eq_true rfl) rfl (SE_k0 hE cuB_73)) (by decide +kernel : am_Lm m_C_goesOn = 2) (Nat.le_of_ble_eq_true rfl) rfl (by decide +kernel),
  fun l0 l1 l2 a st E u => q_go (by decide +kernel : am_Pg 108 66 = some (.iinc 3 1, 3, [], 0)) rfl,
  fun l0 l1 l2 l3 st E u => q_go (by decide +kernel : am_Pg 108 69 = some (.goto (-37), 3, [], 0)) rfl,
  fun l1 l2 l3 a st E u => q_go (by decide +kernel : am_Pg 108 72 = some (.aload_n 0, 1, [], 0)) rfl,
  fun l0 l1 l2 l3 st E u hE => q_gfR (by decide +kernel : am_Pg 108 73 = some (.getfield 12, 3, [4, 8, 0, 0], 0)) (SE_k4 hE) rfl (SE_r4_0 hE),
  fun l0 l1 l2 l3   E u hE => q_cI (by decide +kernel : am_Pg 108 76 = some (.invokevirtual 154, 3, [3, 91, 1, 0, 14, 1], 0)) (am_call_V (a := []) (st' := []) (Nat.le_of_ble_eq_true rfl) rfl (SE_k0 hE cuB_1)) (by decide +kernel : am_Lm m_C_holeCount = 1) (Nat.le_of_ble_eq_true rfl) rfl (by decide +kernel),
  fun l0 l1 l2 l3   E u hE => q_cI (by decide +kernel : am_Pg 108 76 = some (.invokevirtual 154, 3, [3, 91, 1, 0, 14, 1], 0)) (am_call_V (a := []) (st' := []) (Nat.le_of_ble_eq_true rfl) rfl (SE_k0 hE cuB_8)) (by decide +kernel : am_Lm m_C_holeCount = 1) (Nat.le_of_ble_eq_true rfl) rfl (by decide +kernel),
  fun l0 l1 l2 l3   E u hE => q_cI (by decide +kernel : am_Pg 108 76 = some (.invokevirtual 154, 3, [3, 91, 1, 0, 14, 1], 0)) (am_call_V (a := []) (st' := []) (Nat.le_of_ble_eq_true rfl) rfl (SE_k0 hE cuB_73)) (by decide +kernel : am_Lm m_C_holeCount = 1) (Nat.le_of_ble_eq_true rfl) rfl (by decide +kernel),
  fun l0 l1 l2 l3 a E u => q_ret (by decide +kernel : am_Pg 108 79 = some (.ireturn, 1, [], 0)) rfl⟩
theorem x_A_days :
  (∀ (l1 : am_V) (a : Option Nat) (st : List am_V) (E : am_E) (u : am_M), Rn m_A_days 0 [vR a, l1] st E u = Rn m_A_days 1 [vR a, l1] (vR a :: st) E u) ∧
  (∀ (l0 : am_V) (a : Int) (st : List am_V) (E : am_E) (u : am_M), Rn m_A_days 1 [l0, vI a] st E u = Rn m_A_days 2 [l0, vI a] (vI a :: st) E u) ∧
  (∀ (l0 l1 : am_V) (st : List am_V) (E : am_E) (u : am_M), Rn m_A_days 2 [l0, l1] st E u = Rn m_A_days 3 [l0, l1] (vI 0 :: st) E u) ∧
  (∀ (l0 l1 : am_V) (a0 : Int) (a1 : Int) (E : am_E) (u : am_M) (hE : SE E), Rn m_A_days 3 [l0, l1] [vI a1, vI a0, vR (some 0)] E u = bdI (Rn m_A_passes 0 [vR (some 0), vI a0, vI a1, vB false] [] E u) (KI m_A_days 6 [l0, l1] [])) ∧
  (∀ (l0 l1 : am_V) (a : Int) (E : am_E) (u : am_M), Rn m_A_days 6 [l0, l1] [vI a] E u = some (some (vI a), E, u)) :=
  ⟨fun l1 a st E u => q_go (by decide +kernel : am_Pg 109 0 = some (.aload_n 0, 1, [], 0)) rfl,
  fun l0 a st E u => q_go (by decide +kernel : am_Pg 109 1 = some (.iload_n 1, 1, [], 0)) rfl,
  fun l0 l1 st E u => q_go (by decide +kernel : am_Pg 109 2 = some (.iconst 0, 1, [], 0)) rfl,
  fun l0 l1 a0 a1  E u hE => q_cI (by decide +kernel : am_Pg 109 3 = some (.invokevirtual 166, 3, [3, 108, 3, 4, 8, 0], 0)) (am_call_V (a := [vI a0, vI a1]) (st' := []) (Nat.le_of_ble_eq_true rfl) rfl (SE_k4 hE)) (by decide +kernel : am_Lm m_A_passes = 4) (Nat.le_of_ble_eq_true rfl) rfl (by decide +kernel),
  fun l0 l1 a E u => q_ret (by decide +kernel : am_Pg 109 6 = some (.ireturn, 1, [], 0)) rfl⟩
theorem x_A_out :
  (∀ (l1 l2 : am_V) (a : Option Nat) (st : List am_V) (E : am_E) (u : am_M), Rn m_A_out 0 [vR a, l1, l2] st E u = Rn m_A_out 1 [vR a, l1, l2] (vR a :: st) E u) ∧
  (∀ (l0 l1 l2 : am_V) (st : List am_V) (E : am_E) (u : am_M) (hE : SE E), Rn m_A_out 1 [l0, l1, l2] (vR (some 0) :: st) E u = Rn m_A_out 4 [l0, l1, l2] (vR (some 1) :: st) E u) ∧
  (∀ (l0 l2 : am_V) (a : Int) (st : List am_V) (E : am_E) (u : am_M), Rn m_A_out 4 [l0, vI a, l2] st E u = Rn m_A_out 5 [l0, vI a, l2] (vI a :: st) E u) ∧
  (∀ (l0 l1 l2 : am_V) (a0 : Int) (E : am_E) (u : am_M) (hE : SE E), Rn m_A_out 5 [l0, l1, l2] [vI a0, vR (some 1)] E u = bdI (Rn m_C_isPin 0 [vR (some 1), vI a0] [] E u) (KI m_A_out 8 [l0, l1, l2] [])) ∧
  (∀ (l0 l1 l2 : am_V) (a0 : Int) (E : am_E) (u : am_M) (hE : SE E), Rn m_A_out 5 [l0, l1, l2] [vI a0, vR (some 8)] E u = bdI (Rn m_C_isPin 0 [vR (some 8), vI a0] [] E u) (KI m_A_out 8 [l0, l1, l2] [])) ∧
  (∀ (l0 l1 l2 : am_V) (a0 : Int) (E : am_E) (u : am_M) (hE : SE E), Rn m_A_out 5 [l0, l1, l2] [vI a0, vR (some 73)] E u = bdI (Rn m_C_isPin 0 [vR (some 73), vI a0] [] E u) (KI m_A_out 8 [l0, l1, l2] [])) ∧
  (∀ (l0 l1 l2 : am_V) (a : Int) (st : List am_V) (E : am_E) (u : am_M), Rn m_A_out 8 [l0, l1, l2] (vI a :: st) E u = if a = 0 then Rn m_A_out 11 [l0, l1, l2] st E u else Rn m_A_out 13 [l0, l1, l2] st E u) ∧
  (∀ (l0 l1 l2 : am_V) (st : List am_V) (E : am_E) (u : am_M), Rn m_A_out 11 [l0, l1, l2] st E u = Rn m_A_out 12 [l0, l1, l2] (vI (-1) :: st) E u) ∧
  (∀ (l0 l1 l2 : am_V) (a : Int) (E : am_E) (u : am_M), Rn m_A_out 12 [l0, l1, l2] [vI a] E u = some (some (vI a), E, u)) ∧
  (∀ (l1 l2 : am_V) (a : Option Nat) (st : List am_V) (E : am_E) (u : am_M), Rn m_A_out 13 [vR a, l1, l2] st E u = Rn m_A_out 14 [vR a, l1, l2] (vR a :: st) E u) ∧
  (∀ (l0 l1 l2 : am_V) (st : List am_V) (E : am_E) (u : am_M) (hE : SE E), Rn m_A_out 14 [l0, l1, l2] (vR (some 0) :: st) E u = Rn m_A_out 17 [l0, l1, l2] (vR (some 1) :: st) E u) ∧
  (∀ (l0 l1 l2 : am_V) (st : List am_V) (E : am_E) (u : am_M) (hE : SE E), Rn m_A_out 17 [l0, l1, l2] (vR (some 1) :: st) E u = Rn m_A_out 20 [l0, l1, l2] (vR (some 3) :: st) E u) ∧
  (∀ (l0 l1 l2 : am_V) (st : List am_V) (E : am_E) (u : am_M) (hE : SE E), Rn m_A_out 17 [l0, l1, l2] (vR (some 8) :: st) E u = Rn m_A_out 20 [l0, l1, l2] (vR (some 10) :: st) E u) ∧
  (∀ (l0 l1 l2 : am_V) (st : List am_V) (E : am_E) (u : am_M) (hE : SE E), Rn m_A_out 17 [l0, l1, l2] (vR (some 73) :: st) E u = Rn m_A_out 20 [l0, l1, l2] (vR (some 75) :: st) E u) ∧
  (∀ (l0 l2 : am_V) (a : Int) (st : List am_V) (E : am_E) (u : am_M), Rn m_A_out 20 [l0, vI a, l2] st E u = Rn m_A_out 21 [l0, vI a, l2] (vI a :: st) E u) ∧
  (∀ (l0 l1 l2 : am_V) (a0 : Option Nat) (a1 : Int) (E : am_E) (u : am_M), Rn m_A_out 21 [l0, l1, l2] [vI a1, vR a0] E u = bdI (Rn m_A_look 0 [vR a0, vI a1] [] E u) (KI m_A_out 24 [l0, l1, l2] [])) ∧
  (∀ (l0 l1 l2 : am_V) (a : Int) (st : List am_V) (E : am_E) (u : am_M), Rn m_A_out 24 [l0, l1, l2] (vI a :: st) E u = Rn m_A_out 25 [l0, am_fx l1, vI a] st E u) ∧
  (∀ (l0 l1 : am_V) (a : Int) (st : List am_V) (E : am_E) (u : am_M), Rn m_A_out 25 [l0, l1, vI a] st E u = Rn m_A_out 26 [l0, l1, vI a] (vI a :: st) E u) ∧
  (∀ (l0 l1 l2 : am_V) (st : List am_V) (E : am_E) (u : am_M), Rn m_A_out 26 [l0, l1, l2] st E u = Rn m_A_out 28 [l0, l1, l2] (vI (-4) :: st) E u) ∧
  (∀ (l0 l1 l2 : am_V) (a b : Int) (st : List am_V) (E : am_E) (u : am_M), Rn m_A_out 28 [l0, l1, l2] (vI b :: vI a :: st) E u = if a = b then Rn m_A_out 31 [l0, l1, l2] st E u else Rn m_A_out 34 [l0, l1, l2] st E u) ∧
  (∀ (l0 l1 l2 : am_V) (st : List am_V) (E : am_E) (u : am_M), Rn m_A_out 31 [l0, l1, l2] st E u = Rn m_A_out 33 [l0, l1, l2] (vI (-2) :: st) E u) ∧
  (∀ (l0 l1 l2 : am_V) (a : Int) (E : am_E) (u : am_M), Rn m_A_out 33 [l0, l1, l2] [vI a] E u = some (some (vI a), E, u)) ∧
  (∀ (l1 l2 : am_V) (a : Option Nat) (st : List am_V) (E : am_E) (u : am_M), Rn m_A_out 34 [vR a, l1, l2] st E u = Rn m_A_out 35 [vR a, l1, l2] (vR a :: st) E u) ∧
  (∀ (l0 l1 l2 : am_V) (st : List am_V) (E : am_E) (u : am_M) (hE : SE E), Rn m_A_out 35 [l0, l1, l2] (vR (some 0) :: st) E u = Rn m_A_out 38 [l0, l1, l2] (vR (some 15) :: st) E u) ∧
  (∀ (l1 l2 : am_V) (a : Option Nat) (st : List am_V) (E : am_E) (u : am_M), Rn m_A_out 38 [vR a, l1, l2] st E u = Rn m_A_out 39 [vR a, l1, l2] (vR a :: st) E u) ∧
  (∀ (l0 l1 l2 : am_V) (st : List am_V) (E : am_E) (u : am_M) (hE : SE E), Rn m_A_out 39 [l0, l1, l2] (vR (some 0) :: st) E u = Rn m_A_out 42 [l0, l1, l2] (vR (some 1) :: st) E u) ∧
  (∀ (l0 l1 l2 : am_V) (a0 : Option Nat) (E : am_E) (u : am_M) (hE : SE E), Rn m_A_out 42 [l0, l1, l2] [vR a0, vR (some 15)] E u = bdV (Rn m_P_keeps 0 [vR (some 15), vR a0, vB false] [] E u) (KV m_A_out 45 [l0, l1, l2] [])) ∧
  (∀ (l0 l1 l2 : am_V) (a0 : Option Nat) (E : am_E) (u : am_M) (hE : SE E), Rn m_A_out 42 [l0, l1, l2] [vR a0, vR (some 80)] E u = bdV (Rn m_P_keeps 0 [vR (some 80), vR a0, vB false] [] E u) (KV m_A_out 45 [l0, l1, l2] [])) ∧
  (∀ (l1 l2 : am_V) (a : Option Nat) (st : List am_V) (E : am_E) (u : am_M), Rn m_A_out 45 [vR a, l1, l2] st E u = Rn m_A_out 46 [vR a, l1, l2] (vR a :: st) E u) ∧
  (∀ (l0 l1 l2 : am_V) (st : List am_V) (E : am_E) (u : am_M) (hE : SE E), Rn m_A_out 46 [l0, l1, l2] (vR (some 0) :: st) E u = Rn m_A_out 49 [l0, l1, l2] (vR (some 1) :: st) E u) ∧
  (∀ (l0 l1 l2 : am_V) (st : List am_V) (E : am_E) (u : am_M) (hE : SE E), Rn m_A_out 49 [l0, l1, l2] (vR (some 1) :: st) E u = Rn m_A_out 52 [l0, l1, l2] (vR (some 3) :: st) E u) ∧
  (∀ (l0 l1 l2 : am_V) (st : List am_V) (E : am_E) (u : am_M) (hE : SE E), Rn m_A_out 49 [l0, l1, l2] (vR (some 8) :: st) E u = Rn m_A_out 52 [l0, l1, l2] (vR (some 10) :: st) E u) ∧
  (∀ (l0 l1 l2 : am_V) (st : List am_V) (E : am_E) (u : am_M) (hE : SE E), Rn m_A_out 49 [l0, l1, l2] (vR (some 73) :: st) E u = Rn m_A_out 52 [l0, l1, l2] (vR (some 75) :: st) E u) ∧
  (∀ (l0 l2 : am_V) (a : Int) (st : List am_V) (E : am_E) (u : am_M), Rn m_A_out 52 [l0, vI a, l2] st E u = Rn m_A_out 53 [l0, vI a, l2] (vI a :: st) E u) ∧
  (∀ (l0 l1 l2 : am_V) (st : List am_V) (E : am_E) (u : am_M), Rn m_A_out 53 [l0, l1, l2] st E u = Rn m_A_out 55 [l0, l1, l2] (vI (-4) :: st) E u) ∧
  (∀ (l0 l1 l2 : am_V) (a0 : Option Nat) (a1 : Int) (a2 : Int) (E : am_E) (u : am_M), Rn m_A_out 55 [l0, l1, l2] [vI a2, vI a1, vR a0] E u = bdV (Rn m_A_lay 0 [vR a0, vI a1, vI a2] [] E u) (KV m_A_out 58 [l0, l1, l2] [])) ∧
  (∀ (l1 l2 : am_V) (a : Option Nat) (st : List am_V) (E : am_E) (u : am_M), Rn m_A_out 58 [vR a, l1, l2] st E u = Rn m_A_out 59 [vR a, l1, l2] (vR a :: st) E u) ∧
  (∀ (l0 l1 l2 : am_V) (st : List am_V) (E : am_E) (u : am_M) (hE : SE E), Rn m_A_out 59 [l0, l1, l2] (vR (some 0) :: st) E u = Rn m_A_out 62 [l0, l1, l2] (vR (some 1) :: st) E u) ∧
  (∀ (l0 l1 : am_V) (a : Int) (st : List am_V) (E : am_E) (u : am_M), Rn m_A_out 62 [l0, l1, vI a] st E u = Rn m_A_out 63 [l0, l1, vI a] (vI a :: st) E u) ∧
  (∀ (l0 l1 l2 : am_V) (a0 : Int) (E : am_E) (u : am_M) (hE : SE E), Rn m_A_out 63 [l0, l1, l2] [vI a0, vR (some 1)] E u = bdV (Rn m_C_opens 0 [vR (some 1), vI a0] [] E u) (KV m_A_out 66 [l0, l1, l2] [])) ∧
  (∀ (l0 l1 l2 : am_V) (a0 : Int) (E : am_E) (u : am_M) (hE : SE E), Rn m_A_out 63 [l0, l1, l2] [vI a0, vR (some 8)] E u = bdV (Rn m_C_opens 0 [vR (some 8), vI a0] [] E u) (KV m_A_out 66 [l0, l1, l2] [])) ∧
  (∀ (l0 l1 l2 : am_V) (a0 : Int) (E : am_E) (u : am_M) (hE : SE E), Rn m_A_out 63 [l0, l1, l2] [vI a0, vR (some 73)] E u = bdV (Rn m_C_opens 0 [vR (some 73), vI a0] [] E u) (KV m_A_out 66 [l0, l1, l2] [])) ∧
  (∀ (l0 l1 : am_V) (a : Int) (st : List am_V) (E : am_E) (u : am_M), Rn m_A_out 66 [l0, l1, vI a] st E u = Rn m_A_out 67 [l0, l1, vI a] (vI a :: st) E u) ∧
  (∀ (l0 l1 l2 : am_V) (a : Int) (E : am_E) (u : am_M), Rn m_A_out 67 [l0, l1, l2] [vI a] E u = some (some (vI a), E, u)) :=
  ⟨fun l1 l2 a st E u => q_go (by decide +kernel : am_Pg 117 0 = some (.aload_n 0, 1, [], 0)) rfl,
  fun l0 l1 l2 st E u hE => q_gfR (by decide +kernel : am_Pg 117 1 = some (.getfield 12, 3, [4, 8, 0, 0], 0)) (SE_k4 hE) rfl (SE_r4_0 hE),
  fun l0 l2 a st E u => q_go (by decide +kernel : am_Pg 117 4 = some (.iload_n 1, 1, [], 0)) rfl,
  fun l0 l1 l2 a0  E u hE => q_cI (by decide +kernel : am_Pg 117 5 = some (.invokevirtual 87, 3, [3, 29, 2, 0, 14, 1], 0)) (am_call_V (a := [vI a0]) (st' := []) (Nat.le_of_ble_eq_true rfl) rfl (SE_k0 hE cuB_1)) (by decide +kernel : am_Lm m_C_isPin = 2) (Nat.le_of_ble_eq_true rfl) rfl (by decide +kernel),
  fun l0 l1 l2 a0  E u hE => q_cI (by decide +kernel : am_Pg 117 5 = some (.invokevirtual 87, 3, [3, 29, 2, 0, 14, 1], 0)) (am_call_V (a := [vI a0]) (st' := []) (Nat.le_of_ble_eq_true rfl) rfl (SE_k0 hE cuB_8)) (by decide +kernel : am_Lm m_C_isPin = 2) (Nat.le_of_ble_eq_true rfl) rfl (by decide +kernel),
  fun l0 l1 l2 a0  E u hE => q_cI (by decide +kernel : am_Pg 117 5 = some (.invokevirtual 87, 3, [3, 29, 2, 0, 14, 1], 0)) (am_call_V (a := [vI a0]) (st' := []) (Nat.le_of_ble_eq_true rfl) rfl (SE_k0 hE cuB_73)) (by decide +kernel : am_Lm m_C_isPin = 2) (Nat.le_of_ble_eq_true rfl) rfl (by decide +kernel),
  fun l0 l1 l2 a st E u => q_if_ne (tgt := 13) (by decide +kernel : am_Pg 117 8 = some (.ifCond .ne 5, 3, [], 0)) (by decide),
  fun l0 l1 l2 st E u => q_go (by decide +kernel : am_Pg 117 11 = some (.iconst (-1), 1, [], 0)) rfl,
  fun l0 l1 l2 a E u => q_ret (by decide +kernel : am_Pg 117 12 = some (.ireturn, 1, [], 0)) rfl,
  fun l1 l2 a st E u => q_go (by decide +kernel : am_Pg 117 13 = some (.aload_n 0, 1, [], 0)) rfl,
  fun l0 l1 l2 st E u hE => q_gfR (by decide +kernel : am_Pg 117 14 = some (.getfield 12, 3, [4, 8, 0, 0], 0)) (SE_k4 hE) rfl (SE_r4_0 hE),
  fun l0 l1 l2 st E u hE => q_gfR (by decide +kernel : am_Pg 117 17 = some (.getfield 98, 3, [0, 14, 9, 1], 0)) (SE_k0 hE cuB_1) rfl (SE_r0_9 hE cuB_1),
  fun l0 l1 l2 st E u hE => q_gfR (by decide +kernel : am_Pg 117 17 = some (.getfield 98, 3, [0, 14, 9, 1], 0)) (SE_k0 hE cuB_8) rfl (SE_r0_9 hE cuB_8),
  fun l0 l1 l2 st E u hE => q_gfR (by decide +kernel : am_Pg 117 17 = some (.getfield 98, 3, [0, 14, 9, 1], 0)) (SE_k0 hE cuB_73) rfl (SE_r0_9 hE cuB_73),
  fun l0 l2 a st E u => q_go (by decide +kernel : am_Pg 117 20 = some (.iload_n 1, 1, [], 0)) rfl,
  fun l0 l1 l2 a0 a1  E u => q_cI (by decide +kernel : am_Pg 117 21 = some (.invokestatic 94, 3, [2, 36, 2, 0], 0)) (am_call_S (f := fun _ _ => true) (a := [vR a0, vI a1]) (st' := []) (Nat.le_of_ble_eq_true rfl) rfl rfl) (by decide +kernel : am_Lm m_A_look = 2) (Nat.le_of_ble_eq_true rfl) rfl (by decide +kernel),
  fun l0 l1 l2 a st E u => q_go (by decide +kernel : am_Pg 117 24 = some (.istore_n 2, 1, [], 0)) rfl,
  fun l0 l1 a st E u => q_go (by decide +kernel : am_Pg 117 25 = some (.iload_n 2, 1, [], 0)) rfl,
  fun l0 l1 l2 st E u => q_go (by decide +kernel : am_Pg 117 26 = some (.bipush (-4), 2, [], 0)) rfl,
  fun l0 l1 l2 a b st E u => q_icmp_ne (tgt := 34) (by decide +kernel : am_Pg 117 28 = some (.if_icmp .ne 6, 3, [], 0)) (by decide),
  fun l0 l1 l2 st E u => q_go (by decide +kernel : am_Pg 117 31 = some (.bipush (-2), 2, [], 0)) rfl,
  fun l0 l1 l2 a E u => q_ret (by decide +kernel : am_Pg 117 33 = some (.ireturn, 1, [], 0)) rfl,
  fun l1 l2 a st E u => q_go (by decide +kernel : am_Pg 117 34 = some (.aload_n 0, 1, [], 0)) rfl,
  fun l0 l1 l2 st E u hE => q_gfR (by decide +kernel : am_Pg 117 35 = some (.getfield 22, 3, [4, 8, 2, 0], 0)) (SE_k4 hE) rfl (SE_r4_2 hE),
  fun l1 l2 a st E u => q_go (by decide +kernel : am_Pg 117 38 = some (.aload_n 0, 1, [], 0)) rfl,
  fun l0 l1 l2 st E u hE => q_gfR (by decide +kernel : am_Pg 117 39 = some (.getfield 12, 3, [4, 8, 0, 0], 0)) (SE_k4 hE) rfl (SE_r4_0 hE),
  fun l0 l1 l2 a0  E u hE => q_cV (by decide +kernel : am_Pg 117 42 = some (.invokevirtual 170, 3, [3, 100, 2, 1, 3, 1], 0)) (am_call_V (a := [vR a0]) (st' := []) (Nat.le_of_ble_eq_true rfl) rfl (SE_k1 hE paB_15)) (by decide +kernel : am_Lm m_P_keeps = 3) (Nat.le_of_ble_eq_true rfl) rfl (by decide +kernel),
  fun l0 l1 l2 a0  E u hE => q_cV (by decide +kernel : am_Pg 117 42 = some (.invokevirtual 170, 3, [3, 100, 2, 1, 3, 1], 0)) (am_call_V (a := [vR a0]) (st' := []) (Nat.le_of_ble_eq_true rfl) rfl (SE_k1 hE paB_80)) (by decide +kernel : am_Lm m_P_keeps = 3) (Nat.le_of_ble_eq_true rfl) rfl (by decide +kernel),
  fun l1 l2 a st E u => q_go (by decide +kernel : am_Pg 117 45 = some (.aload_n 0, 1, [], 0)) rfl,
  fun l0 l1 l2 st E u hE => q_gfR (by decide +kernel : am_Pg 117 46 = some (.getfield 12, 3, [4, 8, 0, 0], 0)) (SE_k4 hE) rfl (SE_r4_0 hE),
  fun l0 l1 l2 st E u hE => q_gfR (by decide +kernel : am_Pg 117 49 = some (.getfield 98, 3, [0, 14, 9, 1], 0)) (SE_k0 hE cuB_1) rfl (SE_r0_9 hE cuB_1),
  fun l0 l1 l2 st E u hE => q_gfR (by decide +kernel : am_Pg 117 49 = some (.getfield 98, 3, [0, 14, 9, 1], 0)) (SE_k0 hE cuB_8) rfl (SE_r0_9 hE cuB_8),
  fun l0 l1 l2 st E u hE => q_gfR (by decide +kernel : am_Pg 117 49 = some (.getfield 98, 3, [0, 14, 9, 1], 0)) (SE_k0 hE cuB_73) rfl (SE_r0_9 hE cuB_73),
  fun l0 l2 a st E u => q_go (by decide +kernel : am_Pg 117 52 = some (.iload_n 1, 1, [], 0)) rfl,
  fun l0 l1 l2 st E u => q_go (by decide +kernel : am_Pg 117 53 = some (.bipush (-4), 2, [], 0)) rfl,
  fun l0 l1 l2 a0 a1 a2  E u => q_cV (by decide +kernel : am_Pg 117 55 = some (.invokestatic 173, 3, [2, 19, 3, 0], 0)) (am_call_S (f := fun _ _ => true) (a := [vR a0, vI a1, vI a2]) (st' := []) (Nat.le_of_ble_eq_true rfl) rfl rfl) (by decide +kernel : am_Lm m_A_lay = 3) (Nat.le_of_ble_eq_true rfl) rfl (by decide +kernel),
  fun l1 l2 a st E u => q_go (by decide +kernel : am_Pg 117 58 = some (.aload_n 0, 1, [], 0)) rfl,
  fun l0 l1 l2 st E u hE => q_gfR (by decide +kernel : am_Pg 117 59 = some (.getfield 12, 3, [4, 8, 0, 0], 0)) (SE_k4 hE) rfl (SE_r4_0 hE),
  fun l0 l1 a st E u => q_go (by decide +kernel : am_Pg 117 62 = some (.iload_n 2, 1, [], 0)) rfl,
  fun l0 l1 l2 a0  E u hE => q_cV (by decide +kernel : am_Pg 117 63 = some (.invokevirtual 177, 3, [3, 70, 2, 0, 14, 1], 0)) (am_call_V (a := [vI a0]) (st' := []) (Nat.le_of_ble_eq_true rfl) rfl (SE_k0 hE cuB_1)) (by decide +kernel : am_Lm m_C_opens = 2) (Nat.le_of_ble_eq_true rfl) rfl (by decide +kernel),
  fun l0 l1 l2 a0  E u hE => q_cV (by decide +kernel : am_Pg 117 63 = some (.invokevirtual 177, 3, [3, 70, 2, 0, 14, 1], 0)) (am_call_V (a := [vI a0]) (st' := []) (Nat.le_of_ble_eq_true rfl) rfl (SE_k0 hE cuB_8)) (by decide +kernel : am_Lm m_C_opens = 2) (Nat.le_of_ble_eq_true rfl) rfl (by decide +kernel),
  fun l0 l1 l2 a0  E u hE => q_cV (by decide +kernel : am_Pg 117 63 = some (.invokevirtual 177, 3, [3, 70, 2, 0, 14, 1], 0)) (am_call_V (a := [vI a0]) (st' := []) (Nat.le_of_ble_eq_true rfl) rfl (SE_k0 hE cuB_73)) (by decide +kernel : am_Lm m_C_opens = 2) (Nat.le_of_ble_eq_true rfl) rfl (by decide +kernel),
  fun l0 l1 a st E u => q_go (by decide +kernel : am_Pg 117 66 = some (.iload_n 2, 1, [], 0)) rfl,
  fun l0 l1 l2 a E u => q_ret (by decide +kernel : am_Pg 117 67 = some (.ireturn, 1, [], 0)) rfl⟩
theorem x_A_put :
  (∀ (l1 l2 : am_V) (a : Option Nat) (st : List am_V) (E : am_E) (u : am_M), Rn m_A_put 0 [vR a, l1, l2] st E u = Rn m_A_put 1 [vR a, l1, l2] (vR a :: st) E u) ∧
  (∀ (l0 l1 l2 : am_V) (st : List am_V) (E : am_E) (u : am_M) (hE : SE E), Rn m_A_put 1 [l0, l1, l2] (vR (some 0) :: st) E u = Rn m_A_put 4 [l0, l1, l2] (vR (some 1) :: st) E u) ∧
  (∀ (l0 l2 : am_V) (a : Int) (st : List am_V) (E : am_E) (u : am_M), Rn m_A_put 4 [l0, vI a, l2] st E u = Rn m_A_put 5 [l0, vI a, l2] (vI a :: st) E u) ∧
  (∀ (l0 l1 l2 : am_V) (a0 : Int) (E : am_E) (u : am_M) (hE : SE E), Rn m_A_put 5 [l0, l1, l2] [vI a0, vR (some 1)] E u = bdI (Rn m_C_isPin 0 [vR (some 1), vI a0] [] E u) (KI m_A_put 8 [l0, l1, l2] [])) ∧
  (∀ (l0 l1 l2 : am_V) (a0 : Int) (E : am_E) (u : am_M) (hE : SE E), Rn m_A_put 5 [l0, l1, l2] [vI a0, vR (some 8)] E u = bdI (Rn m_C_isPin 0 [vR (some 8), vI a0] [] E u) (KI m_A_put 8 [l0, l1, l2] [])) ∧
  (∀ (l0 l1 l2 : am_V) (a0 : Int) (E : am_E) (u : am_M) (hE : SE E), Rn m_A_put 5 [l0, l1, l2] [vI a0, vR (some 73)] E u = bdI (Rn m_C_isPin 0 [vR (some 73), vI a0] [] E u) (KI m_A_put 8 [l0, l1, l2] [])) ∧
  (∀ (l0 l1 l2 : am_V) (a : Int) (st : List am_V) (E : am_E) (u : am_M), Rn m_A_put 8 [l0, l1, l2] (vI a :: st) E u = if a = 0 then Rn m_A_put 22 [l0, l1, l2] st E u else Rn m_A_put 11 [l0, l1, l2] st E u) ∧
  (∀ (l1 l2 : am_V) (a : Option Nat) (st : List am_V) (E : am_E) (u : am_M), Rn m_A_put 11 [vR a, l1, l2] st E u = Rn m_A_put 12 [vR a, l1, l2] (vR a :: st) E u) ∧
  (∀ (l0 l1 l2 : am_V) (st : List am_V) (E : am_E) (u : am_M) (hE : SE E), Rn m_A_put 12 [l0, l1, l2] (vR (some 0) :: st) E u = Rn m_A_put 15 [l0, l1, l2] (vR (some 1) :: st) E u) ∧
  (∀ (l0 l1 : am_V) (a : Int) (st : List am_V) (E : am_E) (u : am_M), Rn m_A_put 15 [l0, l1, vI a] st E u = Rn m_A_put 16 [l0, l1, vI a] (vI a :: st) E u) ∧
  (∀ (l0 l1 l2 : am_V) (a0 : Int) (E : am_E) (u : am_M) (hE : SE E), Rn m_A_put 16 [l0, l1, l2] [vI a0, vR (some 1)] E u = bdI (Rn m_C_isCell 0 [vR (some 1), vI a0] [] E u) (KI m_A_put 19 [l0, l1, l2] [])) ∧
  (∀ (l0 l1 l2 : am_V) (a0 : Int) (E : am_E) (u : am_M) (hE : SE E), Rn m_A_put 16 [l0, l1, l2] [vI a0, vR (some 8)] E u = bdI (Rn m_C_isCell 0 [vR (some 8), vI a0] [] E u) (KI m_A_put 19 [l0, l1, l2] [])) ∧
  (∀ (l0 l1 l2 : am_V) (a0 : Int) (E : am_E) (u : am_M) (hE : SE E), Rn m_A_put 16 [l0, l1, l2] [vI a0, vR (some 73)] E u = bdI (Rn m_C_isCell 0 [vR (some 73), vI a0] [] E u) (KI m_A_put 19 [l0, l1, l2] [])) ∧
  (∀ (l0 l1 l2 : am_V) (a : Int) (st : List am_V) (E : am_E) (u : am_M), Rn m_A_put 19 [l0, l1, l2] (vI a :: st) E u = if a = 0 then Rn m_A_put 22 [l0, l1, l2] st E u else Rn m_A_put 24 [l0, l1, l2] st E u) ∧
  (∀ (l0 l1 l2 : am_V) (st : List am_V) (E : am_E) (u : am_M), Rn m_A_put 22 [l0, l1, l2] st E u = Rn m_A_put 23 [l0, l1, l2] (vI (-1) :: st) E u) ∧
  (∀ (l0 l1 l2 : am_V) (a : Int) (E : am_E) (u : am_M), Rn m_A_put 23 [l0, l1, l2] [vI a] E u = some (some (vI a), E, u)) ∧
  (∀ (l1 l2 : am_V) (a : Option Nat) (st : List am_V) (E : am_E) (u : am_M), Rn m_A_put 24 [vR a, l1, l2] st E u = Rn m_A_put 25 [vR a, l1, l2] (vR a :: st) E u) ∧
  (∀ (l0 l1 l2 : am_V) (st : List am_V) (E : am_E) (u : am_M) (hE : SE E), Rn m_A_put 25 [l0, l1, l2] (vR (some 0) :: st) E u = Rn m_A_put 28 [l0, l1, l2] (vR (some 1) :: st) E u) ∧
  (∀ (l0 l1 l2 : am_V) (st : List am_V) (E : am_E) (u : am_M) (hE : SE E), Rn m_A_put 28 [l0, l1, l2] (vR (some 1) :: st) E u = Rn m_A_put 31 [l0, l1, l2] (vR (some 3) :: st) E u) ∧
  (∀ (l0 l1 l2 : am_V) (st : List am_V) (E : am_E) (u : am_M) (hE : SE E), Rn m_A_put 28 [l0, l1, l2] (vR (some 8) :: st) E u = Rn m_A_put 31 [l0, l1, l2] (vR (some 10) :: st) E u) ∧
  (∀ (l0 l1 l2 : am_V) (st : List am_V) (E : am_E) (u : am_M) (hE : SE E), Rn m_A_put 28 [l0, l1, l2] (vR (some 73) :: st) E u = Rn m_A_put 31 [l0, l1, l2] (vR (some 75) :: st) E u) ∧
  (∀ (l0 l2 : am_V) (a : Int) (st : List am_V) (E : am_E) (u : am_M), Rn m_A_put 31 [l0, vI a, l2] st E u = Rn m_A_put 32 [l0, vI a, l2] (vI a :: st) E u) ∧
  (∀ (l0 l1 l2 : am_V) (a0 : Option Nat) (a1 : Int) (E : am_E) (u : am_M), Rn m_A_put 32 [l0, l1, l2] [vI a1, vR a0] E u = bdI (Rn m_A_look 0 [vR a0, vI a1] [] E u) (KI m_A_put 35 [l0, l1, l2] [])) ∧
  (∀ (l0 l1 l2 : am_V) (st : List am_V) (E : am_E) (u : am_M), Rn m_A_put 35 [l0, l1, l2] st E u = Rn m_A_put 37 [l0, l1, l2] (vI (-4) :: st) E u) ∧
  (∀ (l0 l1 l2 : am_V) (a b : Int) (st : List am_V) (E : am_E) (u : am_M), Rn m_A_put 37 [l0, l1, l2] (vI b :: vI a :: st) E u = if a = b then Rn m_A_put 40 [l0, l1, l2] st E u else Rn m_A_put 53 [l0, l1, l2] st E u) ∧
  (∀ (l1 l2 : am_V) (a : Option Nat) (st : List am_V) (E : am_E) (u : am_M), Rn m_A_put 40 [vR a, l1, l2] st E u = Rn m_A_put 41 [vR a, l1, l2] (vR a :: st) E u) ∧
  (∀ (l0 l1 l2 : am_V) (st : List am_V) (E : am_E) (u : am_M) (hE : SE E), Rn m_A_put 41 [l0, l1, l2] (vR (some 0) :: st) E u = Rn m_A_put 44 [l0, l1, l2] (vR (some 1) :: st) E u) ∧
  (∀ (l0 l1 : am_V) (a : Int) (st : List am_V) (E : am_E) (u : am_M), Rn m_A_put 44 [l0, l1, vI a] st E u = Rn m_A_put 45 [l0, l1, vI a] (vI a :: st) E u) ∧
  (∀ (l0 l1 l2 : am_V) (a0 : Int) (E : am_E) (u : am_M) (hE : SE E), Rn m_A_put 45 [l0, l1, l2] [vI a0, vR (some 1)] E u = bdI (Rn m_C_pinOn 0 [vR (some 1), vI a0, vB false] [] E u) (KI m_A_put 48 [l0, l1, l2] [])) ∧
  (∀ (l0 l1 l2 : am_V) (a0 : Int) (E : am_E) (u : am_M) (hE : SE E), Rn m_A_put 45 [l0, l1, l2] [vI a0, vR (some 8)] E u = bdI (Rn m_C_pinOn 0 [vR (some 8), vI a0, vB false] [] E u) (KI m_A_put 48 [l0, l1, l2] [])) ∧
  (∀ (l0 l1 l2 : am_V) (a0 : Int) (E : am_E) (u : am_M) (hE : SE E), Rn m_A_put 45 [l0, l1, l2] [vI a0, vR (some 73)] E u = bdI (Rn m_C_pinOn 0 [vR (some 73), vI a0, vB false] [] E u) (KI m_A_put 48 [l0, l1, l2] [])) ∧
  (∀ (l0 l1 l2 : am_V) (st : List am_V) (E : am_E) (u : am_M), Rn m_A_put 48 [l0, l1, l2] st E u = Rn m_A_put 50 [l0, l1, l2] (vI (-4) :: st) E u) ∧
  (∀ (l0 l1 l2 : am_V) (a b : Int) (st : List am_V) (E : am_E) (u : am_M), Rn m_A_put 50 [l0, l1, l2] (vI b :: vI a :: st) E u = if a = b then Rn m_A_put 56 [l0, l1, l2] st E u else Rn m_A_put 53 [l0, l1, l2] st E u) ∧
  (∀ (l0 l1 l2 : am_V) (st : List am_V) (E : am_E) (u : am_M), Rn m_A_put 53 [l0, l1, l2] st E u = Rn m_A_put 55 [l0, l1, l2] (vI (-2) :: st) E u) ∧
  (∀ (l0 l1 l2 : am_V) (a : Int) (E : am_E) (u : am_M), Rn m_A_put 55 [l0, l1, l2] [vI a] E u = some (some (vI a), E, u)) ∧
  (∀ (l1 l2 : am_V) (a : Option Nat) (st : List am_V) (E : am_E) (u : am_M), Rn m_A_put 56 [vR a, l1, l2] st E u = Rn m_A_put 57 [vR a, l1, l2] (vR a :: st) E u) ∧
  (∀ (l0 l1 l2 : am_V) (st : List am_V) (E : am_E) (u : am_M) (hE : SE E), Rn m_A_put 57 [l0, l1, l2] (vR (some 0) :: st) E u = Rn m_A_put 60 [l0, l1, l2] (vR (some 15) :: st) E u) ∧
  (∀ (l1 l2 : am_V) (a : Option Nat) (st : List am_V) (E : am_E) (u : am_M), Rn m_A_put 60 [vR a, l1, l2] st E u = Rn m_A_put 61 [vR a, l1, l2] (vR a :: st) E u) ∧
  (∀ (l0 l1 l2 : am_V) (st : List am_V) (E : am_E) (u : am_M) (hE : SE E), Rn m_A_put 61 [l0, l1, l2] (vR (some 0) :: st) E u = Rn m_A_put 64 [l0, l1, l2] (vR (some 1) :: st) E u) ∧
  (∀ (l0 l1 l2 : am_V) (a0 : Option Nat) (E : am_E) (u : am_M) (hE : SE E), Rn m_A_put 64 [l0, l1, l2] [vR a0, vR (some 15)] E u = bdV (Rn m_P_keeps 0 [vR (some 15), vR a0, vB false] [] E u) (KV m_A_put 67 [l0, l1, l2] [])) ∧
  (∀ (l0 l1 l2 : am_V) (a0 : Option Nat) (E : am_E) (u : am_M) (hE : SE E), Rn m_A_put 64 [l0, l1, l2] [vR a0, vR (some 80)] E u = bdV (Rn m_P_keeps 0 [vR (some 80), vR a0, vB false] [] E u) (KV m_A_put 67 [l0, l1, l2] [])) ∧
  (∀ (l1 l2 : am_V) (a : Option Nat) (st : List am_V) (E : am_E) (u : am_M), Rn m_A_put 67 [vR a, l1, l2] st E u = Rn m_A_put 68 [vR a, l1, l2] (vR a :: st) E u) ∧
  (∀ (l0 l1 l2 : am_V) (st : List am_V) (E : am_E) (u : am_M) (hE : SE E), Rn m_A_put 68 [l0, l1, l2] (vR (some 0) :: st) E u = Rn m_A_put 71 [l0, l1, l2] (vR (some 1) :: st) E u) ∧
  (∀ (l0 l2 : am_V) (a : Int) (st : List am_V) (E : am_E) (u : am_M), Rn m_A_put 71 [l0, vI a, l2] st E u = Rn m_A_put 72 [l0, vI a, l2] (vI a :: st) E u) ∧
  (∀ (l0 l1 : am_V) (a : Int) (st : List am_V) (E : am_E) (u : am_M), Rn m_A_put 72 [l0, l1, vI a] st E u = Rn m_A_put 73 [l0, l1, vI a] (vI a :: st) E u) ∧
  (∀ (l0 l1 l2 : am_V) (a0 : Int) (a1 : Int) (E : am_E) (u : am_M) (hE : SE E), Rn m_A_put 73 [l0, l1, l2] [vI a1, vI a0, vR (some 1)] E u = bdV (Rn m_C_sets 0 [vR (some 1), vI a0, vI a1] [] E u) (KV m_A_put 76 [l0, l1, l2] [])) ∧
  (∀ (l0 l1 l2 : am_V) (a0 : Int) (a1 : Int) (E : am_E) (u : am_M) (hE : SE E), Rn m_A_put 73 [l0, l1, l2] [vI a1, vI a0, vR (some 8)] E u = bdV (Rn m_C_sets 0 [vR (some 8), vI a0, vI a1] [] E u) (KV m_A_put 76 [l0, l1, l2] [])) ∧
  (∀ (l0 l1 l2 : am_V) (a0 : Int) (a1 : Int) (E : am_E) (u : am_M) (hE : SE E), Rn m_A_put 73 [l0, l1, l2] [vI a1, vI a0, vR (some 73)] E u = bdV (Rn m_C_sets 0 [vR (some 73), vI a0, vI a1] [] E u) (KV m_A_put 76 [l0, l1, l2] [])) ∧
  (∀ (l1 l2 : am_V) (a : Option Nat) (st : List am_V) (E : am_E) (u : am_M), Rn m_A_put 76 [vR a, l1, l2] st E u = Rn m_A_put 77 [vR a, l1, l2] (vR a :: st) E u) ∧
  (∀ (l0 l1 l2 : am_V) (st : List am_V) (E : am_E) (u : am_M) (hE : SE E), Rn m_A_put 77 [l0, l1, l2] (vR (some 0) :: st) E u = Rn m_A_put 80 [l0, l1, l2] (vR (some 1) :: st) E u) ∧
  (∀ (l0 l1 l2 : am_V) (E : am_E) (u : am_M) (hE : SE E), Rn m_A_put 80 [l0, l1, l2] [vR (some 1)] E u = bdI (Rn m_C_holeCount 0 [vR (some 1)] [] E u) (KI m_A_put 83 [l0, l1, l2] [])) ∧
  (∀ (l0 l1 l2 : am_V) (E : am_E) (u : am_M) (hE : SE E), Rn m_A_put 80 [l0, l1, l2] [vR (some 8)] E u = bdI (Rn m_C_holeCount 0 [vR (some 8)] [] E u) (KI m_A_put 83 [l0, l1, l2] [])) ∧
  (∀ (l0 l1 l2 : am_V) (E : am_E) (u : am_M) (hE : SE E), Rn m_A_put 80 [l0, l1, l2] [vR (some 73)] E u = bdI (Rn m_C_holeCount 0 [vR (some 73)] [] E u) (KI m_A_put 83 [l0, l1, l2] [])) ∧
  (∀ (l0 l1 l2 : am_V) (a : Int) (E : am_E) (u : am_M), Rn m_A_put 83 [l0, l1, l2] [vI a] E u = some (some (vI a), E, u)) :=
  ⟨fun l1 l2 a st E u => q_go (by decide +kernel : am_Pg 119 0 = some (.aload_n 0, 1, [], 0)) rfl,
  fun l0 l1 l2 st E u hE => q_gfR (by decide +kernel : am_Pg 119 1 = some (.getfield 12, 3, [4, 8, 0, 0], 0)) (SE_k4 hE) rfl (SE_r4_0 hE),
  fun l0 l2 a st E u => q_go (by decide +kernel : am_Pg 119 4 = some (.iload_n 1, 1, [], 0)) rfl,
  fun l0 l1 l2 a0  E u hE => q_cI (by decide +kernel : am_Pg 119 5 = some (.invokevirtual 87, 3, [3, 29, 2, 0, 14, 1], 0)) (am_call_V (a := [vI a0]) (st' := []) (Nat.le_of_ble_eq_true rfl) rfl (SE_k0 hE cuB_1)) (by decide +kernel : am_Lm m_C_isPin = 2) (Nat.le_of_ble_eq_true rfl) rfl (by decide +kernel),
  fun l0 l1 l2 a0  E u hE => q_cI (by decide +kernel : am_Pg 119 5 = some (.invokevirtual 87, 3, [3, 29, 2, 0, 14, 1], 0)) (am_call_V (a := [vI a0]) (st' := []) (Nat.le_of_ble_eq_true rfl) rfl (SE_k0 hE cuB_8)) (by decide +kernel : am_Lm m_C_isPin = 2) (Nat.le_of_ble_eq_true rfl) rfl (by decide +kernel),
  fun l0 l1 l2 a0  E u hE => q_cI (by decide +kernel : am_Pg 119 5 = some (.invokevirtual 87, 3, [3, 29, 2, 0, 14, 1], 0)) (am_call_V (a := [vI a0]) (st' := []) (Nat.le_of_ble_eq_true rfl) rfl (SE_k0 hE cuB_73)) (by decide +kernel : am_Lm m_C_isPin = 2) (Nat.le_of_ble_eq_true rfl) rfl (by decide +kernel),
  fun l0 l1 l2 a st E u => q_if_eq (tgt := 22) (by decide +kernel : am_Pg 119 8 = some (.ifCond .eq 14, 3, [], 0)) (by decide),
  fun l1 l2 a st E u => q_go (by decide +kernel : am_Pg 119 11 = some (.aload_n 0, 1, [], 0)) rfl,
  fun l0 l1 l2 st E u hE => q_gfR (by decide +kernel : am_Pg 119 12 = some (.getfield 12, 3, [4, 8, 0, 0], 0)) (SE_k4 hE) rfl (SE_r4_0 hE),
  fun l0 l1 a st E u => q_go (by decide +kernel : am_Pg 119 15 = some (.iload_n 2, 1, [], 0)) rfl,
  fun l0 l1 l2 a0  E u hE => q_cI (by decide +kernel : am_Pg 119 16 = some (.invokevirtual 61, 3, [3, 16, 2, 0, 14, 1], 0)) (am_call_V (a := [vI a0]) (st' := []) (Nat.le_of_ble_eq_true rfl) rfl (SE_k0 hE cuB_1)) (by decide +kernel : am_Lm m_C_isCell = 2) (Nat.le_of_ble_eq_true rfl) rfl (by decide +kernel),
  fun l0 l1 l2 a0  E u hE => q_cI (by decide +kernel : am_Pg 119 16 = some (.invokevirtual 61, 3, [3, 16, 2, 0, 14, 1], 0)) (am_call_V (a := [vI a0]) (st' := []) (Nat.le_of_ble_eq_true rfl) rfl (SE_k0 hE cuB_8)) (by decide +kernel : am_Lm m_C_isCell = 2) (Nat.le_of_ble_eq_true rfl) rfl (by decide +kernel),
  fun l0 l1 l2 a0  E u hE => q_cI (by decide +kernel : am_Pg 119 16 = some (.invokevirtual 61, 3, [3, 16, 2, 0, 14, 1], 0)) (am_call_V (a := [vI a0]) (st' := []) (Nat.le_of_ble_eq_true rfl) rfl (SE_k0 hE cuB_73)) (by decide +kernel : am_Lm m_C_isCell = 2) (Nat.le_of_ble_eq_true rfl) rfl (by decide +kernel),
  fun l0 l1 l2 a st E u => q_if_ne (tgt := 24) (by decide +kernel : am_Pg 119 19 = some (.ifCond .ne 5, 3, [], 0)) (by decide),
  fun l0 l1 l2 st E u => q_go (by decide +kernel : am_Pg 119 22 = some (.iconst (-1), 1, [], 0)) rfl,
  fun l0 l1 l2 a E u => q_ret (by decide +kernel : am_Pg 119 23 = some (.ireturn, 1, [], 0)) rfl,
  fun l1 l2 a st E u => q_go (by decide +kernel : am_Pg 119 24 = some (.aload_n 0, 1, [], 0)) rfl,
  fun l0 l1 l2 st E u hE => q_gfR (by decide +kernel : am_Pg 119 25 = some (.getfield 12, 3, [4, 8, 0, 0], 0)) (SE_k4 hE) rfl (SE_r4_0 hE),
  fun l0 l1 l2 st E u hE => q_gfR (by decide +kernel : am_Pg 119 28 = some (.getfield 98, 3, [0, 14, 9, 1], 0)) (SE_k0 hE cuB_1) rfl (SE_r0_9 hE cuB_1),
  fun l0 l1 l2 st E u hE => q_gfR (by decide +kernel : am_Pg 119 28 = some (.getfield 98, 3, [0, 14, 9, 1], 0)) (SE_k0 hE cuB_8) rfl (SE_r0_9 hE cuB_8),
  fun l0 l1 l2 st E u hE => q_gfR (by decide +kernel : am_Pg 119 28 = some (.getfield 98, 3, [0, 14, 9, 1], 0)) (SE_k0 hE cuB_73) rfl (SE_r0_9 hE cuB_73),
  fun l0 l2 a st E u => q_go (by decide +kernel : am_Pg 119 31 = some (.iload_n 1, 1, [], 0)) rfl,
  fun l0 l1 l2 a0 a1  E u => q_cI (by decide +kernel : am_Pg 119 32 = some (.invokestatic 94, 3, [2, 36, 2, 0], 0)) (am_call_S (f := fun _ _ => true) (a := [vR a0, vI a1]) (st' := []) (Nat.le_of_ble_eq_true rfl) rfl rfl) (by decide +kernel : am_Lm m_A_look = 2) (Nat.le_of_ble_eq_true rfl) rfl (by decide +kernel),
  fun l0 l1 l2 st E u => q_go (by decide +kernel : am_Pg 119 35 = some (.bipush (-4), 2, [], 0)) rfl,
  fun l0 l1 l2 a b st E u => q_icmp_ne (tgt := 53) (by decide +kernel : am_Pg 119 37 = some (.if_icmp .ne 16, 3, [], 0)) (by decide),
  fun l1 l2 a st E u => q_go (by decide +kernel : am_Pg 119 40 = some (.aload_n 0, 1, [], 0)) rfl,
  fun l0 l1 l2 st E u hE => q_gfR (by decide +kernel : am_Pg 119 41 = some (.getfield 12, 3, [4, 8, 0, 0], 0)) (SE_k4 hE) rfl (SE_r4_0 hE),
  fun l0 l1 a st E u => q_go (by decide +kernel : am_Pg 119 44 = some (.iload_n 2, 1, [], 0)) rfl,
  fun l0 l1 l2 a0  E u hE => q_cI (by decide +kernel : am_Pg 119 45 = some (.invokevirtual 181, 3, [3, 17, 2, 0, 14, 1], 0)) (am_call_V (a := [vI a0]) (st' := []) (Nat.le_of_ble_eq_true rfl) rfl (SE_k0 hE cuB_1)) (by decide +kernel : am_Lm m_C_pinOn = 3) (Nat.le_of_ble_eq_true rfl) rfl (by decide +kernel),
  fun l0 l1 l2 a0  E u hE => q_cI (by decide +kernel : am_Pg 119 45 = some (.invokevirtual 181, 3, [3, 17, 2, 0, 14, 1], 0)) (am_call_V (a := [vI a0]) (st' := []) (Nat.le_of_ble_eq_true rfl) rfl (SE_k0 hE cuB_8)) (by decide +kernel : am_Lm m_C_pinOn = 3) (Nat.le_of_ble_eq_true rfl) rfl (by decide +kernel),
  fun l0 l1 l2 a0  E u hE => q_cI (by decide +kernel : am_Pg 119 45 = some (.invokevirtual 181, 3, [3, 17, 2, 0, 14, 1], 0)) (am_call_V (a := [vI a0]) (st' := []) (Nat.le_of_ble_eq_true rfl) rfl (SE_k0 hE cuB_73)) (by decide +kernel : am_Lm m_C_pinOn = 3) (Nat.le_of_ble_eq_true rfl) rfl (by decide +kernel),
  fun l0 l1 l2 st E u => q_go (by decide +kernel : am_Pg 119 48 = some (.bipush (-4), 2, [], 0)) rfl,
  fun l0 l1 l2 a b st E u => q_icmp_eq (tgt := 56) (by decide +kernel : am_Pg 119 50 = some (.if_icmp .eq 6, 3, [], 0)) (by decide),
  fun l0 l1 l2 st E u => q_go (by decide +kernel : am_Pg 119 53 = some (.bipush (-2), 2, [], 0)) rfl,
  fun l0 l1 l2 a E u => q_ret (by decide +kernel : am_Pg 119 55 = some (.ireturn, 1, [], 0)) rfl,
  fun l1 l2 a st E u => q_go (by decide +kernel : am_Pg 119 56 = some (.aload_n 0, 1, [], 0)) rfl,
  fun l0 l1 l2 st E u hE => q_gfR (by decide +kernel : am_Pg 119 57 = some (.getfield 22, 3, [4, 8, 2, 0], 0)) (SE_k4 hE) rfl (SE_r4_2 hE),
  fun l1 l2 a st E u => q_go (by decide +kernel : am_Pg 119 60 = some (.aload_n 0, 1, [], 0)) rfl,
  fun l0 l1 l2 st E u hE => q_gfR (by decide +kernel : am_Pg 119 61 = some (.getfield 12, 3, [4, 8, 0, 0], 0)) (SE_k4 hE) rfl (SE_r4_0 hE),
  fun l0 l1 l2 a0  E u hE => q_cV (by decide +kernel : am_Pg 119 64 = some (.invokevirtual 170, 3, [3, 100, 2, 1, 3, 1], 0)) (am_call_V (a := [vR a0]) (st' := []) (Nat.le_of_ble_eq_true rfl) rfl (SE_k1 hE paB_15)) (by decide +kernel : am_Lm m_P_keeps = 3) (Nat.le_of_ble_eq_true rfl) rfl (by decide +kernel),
  fun l0 l1 l2 a0  E u hE => q_cV (by decide +kernel : am_Pg 119 64 = some (.invokevirtual 170, 3, [3, 100, 2, 1, 3, 1], 0)) (am_call_V (a := [vR a0]) (st' := []) (Nat.le_of_ble_eq_true rfl) rfl (SE_k1 hE paB_80)) (by decide +kernel : am_Lm m_P_keeps = 3) (Nat.le_of_ble_eq_true rfl) rfl (by decide +kernel),
  fun l1 l2 a st E u => q_go (by decide +kernel : am_Pg 119 67 = some (.aload_n 0, 1, [], 0)) rfl,
  fun l0 l1 l2 st E u hE => q_gfR (by decide +kernel : am_Pg 119 68 = some (.getfield 12, 3, [4, 8, 0, 0], 0)) (SE_k4 hE) rfl (SE_r4_0 hE),
  fun l0 l2 a st E u => q_go (by decide +kernel : am_Pg 119 71 = some (.iload_n 1, 1, [], 0)) rfl,
  fun l0 l1 a st E u => q_go (by decide +kernel : am_Pg 119 72 = some (.iload_n 2, 1, [], 0)) rfl,
  fun l0 l1 l2 a0 a1  E u hE => q_cV (by decide +kernel : am_Pg 119 73 = some (.invokevirtual 184, 3, [3, 102, 3, 0, 14, 1], 0)) (am_call_V (a := [vI a0, vI a1]) (st' := []) (Nat.le_of_ble_eq_true rfl) rfl (SE_k0 hE cuB_1)) (by decide +kernel : am_Lm m_C_sets = 3) (Nat.le_of_ble_eq_true rfl) rfl (by decide +kernel),
  fun l0 l1 l2 a0 a1  E u hE => q_cV (by decide +kernel : am_Pg 119 73 = some (.invokevirtual 184, 3, [3, 102, 3, 0, 14, 1], 0)) (am_call_V (a := [vI a0, vI a1]) (st' := []) (Nat.le_of_ble_eq_true rfl) rfl (SE_k0 hE cuB_8)) (by decide +kernel : am_Lm m_C_sets = 3) (Nat.le_of_ble_eq_true rfl) rfl (by decide +kernel),
  fun l0 l1 l2 a0 a1  E u hE => q_cV (by decide +kernel : am_Pg 119 73 = some (.invokevirtual 184, 3, [3, 102, 3, 0, 14, 1], 0)) (am_call_V (a := [vI a0, vI a1]) (st' := []) (Nat.le_of_ble_eq_true rfl) rfl (SE_k0 hE cuB_73)) (by decide +kernel : am_Lm m_C_sets = 3) (Nat.le_of_ble_eq_true rfl) rfl (by decide +kernel),
  fun l1 l2 a st E u => q_go (by decide +kernel : am_Pg 119 76 = some (.aload_n 0, 1, [], 0)) rfl,
  fun l0 l1 l2 st E u hE => q_gfR (by decide +kernel : am_Pg 119 77 = some (.getfield 12, 3, [4, 8, 0, 0], 0)) (SE_k4 hE) rfl (SE_r4_0 hE),
  fun l0 l1 l2   E u hE => q_cI (by decide +kernel : am_Pg 119 80 = some (.invokevirtual 154, 3, [3, 91, 1, 0, 14, 1], 0)) (am_call_V (a := []) (st' := []) (Nat.le_of_ble_eq_true rfl) rfl (SE_k0 hE cuB_1)) (by decide +kernel : am_Lm m_C_holeCount = 1) (Nat.le_of_ble_eq_true rfl) rfl (by decide +kernel),
  fun l0 l1 l2   E u hE => q_cI (by decide +kernel : am_Pg 119 80 = some (.invokevirtual 154, 3, [3, 91, 1, 0, 14, 1], 0)) (am_call_V (a := []) (st' := []) (Nat.le_of_ble_eq_true rfl) rfl (SE_k0 hE cuB_8)) (by decide +kernel : am_Lm m_C_holeCount = 1) (Nat.le_of_ble_eq_true rfl) rfl (by decide +kernel),
  fun l0 l1 l2   E u hE => q_cI (by decide +kernel : am_Pg 119 80 = some (.invokevirtual 154, 3, [3, 91, 1, 0, 14, 1], 0)) (am_call_V (a := []) (st' := []) (Nat.le_of_ble_eq_true rfl) rfl (SE_k0 hE cuB_73)) (by decide +kernel : am_Lm m_C_holeCount = 1) (Nat.le_of_ble_eq_true rfl) rfl (by decide +kernel),
  fun l0 l1 l2 a E u => q_ret (by decide +kernel : am_Pg 119 83 = some (.ireturn, 1, [], 0)) rfl⟩
theorem x_A_cut :
  (∀ (l1 : am_V) (a : Option Nat) (st : List am_V) (E : am_E) (u : am_M), Rn m_A_cut 0 [vR a, l1] st E u = Rn m_A_cut 1 [vR a, l1] (vR a :: st) E u) ∧
  (∀ (l0 l1 : am_V) (st : List am_V) (E : am_E) (u : am_M) (hE : SE E), Rn m_A_cut 1 [l0, l1] (vR (some 0) :: st) E u = Rn m_A_cut 4 [l0, l1] (vR (some 1) :: st) E u) ∧
  (∀ (l0 : am_V) (a : Int) (st : List am_V) (E : am_E) (u : am_M), Rn m_A_cut 4 [l0, vI a] st E u = Rn m_A_cut 5 [l0, vI a] (vI a :: st) E u) ∧
  (∀ (l0 l1 : am_V) (a0 : Int) (E : am_E) (u : am_M) (hE : SE E), Rn m_A_cut 5 [l0, l1] [vI a0, vR (some 1)] E u = bdI (Rn m_C_isThread 0 [vR (some 1), vI a0] [] E u) (KI m_A_cut 8 [l0, l1] [])) ∧
  (∀ (l0 l1 : am_V) (a0 : Int) (E : am_E) (u : am_M) (hE : SE E), Rn m_A_cut 5 [l0, l1] [vI a0, vR (some 8)] E u = bdI (Rn m_C_isThread 0 [vR (some 8), vI a0] [] E u) (KI m_A_cut 8 [l0, l1] [])) ∧
  (∀ (l0 l1 : am_V) (a0 : Int) (E : am_E) (u : am_M) (hE : SE E), Rn m_A_cut 5 [l0, l1] [vI a0, vR (some 73)] E u = bdI (Rn m_C_isThread 0 [vR (some 73), vI a0] [] E u) (KI m_A_cut 8 [l0, l1] [])) ∧
  (∀ (l0 l1 : am_V) (a : Int) (st : List am_V) (E : am_E) (u : am_M), Rn m_A_cut 8 [l0, l1] (vI a :: st) E u = if a = 0 then Rn m_A_cut 11 [l0, l1] st E u else Rn m_A_cut 13 [l0, l1] st E u) ∧
  (∀ (l0 l1 : am_V) (st : List am_V) (E : am_E) (u : am_M), Rn m_A_cut 11 [l0, l1] st E u = Rn m_A_cut 12 [l0, l1] (vI (-1) :: st) E u) ∧
  (∀ (l0 l1 : am_V) (a : Int) (E : am_E) (u : am_M), Rn m_A_cut 12 [l0, l1] [vI a] E u = some (some (vI a), E, u)) ∧
  (∀ (l1 : am_V) (a : Option Nat) (st : List am_V) (E : am_E) (u : am_M), Rn m_A_cut 13 [vR a, l1] st E u = Rn m_A_cut 14 [vR a, l1] (vR a :: st) E u) ∧
  (∀ (l0 l1 : am_V) (st : List am_V) (E : am_E) (u : am_M) (hE : SE E), Rn m_A_cut 14 [l0, l1] (vR (some 0) :: st) E u = Rn m_A_cut 17 [l0, l1] (vR (some 1) :: st) E u) ∧
  (∀ (l0 : am_V) (a : Int) (st : List am_V) (E : am_E) (u : am_M), Rn m_A_cut 17 [l0, vI a] st E u = Rn m_A_cut 18 [l0, vI a] (vI a :: st) E u) ∧
  (∀ (l0 l1 : am_V) (a0 : Int) (E : am_E) (u : am_M) (hE : SE E), Rn m_A_cut 18 [l0, l1] [vI a0, vR (some 1)] E u = bdI (Rn m_C_isCut 0 [vR (some 1), vI a0] [] E u) (KI m_A_cut 21 [l0, l1] [])) ∧
  (∀ (l0 l1 : am_V) (a0 : Int) (E : am_E) (u : am_M) (hE : SE E), Rn m_A_cut 18 [l0, l1] [vI a0, vR (some 8)] E u = bdI (Rn m_C_isCut 0 [vR (some 8), vI a0] [] E u) (KI m_A_cut 21 [l0, l1] [])) ∧
  (∀ (l0 l1 : am_V) (a0 : Int) (E : am_E) (u : am_M) (hE : SE E), Rn m_A_cut 18 [l0, l1] [vI a0, vR (some 73)] E u = bdI (Rn m_C_isCut 0 [vR (some 73), vI a0] [] E u) (KI m_A_cut 21 [l0, l1] [])) ∧
  (∀ (l0 l1 : am_V) (a : Int) (st : List am_V) (E : am_E) (u : am_M), Rn m_A_cut 21 [l0, l1] (vI a :: st) E u = if a = 0 then Rn m_A_cut 27 [l0, l1] st E u else Rn m_A_cut 24 [l0, l1] st E u) ∧
  (∀ (l0 l1 : am_V) (st : List am_V) (E : am_E) (u : am_M), Rn m_A_cut 24 [l0, l1] st E u = Rn m_A_cut 26 [l0, l1] (vI (-2) :: st) E u) ∧
  (∀ (l0 l1 : am_V) (a : Int) (E : am_E) (u : am_M), Rn m_A_cut 26 [l0, l1] [vI a] E u = some (some (vI a), E, u)) ∧
  (∀ (l1 : am_V) (a : Option Nat) (st : List am_V) (E : am_E) (u : am_M), Rn m_A_cut 27 [vR a, l1] st E u = Rn m_A_cut 28 [vR a, l1] (vR a :: st) E u) ∧
  (∀ (l0 l1 : am_V) (st : List am_V) (E : am_E) (u : am_M) (hE : SE E), Rn m_A_cut 28 [l0, l1] (vR (some 0) :: st) E u = Rn m_A_cut 31 [l0, l1] (vR (some 15) :: st) E u) ∧
  (∀ (l1 : am_V) (a : Option Nat) (st : List am_V) (E : am_E) (u : am_M), Rn m_A_cut 31 [vR a, l1] st E u = Rn m_A_cut 32 [vR a, l1] (vR a :: st) E u) ∧
  (∀ (l0 l1 : am_V) (st : List am_V) (E : am_E) (u : am_M) (hE : SE E), Rn m_A_cut 32 [l0, l1] (vR (some 0) :: st) E u = Rn m_A_cut 35 [l0, l1] (vR (some 1) :: st) E u) ∧
  (∀ (l0 l1 : am_V) (a0 : Option Nat) (E : am_E) (u : am_M) (hE : SE E), Rn m_A_cut 35 [l0, l1] [vR a0, vR (some 15)] E u = bdV (Rn m_P_keeps 0 [vR (some 15), vR a0, vB false] [] E u) (KV m_A_cut 38 [l0, l1] [])) ∧
  (∀ (l0 l1 : am_V) (a0 : Option Nat) (E : am_E) (u : am_M) (hE : SE E), Rn m_A_cut 35 [l0, l1] [vR a0, vR (some 80)] E u = bdV (Rn m_P_keeps 0 [vR (some 80), vR a0, vB false] [] E u) (KV m_A_cut 38 [l0, l1] [])) ∧
  (∀ (l1 : am_V) (a : Option Nat) (st : List am_V) (E : am_E) (u : am_M), Rn m_A_cut 38 [vR a, l1] st E u = Rn m_A_cut 39 [vR a, l1] (vR a :: st) E u) ∧
  (∀ (l0 l1 : am_V) (st : List am_V) (E : am_E) (u : am_M) (hE : SE E), Rn m_A_cut 39 [l0, l1] (vR (some 0) :: st) E u = Rn m_A_cut 42 [l0, l1] (vR (some 1) :: st) E u) ∧
  (∀ (l0 l1 : am_V) (a : Int) (st : List am_V) (E : am_E) (u : am_M), Rn m_A_cut 42 [l0, l1] (vI a :: st) E u = Rn m_A_cut 43 [l0, l1] (vI a :: vI a :: st) E u) ∧
  (∀ (l0 l1 : am_V) (a : Option Nat) (st : List am_V) (E : am_E) (u : am_M), Rn m_A_cut 42 [l0, l1] (vR a :: st) E u = Rn m_A_cut 43 [l0, l1] (vR a :: vR a :: st) E u) ∧
  (∀ (l0 l1 : am_V) (st : List am_V) (E : am_E) (u : am_M) (hE : SE E), Rn m_A_cut 43 [l0, l1] (vR (some 1) :: st) E u = Rn m_A_cut 46 [l0, l1] (vI (u 1 6) :: st) E u) ∧
  (∀ (l0 l1 : am_V) (st : List am_V) (E : am_E) (u : am_M) (hE : SE E), Rn m_A_cut 43 [l0, l1] (vR (some 8) :: st) E u = Rn m_A_cut 46 [l0, l1] (vI (u 8 6) :: st) E u) ∧
  (∀ (l0 l1 : am_V) (st : List am_V) (E : am_E) (u : am_M) (hE : SE E), Rn m_A_cut 43 [l0, l1] (vR (some 73) :: st) E u = Rn m_A_cut 46 [l0, l1] (vI (u 73 6) :: st) E u) ∧
  (∀ (l0 l1 : am_V) (st : List am_V) (E : am_E) (u : am_M), Rn m_A_cut 46 [l0, l1] st E u = Rn m_A_cut 47 [l0, l1] (vI 1 :: st) E u) ∧
  (∀ (l0 : am_V) (a : Int) (st : List am_V) (E : am_E) (u : am_M), Rn m_A_cut 47 [l0, vI a] st E u = Rn m_A_cut 48 [l0, vI a] (vI a :: st) E u) ∧
  (∀ (l0 l1 : am_V) (a b : Int) (st : List am_V) (E : am_E) (u : am_M), Rn m_A_cut 48 [l0, l1] (vI b :: vI a :: st) E u = Rn m_A_cut 49 [l0, l1] (vI (i_shl a b) :: st) E u) ∧
  (∀ (l0 l1 : am_V) (a b : Int) (st : List am_V) (E : am_E) (u : am_M), Rn m_A_cut 49 [l0, l1] (vI b :: vI a :: st) E u = Rn m_A_cut 50 [l0, l1] (vI (i_or a b) :: st) E u) ∧
  (∀ (l0 l1 : am_V) (a : Int) (st : List am_V) (E : am_E) (u : am_M) (hE : SE E), Rn m_A_cut 50 [l0, l1] (vI a :: vR (some 1) :: st) E u = Rn m_A_cut 53 [l0, l1] st E (am_up u 1 6 a)) ∧
  (∀ (l0 l1 : am_V) (a : Int) (st : List am_V) (E : am_E) (u : am_M) (hE : SE E), Rn m_A_cut 50 [l0, l1] (vI a :: vR (some 8) :: st) E u = Rn m_A_cut 53 [l0, l1] st E (am_up u 8 6 a)) ∧
  (∀ (l0 l1 : am_V) (a : Int) (st : List am_V) (E : am_E) (u : am_M) (hE : SE E), Rn m_A_cut 50 [l0, l1] (vI a :: vR (some 73) :: st) E u = Rn m_A_cut 53 [l0, l1] st E (am_up u 73 6 a)) ∧
  (∀ (l1 : am_V) (a : Option Nat) (st : List am_V) (E : am_E) (u : am_M), Rn m_A_cut 53 [vR a, l1] st E u = Rn m_A_cut 54 [vR a, l1] (vR a :: st) E u) ∧
  (∀ (l0 l1 : am_V) (st : List am_V) (E : am_E) (u : am_M) (hE : SE E), Rn m_A_cut 54 [l0, l1] (vR (some 0) :: st) E u = Rn m_A_cut 57 [l0, l1] (vR (some 1) :: st) E u) ∧
  (∀ (l0 l1 : am_V) (E : am_E) (u : am_M) (hE : SE E), Rn m_A_cut 57 [l0, l1] [vR (some 1)] E u = bdI (Rn m_C_holdSet 0 [vR (some 1), vB false, vB false] [] E u) (KI m_A_cut 60 [l0, l1] [])) ∧
  (∀ (l0 l1 : am_V) (E : am_E) (u : am_M) (hE : SE E), Rn m_A_cut 57 [l0, l1] [vR (some 8)] E u = bdI (Rn m_C_holdSet 0 [vR (some 8), vB false, vB false] [] E u) (KI m_A_cut 60 [l0, l1] [])) ∧
  (∀ (l0 l1 : am_V) (E : am_E) (u : am_M) (hE : SE E), Rn m_A_cut 57 [l0, l1] [vR (some 73)] E u = bdI (Rn m_C_holdSet 0 [vR (some 73), vB false, vB false] [] E u) (KI m_A_cut 60 [l0, l1] [])) ∧
  (∀ (l0 l1 : am_V) (a : Int) (E : am_E) (u : am_M), Rn m_A_cut 60 [l0, l1] [vI a] E u = some (some (vI a), E, u)) :=
  ⟨fun l1 a st E u => q_go (by decide +kernel : am_Pg 121 0 = some (.aload_n 0, 1, [], 0)) rfl,
  fun l0 l1 st E u hE => q_gfR (by decide +kernel : am_Pg 121 1 = some (.getfield 12, 3, [4, 8, 0, 0], 0)) (SE_k4 hE) rfl (SE_r4_0 hE),
  fun l0 a st E u => q_go (by decide +kernel : am_Pg 121 4 = some (.iload_n 1, 1, [], 0)) rfl,
  fun l0 l1 a0  E u hE => q_cI (by decide +kernel : am_Pg 121 5 = some (.invokevirtual 107, 3, [3, 38, 2, 0, 14, 1], 0)) (am_call_V (a := [vI a0]) (st' := []) (Nat.le_of_ble_eq_true rfl) rfl (SE_k0 hE cuB_1)) (by decide +kernel : am_Lm m_C_isThread = 2) (Nat.le_of_ble_eq_true rfl) rfl (by decide +kernel),
  fun l0 l1 a0  E u hE => q_cI (by decide +kernel : am_Pg 121 5 = some (.invokevirtual 107, 3, [3, 38, 2, 0, 14, 1], 0)) (am_call_V (a := [vI a0]) (st' := []) (Nat.le_of_ble_eq_true rfl) rfl (SE_k0 hE cuB_8)) (by decide +kernel : am_Lm m_C_isThread = 2) (Nat.le_of_ble_eq_true rfl) rfl (by decide +kernel),
  fun l0 l1 a0  E u hE => q_cI (by decide +kernel : am_Pg 121 5 = some (.invokevirtual 107, 3, [3, 38, 2, 0, 14, 1], 0)) (am_call_V (a := [vI a0]) (st' := []) (Nat.le_of_ble_eq_true rfl) rfl (SE_k0 hE cuB_73)) (by decide +kernel : am_Lm m_C_isThread = 2) (Nat.le_of_ble_eq_true rfl) rfl (by decide +kernel),
  fun l0 l1 a st E u => q_if_ne (tgt := 13) (by decide +kernel : am_Pg 121 8 = some (.ifCond .ne 5, 3, [], 0)) (by decide),
  fun l0 l1 st E u => q_go (by decide +kernel : am_Pg 121 11 = some (.iconst (-1), 1, [], 0)) rfl,
  fun l0 l1 a E u => q_ret (by decide +kernel : am_Pg 121 12 = some (.ireturn, 1, [], 0)) rfl,
  fun l1 a st E u => q_go (by decide +kernel : am_Pg 121 13 = some (.aload_n 0, 1, [], 0)) rfl,
  fun l0 l1 st E u hE => q_gfR (by decide +kernel : am_Pg 121 14 = some (.getfield 12, 3, [4, 8, 0, 0], 0)) (SE_k4 hE) rfl (SE_r4_0 hE),
  fun l0 a st E u => q_go (by decide +kernel : am_Pg 121 17 = some (.iload_n 1, 1, [], 0)) rfl,
  fun l0 l1 a0  E u hE => q_cI (by decide +kernel : am_Pg 121 18 = some (.invokevirtual 119, 3, [3, 39, 2, 0, 14, 1], 0)) (am_call_V (a := [vI a0]) (st' := []) (Nat.le_of_ble_eq_true rfl) rfl (SE_k0 hE cuB_1)) (by decide +kernel : am_Lm m_C_isCut = 2) (Nat.le_of_ble_eq_true rfl) rfl (by decide +kernel),
  fun l0 l1 a0  E u hE => q_cI (by decide +kernel : am_Pg 121 18 = some (.invokevirtual 119, 3, [3, 39, 2, 0, 14, 1], 0)) (am_call_V (a := [vI a0]) (st' := []) (Nat.le_of_ble_eq_true rfl) rfl (SE_k0 hE cuB_8)) (by decide +kernel : am_Lm m_C_isCut = 2) (Nat.le_of_ble_eq_true rfl) rfl (by decide +kernel),
  fun l0 l1 a0  E u hE => q_cI (by decide +kernel : am_Pg 121 18 = some (.invokevirtual 119, 3, [3, 39, 2, 0, 14, 1], 0)) (am_call_V (a := [vI a0]) (st' := []) (Nat.le_of_ble_eq_true rfl) rfl (SE_k0 hE cuB_73)) (by decide +kernel : am_Lm m_C_isCut = 2) (Nat.le_of_ble_eq_true rfl) rfl (by decide +kernel),
  fun l0 l1 a st E u => q_if_eq (tgt := 27) (by decide +kernel : am_Pg 121 21 = some (.ifCond .eq 6, 3, [], 0)) (by decide),
  fun l0 l1 st E u => q_go (by decide +kernel : am_Pg 121 24 = some (.bipush (-2), 2, [], 0)) rfl,
  fun l0 l1 a E u => q_ret (by decide +kernel : am_Pg 121 26 = some (.ireturn, 1, [], 0)) rfl,
  fun l1 a st E u => q_go (by decide +kernel : am_Pg 121 27 = some (.aload_n 0, 1, [], 0)) rfl,
  fun l0 l1 st E u hE => q_gfR (by decide +kernel : am_Pg 121 28 = some (.getfield 22, 3, [4, 8, 2, 0], 0)) (SE_k4 hE) rfl (SE_r4_2 hE),
  fun l1 a st E u => q_go (by decide +kernel : am_Pg 121 31 = some (.aload_n 0, 1, [], 0)) rfl,
  fun l0 l1 st E u hE => q_gfR (by decide +kernel : am_Pg 121 32 = some (.getfield 12, 3, [4, 8, 0, 0], 0)) (SE_k4 hE) rfl (SE_r4_0 hE),
  fun l0 l1 a0  E u hE => q_cV (by decide +kernel : am_Pg 121 35 = some (.invokevirtual 170, 3, [3, 100, 2, 1, 3, 1], 0)) (am_call_V (a := [vR a0]) (st' := []) (Nat.le_of_ble_eq_true rfl) rfl (SE_k1 hE paB_15)) (by decide +kernel : am_Lm m_P_keeps = 3) (Nat.le_of_ble_eq_true rfl) rfl (by decide +kernel),
  fun l0 l1 a0  E u hE => q_cV (by decide +kernel : am_Pg 121 35 = some (.invokevirtual 170, 3, [3, 100, 2, 1, 3, 1], 0)) (am_call_V (a := [vR a0]) (st' := []) (Nat.le_of_ble_eq_true rfl) rfl (SE_k1 hE paB_80)) (by decide +kernel : am_Lm m_P_keeps = 3) (Nat.le_of_ble_eq_true rfl) rfl (by decide +kernel),
  fun l1 a st E u => q_go (by decide +kernel : am_Pg 121 38 = some (.aload_n 0, 1, [], 0)) rfl,
  fun l0 l1 st E u hE => q_gfR (by decide +kernel : am_Pg 121 39 = some (.getfield 12, 3, [4, 8, 0, 0], 0)) (SE_k4 hE) rfl (SE_r4_0 hE),
  fun l0 l1 a st E u => q_go (by decide +kernel : am_Pg 121 42 = some (.dup, 1, [], 0)) rfl,
  fun l0 l1 a st E u => q_go (by decide +kernel : am_Pg 121 42 = some (.dup, 1, [], 0)) rfl,
  fun l0 l1 st E u hE => q_gfI (by decide +kernel : am_Pg 121 43 = some (.getfield 187, 3, [0, 14, 6, 1], 0)) (SE_k0 hE cuB_1) (by decide),
  fun l0 l1 st E u hE => q_gfI (by decide +kernel : am_Pg 121 43 = some (.getfield 187, 3, [0, 14, 6, 1], 0)) (SE_k0 hE cuB_8) (by decide),
  fun l0 l1 st E u hE => q_gfI (by decide +kernel : am_Pg 121 43 = some (.getfield 187, 3, [0, 14, 6, 1], 0)) (SE_k0 hE cuB_73) (by decide),
  fun l0 l1 st E u => q_go (by decide +kernel : am_Pg 121 46 = some (.iconst 1, 1, [], 0)) rfl,
  fun l0 a st E u => q_go (by decide +kernel : am_Pg 121 47 = some (.iload_n 1, 1, [], 0)) rfl,
  fun l0 l1 a b st E u => q_go (by decide +kernel : am_Pg 121 48 = some (.ishl, 1, [], 0)) rfl,
  fun l0 l1 a b st E u => q_go (by decide +kernel : am_Pg 121 49 = some (.ior, 1, [], 0)) rfl,
  fun l0 l1 a st E u hE => q_pfI (by decide +kernel : am_Pg 121 50 = some (.putfield 187, 3, [0, 14, 6, 1], 0)) (SE_k0 hE cuB_1) rfl,
  fun l0 l1 a st E u hE => q_pfI (by decide +kernel : am_Pg 121 50 = some (.putfield 187, 3, [0, 14, 6, 1], 0)) (SE_k0 hE cuB_8) rfl,
  fun l0 l1 a st E u hE => q_pfI (by decide +kernel : am_Pg 121 50 = some (.putfield 187, 3, [0, 14, 6, 1], 0)) (SE_k0 hE cuB_73) rfl,
  fun l1 a st E u => q_go (by decide +kernel : am_Pg 121 53 = some (.aload_n 0, 1, [], 0)) rfl,
  fun l0 l1 st E u hE => q_gfR (by decide +kernel : am_Pg 121 54 = some (.getfield 12, 3, [4, 8, 0, 0], 0)) (SE_k4 hE) rfl (SE_r4_0 hE),
  fun l0 l1   E u hE => q_cI (by decide +kernel : am_Pg 121 57 = some (.invokevirtual 160, 3, [3, 93, 1, 0, 14, 1], 0)) (am_call_V (a := []) (st' := []) (Nat.le_of_ble_eq_true rfl) rfl (SE_k0 hE cuB_1)) (by decide +kernel : am_Lm m_C_holdSet = 3) (Nat.le_of_ble_eq_true rfl) rfl (by decide +kernel),
  fun l0 l1   E u hE => q_cI (by decide +kernel : am_Pg 121 57 = some (.invokevirtual 160, 3, [3, 93, 1, 0, 14, 1], 0)) (am_call_V (a := []) (st' := []) (Nat.le_of_ble_eq_true rfl) rfl (SE_k0 hE cuB_8)) (by decide +kernel : am_Lm m_C_holdSet = 3) (Nat.le_of_ble_eq_true rfl) rfl (by decide +kernel),
  fun l0 l1   E u hE => q_cI (by decide +kernel : am_Pg 121 57 = some (.invokevirtual 160, 3, [3, 93, 1, 0, 14, 1], 0)) (am_call_V (a := []) (st' := []) (Nat.le_of_ble_eq_true rfl) rfl (SE_k0 hE cuB_73)) (by decide +kernel : am_Lm m_C_holdSet = 3) (Nat.le_of_ble_eq_true rfl) rfl (by decide +kernel),
  fun l0 l1 a E u => q_ret (by decide +kernel : am_Pg 121 60 = some (.ireturn, 1, [], 0)) rfl⟩
theorem x_A_course :
  (∀ (l1 l2 l3 : am_V) (a : Option Nat) (st : List am_V) (E : am_E) (u : am_M), Rn m_A_course 0 [vR a, l1, l2, l3] st E u = Rn m_A_course 1 [vR a, l1, l2, l3] (vR a :: st) E u) ∧
  (∀ (l0 l1 l2 l3 : am_V) (st : List am_V) (E : am_E) (u : am_M) (hE : SE E), Rn m_A_course 1 [l0, l1, l2, l3] (vR (some 0) :: st) E u = Rn m_A_course 4 [l0, l1, l2, l3] (vR (some 1) :: st) E u) ∧
  (∀ (l0 l2 l3 : am_V) (a : Int) (st : List am_V) (E : am_E) (u : am_M), Rn m_A_course 4 [l0, vI a, l2, l3] st E u = Rn m_A_course 5 [l0, vI a, l2, l3] (vI a :: st) E u) ∧
  (∀ (l0 l1 l2 l3 : am_V) (a0 : Int) (E : am_E) (u : am_M) (hE : SE E), Rn m_A_course 5 [l0, l1, l2, l3] [vI a0, vR (some 1)] E u = bdI (Rn m_C_isPin 0 [vR (some 1), vI a0] [] E u) (KI m_A_course 8 [l0, l1, l2, l3] [])) ∧
  (∀ (l0 l1 l2 l3 : am_V) (a0 : Int) (E : am_E) (u : am_M) (hE : SE E), Rn m_A_course 5 [l0, l1, l2, l3] [vI a0, vR (some 8)] E u = bdI (Rn m_C_isPin 0 [vR (some 8), vI a0] [] E u) (KI m_A_course 8 [l0, l1, l2, l3] [])) ∧
  (∀ (l0 l1 l2 l3 : am_V) (a0 : Int) (E : am_E) (u : am_M) (hE : SE E), Rn m_A_course 5 [l0, l1, l2, l3] [vI a0, vR (some 73)] E u = bdI (Rn m_C_isPin 0 [vR (some 73), vI a0] [] E u) (KI m_A_course 8 [l0, l1, l2, l3] [])) ∧
  (∀ (l0 l1 l2 l3 : am_V) (a : Int) (st : List am_V) (E : am_E) (u : am_M), Rn m_A_course 8 [l0, l1, l2, l3] (vI a :: st) E u = if a = 0 then Rn m_A_course 20 [l0, l1, l2, l3] st E u else Rn m_A_course 11 [l0, l1, l2, l3] st E u) ∧
  (∀ (l0 l1 l3 : am_V) (a : Int) (st : List am_V) (E : am_E) (u : am_M), Rn m_A_course 11 [l0, l1, vI a, l3] st E u = Rn m_A_course 12 [l0, l1, vI a, l3] (vI a :: st) E u) ∧
  (∀ (l0 l1 l2 l3 : am_V) (st : List am_V) (E : am_E) (u : am_M), Rn m_A_course 12 [l0, l1, l2, l3] st E u = Rn m_A_course 13 [l0, l1, l2, l3] (vI 0 :: st) E u) ∧
  (∀ (l0 l1 l2 l3 : am_V) (st : List am_V) (E : am_E) (u : am_M), Rn m_A_course 13 [l0, l1, l2, l3] st E u = Rn m_A_course 14 [l0, l1, l2, l3] (vI 3 :: st) E u) ∧
  (∀ (l0 l1 l2 l3 : am_V) (a0 : Int) (a1 : Int) (a2 : Int) (E : am_E) (u : am_M), Rn m_A_course 14 [l0, l1, l2, l3] [vI a2, vI a1, vI a0] E u = bdI (Rn m_A_isIn 0 [vI a0, vI a1, vI a2] [] E u) (KI m_A_course 17 [l0, l1, l2, l3] [])) ∧
  (∀ (l0 l1 l2 l3 : am_V) (a : Int) (st : List am_V) (E : am_E) (u : am_M), Rn m_A_course 17 [l0, l1, l2, l3] (vI a :: st) E u = if a = 0 then Rn m_A_course 20 [l0, l1, l2, l3] st E u else Rn m_A_course 22 [l0, l1, l2, l3] st E u) ∧
  (∀ (l0 l1 l2 l3 : am_V) (st : List am_V) (E : am_E) (u : am_M), Rn m_A_course 20 [l0, l1, l2, l3] st E u = Rn m_A_course 21 [l0, l1, l2, l3] (vI (-1) :: st) E u) ∧
  (∀ (l0 l1 l2 l3 : am_V) (a : Int) (E : am_E) (u : am_M), Rn m_A_course 21 [l0, l1, l2, l3] [vI a] E u = some (some (vI a), E, u)) ∧
  (∀ (l1 l2 l3 : am_V) (a : Option Nat) (st : List am_V) (E : am_E) (u : am_M), Rn m_A_course 22 [vR a, l1, l2, l3] st E u = Rn m_A_course 23 [vR a, l1, l2, l3] (vR a :: st) E u) ∧
  (∀ (l0 l1 l2 l3 : am_V) (st : List am_V) (E : am_E) (u : am_M) (hE : SE E), Rn m_A_course 23 [l0, l1, l2, l3] (vR (some 0) :: st) E u = Rn m_A_course 26 [l0, l1, l2, l3] (vR (some 1) :: st) E u) ∧
  (∀ (l0 l1 l2 l3 : am_V) (st : List am_V) (E : am_E) (u : am_M) (hE : SE E), Rn m_A_course 26 [l0, l1, l2, l3] (vR (some 1) :: st) E u = Rn m_A_course 29 [l0, l1, l2, l3] (vR (some 4) :: st) E u) ∧
  (∀ (l0 l1 l2 l3 : am_V) (st : List am_V) (E : am_E) (u : am_M) (hE : SE E), Rn m_A_course 26 [l0, l1, l2, l3] (vR (some 8) :: st) E u = Rn m_A_course 29 [l0, l1, l2, l3] (vR (some 11) :: st) E u) ∧
  (∀ (l0 l1 l2 l3 : am_V) (st : List am_V) (E : am_E) (u : am_M) (hE : SE E), Rn m_A_course 26 [l0, l1, l2, l3] (vR (some 73) :: st) E u = Rn m_A_course 29 [l0, l1, l2, l3] (vR (some 76) :: st) E u) ∧
  (∀ (l0 l2 l3 : am_V) (a : Int) (st : List am_V) (E : am_E) (u : am_M), Rn m_A_course 29 [l0, vI a, l2, l3] st E u = Rn m_A_course 30 [l0, vI a, l2, l3] (vI a :: st) E u) ∧
  (∀ (l0 l1 l2 l3 : am_V) (a0 : Option Nat) (a1 : Int) (E : am_E) (u : am_M), Rn m_A_course 30 [l0, l1, l2, l3] [vI a1, vR a0] E u = bdI (Rn m_A_look 0 [vR a0, vI a1] [] E u) (KI m_A_course 33 [l0, l1, l2, l3] [])) ∧
  (∀ (l0 l1 l2 l3 : am_V) (a : Int) (st : List am_V) (E : am_E) (u : am_M), Rn m_A_course 33 [l0, l1, l2, l3] (vI a :: st) E u = Rn m_A_course 34 [l0, l1, am_fx l2, vI a] st E u) ∧
  (∀ (l0 l1 l2 : am_V) (a : Int) (st : List am_V) (E : am_E) (u : am_M), Rn m_A_course 34 [l0, l1, l2, vI a] st E u = Rn m_A_course 35 [l0, l1, l2, vI a] (vI a :: st) E u) ∧
  (∀ (l0 l1 l3 : am_V) (a : Int) (st : List am_V) (E : am_E) (u : am_M), Rn m_A_course 35 [l0, l1, vI a, l3] st E u = Rn m_A_course 36 [l0, l1, vI a, l3] (vI a :: st) E u) ∧
  (∀ (l0 l1 l2 l3 : am_V) (a b : Int) (st : List am_V) (E : am_E) (u : am_M), Rn m_A_course 36 [l0, l1, l2, l3] (vI b :: vI a :: st) E u = if a = b then Rn m_A_course 39 [l0, l1, l2, l3] st E u else Rn m_A_course 42 [l0, l1, l2, l3] st E u) ∧
  (∀ (l0 l1 l2 l3 : am_V) (st : List am_V) (E : am_E) (u : am_M), Rn m_A_course 39 [l0, l1, l2, l3] st E u = Rn m_A_course 41 [l0, l1, l2, l3] (vI (-2) :: st) E u) ∧
  (∀ (l0 l1 l2 l3 : am_V) (a : Int) (E : am_E) (u : am_M), Rn m_A_course 41 [l0, l1, l2, l3] [vI a] E u = some (some (vI a), E, u)) ∧
  (∀ (l1 l2 l3 : am_V) (a : Option Nat) (st : List am_V) (E : am_E) (u : am_M), Rn m_A_course 42 [vR a, l1, l2, l3] st E u = Rn m_A_course 43 [vR a, l1, l2, l3] (vR a :: st) E u) ∧
  (∀ (l0 l1 l2 l3 : am_V) (st : List am_V) (E : am_E) (u : am_M) (hE : SE E), Rn m_A_course 43 [l0, l1, l2, l3] (vR (some 0) :: st) E u = Rn m_A_course 46 [l0, l1, l2, l3] (vR (some 15) :: st) E u) ∧
  (∀ (l1 l2 l3 : am_V) (a : Option Nat) (st : List am_V) (E : am_E) (u : am_M), Rn m_A_course 46 [vR a, l1, l2, l3] st E u = Rn m_A_course 47 [vR a, l1, l2, l3] (vR a :: st) E u) ∧
  (∀ (l0 l1 l2 l3 : am_V) (st : List am_V) (E : am_E) (u : am_M) (hE : SE E), Rn m_A_course 47 [l0, l1, l2, l3] (vR (some 0) :: st) E u = Rn m_A_course 50 [l0, l1, l2, l3] (vR (some 1) :: st) E u) ∧
  (∀ (l0 l1 l2 l3 : am_V) (a0 : Option Nat) (E : am_E) (u : am_M) (hE : SE E), Rn m_A_course 50 [l0, l1, l2, l3] [vR a0, vR (some 15)] E u = bdV (Rn m_P_keeps 0 [vR (some 15), vR a0, vB false] [] E u) (KV m_A_course 53 [l0, l1, l2, l3] [])) ∧
  (∀ (l0 l1 l2 l3 : am_V) (a0 : Option Nat) (E : am_E) (u : am_M) (hE : SE E), Rn m_A_course 50 [l0, l1, l2, l3] [vR a0, vR (some 80)] E u = bdV (Rn m_P_keeps 0 [vR (some 80), vR a0, vB false] [] E u) (KV m_A_course 53 [l0, l1, l2, l3] [])) ∧
  (∀ (l1 l2 l3 : am_V) (a : Option Nat) (st : List am_V) (E : am_E) (u : am_M), Rn m_A_course 53 [vR a, l1, l2, l3] st E u = Rn m_A_course 54 [vR a, l1, l2, l3] (vR a :: st) E u) ∧
  (∀ (l0 l1 l2 l3 : am_V) (st : List am_V) (E : am_E) (u : am_M) (hE : SE E), Rn m_A_course 54 [l0, l1, l2, l3] (vR (some 0) :: st) E u = Rn m_A_course 57 [l0, l1, l2, l3] (vR (some 1) :: st) E u) ∧
  (∀ (l0 l1 l2 l3 : am_V) (st : List am_V) (E : am_E) (u : am_M) (hE : SE E), Rn m_A_course 57 [l0, l1, l2, l3] (vR (some 1) :: st) E u = Rn m_A_course 60 [l0, l1, l2, l3] (vR (some 4) :: st) E u) ∧
  (∀ (l0 l1 l2 l3 : am_V) (st : List am_V) (E : am_E) (u : am_M) (hE : SE E), Rn m_A_course 57 [l0, l1, l2, l3] (vR (some 8) :: st) E u = Rn m_A_course 60 [l0, l1, l2, l3] (vR (some 11) :: st) E u) ∧
  (∀ (l0 l1 l2 l3 : am_V) (st : List am_V) (E : am_E) (u : am_M) (hE : SE E), Rn m_A_course 57 [l0, l1, l2, l3] (vR (some 73) :: st) E u = Rn m_A_course 60 [l0, l1, l2, l3] (vR (some 76) :: st) E u) ∧
  (∀ (l0 l2 l3 : am_V) (a : Int) (st : List am_V) (E : am_E) (u : am_M), Rn m_A_course 60 [l0, vI a, l2, l3] st E u = Rn m_A_course 61 [l0, vI a, l2, l3] (vI a :: st) E u) ∧
  (∀ (l0 l1 l3 : am_V) (a : Int) (st : List am_V) (E : am_E) (u : am_M), Rn m_A_course 61 [l0, l1, vI a, l3] st E u = Rn m_A_course 62 [l0, l1, vI a, l3] (vI a :: st) E u) ∧
  (∀ (l0 l1 l2 l3 : am_V) (a0 : Option Nat) (a1 : Int) (a2 : Int) (E : am_E) (u : am_M), Rn m_A_course 62 [l0, l1, l2, l3] [vI a2, vI a1, vR a0] E u = bdV (Rn m_A_lay 0 [vR a0, vI a1, vI a2] [] E u) (KV m_A_course 65 [l0, l1, l2, l3] [])) ∧
  (∀ (l0 l1 l2 : am_V) (a : Int) (st : List am_V) (E : am_E) (u : am_M), Rn m_A_course 65 [l0, l1, l2, vI a] st E u = Rn m_A_course 66 [l0, l1, l2, vI a] (vI a :: st) E u) ∧
  (∀ (l0 l1 l2 l3 : am_V) (a : Int) (E : am_E) (u : am_M), Rn m_A_course 66 [l0, l1, l2, l3] [vI a] E u = some (some (vI a), E, u)) :=
  ⟨fun l1 l2 l3 a st E u => q_go (by decide +kernel : am_Pg 123 0 = some (.aload_n 0, 1, [], 0)) rfl,
  fun l0 l1 l2 l3 st E u hE => q_gfR (by decide +kernel : am_Pg 123 1 = some (.getfield 12, 3, [4, 8, 0, 0], 0)) (SE_k4 hE) rfl (SE_r4_0 hE),
  fun l0 l2 l3 a st E u => q_go (by decide +kernel : am_Pg 123 4 = some (.iload_n 1, 1, [], 0)) rfl,
  fun l0 l1 l2 l3 a0  E u hE => q_cI (by decide +kernel : am_Pg 123 5 = some (.invokevirtual 87, 3, [3, 29, 2, 0, 14, 1], 0)) (am_call_V (a := [vI a0]) (st' := []) (Nat.le_of_ble_eq_true rfl) rfl (SE_k0 hE cuB_1)) (by decide +kernel : am_Lm m_C_isPin = 2) (Nat.le_of_ble_eq_true rfl) rfl (by decide +kernel),
  fun l0 l1 l2 l3 a0  E u hE => q_cI (by decide +kernel : am_Pg 123 5 = some (.invokevirtual 87, 3, [3, 29, 2, 0, 14, 1], 0)) (am_call_V (a := [vI a0]) (st' := []) (Nat.le_of_ble_eq_true rfl) rfl (SE_k0 hE cuB_8)) (by decide +kernel : am_Lm m_C_isPin = 2) (Nat.le_of_ble_eq_true rfl) rfl (by decide +kernel),
  fun l0 l1 l2 l3 a0  E u hE => q_cI (by decide +kernel : am_Pg 123 5 = some (.invokevirtual 87, 3, [3, 29, 2, 0, 14, 1], 0)) (am_call_V (a := [vI a0]) (st' := []) (Nat.le_of_ble_eq_true rfl) rfl (SE_k0 hE cuB_73)) (by decide +kernel : am_Lm m_C_isPin = 2) (Nat.le_of_ble_eq_true rfl) rfl (by decide +kernel),
  fun l0 l1 l2 l3 a st E u => q_if_eq (tgt := 20) (by decide +kernel : am_Pg 123 8 = some (.ifCond .eq 12, 3, [], 0)) (by decide),
  fun l0 l1 l3 a st E u => q_go (by decide +kernel : am_Pg 123 11 = some (.iload_n 2, 1, [], 0)) rfl,
  fun l0 l1 l2 l3 st E u => q_go (by decide +kernel : am_Pg 123 12 = some (.iconst 0, 1, [], 0)) rfl,
  fun l0 l1 l2 l3 st E u => q_go (by decide +kernel : am_Pg 123 13 = some (.iconst 3, 1, [], 0)) rfl,
  fun l0 l1 l2 l3 a0 a1 a2  E u => q_cI (by decide +kernel : am_Pg 123 14 = some (.invokestatic 46, 3, [2, 8, 3, 0], 0)) (am_call_S (f := fun _ _ => true) (a := [vI a0, vI a1, vI a2]) (st' := []) (Nat.le_of_ble_eq_true rfl) rfl rfl) (by decide +kernel : am_Lm m_A_isIn = 3) (Nat.le_of_ble_eq_true rfl) rfl (by decide +kernel),
  fun l0 l1 l2 l3 a st E u => q_if_ne (tgt := 22) (by decide +kernel : am_Pg 123 17 = some (.ifCond .ne 5, 3, [], 0)) (by decide),
  fun l0 l1 l2 l3 st E u => q_go (by decide +kernel : am_Pg 123 20 = some (.iconst (-1), 1, [], 0)) rfl,
  fun l0 l1 l2 l3 a E u => q_ret (by decide +kernel : am_Pg 123 21 = some (.ireturn, 1, [], 0)) rfl,
  fun l1 l2 l3 a st E u => q_go (by decide +kernel : am_Pg 123 22 = some (.aload_n 0, 1, [], 0)) rfl,
  fun l0 l1 l2 l3 st E u hE => q_gfR (by decide +kernel : am_Pg 123 23 = some (.getfield 12, 3, [4, 8, 0, 0], 0)) (SE_k4 hE) rfl (SE_r4_0 hE),
  fun l0 l1 l2 l3 st E u hE => q_gfR (by decide +kernel : am_Pg 123 26 = some (.getfield 101, 3, [0, 14, 10, 1], 0)) (SE_k0 hE cuB_1) rfl (SE_r0_10 hE cuB_1),
  fun l0 l1 l2 l3 st E u hE => q_gfR (by decide +kernel : am_Pg 123 26 = some (.getfield 101, 3, [0, 14, 10, 1], 0)) (SE_k0 hE cuB_8) rfl (SE_r0_10 hE cuB_8),
  fun l0 l1 l2 l3 st E u hE => q_gfR (by decide +kernel : am_Pg 123 26 = some (.getfield 101, 3, [0, 14, 10, 1], 0)) (SE_k0 hE cuB_73) rfl (SE_r0_10 hE cuB_73),
  fun l0 l2 l3 a st E u => q_go (by decide +kernel : am_Pg 123 29 = some (.iload_n 1, 1, [], 0)) rfl,
  fun l0 l1 l2 l3 a0 a1  E u => q_cI (by decide +kernel : am_Pg 123 30 = some (.invokestatic 94, 3, [2, 36, 2, 0], 0)) (am_call_S (f := fun _ _ => true) (a := [vR a0, vI a1]) (st' := []) (Nat.le_of_ble_eq_true rfl) rfl rfl) (by decide +kernel : am_Lm m_A_look = 2) (Nat.le_of_ble_eq_true rfl) rfl (by decide +kernel),
  fun l0 l1 l2 l3 a st E u => q_go (by decide +kernel : am_Pg 123 33 = some (.istore_n 3, 1, [], 0)) rfl,
  fun l0 l1 l2 a st E u => q_go (by decide +kernel : am_Pg 123 34 = some (.iload_n 3, 1, [], 0)) rfl,
  fun l0 l1 l3 a st E u => q_go (by decide +kernel : am_Pg 123 35 = some (.iload_n 2, 1, [], 0)) rfl,
  fun l0 l1 l2 l3 a b st E u => q_icmp_ne (tgt := 42) (by decide +kernel : am_Pg 123 36 = some (.if_icmp .ne 6, 3, [], 0)) (by decide),
  fun l0 l1 l2 l3 st E u => q_go (by decide +kernel : am_Pg 123 39 = some (.bipush (-2), 2, [], 0)) rfl,
  fun l0 l1 l2 l3 a E u => q_ret (by decide +kernel : am_Pg 123 41 = some (.ireturn, 1, [], 0)) rfl,
  fun l1 l2 l3 a st E u => q_go (by decide +kernel : am_Pg 123 42 = some (.aload_n 0, 1, [], 0)) rfl,
  fun l0 l1 l2 l3 st E u hE => q_gfR (by decide +kernel : am_Pg 123 43 = some (.getfield 22, 3, [4, 8, 2, 0], 0)) (SE_k4 hE) rfl (SE_r4_2 hE),
  fun l1 l2 l3 a st E u => q_go (by decide +kernel : am_Pg 123 46 = some (.aload_n 0, 1, [], 0)) rfl,
  fun l0 l1 l2 l3 st E u hE => q_gfR (by decide +kernel : am_Pg 123 47 = some (.getfield 12, 3, [4, 8, 0, 0], 0)) (SE_k4 hE) rfl (SE_r4_0 hE),
  fun l0 l1 l2 l3 a0  E u hE => q_cV (by decide +kernel : am_Pg 123 50 = some (.invokevirtual 170, 3, [3, 100, 2, 1, 3, 1], 0)) (am_call_V (a := [vR a0]) (st' := []) (Nat.le_of_ble_eq_true rfl) rfl (SE_k1 hE paB_15)) (by decide +kernel : am_Lm m_P_keeps = 3) (Nat.le_of_ble_eq_true rfl) rfl (by decide +kernel),
  fun l0 l1 l2 l3 a0  E u hE => q_cV (by decide +kernel : am_Pg 123 50 = some (.invokevirtual 170, 3, [3, 100, 2, 1, 3, 1], 0)) (am_call_V (a := [vR a0]) (st' := []) (Nat.le_of_ble_eq_true rfl) rfl (SE_k1 hE paB_80)) (by decide +kernel : am_Lm m_P_keeps = 3) (Nat.le_of_ble_eq_true rfl) rfl (by decide +kernel),
  fun l1 l2 l3 a st E u => q_go (by decide +kernel : am_Pg 123 53 = some (.aload_n 0, 1, [], 0)) rfl,
  fun l0 l1 l2 l3 st E u hE => q_gfR (by decide +kernel : am_Pg 123 54 = some (.getfield 12, 3, [4, 8, 0, 0], 0)) (SE_k4 hE) rfl (SE_r4_0 hE),
  fun l0 l1 l2 l3 st E u hE => q_gfR (by decide +kernel : am_Pg 123 57 = some (.getfield 101, 3, [0, 14, 10, 1], 0)) (SE_k0 hE cuB_1) rfl (SE_r0_10 hE cuB_1),
  fun l0 l1 l2 l3 st E u hE => q_gfR (by decide +kernel : am_Pg 123 57 = some (.getfield 101, 3, [0, 14, 10, 1], 0)) (SE_k0 hE cuB_8) rfl (SE_r0_10 hE cuB_8),
  fun l0 l1 l2 l3 st E u hE => q_gfR (by decide +kernel : am_Pg 123 57 = some (.getfield 101, 3, [0, 14, 10, 1], 0)) (SE_k0 hE cuB_73) rfl (SE_r0_10 hE cuB_73),
  fun l0 l2 l3 a st E u => q_go (by decide +kernel : am_Pg 123 60 = some (.iload_n 1, 1, [], 0)) rfl,
  fun l0 l1 l3 a st E u => q_go (by decide +kernel : am_Pg 123 61 = some (.iload_n 2, 1, [], 0)) rfl,
  fun l0 l1 l2 l3 a0 a1 a2  E u => q_cV (by decide +kernel : am_Pg 123 62 = some (.invokestatic 173, 3, [2, 19, 3, 0], 0)) (am_call_S (f := fun _ _ => true) (a := [vR a0, vI a1, vI a2]) (st' := []) (Nat.le_of_ble_eq_true rfl) rfl rfl) (by decide +kernel : am_Lm m_A_lay = 3) (Nat.le_of_ble_eq_true rfl) rfl (by decide +kernel),
  fun l0 l1 l2 a st E u => q_go (by decide +kernel : am_Pg 123 65 = some (.iload_n 3, 1, [], 0)) rfl,
  fun l0 l1 l2 l3 a E u => q_ret (by decide +kernel : am_Pg 123 66 = some (.ireturn, 1, [], 0)) rfl⟩
theorem x_A_drift :
  (∀ (l1 : am_V) (a : Option Nat) (st : List am_V) (E : am_E) (u : am_M), Rn m_A_drift 0 [vR a, l1] st E u = Rn m_A_drift 1 [vR a, l1] (vR a :: st) E u) ∧
  (∀ (l0 : am_V) (a : Int) (st : List am_V) (E : am_E) (u : am_M), Rn m_A_drift 1 [l0, vI a] st E u = Rn m_A_drift 2 [l0, vI a] (vI a :: st) E u) ∧
  (∀ (l0 l1 : am_V) (st : List am_V) (E : am_E) (u : am_M), Rn m_A_drift 2 [l0, l1] st E u = Rn m_A_drift 3 [l0, l1] (vI 1 :: st) E u) ∧
  (∀ (l0 l1 : am_V) (a0 : Int) (a1 : Int) (E : am_E) (u : am_M) (hE : SE E), Rn m_A_drift 3 [l0, l1] [vI a1, vI a0, vR (some 0)] E u = bdI (Rn m_A_passes 0 [vR (some 0), vI a0, vI a1, vB false] [] E u) (KI m_A_drift 6 [l0, l1] [])) ∧
  (∀ (l0 l1 : am_V) (a : Int) (E : am_E) (u : am_M), Rn m_A_drift 6 [l0, l1] [vI a] E u = some (some (vI a), E, u)) :=
  ⟨fun l1 a st E u => q_go (by decide +kernel : am_Pg 125 0 = some (.aload_n 0, 1, [], 0)) rfl,
  fun l0 a st E u => q_go (by decide +kernel : am_Pg 125 1 = some (.iload_n 1, 1, [], 0)) rfl,
  fun l0 l1 st E u => q_go (by decide +kernel : am_Pg 125 2 = some (.iconst 1, 1, [], 0)) rfl,
  fun l0 l1 a0 a1  E u hE => q_cI (by decide +kernel : am_Pg 125 3 = some (.invokevirtual 166, 3, [3, 108, 3, 4, 8, 0], 0)) (am_call_V (a := [vI a0, vI a1]) (st' := []) (Nat.le_of_ble_eq_true rfl) rfl (SE_k4 hE)) (by decide +kernel : am_Lm m_A_passes = 4) (Nat.le_of_ble_eq_true rfl) rfl (by decide +kernel),
  fun l0 l1 a E u => q_ret (by decide +kernel : am_Pg 125 6 = some (.ireturn, 1, [], 0)) rfl⟩
theorem x_A_undo :
  (∀ (a : Option Nat) (st : List am_V) (E : am_E) (u : am_M), Rn m_A_undo 0 [vR a] st E u = Rn m_A_undo 1 [vR a] (vR a :: st) E u) ∧
  (∀ (l0 : am_V) (st : List am_V) (E : am_E) (u : am_M) (hE : SE E), Rn m_A_undo 1 [l0] (vR (some 0) :: st) E u = Rn m_A_undo 4 [l0] (vR (some 15) :: st) E u) ∧
  (∀ (a : Option Nat) (st : List am_V) (E : am_E) (u : am_M), Rn m_A_undo 4 [vR a] st E u = Rn m_A_undo 5 [vR a] (vR a :: st) E u) ∧
  (∀ (l0 : am_V) (st : List am_V) (E : am_E) (u : am_M) (hE : SE E), Rn m_A_undo 5 [l0] (vR (some 0) :: st) E u = Rn m_A_undo 8 [l0] (vR (some 1) :: st) E u) ∧
  (∀ (l0 : am_V) (a0 : Option Nat) (E : am_E) (u : am_M) (hE : SE E), Rn m_A_undo 8 [l0] [vR a0, vR (some 15)] E u = bdI (Rn m_P_givesBack 0 [vR (some 15), vR a0] [] E u) (KI m_A_undo 11 [l0] [])) ∧
  (∀ (l0 : am_V) (a0 : Option Nat) (E : am_E) (u : am_M) (hE : SE E), Rn m_A_undo 8 [l0] [vR a0, vR (some 80)] E u = bdI (Rn m_P_givesBack 0 [vR (some 80), vR a0] [] E u) (KI m_A_undo 11 [l0] [])) ∧
  (∀ (l0 : am_V) (a : Int) (st : List am_V) (E : am_E) (u : am_M), Rn m_A_undo 11 [l0] (vI a :: st) E u = if a = 0 then Rn m_A_undo 24 [l0] st E u else Rn m_A_undo 14 [l0] st E u) ∧
  (∀ (a : Option Nat) (st : List am_V) (E : am_E) (u : am_M), Rn m_A_undo 14 [vR a] st E u = Rn m_A_undo 15 [vR a] (vR a :: st) E u) ∧
  (∀ (l0 : am_V) (st : List am_V) (E : am_E) (u : am_M) (hE : SE E), Rn m_A_undo 15 [l0] (vR (some 0) :: st) E u = Rn m_A_undo 18 [l0] (vR (some 15) :: st) E u) ∧
  (∀ (l0 : am_V) (st : List am_V) (E : am_E) (u : am_M) (hE : SE E), Rn m_A_undo 18 [l0] (vR (some 15) :: st) E u = Rn m_A_undo 21 [l0] (vI (u 15 2) :: st) E u) ∧
  (∀ (l0 : am_V) (st : List am_V) (E : am_E) (u : am_M) (hE : SE E), Rn m_A_undo 18 [l0] (vR (some 80) :: st) E u = Rn m_A_undo 21 [l0] (vI (u 80 2) :: st) E u) ∧
  (∀ (l0 : am_V) (st : List am_V) (E : am_E) (u : am_M), Rn m_A_undo 21 [l0] st E u = Rn m_A_undo 26 [l0] st E u) ∧
  (∀ (l0 : am_V) (st : List am_V) (E : am_E) (u : am_M), Rn m_A_undo 24 [l0] st E u = Rn m_A_undo 26 [l0] (vI (-4) :: st) E u) ∧
  (∀ (l0 : am_V) (a : Int) (E : am_E) (u : am_M), Rn m_A_undo 26 [l0] [vI a] E u = some (some (vI a), E, u)) :=
  ⟨fun a st E u => q_go (by decide +kernel : am_Pg 128 0 = some (.aload_n 0, 1, [], 0)) rfl,
  fun l0 st E u hE => q_gfR (by decide +kernel : am_Pg 128 1 = some (.getfield 22, 3, [4, 8, 2, 0], 0)) (SE_k4 hE) rfl (SE_r4_2 hE),
  fun a st E u => q_go (by decide +kernel : am_Pg 128 4 = some (.aload_n 0, 1, [], 0)) rfl,
  fun l0 st E u hE => q_gfR (by decide +kernel : am_Pg 128 5 = some (.getfield 12, 3, [4, 8, 0, 0], 0)) (SE_k4 hE) rfl (SE_r4_0 hE),
  fun l0 a0  E u hE => q_cI (by decide +kernel : am_Pg 128 8 = some (.invokevirtual 190, 3, [3, 127, 2, 1, 3, 1], 0)) (am_call_V (a := [vR a0]) (st' := []) (Nat.le_of_ble_eq_true rfl) rfl (SE_k1 hE paB_15)) (by decide +kernel : am_Lm m_P_givesBack = 2) (Nat.le_of_ble_eq_true rfl) rfl (by decide +kernel),
  fun l0 a0  E u hE => q_cI (by decide +kernel : am_Pg 128 8 = some (.invokevirtual 190, 3, [3, 127, 2, 1, 3, 1], 0)) (am_call_V (a := [vR a0]) (st' := []) (Nat.le_of_ble_eq_true rfl) rfl (SE_k1 hE paB_80)) (by decide +kernel : am_Lm m_P_givesBack = 2) (Nat.le_of_ble_eq_true rfl) rfl (by decide +kernel),
  fun l0 a st E u => q_if_eq (tgt := 24) (by decide +kernel : am_Pg 128 11 = some (.ifCond .eq 13, 3, [], 0)) (by decide),
  fun a st E u => q_go (by decide +kernel : am_Pg 128 14 = some (.aload_n 0, 1, [], 0)) rfl,
  fun l0 st E u hE => q_gfR (by decide +kernel : am_Pg 128 15 = some (.getfield 22, 3, [4, 8, 2, 0], 0)) (SE_k4 hE) rfl (SE_r4_2 hE),
  fun l0 st E u hE => q_gfI (by decide +kernel : am_Pg 128 18 = some (.getfield 163, 3, [1, 3, 2, 1], 0)) (SE_k1 hE paB_15) (by decide),
  fun l0 st E u hE => q_gfI (by decide +kernel : am_Pg 128 18 = some (.getfield 163, 3, [1, 3, 2, 1], 0)) (SE_k1 hE paB_80) (by decide),
  fun l0 st E u => q_go (by decide +kernel : am_Pg 128 21 = some (.goto 5, 3, [], 0)) rfl,
  fun l0 st E u => q_go (by decide +kernel : am_Pg 128 24 = some (.bipush (-4), 2, [], 0)) rfl,
  fun l0 a E u => q_ret (by decide +kernel : am_Pg 128 26 = some (.ireturn, 1, [], 0)) rfl⟩
theorem x_A_seed :
  (∀ (l0 l2 : am_V) (a : Int) (st : List am_V) (E : am_E) (u : am_M), Rn m_A_seed 0 [l0, vI a, l2] st E u = Rn m_A_seed 1 [l0, vI a, l2] (vI a :: st) E u) ∧
  (∀ (l0 l1 l2 : am_V) (a : Int) (st : List am_V) (E : am_E) (u : am_M), Rn m_A_seed 1 [l0, l1, l2] (vI a :: st) E u = if a < 0 then Rn m_A_seed 4 [l0, l1, l2] st E u else Rn m_A_seed 6 [l0, l1, l2] st E u) ∧
  (∀ (l0 l1 l2 : am_V) (st : List am_V) (E : am_E) (u : am_M), Rn m_A_seed 4 [l0, l1, l2] st E u = Rn m_A_seed 5 [l0, l1, l2] (vI (-1) :: st) E u) ∧
  (∀ (l0 l1 l2 : am_V) (a : Int) (E : am_E) (u : am_M), Rn m_A_seed 5 [l0, l1, l2] [vI a] E u = some (some (vI a), E, u)) ∧
  (∀ (l1 l2 : am_V) (a : Option Nat) (st : List am_V) (E : am_E) (u : am_M), Rn m_A_seed 6 [vR a, l1, l2] st E u = Rn m_A_seed 7 [vR a, l1, l2] (vR a :: st) E u) ∧
  (∀ (l0 l1 l2 : am_V) (st : List am_V) (E : am_E) (u : am_M) (hE : SE E), Rn m_A_seed 7 [l0, l1, l2] (vR (some 0) :: st) E u = Rn m_A_seed 10 [l0, l1, l2] (vR (some 1) :: st) E u) ∧
  (∀ (l0 l1 l2 : am_V) (st : List am_V) (E : am_E) (u : am_M) (hE : SE E), Rn m_A_seed 10 [l0, l1, l2] (vR (some 1) :: st) E u = Rn m_A_seed 13 [l0, l1, l2] (vI (u 1 5) :: st) E u) ∧
  (∀ (l0 l1 l2 : am_V) (st : List am_V) (E : am_E) (u : am_M) (hE : SE E), Rn m_A_seed 10 [l0, l1, l2] (vR (some 8) :: st) E u = Rn m_A_seed 13 [l0, l1, l2] (vI (u 8 5) :: st) E u) ∧
  (∀ (l0 l1 l2 : am_V) (st : List am_V) (E : am_E) (u : am_M) (hE : SE E), Rn m_A_seed 10 [l0, l1, l2] (vR (some 73) :: st) E u = Rn m_A_seed 13 [l0, l1, l2] (vI (u 73 5) :: st) E u) ∧
  (∀ (l0 l1 l2 : am_V) (a : Int) (st : List am_V) (E : am_E) (u : am_M), Rn m_A_seed 13 [l0, l1, l2] (vI a :: st) E u = Rn m_A_seed 14 [l0, am_fx l1, vI a] st E u) ∧
  (∀ (l1 l2 : am_V) (a : Option Nat) (st : List am_V) (E : am_E) (u : am_M), Rn m_A_seed 14 [vR a, l1, l2] st E u = Rn m_A_seed 15 [vR a, l1, l2] (vR a :: st) E u) ∧
  (∀ (l0 l1 l2 : am_V) (st : List am_V) (E : am_E) (u : am_M) (hE : SE E), Rn m_A_seed 15 [l0, l1, l2] (vR (some 0) :: st) E u = Rn m_A_seed 18 [l0, l1, l2] (vR (some 1) :: st) E u) ∧
  (∀ (l0 l2 : am_V) (a : Int) (st : List am_V) (E : am_E) (u : am_M), Rn m_A_seed 18 [l0, vI a, l2] st E u = Rn m_A_seed 19 [l0, vI a, l2] (vI a :: st) E u) ∧
  (∀ (l0 l1 l2 : am_V) (a : Int) (st : List am_V) (E : am_E) (u : am_M) (hE : SE E), Rn m_A_seed 19 [l0, l1, l2] (vI a :: vR (some 1) :: st) E u = Rn m_A_seed 22 [l0, l1, l2] st E (am_up u 1 5 a)) ∧
  (∀ (l0 l1 l2 : am_V) (a : Int) (st : List am_V) (E : am_E) (u : am_M) (hE : SE E), Rn m_A_seed 19 [l0, l1, l2] (vI a :: vR (some 8) :: st) E u = Rn m_A_seed 22 [l0, l1, l2] st E (am_up u 8 5 a)) ∧
  (∀ (l0 l1 l2 : am_V) (a : Int) (st : List am_V) (E : am_E) (u : am_M) (hE : SE E), Rn m_A_seed 19 [l0, l1, l2] (vI a :: vR (some 73) :: st) E u = Rn m_A_seed 22 [l0, l1, l2] st E (am_up u 73 5 a)) ∧
  (∀ (l0 l1 : am_V) (a : Int) (st : List am_V) (E : am_E) (u : am_M), Rn m_A_seed 22 [l0, l1, vI a] st E u = Rn m_A_seed 23 [l0, l1, vI a] (vI a :: st) E u) ∧
  (∀ (l0 l1 l2 : am_V) (a : Int) (E : am_E) (u : am_M), Rn m_A_seed 23 [l0, l1, l2] [vI a] E u = some (some (vI a), E, u)) :=
  ⟨fun l0 l2 a st E u => q_go (by decide +kernel : am_Pg 130 0 = some (.iload_n 1, 1, [], 0)) rfl,
  fun l0 l1 l2 a st E u => q_if_ge (tgt := 6) (by decide +kernel : am_Pg 130 1 = some (.ifCond .ge 5, 3, [], 0)) (by decide),
  fun l0 l1 l2 st E u => q_go (by decide +kernel : am_Pg 130 4 = some (.iconst (-1), 1, [], 0)) rfl,
  fun l0 l1 l2 a E u => q_ret (by decide +kernel : am_Pg 130 5 = some (.ireturn, 1, [], 0)) rfl,
  fun l1 l2 a st E u => q_go (by decide +kernel : am_Pg 130 6 = some (.aload_n 0, 1, [], 0)) rfl,
  fun l0 l1 l2 st E u hE => q_gfR (by decide +kernel : am_Pg 130 7 = some (.getfield 12, 3, [4, 8, 0, 0], 0)) (SE_k4 hE) rfl (SE_r4_0 hE),
  fun l0 l1 l2 st E u hE => q_gfI (by decide +kernel : am_Pg 130 10 = some (.getfield 138, 3, [0, 14, 5, 1], 0)) (SE_k0 hE cuB_1) (by decide),
  fun l0 l1 l2 st E u hE => q_gfI (by decide +kernel : am_Pg 130 10 = some (.getfield 138, 3, [0, 14, 5, 1], 0)) (SE_k0 hE cuB_8) (by decide),
  fun l0 l1 l2 st E u hE => q_gfI (by decide +kernel : am_Pg 130 10 = some (.getfield 138, 3, [0, 14, 5, 1], 0)) (SE_k0 hE cuB_73) (by decide),
  fun l0 l1 l2 a st E u => q_go (by decide +kernel : am_Pg 130 13 = some (.istore_n 2, 1, [], 0)) rfl,
  fun l1 l2 a st E u => q_go (by decide +kernel : am_Pg 130 14 = some (.aload_n 0, 1, [], 0)) rfl,
  fun l0 l1 l2 st E u hE => q_gfR (by decide +kernel : am_Pg 130 15 = some (.getfield 12, 3, [4, 8, 0, 0], 0)) (SE_k4 hE) rfl (SE_r4_0 hE),
  fun l0 l2 a st E u => q_go (by decide +kernel : am_Pg 130 18 = some (.iload_n 1, 1, [], 0)) rfl,
  fun l0 l1 l2 a st E u hE => q_pfI (by decide +kernel : am_Pg 130 19 = some (.putfield 138, 3, [0, 14, 5, 1], 0)) (SE_k0 hE cuB_1) rfl,
  fun l0 l1 l2 a st E u hE => q_pfI (by decide +kernel : am_Pg 130 19 = some (.putfield 138, 3, [0, 14, 5, 1], 0)) (SE_k0 hE cuB_8) rfl,
  fun l0 l1 l2 a st E u hE => q_pfI (by decide +kernel : am_Pg 130 19 = some (.putfield 138, 3, [0, 14, 5, 1], 0)) (SE_k0 hE cuB_73) rfl,
  fun l0 l1 a st E u => q_go (by decide +kernel : am_Pg 130 22 = some (.iload_n 2, 1, [], 0)) rfl,
  fun l0 l1 l2 a E u => q_ret (by decide +kernel : am_Pg 130 23 = some (.ireturn, 1, [], 0)) rfl⟩
theorem x_A_ahead :
  (∀ (l1 l2 : am_V) (a : Option Nat) (st : List am_V) (E : am_E) (u : am_M), Rn m_A_ahead 0 [vR a, l1, l2] st E u = Rn m_A_ahead 1 [vR a, l1, l2] (vR a :: st) E u) ∧
  (∀ (l0 l1 l2 : am_V) (st : List am_V) (E : am_E) (u : am_M) (hE : SE E), Rn m_A_ahead 1 [l0, l1, l2] (vR (some 0) :: st) E u = Rn m_A_ahead 4 [l0, l1, l2] (vR (some 1) :: st) E u) ∧
  (∀ (l0 l2 : am_V) (a : Int) (st : List am_V) (E : am_E) (u : am_M), Rn m_A_ahead 4 [l0, vI a, l2] st E u = Rn m_A_ahead 5 [l0, vI a, l2] (vI a :: st) E u) ∧
  (∀ (l0 l1 l2 : am_V) (a0 : Int) (E : am_E) (u : am_M) (hE : SE E), Rn m_A_ahead 5 [l0, l1, l2] [vI a0, vR (some 1)] E u = bdI (Rn m_C_isPin 0 [vR (some 1), vI a0] [] E u) (KI m_A_ahead 8 [l0, l1, l2] [])) ∧
  (∀ (l0 l1 l2 : am_V) (a0 : Int) (E : am_E) (u : am_M) (hE : SE E), Rn m_A_ahead 5 [l0, l1, l2] [vI a0, vR (some 8)] E u = bdI (Rn m_C_isPin 0 [vR (some 8), vI a0] [] E u) (KI m_A_ahead 8 [l0, l1, l2] [])) ∧
  (∀ (l0 l1 l2 : am_V) (a0 : Int) (E : am_E) (u : am_M) (hE : SE E), Rn m_A_ahead 5 [l0, l1, l2] [vI a0, vR (some 73)] E u = bdI (Rn m_C_isPin 0 [vR (some 73), vI a0] [] E u) (KI m_A_ahead 8 [l0, l1, l2] [])) ∧
  (∀ (l0 l1 l2 : am_V) (a : Int) (st : List am_V) (E : am_E) (u : am_M), Rn m_A_ahead 8 [l0, l1, l2] (vI a :: st) E u = if a = 0 then Rn m_A_ahead 21 [l0, l1, l2] st E u else Rn m_A_ahead 11 [l0, l1, l2] st E u) ∧
  (∀ (l0 l1 : am_V) (a : Int) (st : List am_V) (E : am_E) (u : am_M), Rn m_A_ahead 11 [l0, l1, vI a] st E u = Rn m_A_ahead 12 [l0, l1, vI a] (vI a :: st) E u) ∧
  (∀ (l0 l1 l2 : am_V) (st : List am_V) (E : am_E) (u : am_M), Rn m_A_ahead 12 [l0, l1, l2] st E u = Rn m_A_ahead 13 [l0, l1, l2] (vI 0 :: st) E u) ∧
  (∀ (l0 l1 l2 : am_V) (st : List am_V) (E : am_E) (u : am_M), Rn m_A_ahead 13 [l0, l1, l2] st E u = Rn m_A_ahead 15 [l0, l1, l2] (vI 60 :: st) E u) ∧
  (∀ (l0 l1 l2 : am_V) (a0 : Int) (a1 : Int) (a2 : Int) (E : am_E) (u : am_M), Rn m_A_ahead 15 [l0, l1, l2] [vI a2, vI a1, vI a0] E u = bdI (Rn m_A_isIn 0 [vI a0, vI a1, vI a2] [] E u) (KI m_A_ahead 18 [l0, l1, l2] [])) ∧
  (∀ (l0 l1 l2 : am_V) (a : Int) (st : List am_V) (E : am_E) (u : am_M), Rn m_A_ahead 18 [l0, l1, l2] (vI a :: st) E u = if a = 0 then Rn m_A_ahead 21 [l0, l1, l2] st E u else Rn m_A_ahead 23 [l0, l1, l2] st E u) ∧
  (∀ (l0 l1 l2 : am_V) (st : List am_V) (E : am_E) (u : am_M), Rn m_A_ahead 21 [l0, l1, l2] st E u = Rn m_A_ahead 22 [l0, l1, l2] (vI (-1) :: st) E u) ∧
  (∀ (l0 l1 l2 : am_V) (a : Int) (E : am_E) (u : am_M), Rn m_A_ahead 22 [l0, l1, l2] [vI a] E u = some (some (vI a), E, u)) ∧
  (∀ (l1 l2 : am_V) (a : Option Nat) (st : List am_V) (E : am_E) (u : am_M), Rn m_A_ahead 23 [vR a, l1, l2] st E u = Rn m_A_ahead 24 [vR a, l1, l2] (vR a :: st) E u) ∧
  (∀ (l0 l1 l2 : am_V) (st : List am_V) (E : am_E) (u : am_M) (hE : SE E), Rn m_A_ahead 24 [l0, l1, l2] (vR (some 0) :: st) E u = Rn m_A_ahead 27 [l0, l1, l2] (vR (some 8) :: st) E u) ∧
  (∀ (l1 l2 : am_V) (a : Option Nat) (st : List am_V) (E : am_E) (u : am_M), Rn m_A_ahead 27 [vR a, l1, l2] st E u = Rn m_A_ahead 28 [vR a, l1, l2] (vR a :: st) E u) ∧
  (∀ (l0 l1 l2 : am_V) (st : List am_V) (E : am_E) (u : am_M) (hE : SE E), Rn m_A_ahead 28 [l0, l1, l2] (vR (some 0) :: st) E u = Rn m_A_ahead 31 [l0, l1, l2] (vR (some 1) :: st) E u) ∧
  (∀ (l0 l1 l2 : am_V) (a0 : Option Nat) (E : am_E) (u : am_M) (hE : SE E), Rn m_A_ahead 31 [l0, l1, l2] [vR a0, vR (some 1)] E u = bdV (Rn m_C_becomes 0 [vR (some 1), vR a0] [] E u) (KV m_A_ahead 34 [l0, l1, l2] [])) ∧
  (∀ (l0 l1 l2 : am_V) (a0 : Option Nat) (E : am_E) (u : am_M) (hE : SE E), Rn m_A_ahead 31 [l0, l1, l2] [vR a0, vR (some 8)] E u = bdV (Rn m_C_becomes 0 [vR (some 8), vR a0] [] E u) (KV m_A_ahead 34 [l0, l1, l2] [])) ∧
  (∀ (l0 l1 l2 : am_V) (a0 : Option Nat) (E : am_E) (u : am_M) (hE : SE E), Rn m_A_ahead 31 [l0, l1, l2] [vR a0, vR (some 73)] E u = bdV (Rn m_C_becomes 0 [vR (some 73), vR a0] [] E u) (KV m_A_ahead 34 [l0, l1, l2] [])) ∧
  (∀ (l1 l2 : am_V) (a : Option Nat) (st : List am_V) (E : am_E) (u : am_M), Rn m_A_ahead 34 [vR a, l1, l2] st E u = Rn m_A_ahead 35 [vR a, l1, l2] (vR a :: st) E u) ∧
  (∀ (l0 l1 l2 : am_V) (st : List am_V) (E : am_E) (u : am_M) (hE : SE E), Rn m_A_ahead 35 [l0, l1, l2] (vR (some 0) :: st) E u = Rn m_A_ahead 38 [l0, l1, l2] (vR (some 8) :: st) E u) ∧
  (∀ (l0 l1 : am_V) (a : Int) (st : List am_V) (E : am_E) (u : am_M), Rn m_A_ahead 38 [l0, l1, vI a] st E u = Rn m_A_ahead 39 [l0, l1, vI a] (vI a :: st) E u) ∧
  (∀ (l0 l1 l2 : am_V) (a0 : Int) (E : am_E) (u : am_M) (hE : SE E), Rn m_A_ahead 39 [l0, l1, l2] [vI a0, vR (some 1)] E u = bdV (Rn m_C_goesOnFor 0 [vR (some 1), vI a0, vB false] [] E u) (KV m_A_ahead 42 [l0, l1, l2] [])) ∧
  (∀ (l0 l1 l2 : am_V) (a0 : Int) (E : am_E) (u : am_M) (hE : SE E), Rn m_A_ahead 39 [l0, l1, l2] [vI a0, vR (some 8)] E u = bdV (Rn m_C_goesOnFor 0 [vR (some 8), vI a0, vB false] [] E u) (KV m_A_ahead 42 [l0, l1, l2] [])) ∧
  (∀ (l0 l1 l2 : am_V) (a0 : Int) (E : am_E) (u : am_M) (hE : SE E), Rn m_A_ahead 39 [l0, l1, l2] [vI a0, vR (some 73)] E u = bdV (Rn m_C_goesOnFor 0 [vR (some 73), vI a0, vB false] [] E u) (KV m_A_ahead 42 [l0, l1, l2] [])) ∧
  (∀ (l1 l2 : am_V) (a : Option Nat) (st : List am_V) (E : am_E) (u : am_M), Rn m_A_ahead 42 [vR a, l1, l2] st E u = Rn m_A_ahead 43 [vR a, l1, l2] (vR a :: st) E u) ∧
  (∀ (l0 l1 l2 : am_V) (st : List am_V) (E : am_E) (u : am_M) (hE : SE E), Rn m_A_ahead 43 [l0, l1, l2] (vR (some 0) :: st) E u = Rn m_A_ahead 46 [l0, l1, l2] (vR (some 8) :: st) E u) ∧
  (∀ (l0 l1 l2 : am_V) (st : List am_V) (E : am_E) (u : am_M) (hE : SE E), Rn m_A_ahead 46 [l0, l1, l2] (vR (some 1) :: st) E u = Rn m_A_ahead 49 [l0, l1, l2] (vR (some 3) :: st) E u) ∧
  (∀ (l0 l1 l2 : am_V) (st : List am_V) (E : am_E) (u : am_M) (hE : SE E), Rn m_A_ahead 46 [l0, l1, l2] (vR (some 8) :: st) E u = Rn m_A_ahead 49 [l0, l1, l2] (vR (some 10) :: st) E u) ∧
  (∀ (l0 l1 l2 : am_V) (st : List am_V) (E : am_E) (u : am_M) (hE : SE E), Rn m_A_ahead 46 [l0, l1, l2] (vR (some 73) :: st) E u = Rn m_A_ahead 49 [l0, l1, l2] (vR (some 75) :: st) E u) ∧
  (∀ (l0 l2 : am_V) (a : Int) (st : List am_V) (E : am_E) (u : am_M), Rn m_A_ahead 49 [l0, vI a, l2] st E u = Rn m_A_ahead 50 [l0, vI a, l2] (vI a :: st) E u) ∧
  (∀ (l0 l1 l2 : am_V) (a0 : Option Nat) (a1 : Int) (E : am_E) (u : am_M), Rn m_A_ahead 50 [l0, l1, l2] [vI a1, vR a0] E u = bdI (Rn m_A_look 0 [vR a0, vI a1] [] E u) (KI m_A_ahead 53 [l0, l1, l2] [])) ∧
  (∀ (l0 l1 l2 : am_V) (a : Int) (E : am_E) (u : am_M), Rn m_A_ahead 53 [l0, l1, l2] [vI a] E u = some (some (vI a), E, u)) :=
  ⟨fun l1 l2 a st E u => q_go (by decide +kernel : am_Pg 133 0 = some (.aload_n 0, 1, [], 0)) rfl,
  fun l0 l1 l2 st E u hE => q_gfR (by decide +kernel : am_Pg 133 1 = some (.getfield 12, 3, [4, 8, 0, 0], 0)) (SE_k4 hE) rfl (SE_r4_0 hE),
  fun l0 l2 a st E u => q_go (by decide +kernel : am_Pg 133 4 = some (.iload_n 1, 1, [], 0)) rfl,
  fun l0 l1 l2 a0  E u hE => q_cI (by decide +kernel : am_Pg 133 5 = some (.invokevirtual 87, 3, [3, 29, 2, 0, 14, 1], 0)) (am_call_V (a := [vI a0]) (st' := []) (Nat.le_of_ble_eq_true rfl) rfl (SE_k0 hE cuB_1)) (by decide +kernel : am_Lm m_C_isPin = 2) (Nat.le_of_ble_eq_true rfl) rfl (by decide +kernel),
  fun l0 l1 l2 a0  E u hE => q_cI (by decide +kernel : am_Pg 133 5 = some (.invokevirtual 87, 3, [3, 29, 2, 0, 14, 1], 0)) (am_call_V (a := [vI a0]) (st' := []) (Nat.le_of_ble_eq_true rfl) rfl (SE_k0 hE cuB_8)) (by decide +kernel : am_Lm m_C_isPin = 2) (Nat.le_of_ble_eq_true rfl) rfl (by decide +kernel),
  fun l0 l1 l2 a0  E u hE => q_cI (by decide +kernel : am_Pg 133 5 = some (.invokevirtual 87, 3, [3, 29, 2, 0, 14, 1], 0)) (am_call_V (a := [vI a0]) (st' := []) (Nat.le_of_ble_eq_true rfl) rfl (SE_k0 hE cuB_73)) (by decide +kernel : am_Lm m_C_isPin = 2) (Nat.le_of_ble_eq_true rfl) rfl (by decide +kernel),
  fun l0 l1 l2 a st E u => q_if_eq (tgt := 21) (by decide +kernel : am_Pg 133 8 = some (.ifCond .eq 13, 3, [], 0)) (by decide),
  fun l0 l1 a st E u => q_go (by decide +kernel : am_Pg 133 11 = some (.iload_n 2, 1, [], 0)) rfl,
  fun l0 l1 l2 st E u => q_go (by decide +kernel : am_Pg 133 12 = some (.iconst 0, 1, [], 0)) rfl,
  fun l0 l1 l2 st E u => q_go (by decide +kernel : am_Pg 133 13 = some (.bipush 60, 2, [], 0)) rfl,
  fun l0 l1 l2 a0 a1 a2  E u => q_cI (by decide +kernel : am_Pg 133 15 = some (.invokestatic 46, 3, [2, 8, 3, 0], 0)) (am_call_S (f := fun _ _ => true) (a := [vI a0, vI a1, vI a2]) (st' := []) (Nat.le_of_ble_eq_true rfl) rfl rfl) (by decide +kernel : am_Lm m_A_isIn = 3) (Nat.le_of_ble_eq_true rfl) rfl (by decide +kernel),
  fun l0 l1 l2 a st E u => q_if_ne (tgt := 23) (by decide +kernel : am_Pg 133 18 = some (.ifCond .ne 5, 3, [], 0)) (by decide),
  fun l0 l1 l2 st E u => q_go (by decide +kernel : am_Pg 133 21 = some (.iconst (-1), 1, [], 0)) rfl,
  fun l0 l1 l2 a E u => q_ret (by decide +kernel : am_Pg 133 22 = some (.ireturn, 1, [], 0)) rfl,
  fun l1 l2 a st E u => q_go (by decide +kernel : am_Pg 133 23 = some (.aload_n 0, 1, [], 0)) rfl,
  fun l0 l1 l2 st E u hE => q_gfR (by decide +kernel : am_Pg 133 24 = some (.getfield 16, 3, [4, 8, 1, 0], 0)) (SE_k4 hE) rfl (SE_r4_1 hE),
  fun l1 l2 a st E u => q_go (by decide +kernel : am_Pg 133 27 = some (.aload_n 0, 1, [], 0)) rfl,
  fun l0 l1 l2 st E u hE => q_gfR (by decide +kernel : am_Pg 133 28 = some (.getfield 12, 3, [4, 8, 0, 0], 0)) (SE_k4 hE) rfl (SE_r4_0 hE),
  fun l0 l1 l2 a0  E u hE => q_cV (by decide +kernel : am_Pg 133 31 = some (.invokevirtual 141, 3, [3, 78, 2, 0, 14, 1], 0)) (am_call_V (a := [vR a0]) (st' := []) (Nat.le_of_ble_eq_true rfl) rfl (SE_k0 hE cuB_1)) (by decide +kernel : am_Lm m_C_becomes = 2) (Nat.le_of_ble_eq_true rfl) rfl (by decide +kernel),
  fun l0 l1 l2 a0  E u hE => q_cV (by decide +kernel : am_Pg 133 31 = some (.invokevirtual 141, 3, [3, 78, 2, 0, 14, 1], 0)) (am_call_V (a := [vR a0]) (st' := []) (Nat.le_of_ble_eq_true rfl) rfl (SE_k0 hE cuB_8)) (by decide +kernel : am_Lm m_C_becomes = 2) (Nat.le_of_ble_eq_true rfl) rfl (by decide +kernel),
  fun l0 l1 l2 a0  E u hE => q_cV (by decide +kernel : am_Pg 133 31 = some (.invokevirtual 141, 3, [3, 78, 2, 0, 14, 1], 0)) (am_call_V (a := [vR a0]) (st' := []) (Nat.le_of_ble_eq_true rfl) rfl (SE_k0 hE cuB_73)) (by decide +kernel : am_Lm m_C_becomes = 2) (Nat.le_of_ble_eq_true rfl) rfl (by decide +kernel),
  fun l1 l2 a st E u => q_go (by decide +kernel : am_Pg 133 34 = some (.aload_n 0, 1, [], 0)) rfl,
  fun l0 l1 l2 st E u hE => q_gfR (by decide +kernel : am_Pg 133 35 = some (.getfield 16, 3, [4, 8, 1, 0], 0)) (SE_k4 hE) rfl (SE_r4_1 hE),
  fun l0 l1 a st E u => q_go (by decide +kernel : am_Pg 133 38 = some (.iload_n 2, 1, [], 0)) rfl,
  fun l0 l1 l2 a0  E u hE => q_cV (by decide +kernel : am_Pg 133 39 = some (.invokevirtual 193, 3, [3, 132, 2, 0, 14, 1], 0)) (am_call_V (a := [vI a0]) (st' := []) (Nat.le_of_ble_eq_true rfl) rfl (SE_k0 hE cuB_1)) (by decide +kernel : am_Lm m_C_goesOnFor = 3) (Nat.le_of_ble_eq_true rfl) rfl (by decide +kernel),
  fun l0 l1 l2 a0  E u hE => q_cV (by decide +kernel : am_Pg 133 39 = some (.invokevirtual 193, 3, [3, 132, 2, 0, 14, 1], 0)) (am_call_V (a := [vI a0]) (st' := []) (Nat.le_of_ble_eq_true rfl) rfl (SE_k0 hE cuB_8)) (by decide +kernel : am_Lm m_C_goesOnFor = 3) (Nat.le_of_ble_eq_true rfl) rfl (by decide +kernel),
  fun l0 l1 l2 a0  E u hE => q_cV (by decide +kernel : am_Pg 133 39 = some (.invokevirtual 193, 3, [3, 132, 2, 0, 14, 1], 0)) (am_call_V (a := [vI a0]) (st' := []) (Nat.le_of_ble_eq_true rfl) rfl (SE_k0 hE cuB_73)) (by decide +kernel : am_Lm m_C_goesOnFor = 3) (Nat.le_of_ble_eq_true rfl) rfl (by decide +kernel),
  fun l1 l2 a st E u => q_go (by decide +kernel : am_Pg 133 42 = some (.aload_n 0, 1, [], 0)) rfl,
  fun l0 l1 l2 st E u hE => q_gfR (by decide +kernel : am_Pg 133 43 = some (.getfield 16, 3, [4, 8, 1, 0], 0)) (SE_k4 hE) rfl (SE_r4_1 hE),
  fun l0 l1 l2 st E u hE => q_gfR (by decide +kernel : am_Pg 133 46 = some (.getfield 98, 3, [0, 14, 9, 1], 0)) (SE_k0 hE cuB_1) rfl (SE_r0_9 hE cuB_1),
  fun l0 l1 l2 st E u hE => q_gfR (by decide +kernel : am_Pg 133 46 = some (.getfield 98, 3, [0, 14, 9, 1], 0)) (SE_k0 hE cuB_8) rfl (SE_r0_9 hE cuB_8),
  fun l0 l1 l2 st E u hE => q_gfR (by decide +kernel : am_Pg 133 46 = some (.getfield 98, 3, [0, 14, 9, 1], 0)) (SE_k0 hE cuB_73) rfl (SE_r0_9 hE cuB_73),
  fun l0 l2 a st E u => q_go (by decide +kernel : am_Pg 133 49 = some (.iload_n 1, 1, [], 0)) rfl,
  fun l0 l1 l2 a0 a1  E u => q_cI (by decide +kernel : am_Pg 133 50 = some (.invokestatic 94, 3, [2, 36, 2, 0], 0)) (am_call_S (f := fun _ _ => true) (a := [vR a0, vI a1]) (st' := []) (Nat.le_of_ble_eq_true rfl) rfl rfl) (by decide +kernel : am_Lm m_A_look = 2) (Nat.le_of_ble_eq_true rfl) rfl (by decide +kernel),
  fun l0 l1 l2 a E u => q_ret (by decide +kernel : am_Pg 133 53 = some (.ireturn, 1, [], 0)) rfl⟩
theorem x_A_holes :
  (∀ (l0 : am_V) (a : Int) (st : List am_V) (E : am_E) (u : am_M), Rn m_A_holes 0 [l0, vI a] st E u = Rn m_A_holes 1 [l0, vI a] (vI a :: st) E u) ∧
  (∀ (l0 l1 : am_V) (st : List am_V) (E : am_E) (u : am_M), Rn m_A_holes 1 [l0, l1] st E u = Rn m_A_holes 2 [l0, l1] (vI 0 :: st) E u) ∧
  (∀ (l0 l1 : am_V) (st : List am_V) (E : am_E) (u : am_M), Rn m_A_holes 2 [l0, l1] st E u = Rn m_A_holes 4 [l0, l1] (vI 60 :: st) E u) ∧
  (∀ (l0 l1 : am_V) (a0 : Int) (a1 : Int) (a2 : Int) (E : am_E) (u : am_M), Rn m_A_holes 4 [l0, l1] [vI a2, vI a1, vI a0] E u = bdI (Rn m_A_isIn 0 [vI a0, vI a1, vI a2] [] E u) (KI m_A_holes 7 [l0, l1] [])) ∧
  (∀ (l0 l1 : am_V) (a : Int) (st : List am_V) (E : am_E) (u : am_M), Rn m_A_holes 7 [l0, l1] (vI a :: st) E u = if a = 0 then Rn m_A_holes 10 [l0, l1] st E u else Rn m_A_holes 12 [l0, l1] st E u) ∧
  (∀ (l0 l1 : am_V) (st : List am_V) (E : am_E) (u : am_M), Rn m_A_holes 10 [l0, l1] st E u = Rn m_A_holes 11 [l0, l1] (vI (-1) :: st) E u) ∧
  (∀ (l0 l1 : am_V) (a : Int) (E : am_E) (u : am_M), Rn m_A_holes 11 [l0, l1] [vI a] E u = some (some (vI a), E, u)) ∧
  (∀ (l1 : am_V) (a : Option Nat) (st : List am_V) (E : am_E) (u : am_M), Rn m_A_holes 12 [vR a, l1] st E u = Rn m_A_holes 13 [vR a, l1] (vR a :: st) E u) ∧
  (∀ (l0 l1 : am_V) (st : List am_V) (E : am_E) (u : am_M) (hE : SE E), Rn m_A_holes 13 [l0, l1] (vR (some 0) :: st) E u = Rn m_A_holes 16 [l0, l1] (vR (some 8) :: st) E u) ∧
  (∀ (l1 : am_V) (a : Option Nat) (st : List am_V) (E : am_E) (u : am_M), Rn m_A_holes 16 [vR a, l1] st E u = Rn m_A_holes 17 [vR a, l1] (vR a :: st) E u) ∧
  (∀ (l0 l1 : am_V) (st : List am_V) (E : am_E) (u : am_M) (hE : SE E), Rn m_A_holes 17 [l0, l1] (vR (some 0) :: st) E u = Rn m_A_holes 20 [l0, l1] (vR (some 1) :: st) E u) ∧
  (∀ (l0 l1 : am_V) (a0 : Option Nat) (E : am_E) (u : am_M) (hE : SE E), Rn m_A_holes 20 [l0, l1] [vR a0, vR (some 1)] E u = bdV (Rn m_C_becomes 0 [vR (some 1), vR a0] [] E u) (KV m_A_holes 23 [l0, l1] [])) ∧
  (∀ (l0 l1 : am_V) (a0 : Option Nat) (E : am_E) (u : am_M) (hE : SE E), Rn m_A_holes 20 [l0, l1] [vR a0, vR (some 8)] E u = bdV (Rn m_C_becomes 0 [vR (some 8), vR a0] [] E u) (KV m_A_holes 23 [l0, l1] [])) ∧
  (∀ (l0 l1 : am_V) (a0 : Option Nat) (E : am_E) (u : am_M) (hE : SE E), Rn m_A_holes 20 [l0, l1] [vR a0, vR (some 73)] E u = bdV (Rn m_C_becomes 0 [vR (some 73), vR a0] [] E u) (KV m_A_holes 23 [l0, l1] [])) ∧
  (∀ (l1 : am_V) (a : Option Nat) (st : List am_V) (E : am_E) (u : am_M), Rn m_A_holes 23 [vR a, l1] st E u = Rn m_A_holes 24 [vR a, l1] (vR a :: st) E u) ∧
  (∀ (l0 l1 : am_V) (st : List am_V) (E : am_E) (u : am_M) (hE : SE E), Rn m_A_holes 24 [l0, l1] (vR (some 0) :: st) E u = Rn m_A_holes 27 [l0, l1] (vR (some 8) :: st) E u) ∧
  (∀ (l0 : am_V) (a : Int) (st : List am_V) (E : am_E) (u : am_M), Rn m_A_holes 27 [l0, vI a] st E u = Rn m_A_holes 28 [l0, vI a] (vI a :: st) E u) ∧
  (∀ (l0 l1 : am_V) (a0 : Int) (E : am_E) (u : am_M) (hE : SE E), Rn m_A_holes 28 [l0, l1] [vI a0, vR (some 1)] E u = bdV (Rn m_C_goesOnFor 0 [vR (some 1), vI a0, vB false] [] E u) (KV m_A_holes 31 [l0, l1] [])) ∧
  (∀ (l0 l1 : am_V) (a0 : Int) (E : am_E) (u : am_M) (hE : SE E), Rn m_A_holes 28 [l0, l1] [vI a0, vR (some 8)] E u = bdV (Rn m_C_goesOnFor 0 [vR (some 8), vI a0, vB false] [] E u) (KV m_A_holes 31 [l0, l1] [])) ∧
  (∀ (l0 l1 : am_V) (a0 : Int) (E : am_E) (u : am_M) (hE : SE E), Rn m_A_holes 28 [l0, l1] [vI a0, vR (some 73)] E u = bdV (Rn m_C_goesOnFor 0 [vR (some 73), vI a0, vB false] [] E u) (KV m_A_holes 31 [l0, l1] [])) ∧
  (∀ (l1 : am_V) (a : Option Nat) (st : List am_V) (E : am_E) (u : am_M), Rn m_A_holes 31 [vR a, l1] st E u = Rn m_A_holes 32 [vR a, l1] (vR a :: st) E u) ∧
  (∀ (l0 l1 : am_V) (st : List am_V) (E : am_E) (u : am_M) (hE : SE E), Rn m_A_holes 32 [l0, l1] (vR (some 0) :: st) E u = Rn m_A_holes 35 [l0, l1] (vR (some 8) :: st) E u) ∧
  (∀ (l0 l1 : am_V) (E : am_E) (u : am_M) (hE : SE E), Rn m_A_holes 35 [l0, l1] [vR (some 1)] E u = bdI (Rn m_C_holeCount 0 [vR (some 1)] [] E u) (KI m_A_holes 38 [l0, l1] [])) ∧
  (∀ (l0 l1 : am_V) (E : am_E) (u : am_M) (hE : SE E), Rn m_A_holes 35 [l0, l1] [vR (some 8)] E u = bdI (Rn m_C_holeCount 0 [vR (some 8)] [] E u) (KI m_A_holes 38 [l0, l1] [])) ∧
  (∀ (l0 l1 : am_V) (E : am_E) (u : am_M) (hE : SE E), Rn m_A_holes 35 [l0, l1] [vR (some 73)] E u = bdI (Rn m_C_holeCount 0 [vR (some 73)] [] E u) (KI m_A_holes 38 [l0, l1] [])) ∧
  (∀ (l0 l1 : am_V) (a : Int) (E : am_E) (u : am_M), Rn m_A_holes 38 [l0, l1] [vI a] E u = some (some (vI a), E, u)) :=
  ⟨fun l0 a st E u => q_go (by decide +kernel : am_Pg 138 0 = some (.iload_n 1, 1, [], 0)) rfl,
  fun l0 l1 st E u => q_go (by decide +kernel : am_Pg 138 1 = some (.iconst 0, 1, [], 0)) rfl,
  fun l0 l1 st E u => q_go (by decide +kernel : am_Pg 138 2 = some (.bipush 60, 2, [], 0)) rfl,
  fun l0 l1 a0 a1 a2  E u => q_cI (by decide +kernel : am_Pg 138 4 = some (.invokestatic 46, 3, [2, 8, 3, 0], 0)) (am_call_S (f := fun _ _ => true) (a := [vI a0, vI a1, vI a2]) (st' := []) (Nat.le_of_ble_eq_true rfl) rfl rfl) (by decide +kernel : am_Lm m_A_isIn = 3) (Nat.le_of_ble_eq_true rfl) rfl (by decide +kernel),
  fun l0 l1 a st E u => q_if_ne (tgt := 12) (by decide +kernel : am_Pg 138 7 = some (.ifCond .ne 5, 3, [], 0)) (by decide),
  fun l0 l1 st E u => q_go (by decide +kernel : am_Pg 138 10 = some (.iconst (-1), 1, [], 0)) rfl,
  fun l0 l1 a E u => q_ret (by decide +kernel : am_Pg 138 11 = some (.ireturn, 1, [], 0)) rfl,
  fun l1 a st E u => q_go (by decide +kernel : am_Pg 138 12 = some (.aload_n 0, 1, [], 0)) rfl,
  fun l0 l1 st E u hE => q_gfR (by decide +kernel : am_Pg 138 13 = some (.getfield 16, 3, [4, 8, 1, 0], 0)) (SE_k4 hE) rfl (SE_r4_1 hE),
  fun l1 a st E u => q_go (by decide +kernel : am_Pg 138 16 = some (.aload_n 0, 1, [], 0)) rfl,
  fun l0 l1 st E u hE => q_gfR (by decide +kernel : am_Pg 138 17 = some (.getfield 12, 3, [4, 8, 0, 0], 0)) (SE_k4 hE) rfl (SE_r4_0 hE),
  fun l0 l1 a0  E u hE => q_cV (by decide +kernel : am_Pg 138 20 = some (.invokevirtual 141, 3, [3, 78, 2, 0, 14, 1], 0)) (am_call_V (a := [vR a0]) (st' := []) (Nat.le_of_ble_eq_true rfl) rfl (SE_k0 hE cuB_1)) (by decide +kernel : am_Lm m_C_becomes = 2) (Nat.le_of_ble_eq_true rfl) rfl (by decide +kernel),
  fun l0 l1 a0  E u hE => q_cV (by decide +kernel : am_Pg 138 20 = some (.invokevirtual 141, 3, [3, 78, 2, 0, 14, 1], 0)) (am_call_V (a := [vR a0]) (st' := []) (Nat.le_of_ble_eq_true rfl) rfl (SE_k0 hE cuB_8)) (by decide +kernel : am_Lm m_C_becomes = 2) (Nat.le_of_ble_eq_true rfl) rfl (by decide +kernel),
  fun l0 l1 a0  E u hE => q_cV (by decide +kernel : am_Pg 138 20 = some (.invokevirtual 141, 3, [3, 78, 2, 0, 14, 1], 0)) (am_call_V (a := [vR a0]) (st' := []) (Nat.le_of_ble_eq_true rfl) rfl (SE_k0 hE cuB_73)) (by decide +kernel : am_Lm m_C_becomes = 2) (Nat.le_of_ble_eq_true rfl) rfl (by decide +kernel),
  fun l1 a st E u => q_go (by decide +kernel : am_Pg 138 23 = some (.aload_n 0, 1, [], 0)) rfl,
  fun l0 l1 st E u hE => q_gfR (by decide +kernel : am_Pg 138 24 = some (.getfield 16, 3, [4, 8, 1, 0], 0)) (SE_k4 hE) rfl (SE_r4_1 hE),
  fun l0 a st E u => q_go (by decide +kernel : am_Pg 138 27 = some (.iload_n 1, 1, [], 0)) rfl,
  fun l0 l1 a0  E u hE => q_cV (by decide +kernel : am_Pg 138 28 = some (.invokevirtual 193, 3, [3, 132, 2, 0, 14, 1], 0)) (am_call_V (a := [vI a0]) (st' := []) (Nat.le_of_ble_eq_true rfl) rfl (SE_k0 hE cuB_1)) (by decide +kernel : am_Lm m_C_goesOnFor = 3) (Nat.le_of_ble_eq_true rfl) rfl (by decide +kernel),
  fun l0 l1 a0  E u hE => q_cV (by decide +kernel : am_Pg 138 28 = some (.invokevirtual 193, 3, [3, 132, 2, 0, 14, 1], 0)) (am_call_V (a := [vI a0]) (st' := []) (Nat.le_of_ble_eq_true rfl) rfl (SE_k0 hE cuB_8)) (by decide +kernel : am_Lm m_C_goesOnFor = 3) (Nat.le_of_ble_eq_true rfl) rfl (by decide +kernel),
  fun l0 l1 a0  E u hE => q_cV (by decide +kernel : am_Pg 138 28 = some (.invokevirtual 193, 3, [3, 132, 2, 0, 14, 1], 0)) (am_call_V (a := [vI a0]) (st' := []) (Nat.le_of_ble_eq_true rfl) rfl (SE_k0 hE cuB_73)) (by decide +kernel : am_Lm m_C_goesOnFor = 3) (Nat.le_of_ble_eq_true rfl) rfl (by decide +kernel),
  fun l1 a st E u => q_go (by decide +kernel : am_Pg 138 31 = some (.aload_n 0, 1, [], 0)) rfl,
  fun l0 l1 st E u hE => q_gfR (by decide +kernel : am_Pg 138 32 = some (.getfield 16, 3, [4, 8, 1, 0], 0)) (SE_k4 hE) rfl (SE_r4_1 hE),
  fun l0 l1   E u hE => q_cI (by decide +kernel : am_Pg 138 35 = some (.invokevirtual 154, 3, [3, 91, 1, 0, 14, 1], 0)) (am_call_V (a := []) (st' := []) (Nat.le_of_ble_eq_true rfl) rfl (SE_k0 hE cuB_1)) (by decide +kernel : am_Lm m_C_holeCount = 1) (Nat.le_of_ble_eq_true rfl) rfl (by decide +kernel),
  fun l0 l1   E u hE => q_cI (by decide +kernel : am_Pg 138 35 = some (.invokevirtual 154, 3, [3, 91, 1, 0, 14, 1], 0)) (am_call_V (a := []) (st' := []) (Nat.le_of_ble_eq_true rfl) rfl (SE_k0 hE cuB_8)) (by decide +kernel : am_Lm m_C_holeCount = 1) (Nat.le_of_ble_eq_true rfl) rfl (by decide +kernel),
  fun l0 l1   E u hE => q_cI (by decide +kernel : am_Pg 138 35 = some (.invokevirtual 154, 3, [3, 91, 1, 0, 14, 1], 0)) (am_call_V (a := []) (st' := []) (Nat.le_of_ble_eq_true rfl) rfl (SE_k0 hE cuB_73)) (by decide +kernel : am_Lm m_C_holeCount = 1) (Nat.le_of_ble_eq_true rfl) rfl (by decide +kernel),
  fun l0 l1 a E u => q_ret (by decide +kernel : am_Pg 138 38 = some (.ireturn, 1, [], 0)) rfl⟩
theorem x_A_comes :
  (∀ (l1 l2 : am_V) (a : Option Nat) (st : List am_V) (E : am_E) (u : am_M), Rn m_A_comes 0 [vR a, l1, l2] st E u = Rn m_A_comes 1 [vR a, l1, l2] (vR a :: st) E u) ∧
  (∀ (l0 l1 l2 : am_V) (st : List am_V) (E : am_E) (u : am_M) (hE : SE E), Rn m_A_comes 1 [l0, l1, l2] (vR (some 0) :: st) E u = Rn m_A_comes 4 [l0, l1, l2] (vR (some 1) :: st) E u) ∧
  (∀ (l0 l2 : am_V) (a : Int) (st : List am_V) (E : am_E) (u : am_M), Rn m_A_comes 4 [l0, vI a, l2] st E u = Rn m_A_comes 5 [l0, vI a, l2] (vI a :: st) E u) ∧
  (∀ (l0 l1 l2 : am_V) (a0 : Int) (E : am_E) (u : am_M) (hE : SE E), Rn m_A_comes 5 [l0, l1, l2] [vI a0, vR (some 1)] E u = bdI (Rn m_C_isPin 0 [vR (some 1), vI a0] [] E u) (KI m_A_comes 8 [l0, l1, l2] [])) ∧
  (∀ (l0 l1 l2 : am_V) (a0 : Int) (E : am_E) (u : am_M) (hE : SE E), Rn m_A_comes 5 [l0, l1, l2] [vI a0, vR (some 8)] E u = bdI (Rn m_C_isPin 0 [vR (some 8), vI a0] [] E u) (KI m_A_comes 8 [l0, l1, l2] [])) ∧
  (∀ (l0 l1 l2 : am_V) (a0 : Int) (E : am_E) (u : am_M) (hE : SE E), Rn m_A_comes 5 [l0, l1, l2] [vI a0, vR (some 73)] E u = bdI (Rn m_C_isPin 0 [vR (some 73), vI a0] [] E u) (KI m_A_comes 8 [l0, l1, l2] [])) ∧
  (∀ (l0 l1 l2 : am_V) (a : Int) (st : List am_V) (E : am_E) (u : am_M), Rn m_A_comes 8 [l0, l1, l2] (vI a :: st) E u = if a = 0 then Rn m_A_comes 22 [l0, l1, l2] st E u else Rn m_A_comes 11 [l0, l1, l2] st E u) ∧
  (∀ (l1 l2 : am_V) (a : Option Nat) (st : List am_V) (E : am_E) (u : am_M), Rn m_A_comes 11 [vR a, l1, l2] st E u = Rn m_A_comes 12 [vR a, l1, l2] (vR a :: st) E u) ∧
  (∀ (l0 l1 l2 : am_V) (st : List am_V) (E : am_E) (u : am_M) (hE : SE E), Rn m_A_comes 12 [l0, l1, l2] (vR (some 0) :: st) E u = Rn m_A_comes 15 [l0, l1, l2] (vR (some 1) :: st) E u) ∧
  (∀ (l0 l1 : am_V) (a : Int) (st : List am_V) (E : am_E) (u : am_M), Rn m_A_comes 15 [l0, l1, vI a] st E u = Rn m_A_comes 16 [l0, l1, vI a] (vI a :: st) E u) ∧
  (∀ (l0 l1 l2 : am_V) (a0 : Int) (E : am_E) (u : am_M) (hE : SE E), Rn m_A_comes 16 [l0, l1, l2] [vI a0, vR (some 1)] E u = bdI (Rn m_C_isCell 0 [vR (some 1), vI a0] [] E u) (KI m_A_comes 19 [l0, l1, l2] [])) ∧
  (∀ (l0 l1 l2 : am_V) (a0 : Int) (E : am_E) (u : am_M) (hE : SE E), Rn m_A_comes 16 [l0, l1, l2] [vI a0, vR (some 8)] E u = bdI (Rn m_C_isCell 0 [vR (some 8), vI a0] [] E u) (KI m_A_comes 19 [l0, l1, l2] [])) ∧
  (∀ (l0 l1 l2 : am_V) (a0 : Int) (E : am_E) (u : am_M) (hE : SE E), Rn m_A_comes 16 [l0, l1, l2] [vI a0, vR (some 73)] E u = bdI (Rn m_C_isCell 0 [vR (some 73), vI a0] [] E u) (KI m_A_comes 19 [l0, l1, l2] [])) ∧
  (∀ (l0 l1 l2 : am_V) (a : Int) (st : List am_V) (E : am_E) (u : am_M), Rn m_A_comes 19 [l0, l1, l2] (vI a :: st) E u = if a = 0 then Rn m_A_comes 22 [l0, l1, l2] st E u else Rn m_A_comes 24 [l0, l1, l2] st E u) ∧
  (∀ (l0 l1 l2 : am_V) (st : List am_V) (E : am_E) (u : am_M), Rn m_A_comes 22 [l0, l1, l2] st E u = Rn m_A_comes 23 [l0, l1, l2] (vI (-1) :: st) E u) ∧
  (∀ (l0 l1 l2 : am_V) (a : Int) (E : am_E) (u : am_M), Rn m_A_comes 23 [l0, l1, l2] [vI a] E u = some (some (vI a), E, u)) ∧
  (∀ (l1 l2 : am_V) (a : Option Nat) (st : List am_V) (E : am_E) (u : am_M), Rn m_A_comes 24 [vR a, l1, l2] st E u = Rn m_A_comes 25 [vR a, l1, l2] (vR a :: st) E u) ∧
  (∀ (l0 l1 l2 : am_V) (st : List am_V) (E : am_E) (u : am_M) (hE : SE E), Rn m_A_comes 25 [l0, l1, l2] (vR (some 0) :: st) E u = Rn m_A_comes 28 [l0, l1, l2] (vR (some 8) :: st) E u) ∧
  (∀ (l1 l2 : am_V) (a : Option Nat) (st : List am_V) (E : am_E) (u : am_M), Rn m_A_comes 28 [vR a, l1, l2] st E u = Rn m_A_comes 29 [vR a, l1, l2] (vR a :: st) E u) ∧
  (∀ (l0 l1 l2 : am_V) (st : List am_V) (E : am_E) (u : am_M) (hE : SE E), Rn m_A_comes 29 [l0, l1, l2] (vR (some 0) :: st) E u = Rn m_A_comes 32 [l0, l1, l2] (vR (some 1) :: st) E u) ∧
  (∀ (l0 l1 l2 : am_V) (a0 : Option Nat) (E : am_E) (u : am_M) (hE : SE E), Rn m_A_comes 32 [l0, l1, l2] [vR a0, vR (some 1)] E u = bdV (Rn m_C_becomes 0 [vR (some 1), vR a0] [] E u) (KV m_A_comes 35 [l0, l1, l2] [])) ∧
  (∀ (l0 l1 l2 : am_V) (a0 : Option Nat) (E : am_E) (u : am_M) (hE : SE E), Rn m_A_comes 32 [l0, l1, l2] [vR a0, vR (some 8)] E u = bdV (Rn m_C_becomes 0 [vR (some 8), vR a0] [] E u) (KV m_A_comes 35 [l0, l1, l2] [])) ∧
  (∀ (l0 l1 l2 : am_V) (a0 : Option Nat) (E : am_E) (u : am_M) (hE : SE E), Rn m_A_comes 32 [l0, l1, l2] [vR a0, vR (some 73)] E u = bdV (Rn m_C_becomes 0 [vR (some 73), vR a0] [] E u) (KV m_A_comes 35 [l0, l1, l2] [])) ∧
  (∀ (l1 l2 : am_V) (a : Option Nat) (st : List am_V) (E : am_E) (u : am_M), Rn m_A_comes 35 [vR a, l1, l2] st E u = Rn m_A_comes 36 [vR a, l1, l2] (vR a :: st) E u) ∧
  (∀ (l0 l1 l2 : am_V) (st : List am_V) (E : am_E) (u : am_M) (hE : SE E), Rn m_A_comes 36 [l0, l1, l2] (vR (some 0) :: st) E u = Rn m_A_comes 39 [l0, l1, l2] (vR (some 8) :: st) E u) ∧
  (∀ (l0 l2 : am_V) (a : Int) (st : List am_V) (E : am_E) (u : am_M), Rn m_A_comes 39 [l0, vI a, l2] st E u = Rn m_A_comes 40 [l0, vI a, l2] (vI a :: st) E u) ∧
  (∀ (l0 l1 : am_V) (a : Int) (st : List am_V) (E : am_E) (u : am_M), Rn m_A_comes 40 [l0, l1, vI a] st E u = Rn m_A_comes 41 [l0, l1, vI a] (vI a :: st) E u) ∧
  (∀ (l0 l1 l2 : am_V) (st : List am_V) (E : am_E) (u : am_M), Rn m_A_comes 41 [l0, l1, l2] st E u = Rn m_A_comes 43 [l0, l1, l2] (vI 60 :: st) E u) ∧
  (∀ (l0 l1 l2 : am_V) (a0 : Int) (a1 : Int) (a2 : Int) (E : am_E) (u : am_M) (hE : SE E), Rn m_A_comes 43 [l0, l1, l2] [vI a2, vI a1, vI a0, vR (some 1)] E u = bdI (Rn m_C_soonest 0 [vR (some 1), vI a0, vI a1, vI a2, vB false] [] E u) (KI m_A_comes 46 [l0, l1, l2] [])) ∧
  (∀ (l0 l1 l2 : am_V) (a0 : Int) (a1 : Int) (a2 : Int) (E : am_E) (u : am_M) (hE : SE E), Rn m_A_comes 43 [l0, l1, l2] [vI a2, vI a1, vI a0, vR (some 8)] E u = bdI (Rn m_C_soonest 0 [vR (some 8), vI a0, vI a1, vI a2, vB false] [] E u) (KI m_A_comes 46 [l0, l1, l2] [])) ∧
  (∀ (l0 l1 l2 : am_V) (a0 : Int) (a1 : Int) (a2 : Int) (E : am_E) (u : am_M) (hE : SE E), Rn m_A_comes 43 [l0, l1, l2] [vI a2, vI a1, vI a0, vR (some 73)] E u = bdI (Rn m_C_soonest 0 [vR (some 73), vI a0, vI a1, vI a2, vB false] [] E u) (KI m_A_comes 46 [l0, l1, l2] [])) ∧
  (∀ (l0 l1 l2 : am_V) (a : Int) (E : am_E) (u : am_M), Rn m_A_comes 46 [l0, l1, l2] [vI a] E u = some (some (vI a), E, u)) :=
  ⟨fun l1 l2 a st E u => q_go (by decide +kernel : am_Pg 141 0 = some (.aload_n 0, 1, [], 0)) rfl,
  fun l0 l1 l2 st E u hE => q_gfR (by decide +kernel : am_Pg 141 1 = some (.getfield 12, 3, [4, 8, 0, 0], 0)) (SE_k4 hE) rfl (SE_r4_0 hE),
  fun l0 l2 a st E u => q_go (by decide +kernel : am_Pg 141 4 = some (.iload_n 1, 1, [], 0)) rfl,
  fun l0 l1 l2 a0  E u hE => q_cI (by decide +kernel : am_Pg 141 5 = some (.invokevirtual 87, 3, [3, 29, 2, 0, 14, 1], 0)) (am_call_V (a := [vI a0]) (st' := []) (Nat.le_of_ble_eq_true rfl) rfl (SE_k0 hE cuB_1)) (by decide +kernel : am_Lm m_C_isPin = 2) (Nat.le_of_ble_eq_true rfl) rfl (by decide +kernel),
  fun l0 l1 l2 a0  E u hE => q_cI (by decide +kernel : am_Pg 141 5 = some (.invokevirtual 87, 3, [3, 29, 2, 0, 14, 1], 0)) (am_call_V (a := [vI a0]) (st' := []) (Nat.le_of_ble_eq_true rfl) rfl (SE_k0 hE cuB_8)) (by decide +kernel : am_Lm m_C_isPin = 2) (Nat.le_of_ble_eq_true rfl) rfl (by decide +kernel),
  fun l0 l1 l2 a0  E u hE => q_cI (by decide +kernel : am_Pg 141 5 = some (.invokevirtual 87, 3, [3, 29, 2, 0, 14, 1], 0)) (am_call_V (a := [vI a0]) (st' := []) (Nat.le_of_ble_eq_true rfl) rfl (SE_k0 hE cuB_73)) (by decide +kernel : am_Lm m_C_isPin = 2) (Nat.le_of_ble_eq_true rfl) rfl (by decide +kernel),
  fun l0 l1 l2 a st E u => q_if_eq (tgt := 22) (by decide +kernel : am_Pg 141 8 = some (.ifCond .eq 14, 3, [], 0)) (by decide),
  fun l1 l2 a st E u => q_go (by decide +kernel : am_Pg 141 11 = some (.aload_n 0, 1, [], 0)) rfl,
  fun l0 l1 l2 st E u hE => q_gfR (by decide +kernel : am_Pg 141 12 = some (.getfield 12, 3, [4, 8, 0, 0], 0)) (SE_k4 hE) rfl (SE_r4_0 hE),
  fun l0 l1 a st E u => q_go (by decide +kernel : am_Pg 141 15 = some (.iload_n 2, 1, [], 0)) rfl,
  fun l0 l1 l2 a0  E u hE => q_cI (by decide +kernel : am_Pg 141 16 = some (.invokevirtual 61, 3, [3, 16, 2, 0, 14, 1], 0)) (am_call_V (a := [vI a0]) (st' := []) (Nat.le_of_ble_eq_true rfl) rfl (SE_k0 hE cuB_1)) (by decide +kernel : am_Lm m_C_isCell = 2) (Nat.le_of_ble_eq_true rfl) rfl (by decide +kernel),
  fun l0 l1 l2 a0  E u hE => q_cI (by decide +kernel : am_Pg 141 16 = some (.invokevirtual 61, 3, [3, 16, 2, 0, 14, 1], 0)) (am_call_V (a := [vI a0]) (st' := []) (Nat.le_of_ble_eq_true rfl) rfl (SE_k0 hE cuB_8)) (by decide +kernel : am_Lm m_C_isCell = 2) (Nat.le_of_ble_eq_true rfl) rfl (by decide +kernel),
  fun l0 l1 l2 a0  E u hE => q_cI (by decide +kernel : am_Pg 141 16 = some (.invokevirtual 61, 3, [3, 16, 2, 0, 14, 1], 0)) (am_call_V (a := [vI a0]) (st' := []) (Nat.le_of_ble_eq_true rfl) rfl (SE_k0 hE cuB_73)) (by decide +kernel : am_Lm m_C_isCell = 2) (Nat.le_of_ble_eq_true rfl) rfl (by decide +kernel),
  fun l0 l1 l2 a st E u => q_if_ne (tgt := 24) (by decide +kernel : am_Pg 141 19 = some (.ifCond .ne 5, 3, [], 0)) (by decide),
  fun l0 l1 l2 st E u => q_go (by decide +kernel : am_Pg 141 22 = some (.iconst (-1), 1, [], 0)) rfl,
  fun l0 l1 l2 a E u => q_ret (by decide +kernel : am_Pg 141 23 = some (.ireturn, 1, [], 0)) rfl,
  fun l1 l2 a st E u => q_go (by decide +kernel : am_Pg 141 24 = some (.aload_n 0, 1, [], 0)) rfl,
  fun l0 l1 l2 st E u hE => q_gfR (by decide +kernel : am_Pg 141 25 = some (.getfield 16, 3, [4, 8, 1, 0], 0)) (SE_k4 hE) rfl (SE_r4_1 hE),
  fun l1 l2 a st E u => q_go (by decide +kernel : am_Pg 141 28 = some (.aload_n 0, 1, [], 0)) rfl,
  fun l0 l1 l2 st E u hE => q_gfR (by decide +kernel : am_Pg 141 29 = some (.getfield 12, 3, [4, 8, 0, 0], 0)) (SE_k4 hE) rfl (SE_r4_0 hE),
  fun l0 l1 l2 a0  E u hE => q_cV (by decide +kernel : am_Pg 141 32 = some (.invokevirtual 141, 3, [3, 78, 2, 0, 14, 1], 0)) (am_call_V (a := [vR a0]) (st' := []) (Nat.le_of_ble_eq_true rfl) rfl (SE_k0 hE cuB_1)) (by decide +kernel : am_Lm m_C_becomes = 2) (Nat.le_of_ble_eq_true rfl) rfl (by decide +kernel),
  fun l0 l1 l2 a0  E u hE => q_cV (by decide +kernel : am_Pg 141 32 = some (.invokevirtual 141, 3, [3, 78, 2, 0, 14, 1], 0)) (am_call_V (a := [vR a0]) (st' := []) (Nat.le_of_ble_eq_true rfl) rfl (SE_k0 hE cuB_8)) (by decide +kernel : am_Lm m_C_becomes = 2) (Nat.le_of_ble_eq_true rfl) rfl (by decide +kernel),
  fun l0 l1 l2 a0  E u hE => q_cV (by decide +kernel : am_Pg 141 32 = some (.invokevirtual 141, 3, [3, 78, 2, 0, 14, 1], 0)) (am_call_V (a := [vR a0]) (st' := []) (Nat.le_of_ble_eq_true rfl) rfl (SE_k0 hE cuB_73)) (by decide +kernel : am_Lm m_C_becomes = 2) (Nat.le_of_ble_eq_true rfl) rfl (by decide +kernel),
  fun l1 l2 a st E u => q_go (by decide +kernel : am_Pg 141 35 = some (.aload_n 0, 1, [], 0)) rfl,
  fun l0 l1 l2 st E u hE => q_gfR (by decide +kernel : am_Pg 141 36 = some (.getfield 16, 3, [4, 8, 1, 0], 0)) (SE_k4 hE) rfl (SE_r4_1 hE),
  fun l0 l2 a st E u => q_go (by decide +kernel : am_Pg 141 39 = some (.iload_n 1, 1, [], 0)) rfl,
  fun l0 l1 a st E u => q_go (by decide +kernel : am_Pg 141 40 = some (.iload_n 2, 1, [], 0)) rfl,
  fun l0 l1 l2 st E u => q_go (by decide +kernel : am_Pg 141 41 = some (.bipush 60, 2, [], 0)) rfl,
  fun l0 l1 l2 a0 a1 a2  E u hE => q_cI (by decide +kernel : am_Pg 141 43 = some (.invokevirtual 196, 3, [3, 140, 4, 0, 14, 1], 0)) (am_call_V (a := [vI a0, vI a1, vI a2]) (st' := []) (Nat.le_of_ble_eq_true rfl) rfl (SE_k0 hE cuB_1)) (by decide +kernel : am_Lm m_C_soonest = 5) (Nat.le_of_ble_eq_true rfl) rfl (by decide +kernel),
  fun l0 l1 l2 a0 a1 a2  E u hE => q_cI (by decide +kernel : am_Pg 141 43 = some (.invokevirtual 196, 3, [3, 140, 4, 0, 14, 1], 0)) (am_call_V (a := [vI a0, vI a1, vI a2]) (st' := []) (Nat.le_of_ble_eq_true rfl) rfl (SE_k0 hE cuB_8)) (by decide +kernel : am_Lm m_C_soonest = 5) (Nat.le_of_ble_eq_true rfl) rfl (by decide +kernel),
  fun l0 l1 l2 a0 a1 a2  E u hE => q_cI (by decide +kernel : am_Pg 141 43 = some (.invokevirtual 196, 3, [3, 140, 4, 0, 14, 1], 0)) (am_call_V (a := [vI a0, vI a1, vI a2]) (st' := []) (Nat.le_of_ble_eq_true rfl) rfl (SE_k0 hE cuB_73)) (by decide +kernel : am_Lm m_C_soonest = 5) (Nat.le_of_ble_eq_true rfl) rfl (by decide +kernel),
  fun l0 l1 l2 a E u => q_ret (by decide +kernel : am_Pg 141 46 = some (.ireturn, 1, [], 0)) rfl⟩
theorem x_A_side :
  (∀ (l1 l2 : am_V) (a : Option Nat) (st : List am_V) (E : am_E) (u : am_M), Rn m_A_side 0 [vR a, l1, l2] st E u = Rn m_A_side 1 [vR a, l1, l2] (vR a :: st) E u) ∧
  (∀ (l0 l2 : am_V) (a : Int) (st : List am_V) (E : am_E) (u : am_M), Rn m_A_side 1 [l0, vI a, l2] st E u = Rn m_A_side 2 [l0, vI a, l2] (vI a :: st) E u) ∧
  (∀ (l0 l1 : am_V) (a : Int) (st : List am_V) (E : am_E) (u : am_M), Rn m_A_side 2 [l0, l1, vI a] st E u = Rn m_A_side 3 [l0, l1, vI a] (vI a :: st) E u) ∧
  (∀ (l0 l1 l2 : am_V) (a0 : Int) (a1 : Int) (E : am_E) (u : am_M) (hE : SE E), Rn m_A_side 3 [l0, l1, l2] [vI a1, vI a0, vR (some 0)] E u = bdI (Rn m_A_areTwoPins 0 [vR (some 0), vI a0, vI a1] [] E u) (KI m_A_side 6 [l0, l1, l2] [])) ∧
  (∀ (l0 l1 l2 : am_V) (a : Int) (st : List am_V) (E : am_E) (u : am_M), Rn m_A_side 6 [l0, l1, l2] (vI a :: st) E u = if a = 0 then Rn m_A_side 9 [l0, l1, l2] st E u else Rn m_A_side 11 [l0, l1, l2] st E u) ∧
  (∀ (l0 l1 l2 : am_V) (st : List am_V) (E : am_E) (u : am_M), Rn m_A_side 9 [l0, l1, l2] st E u = Rn m_A_side 10 [l0, l1, l2] (vI (-1) :: st) E u) ∧
  (∀ (l0 l1 l2 : am_V) (a : Int) (E : am_E) (u : am_M), Rn m_A_side 10 [l0, l1, l2] [vI a] E u = some (some (vI a), E, u)) ∧
  (∀ (l1 l2 : am_V) (a : Option Nat) (st : List am_V) (E : am_E) (u : am_M), Rn m_A_side 11 [vR a, l1, l2] st E u = Rn m_A_side 12 [vR a, l1, l2] (vR a :: st) E u) ∧
  (∀ (l0 l1 l2 : am_V) (st : List am_V) (E : am_E) (u : am_M) (hE : SE E), Rn m_A_side 12 [l0, l1, l2] (vR (some 0) :: st) E u = Rn m_A_side 15 [l0, l1, l2] (vR (some 8) :: st) E u) ∧
  (∀ (l1 l2 : am_V) (a : Option Nat) (st : List am_V) (E : am_E) (u : am_M), Rn m_A_side 15 [vR a, l1, l2] st E u = Rn m_A_side 16 [vR a, l1, l2] (vR a :: st) E u) ∧
  (∀ (l0 l1 l2 : am_V) (st : List am_V) (E : am_E) (u : am_M) (hE : SE E), Rn m_A_side 16 [l0, l1, l2] (vR (some 0) :: st) E u = Rn m_A_side 19 [l0, l1, l2] (vR (some 1) :: st) E u) ∧
  (∀ (l0 l1 l2 : am_V) (a0 : Option Nat) (E : am_E) (u : am_M) (hE : SE E), Rn m_A_side 19 [l0, l1, l2] [vR a0, vR (some 1)] E u = bdV (Rn m_C_becomes 0 [vR (some 1), vR a0] [] E u) (KV m_A_side 22 [l0, l1, l2] [])) ∧
  (∀ (l0 l1 l2 : am_V) (a0 : Option Nat) (E : am_E) (u : am_M) (hE : SE E), Rn m_A_side 19 [l0, l1, l2] [vR a0, vR (some 8)] E u = bdV (Rn m_C_becomes 0 [vR (some 8), vR a0] [] E u) (KV m_A_side 22 [l0, l1, l2] [])) ∧
  (∀ (l0 l1 l2 : am_V) (a0 : Option Nat) (E : am_E) (u : am_M) (hE : SE E), Rn m_A_side 19 [l0, l1, l2] [vR a0, vR (some 73)] E u = bdV (Rn m_C_becomes 0 [vR (some 73), vR a0] [] E u) (KV m_A_side 22 [l0, l1, l2] [])) ∧
  (∀ (l1 l2 : am_V) (a : Option Nat) (st : List am_V) (E : am_E) (u : am_M), Rn m_A_side 22 [vR a, l1, l2] st E u = Rn m_A_side 23 [vR a, l1, l2] (vR a :: st) E u) ∧
  (∀ (l0 l1 l2 : am_V) (st : List am_V) (E : am_E) (u : am_M) (hE : SE E), Rn m_A_side 23 [l0, l1, l2] (vR (some 0) :: st) E u = Rn m_A_side 26 [l0, l1, l2] (vR (some 8) :: st) E u) ∧
  (∀ (l0 l2 : am_V) (a : Int) (st : List am_V) (E : am_E) (u : am_M), Rn m_A_side 26 [l0, vI a, l2] st E u = Rn m_A_side 27 [l0, vI a, l2] (vI a :: st) E u) ∧
  (∀ (l0 l1 : am_V) (a : Int) (st : List am_V) (E : am_E) (u : am_M), Rn m_A_side 27 [l0, l1, vI a] st E u = Rn m_A_side 28 [l0, l1, vI a] (vI a :: st) E u) ∧
  (∀ (l0 l1 l2 : am_V) (st : List am_V) (E : am_E) (u : am_M), Rn m_A_side 28 [l0, l1, l2] st E u = Rn m_A_side 30 [l0, l1, l2] (vI 60 :: st) E u) ∧
  (∀ (l0 l1 l2 : am_V) (a0 : Int) (a1 : Int) (a2 : Int) (E : am_E) (u : am_M) (hE : SE E), Rn m_A_side 30 [l0, l1, l2] [vI a2, vI a1, vI a0, vR (some 1)] E u = bdI (Rn m_C_soonestBeside 0 [vR (some 1), vI a0, vI a1, vI a2, vB false] [] E u) (KI m_A_side 33 [l0, l1, l2] [])) ∧
  (∀ (l0 l1 l2 : am_V) (a0 : Int) (a1 : Int) (a2 : Int) (E : am_E) (u : am_M) (hE : SE E), Rn m_A_side 30 [l0, l1, l2] [vI a2, vI a1, vI a0, vR (some 8)] E u = bdI (Rn m_C_soonestBeside 0 [vR (some 8), vI a0, vI a1, vI a2, vB false] [] E u) (KI m_A_side 33 [l0, l1, l2] [])) ∧
  (∀ (l0 l1 l2 : am_V) (a0 : Int) (a1 : Int) (a2 : Int) (E : am_E) (u : am_M) (hE : SE E), Rn m_A_side 30 [l0, l1, l2] [vI a2, vI a1, vI a0, vR (some 73)] E u = bdI (Rn m_C_soonestBeside 0 [vR (some 73), vI a0, vI a1, vI a2, vB false] [] E u) (KI m_A_side 33 [l0, l1, l2] [])) ∧
  (∀ (l0 l1 l2 : am_V) (a : Int) (E : am_E) (u : am_M), Rn m_A_side 33 [l0, l1, l2] [vI a] E u = some (some (vI a), E, u)) :=
  ⟨fun l1 l2 a st E u => q_go (by decide +kernel : am_Pg 145 0 = some (.aload_n 0, 1, [], 0)) rfl,
  fun l0 l2 a st E u => q_go (by decide +kernel : am_Pg 145 1 = some (.iload_n 1, 1, [], 0)) rfl,
  fun l0 l1 a st E u => q_go (by decide +kernel : am_Pg 145 2 = some (.iload_n 2, 1, [], 0)) rfl,
  fun l0 l1 l2 a0 a1  E u hE => q_cI (by decide +kernel : am_Pg 145 3 = some (.invokevirtual 77, 3, [3, 30, 3, 4, 8, 0], 0)) (am_call_V (a := [vI a0, vI a1]) (st' := []) (Nat.le_of_ble_eq_true rfl) rfl (SE_k4 hE)) (by decide +kernel : am_Lm m_A_areTwoPins = 3) (Nat.le_of_ble_eq_true rfl) rfl (by decide +kernel),
  fun l0 l1 l2 a st E u => q_if_ne (tgt := 11) (by decide +kernel : am_Pg 145 6 = some (.ifCond .ne 5, 3, [], 0)) (by decide),
  fun l0 l1 l2 st E u => q_go (by decide +kernel : am_Pg 145 9 = some (.iconst (-1), 1, [], 0)) rfl,
  fun l0 l1 l2 a E u => q_ret (by decide +kernel : am_Pg 145 10 = some (.ireturn, 1, [], 0)) rfl,
  fun l1 l2 a st E u => q_go (by decide +kernel : am_Pg 145 11 = some (.aload_n 0, 1, [], 0)) rfl,
  fun l0 l1 l2 st E u hE => q_gfR (by decide +kernel : am_Pg 145 12 = some (.getfield 16, 3, [4, 8, 1, 0], 0)) (SE_k4 hE) rfl (SE_r4_1 hE),
  fun l1 l2 a st E u => q_go (by decide +kernel : am_Pg 145 15 = some (.aload_n 0, 1, [], 0)) rfl,
  fun l0 l1 l2 st E u hE => q_gfR (by decide +kernel : am_Pg 145 16 = some (.getfield 12, 3, [4, 8, 0, 0], 0)) (SE_k4 hE) rfl (SE_r4_0 hE),
  fun l0 l1 l2 a0  E u hE => q_cV (by decide +kernel : am_Pg 145 19 = some (.invokevirtual 141, 3, [3, 78, 2, 0, 14, 1], 0)) (am_call_V (a := [vR a0]) (st' := []) (Nat.le_of_ble_eq_true rfl) rfl (SE_k0 hE cuB_1)) (by decide +kernel : am_Lm m_C_becomes = 2) (Nat.le_of_ble_eq_true rfl) rfl (by decide +kernel),
  fun l0 l1 l2 a0  E u hE => q_cV (by decide +kernel : am_Pg 145 19 = some (.invokevirtual 141, 3, [3, 78, 2, 0, 14, 1], 0)) (am_call_V (a := [vR a0]) (st' := []) (Nat.le_of_ble_eq_true rfl) rfl (SE_k0 hE cuB_8)) (by decide +kernel : am_Lm m_C_becomes = 2) (Nat.le_of_ble_eq_true rfl) rfl (by decide +kernel),
  fun l0 l1 l2 a0  E u hE => q_cV (by decide +kernel : am_Pg 145 19 = some (.invokevirtual 141, 3, [3, 78, 2, 0, 14, 1], 0)) (am_call_V (a := [vR a0]) (st' := []) (Nat.le_of_ble_eq_true rfl) rfl (SE_k0 hE cuB_73)) (by decide +kernel : am_Lm m_C_becomes = 2) (Nat.le_of_ble_eq_true rfl) rfl (by decide +kernel),
  fun l1 l2 a st E u => q_go (by decide +kernel : am_Pg 145 22 = some (.aload_n 0, 1, [], 0)) rfl,
  fun l0 l1 l2 st E u hE => q_gfR (by decide +kernel : am_Pg 145 23 = some (.getfield 16, 3, [4, 8, 1, 0], 0)) (SE_k4 hE) rfl (SE_r4_1 hE),
  fun l0 l2 a st E u => q_go (by decide +kernel : am_Pg 145 26 = some (.iload_n 1, 1, [], 0)) rfl,
  fun l0 l1 a st E u => q_go (by decide +kernel : am_Pg 145 27 = some (.iload_n 2, 1, [], 0)) rfl,
  fun l0 l1 l2 st E u => q_go (by decide +kernel : am_Pg 145 28 = some (.bipush 60, 2, [], 0)) rfl,
  fun l0 l1 l2 a0 a1 a2  E u hE => q_cI (by decide +kernel : am_Pg 145 30 = some (.invokevirtual 199, 3, [3, 144, 4, 0, 14, 1], 0)) (am_call_V (a := [vI a0, vI a1, vI a2]) (st' := []) (Nat.le_of_ble_eq_true rfl) rfl (SE_k0 hE cuB_1)) (by decide +kernel : am_Lm m_C_soonestBeside = 5) (Nat.le_of_ble_eq_true rfl) rfl (by decide +kernel),
  fun l0 l1 l2 a0 a1 a2  E u hE => q_cI (by decide +kernel : am_Pg 145 30 = some (.invokevirtual 199, 3, [3, 144, 4, 0, 14, 1], 0)) (am_call_V (a := [vI a0, vI a1, vI a2]) (st' := []) (Nat.le_of_ble_eq_true rfl) rfl (SE_k0 hE cuB_8)) (by decide +kernel : am_Lm m_C_soonestBeside = 5) (Nat.le_of_ble_eq_true rfl) rfl (by decide +kernel),
  fun l0 l1 l2 a0 a1 a2  E u hE => q_cI (by decide +kernel : am_Pg 145 30 = some (.invokevirtual 199, 3, [3, 144, 4, 0, 14, 1], 0)) (am_call_V (a := [vI a0, vI a1, vI a2]) (st' := []) (Nat.le_of_ble_eq_true rfl) rfl (SE_k0 hE cuB_73)) (by decide +kernel : am_Lm m_C_soonestBeside = 5) (Nat.le_of_ble_eq_true rfl) rfl (by decide +kernel),
  fun l0 l1 l2 a E u => q_ret (by decide +kernel : am_Pg 145 33 = some (.ireturn, 1, [], 0)) rfl⟩
theorem h_A_bestCell_11 : ∀ (l0 l1 l2 l3 l4 l5 l6 l8 : am_V) (a : Int) (st : List am_V) (E : am_E) (u : am_M), Rn m_A_bestCell 11 [l0, l1, l2, l3, l4, l5, l6, vI a, l8] st E u = Rn m_A_bestCell 13 [l0, l1, l2, l3, l4, l5, l6, vI a, l8] (vI a :: st) E u :=
  fun l0 l1 l2 l3 l4 l5 l6 l8 a st E u => q_go (by decide +kernel : am_Pg 147 11 = some (.iload 7, 2, [], 0)) rfl
theorem x_A_bestCell :
  (∀ (l0 l1 l2 l3 l4 l5 l6 l7 l8 : am_V) (st : List am_V) (E : am_E) (u : am_M), Rn m_A_bestCell 0 [l0, l1, l2, l3, l4, l5, l6, l7, l8] st E u = Rn m_A_bestCell 2 [l0, l1, l2, l3, l4, l5, l6, l7, l8] (vI (-4) :: st) E u) ∧
  (∀ (l0 l1 l2 l3 l4 l5 l6 l7 l8 : am_V) (a : Int) (st : List am_V) (E : am_E) (u : am_M), Rn m_A_bestCell 2 [l0, l1, l2, l3, l4, l5, l6, l7, l8] (vI a :: st) E u = Rn m_A_bestCell 4 [l0, l1, l2, l3, am_fx l4, vI a, l6, l7, l8] st E u) ∧
  (∀ (l0 l1 l2 l3 l4 l5 l6 l7 l8 : am_V) (st : List am_V) (E : am_E) (u : am_M), Rn m_A_bestCell 4 [l0, l1, l2, l3, l4, l5, l6, l7, l8] st E u = Rn m_A_bestCell 6 [l0, l1, l2, l3, l4, l5, l6, l7, l8] (vI 60 :: st) E u) ∧
  (∀ (l0 l1 l2 l3 l4 l5 l6 l7 l8 : am_V) (a : Int) (st : List am_V) (E : am_E) (u : am_M), Rn m_A_bestCell 6 [l0, l1, l2, l3, l4, l5, l6, l7, l8] (vI a :: st) E u = Rn m_A_bestCell 8 [l0, l1, l2, l3, l4, am_fx l5, vI a, l7, l8] st E u) ∧
  (∀ (l0 l1 l2 l3 l4 l5 l6 l7 l8 : am_V) (st : List am_V) (E : am_E) (u : am_M), Rn m_A_bestCell 8 [l0, l1, l2, l3, l4, l5, l6, l7, l8] st E u = Rn m_A_bestCell 9 [l0, l1, l2, l3, l4, l5, l6, l7, l8] (vI 0 :: st) E u) ∧
  (∀ (l0 l1 l2 l3 l4 l5 l6 l7 l8 : am_V) (a : Int) (st : List am_V) (E : am_E) (u : am_M), Rn m_A_bestCell 9 [l0, l1, l2, l3, l4, l5, l6, l7, l8] (vI a :: st) E u = Rn m_A_bestCell 11 [l0, l1, l2, l3, l4, l5, am_fx l6, vI a, l8] st E u) ∧
  (∀ (l1 l2 l3 l4 l5 l6 l7 l8 : am_V) (a : Option Nat) (st : List am_V) (E : am_E) (u : am_M), Rn m_A_bestCell 13 [vR a, l1, l2, l3, l4, l5, l6, l7, l8] st E u = Rn m_A_bestCell 14 [vR a, l1, l2, l3, l4, l5, l6, l7, l8] (vR a :: st) E u) ∧
  (∀ (l0 l1 l2 l3 l4 l5 l6 l7 l8 : am_V) (st : List am_V) (E : am_E) (u : am_M) (hE : SE E), Rn m_A_bestCell 14 [l0, l1, l2, l3, l4, l5, l6, l7, l8] (vR (some 0) :: st) E u = Rn m_A_bestCell 17 [l0, l1, l2, l3, l4, l5, l6, l7, l8] (vR (some 1) :: st) E u) ∧
  (∀ (l0 l1 l2 l3 l4 l5 l6 l7 l8 : am_V) (r0 : am_V) (E : am_E) (u : am_M) (hE : SE E), Rn m_A_bestCell 17 [l0, l1, l2, l3, l4, l5, l6, l7, l8] [vR (some 1), r0] E u = bdI (Rn m_C_cellCount 0 [vR (some 1)] [] E u) (KI m_A_bestCell 20 [l0, l1, l2, l3, l4, l5, l6, l7, l8] [r0])) ∧
  (∀ (l0 l1 l2 l3 l4 l5 l6 l7 l8 : am_V) (r0 : am_V) (E : am_E) (u : am_M) (hE : SE E), Rn m_A_bestCell 17 [l0, l1, l2, l3, l4, l5, l6, l7, l8] [vR (some 8), r0] E u = bdI (Rn m_C_cellCount 0 [vR (some 8)] [] E u) (KI m_A_bestCell 20 [l0, l1, l2, l3, l4, l5, l6, l7, l8] [r0])) ∧
  (∀ (l0 l1 l2 l3 l4 l5 l6 l7 l8 : am_V) (r0 : am_V) (E : am_E) (u : am_M) (hE : SE E), Rn m_A_bestCell 17 [l0, l1, l2, l3, l4, l5, l6, l7, l8] [vR (some 73), r0] E u = bdI (Rn m_C_cellCount 0 [vR (some 73)] [] E u) (KI m_A_bestCell 20 [l0, l1, l2, l3, l4, l5, l6, l7, l8] [r0])) ∧
  (∀ (l0 l1 l2 l3 l4 l5 l6 l7 l8 : am_V) (a b : Int) (st : List am_V) (E : am_E) (u : am_M), Rn m_A_bestCell 20 [l0, l1, l2, l3, l4, l5, l6, l7, l8] (vI b :: vI a :: st) E u = if a < b then Rn m_A_bestCell 23 [l0, l1, l2, l3, l4, l5, l6, l7, l8] st E u else Rn m_A_bestCell 138 [l0, l1, l2, l3, l4, l5, l6, l7, l8] st E u) ∧
  (∀ (l0 l1 l2 l3 l4 l5 l7 l8 : am_V) (a : Int) (st : List am_V) (E : am_E) (u : am_M), Rn m_A_bestCell 23 [l0, l1, l2, l3, l4, l5, vI a, l7, l8] st E u = Rn m_A_bestCell 25 [l0, l1, l2, l3, l4, l5, vI a, l7, l8] (vI a :: st) E u) ∧
  (∀ (l0 l1 l2 l3 l4 l5 l6 l7 l8 : am_V) (a : Int) (st : List am_V) (E : am_E) (u : am_M), Rn m_A_bestCell 25 [l0, l1, l2, l3, l4, l5, l6, l7, l8] (vI a :: st) E u = if a < 0 then Rn m_A_bestCell 138 [l0, l1, l2, l3, l4, l5, l6, l7, l8] st E u else Rn m_A_bestCell 28 [l0, l1, l2, l3, l4, l5, l6, l7, l8] st E u) ∧
  (∀ (l0 l1 l2 l3 l5 l6 l7 l8 : am_V) (a : Int) (st : List am_V) (E : am_E) (u : am_M), Rn m_A_bestCell 28 [l0, l1, l2, l3, vI a, l5, l6, l7, l8] st E u = Rn m_A_bestCell 30 [l0, l1, l2, l3, vI a, l5, l6, l7, l8] (vI a :: st) E u) ∧
  (∀ (l0 l1 l2 l3 l4 l5 l6 l7 l8 : am_V) (a : Int) (st : List am_V) (E : am_E) (u : am_M), Rn m_A_bestCell 30 [l0, l1, l2, l3, l4, l5, l6, l7, l8] (vI a :: st) E u = if a = 0 then Rn m_A_bestCell 50 [l0, l1, l2, l3, l4, l5, l6, l7, l8] st E u else Rn m_A_bestCell 33 [l0, l1, l2, l3, l4, l5, l6, l7, l8] st E u) ∧
  (∀ (l1 l2 l3 l4 l5 l6 l7 l8 : am_V) (a : Option Nat) (st : List am_V) (E : am_E) (u : am_M), Rn m_A_bestCell 33 [vR a, l1, l2, l3, l4, l5, l6, l7, l8] st E u = Rn m_A_bestCell 34 [vR a, l1, l2, l3, l4, l5, l6, l7, l8] (vR a :: st) E u) ∧
  (∀ (l0 l1 l2 l3 l4 l5 l6 l7 l8 : am_V) (st : List am_V) (E : am_E) (u : am_M) (hE : SE E), Rn m_A_bestCell 34 [l0, l1, l2, l3, l4, l5, l6, l7, l8] (vR (some 0) :: st) E u = Rn m_A_bestCell 37 [l0, l1, l2, l3, l4, l5, l6, l7, l8] (vR (some 1) :: st) E u) ∧
  (∀ (l0 l1 l2 l3 l4 l5 l6 l8 : am_V) (a : Int) (st : List am_V) (E : am_E) (u : am_M), Rn m_A_bestCell 37 [l0, l1, l2, l3, l4, l5, l6, vI a, l8] st E u = Rn m_A_bestCell 39 [l0, l1, l2, l3, l4, l5, l6, vI a, l8] (vI a :: st) E u) ∧
  (∀ (l0 l1 l2 l3 l4 l5 l6 l7 l8 : am_V) (a0 : Int) (E : am_E) (u : am_M) (hE : SE E), Rn m_A_bestCell 39 [l0, l1, l2, l3, l4, l5, l6, l7, l8] [vI a0, vR (some 1)] E u = bdI (Rn m_C_pinOn 0 [vR (some 1), vI a0, vB false] [] E u) (KI m_A_bestCell 42 [l0, l1, l2, l3, l4, l5, l6, l7, l8] [])) ∧
  (∀ (l0 l1 l2 l3 l4 l5 l6 l7 l8 : am_V) (a0 : Int) (E : am_E) (u : am_M) (hE : SE E), Rn m_A_bestCell 39 [l0, l1, l2, l3, l4, l5, l6, l7, l8] [vI a0, vR (some 8)] E u = bdI (Rn m_C_pinOn 0 [vR (some 8), vI a0, vB false] [] E u) (KI m_A_bestCell 42 [l0, l1, l2, l3, l4, l5, l6, l7, l8] [])) ∧
  (∀ (l0 l1 l2 l3 l4 l5 l6 l7 l8 : am_V) (a0 : Int) (E : am_E) (u : am_M) (hE : SE E), Rn m_A_bestCell 39 [l0, l1, l2, l3, l4, l5, l6, l7, l8] [vI a0, vR (some 73)] E u = bdI (Rn m_C_pinOn 0 [vR (some 73), vI a0, vB false] [] E u) (KI m_A_bestCell 42 [l0, l1, l2, l3, l4, l5, l6, l7, l8] [])) ∧
  (∀ (l0 l1 l2 l3 l4 l5 l6 l7 l8 : am_V) (st : List am_V) (E : am_E) (u : am_M), Rn m_A_bestCell 42 [l0, l1, l2, l3, l4, l5, l6, l7, l8] st E u = Rn m_A_bestCell 44 [l0, l1, l2, l3, l4, l5, l6, l7, l8] (vI (-4) :: st) E u) ∧
  (∀ (l0 l1 l2 l3 l4 l5 l6 l7 l8 : am_V) (a b : Int) (st : List am_V) (E : am_E) (u : am_M), Rn m_A_bestCell 44 [l0, l1, l2, l3, l4, l5, l6, l7, l8] (vI b :: vI a :: st) E u = if a = b then Rn m_A_bestCell 47 [l0, l1, l2, l3, l4, l5, l6, l7, l8] st E u else Rn m_A_bestCell 132 [l0, l1, l2, l3, l4, l5, l6, l7, l8] st E u) ∧
  (∀ (l0 l1 l2 l3 l4 l5 l6 l7 l8 : am_V) (st : List am_V) (E : am_E) (u : am_M), Rn m_A_bestCell 47 [l0, l1, l2, l3, l4, l5, l6, l7, l8] st E u = Rn m_A_bestCell 64 [l0, l1, l2, l3, l4, l5, l6, l7, l8] st E u) ∧
  (∀ (l1 l2 l3 l4 l5 l6 l7 l8 : am_V) (a : Option Nat) (st : List am_V) (E : am_E) (u : am_M), Rn m_A_bestCell 50 [vR a, l1, l2, l3, l4, l5, l6, l7, l8] st E u = Rn m_A_bestCell 51 [vR a, l1, l2, l3, l4, l5, l6, l7, l8] (vR a :: st) E u) ∧
  (∀ (l0 l1 l2 l3 l4 l5 l6 l7 l8 : am_V) (st : List am_V) (E : am_E) (u : am_M) (hE : SE E), Rn m_A_bestCell 51 [l0, l1, l2, l3, l4, l5, l6, l7, l8] (vR (some 0) :: st) E u = Rn m_A_bestCell 54 [l0, l1, l2, l3, l4, l5, l6, l7, l8] (vR (some 1) :: st) E u) ∧
  (∀ (l0 l1 l2 l3 l4 l5 l6 l8 : am_V) (a : Int) (st : List am_V) (E : am_E) (u : am_M), Rn m_A_bestCell 54 [l0, l1, l2, l3, l4, l5, l6, vI a, l8] st E u = Rn m_A_bestCell 56 [l0, l1, l2, l3, l4, l5, l6, vI a, l8] (vI a :: st) E u) ∧
  (∀ (l0 l1 l2 l3 l4 l5 l6 l7 l8 : am_V) (a0 : Int) (E : am_E) (u : am_M) (hE : SE E), Rn m_A_bestCell 56 [l0, l1, l2, l3, l4, l5, l6, l7, l8] [vI a0, vR (some 1)] E u = bdI (Rn m_C_thingOn 0 [vR (some 1), vI a0] [] E u) (KI m_A_bestCell 59 [l0, l1, l2, l3, l4, l5, l6, l7, l8] [])) ∧
  (∀ (l0 l1 l2 l3 l4 l5 l6 l7 l8 : am_V) (a0 : Int) (E : am_E) (u : am_M) (hE : SE E), Rn m_A_bestCell 56 [l0, l1, l2, l3, l4, l5, l6, l7, l8] [vI a0, vR (some 8)] E u = bdI (Rn m_C_thingOn 0 [vR (some 8), vI a0] [] E u) (KI m_A_bestCell 59 [l0, l1, l2, l3, l4, l5, l6, l7, l8] [])) ∧
  (∀ (l0 l1 l2 l3 l4 l5 l6 l7 l8 : am_V) (a0 : Int) (E : am_E) (u : am_M) (hE : SE E), Rn m_A_bestCell 56 [l0, l1, l2, l3, l4, l5, l6, l7, l8] [vI a0, vR (some 73)] E u = bdI (Rn m_C_thingOn 0 [vR (some 73), vI a0] [] E u) (KI m_A_bestCell 59 [l0, l1, l2, l3, l4, l5, l6, l7, l8] [])) ∧
  (∀ (l0 l1 l2 l3 l4 l5 l6 l7 l8 : am_V) (st : List am_V) (E : am_E) (u : am_M), Rn m_A_bestCell 59 [l0, l1, l2, l3, l4, l5, l6, l7, l8] st E u = Rn m_A_bestCell 61 [l0, l1, l2, l3, l4, l5, l6, l7, l8] (vI (-4) :: st) E u) ∧
  (∀ (l0 l1 l2 l3 l4 l5 l6 l7 l8 : am_V) (a b : Int) (st : List am_V) (E : am_E) (u : am_M), Rn m_A_bestCell 61 [l0, l1, l2, l3, l4, l5, l6, l7, l8] (vI b :: vI a :: st) E u = if a = b then Rn m_A_bestCell 64 [l0, l1, l2, l3, l4, l5, l6, l7, l8] st E u else Rn m_A_bestCell 132 [l0, l1, l2, l3, l4, l5, l6, l7, l8] st E u) ∧
  (∀ (l1 l2 l3 l4 l5 l6 l7 l8 : am_V) (a : Option Nat) (st : List am_V) (E : am_E) (u : am_M), Rn m_A_bestCell 64 [vR a, l1, l2, l3, l4, l5, l6, l7, l8] st E u = Rn m_A_bestCell 65 [vR a, l1, l2, l3, l4, l5, l6, l7, l8] (vR a :: st) E u) ∧
  (∀ (l0 l1 l2 l3 l4 l5 l6 l7 l8 : am_V) (st : List am_V) (E : am_E) (u : am_M) (hE : SE E), Rn m_A_bestCell 65 [l0, l1, l2, l3, l4, l5, l6, l7, l8] (vR (some 0) :: st) E u = Rn m_A_bestCell 68 [l0, l1, l2, l3, l4, l5, l6, l7, l8] (vR (some 8) :: st) E u) ∧
  (∀ (l1 l2 l3 l4 l5 l6 l7 l8 : am_V) (a : Option Nat) (st : List am_V) (E : am_E) (u : am_M), Rn m_A_bestCell 68 [vR a, l1, l2, l3, l4, l5, l6, l7, l8] st E u = Rn m_A_bestCell 69 [vR a, l1, l2, l3, l4, l5, l6, l7, l8] (vR a :: st) E u) ∧
  (∀ (l0 l1 l2 l3 l4 l5 l6 l7 l8 : am_V) (st : List am_V) (E : am_E) (u : am_M) (hE : SE E), Rn m_A_bestCell 69 [l0, l1, l2, l3, l4, l5, l6, l7, l8] (vR (some 0) :: st) E u = Rn m_A_bestCell 72 [l0, l1, l2, l3, l4, l5, l6, l7, l8] (vR (some 1) :: st) E u) ∧
  (∀ (l0 l1 l2 l3 l4 l5 l6 l7 l8 : am_V) (a0 : Option Nat) (E : am_E) (u : am_M) (hE : SE E), Rn m_A_bestCell 72 [l0, l1, l2, l3, l4, l5, l6, l7, l8] [vR a0, vR (some 1)] E u = bdV (Rn m_C_becomes 0 [vR (some 1), vR a0] [] E u) (KV m_A_bestCell 75 [l0, l1, l2, l3, l4, l5, l6, l7, l8] [])) ∧
  (∀ (l0 l1 l2 l3 l4 l5 l6 l7 l8 : am_V) (a0 : Option Nat) (E : am_E) (u : am_M) (hE : SE E), Rn m_A_bestCell 72 [l0, l1, l2, l3, l4, l5, l6, l7, l8] [vR a0, vR (some 8)] E u = bdV (Rn m_C_becomes 0 [vR (some 8), vR a0] [] E u) (KV m_A_bestCell 75 [l0, l1, l2, l3, l4, l5, l6, l7, l8] [])) ∧
  (∀ (l0 l1 l2 l3 l4 l5 l6 l7 l8 : am_V) (a0 : Option Nat) (E : am_E) (u : am_M) (hE : SE E), Rn m_A_bestCell 72 [l0, l1, l2, l3, l4, l5, l6, l7, l8] [vR a0, vR (some 73)] E u = bdV (Rn m_C_becomes 0 [vR (some 73), vR a0] [] E u) (KV m_A_bestCell 75 [l0, l1, l2, l3, l4, l5, l6, l7, l8] [])) ∧
  (∀ (l0 l1 l2 l3 l5 l6 l7 l8 : am_V) (a : Int) (st : List am_V) (E : am_E) (u : am_M), Rn m_A_bestCell 75 [l0, l1, l2, l3, vI a, l5, l6, l7, l8] st E u = Rn m_A_bestCell 77 [l0, l1, l2, l3, vI a, l5, l6, l7, l8] (vI a :: st) E u) ∧
  (∀ (l0 l1 l2 l3 l4 l5 l6 l7 l8 : am_V) (a : Int) (st : List am_V) (E : am_E) (u : am_M), Rn m_A_bestCell 77 [l0, l1, l2, l3, l4, l5, l6, l7, l8] (vI a :: st) E u = if a = 0 then Rn m_A_bestCell 93 [l0, l1, l2, l3, l4, l5, l6, l7, l8] st E u else Rn m_A_bestCell 80 [l0, l1, l2, l3, l4, l5, l6, l7, l8] st E u) ∧
  (∀ (l1 l2 l3 l4 l5 l6 l7 l8 : am_V) (a : Option Nat) (st : List am_V) (E : am_E) (u : am_M), Rn m_A_bestCell 80 [vR a, l1, l2, l3, l4, l5, l6, l7, l8] st E u = Rn m_A_bestCell 81 [vR a, l1, l2, l3, l4, l5, l6, l7, l8] (vR a :: st) E u) ∧
  (∀ (l0 l1 l2 l3 l4 l5 l6 l7 l8 : am_V) (st : List am_V) (E : am_E) (u : am_M) (hE : SE E), Rn m_A_bestCell 81 [l0, l1, l2, l3, l4, l5, l6, l7, l8] (vR (some 0) :: st) E u = Rn m_A_bestCell 84 [l0, l1, l2, l3, l4, l5, l6, l7, l8] (vR (some 8) :: st) E u) ∧
  (∀ (l0 l2 l3 l4 l5 l6 l7 l8 : am_V) (a : Int) (st : List am_V) (E : am_E) (u : am_M), Rn m_A_bestCell 84 [l0, vI a, l2, l3, l4, l5, l6, l7, l8] st E u = Rn m_A_bestCell 85 [l0, vI a, l2, l3, l4, l5, l6, l7, l8] (vI a :: st) E u) ∧
  (∀ (l0 l1 l2 l3 l4 l5 l6 l8 : am_V) (a : Int) (st : List am_V) (E : am_E) (u : am_M), Rn m_A_bestCell 85 [l0, l1, l2, l3, l4, l5, l6, vI a, l8] st E u = Rn m_A_bestCell 87 [l0, l1, l2, l3, l4, l5, l6, vI a, l8] (vI a :: st) E u) ∧
  (∀ (l0 l1 l2 l3 l4 l5 l6 l7 l8 : am_V) (a0 : Int) (a1 : Int) (E : am_E) (u : am_M) (hE : SE E), Rn m_A_bestCell 87 [l0, l1, l2, l3, l4, l5, l6, l7, l8] [vI a1, vI a0, vR (some 1)] E u = bdV (Rn m_C_sets 0 [vR (some 1), vI a0, vI a1] [] E u) (KV m_A_bestCell 90 [l0, l1, l2, l3, l4, l5, l6, l7, l8] [])) ∧
  (∀ (l0 l1 l2 l3 l4 l5 l6 l7 l8 : am_V) (a0 : Int) (a1 : Int) (E : am_E) (u : am_M) (hE : SE E), Rn m_A_bestCell 87 [l0, l1, l2, l3, l4, l5, l6, l7, l8] [vI a1, vI a0, vR (some 8)] E u = bdV (Rn m_C_sets 0 [vR (some 8), vI a0, vI a1] [] E u) (KV m_A_bestCell 90 [l0, l1, l2, l3, l4, l5, l6, l7, l8] [])) ∧
  (∀ (l0 l1 l2 l3 l4 l5 l6 l7 l8 : am_V) (a0 : Int) (a1 : Int) (E : am_E) (u : am_M) (hE : SE E), Rn m_A_bestCell 87 [l0, l1, l2, l3, l4, l5, l6, l7, l8] [vI a1, vI a0, vR (some 73)] E u = bdV (Rn m_C_sets 0 [vR (some 73), vI a0, vI a1] [] E u) (KV m_A_bestCell 90 [l0, l1, l2, l3, l4, l5, l6, l7, l8] [])) ∧
  (∀ (l0 l1 l2 l3 l4 l5 l6 l7 l8 : am_V) (st : List am_V) (E : am_E) (u : am_M), Rn m_A_bestCell 90 [l0, l1, l2, l3, l4, l5, l6, l7, l8] st E u = Rn m_A_bestCell 102 [l0, l1, l2, l3, l4, l5, l6, l7, l8] st E u) ∧
  (∀ (l1 l2 l3 l4 l5 l6 l7 l8 : am_V) (a : Option Nat) (st : List am_V) (E : am_E) (u : am_M), Rn m_A_bestCell 93 [vR a, l1, l2, l3, l4, l5, l6, l7, l8] st E u = Rn m_A_bestCell 94 [vR a, l1, l2, l3, l4, l5, l6, l7, l8] (vR a :: st) E u) ∧
  (∀ (l0 l1 l2 l3 l4 l5 l6 l7 l8 : am_V) (st : List am_V) (E : am_E) (u : am_M) (hE : SE E), Rn m_A_bestCell 94 [l0, l1, l2, l3, l4, l5, l6, l7, l8] (vR (some 0) :: st) E u = Rn m_A_bestCell 97 [l0, l1, l2, l3, l4, l5, l6, l7, l8] (vR (some 8) :: st) E u) ∧
  (∀ (l0 l1 l2 l3 l4 l5 l6 l8 : am_V) (a : Int) (st : List am_V) (E : am_E) (u : am_M), Rn m_A_bestCell 97 [l0, l1, l2, l3, l4, l5, l6, vI a, l8] st E u = Rn m_A_bestCell 99 [l0, l1, l2, l3, l4, l5, l6, vI a, l8] (vI a :: st) E u) ∧
  (∀ (l0 l1 l2 l3 l4 l5 l6 l7 l8 : am_V) (a0 : Int) (E : am_E) (u : am_M) (hE : SE E), Rn m_A_bestCell 99 [l0, l1, l2, l3, l4, l5, l6, l7, l8] [vI a0, vR (some 1)] E u = bdV (Rn m_C_opens 0 [vR (some 1), vI a0] [] E u) (KV m_A_bestCell 102 [l0, l1, l2, l3, l4, l5, l6, l7, l8] [])) ∧
  (∀ (l0 l1 l2 l3 l4 l5 l6 l7 l8 : am_V) (a0 : Int) (E : am_E) (u : am_M) (hE : SE E), Rn m_A_bestCell 99 [l0, l1, l2, l3, l4, l5, l6, l7, l8] [vI a0, vR (some 8)] E u = bdV (Rn m_C_opens 0 [vR (some 8), vI a0] [] E u) (KV m_A_bestCell 102 [l0, l1, l2, l3, l4, l5, l6, l7, l8] [])) ∧
  (∀ (l0 l1 l2 l3 l4 l5 l6 l7 l8 : am_V) (a0 : Int) (E : am_E) (u : am_M) (hE : SE E), Rn m_A_bestCell 99 [l0, l1, l2, l3, l4, l5, l6, l7, l8] [vI a0, vR (some 73)] E u = bdV (Rn m_C_opens 0 [vR (some 73), vI a0] [] E u) (KV m_A_bestCell 102 [l0, l1, l2, l3, l4, l5, l6, l7, l8] [])) ∧
  (∀ (l1 l2 l3 l4 l5 l6 l7 l8 : am_V) (a : Option Nat) (st : List am_V) (E : am_E) (u : am_M), Rn m_A_bestCell 102 [vR a, l1, l2, l3, l4, l5, l6, l7, l8] st E u = Rn m_A_bestCell 103 [vR a, l1, l2, l3, l4, l5, l6, l7, l8] (vR a :: st) E u) ∧
  (∀ (l0 l1 l2 l3 l4 l5 l6 l7 l8 : am_V) (st : List am_V) (E : am_E) (u : am_M) (hE : SE E), Rn m_A_bestCell 103 [l0, l1, l2, l3, l4, l5, l6, l7, l8] (vR (some 0) :: st) E u = Rn m_A_bestCell 106 [l0, l1, l2, l3, l4, l5, l6, l7, l8] (vR (some 8) :: st) E u) ∧
  (∀ (l0 l2 l3 l4 l5 l6 l7 l8 : am_V) (a : Int) (st : List am_V) (E : am_E) (u : am_M), Rn m_A_bestCell 106 [l0, vI a, l2, l3, l4, l5, l6, l7, l8] st E u = Rn m_A_bestCell 107 [l0, vI a, l2, l3, l4, l5, l6, l7, l8] (vI a :: st) E u) ∧
  (∀ (l0 l1 l3 l4 l5 l6 l7 l8 : am_V) (a : Int) (st : List am_V) (E : am_E) (u : am_M), Rn m_A_bestCell 107 [l0, l1, vI a, l3, l4, l5, l6, l7, l8] st E u = Rn m_A_bestCell 108 [l0, l1, vI a, l3, l4, l5, l6, l7, l8] (vI a :: st) E u) ∧
  (∀ (l0 l1 l2 l3 l4 l5 l7 l8 : am_V) (a : Int) (st : List am_V) (E : am_E) (u : am_M), Rn m_A_bestCell 108 [l0, l1, l2, l3, l4, l5, vI a, l7, l8] st E u = Rn m_A_bestCell 110 [l0, l1, l2, l3, l4, l5, vI a, l7, l8] (vI a :: st) E u) ∧
  (∀ (l0 l1 l2 l3 l4 l5 l6 l7 l8 : am_V) (a0 : Int) (a1 : Int) (a2 : Int) (E : am_E) (u : am_M) (hE : SE E), Rn m_A_bestCell 110 [l0, l1, l2, l3, l4, l5, l6, l7, l8] [vI a2, vI a1, vI a0, vR (some 1)] E u = bdI (Rn m_C_soonest 0 [vR (some 1), vI a0, vI a1, vI a2, vB false] [] E u) (KI m_A_bestCell 113 [l0, l1, l2, l3, l4, l5, l6, l7, l8] [])) ∧
  (∀ (l0 l1 l2 l3 l4 l5 l6 l7 l8 : am_V) (a0 : Int) (a1 : Int) (a2 : Int) (E : am_E) (u : am_M) (hE : SE E), Rn m_A_bestCell 110 [l0, l1, l2, l3, l4, l5, l6, l7, l8] [vI a2, vI a1, vI a0, vR (some 8)] E u = bdI (Rn m_C_soonest 0 [vR (some 8), vI a0, vI a1, vI a2, vB false] [] E u) (KI m_A_bestCell 113 [l0, l1, l2, l3, l4, l5, l6, l7, l8] [])) ∧
  (∀ (l0 l1 l2 l3 l4 l5 l6 l7 l8 : am_V) (a0 : Int) (a1 : Int) (a2 : Int) (E : am_E) (u : am_M) (hE : SE E), Rn m_A_bestCell 110 [l0, l1, l2, l3, l4, l5, l6, l7, l8] [vI a2, vI a1, vI a0, vR (some 73)] E u = bdI (Rn m_C_soonest 0 [vR (some 73), vI a0, vI a1, vI a2, vB false] [] E u) (KI m_A_bestCell 113 [l0, l1, l2, l3, l4, l5, l6, l7, l8] [])) ∧
  (∀ (l0 l1 l2 l3 l4 l5 l6 l7 l8 : am_V) (a : Int) (st : List am_V) (E : am_E) (u : am_M), Rn m_A_bestCell 113 [l0, l1, l2, l3, l4, l5, l6, l7, l8] (vI a :: st) E u = Rn m_A_bestCell 115 [l0, l1, l2, l3, l4, l5, l6, am_fx l7, vI a] st E u) ∧
  (∀ (l0 l1 l2 l3 l4 l5 l6 l7 : am_V) (a : Int) (st : List am_V) (E : am_E) (u : am_M), Rn m_A_bestCell 115 [l0, l1, l2, l3, l4, l5, l6, l7, vI a] st E u = Rn m_A_bestCell 117 [l0, l1, l2, l3, l4, l5, l6, l7, vI a] (vI a :: st) E u) ∧
  (∀ (l0 l1 l2 l3 l4 l5 l6 l7 l8 : am_V) (st : List am_V) (E : am_E) (u : am_M), Rn m_A_bestCell 117 [l0, l1, l2, l3, l4, l5, l6, l7, l8] st E u = Rn m_A_bestCell 119 [l0, l1, l2, l3, l4, l5, l6, l7, l8] (vI (-4) :: st) E u) ∧
  (∀ (l0 l1 l2 l3 l4 l5 l6 l7 l8 : am_V) (a b : Int) (st : List am_V) (E : am_E) (u : am_M), Rn m_A_bestCell 119 [l0, l1, l2, l3, l4, l5, l6, l7, l8] (vI b :: vI a :: st) E u = if a = b then Rn m_A_bestCell 132 [l0, l1, l2, l3, l4, l5, l6, l7, l8] st E u else Rn m_A_bestCell 122 [l0, l1, l2, l3, l4, l5, l6, l7, l8] st E u) ∧
  (∀ (l0 l1 l2 l3 l4 l5 l6 l8 : am_V) (a : Int) (st : List am_V) (E : am_E) (u : am_M), Rn m_A_bestCell 122 [l0, l1, l2, l3, l4, l5, l6, vI a, l8] st E u = Rn m_A_bestCell 124 [l0, l1, l2, l3, l4, l5, l6, vI a, l8] (vI a :: st) E u) ∧
  (∀ (l0 l1 l2 l3 l4 l5 l6 l7 l8 : am_V) (a : Int) (st : List am_V) (E : am_E) (u : am_M), Rn m_A_bestCell 124 [l0, l1, l2, l3, l4, l5, l6, l7, l8] (vI a :: st) E u = Rn m_A_bestCell 126 [l0, l1, l2, l3, am_fx l4, vI a, l6, l7, l8] st E u) ∧
  (∀ (l0 l1 l2 l3 l4 l5 l6 l7 : am_V) (a : Int) (st : List am_V) (E : am_E) (u : am_M), Rn m_A_bestCell 126 [l0, l1, l2, l3, l4, l5, l6, l7, vI a] st E u = Rn m_A_bestCell 128 [l0, l1, l2, l3, l4, l5, l6, l7, vI a] (vI a :: st) E u) ∧
  (∀ (l0 l1 l2 l3 l4 l5 l6 l7 l8 : am_V) (st : List am_V) (E : am_E) (u : am_M), Rn m_A_bestCell 128 [l0, l1, l2, l3, l4, l5, l6, l7, l8] st E u = Rn m_A_bestCell 129 [l0, l1, l2, l3, l4, l5, l6, l7, l8] (vI 1 :: st) E u) ∧
  (∀ (l0 l1 l2 l3 l4 l5 l6 l7 l8 : am_V) (a b : Int) (st : List am_V) (E : am_E) (u : am_M), Rn m_A_bestCell 129 [l0, l1, l2, l3, l4, l5, l6, l7, l8] (vI b :: vI a :: st) E u = Rn m_A_bestCell 130 [l0, l1, l2, l3, l4, l5, l6, l7, l8] (vI (w32 (a - b)) :: st) E u) ∧
  (∀ (l0 l1 l2 l3 l4 l5 l6 l7 l8 : am_V) (a : Int) (st : List am_V) (E : am_E) (u : am_M), Rn m_A_bestCell 130 [l0, l1, l2, l3, l4, l5, l6, l7, l8] (vI a :: st) E u = Rn m_A_bestCell 132 [l0, l1, l2, l3, l4, am_fx l5, vI a, l7, l8] st E u) ∧
  (∀ (l0 l1 l2 l3 l4 l5 l6 l8 : am_V) (a : Int) (st : List am_V) (E : am_E) (u : am_M), Rn m_A_bestCell 132 [l0, l1, l2, l3, l4, l5, l6, vI a, l8] st E u = Rn m_A_bestCell 135 [l0, l1, l2, l3, l4, l5, am_fx l6, vI (w32 (a + 1)), l8] st E u) ∧
  (∀ (l0 l1 l2 l3 l4 l5 l6 l7 l8 : am_V) (st : List am_V) (E : am_E) (u : am_M), Rn m_A_bestCell 135 [l0, l1, l2, l3, l4, l5, l6, l7, l8] st E u = Rn m_A_bestCell 11 [l0, l1, l2, l3, l4, l5, l6, l7, l8] st E u) ∧
  (∀ (l0 l1 l2 l3 l4 l6 l7 l8 : am_V) (a : Int) (st : List am_V) (E : am_E) (u : am_M), Rn m_A_bestCell 138 [l0, l1, l2, l3, l4, vI a, l6, l7, l8] st E u = Rn m_A_bestCell 140 [l0, l1, l2, l3, l4, vI a, l6, l7, l8] (vI a :: st) E u) ∧
  (∀ (l0 l1 l2 l3 l4 l5 l6 l7 l8 : am_V) (st : List am_V) (E : am_E) (u : am_M), Rn m_A_bestCell 140 [l0, l1, l2, l3, l4, l5, l6, l7, l8] st E u = Rn m_A_bestCell 142 [l0, l1, l2, l3, l4, l5, l6, l7, l8] (vI (-4) :: st) E u) ∧
  (∀ (l0 l1 l2 l3 l4 l5 l6 l7 l8 : am_V) (a b : Int) (st : List am_V) (E : am_E) (u : am_M), Rn m_A_bestCell 142 [l0, l1, l2, l3, l4, l5, l6, l7, l8] (vI b :: vI a :: st) E u = if a = b then Rn m_A_bestCell 149 [l0, l1, l2, l3, l4, l5, l6, l7, l8] st E u else Rn m_A_bestCell 145 [l0, l1, l2, l3, l4, l5, l6, l7, l8] st E u) ∧
  (∀ (l0 l1 l2 l4 l5 l6 l7 l8 : am_V) (a : Int) (st : List am_V) (E : am_E) (u : am_M), Rn m_A_bestCell 145 [l0, l1, l2, vI a, l4, l5, l6, l7, l8] st E u = Rn m_A_bestCell 146 [l0, l1, l2, vI a, l4, l5, l6, l7, l8] (vI a :: st) E u) ∧
  (∀ (l0 l1 l2 l3 l4 l5 l6 l7 l8 : am_V) (a : Int) (st : List am_V) (E : am_E) (u : am_M), Rn m_A_bestCell 146 [l0, l1, l2, l3, l4, l5, l6, l7, l8] (vI a :: st) E u = if a = 0 then Rn m_A_bestCell 149 [l0, l1, l2, l3, l4, l5, l6, l7, l8] st E u else Rn m_A_bestCell 154 [l0, l1, l2, l3, l4, l5, l6, l7, l8] st E u) ∧
  (∀ (l0 l1 l2 l3 l4 l6 l7 l8 : am_V) (a : Int) (st : List am_V) (E : am_E) (u : am_M), Rn m_A_bestCell 149 [l0, l1, l2, l3, l4, vI a, l6, l7, l8] st E u = Rn m_A_bestCell 151 [l0, l1, l2, l3, l4, vI a, l6, l7, l8] (vI a :: st) E u) ∧
  (∀ (l0 l1 l2 l3 l4 l5 l6 l7 l8 : am_V) (st : List am_V) (E : am_E) (u : am_M), Rn m_A_bestCell 151 [l0, l1, l2, l3, l4, l5, l6, l7, l8] st E u = Rn m_A_bestCell 158 [l0, l1, l2, l3, l4, l5, l6, l7, l8] st E u) ∧
  (∀ (l0 l1 l2 l3 l4 l5 l7 l8 : am_V) (a : Int) (st : List am_V) (E : am_E) (u : am_M), Rn m_A_bestCell 154 [l0, l1, l2, l3, l4, l5, vI a, l7, l8] st E u = Rn m_A_bestCell 156 [l0, l1, l2, l3, l4, l5, vI a, l7, l8] (vI a :: st) E u) ∧
  (∀ (l0 l1 l2 l3 l4 l5 l6 l7 l8 : am_V) (st : List am_V) (E : am_E) (u : am_M), Rn m_A_bestCell 156 [l0, l1, l2, l3, l4, l5, l6, l7, l8] st E u = Rn m_A_bestCell 157 [l0, l1, l2, l3, l4, l5, l6, l7, l8] (vI 1 :: st) E u) ∧
  (∀ (l0 l1 l2 l3 l4 l5 l6 l7 l8 : am_V) (a b : Int) (st : List am_V) (E : am_E) (u : am_M), Rn m_A_bestCell 157 [l0, l1, l2, l3, l4, l5, l6, l7, l8] (vI b :: vI a :: st) E u = Rn m_A_bestCell 158 [l0, l1, l2, l3, l4, l5, l6, l7, l8] (vI (w32 (a + b)) :: st) E u) ∧
  (∀ (l0 l1 l2 l3 l4 l5 l6 l7 l8 : am_V) (a : Int) (E : am_E) (u : am_M), Rn m_A_bestCell 158 [l0, l1, l2, l3, l4, l5, l6, l7, l8] [vI a] E u = some (some (vI a), E, u)) :=
  ⟨fun l0 l1 l2 l3 l4 l5 l6 l7 l8 st E u => q_go (by decide +kernel : am_Pg 147 0 = some (.bipush (-4), 2, [], 0)) rfl,
  fun l0 l1 l2 l3 l4 l5 l6 l7 l8 a st E u => q_go (by decide +kernel : am_Pg 147 2 = some (.istore 5, 2, [], 0)) rfl,
  fun l0 l1 l2 l3 l4 l5 l6 l7 l8 st E u => q_go (by decide +kernel : am_Pg 147 4 = some (.bipush 60, 2, [], 0)) rfl,
  fun l0 l1 l2 l3 l4 l5 l6 l7 l8 a st E u => q_go (by decide +kernel : am_Pg 147 6 = some (.istore 6, 2, [], 0)) rfl,
  fun l0 l1 l2 l3 l4 l5 l6 l7 l8 st E u => q_go (by decide +kernel : am_Pg 147 8 = some (.iconst 0, 1, [], 0)) rfl,
  fun l0 l1 l2 l3 l4 l5 l6 l7 l8 a st E u => q_go (by decide +kernel : am_Pg 147 9 = some (.istore 7, 2, [], 0)) rfl,
  fun l1 l2 l3 l4 l5 l6 l7 l8 a st E u => q_go (by decide +kernel : am_Pg 147 13 = some (.aload_n 0, 1, [], 0)) rfl,
  fun l0 l1 l2 l3 l4 l5 l6 l7 l8 st E u hE => q_gfR (by decide +kernel : am_Pg 147 14 = some (.getfield 12, 3, [4, 8, 0, 0], 0)) (SE_k4 hE) rfl (SE_r4_0 hE),
  fun l0 l1 l2 l3 l4 l5 l6 l7 l8  r0 E u hE => q_cI (by decide +kernel : am_Pg 147 17 = some (.invokevirtual 57, 3, [3, 11, 1, 0, 14, 1], 0)) (am_call_V (a := []) (st' := [r0]) (Nat.le_of_ble_eq_true rfl) rfl (SE_k0 hE cuB_1)) (by decide +kernel : am_Lm m_C_cellCount = 1) (Nat.le_of_ble_eq_true rfl) rfl (by decide +kernel),
  fun l0 l1 l2 l3 l4 l5 l6 l7 l8  r0 E u hE => q_cI (by decide +kernel : am_Pg 147 17 = some (.invokevirtual 57, 3, [3, 11, 1, 0, 14, 1], 0)) (am_call_V (a := []) (st' := [r0]) (Nat.le_of_ble_eq_true rfl) rfl (SE_k0 hE cuB_8)) (by decide +kernel : am_Lm m_C_cellCount = 1) (Nat.le_of_ble_eq_true rfl) rfl (by decide +kernel),
  fun l0 l1 l2 l3 l4 l5 l6 l7 l8  r0 E u hE => q_cI (by decide +kernel : am_Pg 147 17 = some (.invokevirtual 57, 3, [3, 11, 1, 0, 14, 1], 0)) (am_call_V (a := []) (st' := [r0]) (Nat.le_of_ble_eq_true rfl) rfl (SE_k0 hE cuB_73)) (by decide +kernel : am_Lm m_C_cellCount = 1) (Nat.le_of_ble_eq_true rfl) rfl (by decide +kernel),
  fun l0 l1 l2 l3 l4 l5 l6 l7 l8 a b st E u => q_icmp_ge (tgt := 138) (by decide +kernel : am_Pg 147 20 = some (.if_icmp .ge 118, 3, [], 0)) (by decide),
  fun l0 l1 l2 l3 l4 l5 l7 l8 a st E u => q_go (by decide +kernel : am_Pg 147 23 = some (.iload 6, 2, [], 0)) rfl,
  fun l0 l1 l2 l3 l4 l5 l6 l7 l8 a st E u => q_if_lt (tgt := 138) (by decide +kernel : am_Pg 147 25 = some (.ifCond .lt 113, 3, [], 0)) (by decide),
  fun l0 l1 l2 l3 l5 l6 l7 l8 a st E u => q_go (by decide +kernel : am_Pg 147 28 = some (.iload 4, 2, [], 0)) rfl,
  fun l0 l1 l2 l3 l4 l5 l6 l7 l8 a st E u => q_if_eq (tgt := 50) (by decide +kernel : am_Pg 147 30 = some (.ifCond .eq 20, 3, [], 0)) (by decide),
  fun l1 l2 l3 l4 l5 l6 l7 l8 a st E u => q_go (by decide +kernel : am_Pg 147 33 = some (.aload_n 0, 1, [], 0)) rfl,
  fun l0 l1 l2 l3 l4 l5 l6 l7 l8 st E u hE => q_gfR (by decide +kernel : am_Pg 147 34 = some (.getfield 12, 3, [4, 8, 0, 0], 0)) (SE_k4 hE) rfl (SE_r4_0 hE),
  fun l0 l1 l2 l3 l4 l5 l6 l8 a st E u => q_go (by decide +kernel : am_Pg 147 37 = some (.iload 7, 2, [], 0)) rfl,
  fun l0 l1 l2 l3 l4 l5 l6 l7 l8 a0  E u hE => q_cI (by decide +kernel : am_Pg 147 39 = some (.invokevirtual 181, 3, [3, 17, 2, 0, 14, 1], 0)) (am_call_V (a := [vI a0]) (st' := []) (Nat.le_of_ble_eq_true rfl) rfl (SE_k0 hE cuB_1)) (by decide +kernel : am_Lm m_C_pinOn = 3) (Nat.le_of_ble_eq_true rfl) rfl (by decide +kernel),
  fun l0 l1 l2 l3 l4 l5 l6 l7 l8 a0  E u hE => q_cI (by decide +kernel : am_Pg 147 39 = some (.invokevirtual 181, 3, [3, 17, 2, 0, 14, 1], 0)) (am_call_V (a := [vI a0]) (st' := []) (Nat.le_of_ble_eq_true rfl) rfl (SE_k0 hE cuB_8)) (by decide +kernel : am_Lm m_C_pinOn = 3) (Nat.le_of_ble_eq_true rfl) rfl (by decide +kernel),
  fun l0 l1 l2 l3 l4 l5 l6 l7 l8 a0  E u hE => q_cI (by decide +kernel : am_Pg 147 39 = some (.invokevirtual 181, 3, [3, 17, 2, 0, 14, 1], 0)) (am_call_V (a := [vI a0]) (st' := []) (Nat.le_of_ble_eq_true rfl) rfl (SE_k0 hE cuB_73)) (by decide +kernel : am_Lm m_C_pinOn = 3) (Nat.le_of_ble_eq_true rfl) rfl (by decide +kernel),
  fun l0 l1 l2 l3 l4 l5 l6 l7 l8 st E u => q_go (by decide +kernel : am_Pg 147 42 = some (.bipush (-4), 2, [], 0)) rfl,
  fun l0 l1 l2 l3 l4 l5 l6 l7 l8 a b st E u => q_icmp_ne (tgt := 132) (by decide +kernel : am_Pg 147 44 = some (.if_icmp .ne 88, 3, [], 0)) (by decide),
  fun l0 l1 l2 l3 l4 l5 l6 l7 l8 st E u => q_go (by decide +kernel : am_Pg 147 47 = some (.goto 17, 3, [], 0)) rfl,
  fun l1 l2 l3 l4 l5 l6 l7 l8 a st E u => q_go (by decide +kernel : am_Pg 147 50 = some (.aload_n 0, 1, [], 0)) rfl,
  fun l0 l1 l2 l3 l4 l5 l6 l7 l8 st E u hE => q_gfR (by decide +kernel : am_Pg 147 51 = some (.getfield 12, 3, [4, 8, 0, 0], 0)) (SE_k4 hE) rfl (SE_r4_0 hE),
  fun l0 l1 l2 l3 l4 l5 l6 l8 a st E u => q_go (by decide +kernel : am_Pg 147 54 = some (.iload 7, 2, [], 0)) rfl,
  fun l0 l1 l2 l3 l4 l5 l6 l7 l8 a0  E u hE => q_cI (by decide +kernel : am_Pg 147 56 = some (.invokevirtual 65, 3, [3, 18, 2, 0, 14, 1], 0)) (am_call_V (a := [vI a0]) (st' := []) (Nat.le_of_ble_eq_true rfl) rfl (SE_k0 hE cuB_1)) (by decide +kernel : am_Lm m_C_thingOn = 2) (Nat.le_of_ble_eq_true rfl) rfl (by decide +kernel),
  fun l0 l1 l2 l3 l4 l5 l6 l7 l8 a0  E u hE => q_cI (by decide +kernel : am_Pg 147 56 = some (.invokevirtual 65, 3, [3, 18, 2, 0, 14, 1], 0)) (am_call_V (a := [vI a0]) (st' := []) (Nat.le_of_ble_eq_true rfl) rfl (SE_k0 hE cuB_8)) (by decide +kernel : am_Lm m_C_thingOn = 2) (Nat.le_of_ble_eq_true rfl) rfl (by decide +kernel),
  fun l0 l1 l2 l3 l4 l5 l6 l7 l8 a0  E u hE => q_cI (by decide +kernel : am_Pg 147 56 = some (.invokevirtual 65, 3, [3, 18, 2, 0, 14, 1], 0)) (am_call_V (a := [vI a0]) (st' := []) (Nat.le_of_ble_eq_true rfl) rfl (SE_k0 hE cuB_73)) (by decide +kernel : am_Lm m_C_thingOn = 2) (Nat.le_of_ble_eq_true rfl) rfl (by decide +kernel),
  fun l0 l1 l2 l3 l4 l5 l6 l7 l8 st E u => q_go (by decide +kernel : am_Pg 147 59 = some (.bipush (-4), 2, [], 0)) rfl,
  fun l0 l1 l2 l3 l4 l5 l6 l7 l8 a b st E u => q_icmp_ne (tgt := 132) (by decide +kernel : am_Pg 147 61 = some (.if_icmp .ne 71, 3, [], 0)) (by decide),
  fun l1 l2 l3 l4 l5 l6 l7 l8 a st E u => q_go (by decide +kernel : am_Pg 147 64 = some (.aload_n 0, 1, [], 0)) rfl,
  fun l0 l1 l2 l3 l4 l5 l6 l7 l8 st E u hE => q_gfR (by decide +kernel : am_Pg 147 65 = some (.getfield 16, 3, [4, 8, 1, 0], 0)) (SE_k4 hE) rfl (SE_r4_1 hE),
  fun l1 l2 l3 l4 l5 l6 l7 l8 a st E u => q_go (by decide +kernel : am_Pg 147 68 = some (.aload_n 0, 1, [], 0)) rfl,
  fun l0 l1 l2 l3 l4 l5 l6 l7 l8 st E u hE => q_gfR (by decide +kernel : am_Pg 147 69 = some (.getfield 12, 3, [4, 8, 0, 0], 0)) (SE_k4 hE) rfl (SE_r4_0 hE),
  fun l0 l1 l2 l3 l4 l5 l6 l7 l8 a0  E u hE => q_cV (by decide +kernel : am_Pg 147 72 = some (.invokevirtual 141, 3, [3, 78, 2, 0, 14, 1], 0)) (am_call_V (a := [vR a0]) (st' := []) (Nat.le_of_ble_eq_true rfl) rfl (SE_k0 hE cuB_1)) (by decide +kernel : am_Lm m_C_becomes = 2) (Nat.le_of_ble_eq_true rfl) rfl (by decide +kernel),
  fun l0 l1 l2 l3 l4 l5 l6 l7 l8 a0  E u hE => q_cV (by decide +kernel : am_Pg 147 72 = some (.invokevirtual 141, 3, [3, 78, 2, 0, 14, 1], 0)) (am_call_V (a := [vR a0]) (st' := []) (Nat.le_of_ble_eq_true rfl) rfl (SE_k0 hE cuB_8)) (by decide +kernel : am_Lm m_C_becomes = 2) (Nat.le_of_ble_eq_true rfl) rfl (by decide +kernel),
  fun l0 l1 l2 l3 l4 l5 l6 l7 l8 a0  E u hE => q_cV (by decide +kernel : am_Pg 147 72 = some (.invokevirtual 141, 3, [3, 78, 2, 0, 14, 1], 0)) (am_call_V (a := [vR a0]) (st' := []) (Nat.le_of_ble_eq_true rfl) rfl (SE_k0 hE cuB_73)) (by decide +kernel : am_Lm m_C_becomes = 2) (Nat.le_of_ble_eq_true rfl) rfl (by decide +kernel),
  fun l0 l1 l2 l3 l5 l6 l7 l8 a st E u => q_go (by decide +kernel : am_Pg 147 75 = some (.iload 4, 2, [], 0)) rfl,
  fun l0 l1 l2 l3 l4 l5 l6 l7 l8 a st E u => q_if_eq (tgt := 93) (by decide +kernel : am_Pg 147 77 = some (.ifCond .eq 16, 3, [], 0)) (by decide),
  fun l1 l2 l3 l4 l5 l6 l7 l8 a st E u => q_go (by decide +kernel : am_Pg 147 80 = some (.aload_n 0, 1, [], 0)) rfl,
  fun l0 l1 l2 l3 l4 l5 l6 l7 l8 st E u hE => q_gfR (by decide +kernel : am_Pg 147 81 = some (.getfield 16, 3, [4, 8, 1, 0], 0)) (SE_k4 hE) rfl (SE_r4_1 hE),
  fun l0 l2 l3 l4 l5 l6 l7 l8 a st E u => q_go (by decide +kernel : am_Pg 147 84 = some (.iload_n 1, 1, [], 0)) rfl,
  fun l0 l1 l2 l3 l4 l5 l6 l8 a st E u => q_go (by decide +kernel : am_Pg 147 85 = some (.iload 7, 2, [], 0)) rfl,
  fun l0 l1 l2 l3 l4 l5 l6 l7 l8 a0 a1  E u hE => q_cV (by decide +kernel : am_Pg 147 87 = some (.invokevirtual 184, 3, [3, 102, 3, 0, 14, 1], 0)) (am_call_V (a := [vI a0, vI a1]) (st' := []) (Nat.le_of_ble_eq_true rfl) rfl (SE_k0 hE cuB_1)) (by decide +kernel : am_Lm m_C_sets = 3) (Nat.le_of_ble_eq_true rfl) rfl (by decide +kernel),
  fun l0 l1 l2 l3 l4 l5 l6 l7 l8 a0 a1  E u hE => q_cV (by decide +kernel : am_Pg 147 87 = some (.invokevirtual 184, 3, [3, 102, 3, 0, 14, 1], 0)) (am_call_V (a := [vI a0, vI a1]) (st' := []) (Nat.le_of_ble_eq_true rfl) rfl (SE_k0 hE cuB_8)) (by decide +kernel : am_Lm m_C_sets = 3) (Nat.le_of_ble_eq_true rfl) rfl (by decide +kernel),
  fun l0 l1 l2 l3 l4 l5 l6 l7 l8 a0 a1  E u hE => q_cV (by decide +kernel : am_Pg 147 87 = some (.invokevirtual 184, 3, [3, 102, 3, 0, 14, 1], 0)) (am_call_V (a := [vI a0, vI a1]) (st' := []) (Nat.le_of_ble_eq_true rfl) rfl (SE_k0 hE cuB_73)) (by decide +kernel : am_Lm m_C_sets = 3) (Nat.le_of_ble_eq_true rfl) rfl (by decide +kernel),
  fun l0 l1 l2 l3 l4 l5 l6 l7 l8 st E u => q_go (by decide +kernel : am_Pg 147 90 = some (.goto 12, 3, [], 0)) rfl,
  fun l1 l2 l3 l4 l5 l6 l7 l8 a st E u => q_go (by decide +kernel : am_Pg 147 93 = some (.aload_n 0, 1, [], 0)) rfl,
  fun l0 l1 l2 l3 l4 l5 l6 l7 l8 st E u hE => q_gfR (by decide +kernel : am_Pg 147 94 = some (.getfield 16, 3, [4, 8, 1, 0], 0)) (SE_k4 hE) rfl (SE_r4_1 hE),
  fun l0 l1 l2 l3 l4 l5 l6 l8 a st E u => q_go (by decide +kernel : am_Pg 147 97 = some (.iload 7, 2, [], 0)) rfl,
  fun l0 l1 l2 l3 l4 l5 l6 l7 l8 a0  E u hE => q_cV (by decide +kernel : am_Pg 147 99 = some (.invokevirtual 177, 3, [3, 70, 2, 0, 14, 1], 0)) (am_call_V (a := [vI a0]) (st' := []) (Nat.le_of_ble_eq_true rfl) rfl (SE_k0 hE cuB_1)) (by decide +kernel : am_Lm m_C_opens = 2) (Nat.le_of_ble_eq_true rfl) rfl (by decide +kernel),
  fun l0 l1 l2 l3 l4 l5 l6 l7 l8 a0  E u hE => q_cV (by decide +kernel : am_Pg 147 99 = some (.invokevirtual 177, 3, [3, 70, 2, 0, 14, 1], 0)) (am_call_V (a := [vI a0]) (st' := []) (Nat.le_of_ble_eq_true rfl) rfl (SE_k0 hE cuB_8)) (by decide +kernel : am_Lm m_C_opens = 2) (Nat.le_of_ble_eq_true rfl) rfl (by decide +kernel),
  fun l0 l1 l2 l3 l4 l5 l6 l7 l8 a0  E u hE => q_cV (by decide +kernel : am_Pg 147 99 = some (.invokevirtual 177, 3, [3, 70, 2, 0, 14, 1], 0)) (am_call_V (a := [vI a0]) (st' := []) (Nat.le_of_ble_eq_true rfl) rfl (SE_k0 hE cuB_73)) (by decide +kernel : am_Lm m_C_opens = 2) (Nat.le_of_ble_eq_true rfl) rfl (by decide +kernel),
  fun l1 l2 l3 l4 l5 l6 l7 l8 a st E u => q_go (by decide +kernel : am_Pg 147 102 = some (.aload_n 0, 1, [], 0)) rfl,
  fun l0 l1 l2 l3 l4 l5 l6 l7 l8 st E u hE => q_gfR (by decide +kernel : am_Pg 147 103 = some (.getfield 16, 3, [4, 8, 1, 0], 0)) (SE_k4 hE) rfl (SE_r4_1 hE),
  fun l0 l2 l3 l4 l5 l6 l7 l8 a st E u => q_go (by decide +kernel : am_Pg 147 106 = some (.iload_n 1, 1, [], 0)) rfl,
  fun l0 l1 l3 l4 l5 l6 l7 l8 a st E u => q_go (by decide +kernel : am_Pg 147 107 = some (.iload_n 2, 1, [], 0)) rfl,
  fun l0 l1 l2 l3 l4 l5 l7 l8 a st E u => q_go (by decide +kernel : am_Pg 147 108 = some (.iload 6, 2, [], 0)) rfl,
  fun l0 l1 l2 l3 l4 l5 l6 l7 l8 a0 a1 a2  E u hE => q_cI (by decide +kernel : am_Pg 147 110 = some (.invokevirtual 196, 3, [3, 140, 4, 0, 14, 1], 0)) (am_call_V (a := [vI a0, vI a1, vI a2]) (st' := []) (Nat.le_of_ble_eq_true rfl) rfl (SE_k0 hE cuB_1)) (by decide +kernel : am_Lm m_C_soonest = 5) (Nat.le_of_ble_eq_true rfl) rfl (by decide +kernel),
  fun l0 l1 l2 l3 l4 l5 l6 l7 l8 a0 a1 a2  E u hE => q_cI (by decide +kernel : am_Pg 147 110 = some (.invokevirtual 196, 3, [3, 140, 4, 0, 14, 1], 0)) (am_call_V (a := [vI a0, vI a1, vI a2]) (st' := []) (Nat.le_of_ble_eq_true rfl) rfl (SE_k0 hE cuB_8)) (by decide +kernel : am_Lm m_C_soonest = 5) (Nat.le_of_ble_eq_true rfl) rfl (by decide +kernel),
  fun l0 l1 l2 l3 l4 l5 l6 l7 l8 a0 a1 a2  E u hE => q_cI (by decide +kernel : am_Pg 147 110 = some (.invokevirtual 196, 3, [3, 140, 4, 0, 14, 1], 0)) (am_call_V (a := [vI a0, vI a1, vI a2]) (st' := []) (Nat.le_of_ble_eq_true rfl) rfl (SE_k0 hE cuB_73)) (by decide +kernel : am_Lm m_C_soonest = 5) (Nat.le_of_ble_eq_true rfl) rfl (by decide +kernel),
  fun l0 l1 l2 l3 l4 l5 l6 l7 l8 a st E u => q_go (by decide +kernel : am_Pg 147 113 = some (.istore 8, 2, [], 0)) rfl,
  fun l0 l1 l2 l3 l4 l5 l6 l7 a st E u => q_go (by decide +kernel : am_Pg 147 115 = some (.iload 8, 2, [], 0)) rfl,
  fun l0 l1 l2 l3 l4 l5 l6 l7 l8 st E u => q_go (by decide +kernel : am_Pg 147 117 = some (.bipush (-4), 2, [], 0)) rfl,
  fun l0 l1 l2 l3 l4 l5 l6 l7 l8 a b st E u => q_icmp_eq (tgt := 132) (by decide +kernel : am_Pg 147 119 = some (.if_icmp .eq 13, 3, [], 0)) (by decide),
  fun l0 l1 l2 l3 l4 l5 l6 l8 a st E u => q_go (by decide +kernel : am_Pg 147 122 = some (.iload 7, 2, [], 0)) rfl,
  fun l0 l1 l2 l3 l4 l5 l6 l7 l8 a st E u => q_go (by decide +kernel : am_Pg 147 124 = some (.istore 5, 2, [], 0)) rfl,
  fun l0 l1 l2 l3 l4 l5 l6 l7 a st E u => q_go (by decide +kernel : am_Pg 147 126 = some (.iload 8, 2, [], 0)) rfl,
  fun l0 l1 l2 l3 l4 l5 l6 l7 l8 st E u => q_go (by decide +kernel : am_Pg 147 128 = some (.iconst 1, 1, [], 0)) rfl,
  fun l0 l1 l2 l3 l4 l5 l6 l7 l8 a b st E u => q_go (by decide +kernel : am_Pg 147 129 = some (.isub, 1, [], 0)) rfl,
  fun l0 l1 l2 l3 l4 l5 l6 l7 l8 a st E u => q_go (by decide +kernel : am_Pg 147 130 = some (.istore 6, 2, [], 0)) rfl,
  fun l0 l1 l2 l3 l4 l5 l6 l8 a st E u => q_go (by decide +kernel : am_Pg 147 132 = some (.iinc 7 1, 3, [], 0)) rfl,
  fun l0 l1 l2 l3 l4 l5 l6 l7 l8 st E u => q_go (by decide +kernel : am_Pg 147 135 = some (.goto (-124), 3, [], 0)) rfl,
  fun l0 l1 l2 l3 l4 l6 l7 l8 a st E u => q_go (by decide +kernel : am_Pg 147 138 = some (.iload 5, 2, [], 0)) rfl,
  fun l0 l1 l2 l3 l4 l5 l6 l7 l8 st E u => q_go (by decide +kernel : am_Pg 147 140 = some (.bipush (-4), 2, [], 0)) rfl,
  fun l0 l1 l2 l3 l4 l5 l6 l7 l8 a b st E u => q_icmp_eq (tgt := 149) (by decide +kernel : am_Pg 147 142 = some (.if_icmp .eq 7, 3, [], 0)) (by decide),
  fun l0 l1 l2 l4 l5 l6 l7 l8 a st E u => q_go (by decide +kernel : am_Pg 147 145 = some (.iload_n 3, 1, [], 0)) rfl,
  fun l0 l1 l2 l3 l4 l5 l6 l7 l8 a st E u => q_if_ne (tgt := 154) (by decide +kernel : am_Pg 147 146 = some (.ifCond .ne 8, 3, [], 0)) (by decide),
  fun l0 l1 l2 l3 l4 l6 l7 l8 a st E u => q_go (by decide +kernel : am_Pg 147 149 = some (.iload 5, 2, [], 0)) rfl,
  fun l0 l1 l2 l3 l4 l5 l6 l7 l8 st E u => q_go (by decide +kernel : am_Pg 147 151 = some (.goto 7, 3, [], 0)) rfl,
  fun l0 l1 l2 l3 l4 l5 l7 l8 a st E u => q_go (by decide +kernel : am_Pg 147 154 = some (.iload 6, 2, [], 0)) rfl,
  fun l0 l1 l2 l3 l4 l5 l6 l7 l8 st E u => q_go (by decide +kernel : am_Pg 147 156 = some (.iconst 1, 1, [], 0)) rfl,
  fun l0 l1 l2 l3 l4 l5 l6 l7 l8 a b st E u => q_go (by decide +kernel : am_Pg 147 157 = some (.iadd, 1, [], 0)) rfl,
  fun l0 l1 l2 l3 l4 l5 l6 l7 l8 a E u => q_ret (by decide +kernel : am_Pg 147 158 = some (.ireturn, 1, [], 0)) rfl⟩
theorem x_A_hole :
  (∀ (l1 l2 l3 : am_V) (a : Option Nat) (st : List am_V) (E : am_E) (u : am_M), Rn m_A_hole 0 [vR a, l1, l2, l3] st E u = Rn m_A_hole 1 [vR a, l1, l2, l3] (vR a :: st) E u) ∧
  (∀ (l0 l1 l2 l3 : am_V) (st : List am_V) (E : am_E) (u : am_M) (hE : SE E), Rn m_A_hole 1 [l0, l1, l2, l3] (vR (some 0) :: st) E u = Rn m_A_hole 4 [l0, l1, l2, l3] (vR (some 1) :: st) E u) ∧
  (∀ (l0 l2 l3 : am_V) (a : Int) (st : List am_V) (E : am_E) (u : am_M), Rn m_A_hole 4 [l0, vI a, l2, l3] st E u = Rn m_A_hole 5 [l0, vI a, l2, l3] (vI a :: st) E u) ∧
  (∀ (l0 l1 l2 l3 : am_V) (a0 : Int) (E : am_E) (u : am_M) (hE : SE E), Rn m_A_hole 5 [l0, l1, l2, l3] [vI a0, vR (some 1)] E u = bdI (Rn m_C_isPin 0 [vR (some 1), vI a0] [] E u) (KI m_A_hole 8 [l0, l1, l2, l3] [])) ∧
  (∀ (l0 l1 l2 l3 : am_V) (a0 : Int) (E : am_E) (u : am_M) (hE : SE E), Rn m_A_hole 5 [l0, l1, l2, l3] [vI a0, vR (some 8)] E u = bdI (Rn m_C_isPin 0 [vR (some 8), vI a0] [] E u) (KI m_A_hole 8 [l0, l1, l2, l3] [])) ∧
  (∀ (l0 l1 l2 l3 : am_V) (a0 : Int) (E : am_E) (u : am_M) (hE : SE E), Rn m_A_hole 5 [l0, l1, l2, l3] [vI a0, vR (some 73)] E u = bdI (Rn m_C_isPin 0 [vR (some 73), vI a0] [] E u) (KI m_A_hole 8 [l0, l1, l2, l3] [])) ∧
  (∀ (l0 l1 l2 l3 : am_V) (a : Int) (st : List am_V) (E : am_E) (u : am_M), Rn m_A_hole 8 [l0, l1, l2, l3] (vI a :: st) E u = if a = 0 then Rn m_A_hole 31 [l0, l1, l2, l3] st E u else Rn m_A_hole 11 [l0, l1, l2, l3] st E u) ∧
  (∀ (l1 l2 l3 : am_V) (a : Option Nat) (st : List am_V) (E : am_E) (u : am_M), Rn m_A_hole 11 [vR a, l1, l2, l3] st E u = Rn m_A_hole 12 [vR a, l1, l2, l3] (vR a :: st) E u) ∧
  (∀ (l0 l1 l2 l3 : am_V) (st : List am_V) (E : am_E) (u : am_M) (hE : SE E), Rn m_A_hole 12 [l0, l1, l2, l3] (vR (some 0) :: st) E u = Rn m_A_hole 15 [l0, l1, l2, l3] (vR (some 1) :: st) E u) ∧
  (∀ (l0 l1 l3 : am_V) (a : Int) (st : List am_V) (E : am_E) (u : am_M), Rn m_A_hole 15 [l0, l1, vI a, l3] st E u = Rn m_A_hole 16 [l0, l1, vI a, l3] (vI a :: st) E u) ∧
  (∀ (l0 l1 l2 l3 : am_V) (a0 : Int) (E : am_E) (u : am_M) (hE : SE E), Rn m_A_hole 16 [l0, l1, l2, l3] [vI a0, vR (some 1)] E u = bdI (Rn m_C_isCell 0 [vR (some 1), vI a0] [] E u) (KI m_A_hole 19 [l0, l1, l2, l3] [])) ∧
  (∀ (l0 l1 l2 l3 : am_V) (a0 : Int) (E : am_E) (u : am_M) (hE : SE E), Rn m_A_hole 16 [l0, l1, l2, l3] [vI a0, vR (some 8)] E u = bdI (Rn m_C_isCell 0 [vR (some 8), vI a0] [] E u) (KI m_A_hole 19 [l0, l1, l2, l3] [])) ∧
  (∀ (l0 l1 l2 l3 : am_V) (a0 : Int) (E : am_E) (u : am_M) (hE : SE E), Rn m_A_hole 16 [l0, l1, l2, l3] [vI a0, vR (some 73)] E u = bdI (Rn m_C_isCell 0 [vR (some 73), vI a0] [] E u) (KI m_A_hole 19 [l0, l1, l2, l3] [])) ∧
  (∀ (l0 l1 l2 l3 : am_V) (a : Int) (st : List am_V) (E : am_E) (u : am_M), Rn m_A_hole 19 [l0, l1, l2, l3] (vI a :: st) E u = if a = 0 then Rn m_A_hole 31 [l0, l1, l2, l3] st E u else Rn m_A_hole 22 [l0, l1, l2, l3] st E u) ∧
  (∀ (l0 l1 l2 : am_V) (a : Int) (st : List am_V) (E : am_E) (u : am_M), Rn m_A_hole 22 [l0, l1, l2, vI a] st E u = Rn m_A_hole 23 [l0, l1, l2, vI a] (vI a :: st) E u) ∧
  (∀ (l0 l1 l2 l3 : am_V) (st : List am_V) (E : am_E) (u : am_M), Rn m_A_hole 23 [l0, l1, l2, l3] st E u = Rn m_A_hole 24 [l0, l1, l2, l3] (vI 0 :: st) E u) ∧
  (∀ (l0 l1 l2 l3 : am_V) (st : List am_V) (E : am_E) (u : am_M), Rn m_A_hole 24 [l0, l1, l2, l3] st E u = Rn m_A_hole 25 [l0, l1, l2, l3] (vI 1 :: st) E u) ∧
  (∀ (l0 l1 l2 l3 : am_V) (a0 : Int) (a1 : Int) (a2 : Int) (E : am_E) (u : am_M), Rn m_A_hole 25 [l0, l1, l2, l3] [vI a2, vI a1, vI a0] E u = bdI (Rn m_A_isIn 0 [vI a0, vI a1, vI a2] [] E u) (KI m_A_hole 28 [l0, l1, l2, l3] [])) ∧
  (∀ (l0 l1 l2 l3 : am_V) (a : Int) (st : List am_V) (E : am_E) (u : am_M), Rn m_A_hole 28 [l0, l1, l2, l3] (vI a :: st) E u = if a = 0 then Rn m_A_hole 31 [l0, l1, l2, l3] st E u else Rn m_A_hole 33 [l0, l1, l2, l3] st E u) ∧
  (∀ (l0 l1 l2 l3 : am_V) (st : List am_V) (E : am_E) (u : am_M), Rn m_A_hole 31 [l0, l1, l2, l3] st E u = Rn m_A_hole 32 [l0, l1, l2, l3] (vI (-1) :: st) E u) ∧
  (∀ (l0 l1 l2 l3 : am_V) (a : Int) (E : am_E) (u : am_M), Rn m_A_hole 32 [l0, l1, l2, l3] [vI a] E u = some (some (vI a), E, u)) ∧
  (∀ (l1 l2 l3 : am_V) (a : Option Nat) (st : List am_V) (E : am_E) (u : am_M), Rn m_A_hole 33 [vR a, l1, l2, l3] st E u = Rn m_A_hole 34 [vR a, l1, l2, l3] (vR a :: st) E u) ∧
  (∀ (l0 l2 l3 : am_V) (a : Int) (st : List am_V) (E : am_E) (u : am_M), Rn m_A_hole 34 [l0, vI a, l2, l3] st E u = Rn m_A_hole 35 [l0, vI a, l2, l3] (vI a :: st) E u) ∧
  (∀ (l0 l1 l3 : am_V) (a : Int) (st : List am_V) (E : am_E) (u : am_M), Rn m_A_hole 35 [l0, l1, vI a, l3] st E u = Rn m_A_hole 36 [l0, l1, vI a, l3] (vI a :: st) E u) ∧
  (∀ (l0 l1 l2 : am_V) (a : Int) (st : List am_V) (E : am_E) (u : am_M), Rn m_A_hole 36 [l0, l1, l2, vI a] st E u = Rn m_A_hole 37 [l0, l1, l2, vI a] (vI a :: st) E u) ∧
  (∀ (l0 l1 l2 l3 : am_V) (st : List am_V) (E : am_E) (u : am_M), Rn m_A_hole 37 [l0, l1, l2, l3] st E u = Rn m_A_hole 38 [l0, l1, l2, l3] (vI 0 :: st) E u) ∧
  (∀ (l0 l1 l2 l3 : am_V) (a0 : Int) (a1 : Int) (a2 : Int) (a3 : Int) (E : am_E) (u : am_M) (hE : SE E), Rn m_A_hole 38 [l0, l1, l2, l3] [vI a3, vI a2, vI a1, vI a0, vR (some 0)] E u = bdI (Rn m_A_bestCell 0 [vR (some 0), vI a0, vI a1, vI a2, vI a3, vB false, vB false, vB false, vB false] [] E u) (KI m_A_hole 41 [l0, l1, l2, l3] [])) ∧
  (∀ (l0 l1 l2 l3 : am_V) (a : Int) (E : am_E) (u : am_M), Rn m_A_hole 41 [l0, l1, l2, l3] [vI a] E u = some (some (vI a), E, u)) :=
  ⟨fun l1 l2 l3 a st E u => q_go (by decide +kernel : am_Pg 148 0 = some (.aload_n 0, 1, [], 0)) rfl,
  fun l0 l1 l2 l3 st E u hE => q_gfR (by decide +kernel : am_Pg 148 1 = some (.getfield 12, 3, [4, 8, 0, 0], 0)) (SE_k4 hE) rfl (SE_r4_0 hE),
  fun l0 l2 l3 a st E u => q_go (by decide +kernel : am_Pg 148 4 = some (.iload_n 1, 1, [], 0)) rfl,
  fun l0 l1 l2 l3 a0  E u hE => q_cI (by decide +kernel : am_Pg 148 5 = some (.invokevirtual 87, 3, [3, 29, 2, 0, 14, 1], 0)) (am_call_V (a := [vI a0]) (st' := []) (Nat.le_of_ble_eq_true rfl) rfl (SE_k0 hE cuB_1)) (by decide +kernel : am_Lm m_C_isPin = 2) (Nat.le_of_ble_eq_true rfl) rfl (by decide +kernel),
  fun l0 l1 l2 l3 a0  E u hE => q_cI (by decide +kernel : am_Pg 148 5 = some (.invokevirtual 87, 3, [3, 29, 2, 0, 14, 1], 0)) (am_call_V (a := [vI a0]) (st' := []) (Nat.le_of_ble_eq_true rfl) rfl (SE_k0 hE cuB_8)) (by decide +kernel : am_Lm m_C_isPin = 2) (Nat.le_of_ble_eq_true rfl) rfl (by decide +kernel),
  fun l0 l1 l2 l3 a0  E u hE => q_cI (by decide +kernel : am_Pg 148 5 = some (.invokevirtual 87, 3, [3, 29, 2, 0, 14, 1], 0)) (am_call_V (a := [vI a0]) (st' := []) (Nat.le_of_ble_eq_true rfl) rfl (SE_k0 hE cuB_73)) (by decide +kernel : am_Lm m_C_isPin = 2) (Nat.le_of_ble_eq_true rfl) rfl (by decide +kernel),
  fun l0 l1 l2 l3 a st E u => q_if_eq (tgt := 31) (by decide +kernel : am_Pg 148 8 = some (.ifCond .eq 23, 3, [], 0)) (by decide),
  fun l1 l2 l3 a st E u => q_go (by decide +kernel : am_Pg 148 11 = some (.aload_n 0, 1, [], 0)) rfl,
  fun l0 l1 l2 l3 st E u hE => q_gfR (by decide +kernel : am_Pg 148 12 = some (.getfield 12, 3, [4, 8, 0, 0], 0)) (SE_k4 hE) rfl (SE_r4_0 hE),
  fun l0 l1 l3 a st E u => q_go (by decide +kernel : am_Pg 148 15 = some (.iload_n 2, 1, [], 0)) rfl,
  fun l0 l1 l2 l3 a0  E u hE => q_cI (by decide +kernel : am_Pg 148 16 = some (.invokevirtual 61, 3, [3, 16, 2, 0, 14, 1], 0)) (am_call_V (a := [vI a0]) (st' := []) (Nat.le_of_ble_eq_true rfl) rfl (SE_k0 hE cuB_1)) (by decide +kernel : am_Lm m_C_isCell = 2) (Nat.le_of_ble_eq_true rfl) rfl (by decide +kernel),
  fun l0 l1 l2 l3 a0  E u hE => q_cI (by decide +kernel : am_Pg 148 16 = some (.invokevirtual 61, 3, [3, 16, 2, 0, 14, 1], 0)) (am_call_V (a := [vI a0]) (st' := []) (Nat.le_of_ble_eq_true rfl) rfl (SE_k0 hE cuB_8)) (by decide +kernel : am_Lm m_C_isCell = 2) (Nat.le_of_ble_eq_true rfl) rfl (by decide +kernel),
  fun l0 l1 l2 l3 a0  E u hE => q_cI (by decide +kernel : am_Pg 148 16 = some (.invokevirtual 61, 3, [3, 16, 2, 0, 14, 1], 0)) (am_call_V (a := [vI a0]) (st' := []) (Nat.le_of_ble_eq_true rfl) rfl (SE_k0 hE cuB_73)) (by decide +kernel : am_Lm m_C_isCell = 2) (Nat.le_of_ble_eq_true rfl) rfl (by decide +kernel),
  fun l0 l1 l2 l3 a st E u => q_if_eq (tgt := 31) (by decide +kernel : am_Pg 148 19 = some (.ifCond .eq 12, 3, [], 0)) (by decide),
  fun l0 l1 l2 a st E u => q_go (by decide +kernel : am_Pg 148 22 = some (.iload_n 3, 1, [], 0)) rfl,
  fun l0 l1 l2 l3 st E u => q_go (by decide +kernel : am_Pg 148 23 = some (.iconst 0, 1, [], 0)) rfl,
  fun l0 l1 l2 l3 st E u => q_go (by decide +kernel : am_Pg 148 24 = some (.iconst 1, 1, [], 0)) rfl,
  fun l0 l1 l2 l3 a0 a1 a2  E u => q_cI (by decide +kernel : am_Pg 148 25 = some (.invokestatic 46, 3, [2, 8, 3, 0], 0)) (am_call_S (f := fun _ _ => true) (a := [vI a0, vI a1, vI a2]) (st' := []) (Nat.le_of_ble_eq_true rfl) rfl rfl) (by decide +kernel : am_Lm m_A_isIn = 3) (Nat.le_of_ble_eq_true rfl) rfl (by decide +kernel),
  fun l0 l1 l2 l3 a st E u => q_if_ne (tgt := 33) (by decide +kernel : am_Pg 148 28 = some (.ifCond .ne 5, 3, [], 0)) (by decide),
  fun l0 l1 l2 l3 st E u => q_go (by decide +kernel : am_Pg 148 31 = some (.iconst (-1), 1, [], 0)) rfl,
  fun l0 l1 l2 l3 a E u => q_ret (by decide +kernel : am_Pg 148 32 = some (.ireturn, 1, [], 0)) rfl,
  fun l1 l2 l3 a st E u => q_go (by decide +kernel : am_Pg 148 33 = some (.aload_n 0, 1, [], 0)) rfl,
  fun l0 l2 l3 a st E u => q_go (by decide +kernel : am_Pg 148 34 = some (.iload_n 1, 1, [], 0)) rfl,
  fun l0 l1 l3 a st E u => q_go (by decide +kernel : am_Pg 148 35 = some (.iload_n 2, 1, [], 0)) rfl,
  fun l0 l1 l2 a st E u => q_go (by decide +kernel : am_Pg 148 36 = some (.iload_n 3, 1, [], 0)) rfl,
  fun l0 l1 l2 l3 st E u => q_go (by decide +kernel : am_Pg 148 37 = some (.iconst 0, 1, [], 0)) rfl,
  fun l0 l1 l2 l3 a0 a1 a2 a3  E u hE => q_cI (by decide +kernel : am_Pg 148 38 = some (.invokevirtual 202, 3, [3, 147, 5, 4, 8, 0], 0)) (am_call_V (a := [vI a0, vI a1, vI a2, vI a3]) (st' := []) (Nat.le_of_ble_eq_true rfl) rfl (SE_k4 hE)) (by decide +kernel : am_Lm m_A_bestCell = 9) (Nat.le_of_ble_eq_true rfl) rfl (by decide +kernel),
  fun l0 l1 l2 l3 a E u => q_ret (by decide +kernel : am_Pg 148 41 = some (.ireturn, 1, [], 0)) rfl⟩
theorem h_A_cuts_45 : ∀ (l0 l1 l2 l3 l4 l6 : am_V) (a : Int) (st : List am_V) (E : am_E) (u : am_M), Rn m_A_cuts 45 [l0, l1, l2, l3, l4, vI a, l6] st E u = Rn m_A_cuts 47 [l0, l1, l2, l3, l4, vI a, l6] (vI a :: st) E u :=
  fun l0 l1 l2 l3 l4 l6 a st E u => q_go (by decide +kernel : am_Pg 153 45 = some (.iload 5, 2, [], 0)) rfl
theorem h_A_cuts_60 : ∀ (l0 l1 l2 l3 l4 l5 : am_V) (a : Int) (st : List am_V) (E : am_E) (u : am_M), Rn m_A_cuts 60 [l0, l1, l2, l3, l4, l5, vI a] st E u = Rn m_A_cuts 62 [l0, l1, l2, l3, l4, l5, vI a] (vI a :: st) E u :=
  fun l0 l1 l2 l3 l4 l5 a st E u => q_go (by decide +kernel : am_Pg 153 60 = some (.iload 6, 2, [], 0)) rfl
theorem x_A_cuts :
  (∀ (l1 l2 l3 l4 l5 l6 : am_V) (a : Option Nat) (st : List am_V) (E : am_E) (u : am_M), Rn m_A_cuts 0 [vR a, l1, l2, l3, l4, l5, l6] st E u = Rn m_A_cuts 1 [vR a, l1, l2, l3, l4, l5, l6] (vR a :: st) E u) ∧
  (∀ (l0 l1 l2 l3 l4 l5 l6 : am_V) (st : List am_V) (E : am_E) (u : am_M) (hE : SE E), Rn m_A_cuts 1 [l0, l1, l2, l3, l4, l5, l6] (vR (some 0) :: st) E u = Rn m_A_cuts 4 [l0, l1, l2, l3, l4, l5, l6] (vR (some 1) :: st) E u) ∧
  (∀ (l0 l2 l3 l4 l5 l6 : am_V) (a : Int) (st : List am_V) (E : am_E) (u : am_M), Rn m_A_cuts 4 [l0, vI a, l2, l3, l4, l5, l6] st E u = Rn m_A_cuts 5 [l0, vI a, l2, l3, l4, l5, l6] (vI a :: st) E u) ∧
  (∀ (l0 l1 l2 l3 l4 l5 l6 : am_V) (a0 : Int) (E : am_E) (u : am_M) (hE : SE E), Rn m_A_cuts 5 [l0, l1, l2, l3, l4, l5, l6] [vI a0, vR (some 1)] E u = bdI (Rn m_C_isPin 0 [vR (some 1), vI a0] [] E u) (KI m_A_cuts 8 [l0, l1, l2, l3, l4, l5, l6] [])) ∧
  (∀ (l0 l1 l2 l3 l4 l5 l6 : am_V) (a0 : Int) (E : am_E) (u : am_M) (hE : SE E), Rn m_A_cuts 5 [l0, l1, l2, l3, l4, l5, l6] [vI a0, vR (some 8)] E u = bdI (Rn m_C_isPin 0 [vR (some 8), vI a0] [] E u) (KI m_A_cuts 8 [l0, l1, l2, l3, l4, l5, l6] [])) ∧
  (∀ (l0 l1 l2 l3 l4 l5 l6 : am_V) (a0 : Int) (E : am_E) (u : am_M) (hE : SE E), Rn m_A_cuts 5 [l0, l1, l2, l3, l4, l5, l6] [vI a0, vR (some 73)] E u = bdI (Rn m_C_isPin 0 [vR (some 73), vI a0] [] E u) (KI m_A_cuts 8 [l0, l1, l2, l3, l4, l5, l6] [])) ∧
  (∀ (l0 l1 l2 l3 l4 l5 l6 : am_V) (a : Int) (st : List am_V) (E : am_E) (u : am_M), Rn m_A_cuts 8 [l0, l1, l2, l3, l4, l5, l6] (vI a :: st) E u = if a = 0 then Rn m_A_cuts 31 [l0, l1, l2, l3, l4, l5, l6] st E u else Rn m_A_cuts 11 [l0, l1, l2, l3, l4, l5, l6] st E u) ∧
  (∀ (l1 l2 l3 l4 l5 l6 : am_V) (a : Option Nat) (st : List am_V) (E : am_E) (u : am_M), Rn m_A_cuts 11 [vR a, l1, l2, l3, l4, l5, l6] st E u = Rn m_A_cuts 12 [vR a, l1, l2, l3, l4, l5, l6] (vR a :: st) E u) ∧
  (∀ (l0 l1 l2 l3 l4 l5 l6 : am_V) (st : List am_V) (E : am_E) (u : am_M) (hE : SE E), Rn m_A_cuts 12 [l0, l1, l2, l3, l4, l5, l6] (vR (some 0) :: st) E u = Rn m_A_cuts 15 [l0, l1, l2, l3, l4, l5, l6] (vR (some 1) :: st) E u) ∧
  (∀ (l0 l1 l3 l4 l5 l6 : am_V) (a : Int) (st : List am_V) (E : am_E) (u : am_M), Rn m_A_cuts 15 [l0, l1, vI a, l3, l4, l5, l6] st E u = Rn m_A_cuts 16 [l0, l1, vI a, l3, l4, l5, l6] (vI a :: st) E u) ∧
  (∀ (l0 l1 l2 l3 l4 l5 l6 : am_V) (a0 : Int) (E : am_E) (u : am_M) (hE : SE E), Rn m_A_cuts 16 [l0, l1, l2, l3, l4, l5, l6] [vI a0, vR (some 1)] E u = bdI (Rn m_C_isCell 0 [vR (some 1), vI a0] [] E u) (KI m_A_cuts 19 [l0, l1, l2, l3, l4, l5, l6] [])) ∧
  (∀ (l0 l1 l2 l3 l4 l5 l6 : am_V) (a0 : Int) (E : am_E) (u : am_M) (hE : SE E), Rn m_A_cuts 16 [l0, l1, l2, l3, l4, l5, l6] [vI a0, vR (some 8)] E u = bdI (Rn m_C_isCell 0 [vR (some 8), vI a0] [] E u) (KI m_A_cuts 19 [l0, l1, l2, l3, l4, l5, l6] [])) ∧
  (∀ (l0 l1 l2 l3 l4 l5 l6 : am_V) (a0 : Int) (E : am_E) (u : am_M) (hE : SE E), Rn m_A_cuts 16 [l0, l1, l2, l3, l4, l5, l6] [vI a0, vR (some 73)] E u = bdI (Rn m_C_isCell 0 [vR (some 73), vI a0] [] E u) (KI m_A_cuts 19 [l0, l1, l2, l3, l4, l5, l6] [])) ∧
  (∀ (l0 l1 l2 l3 l4 l5 l6 : am_V) (a : Int) (st : List am_V) (E : am_E) (u : am_M), Rn m_A_cuts 19 [l0, l1, l2, l3, l4, l5, l6] (vI a :: st) E u = if a = 0 then Rn m_A_cuts 31 [l0, l1, l2, l3, l4, l5, l6] st E u else Rn m_A_cuts 22 [l0, l1, l2, l3, l4, l5, l6] st E u) ∧
  (∀ (l0 l1 l2 l4 l5 l6 : am_V) (a : Int) (st : List am_V) (E : am_E) (u : am_M), Rn m_A_cuts 22 [l0, l1, l2, vI a, l4, l5, l6] st E u = Rn m_A_cuts 23 [l0, l1, l2, vI a, l4, l5, l6] (vI a :: st) E u) ∧
  (∀ (l0 l1 l2 l3 l4 l5 l6 : am_V) (st : List am_V) (E : am_E) (u : am_M), Rn m_A_cuts 23 [l0, l1, l2, l3, l4, l5, l6] st E u = Rn m_A_cuts 24 [l0, l1, l2, l3, l4, l5, l6] (vI 0 :: st) E u) ∧
  (∀ (l0 l1 l2 l3 l4 l5 l6 : am_V) (st : List am_V) (E : am_E) (u : am_M), Rn m_A_cuts 24 [l0, l1, l2, l3, l4, l5, l6] st E u = Rn m_A_cuts 25 [l0, l1, l2, l3, l4, l5, l6] (vI 1 :: st) E u) ∧
  (∀ (l0 l1 l2 l3 l4 l5 l6 : am_V) (a0 : Int) (a1 : Int) (a2 : Int) (E : am_E) (u : am_M), Rn m_A_cuts 25 [l0, l1, l2, l3, l4, l5, l6] [vI a2, vI a1, vI a0] E u = bdI (Rn m_A_isIn 0 [vI a0, vI a1, vI a2] [] E u) (KI m_A_cuts 28 [l0, l1, l2, l3, l4, l5, l6] [])) ∧
  (∀ (l0 l1 l2 l3 l4 l5 l6 : am_V) (a : Int) (st : List am_V) (E : am_E) (u : am_M), Rn m_A_cuts 28 [l0, l1, l2, l3, l4, l5, l6] (vI a :: st) E u = if a = 0 then Rn m_A_cuts 31 [l0, l1, l2, l3, l4, l5, l6] st E u else Rn m_A_cuts 33 [l0, l1, l2, l3, l4, l5, l6] st E u) ∧
  (∀ (l0 l1 l2 l3 l4 l5 l6 : am_V) (st : List am_V) (E : am_E) (u : am_M), Rn m_A_cuts 31 [l0, l1, l2, l3, l4, l5, l6] st E u = Rn m_A_cuts 32 [l0, l1, l2, l3, l4, l5, l6] (vI (-1) :: st) E u) ∧
  (∀ (l0 l1 l2 l3 l4 l5 l6 : am_V) (a : Int) (E : am_E) (u : am_M), Rn m_A_cuts 32 [l0, l1, l2, l3, l4, l5, l6] [vI a] E u = some (some (vI a), E, u)) ∧
  (∀ (l1 l2 l3 l4 l5 l6 : am_V) (a : Option Nat) (st : List am_V) (E : am_E) (u : am_M), Rn m_A_cuts 33 [vR a, l1, l2, l3, l4, l5, l6] st E u = Rn m_A_cuts 34 [vR a, l1, l2, l3, l4, l5, l6] (vR a :: st) E u) ∧
  (∀ (l0 l1 l2 l3 l4 l5 l6 : am_V) (st : List am_V) (E : am_E) (u : am_M) (hE : SE E), Rn m_A_cuts 34 [l0, l1, l2, l3, l4, l5, l6] (vR (some 0) :: st) E u = Rn m_A_cuts 37 [l0, l1, l2, l3, l4, l5, l6] (vR (some 1) :: st) E u) ∧
  (∀ (l0 l1 l2 l3 l4 l5 l6 : am_V) (E : am_E) (u : am_M) (hE : SE E), Rn m_A_cuts 37 [l0, l1, l2, l3, l4, l5, l6] [vR (some 1)] E u = bdI (Rn m_C_uncutSet 0 [vR (some 1)] [] E u) (KI m_A_cuts 40 [l0, l1, l2, l3, l4, l5, l6] [])) ∧
  (∀ (l0 l1 l2 l3 l4 l5 l6 : am_V) (E : am_E) (u : am_M) (hE : SE E), Rn m_A_cuts 37 [l0, l1, l2, l3, l4, l5, l6] [vR (some 8)] E u = bdI (Rn m_C_uncutSet 0 [vR (some 8)] [] E u) (KI m_A_cuts 40 [l0, l1, l2, l3, l4, l5, l6] [])) ∧
  (∀ (l0 l1 l2 l3 l4 l5 l6 : am_V) (E : am_E) (u : am_M) (hE : SE E), Rn m_A_cuts 37 [l0, l1, l2, l3, l4, l5, l6] [vR (some 73)] E u = bdI (Rn m_C_uncutSet 0 [vR (some 73)] [] E u) (KI m_A_cuts 40 [l0, l1, l2, l3, l4, l5, l6] [])) ∧
  (∀ (l0 l1 l2 l3 l4 l5 l6 : am_V) (a : Int) (st : List am_V) (E : am_E) (u : am_M), Rn m_A_cuts 40 [l0, l1, l2, l3, l4, l5, l6] (vI a :: st) E u = Rn m_A_cuts 42 [l0, l1, l2, am_fx l3, vI a, l5, l6] st E u) ∧
  (∀ (l0 l1 l2 l3 l4 l5 l6 : am_V) (st : List am_V) (E : am_E) (u : am_M), Rn m_A_cuts 42 [l0, l1, l2, l3, l4, l5, l6] st E u = Rn m_A_cuts 43 [l0, l1, l2, l3, l4, l5, l6] (vI 0 :: st) E u) ∧
  (∀ (l0 l1 l2 l3 l4 l5 l6 : am_V) (a : Int) (st : List am_V) (E : am_E) (u : am_M), Rn m_A_cuts 43 [l0, l1, l2, l3, l4, l5, l6] (vI a :: st) E u = Rn m_A_cuts 45 [l0, l1, l2, l3, am_fx l4, vI a, l6] st E u) ∧
  (∀ (l1 l2 l3 l4 l5 l6 : am_V) (a : Option Nat) (st : List am_V) (E : am_E) (u : am_M), Rn m_A_cuts 47 [vR a, l1, l2, l3, l4, l5, l6] st E u = Rn m_A_cuts 48 [vR a, l1, l2, l3, l4, l5, l6] (vR a :: st) E u) ∧
  (∀ (l0 l1 l2 l3 l4 l5 l6 : am_V) (st : List am_V) (E : am_E) (u : am_M) (hE : SE E), Rn m_A_cuts 48 [l0, l1, l2, l3, l4, l5, l6] (vR (some 0) :: st) E u = Rn m_A_cuts 51 [l0, l1, l2, l3, l4, l5, l6] (vR (some 1) :: st) E u) ∧
  (∀ (l0 l1 l2 l3 l4 l5 l6 : am_V) (st : List am_V) (E : am_E) (u : am_M) (hE : SE E), Rn m_A_cuts 51 [l0, l1, l2, l3, l4, l5, l6] (vR (some 1) :: st) E u = Rn m_A_cuts 54 [l0, l1, l2, l3, l4, l5, l6] (vI (u 1 3) :: st) E u) ∧
  (∀ (l0 l1 l2 l3 l4 l5 l6 : am_V) (st : List am_V) (E : am_E) (u : am_M) (hE : SE E), Rn m_A_cuts 51 [l0, l1, l2, l3, l4, l5, l6] (vR (some 8) :: st) E u = Rn m_A_cuts 54 [l0, l1, l2, l3, l4, l5, l6] (vI (u 8 3) :: st) E u) ∧
  (∀ (l0 l1 l2 l3 l4 l5 l6 : am_V) (st : List am_V) (E : am_E) (u : am_M) (hE : SE E), Rn m_A_cuts 51 [l0, l1, l2, l3, l4, l5, l6] (vR (some 73) :: st) E u = Rn m_A_cuts 54 [l0, l1, l2, l3, l4, l5, l6] (vI (u 73 3) :: st) E u) ∧
  (∀ (l0 l1 l2 l3 l4 l5 l6 : am_V) (a b : Int) (st : List am_V) (E : am_E) (u : am_M), Rn m_A_cuts 54 [l0, l1, l2, l3, l4, l5, l6] (vI b :: vI a :: st) E u = if b < a then Rn m_A_cuts 140 [l0, l1, l2, l3, l4, l5, l6] st E u else Rn m_A_cuts 57 [l0, l1, l2, l3, l4, l5, l6] st E u) ∧
  (∀ (l0 l1 l2 l3 l4 l5 l6 : am_V) (st : List am_V) (E : am_E) (u : am_M), Rn m_A_cuts 57 [l0, l1, l2, l3, l4, l5, l6] st E u = Rn m_A_cuts 58 [l0, l1, l2, l3, l4, l5, l6] (vI 0 :: st) E u) ∧
  (∀ (l0 l1 l2 l3 l4 l5 l6 : am_V) (a : Int) (st : List am_V) (E : am_E) (u : am_M), Rn m_A_cuts 58 [l0, l1, l2, l3, l4, l5, l6] (vI a :: st) E u = Rn m_A_cuts 60 [l0, l1, l2, l3, l4, am_fx l5, vI a] st E u) ∧
  (∀ (l0 l1 l2 l3 l5 l6 : am_V) (a : Int) (st : List am_V) (E : am_E) (u : am_M), Rn m_A_cuts 62 [l0, l1, l2, l3, vI a, l5, l6] st E u = Rn m_A_cuts 64 [l0, l1, l2, l3, vI a, l5, l6] (vI a :: st) E u) ∧
  (∀ (l0 l1 l2 l3 l4 l5 l6 : am_V) (a b : Int) (st : List am_V) (E : am_E) (u : am_M), Rn m_A_cuts 64 [l0, l1, l2, l3, l4, l5, l6] (vI b :: vI a :: st) E u = if b < a then Rn m_A_cuts 134 [l0, l1, l2, l3, l4, l5, l6] st E u else Rn m_A_cuts 67 [l0, l1, l2, l3, l4, l5, l6] st E u) ∧
  (∀ (l0 l1 l2 l3 l4 l5 : am_V) (a : Int) (st : List am_V) (E : am_E) (u : am_M), Rn m_A_cuts 67 [l0, l1, l2, l3, l4, l5, vI a] st E u = Rn m_A_cuts 69 [l0, l1, l2, l3, l4, l5, vI a] (vI a :: st) E u) ∧
  (∀ (l0 l1 l2 l3 l5 l6 : am_V) (a : Int) (st : List am_V) (E : am_E) (u : am_M), Rn m_A_cuts 69 [l0, l1, l2, l3, vI a, l5, l6] st E u = Rn m_A_cuts 71 [l0, l1, l2, l3, vI a, l5, l6] (vI a :: st) E u) ∧
  (∀ (l0 l1 l2 l3 l4 l5 l6 : am_V) (st : List am_V) (E : am_E) (u : am_M), Rn m_A_cuts 71 [l0, l1, l2, l3, l4, l5, l6] st E u = Rn m_A_cuts 72 [l0, l1, l2, l3, l4, l5, l6] (vI (-1) :: st) E u) ∧
  (∀ (l0 l1 l2 l3 l4 l5 l6 : am_V) (a b : Int) (st : List am_V) (E : am_E) (u : am_M), Rn m_A_cuts 72 [l0, l1, l2, l3, l4, l5, l6] (vI b :: vI a :: st) E u = Rn m_A_cuts 73 [l0, l1, l2, l3, l4, l5, l6] (vI (i_xor a b) :: st) E u) ∧
  (∀ (l0 l1 l2 l3 l4 l5 l6 : am_V) (a b : Int) (st : List am_V) (E : am_E) (u : am_M), Rn m_A_cuts 73 [l0, l1, l2, l3, l4, l5, l6] (vI b :: vI a :: st) E u = Rn m_A_cuts 74 [l0, l1, l2, l3, l4, l5, l6] (vI (i_and a b) :: st) E u) ∧
  (∀ (l0 l1 l2 l3 l4 l5 l6 : am_V) (a : Int) (st : List am_V) (E : am_E) (u : am_M), Rn m_A_cuts 74 [l0, l1, l2, l3, l4, l5, l6] (vI a :: st) E u = if a = 0 then Rn m_A_cuts 77 [l0, l1, l2, l3, l4, l5, l6] st E u else Rn m_A_cuts 128 [l0, l1, l2, l3, l4, l5, l6] st E u) ∧
  (∀ (l0 l1 l2 l3 l4 l5 : am_V) (a : Int) (st : List am_V) (E : am_E) (u : am_M), Rn m_A_cuts 77 [l0, l1, l2, l3, l4, l5, vI a] st E u = Rn m_A_cuts 79 [l0, l1, l2, l3, l4, l5, vI a] (vI a :: st) E u) ∧
  (∀ (l0 l1 l2 l3 l4 l5 l6 : am_V) (a0 : Int) (E : am_E) (u : am_M), Rn m_A_cuts 79 [l0, l1, l2, l3, l4, l5, l6] [vI a0] E u = bdI (Rn m_J_bitI 0 [vI a0] [] E u) (KI m_A_cuts 82 [l0, l1, l2, l3, l4, l5, l6] [])) ∧
  (∀ (l0 l1 l2 l3 l4 l6 : am_V) (a : Int) (st : List am_V) (E : am_E) (u : am_M), Rn m_A_cuts 82 [l0, l1, l2, l3, l4, vI a, l6] st E u = Rn m_A_cuts 84 [l0, l1, l2, l3, l4, vI a, l6] (vI a :: st) E u) ∧
  (∀ (l0 l1 l2 l3 l4 l5 l6 : am_V) (a b : Int) (st : List am_V) (E : am_E) (u : am_M), Rn m_A_cuts 84 [l0, l1, l2, l3, l4, l5, l6] (vI b :: vI a :: st) E u = if a = b then Rn m_A_cuts 87 [l0, l1, l2, l3, l4, l5, l6] st E u else Rn m_A_cuts 128 [l0, l1, l2, l3, l4, l5, l6] st E u) ∧
  (∀ (l1 l2 l3 l4 l5 l6 : am_V) (a : Option Nat) (st : List am_V) (E : am_E) (u : am_M), Rn m_A_cuts 87 [vR a, l1, l2, l3, l4, l5, l6] st E u = Rn m_A_cuts 88 [vR a, l1, l2, l3, l4, l5, l6] (vR a :: st) E u) ∧
  (∀ (l0 l1 l2 l3 l4 l5 l6 : am_V) (st : List am_V) (E : am_E) (u : am_M) (hE : SE E), Rn m_A_cuts 88 [l0, l1, l2, l3, l4, l5, l6] (vR (some 0) :: st) E u = Rn m_A_cuts 91 [l0, l1, l2, l3, l4, l5, l6] (vR (some 8) :: st) E u) ∧
  (∀ (l1 l2 l3 l4 l5 l6 : am_V) (a : Option Nat) (st : List am_V) (E : am_E) (u : am_M), Rn m_A_cuts 91 [vR a, l1, l2, l3, l4, l5, l6] st E u = Rn m_A_cuts 92 [vR a, l1, l2, l3, l4, l5, l6] (vR a :: st) E u) ∧
  (∀ (l0 l1 l2 l3 l4 l5 l6 : am_V) (st : List am_V) (E : am_E) (u : am_M) (hE : SE E), Rn m_A_cuts 92 [l0, l1, l2, l3, l4, l5, l6] (vR (some 0) :: st) E u = Rn m_A_cuts 95 [l0, l1, l2, l3, l4, l5, l6] (vR (some 1) :: st) E u) ∧
  (∀ (l0 l1 l2 l3 l4 l5 : am_V) (a : Int) (st : List am_V) (E : am_E) (u : am_M), Rn m_A_cuts 95 [l0, l1, l2, l3, l4, l5, vI a] st E u = Rn m_A_cuts 97 [l0, l1, l2, l3, l4, l5, vI a] (vI a :: st) E u) ∧
  (∀ (l0 l1 l2 l3 l4 l5 l6 : am_V) (a0 : Option Nat) (a1 : Int) (E : am_E) (u : am_M) (hE : SE E), Rn m_A_cuts 97 [l0, l1, l2, l3, l4, l5, l6] [vI a1, vR a0, vR (some 1)] E u = bdV (Rn m_C_becomesCut 0 [vR (some 1), vR a0, vI a1] [] E u) (KV m_A_cuts 100 [l0, l1, l2, l3, l4, l5, l6] [])) ∧
  (∀ (l0 l1 l2 l3 l4 l5 l6 : am_V) (a0 : Option Nat) (a1 : Int) (E : am_E) (u : am_M) (hE : SE E), Rn m_A_cuts 97 [l0, l1, l2, l3, l4, l5, l6] [vI a1, vR a0, vR (some 8)] E u = bdV (Rn m_C_becomesCut 0 [vR (some 8), vR a0, vI a1] [] E u) (KV m_A_cuts 100 [l0, l1, l2, l3, l4, l5, l6] [])) ∧
  (∀ (l0 l1 l2 l3 l4 l5 l6 : am_V) (a0 : Option Nat) (a1 : Int) (E : am_E) (u : am_M) (hE : SE E), Rn m_A_cuts 97 [l0, l1, l2, l3, l4, l5, l6] [vI a1, vR a0, vR (some 73)] E u = bdV (Rn m_C_becomesCut 0 [vR (some 73), vR a0, vI a1] [] E u) (KV m_A_cuts 100 [l0, l1, l2, l3, l4, l5, l6] [])) ∧
  (∀ (l1 l2 l3 l4 l5 l6 : am_V) (a : Option Nat) (st : List am_V) (E : am_E) (u : am_M), Rn m_A_cuts 100 [vR a, l1, l2, l3, l4, l5, l6] st E u = Rn m_A_cuts 101 [vR a, l1, l2, l3, l4, l5, l6] (vR a :: st) E u) ∧
  (∀ (l0 l1 l2 l3 l4 l5 l6 : am_V) (st : List am_V) (E : am_E) (u : am_M) (hE : SE E), Rn m_A_cuts 101 [l0, l1, l2, l3, l4, l5, l6] (vR (some 0) :: st) E u = Rn m_A_cuts 104 [l0, l1, l2, l3, l4, l5, l6] (vR (some 8) :: st) E u) ∧
  (∀ (l0 l2 l3 l4 l5 l6 : am_V) (a : Int) (st : List am_V) (E : am_E) (u : am_M), Rn m_A_cuts 104 [l0, vI a, l2, l3, l4, l5, l6] st E u = Rn m_A_cuts 105 [l0, vI a, l2, l3, l4, l5, l6] (vI a :: st) E u) ∧
  (∀ (l0 l1 l3 l4 l5 l6 : am_V) (a : Int) (st : List am_V) (E : am_E) (u : am_M), Rn m_A_cuts 105 [l0, l1, vI a, l3, l4, l5, l6] st E u = Rn m_A_cuts 106 [l0, l1, vI a, l3, l4, l5, l6] (vI a :: st) E u) ∧
  (∀ (l0 l1 l2 l3 l4 l5 l6 : am_V) (st : List am_V) (E : am_E) (u : am_M), Rn m_A_cuts 106 [l0, l1, l2, l3, l4, l5, l6] st E u = Rn m_A_cuts 108 [l0, l1, l2, l3, l4, l5, l6] (vI 60 :: st) E u) ∧
  (∀ (l0 l1 l2 l3 l4 l5 l6 : am_V) (a0 : Int) (a1 : Int) (a2 : Int) (E : am_E) (u : am_M) (hE : SE E), Rn m_A_cuts 108 [l0, l1, l2, l3, l4, l5, l6] [vI a2, vI a1, vI a0, vR (some 1)] E u = bdI (Rn m_C_soonest 0 [vR (some 1), vI a0, vI a1, vI a2, vB false] [] E u) (KI m_A_cuts 111 [l0, l1, l2, l3, l4, l5, l6] [])) ∧
  (∀ (l0 l1 l2 l3 l4 l5 l6 : am_V) (a0 : Int) (a1 : Int) (a2 : Int) (E : am_E) (u : am_M) (hE : SE E), Rn m_A_cuts 108 [l0, l1, l2, l3, l4, l5, l6] [vI a2, vI a1, vI a0, vR (some 8)] E u = bdI (Rn m_C_soonest 0 [vR (some 8), vI a0, vI a1, vI a2, vB false] [] E u) (KI m_A_cuts 111 [l0, l1, l2, l3, l4, l5, l6] [])) ∧
  (∀ (l0 l1 l2 l3 l4 l5 l6 : am_V) (a0 : Int) (a1 : Int) (a2 : Int) (E : am_E) (u : am_M) (hE : SE E), Rn m_A_cuts 108 [l0, l1, l2, l3, l4, l5, l6] [vI a2, vI a1, vI a0, vR (some 73)] E u = bdI (Rn m_C_soonest 0 [vR (some 73), vI a0, vI a1, vI a2, vB false] [] E u) (KI m_A_cuts 111 [l0, l1, l2, l3, l4, l5, l6] [])) ∧
  (∀ (l0 l1 l2 l3 l4 l5 l6 : am_V) (st : List am_V) (E : am_E) (u : am_M), Rn m_A_cuts 111 [l0, l1, l2, l3, l4, l5, l6] st E u = Rn m_A_cuts 113 [l0, l1, l2, l3, l4, l5, l6] (vI (-4) :: st) E u) ∧
  (∀ (l0 l1 l2 l3 l4 l5 l6 : am_V) (a b : Int) (st : List am_V) (E : am_E) (u : am_M), Rn m_A_cuts 113 [l0, l1, l2, l3, l4, l5, l6] (vI b :: vI a :: st) E u = if a = b then Rn m_A_cuts 128 [l0, l1, l2, l3, l4, l5, l6] st E u else Rn m_A_cuts 116 [l0, l1, l2, l3, l4, l5, l6] st E u) ∧
  (∀ (l0 l1 l2 l4 l5 l6 : am_V) (a : Int) (st : List am_V) (E : am_E) (u : am_M), Rn m_A_cuts 116 [l0, l1, l2, vI a, l4, l5, l6] st E u = Rn m_A_cuts 117 [l0, l1, l2, vI a, l4, l5, l6] (vI a :: st) E u) ∧
  (∀ (l0 l1 l2 l3 l4 l5 l6 : am_V) (a : Int) (st : List am_V) (E : am_E) (u : am_M), Rn m_A_cuts 117 [l0, l1, l2, l3, l4, l5, l6] (vI a :: st) E u = if a = 0 then Rn m_A_cuts 120 [l0, l1, l2, l3, l4, l5, l6] st E u else Rn m_A_cuts 125 [l0, l1, l2, l3, l4, l5, l6] st E u) ∧
  (∀ (l0 l1 l2 l3 l4 l6 : am_V) (a : Int) (st : List am_V) (E : am_E) (u : am_M), Rn m_A_cuts 120 [l0, l1, l2, l3, l4, vI a, l6] st E u = Rn m_A_cuts 122 [l0, l1, l2, l3, l4, vI a, l6] (vI a :: st) E u) ∧
  (∀ (l0 l1 l2 l3 l4 l5 l6 : am_V) (st : List am_V) (E : am_E) (u : am_M), Rn m_A_cuts 122 [l0, l1, l2, l3, l4, l5, l6] st E u = Rn m_A_cuts 127 [l0, l1, l2, l3, l4, l5, l6] st E u) ∧
  (∀ (l0 l1 l2 l3 l4 l5 : am_V) (a : Int) (st : List am_V) (E : am_E) (u : am_M), Rn m_A_cuts 125 [l0, l1, l2, l3, l4, l5, vI a] st E u = Rn m_A_cuts 127 [l0, l1, l2, l3, l4, l5, vI a] (vI a :: st) E u) ∧
  (∀ (l0 l1 l2 l3 l4 l5 l6 : am_V) (a : Int) (E : am_E) (u : am_M), Rn m_A_cuts 127 [l0, l1, l2, l3, l4, l5, l6] [vI a] E u = some (some (vI a), E, u)) ∧
  (∀ (l0 l1 l2 l3 l4 l5 : am_V) (a : Int) (st : List am_V) (E : am_E) (u : am_M), Rn m_A_cuts 128 [l0, l1, l2, l3, l4, l5, vI a] st E u = Rn m_A_cuts 131 [l0, l1, l2, l3, l4, am_fx l5, vI (w32 (a + 1))] st E u) ∧
  (∀ (l0 l1 l2 l3 l4 l5 l6 : am_V) (st : List am_V) (E : am_E) (u : am_M), Rn m_A_cuts 131 [l0, l1, l2, l3, l4, l5, l6] st E u = Rn m_A_cuts 60 [l0, l1, l2, l3, l4, l5, l6] st E u) ∧
  (∀ (l0 l1 l2 l3 l4 l6 : am_V) (a : Int) (st : List am_V) (E : am_E) (u : am_M), Rn m_A_cuts 134 [l0, l1, l2, l3, l4, vI a, l6] st E u = Rn m_A_cuts 137 [l0, l1, l2, l3, am_fx l4, vI (w32 (a + 1)), l6] st E u) ∧
  (∀ (l0 l1 l2 l3 l4 l5 l6 : am_V) (st : List am_V) (E : am_E) (u : am_M), Rn m_A_cuts 137 [l0, l1, l2, l3, l4, l5, l6] st E u = Rn m_A_cuts 45 [l0, l1, l2, l3, l4, l5, l6] st E u) ∧
  (∀ (l0 l1 l2 l3 l4 l5 l6 : am_V) (st : List am_V) (E : am_E) (u : am_M), Rn m_A_cuts 140 [l0, l1, l2, l3, l4, l5, l6] st E u = Rn m_A_cuts 142 [l0, l1, l2, l3, l4, l5, l6] (vI (-4) :: st) E u) ∧
  (∀ (l0 l1 l2 l3 l4 l5 l6 : am_V) (a : Int) (E : am_E) (u : am_M), Rn m_A_cuts 142 [l0, l1, l2, l3, l4, l5, l6] [vI a] E u = some (some (vI a), E, u)) :=
  ⟨fun l1 l2 l3 l4 l5 l6 a st E u => q_go (by decide +kernel : am_Pg 153 0 = some (.aload_n 0, 1, [], 0)) rfl,
  fun l0 l1 l2 l3 l4 l5 l6 st E u hE => q_gfR (by decide +kernel : am_Pg 153 1 = some (.getfield 12, 3, [4, 8, 0, 0], 0)) (SE_k4 hE) rfl (SE_r4_0 hE),
  fun l0 l2 l3 l4 l5 l6 a st E u => q_go (by decide +kernel : am_Pg 153 4 = some (.iload_n 1, 1, [], 0)) rfl,
  fun l0 l1 l2 l3 l4 l5 l6 a0  E u hE => q_cI (by decide +kernel : am_Pg 153 5 = some (.invokevirtual 87, 3, [3, 29, 2, 0, 14, 1], 0)) (am_call_V (a := [vI a0]) (st' := []) (Nat.le_of_ble_eq_true rfl) rfl (SE_k0 hE cuB_1)) (by decide +kernel : am_Lm m_C_isPin = 2) (Nat.le_of_ble_eq_true rfl) rfl (by decide +kernel),
  fun l0 l1 l2 l3 l4 l5 l6 a0  E u hE => q_cI (by decide +kernel : am_Pg 153 5 = some (.invokevirtual 87, 3, [3, 29, 2, 0, 14, 1], 0)) (am_call_V (a := [vI a0]) (st' := []) (Nat.le_of_ble_eq_true rfl) rfl (SE_k0 hE cuB_8)) (by decide +kernel : am_Lm m_C_isPin = 2) (Nat.le_of_ble_eq_true rfl) rfl (by decide +kernel),
  fun l0 l1 l2 l3 l4 l5 l6 a0  E u hE => q_cI (by decide +kernel : am_Pg 153 5 = some (.invokevirtual 87, 3, [3, 29, 2, 0, 14, 1], 0)) (am_call_V (a := [vI a0]) (st' := []) (Nat.le_of_ble_eq_true rfl) rfl (SE_k0 hE cuB_73)) (by decide +kernel : am_Lm m_C_isPin = 2) (Nat.le_of_ble_eq_true rfl) rfl (by decide +kernel),
  fun l0 l1 l2 l3 l4 l5 l6 a st E u => q_if_eq (tgt := 31) (by decide +kernel : am_Pg 153 8 = some (.ifCond .eq 23, 3, [], 0)) (by decide),
  fun l1 l2 l3 l4 l5 l6 a st E u => q_go (by decide +kernel : am_Pg 153 11 = some (.aload_n 0, 1, [], 0)) rfl,
  fun l0 l1 l2 l3 l4 l5 l6 st E u hE => q_gfR (by decide +kernel : am_Pg 153 12 = some (.getfield 12, 3, [4, 8, 0, 0], 0)) (SE_k4 hE) rfl (SE_r4_0 hE),
  fun l0 l1 l3 l4 l5 l6 a st E u => q_go (by decide +kernel : am_Pg 153 15 = some (.iload_n 2, 1, [], 0)) rfl,
  fun l0 l1 l2 l3 l4 l5 l6 a0  E u hE => q_cI (by decide +kernel : am_Pg 153 16 = some (.invokevirtual 61, 3, [3, 16, 2, 0, 14, 1], 0)) (am_call_V (a := [vI a0]) (st' := []) (Nat.le_of_ble_eq_true rfl) rfl (SE_k0 hE cuB_1)) (by decide +kernel : am_Lm m_C_isCell = 2) (Nat.le_of_ble_eq_true rfl) rfl (by decide +kernel),
  fun l0 l1 l2 l3 l4 l5 l6 a0  E u hE => q_cI (by decide +kernel : am_Pg 153 16 = some (.invokevirtual 61, 3, [3, 16, 2, 0, 14, 1], 0)) (am_call_V (a := [vI a0]) (st' := []) (Nat.le_of_ble_eq_true rfl) rfl (SE_k0 hE cuB_8)) (by decide +kernel : am_Lm m_C_isCell = 2) (Nat.le_of_ble_eq_true rfl) rfl (by decide +kernel),
  fun l0 l1 l2 l3 l4 l5 l6 a0  E u hE => q_cI (by decide +kernel : am_Pg 153 16 = some (.invokevirtual 61, 3, [3, 16, 2, 0, 14, 1], 0)) (am_call_V (a := [vI a0]) (st' := []) (Nat.le_of_ble_eq_true rfl) rfl (SE_k0 hE cuB_73)) (by decide +kernel : am_Lm m_C_isCell = 2) (Nat.le_of_ble_eq_true rfl) rfl (by decide +kernel),
  fun l0 l1 l2 l3 l4 l5 l6 a st E u => q_if_eq (tgt := 31) (by decide +kernel : am_Pg 153 19 = some (.ifCond .eq 12, 3, [], 0)) (by decide),
  fun l0 l1 l2 l4 l5 l6 a st E u => q_go (by decide +kernel : am_Pg 153 22 = some (.iload_n 3, 1, [], 0)) rfl,
  fun l0 l1 l2 l3 l4 l5 l6 st E u => q_go (by decide +kernel : am_Pg 153 23 = some (.iconst 0, 1, [], 0)) rfl,
  fun l0 l1 l2 l3 l4 l5 l6 st E u => q_go (by decide +kernel : am_Pg 153 24 = some (.iconst 1, 1, [], 0)) rfl,
  fun l0 l1 l2 l3 l4 l5 l6 a0 a1 a2  E u => q_cI (by decide +kernel : am_Pg 153 25 = some (.invokestatic 46, 3, [2, 8, 3, 0], 0)) (am_call_S (f := fun _ _ => true) (a := [vI a0, vI a1, vI a2]) (st' := []) (Nat.le_of_ble_eq_true rfl) rfl rfl) (by decide +kernel : am_Lm m_A_isIn = 3) (Nat.le_of_ble_eq_true rfl) rfl (by decide +kernel),
  fun l0 l1 l2 l3 l4 l5 l6 a st E u => q_if_ne (tgt := 33) (by decide +kernel : am_Pg 153 28 = some (.ifCond .ne 5, 3, [], 0)) (by decide),
  fun l0 l1 l2 l3 l4 l5 l6 st E u => q_go (by decide +kernel : am_Pg 153 31 = some (.iconst (-1), 1, [], 0)) rfl,
  fun l0 l1 l2 l3 l4 l5 l6 a E u => q_ret (by decide +kernel : am_Pg 153 32 = some (.ireturn, 1, [], 0)) rfl,
  fun l1 l2 l3 l4 l5 l6 a st E u => q_go (by decide +kernel : am_Pg 153 33 = some (.aload_n 0, 1, [], 0)) rfl,
  fun l0 l1 l2 l3 l4 l5 l6 st E u hE => q_gfR (by decide +kernel : am_Pg 153 34 = some (.getfield 12, 3, [4, 8, 0, 0], 0)) (SE_k4 hE) rfl (SE_r4_0 hE),
  fun l0 l1 l2 l3 l4 l5 l6   E u hE => q_cI (by decide +kernel : am_Pg 153 37 = some (.invokevirtual 206, 3, [3, 150, 1, 0, 14, 1], 0)) (am_call_V (a := []) (st' := []) (Nat.le_of_ble_eq_true rfl) rfl (SE_k0 hE cuB_1)) (by decide +kernel : am_Lm m_C_uncutSet = 1) (Nat.le_of_ble_eq_true rfl) rfl (by decide +kernel),
  fun l0 l1 l2 l3 l4 l5 l6   E u hE => q_cI (by decide +kernel : am_Pg 153 37 = some (.invokevirtual 206, 3, [3, 150, 1, 0, 14, 1], 0)) (am_call_V (a := []) (st' := []) (Nat.le_of_ble_eq_true rfl) rfl (SE_k0 hE cuB_8)) (by decide +kernel : am_Lm m_C_uncutSet = 1) (Nat.le_of_ble_eq_true rfl) rfl (by decide +kernel),
  fun l0 l1 l2 l3 l4 l5 l6   E u hE => q_cI (by decide +kernel : am_Pg 153 37 = some (.invokevirtual 206, 3, [3, 150, 1, 0, 14, 1], 0)) (am_call_V (a := []) (st' := []) (Nat.le_of_ble_eq_true rfl) rfl (SE_k0 hE cuB_73)) (by decide +kernel : am_Lm m_C_uncutSet = 1) (Nat.le_of_ble_eq_true rfl) rfl (by decide +kernel),
  fun l0 l1 l2 l3 l4 l5 l6 a st E u => q_go (by decide +kernel : am_Pg 153 40 = some (.istore 4, 2, [], 0)) rfl,
  fun l0 l1 l2 l3 l4 l5 l6 st E u => q_go (by decide +kernel : am_Pg 153 42 = some (.iconst 0, 1, [], 0)) rfl,
  fun l0 l1 l2 l3 l4 l5 l6 a st E u => q_go (by decide +kernel : am_Pg 153 43 = some (.istore 5, 2, [], 0)) rfl,
  fun l1 l2 l3 l4 l5 l6 a st E u => q_go (by decide +kernel : am_Pg 153 47 = some (.aload_n 0, 1, [], 0)) rfl,
  fun l0 l1 l2 l3 l4 l5 l6 st E u hE => q_gfR (by decide +kernel : am_Pg 153 48 = some (.getfield 12, 3, [4, 8, 0, 0], 0)) (SE_k4 hE) rfl (SE_r4_0 hE),
  fun l0 l1 l2 l3 l4 l5 l6 st E u hE => q_gfI (by decide +kernel : am_Pg 153 51 = some (.getfield 81, 3, [0, 14, 3, 1], 0)) (SE_k0 hE cuB_1) (by decide),
  fun l0 l1 l2 l3 l4 l5 l6 st E u hE => q_gfI (by decide +kernel : am_Pg 153 51 = some (.getfield 81, 3, [0, 14, 3, 1], 0)) (SE_k0 hE cuB_8) (by decide),
  fun l0 l1 l2 l3 l4 l5 l6 st E u hE => q_gfI (by decide +kernel : am_Pg 153 51 = some (.getfield 81, 3, [0, 14, 3, 1], 0)) (SE_k0 hE cuB_73) (by decide),
  fun l0 l1 l2 l3 l4 l5 l6 a b st E u => q_icmp_gt (tgt := 140) (by decide +kernel : am_Pg 153 54 = some (.if_icmp .gt 86, 3, [], 0)) (by decide),
  fun l0 l1 l2 l3 l4 l5 l6 st E u => q_go (by decide +kernel : am_Pg 153 57 = some (.iconst 0, 1, [], 0)) rfl,
  fun l0 l1 l2 l3 l4 l5 l6 a st E u => q_go (by decide +kernel : am_Pg 153 58 = some (.istore 6, 2, [], 0)) rfl,
  fun l0 l1 l2 l3 l5 l6 a st E u => q_go (by decide +kernel : am_Pg 153 62 = some (.iload 4, 2, [], 0)) rfl,
  fun l0 l1 l2 l3 l4 l5 l6 a b st E u => q_icmp_gt (tgt := 134) (by decide +kernel : am_Pg 153 64 = some (.if_icmp .gt 70, 3, [], 0)) (by decide),
  fun l0 l1 l2 l3 l4 l5 a st E u => q_go (by decide +kernel : am_Pg 153 67 = some (.iload 6, 2, [], 0)) rfl,
  fun l0 l1 l2 l3 l5 l6 a st E u => q_go (by decide +kernel : am_Pg 153 69 = some (.iload 4, 2, [], 0)) rfl,
  fun l0 l1 l2 l3 l4 l5 l6 st E u => q_go (by decide +kernel : am_Pg 153 71 = some (.iconst (-1), 1, [], 0)) rfl,
  fun l0 l1 l2 l3 l4 l5 l6 a b st E u => q_go (by decide +kernel : am_Pg 153 72 = some (.ixor, 1, [], 0)) rfl,
  fun l0 l1 l2 l3 l4 l5 l6 a b st E u => q_go (by decide +kernel : am_Pg 153 73 = some (.iand, 1, [], 0)) rfl,
  fun l0 l1 l2 l3 l4 l5 l6 a st E u => q_if_ne (tgt := 128) (by decide +kernel : am_Pg 153 74 = some (.ifCond .ne 54, 3, [], 0)) (by decide),
  fun l0 l1 l2 l3 l4 l5 a st E u => q_go (by decide +kernel : am_Pg 153 77 = some (.iload 6, 2, [], 0)) rfl,
  fun l0 l1 l2 l3 l4 l5 l6 a0  E u => q_cI (by decide +kernel : am_Pg 153 79 = some (.invokestatic 209, 3, [2, 151, 1, 0], 0)) (am_call_S (f := fun _ _ => true) (a := [vI a0]) (st' := []) (Nat.le_of_ble_eq_true rfl) rfl rfl) (by decide +kernel : am_Lm m_J_bitI = 1) (Nat.le_of_ble_eq_true rfl) rfl (by decide +kernel),
  fun l0 l1 l2 l3 l4 l6 a st E u => q_go (by decide +kernel : am_Pg 153 82 = some (.iload 5, 2, [], 0)) rfl,
  fun l0 l1 l2 l3 l4 l5 l6 a b st E u => q_icmp_ne (tgt := 128) (by decide +kernel : am_Pg 153 84 = some (.if_icmp .ne 44, 3, [], 0)) (by decide),
  fun l1 l2 l3 l4 l5 l6 a st E u => q_go (by decide +kernel : am_Pg 153 87 = some (.aload_n 0, 1, [], 0)) rfl,
  fun l0 l1 l2 l3 l4 l5 l6 st E u hE => q_gfR (by decide +kernel : am_Pg 153 88 = some (.getfield 16, 3, [4, 8, 1, 0], 0)) (SE_k4 hE) rfl (SE_r4_1 hE),
  fun l1 l2 l3 l4 l5 l6 a st E u => q_go (by decide +kernel : am_Pg 153 91 = some (.aload_n 0, 1, [], 0)) rfl,
  fun l0 l1 l2 l3 l4 l5 l6 st E u hE => q_gfR (by decide +kernel : am_Pg 153 92 = some (.getfield 12, 3, [4, 8, 0, 0], 0)) (SE_k4 hE) rfl (SE_r4_0 hE),
  fun l0 l1 l2 l3 l4 l5 a st E u => q_go (by decide +kernel : am_Pg 153 95 = some (.iload 6, 2, [], 0)) rfl,
  fun l0 l1 l2 l3 l4 l5 l6 a0 a1  E u hE => q_cV (by decide +kernel : am_Pg 153 97 = some (.invokevirtual 214, 3, [3, 152, 3, 0, 14, 1], 0)) (am_call_V (a := [vR a0, vI a1]) (st' := []) (Nat.le_of_ble_eq_true rfl) rfl (SE_k0 hE cuB_1)) (by decide +kernel : am_Lm m_C_becomesCut = 3) (Nat.le_of_ble_eq_true rfl) rfl (by decide +kernel),
  fun l0 l1 l2 l3 l4 l5 l6 a0 a1  E u hE => q_cV (by decide +kernel : am_Pg 153 97 = some (.invokevirtual 214, 3, [3, 152, 3, 0, 14, 1], 0)) (am_call_V (a := [vR a0, vI a1]) (st' := []) (Nat.le_of_ble_eq_true rfl) rfl (SE_k0 hE cuB_8)) (by decide +kernel : am_Lm m_C_becomesCut = 3) (Nat.le_of_ble_eq_true rfl) rfl (by decide +kernel),
  fun l0 l1 l2 l3 l4 l5 l6 a0 a1  E u hE => q_cV (by decide +kernel : am_Pg 153 97 = some (.invokevirtual 214, 3, [3, 152, 3, 0, 14, 1], 0)) (am_call_V (a := [vR a0, vI a1]) (st' := []) (Nat.le_of_ble_eq_true rfl) rfl (SE_k0 hE cuB_73)) (by decide +kernel : am_Lm m_C_becomesCut = 3) (Nat.le_of_ble_eq_true rfl) rfl (by decide +kernel),
  fun l1 l2 l3 l4 l5 l6 a st E u => q_go (by decide +kernel : am_Pg 153 100 = some (.aload_n 0, 1, [], 0)) rfl,
  fun l0 l1 l2 l3 l4 l5 l6 st E u hE => q_gfR (by decide +kernel : am_Pg 153 101 = some (.getfield 16, 3, [4, 8, 1, 0], 0)) (SE_k4 hE) rfl (SE_r4_1 hE),
  fun l0 l2 l3 l4 l5 l6 a st E u => q_go (by decide +kernel : am_Pg 153 104 = some (.iload_n 1, 1, [], 0)) rfl,
  fun l0 l1 l3 l4 l5 l6 a st E u => q_go (by decide +kernel : am_Pg 153 105 = some (.iload_n 2, 1, [], 0)) rfl,
  fun l0 l1 l2 l3 l4 l5 l6 st E u => q_go (by decide +kernel : am_Pg 153 106 = some (.bipush 60, 2, [], 0)) rfl,
  fun l0 l1 l2 l3 l4 l5 l6 a0 a1 a2  E u hE => q_cI (by decide +kernel : am_Pg 153 108 = some (.invokevirtual 196, 3, [3, 140, 4, 0, 14, 1], 0)) (am_call_V (a := [vI a0, vI a1, vI a2]) (st' := []) (Nat.le_of_ble_eq_true rfl) rfl (SE_k0 hE cuB_1)) (by decide +kernel : am_Lm m_C_soonest = 5) (Nat.le_of_ble_eq_true rfl) rfl (by decide +kernel),
  fun l0 l1 l2 l3 l4 l5 l6 a0 a1 a2  E u hE => q_cI (by decide +kernel : am_Pg 153 108 = some (.invokevirtual 196, 3, [3, 140, 4, 0, 14, 1], 0)) (am_call_V (a := [vI a0, vI a1, vI a2]) (st' := []) (Nat.le_of_ble_eq_true rfl) rfl (SE_k0 hE cuB_8)) (by decide +kernel : am_Lm m_C_soonest = 5) (Nat.le_of_ble_eq_true rfl) rfl (by decide +kernel),
  fun l0 l1 l2 l3 l4 l5 l6 a0 a1 a2  E u hE => q_cI (by decide +kernel : am_Pg 153 108 = some (.invokevirtual 196, 3, [3, 140, 4, 0, 14, 1], 0)) (am_call_V (a := [vI a0, vI a1, vI a2]) (st' := []) (Nat.le_of_ble_eq_true rfl) rfl (SE_k0 hE cuB_73)) (by decide +kernel : am_Lm m_C_soonest = 5) (Nat.le_of_ble_eq_true rfl) rfl (by decide +kernel),
  fun l0 l1 l2 l3 l4 l5 l6 st E u => q_go (by decide +kernel : am_Pg 153 111 = some (.bipush (-4), 2, [], 0)) rfl,
  fun l0 l1 l2 l3 l4 l5 l6 a b st E u => q_icmp_eq (tgt := 128) (by decide +kernel : am_Pg 153 113 = some (.if_icmp .eq 15, 3, [], 0)) (by decide),
  fun l0 l1 l2 l4 l5 l6 a st E u => q_go (by decide +kernel : am_Pg 153 116 = some (.iload_n 3, 1, [], 0)) rfl,
  fun l0 l1 l2 l3 l4 l5 l6 a st E u => q_if_ne (tgt := 125) (by decide +kernel : am_Pg 153 117 = some (.ifCond .ne 8, 3, [], 0)) (by decide),
  fun l0 l1 l2 l3 l4 l6 a st E u => q_go (by decide +kernel : am_Pg 153 120 = some (.iload 5, 2, [], 0)) rfl,
  fun l0 l1 l2 l3 l4 l5 l6 st E u => q_go (by decide +kernel : am_Pg 153 122 = some (.goto 5, 3, [], 0)) rfl,
  fun l0 l1 l2 l3 l4 l5 a st E u => q_go (by decide +kernel : am_Pg 153 125 = some (.iload 6, 2, [], 0)) rfl,
  fun l0 l1 l2 l3 l4 l5 l6 a E u => q_ret (by decide +kernel : am_Pg 153 127 = some (.ireturn, 1, [], 0)) rfl,
  fun l0 l1 l2 l3 l4 l5 a st E u => q_go (by decide +kernel : am_Pg 153 128 = some (.iinc 6 1, 3, [], 0)) rfl,
  fun l0 l1 l2 l3 l4 l5 l6 st E u => q_go (by decide +kernel : am_Pg 153 131 = some (.goto (-71), 3, [], 0)) rfl,
  fun l0 l1 l2 l3 l4 l6 a st E u => q_go (by decide +kernel : am_Pg 153 134 = some (.iinc 5 1, 3, [], 0)) rfl,
  fun l0 l1 l2 l3 l4 l5 l6 st E u => q_go (by decide +kernel : am_Pg 153 137 = some (.goto (-92), 3, [], 0)) rfl,
  fun l0 l1 l2 l3 l4 l5 l6 st E u => q_go (by decide +kernel : am_Pg 153 140 = some (.bipush (-4), 2, [], 0)) rfl,
  fun l0 l1 l2 l3 l4 l5 l6 a E u => q_ret (by decide +kernel : am_Pg 153 142 = some (.ireturn, 1, [], 0)) rfl⟩
theorem x_A_place :
  (∀ (l1 l2 l3 : am_V) (a : Option Nat) (st : List am_V) (E : am_E) (u : am_M), Rn m_A_place 0 [vR a, l1, l2, l3] st E u = Rn m_A_place 1 [vR a, l1, l2, l3] (vR a :: st) E u) ∧
  (∀ (l0 l1 l2 l3 : am_V) (st : List am_V) (E : am_E) (u : am_M) (hE : SE E), Rn m_A_place 1 [l0, l1, l2, l3] (vR (some 0) :: st) E u = Rn m_A_place 4 [l0, l1, l2, l3] (vR (some 1) :: st) E u) ∧
  (∀ (l0 l2 l3 : am_V) (a : Int) (st : List am_V) (E : am_E) (u : am_M), Rn m_A_place 4 [l0, vI a, l2, l3] st E u = Rn m_A_place 5 [l0, vI a, l2, l3] (vI a :: st) E u) ∧
  (∀ (l0 l1 l2 l3 : am_V) (a0 : Int) (E : am_E) (u : am_M) (hE : SE E), Rn m_A_place 5 [l0, l1, l2, l3] [vI a0, vR (some 1)] E u = bdI (Rn m_C_isPin 0 [vR (some 1), vI a0] [] E u) (KI m_A_place 8 [l0, l1, l2, l3] [])) ∧
  (∀ (l0 l1 l2 l3 : am_V) (a0 : Int) (E : am_E) (u : am_M) (hE : SE E), Rn m_A_place 5 [l0, l1, l2, l3] [vI a0, vR (some 8)] E u = bdI (Rn m_C_isPin 0 [vR (some 8), vI a0] [] E u) (KI m_A_place 8 [l0, l1, l2, l3] [])) ∧
  (∀ (l0 l1 l2 l3 : am_V) (a0 : Int) (E : am_E) (u : am_M) (hE : SE E), Rn m_A_place 5 [l0, l1, l2, l3] [vI a0, vR (some 73)] E u = bdI (Rn m_C_isPin 0 [vR (some 73), vI a0] [] E u) (KI m_A_place 8 [l0, l1, l2, l3] [])) ∧
  (∀ (l0 l1 l2 l3 : am_V) (a : Int) (st : List am_V) (E : am_E) (u : am_M), Rn m_A_place 8 [l0, l1, l2, l3] (vI a :: st) E u = if a = 0 then Rn m_A_place 31 [l0, l1, l2, l3] st E u else Rn m_A_place 11 [l0, l1, l2, l3] st E u) ∧
  (∀ (l1 l2 l3 : am_V) (a : Option Nat) (st : List am_V) (E : am_E) (u : am_M), Rn m_A_place 11 [vR a, l1, l2, l3] st E u = Rn m_A_place 12 [vR a, l1, l2, l3] (vR a :: st) E u) ∧
  (∀ (l0 l1 l2 l3 : am_V) (st : List am_V) (E : am_E) (u : am_M) (hE : SE E), Rn m_A_place 12 [l0, l1, l2, l3] (vR (some 0) :: st) E u = Rn m_A_place 15 [l0, l1, l2, l3] (vR (some 1) :: st) E u) ∧
  (∀ (l0 l1 l3 : am_V) (a : Int) (st : List am_V) (E : am_E) (u : am_M), Rn m_A_place 15 [l0, l1, vI a, l3] st E u = Rn m_A_place 16 [l0, l1, vI a, l3] (vI a :: st) E u) ∧
  (∀ (l0 l1 l2 l3 : am_V) (a0 : Int) (E : am_E) (u : am_M) (hE : SE E), Rn m_A_place 16 [l0, l1, l2, l3] [vI a0, vR (some 1)] E u = bdI (Rn m_C_isCell 0 [vR (some 1), vI a0] [] E u) (KI m_A_place 19 [l0, l1, l2, l3] [])) ∧
  (∀ (l0 l1 l2 l3 : am_V) (a0 : Int) (E : am_E) (u : am_M) (hE : SE E), Rn m_A_place 16 [l0, l1, l2, l3] [vI a0, vR (some 8)] E u = bdI (Rn m_C_isCell 0 [vR (some 8), vI a0] [] E u) (KI m_A_place 19 [l0, l1, l2, l3] [])) ∧
  (∀ (l0 l1 l2 l3 : am_V) (a0 : Int) (E : am_E) (u : am_M) (hE : SE E), Rn m_A_place 16 [l0, l1, l2, l3] [vI a0, vR (some 73)] E u = bdI (Rn m_C_isCell 0 [vR (some 73), vI a0] [] E u) (KI m_A_place 19 [l0, l1, l2, l3] [])) ∧
  (∀ (l0 l1 l2 l3 : am_V) (a : Int) (st : List am_V) (E : am_E) (u : am_M), Rn m_A_place 19 [l0, l1, l2, l3] (vI a :: st) E u = if a = 0 then Rn m_A_place 31 [l0, l1, l2, l3] st E u else Rn m_A_place 22 [l0, l1, l2, l3] st E u) ∧
  (∀ (l0 l1 l2 : am_V) (a : Int) (st : List am_V) (E : am_E) (u : am_M), Rn m_A_place 22 [l0, l1, l2, vI a] st E u = Rn m_A_place 23 [l0, l1, l2, vI a] (vI a :: st) E u) ∧
  (∀ (l0 l1 l2 l3 : am_V) (st : List am_V) (E : am_E) (u : am_M), Rn m_A_place 23 [l0, l1, l2, l3] st E u = Rn m_A_place 24 [l0, l1, l2, l3] (vI 0 :: st) E u) ∧
  (∀ (l0 l1 l2 l3 : am_V) (st : List am_V) (E : am_E) (u : am_M), Rn m_A_place 24 [l0, l1, l2, l3] st E u = Rn m_A_place 25 [l0, l1, l2, l3] (vI 1 :: st) E u) ∧
  (∀ (l0 l1 l2 l3 : am_V) (a0 : Int) (a1 : Int) (a2 : Int) (E : am_E) (u : am_M), Rn m_A_place 25 [l0, l1, l2, l3] [vI a2, vI a1, vI a0] E u = bdI (Rn m_A_isIn 0 [vI a0, vI a1, vI a2] [] E u) (KI m_A_place 28 [l0, l1, l2, l3] [])) ∧
  (∀ (l0 l1 l2 l3 : am_V) (a : Int) (st : List am_V) (E : am_E) (u : am_M), Rn m_A_place 28 [l0, l1, l2, l3] (vI a :: st) E u = if a = 0 then Rn m_A_place 31 [l0, l1, l2, l3] st E u else Rn m_A_place 33 [l0, l1, l2, l3] st E u) ∧
  (∀ (l0 l1 l2 l3 : am_V) (st : List am_V) (E : am_E) (u : am_M), Rn m_A_place 31 [l0, l1, l2, l3] st E u = Rn m_A_place 32 [l0, l1, l2, l3] (vI (-1) :: st) E u) ∧
  (∀ (l0 l1 l2 l3 : am_V) (a : Int) (E : am_E) (u : am_M), Rn m_A_place 32 [l0, l1, l2, l3] [vI a] E u = some (some (vI a), E, u)) ∧
  (∀ (l1 l2 l3 : am_V) (a : Option Nat) (st : List am_V) (E : am_E) (u : am_M), Rn m_A_place 33 [vR a, l1, l2, l3] st E u = Rn m_A_place 34 [vR a, l1, l2, l3] (vR a :: st) E u) ∧
  (∀ (l0 l1 l2 l3 : am_V) (st : List am_V) (E : am_E) (u : am_M) (hE : SE E), Rn m_A_place 34 [l0, l1, l2, l3] (vR (some 0) :: st) E u = Rn m_A_place 37 [l0, l1, l2, l3] (vR (some 1) :: st) E u) ∧
  (∀ (l0 l1 l2 l3 : am_V) (st : List am_V) (E : am_E) (u : am_M) (hE : SE E), Rn m_A_place 37 [l0, l1, l2, l3] (vR (some 1) :: st) E u = Rn m_A_place 40 [l0, l1, l2, l3] (vR (some 3) :: st) E u) ∧
  (∀ (l0 l1 l2 l3 : am_V) (st : List am_V) (E : am_E) (u : am_M) (hE : SE E), Rn m_A_place 37 [l0, l1, l2, l3] (vR (some 8) :: st) E u = Rn m_A_place 40 [l0, l1, l2, l3] (vR (some 10) :: st) E u) ∧
  (∀ (l0 l1 l2 l3 : am_V) (st : List am_V) (E : am_E) (u : am_M) (hE : SE E), Rn m_A_place 37 [l0, l1, l2, l3] (vR (some 73) :: st) E u = Rn m_A_place 40 [l0, l1, l2, l3] (vR (some 75) :: st) E u) ∧
  (∀ (l0 l2 l3 : am_V) (a : Int) (st : List am_V) (E : am_E) (u : am_M), Rn m_A_place 40 [l0, vI a, l2, l3] st E u = Rn m_A_place 41 [l0, vI a, l2, l3] (vI a :: st) E u) ∧
  (∀ (l0 l1 l2 l3 : am_V) (a0 : Option Nat) (a1 : Int) (E : am_E) (u : am_M), Rn m_A_place 41 [l0, l1, l2, l3] [vI a1, vR a0] E u = bdI (Rn m_A_look 0 [vR a0, vI a1] [] E u) (KI m_A_place 44 [l0, l1, l2, l3] [])) ∧
  (∀ (l0 l1 l2 l3 : am_V) (st : List am_V) (E : am_E) (u : am_M), Rn m_A_place 44 [l0, l1, l2, l3] st E u = Rn m_A_place 46 [l0, l1, l2, l3] (vI (-4) :: st) E u) ∧
  (∀ (l0 l1 l2 l3 : am_V) (a b : Int) (st : List am_V) (E : am_E) (u : am_M), Rn m_A_place 46 [l0, l1, l2, l3] (vI b :: vI a :: st) E u = if a = b then Rn m_A_place 52 [l0, l1, l2, l3] st E u else Rn m_A_place 49 [l0, l1, l2, l3] st E u) ∧
  (∀ (l0 l1 l2 l3 : am_V) (st : List am_V) (E : am_E) (u : am_M), Rn m_A_place 49 [l0, l1, l2, l3] st E u = Rn m_A_place 51 [l0, l1, l2, l3] (vI (-2) :: st) E u) ∧
  (∀ (l0 l1 l2 l3 : am_V) (a : Int) (E : am_E) (u : am_M), Rn m_A_place 51 [l0, l1, l2, l3] [vI a] E u = some (some (vI a), E, u)) ∧
  (∀ (l1 l2 l3 : am_V) (a : Option Nat) (st : List am_V) (E : am_E) (u : am_M), Rn m_A_place 52 [vR a, l1, l2, l3] st E u = Rn m_A_place 53 [vR a, l1, l2, l3] (vR a :: st) E u) ∧
  (∀ (l0 l2 l3 : am_V) (a : Int) (st : List am_V) (E : am_E) (u : am_M), Rn m_A_place 53 [l0, vI a, l2, l3] st E u = Rn m_A_place 54 [l0, vI a, l2, l3] (vI a :: st) E u) ∧
  (∀ (l0 l1 l3 : am_V) (a : Int) (st : List am_V) (E : am_E) (u : am_M), Rn m_A_place 54 [l0, l1, vI a, l3] st E u = Rn m_A_place 55 [l0, l1, vI a, l3] (vI a :: st) E u) ∧
  (∀ (l0 l1 l2 : am_V) (a : Int) (st : List am_V) (E : am_E) (u : am_M), Rn m_A_place 55 [l0, l1, l2, vI a] st E u = Rn m_A_place 56 [l0, l1, l2, vI a] (vI a :: st) E u) ∧
  (∀ (l0 l1 l2 l3 : am_V) (st : List am_V) (E : am_E) (u : am_M), Rn m_A_place 56 [l0, l1, l2, l3] st E u = Rn m_A_place 57 [l0, l1, l2, l3] (vI 1 :: st) E u) ∧
  (∀ (l0 l1 l2 l3 : am_V) (a0 : Int) (a1 : Int) (a2 : Int) (a3 : Int) (E : am_E) (u : am_M) (hE : SE E), Rn m_A_place 57 [l0, l1, l2, l3] [vI a3, vI a2, vI a1, vI a0, vR (some 0)] E u = bdI (Rn m_A_bestCell 0 [vR (some 0), vI a0, vI a1, vI a2, vI a3, vB false, vB false, vB false, vB false] [] E u) (KI m_A_place 60 [l0, l1, l2, l3] [])) ∧
  (∀ (l0 l1 l2 l3 : am_V) (a : Int) (E : am_E) (u : am_M), Rn m_A_place 60 [l0, l1, l2, l3] [vI a] E u = some (some (vI a), E, u)) :=
  ⟨fun l1 l2 l3 a st E u => q_go (by decide +kernel : am_Pg 157 0 = some (.aload_n 0, 1, [], 0)) rfl,
  fun l0 l1 l2 l3 st E u hE => q_gfR (by decide +kernel : am_Pg 157 1 = some (.getfield 12, 3, [4, 8, 0, 0], 0)) (SE_k4 hE) rfl (SE_r4_0 hE),
  fun l0 l2 l3 a st E u => q_go (by decide +kernel : am_Pg 157 4 = some (.iload_n 1, 1, [], 0)) rfl,
  fun l0 l1 l2 l3 a0  E u hE => q_cI (by decide +kernel : am_Pg 157 5 = some (.invokevirtual 87, 3, [3, 29, 2, 0, 14, 1], 0)) (am_call_V (a := [vI a0]) (st' := []) (Nat.le_of_ble_eq_true rfl) rfl (SE_k0 hE cuB_1)) (by decide +kernel : am_Lm m_C_isPin = 2) (Nat.le_of_ble_eq_true rfl) rfl (by decide +kernel),
  fun l0 l1 l2 l3 a0  E u hE => q_cI (by decide +kernel : am_Pg 157 5 = some (.invokevirtual 87, 3, [3, 29, 2, 0, 14, 1], 0)) (am_call_V (a := [vI a0]) (st' := []) (Nat.le_of_ble_eq_true rfl) rfl (SE_k0 hE cuB_8)) (by decide +kernel : am_Lm m_C_isPin = 2) (Nat.le_of_ble_eq_true rfl) rfl (by decide +kernel),
  fun l0 l1 l2 l3 a0  E u hE => q_cI (by decide +kernel : am_Pg 157 5 = some (.invokevirtual 87, 3, [3, 29, 2, 0, 14, 1], 0)) (am_call_V (a := [vI a0]) (st' := []) (Nat.le_of_ble_eq_true rfl) rfl (SE_k0 hE cuB_73)) (by decide +kernel : am_Lm m_C_isPin = 2) (Nat.le_of_ble_eq_true rfl) rfl (by decide +kernel),
  fun l0 l1 l2 l3 a st E u => q_if_eq (tgt := 31) (by decide +kernel : am_Pg 157 8 = some (.ifCond .eq 23, 3, [], 0)) (by decide),
  fun l1 l2 l3 a st E u => q_go (by decide +kernel : am_Pg 157 11 = some (.aload_n 0, 1, [], 0)) rfl,
  fun l0 l1 l2 l3 st E u hE => q_gfR (by decide +kernel : am_Pg 157 12 = some (.getfield 12, 3, [4, 8, 0, 0], 0)) (SE_k4 hE) rfl (SE_r4_0 hE),
  fun l0 l1 l3 a st E u => q_go (by decide +kernel : am_Pg 157 15 = some (.iload_n 2, 1, [], 0)) rfl,
  fun l0 l1 l2 l3 a0  E u hE => q_cI (by decide +kernel : am_Pg 157 16 = some (.invokevirtual 61, 3, [3, 16, 2, 0, 14, 1], 0)) (am_call_V (a := [vI a0]) (st' := []) (Nat.le_of_ble_eq_true rfl) rfl (SE_k0 hE cuB_1)) (by decide +kernel : am_Lm m_C_isCell = 2) (Nat.le_of_ble_eq_true rfl) rfl (by decide +kernel),
  fun l0 l1 l2 l3 a0  E u hE => q_cI (by decide +kernel : am_Pg 157 16 = some (.invokevirtual 61, 3, [3, 16, 2, 0, 14, 1], 0)) (am_call_V (a := [vI a0]) (st' := []) (Nat.le_of_ble_eq_true rfl) rfl (SE_k0 hE cuB_8)) (by decide +kernel : am_Lm m_C_isCell = 2) (Nat.le_of_ble_eq_true rfl) rfl (by decide +kernel),
  fun l0 l1 l2 l3 a0  E u hE => q_cI (by decide +kernel : am_Pg 157 16 = some (.invokevirtual 61, 3, [3, 16, 2, 0, 14, 1], 0)) (am_call_V (a := [vI a0]) (st' := []) (Nat.le_of_ble_eq_true rfl) rfl (SE_k0 hE cuB_73)) (by decide +kernel : am_Lm m_C_isCell = 2) (Nat.le_of_ble_eq_true rfl) rfl (by decide +kernel),
  fun l0 l1 l2 l3 a st E u => q_if_eq (tgt := 31) (by decide +kernel : am_Pg 157 19 = some (.ifCond .eq 12, 3, [], 0)) (by decide),
  fun l0 l1 l2 a st E u => q_go (by decide +kernel : am_Pg 157 22 = some (.iload_n 3, 1, [], 0)) rfl,
  fun l0 l1 l2 l3 st E u => q_go (by decide +kernel : am_Pg 157 23 = some (.iconst 0, 1, [], 0)) rfl,
  fun l0 l1 l2 l3 st E u => q_go (by decide +kernel : am_Pg 157 24 = some (.iconst 1, 1, [], 0)) rfl,
  fun l0 l1 l2 l3 a0 a1 a2  E u => q_cI (by decide +kernel : am_Pg 157 25 = some (.invokestatic 46, 3, [2, 8, 3, 0], 0)) (am_call_S (f := fun _ _ => true) (a := [vI a0, vI a1, vI a2]) (st' := []) (Nat.le_of_ble_eq_true rfl) rfl rfl) (by decide +kernel : am_Lm m_A_isIn = 3) (Nat.le_of_ble_eq_true rfl) rfl (by decide +kernel),
  fun l0 l1 l2 l3 a st E u => q_if_ne (tgt := 33) (by decide +kernel : am_Pg 157 28 = some (.ifCond .ne 5, 3, [], 0)) (by decide),
  fun l0 l1 l2 l3 st E u => q_go (by decide +kernel : am_Pg 157 31 = some (.iconst (-1), 1, [], 0)) rfl,
  fun l0 l1 l2 l3 a E u => q_ret (by decide +kernel : am_Pg 157 32 = some (.ireturn, 1, [], 0)) rfl,
  fun l1 l2 l3 a st E u => q_go (by decide +kernel : am_Pg 157 33 = some (.aload_n 0, 1, [], 0)) rfl,
  fun l0 l1 l2 l3 st E u hE => q_gfR (by decide +kernel : am_Pg 157 34 = some (.getfield 12, 3, [4, 8, 0, 0], 0)) (SE_k4 hE) rfl (SE_r4_0 hE),
  fun l0 l1 l2 l3 st E u hE => q_gfR (by decide +kernel : am_Pg 157 37 = some (.getfield 98, 3, [0, 14, 9, 1], 0)) (SE_k0 hE cuB_1) rfl (SE_r0_9 hE cuB_1),
  fun l0 l1 l2 l3 st E u hE => q_gfR (by decide +kernel : am_Pg 157 37 = some (.getfield 98, 3, [0, 14, 9, 1], 0)) (SE_k0 hE cuB_8) rfl (SE_r0_9 hE cuB_8),
  fun l0 l1 l2 l3 st E u hE => q_gfR (by decide +kernel : am_Pg 157 37 = some (.getfield 98, 3, [0, 14, 9, 1], 0)) (SE_k0 hE cuB_73) rfl (SE_r0_9 hE cuB_73),
  fun l0 l2 l3 a st E u => q_go (by decide +kernel : am_Pg 157 40 = some (.iload_n 1, 1, [], 0)) rfl,
  fun l0 l1 l2 l3 a0 a1  E u => q_cI (by decide +kernel : am_Pg 157 41 = some (.invokestatic 94, 3, [2, 36, 2, 0], 0)) (am_call_S (f := fun _ _ => true) (a := [vR a0, vI a1]) (st' := []) (Nat.le_of_ble_eq_true rfl) rfl rfl) (by decide +kernel : am_Lm m_A_look = 2) (Nat.le_of_ble_eq_true rfl) rfl (by decide +kernel),
  fun l0 l1 l2 l3 st E u => q_go (by decide +kernel : am_Pg 157 44 = some (.bipush (-4), 2, [], 0)) rfl,
  fun l0 l1 l2 l3 a b st E u => q_icmp_eq (tgt := 52) (by decide +kernel : am_Pg 157 46 = some (.if_icmp .eq 6, 3, [], 0)) (by decide),
  fun l0 l1 l2 l3 st E u => q_go (by decide +kernel : am_Pg 157 49 = some (.bipush (-2), 2, [], 0)) rfl,
  fun l0 l1 l2 l3 a E u => q_ret (by decide +kernel : am_Pg 157 51 = some (.ireturn, 1, [], 0)) rfl,
  fun l1 l2 l3 a st E u => q_go (by decide +kernel : am_Pg 157 52 = some (.aload_n 0, 1, [], 0)) rfl,
  fun l0 l2 l3 a st E u => q_go (by decide +kernel : am_Pg 157 53 = some (.iload_n 1, 1, [], 0)) rfl,
  fun l0 l1 l3 a st E u => q_go (by decide +kernel : am_Pg 157 54 = some (.iload_n 2, 1, [], 0)) rfl,
  fun l0 l1 l2 a st E u => q_go (by decide +kernel : am_Pg 157 55 = some (.iload_n 3, 1, [], 0)) rfl,
  fun l0 l1 l2 l3 st E u => q_go (by decide +kernel : am_Pg 157 56 = some (.iconst 1, 1, [], 0)) rfl,
  fun l0 l1 l2 l3 a0 a1 a2 a3  E u hE => q_cI (by decide +kernel : am_Pg 157 57 = some (.invokevirtual 202, 3, [3, 147, 5, 4, 8, 0], 0)) (am_call_V (a := [vI a0, vI a1, vI a2, vI a3]) (st' := []) (Nat.le_of_ble_eq_true rfl) rfl (SE_k4 hE)) (by decide +kernel : am_Lm m_A_bestCell = 9) (Nat.le_of_ble_eq_true rfl) rfl (by decide +kernel),
  fun l0 l1 l2 l3 a E u => q_ret (by decide +kernel : am_Pg 157 60 = some (.ireturn, 1, [], 0)) rfl⟩
theorem x_A_nearest :
  (∀ (l1 l2 l3 : am_V) (a : Option Nat) (st : List am_V) (E : am_E) (u : am_M), Rn m_A_nearest 0 [vR a, l1, l2, l3] st E u = Rn m_A_nearest 1 [vR a, l1, l2, l3] (vR a :: st) E u) ∧
  (∀ (l0 l1 l2 l3 : am_V) (st : List am_V) (E : am_E) (u : am_M) (hE : SE E), Rn m_A_nearest 1 [l0, l1, l2, l3] (vR (some 0) :: st) E u = Rn m_A_nearest 4 [l0, l1, l2, l3] (vR (some 1) :: st) E u) ∧
  (∀ (l0 l2 l3 : am_V) (a : Int) (st : List am_V) (E : am_E) (u : am_M), Rn m_A_nearest 4 [l0, vI a, l2, l3] st E u = Rn m_A_nearest 5 [l0, vI a, l2, l3] (vI a :: st) E u) ∧
  (∀ (l0 l1 l2 l3 : am_V) (a0 : Int) (E : am_E) (u : am_M) (hE : SE E), Rn m_A_nearest 5 [l0, l1, l2, l3] [vI a0, vR (some 1)] E u = bdI (Rn m_C_isCell 0 [vR (some 1), vI a0] [] E u) (KI m_A_nearest 8 [l0, l1, l2, l3] [])) ∧
  (∀ (l0 l1 l2 l3 : am_V) (a0 : Int) (E : am_E) (u : am_M) (hE : SE E), Rn m_A_nearest 5 [l0, l1, l2, l3] [vI a0, vR (some 8)] E u = bdI (Rn m_C_isCell 0 [vR (some 8), vI a0] [] E u) (KI m_A_nearest 8 [l0, l1, l2, l3] [])) ∧
  (∀ (l0 l1 l2 l3 : am_V) (a0 : Int) (E : am_E) (u : am_M) (hE : SE E), Rn m_A_nearest 5 [l0, l1, l2, l3] [vI a0, vR (some 73)] E u = bdI (Rn m_C_isCell 0 [vR (some 73), vI a0] [] E u) (KI m_A_nearest 8 [l0, l1, l2, l3] [])) ∧
  (∀ (l0 l1 l2 l3 : am_V) (a : Int) (st : List am_V) (E : am_E) (u : am_M), Rn m_A_nearest 8 [l0, l1, l2, l3] (vI a :: st) E u = if a = 0 then Rn m_A_nearest 20 [l0, l1, l2, l3] st E u else Rn m_A_nearest 11 [l0, l1, l2, l3] st E u) ∧
  (∀ (l0 l1 l3 : am_V) (a : Int) (st : List am_V) (E : am_E) (u : am_M), Rn m_A_nearest 11 [l0, l1, vI a, l3] st E u = Rn m_A_nearest 12 [l0, l1, vI a, l3] (vI a :: st) E u) ∧
  (∀ (l0 l1 l2 l3 : am_V) (st : List am_V) (E : am_E) (u : am_M), Rn m_A_nearest 12 [l0, l1, l2, l3] st E u = Rn m_A_nearest 13 [l0, l1, l2, l3] (vI 0 :: st) E u) ∧
  (∀ (l0 l1 l2 l3 : am_V) (st : List am_V) (E : am_E) (u : am_M), Rn m_A_nearest 13 [l0, l1, l2, l3] st E u = Rn m_A_nearest 14 [l0, l1, l2, l3] (vI 1 :: st) E u) ∧
  (∀ (l0 l1 l2 l3 : am_V) (a0 : Int) (a1 : Int) (a2 : Int) (E : am_E) (u : am_M), Rn m_A_nearest 14 [l0, l1, l2, l3] [vI a2, vI a1, vI a0] E u = bdI (Rn m_A_isIn 0 [vI a0, vI a1, vI a2] [] E u) (KI m_A_nearest 17 [l0, l1, l2, l3] [])) ∧
  (∀ (l0 l1 l2 l3 : am_V) (a : Int) (st : List am_V) (E : am_E) (u : am_M), Rn m_A_nearest 17 [l0, l1, l2, l3] (vI a :: st) E u = if a = 0 then Rn m_A_nearest 20 [l0, l1, l2, l3] st E u else Rn m_A_nearest 22 [l0, l1, l2, l3] st E u) ∧
  (∀ (l0 l1 l2 l3 : am_V) (st : List am_V) (E : am_E) (u : am_M), Rn m_A_nearest 20 [l0, l1, l2, l3] st E u = Rn m_A_nearest 21 [l0, l1, l2, l3] (vI (-1) :: st) E u) ∧
  (∀ (l0 l1 l2 l3 : am_V) (a : Int) (E : am_E) (u : am_M), Rn m_A_nearest 21 [l0, l1, l2, l3] [vI a] E u = some (some (vI a), E, u)) ∧
  (∀ (l1 l2 l3 : am_V) (a : Option Nat) (st : List am_V) (E : am_E) (u : am_M), Rn m_A_nearest 22 [vR a, l1, l2, l3] st E u = Rn m_A_nearest 23 [vR a, l1, l2, l3] (vR a :: st) E u) ∧
  (∀ (l0 l1 l2 l3 : am_V) (st : List am_V) (E : am_E) (u : am_M) (hE : SE E), Rn m_A_nearest 23 [l0, l1, l2, l3] (vR (some 0) :: st) E u = Rn m_A_nearest 26 [l0, l1, l2, l3] (vR (some 1) :: st) E u) ∧
  (∀ (l0 l2 l3 : am_V) (a : Int) (st : List am_V) (E : am_E) (u : am_M), Rn m_A_nearest 26 [l0, vI a, l2, l3] st E u = Rn m_A_nearest 27 [l0, vI a, l2, l3] (vI a :: st) E u) ∧
  (∀ (l0 l1 l2 l3 : am_V) (a0 : Int) (E : am_E) (u : am_M) (hE : SE E), Rn m_A_nearest 27 [l0, l1, l2, l3] [vI a0, vR (some 1)] E u = bdI (Rn m_C_nearestHole 0 [vR (some 1), vI a0, vB false, vB false, vB false, vB false, vB false, vB false] [] E u) (KI m_A_nearest 30 [l0, l1, l2, l3] [])) ∧
  (∀ (l0 l1 l2 l3 : am_V) (a0 : Int) (E : am_E) (u : am_M) (hE : SE E), Rn m_A_nearest 27 [l0, l1, l2, l3] [vI a0, vR (some 8)] E u = bdI (Rn m_C_nearestHole 0 [vR (some 8), vI a0, vB false, vB false, vB false, vB false, vB false, vB false] [] E u) (KI m_A_nearest 30 [l0, l1, l2, l3] [])) ∧
  (∀ (l0 l1 l2 l3 : am_V) (a0 : Int) (E : am_E) (u : am_M) (hE : SE E), Rn m_A_nearest 27 [l0, l1, l2, l3] [vI a0, vR (some 73)] E u = bdI (Rn m_C_nearestHole 0 [vR (some 73), vI a0, vB false, vB false, vB false, vB false, vB false, vB false] [] E u) (KI m_A_nearest 30 [l0, l1, l2, l3] [])) ∧
  (∀ (l0 l1 l2 l3 : am_V) (a : Int) (st : List am_V) (E : am_E) (u : am_M), Rn m_A_nearest 30 [l0, l1, l2, l3] (vI a :: st) E u = Rn m_A_nearest 31 [l0, l1, am_fx l2, vI a] st E u) ∧
  (∀ (l0 l1 l2 : am_V) (a : Int) (st : List am_V) (E : am_E) (u : am_M), Rn m_A_nearest 31 [l0, l1, l2, vI a] st E u = Rn m_A_nearest 32 [l0, l1, l2, vI a] (vI a :: st) E u) ∧
  (∀ (l0 l1 l2 l3 : am_V) (st : List am_V) (E : am_E) (u : am_M), Rn m_A_nearest 32 [l0, l1, l2, l3] st E u = Rn m_A_nearest 34 [l0, l1, l2, l3] (vI (-4) :: st) E u) ∧
  (∀ (l0 l1 l2 l3 : am_V) (a b : Int) (st : List am_V) (E : am_E) (u : am_M), Rn m_A_nearest 34 [l0, l1, l2, l3] (vI b :: vI a :: st) E u = if a = b then Rn m_A_nearest 41 [l0, l1, l2, l3] st E u else Rn m_A_nearest 37 [l0, l1, l2, l3] st E u) ∧
  (∀ (l0 l1 l3 : am_V) (a : Int) (st : List am_V) (E : am_E) (u : am_M), Rn m_A_nearest 37 [l0, l1, vI a, l3] st E u = Rn m_A_nearest 38 [l0, l1, vI a, l3] (vI a :: st) E u) ∧
  (∀ (l0 l1 l2 l3 : am_V) (a : Int) (st : List am_V) (E : am_E) (u : am_M), Rn m_A_nearest 38 [l0, l1, l2, l3] (vI a :: st) E u = if a = 0 then Rn m_A_nearest 41 [l0, l1, l2, l3] st E u else Rn m_A_nearest 45 [l0, l1, l2, l3] st E u) ∧
  (∀ (l0 l1 l2 : am_V) (a : Int) (st : List am_V) (E : am_E) (u : am_M), Rn m_A_nearest 41 [l0, l1, l2, vI a] st E u = Rn m_A_nearest 42 [l0, l1, l2, vI a] (vI a :: st) E u) ∧
  (∀ (l0 l1 l2 l3 : am_V) (st : List am_V) (E : am_E) (u : am_M), Rn m_A_nearest 42 [l0, l1, l2, l3] st E u = Rn m_A_nearest 54 [l0, l1, l2, l3] st E u) ∧
  (∀ (l1 l2 l3 : am_V) (a : Option Nat) (st : List am_V) (E : am_E) (u : am_M), Rn m_A_nearest 45 [vR a, l1, l2, l3] st E u = Rn m_A_nearest 46 [vR a, l1, l2, l3] (vR a :: st) E u) ∧
  (∀ (l0 l1 l2 l3 : am_V) (st : List am_V) (E : am_E) (u : am_M) (hE : SE E), Rn m_A_nearest 46 [l0, l1, l2, l3] (vR (some 0) :: st) E u = Rn m_A_nearest 49 [l0, l1, l2, l3] (vR (some 1) :: st) E u) ∧
  (∀ (l0 l2 l3 : am_V) (a : Int) (st : List am_V) (E : am_E) (u : am_M), Rn m_A_nearest 49 [l0, vI a, l2, l3] st E u = Rn m_A_nearest 50 [l0, vI a, l2, l3] (vI a :: st) E u) ∧
  (∀ (l0 l1 l2 : am_V) (a : Int) (st : List am_V) (E : am_E) (u : am_M), Rn m_A_nearest 50 [l0, l1, l2, vI a] st E u = Rn m_A_nearest 51 [l0, l1, l2, vI a] (vI a :: st) E u) ∧
  (∀ (l0 l1 l2 l3 : am_V) (a0 : Int) (a1 : Int) (E : am_E) (u : am_M) (hE : SE E), Rn m_A_nearest 51 [l0, l1, l2, l3] [vI a1, vI a0, vR (some 1)] E u = bdI (Rn m_C_far 0 [vR (some 1), vI a0, vI a1, vB false, vB false, vB false] [] E u) (KI m_A_nearest 54 [l0, l1, l2, l3] [])) ∧
  (∀ (l0 l1 l2 l3 : am_V) (a0 : Int) (a1 : Int) (E : am_E) (u : am_M) (hE : SE E), Rn m_A_nearest 51 [l0, l1, l2, l3] [vI a1, vI a0, vR (some 8)] E u = bdI (Rn m_C_far 0 [vR (some 8), vI a0, vI a1, vB false, vB false, vB false] [] E u) (KI m_A_nearest 54 [l0, l1, l2, l3] [])) ∧
  (∀ (l0 l1 l2 l3 : am_V) (a0 : Int) (a1 : Int) (E : am_E) (u : am_M) (hE : SE E), Rn m_A_nearest 51 [l0, l1, l2, l3] [vI a1, vI a0, vR (some 73)] E u = bdI (Rn m_C_far 0 [vR (some 73), vI a0, vI a1, vB false, vB false, vB false] [] E u) (KI m_A_nearest 54 [l0, l1, l2, l3] [])) ∧
  (∀ (l0 l1 l2 l3 : am_V) (a : Int) (E : am_E) (u : am_M), Rn m_A_nearest 54 [l0, l1, l2, l3] [vI a] E u = some (some (vI a), E, u)) :=
  ⟨fun l1 l2 l3 a st E u => q_go (by decide +kernel : am_Pg 159 0 = some (.aload_n 0, 1, [], 0)) rfl,
  fun l0 l1 l2 l3 st E u hE => q_gfR (by decide +kernel : am_Pg 159 1 = some (.getfield 12, 3, [4, 8, 0, 0], 0)) (SE_k4 hE) rfl (SE_r4_0 hE),
  fun l0 l2 l3 a st E u => q_go (by decide +kernel : am_Pg 159 4 = some (.iload_n 1, 1, [], 0)) rfl,
  fun l0 l1 l2 l3 a0  E u hE => q_cI (by decide +kernel : am_Pg 159 5 = some (.invokevirtual 61, 3, [3, 16, 2, 0, 14, 1], 0)) (am_call_V (a := [vI a0]) (st' := []) (Nat.le_of_ble_eq_true rfl) rfl (SE_k0 hE cuB_1)) (by decide +kernel : am_Lm m_C_isCell = 2) (Nat.le_of_ble_eq_true rfl) rfl (by decide +kernel),
  fun l0 l1 l2 l3 a0  E u hE => q_cI (by decide +kernel : am_Pg 159 5 = some (.invokevirtual 61, 3, [3, 16, 2, 0, 14, 1], 0)) (am_call_V (a := [vI a0]) (st' := []) (Nat.le_of_ble_eq_true rfl) rfl (SE_k0 hE cuB_8)) (by decide +kernel : am_Lm m_C_isCell = 2) (Nat.le_of_ble_eq_true rfl) rfl (by decide +kernel),
  fun l0 l1 l2 l3 a0  E u hE => q_cI (by decide +kernel : am_Pg 159 5 = some (.invokevirtual 61, 3, [3, 16, 2, 0, 14, 1], 0)) (am_call_V (a := [vI a0]) (st' := []) (Nat.le_of_ble_eq_true rfl) rfl (SE_k0 hE cuB_73)) (by decide +kernel : am_Lm m_C_isCell = 2) (Nat.le_of_ble_eq_true rfl) rfl (by decide +kernel),
  fun l0 l1 l2 l3 a st E u => q_if_eq (tgt := 20) (by decide +kernel : am_Pg 159 8 = some (.ifCond .eq 12, 3, [], 0)) (by decide),
  fun l0 l1 l3 a st E u => q_go (by decide +kernel : am_Pg 159 11 = some (.iload_n 2, 1, [], 0)) rfl,
  fun l0 l1 l2 l3 st E u => q_go (by decide +kernel : am_Pg 159 12 = some (.iconst 0, 1, [], 0)) rfl,
  fun l0 l1 l2 l3 st E u => q_go (by decide +kernel : am_Pg 159 13 = some (.iconst 1, 1, [], 0)) rfl,
  fun l0 l1 l2 l3 a0 a1 a2  E u => q_cI (by decide +kernel : am_Pg 159 14 = some (.invokestatic 46, 3, [2, 8, 3, 0], 0)) (am_call_S (f := fun _ _ => true) (a := [vI a0, vI a1, vI a2]) (st' := []) (Nat.le_of_ble_eq_true rfl) rfl rfl) (by decide +kernel : am_Lm m_A_isIn = 3) (Nat.le_of_ble_eq_true rfl) rfl (by decide +kernel),
  fun l0 l1 l2 l3 a st E u => q_if_ne (tgt := 22) (by decide +kernel : am_Pg 159 17 = some (.ifCond .ne 5, 3, [], 0)) (by decide),
  fun l0 l1 l2 l3 st E u => q_go (by decide +kernel : am_Pg 159 20 = some (.iconst (-1), 1, [], 0)) rfl,
  fun l0 l1 l2 l3 a E u => q_ret (by decide +kernel : am_Pg 159 21 = some (.ireturn, 1, [], 0)) rfl,
  fun l1 l2 l3 a st E u => q_go (by decide +kernel : am_Pg 159 22 = some (.aload_n 0, 1, [], 0)) rfl,
  fun l0 l1 l2 l3 st E u hE => q_gfR (by decide +kernel : am_Pg 159 23 = some (.getfield 12, 3, [4, 8, 0, 0], 0)) (SE_k4 hE) rfl (SE_r4_0 hE),
  fun l0 l2 l3 a st E u => q_go (by decide +kernel : am_Pg 159 26 = some (.iload_n 1, 1, [], 0)) rfl,
  fun l0 l1 l2 l3 a0  E u hE => q_cI (by decide +kernel : am_Pg 159 27 = some (.invokevirtual 218, 3, [3, 104, 2, 0, 14, 1], 0)) (am_call_V (a := [vI a0]) (st' := []) (Nat.le_of_ble_eq_true rfl) rfl (SE_k0 hE cuB_1)) (by decide +kernel : am_Lm m_C_nearestHole = 8) (Nat.le_of_ble_eq_true rfl) rfl (by decide +kernel),
  fun l0 l1 l2 l3 a0  E u hE => q_cI (by decide +kernel : am_Pg 159 27 = some (.invokevirtual 218, 3, [3, 104, 2, 0, 14, 1], 0)) (am_call_V (a := [vI a0]) (st' := []) (Nat.le_of_ble_eq_true rfl) rfl (SE_k0 hE cuB_8)) (by decide +kernel : am_Lm m_C_nearestHole = 8) (Nat.le_of_ble_eq_true rfl) rfl (by decide +kernel),
  fun l0 l1 l2 l3 a0  E u hE => q_cI (by decide +kernel : am_Pg 159 27 = some (.invokevirtual 218, 3, [3, 104, 2, 0, 14, 1], 0)) (am_call_V (a := [vI a0]) (st' := []) (Nat.le_of_ble_eq_true rfl) rfl (SE_k0 hE cuB_73)) (by decide +kernel : am_Lm m_C_nearestHole = 8) (Nat.le_of_ble_eq_true rfl) rfl (by decide +kernel),
  fun l0 l1 l2 l3 a st E u => q_go (by decide +kernel : am_Pg 159 30 = some (.istore_n 3, 1, [], 0)) rfl,
  fun l0 l1 l2 a st E u => q_go (by decide +kernel : am_Pg 159 31 = some (.iload_n 3, 1, [], 0)) rfl,
  fun l0 l1 l2 l3 st E u => q_go (by decide +kernel : am_Pg 159 32 = some (.bipush (-4), 2, [], 0)) rfl,
  fun l0 l1 l2 l3 a b st E u => q_icmp_eq (tgt := 41) (by decide +kernel : am_Pg 159 34 = some (.if_icmp .eq 7, 3, [], 0)) (by decide),
  fun l0 l1 l3 a st E u => q_go (by decide +kernel : am_Pg 159 37 = some (.iload_n 2, 1, [], 0)) rfl,
  fun l0 l1 l2 l3 a st E u => q_if_ne (tgt := 45) (by decide +kernel : am_Pg 159 38 = some (.ifCond .ne 7, 3, [], 0)) (by decide),
  fun l0 l1 l2 a st E u => q_go (by decide +kernel : am_Pg 159 41 = some (.iload_n 3, 1, [], 0)) rfl,
  fun l0 l1 l2 l3 st E u => q_go (by decide +kernel : am_Pg 159 42 = some (.goto 12, 3, [], 0)) rfl,
  fun l1 l2 l3 a st E u => q_go (by decide +kernel : am_Pg 159 45 = some (.aload_n 0, 1, [], 0)) rfl,
  fun l0 l1 l2 l3 st E u hE => q_gfR (by decide +kernel : am_Pg 159 46 = some (.getfield 12, 3, [4, 8, 0, 0], 0)) (SE_k4 hE) rfl (SE_r4_0 hE),
  fun l0 l2 l3 a st E u => q_go (by decide +kernel : am_Pg 159 49 = some (.iload_n 1, 1, [], 0)) rfl,
  fun l0 l1 l2 a st E u => q_go (by decide +kernel : am_Pg 159 50 = some (.iload_n 3, 1, [], 0)) rfl,
  fun l0 l1 l2 l3 a0 a1  E u hE => q_cI (by decide +kernel : am_Pg 159 51 = some (.invokevirtual 221, 3, [3, 40, 3, 0, 14, 1], 0)) (am_call_V (a := [vI a0, vI a1]) (st' := []) (Nat.le_of_ble_eq_true rfl) rfl (SE_k0 hE cuB_1)) (by decide +kernel : am_Lm m_C_far = 6) (Nat.le_of_ble_eq_true rfl) rfl (by decide +kernel),
  fun l0 l1 l2 l3 a0 a1  E u hE => q_cI (by decide +kernel : am_Pg 159 51 = some (.invokevirtual 221, 3, [3, 40, 3, 0, 14, 1], 0)) (am_call_V (a := [vI a0, vI a1]) (st' := []) (Nat.le_of_ble_eq_true rfl) rfl (SE_k0 hE cuB_8)) (by decide +kernel : am_Lm m_C_far = 6) (Nat.le_of_ble_eq_true rfl) rfl (by decide +kernel),
  fun l0 l1 l2 l3 a0 a1  E u hE => q_cI (by decide +kernel : am_Pg 159 51 = some (.invokevirtual 221, 3, [3, 40, 3, 0, 14, 1], 0)) (am_call_V (a := [vI a0, vI a1]) (st' := []) (Nat.le_of_ble_eq_true rfl) rfl (SE_k0 hE cuB_73)) (by decide +kernel : am_Lm m_C_far = 6) (Nat.le_of_ble_eq_true rfl) rfl (by decide +kernel),
  fun l0 l1 l2 l3 a E u => q_ret (by decide +kernel : am_Pg 159 54 = some (.ireturn, 1, [], 0)) rfl⟩
theorem x_A_has :
  (∀ (l1 : am_V) (a : Int) (st : List am_V) (E : am_E) (u : am_M), Rn m_A_has 0 [vI a, l1] st E u = Rn m_A_has 1 [vI a, l1] (vI a :: st) E u) ∧
  (∀ (l0 : am_V) (a : Int) (st : List am_V) (E : am_E) (u : am_M), Rn m_A_has 1 [l0, vI a] st E u = Rn m_A_has 2 [l0, vI a] (vI a :: st) E u) ∧
  (∀ (l0 l1 : am_V) (a b : Int) (st : List am_V) (E : am_E) (u : am_M), Rn m_A_has 2 [l0, l1] (vI b :: vI a :: st) E u = Rn m_A_has 3 [l0, l1] (vI (i_shr a b) :: st) E u) ∧
  (∀ (l0 l1 : am_V) (st : List am_V) (E : am_E) (u : am_M), Rn m_A_has 3 [l0, l1] st E u = Rn m_A_has 4 [l0, l1] (vI 1 :: st) E u) ∧
  (∀ (l0 l1 : am_V) (a b : Int) (st : List am_V) (E : am_E) (u : am_M), Rn m_A_has 4 [l0, l1] (vI b :: vI a :: st) E u = Rn m_A_has 5 [l0, l1] (vI (i_and a b) :: st) E u) ∧
  (∀ (l0 l1 : am_V) (a : Int) (st : List am_V) (E : am_E) (u : am_M), Rn m_A_has 5 [l0, l1] (vI a :: st) E u = if a = 0 then Rn m_A_has 12 [l0, l1] st E u else Rn m_A_has 8 [l0, l1] st E u) ∧
  (∀ (l0 l1 : am_V) (st : List am_V) (E : am_E) (u : am_M), Rn m_A_has 8 [l0, l1] st E u = Rn m_A_has 9 [l0, l1] (vI 1 :: st) E u) ∧
  (∀ (l0 l1 : am_V) (st : List am_V) (E : am_E) (u : am_M), Rn m_A_has 9 [l0, l1] st E u = Rn m_A_has 13 [l0, l1] st E u) ∧
  (∀ (l0 l1 : am_V) (st : List am_V) (E : am_E) (u : am_M), Rn m_A_has 12 [l0, l1] st E u = Rn m_A_has 13 [l0, l1] (vI 0 :: st) E u) ∧
  (∀ (l0 l1 : am_V) (b : Bool) (E : am_E) (u : am_M), Rn m_A_has 13 [l0, l1] [vI (bI b)] E u = some (some (vI (bI b)), E, u)) ∧
  (∀ (l0 l1 : am_V) (E : am_E) (u : am_M), Rn m_A_has 13 [l0, l1] [vI 1] E u = some (some (vI 1), E, u)) ∧
  (∀ (l0 l1 : am_V) (E : am_E) (u : am_M), Rn m_A_has 13 [l0, l1] [vI 0] E u = some (some (vI 0), E, u)) :=
  ⟨fun l1 a st E u => q_go (by decide +kernel : am_Pg 161 0 = some (.iload_n 0, 1, [], 0)) rfl,
  fun l0 a st E u => q_go (by decide +kernel : am_Pg 161 1 = some (.iload_n 1, 1, [], 0)) rfl,
  fun l0 l1 a b st E u => q_go (by decide +kernel : am_Pg 161 2 = some (.ishr, 1, [], 0)) rfl,
  fun l0 l1 st E u => q_go (by decide +kernel : am_Pg 161 3 = some (.iconst 1, 1, [], 0)) rfl,
  fun l0 l1 a b st E u => q_go (by decide +kernel : am_Pg 161 4 = some (.iand, 1, [], 0)) rfl,
  fun l0 l1 a st E u => q_if_eq (tgt := 12) (by decide +kernel : am_Pg 161 5 = some (.ifCond .eq 7, 3, [], 0)) (by decide),
  fun l0 l1 st E u => q_go (by decide +kernel : am_Pg 161 8 = some (.iconst 1, 1, [], 0)) rfl,
  fun l0 l1 st E u => q_go (by decide +kernel : am_Pg 161 9 = some (.goto 4, 3, [], 0)) rfl,
  fun l0 l1 st E u => q_go (by decide +kernel : am_Pg 161 12 = some (.iconst 0, 1, [], 0)) rfl,
  fun l0 l1 b E u => by cases b <;> exact q_ret (by decide +kernel : am_Pg 161 13 = some (.ireturn, 1, [1], 0)) rfl,
  fun l0 l1 E u => q_ret (by decide +kernel : am_Pg 161 13 = some (.ireturn, 1, [1], 0)) rfl,
  fun l0 l1 E u => q_ret (by decide +kernel : am_Pg 161 13 = some (.ireturn, 1, [1], 0)) rfl⟩
theorem h_A_bound_19 : ∀ (l0 l1 l2 : am_V) (a : Int) (st : List am_V) (E : am_E) (u : am_M), Rn m_A_bound 19 [l0, l1, l2, vI a] st E u = Rn m_A_bound 20 [l0, l1, l2, vI a] (vI a :: st) E u :=
  fun l0 l1 l2 a st E u => q_go (by decide +kernel : am_Pg 163 19 = some (.iload_n 3, 1, [], 0)) rfl
theorem x_A_bound :
  (∀ (l1 l2 l3 : am_V) (a : Option Nat) (st : List am_V) (E : am_E) (u : am_M), Rn m_A_bound 0 [vR a, l1, l2, l3] st E u = Rn m_A_bound 1 [vR a, l1, l2, l3] (vR a :: st) E u) ∧
  (∀ (l0 l1 l2 l3 : am_V) (st : List am_V) (E : am_E) (u : am_M) (hE : SE E), Rn m_A_bound 1 [l0, l1, l2, l3] (vR (some 0) :: st) E u = Rn m_A_bound 4 [l0, l1, l2, l3] (vR (some 1) :: st) E u) ∧
  (∀ (l0 l2 l3 : am_V) (a : Int) (st : List am_V) (E : am_E) (u : am_M), Rn m_A_bound 4 [l0, vI a, l2, l3] st E u = Rn m_A_bound 5 [l0, vI a, l2, l3] (vI a :: st) E u) ∧
  (∀ (l0 l1 l2 l3 : am_V) (a0 : Int) (E : am_E) (u : am_M) (hE : SE E), Rn m_A_bound 5 [l0, l1, l2, l3] [vI a0, vR (some 1)] E u = bdI (Rn m_C_isPin 0 [vR (some 1), vI a0] [] E u) (KI m_A_bound 8 [l0, l1, l2, l3] [])) ∧
  (∀ (l0 l1 l2 l3 : am_V) (a0 : Int) (E : am_E) (u : am_M) (hE : SE E), Rn m_A_bound 5 [l0, l1, l2, l3] [vI a0, vR (some 8)] E u = bdI (Rn m_C_isPin 0 [vR (some 8), vI a0] [] E u) (KI m_A_bound 8 [l0, l1, l2, l3] [])) ∧
  (∀ (l0 l1 l2 l3 : am_V) (a0 : Int) (E : am_E) (u : am_M) (hE : SE E), Rn m_A_bound 5 [l0, l1, l2, l3] [vI a0, vR (some 73)] E u = bdI (Rn m_C_isPin 0 [vR (some 73), vI a0] [] E u) (KI m_A_bound 8 [l0, l1, l2, l3] [])) ∧
  (∀ (l0 l1 l2 l3 : am_V) (a : Int) (st : List am_V) (E : am_E) (u : am_M), Rn m_A_bound 8 [l0, l1, l2, l3] (vI a :: st) E u = if a = 0 then Rn m_A_bound 11 [l0, l1, l2, l3] st E u else Rn m_A_bound 13 [l0, l1, l2, l3] st E u) ∧
  (∀ (l0 l1 l2 l3 : am_V) (st : List am_V) (E : am_E) (u : am_M), Rn m_A_bound 11 [l0, l1, l2, l3] st E u = Rn m_A_bound 12 [l0, l1, l2, l3] (vI (-1) :: st) E u) ∧
  (∀ (l0 l1 l2 l3 : am_V) (a : Int) (E : am_E) (u : am_M), Rn m_A_bound 12 [l0, l1, l2, l3] [vI a] E u = some (some (vI a), E, u)) ∧
  (∀ (l0 l1 l2 l3 : am_V) (st : List am_V) (E : am_E) (u : am_M), Rn m_A_bound 13 [l0, l1, l2, l3] st E u = Rn m_A_bound 14 [l0, l1, l2, l3] (vI 1 :: st) E u) ∧
  (∀ (l0 l2 l3 : am_V) (a : Int) (st : List am_V) (E : am_E) (u : am_M), Rn m_A_bound 14 [l0, vI a, l2, l3] st E u = Rn m_A_bound 15 [l0, vI a, l2, l3] (vI a :: st) E u) ∧
  (∀ (l0 l1 l2 l3 : am_V) (a b : Int) (st : List am_V) (E : am_E) (u : am_M), Rn m_A_bound 15 [l0, l1, l2, l3] (vI b :: vI a :: st) E u = Rn m_A_bound 16 [l0, l1, l2, l3] (vI (i_shl a b) :: st) E u) ∧
  (∀ (l0 l1 l2 l3 : am_V) (a : Int) (st : List am_V) (E : am_E) (u : am_M), Rn m_A_bound 16 [l0, l1, l2, l3] (vI a :: st) E u = Rn m_A_bound 17 [l0, am_fx l1, vI a, l3] st E u) ∧
  (∀ (l0 l1 l2 l3 : am_V) (st : List am_V) (E : am_E) (u : am_M), Rn m_A_bound 17 [l0, l1, l2, l3] st E u = Rn m_A_bound 18 [l0, l1, l2, l3] (vI 1 :: st) E u) ∧
  (∀ (l0 l1 l2 l3 : am_V) (a : Int) (st : List am_V) (E : am_E) (u : am_M), Rn m_A_bound 18 [l0, l1, l2, l3] (vI a :: st) E u = Rn m_A_bound 19 [l0, l1, am_fx l2, vI a] st E u) ∧
  (∀ (l0 l1 l2 l3 : am_V) (st : List am_V) (E : am_E) (u : am_M), Rn m_A_bound 20 [l0, l1, l2, l3] st E u = Rn m_A_bound 22 [l0, l1, l2, l3] (vI 7 :: st) E u) ∧
  (∀ (l0 l1 l2 l3 : am_V) (a b : Int) (st : List am_V) (E : am_E) (u : am_M), Rn m_A_bound 22 [l0, l1, l2, l3] (vI b :: vI a :: st) E u = if a < b then Rn m_A_bound 25 [l0, l1, l2, l3] st E u else Rn m_A_bound 40 [l0, l1, l2, l3] st E u) ∧
  (∀ (l1 l2 l3 : am_V) (a : Option Nat) (st : List am_V) (E : am_E) (u : am_M), Rn m_A_bound 25 [vR a, l1, l2, l3] st E u = Rn m_A_bound 26 [vR a, l1, l2, l3] (vR a :: st) E u) ∧
  (∀ (l0 l1 l2 l3 : am_V) (st : List am_V) (E : am_E) (u : am_M) (hE : SE E), Rn m_A_bound 26 [l0, l1, l2, l3] (vR (some 0) :: st) E u = Rn m_A_bound 29 [l0, l1, l2, l3] (vR (some 1) :: st) E u) ∧
  (∀ (l0 l1 l3 : am_V) (a : Int) (st : List am_V) (E : am_E) (u : am_M), Rn m_A_bound 29 [l0, l1, vI a, l3] st E u = Rn m_A_bound 30 [l0, l1, vI a, l3] (vI a :: st) E u) ∧
  (∀ (l0 l1 l2 l3 : am_V) (a0 : Int) (E : am_E) (u : am_M) (hE : SE E), Rn m_A_bound 30 [l0, l1, l2, l3] [vI a0, vR (some 1)] E u = bdI (Rn m_C_spreads 0 [vR (some 1), vI a0, vB false, vB false, vB false, vB false] [] E u) (KI m_A_bound 33 [l0, l1, l2, l3] [])) ∧
  (∀ (l0 l1 l2 l3 : am_V) (a0 : Int) (E : am_E) (u : am_M) (hE : SE E), Rn m_A_bound 30 [l0, l1, l2, l3] [vI a0, vR (some 8)] E u = bdI (Rn m_C_spreads 0 [vR (some 8), vI a0, vB false, vB false, vB false, vB false] [] E u) (KI m_A_bound 33 [l0, l1, l2, l3] [])) ∧
  (∀ (l0 l1 l2 l3 : am_V) (a0 : Int) (E : am_E) (u : am_M) (hE : SE E), Rn m_A_bound 30 [l0, l1, l2, l3] [vI a0, vR (some 73)] E u = bdI (Rn m_C_spreads 0 [vR (some 73), vI a0, vB false, vB false, vB false, vB false] [] E u) (KI m_A_bound 33 [l0, l1, l2, l3] [])) ∧
  (∀ (l0 l1 l2 l3 : am_V) (a : Int) (st : List am_V) (E : am_E) (u : am_M), Rn m_A_bound 33 [l0, l1, l2, l3] (vI a :: st) E u = Rn m_A_bound 34 [l0, am_fx l1, vI a, l3] st E u) ∧
  (∀ (l0 l1 l2 : am_V) (a : Int) (st : List am_V) (E : am_E) (u : am_M), Rn m_A_bound 34 [l0, l1, l2, vI a] st E u = Rn m_A_bound 37 [l0, l1, am_fx l2, vI (w32 (a + 1))] st E u) ∧
  (∀ (l0 l1 l2 l3 : am_V) (st : List am_V) (E : am_E) (u : am_M), Rn m_A_bound 37 [l0, l1, l2, l3] st E u = Rn m_A_bound 19 [l0, l1, l2, l3] st E u) ∧
  (∀ (l0 l1 l3 : am_V) (a : Int) (st : List am_V) (E : am_E) (u : am_M), Rn m_A_bound 40 [l0, l1, vI a, l3] st E u = Rn m_A_bound 41 [l0, l1, vI a, l3] (vI a :: st) E u) ∧
  (∀ (l0 l1 l2 l3 : am_V) (a : Int) (E : am_E) (u : am_M), Rn m_A_bound 41 [l0, l1, l2, l3] [vI a] E u = some (some (vI a), E, u)) :=
  ⟨fun l1 l2 l3 a st E u => q_go (by decide +kernel : am_Pg 163 0 = some (.aload_n 0, 1, [], 0)) rfl,
  fun l0 l1 l2 l3 st E u hE => q_gfR (by decide +kernel : am_Pg 163 1 = some (.getfield 12, 3, [4, 8, 0, 0], 0)) (SE_k4 hE) rfl (SE_r4_0 hE),
  fun l0 l2 l3 a st E u => q_go (by decide +kernel : am_Pg 163 4 = some (.iload_n 1, 1, [], 0)) rfl,
  fun l0 l1 l2 l3 a0  E u hE => q_cI (by decide +kernel : am_Pg 163 5 = some (.invokevirtual 87, 3, [3, 29, 2, 0, 14, 1], 0)) (am_call_V (a := [vI a0]) (st' := []) (Nat.le_of_ble_eq_true rfl) rfl (SE_k0 hE cuB_1)) (by decide +kernel : am_Lm m_C_isPin = 2) (Nat.le_of_ble_eq_true rfl) rfl (by decide +kernel),
  fun l0 l1 l2 l3 a0  E u hE => q_cI (by decide +kernel : am_Pg 163 5 = some (.invokevirtual 87, 3, [3, 29, 2, 0, 14, 1], 0)) (am_call_V (a := [vI a0]) (st' := []) (Nat.le_of_ble_eq_true rfl) rfl (SE_k0 hE cuB_8)) (by decide +kernel : am_Lm m_C_isPin = 2) (Nat.le_of_ble_eq_true rfl) rfl (by decide +kernel),
  fun l0 l1 l2 l3 a0  E u hE => q_cI (by decide +kernel : am_Pg 163 5 = some (.invokevirtual 87, 3, [3, 29, 2, 0, 14, 1], 0)) (am_call_V (a := [vI a0]) (st' := []) (Nat.le_of_ble_eq_true rfl) rfl (SE_k0 hE cuB_73)) (by decide +kernel : am_Lm m_C_isPin = 2) (Nat.le_of_ble_eq_true rfl) rfl (by decide +kernel),
  fun l0 l1 l2 l3 a st E u => q_if_ne (tgt := 13) (by decide +kernel : am_Pg 163 8 = some (.ifCond .ne 5, 3, [], 0)) (by decide),
  fun l0 l1 l2 l3 st E u => q_go (by decide +kernel : am_Pg 163 11 = some (.iconst (-1), 1, [], 0)) rfl,
  fun l0 l1 l2 l3 a E u => q_ret (by decide +kernel : am_Pg 163 12 = some (.ireturn, 1, [], 0)) rfl,
  fun l0 l1 l2 l3 st E u => q_go (by decide +kernel : am_Pg 163 13 = some (.iconst 1, 1, [], 0)) rfl,
  fun l0 l2 l3 a st E u => q_go (by decide +kernel : am_Pg 163 14 = some (.iload_n 1, 1, [], 0)) rfl,
  fun l0 l1 l2 l3 a b st E u => q_go (by decide +kernel : am_Pg 163 15 = some (.ishl, 1, [], 0)) rfl,
  fun l0 l1 l2 l3 a st E u => q_go (by decide +kernel : am_Pg 163 16 = some (.istore_n 2, 1, [], 0)) rfl,
  fun l0 l1 l2 l3 st E u => q_go (by decide +kernel : am_Pg 163 17 = some (.iconst 1, 1, [], 0)) rfl,
  fun l0 l1 l2 l3 a st E u => q_go (by decide +kernel : am_Pg 163 18 = some (.istore_n 3, 1, [], 0)) rfl,
  fun l0 l1 l2 l3 st E u => q_go (by decide +kernel : am_Pg 163 20 = some (.bipush 7, 2, [], 0)) rfl,
  fun l0 l1 l2 l3 a b st E u => q_icmp_ge (tgt := 40) (by decide +kernel : am_Pg 163 22 = some (.if_icmp .ge 18, 3, [], 0)) (by decide),
  fun l1 l2 l3 a st E u => q_go (by decide +kernel : am_Pg 163 25 = some (.aload_n 0, 1, [], 0)) rfl,
  fun l0 l1 l2 l3 st E u hE => q_gfR (by decide +kernel : am_Pg 163 26 = some (.getfield 12, 3, [4, 8, 0, 0], 0)) (SE_k4 hE) rfl (SE_r4_0 hE),
  fun l0 l1 l3 a st E u => q_go (by decide +kernel : am_Pg 163 29 = some (.iload_n 2, 1, [], 0)) rfl,
  fun l0 l1 l2 l3 a0  E u hE => q_cI (by decide +kernel : am_Pg 163 30 = some (.invokevirtual 225, 3, [3, 162, 2, 0, 14, 1], 0)) (am_call_V (a := [vI a0]) (st' := []) (Nat.le_of_ble_eq_true rfl) rfl (SE_k0 hE cuB_1)) (by decide +kernel : am_Lm m_C_spreads = 6) (Nat.le_of_ble_eq_true rfl) rfl (by decide +kernel),
  fun l0 l1 l2 l3 a0  E u hE => q_cI (by decide +kernel : am_Pg 163 30 = some (.invokevirtual 225, 3, [3, 162, 2, 0, 14, 1], 0)) (am_call_V (a := [vI a0]) (st' := []) (Nat.le_of_ble_eq_true rfl) rfl (SE_k0 hE cuB_8)) (by decide +kernel : am_Lm m_C_spreads = 6) (Nat.le_of_ble_eq_true rfl) rfl (by decide +kernel),
  fun l0 l1 l2 l3 a0  E u hE => q_cI (by decide +kernel : am_Pg 163 30 = some (.invokevirtual 225, 3, [3, 162, 2, 0, 14, 1], 0)) (am_call_V (a := [vI a0]) (st' := []) (Nat.le_of_ble_eq_true rfl) rfl (SE_k0 hE cuB_73)) (by decide +kernel : am_Lm m_C_spreads = 6) (Nat.le_of_ble_eq_true rfl) rfl (by decide +kernel),
  fun l0 l1 l2 l3 a st E u => q_go (by decide +kernel : am_Pg 163 33 = some (.istore_n 2, 1, [], 0)) rfl,
  fun l0 l1 l2 a st E u => q_go (by decide +kernel : am_Pg 163 34 = some (.iinc 3 1, 3, [], 0)) rfl,
  fun l0 l1 l2 l3 st E u => q_go (by decide +kernel : am_Pg 163 37 = some (.goto (-18), 3, [], 0)) rfl,
  fun l0 l1 l3 a st E u => q_go (by decide +kernel : am_Pg 163 40 = some (.iload_n 2, 1, [], 0)) rfl,
  fun l0 l1 l2 l3 a E u => q_ret (by decide +kernel : am_Pg 163 41 = some (.ireturn, 1, [], 0)) rfl⟩
theorem h_A_between_18 : ∀ (l0 l1 l2 l3 : am_V) (a : Int) (st : List am_V) (E : am_E) (u : am_M), Rn m_A_between 18 [l0, l1, l2, l3, vI a] st E u = Rn m_A_between 20 [l0, l1, l2, l3, vI a] (vI a :: st) E u :=
  fun l0 l1 l2 l3 a st E u => q_go (by decide +kernel : am_Pg 166 18 = some (.iload 4, 2, [], 0)) rfl
theorem x_A_between :
  (∀ (l1 l2 l3 l4 : am_V) (a : Option Nat) (st : List am_V) (E : am_E) (u : am_M), Rn m_A_between 0 [vR a, l1, l2, l3, l4] st E u = Rn m_A_between 1 [vR a, l1, l2, l3, l4] (vR a :: st) E u) ∧
  (∀ (l0 l2 l3 l4 : am_V) (a : Int) (st : List am_V) (E : am_E) (u : am_M), Rn m_A_between 1 [l0, vI a, l2, l3, l4] st E u = Rn m_A_between 2 [l0, vI a, l2, l3, l4] (vI a :: st) E u) ∧
  (∀ (l0 l1 l3 l4 : am_V) (a : Int) (st : List am_V) (E : am_E) (u : am_M), Rn m_A_between 2 [l0, l1, vI a, l3, l4] st E u = Rn m_A_between 3 [l0, l1, vI a, l3, l4] (vI a :: st) E u) ∧
  (∀ (l0 l1 l2 l3 l4 : am_V) (a0 : Int) (a1 : Int) (E : am_E) (u : am_M) (hE : SE E), Rn m_A_between 3 [l0, l1, l2, l3, l4] [vI a1, vI a0, vR (some 0)] E u = bdI (Rn m_A_areTwoPins 0 [vR (some 0), vI a0, vI a1] [] E u) (KI m_A_between 6 [l0, l1, l2, l3, l4] [])) ∧
  (∀ (l0 l1 l2 l3 l4 : am_V) (a : Int) (st : List am_V) (E : am_E) (u : am_M), Rn m_A_between 6 [l0, l1, l2, l3, l4] (vI a :: st) E u = if a = 0 then Rn m_A_between 9 [l0, l1, l2, l3, l4] st E u else Rn m_A_between 11 [l0, l1, l2, l3, l4] st E u) ∧
  (∀ (l0 l1 l2 l3 l4 : am_V) (st : List am_V) (E : am_E) (u : am_M), Rn m_A_between 9 [l0, l1, l2, l3, l4] st E u = Rn m_A_between 10 [l0, l1, l2, l3, l4] (vI (-1) :: st) E u) ∧
  (∀ (l0 l1 l2 l3 l4 : am_V) (a : Int) (E : am_E) (u : am_M), Rn m_A_between 10 [l0, l1, l2, l3, l4] [vI a] E u = some (some (vI a), E, u)) ∧
  (∀ (l0 l1 l2 l3 l4 : am_V) (st : List am_V) (E : am_E) (u : am_M), Rn m_A_between 11 [l0, l1, l2, l3, l4] st E u = Rn m_A_between 12 [l0, l1, l2, l3, l4] (vI 1 :: st) E u) ∧
  (∀ (l0 l2 l3 l4 : am_V) (a : Int) (st : List am_V) (E : am_E) (u : am_M), Rn m_A_between 12 [l0, vI a, l2, l3, l4] st E u = Rn m_A_between 13 [l0, vI a, l2, l3, l4] (vI a :: st) E u) ∧
  (∀ (l0 l1 l2 l3 l4 : am_V) (a b : Int) (st : List am_V) (E : am_E) (u : am_M), Rn m_A_between 13 [l0, l1, l2, l3, l4] (vI b :: vI a :: st) E u = Rn m_A_between 14 [l0, l1, l2, l3, l4] (vI (i_shl a b) :: st) E u) ∧
  (∀ (l0 l1 l2 l3 l4 : am_V) (a : Int) (st : List am_V) (E : am_E) (u : am_M), Rn m_A_between 14 [l0, l1, l2, l3, l4] (vI a :: st) E u = Rn m_A_between 15 [l0, l1, am_fx l2, vI a, l4] st E u) ∧
  (∀ (l0 l1 l2 l3 l4 : am_V) (st : List am_V) (E : am_E) (u : am_M), Rn m_A_between 15 [l0, l1, l2, l3, l4] st E u = Rn m_A_between 16 [l0, l1, l2, l3, l4] (vI 1 :: st) E u) ∧
  (∀ (l0 l1 l2 l3 l4 : am_V) (a : Int) (st : List am_V) (E : am_E) (u : am_M), Rn m_A_between 16 [l0, l1, l2, l3, l4] (vI a :: st) E u = Rn m_A_between 18 [l0, l1, l2, am_fx l3, vI a] st E u) ∧
  (∀ (l0 l1 l2 l3 l4 : am_V) (st : List am_V) (E : am_E) (u : am_M), Rn m_A_between 20 [l0, l1, l2, l3, l4] st E u = Rn m_A_between 22 [l0, l1, l2, l3, l4] (vI 7 :: st) E u) ∧
  (∀ (l0 l1 l2 l3 l4 : am_V) (a b : Int) (st : List am_V) (E : am_E) (u : am_M), Rn m_A_between 22 [l0, l1, l2, l3, l4] (vI b :: vI a :: st) E u = if a < b then Rn m_A_between 25 [l0, l1, l2, l3, l4] st E u else Rn m_A_between 51 [l0, l1, l2, l3, l4] st E u) ∧
  (∀ (l1 l2 l3 l4 : am_V) (a : Option Nat) (st : List am_V) (E : am_E) (u : am_M), Rn m_A_between 25 [vR a, l1, l2, l3, l4] st E u = Rn m_A_between 26 [vR a, l1, l2, l3, l4] (vR a :: st) E u) ∧
  (∀ (l0 l1 l2 l3 l4 : am_V) (st : List am_V) (E : am_E) (u : am_M) (hE : SE E), Rn m_A_between 26 [l0, l1, l2, l3, l4] (vR (some 0) :: st) E u = Rn m_A_between 29 [l0, l1, l2, l3, l4] (vR (some 1) :: st) E u) ∧
  (∀ (l0 l1 l2 l4 : am_V) (a : Int) (st : List am_V) (E : am_E) (u : am_M), Rn m_A_between 29 [l0, l1, l2, vI a, l4] st E u = Rn m_A_between 30 [l0, l1, l2, vI a, l4] (vI a :: st) E u) ∧
  (∀ (l0 l1 l2 l3 l4 : am_V) (a0 : Int) (E : am_E) (u : am_M) (hE : SE E), Rn m_A_between 30 [l0, l1, l2, l3, l4] [vI a0, vR (some 1)] E u = bdI (Rn m_C_spreads 0 [vR (some 1), vI a0, vB false, vB false, vB false, vB false] [] E u) (KI m_A_between 33 [l0, l1, l2, l3, l4] [])) ∧
  (∀ (l0 l1 l2 l3 l4 : am_V) (a0 : Int) (E : am_E) (u : am_M) (hE : SE E), Rn m_A_between 30 [l0, l1, l2, l3, l4] [vI a0, vR (some 8)] E u = bdI (Rn m_C_spreads 0 [vR (some 8), vI a0, vB false, vB false, vB false, vB false] [] E u) (KI m_A_between 33 [l0, l1, l2, l3, l4] [])) ∧
  (∀ (l0 l1 l2 l3 l4 : am_V) (a0 : Int) (E : am_E) (u : am_M) (hE : SE E), Rn m_A_between 30 [l0, l1, l2, l3, l4] [vI a0, vR (some 73)] E u = bdI (Rn m_C_spreads 0 [vR (some 73), vI a0, vB false, vB false, vB false, vB false] [] E u) (KI m_A_between 33 [l0, l1, l2, l3, l4] [])) ∧
  (∀ (l0 l1 l2 l3 l4 : am_V) (a : Int) (st : List am_V) (E : am_E) (u : am_M), Rn m_A_between 33 [l0, l1, l2, l3, l4] (vI a :: st) E u = Rn m_A_between 34 [l0, l1, am_fx l2, vI a, l4] st E u) ∧
  (∀ (l0 l1 l2 l4 : am_V) (a : Int) (st : List am_V) (E : am_E) (u : am_M), Rn m_A_between 34 [l0, l1, l2, vI a, l4] st E u = Rn m_A_between 35 [l0, l1, l2, vI a, l4] (vI a :: st) E u) ∧
  (∀ (l0 l1 l3 l4 : am_V) (a : Int) (st : List am_V) (E : am_E) (u : am_M), Rn m_A_between 35 [l0, l1, vI a, l3, l4] st E u = Rn m_A_between 36 [l0, l1, vI a, l3, l4] (vI a :: st) E u) ∧
  (∀ (l0 l1 l2 l3 l4 : am_V) (a0 : Int) (a1 : Int) (E : am_E) (u : am_M), Rn m_A_between 36 [l0, l1, l2, l3, l4] [vI a1, vI a0] E u = bdI (Rn m_A_has 0 [vI a0, vI a1] [] E u) (KI m_A_between 39 [l0, l1, l2, l3, l4] [])) ∧
  (∀ (l0 l1 l2 l3 l4 : am_V) (a : Int) (st : List am_V) (E : am_E) (u : am_M), Rn m_A_between 39 [l0, l1, l2, l3, l4] (vI a :: st) E u = if a = 0 then Rn m_A_between 45 [l0, l1, l2, l3, l4] st E u else Rn m_A_between 42 [l0, l1, l2, l3, l4] st E u) ∧
  (∀ (l0 l1 l2 l3 : am_V) (a : Int) (st : List am_V) (E : am_E) (u : am_M), Rn m_A_between 42 [l0, l1, l2, l3, vI a] st E u = Rn m_A_between 44 [l0, l1, l2, l3, vI a] (vI a :: st) E u) ∧
  (∀ (l0 l1 l2 l3 l4 : am_V) (a : Int) (E : am_E) (u : am_M), Rn m_A_between 44 [l0, l1, l2, l3, l4] [vI a] E u = some (some (vI a), E, u)) ∧
  (∀ (l0 l1 l2 l3 : am_V) (a : Int) (st : List am_V) (E : am_E) (u : am_M), Rn m_A_between 45 [l0, l1, l2, l3, vI a] st E u = Rn m_A_between 48 [l0, l1, l2, am_fx l3, vI (w32 (a + 1))] st E u) ∧
  (∀ (l0 l1 l2 l3 l4 : am_V) (st : List am_V) (E : am_E) (u : am_M), Rn m_A_between 48 [l0, l1, l2, l3, l4] st E u = Rn m_A_between 18 [l0, l1, l2, l3, l4] st E u) ∧
  (∀ (l0 l1 l2 l3 l4 : am_V) (st : List am_V) (E : am_E) (u : am_M), Rn m_A_between 51 [l0, l1, l2, l3, l4] st E u = Rn m_A_between 53 [l0, l1, l2, l3, l4] (vI (-4) :: st) E u) ∧
  (∀ (l0 l1 l2 l3 l4 : am_V) (a : Int) (E : am_E) (u : am_M), Rn m_A_between 53 [l0, l1, l2, l3, l4] [vI a] E u = some (some (vI a), E, u)) :=
  ⟨fun l1 l2 l3 l4 a st E u => q_go (by decide +kernel : am_Pg 166 0 = some (.aload_n 0, 1, [], 0)) rfl,
  fun l0 l2 l3 l4 a st E u => q_go (by decide +kernel : am_Pg 166 1 = some (.iload_n 1, 1, [], 0)) rfl,
  fun l0 l1 l3 l4 a st E u => q_go (by decide +kernel : am_Pg 166 2 = some (.iload_n 2, 1, [], 0)) rfl,
  fun l0 l1 l2 l3 l4 a0 a1  E u hE => q_cI (by decide +kernel : am_Pg 166 3 = some (.invokevirtual 77, 3, [3, 30, 3, 4, 8, 0], 0)) (am_call_V (a := [vI a0, vI a1]) (st' := []) (Nat.le_of_ble_eq_true rfl) rfl (SE_k4 hE)) (by decide +kernel : am_Lm m_A_areTwoPins = 3) (Nat.le_of_ble_eq_true rfl) rfl (by decide +kernel),
  fun l0 l1 l2 l3 l4 a st E u => q_if_ne (tgt := 11) (by decide +kernel : am_Pg 166 6 = some (.ifCond .ne 5, 3, [], 0)) (by decide),
  fun l0 l1 l2 l3 l4 st E u => q_go (by decide +kernel : am_Pg 166 9 = some (.iconst (-1), 1, [], 0)) rfl,
  fun l0 l1 l2 l3 l4 a E u => q_ret (by decide +kernel : am_Pg 166 10 = some (.ireturn, 1, [], 0)) rfl,
  fun l0 l1 l2 l3 l4 st E u => q_go (by decide +kernel : am_Pg 166 11 = some (.iconst 1, 1, [], 0)) rfl,
  fun l0 l2 l3 l4 a st E u => q_go (by decide +kernel : am_Pg 166 12 = some (.iload_n 1, 1, [], 0)) rfl,
  fun l0 l1 l2 l3 l4 a b st E u => q_go (by decide +kernel : am_Pg 166 13 = some (.ishl, 1, [], 0)) rfl,
  fun l0 l1 l2 l3 l4 a st E u => q_go (by decide +kernel : am_Pg 166 14 = some (.istore_n 3, 1, [], 0)) rfl,
  fun l0 l1 l2 l3 l4 st E u => q_go (by decide +kernel : am_Pg 166 15 = some (.iconst 1, 1, [], 0)) rfl,
  fun l0 l1 l2 l3 l4 a st E u => q_go (by decide +kernel : am_Pg 166 16 = some (.istore 4, 2, [], 0)) rfl,
  fun l0 l1 l2 l3 l4 st E u => q_go (by decide +kernel : am_Pg 166 20 = some (.bipush 7, 2, [], 0)) rfl,
  fun l0 l1 l2 l3 l4 a b st E u => q_icmp_ge (tgt := 51) (by decide +kernel : am_Pg 166 22 = some (.if_icmp .ge 29, 3, [], 0)) (by decide),
  fun l1 l2 l3 l4 a st E u => q_go (by decide +kernel : am_Pg 166 25 = some (.aload_n 0, 1, [], 0)) rfl,
  fun l0 l1 l2 l3 l4 st E u hE => q_gfR (by decide +kernel : am_Pg 166 26 = some (.getfield 12, 3, [4, 8, 0, 0], 0)) (SE_k4 hE) rfl (SE_r4_0 hE),
  fun l0 l1 l2 l4 a st E u => q_go (by decide +kernel : am_Pg 166 29 = some (.iload_n 3, 1, [], 0)) rfl,
  fun l0 l1 l2 l3 l4 a0  E u hE => q_cI (by decide +kernel : am_Pg 166 30 = some (.invokevirtual 225, 3, [3, 162, 2, 0, 14, 1], 0)) (am_call_V (a := [vI a0]) (st' := []) (Nat.le_of_ble_eq_true rfl) rfl (SE_k0 hE cuB_1)) (by decide +kernel : am_Lm m_C_spreads = 6) (Nat.le_of_ble_eq_true rfl) rfl (by decide +kernel),
  fun l0 l1 l2 l3 l4 a0  E u hE => q_cI (by decide +kernel : am_Pg 166 30 = some (.invokevirtual 225, 3, [3, 162, 2, 0, 14, 1], 0)) (am_call_V (a := [vI a0]) (st' := []) (Nat.le_of_ble_eq_true rfl) rfl (SE_k0 hE cuB_8)) (by decide +kernel : am_Lm m_C_spreads = 6) (Nat.le_of_ble_eq_true rfl) rfl (by decide +kernel),
  fun l0 l1 l2 l3 l4 a0  E u hE => q_cI (by decide +kernel : am_Pg 166 30 = some (.invokevirtual 225, 3, [3, 162, 2, 0, 14, 1], 0)) (am_call_V (a := [vI a0]) (st' := []) (Nat.le_of_ble_eq_true rfl) rfl (SE_k0 hE cuB_73)) (by decide +kernel : am_Lm m_C_spreads = 6) (Nat.le_of_ble_eq_true rfl) rfl (by decide +kernel),
  fun l0 l1 l2 l3 l4 a st E u => q_go (by decide +kernel : am_Pg 166 33 = some (.istore_n 3, 1, [], 0)) rfl,
  fun l0 l1 l2 l4 a st E u => q_go (by decide +kernel : am_Pg 166 34 = some (.iload_n 3, 1, [], 0)) rfl,
  fun l0 l1 l3 l4 a st E u => q_go (by decide +kernel : am_Pg 166 35 = some (.iload_n 2, 1, [], 0)) rfl,
  fun l0 l1 l2 l3 l4 a0 a1  E u => q_cI (by decide +kernel : am_Pg 166 36 = some (.invokestatic 228, 3, [2, 161, 2, 0], 0)) (am_call_S (f := fun _ _ => true) (a := [vI a0, vI a1]) (st' := []) (Nat.le_of_ble_eq_true rfl) rfl rfl) (by decide +kernel : am_Lm m_A_has = 2) (Nat.le_of_ble_eq_true rfl) rfl (by decide +kernel),
  fun l0 l1 l2 l3 l4 a st E u => q_if_eq (tgt := 45) (by decide +kernel : am_Pg 166 39 = some (.ifCond .eq 6, 3, [], 0)) (by decide),
  fun l0 l1 l2 l3 a st E u => q_go (by decide +kernel : am_Pg 166 42 = some (.iload 4, 2, [], 0)) rfl,
  fun l0 l1 l2 l3 l4 a E u => q_ret (by decide +kernel : am_Pg 166 44 = some (.ireturn, 1, [], 0)) rfl,
  fun l0 l1 l2 l3 a st E u => q_go (by decide +kernel : am_Pg 166 45 = some (.iinc 4 1, 3, [], 0)) rfl,
  fun l0 l1 l2 l3 l4 st E u => q_go (by decide +kernel : am_Pg 166 48 = some (.goto (-30), 3, [], 0)) rfl,
  fun l0 l1 l2 l3 l4 st E u => q_go (by decide +kernel : am_Pg 166 51 = some (.bipush (-4), 2, [], 0)) rfl,
  fun l0 l1 l2 l3 l4 a E u => q_ret (by decide +kernel : am_Pg 166 53 = some (.ireturn, 1, [], 0)) rfl⟩
theorem x_A_which :
  (∀ (l0 : am_V) (a : Int) (st : List am_V) (E : am_E) (u : am_M), Rn m_A_which 0 [l0, vI a] st E u = Rn m_A_which 1 [l0, vI a] (vI a :: st) E u) ∧
  (∀ (l0 l1 : am_V) (a : Int) (st : List am_V) (E : am_E) (u : am_M), Rn m_A_which 1 [l0, l1] (vI a :: st) E u = if a = 0 then Rn m_A_which 28 [l0, l1] st E u else if a = 1 then Rn m_A_which 36 [l0, l1] st E u else Rn m_A_which 44 [l0, l1] st E u) ∧
  (∀ (l1 : am_V) (a : Option Nat) (st : List am_V) (E : am_E) (u : am_M), Rn m_A_which 28 [vR a, l1] st E u = Rn m_A_which 29 [vR a, l1] (vR a :: st) E u) ∧
  (∀ (l0 l1 : am_V) (st : List am_V) (E : am_E) (u : am_M) (hE : SE E), Rn m_A_which 29 [l0, l1] (vR (some 0) :: st) E u = Rn m_A_which 32 [l0, l1] (vR (some 1) :: st) E u) ∧
  (∀ (l0 l1 : am_V) (E : am_E) (u : am_M) (hE : SE E), Rn m_A_which 32 [l0, l1] [vR (some 1)] E u = bdI (Rn m_C_aloneSet 0 [vR (some 1), vB false, vB false] [] E u) (KI m_A_which 35 [l0, l1] [])) ∧
  (∀ (l0 l1 : am_V) (E : am_E) (u : am_M) (hE : SE E), Rn m_A_which 32 [l0, l1] [vR (some 8)] E u = bdI (Rn m_C_aloneSet 0 [vR (some 8), vB false, vB false] [] E u) (KI m_A_which 35 [l0, l1] [])) ∧
  (∀ (l0 l1 : am_V) (E : am_E) (u : am_M) (hE : SE E), Rn m_A_which 32 [l0, l1] [vR (some 73)] E u = bdI (Rn m_C_aloneSet 0 [vR (some 73), vB false, vB false] [] E u) (KI m_A_which 35 [l0, l1] [])) ∧
  (∀ (l0 l1 : am_V) (a : Int) (E : am_E) (u : am_M), Rn m_A_which 35 [l0, l1] [vI a] E u = some (some (vI a), E, u)) ∧
  (∀ (l1 : am_V) (a : Option Nat) (st : List am_V) (E : am_E) (u : am_M), Rn m_A_which 36 [vR a, l1] st E u = Rn m_A_which 37 [vR a, l1] (vR a :: st) E u) ∧
  (∀ (l0 l1 : am_V) (st : List am_V) (E : am_E) (u : am_M) (hE : SE E), Rn m_A_which 37 [l0, l1] (vR (some 0) :: st) E u = Rn m_A_which 40 [l0, l1] (vR (some 1) :: st) E u) ∧
  (∀ (l0 l1 : am_V) (E : am_E) (u : am_M) (hE : SE E), Rn m_A_which 40 [l0, l1] [vR (some 1)] E u = bdI (Rn m_C_tautSet 0 [vR (some 1), vB false, vB false, vB false, vB false] [] E u) (KI m_A_which 43 [l0, l1] [])) ∧
  (∀ (l0 l1 : am_V) (E : am_E) (u : am_M) (hE : SE E), Rn m_A_which 40 [l0, l1] [vR (some 8)] E u = bdI (Rn m_C_tautSet 0 [vR (some 8), vB false, vB false, vB false, vB false] [] E u) (KI m_A_which 43 [l0, l1] [])) ∧
  (∀ (l0 l1 : am_V) (E : am_E) (u : am_M) (hE : SE E), Rn m_A_which 40 [l0, l1] [vR (some 73)] E u = bdI (Rn m_C_tautSet 0 [vR (some 73), vB false, vB false, vB false, vB false] [] E u) (KI m_A_which 43 [l0, l1] [])) ∧
  (∀ (l0 l1 : am_V) (a : Int) (E : am_E) (u : am_M), Rn m_A_which 43 [l0, l1] [vI a] E u = some (some (vI a), E, u)) ∧
  (∀ (l0 l1 : am_V) (st : List am_V) (E : am_E) (u : am_M), Rn m_A_which 44 [l0, l1] st E u = Rn m_A_which 45 [l0, l1] (vI (-1) :: st) E u) ∧
  (∀ (l0 l1 : am_V) (a : Int) (E : am_E) (u : am_M), Rn m_A_which 45 [l0, l1] [vI a] E u = some (some (vI a), E, u)) :=
  ⟨fun l0 a st E u => q_go (by decide +kernel : am_Pg 170 0 = some (.iload_n 1, 1, [], 0)) rfl,
  (fun l0 l1 a st E u => by
  by_cases h0 : a = 0
  · subst h0; rw [if_pos rfl]; exact q_go (by decide +kernel : am_Pg 170 1 = some (.lookupswitch 43 #[(0, 27), (1, 35)], 27, [], 0)) rfl
  rw [if_neg h0]
  by_cases h1 : a = 1
  · subst h1; rw [if_pos rfl]; exact q_go (by decide +kernel : am_Pg 170 1 = some (.lookupswitch 43 #[(0, 27), (1, 35)], 27, [], 0)) rfl
  rw [if_neg h1]
  refine q_go (by decide +kernel : am_Pg 170 1 = some (.lookupswitch 43 #[(0, 27), (1, 35)], 27, [], 0)) ?_
  simp only [am_step]
  rw [if_pos (by decide)]
  have e : Op.lookupswitch.offset #[(0, 27), (1, 35)].toList 43 a = 43 := by
    show Op.lookupswitch.offset [(0, 27), (1, 35)] 43 a = _
    rw [Op.lookupswitch.offset_cons, if_neg (Ne.symm h0), Op.lookupswitch.offset_cons, if_neg (Ne.symm h1)]
    rfl
  rw [e]; rfl),
  fun l1 a st E u => q_go (by decide +kernel : am_Pg 170 28 = some (.aload_n 0, 1, [], 0)) rfl,
  fun l0 l1 st E u hE => q_gfR (by decide +kernel : am_Pg 170 29 = some (.getfield 12, 3, [4, 8, 0, 0], 0)) (SE_k4 hE) rfl (SE_r4_0 hE),
  fun l0 l1   E u hE => q_cI (by decide +kernel : am_Pg 170 32 = some (.invokevirtual 231, 3, [3, 168, 1, 0, 14, 1], 0)) (am_call_V (a := []) (st' := []) (Nat.le_of_ble_eq_true rfl) rfl (SE_k0 hE cuB_1)) (by decide +kernel : am_Lm m_C_aloneSet = 3) (Nat.le_of_ble_eq_true rfl) rfl (by decide +kernel),
  fun l0 l1   E u hE => q_cI (by decide +kernel : am_Pg 170 32 = some (.invokevirtual 231, 3, [3, 168, 1, 0, 14, 1], 0)) (am_call_V (a := []) (st' := []) (Nat.le_of_ble_eq_true rfl) rfl (SE_k0 hE cuB_8)) (by decide +kernel : am_Lm m_C_aloneSet = 3) (Nat.le_of_ble_eq_true rfl) rfl (by decide +kernel),
  fun l0 l1   E u hE => q_cI (by decide +kernel : am_Pg 170 32 = some (.invokevirtual 231, 3, [3, 168, 1, 0, 14, 1], 0)) (am_call_V (a := []) (st' := []) (Nat.le_of_ble_eq_true rfl) rfl (SE_k0 hE cuB_73)) (by decide +kernel : am_Lm m_C_aloneSet = 3) (Nat.le_of_ble_eq_true rfl) rfl (by decide +kernel),
  fun l0 l1 a E u => q_ret (by decide +kernel : am_Pg 170 35 = some (.ireturn, 1, [], 0)) rfl,
  fun l1 a st E u => q_go (by decide +kernel : am_Pg 170 36 = some (.aload_n 0, 1, [], 0)) rfl,
  fun l0 l1 st E u hE => q_gfR (by decide +kernel : am_Pg 170 37 = some (.getfield 12, 3, [4, 8, 0, 0], 0)) (SE_k4 hE) rfl (SE_r4_0 hE),
  fun l0 l1   E u hE => q_cI (by decide +kernel : am_Pg 170 40 = some (.invokevirtual 234, 3, [3, 169, 1, 0, 14, 1], 0)) (am_call_V (a := []) (st' := []) (Nat.le_of_ble_eq_true rfl) rfl (SE_k0 hE cuB_1)) (by decide +kernel : am_Lm m_C_tautSet = 5) (Nat.le_of_ble_eq_true rfl) rfl (by decide +kernel),
  fun l0 l1   E u hE => q_cI (by decide +kernel : am_Pg 170 40 = some (.invokevirtual 234, 3, [3, 169, 1, 0, 14, 1], 0)) (am_call_V (a := []) (st' := []) (Nat.le_of_ble_eq_true rfl) rfl (SE_k0 hE cuB_8)) (by decide +kernel : am_Lm m_C_tautSet = 5) (Nat.le_of_ble_eq_true rfl) rfl (by decide +kernel),
  fun l0 l1   E u hE => q_cI (by decide +kernel : am_Pg 170 40 = some (.invokevirtual 234, 3, [3, 169, 1, 0, 14, 1], 0)) (am_call_V (a := []) (st' := []) (Nat.le_of_ble_eq_true rfl) rfl (SE_k0 hE cuB_73)) (by decide +kernel : am_Lm m_C_tautSet = 5) (Nat.le_of_ble_eq_true rfl) rfl (by decide +kernel),
  fun l0 l1 a E u => q_ret (by decide +kernel : am_Pg 170 43 = some (.ireturn, 1, [], 0)) rfl,
  fun l0 l1 st E u => q_go (by decide +kernel : am_Pg 170 44 = some (.iconst (-1), 1, [], 0)) rfl,
  fun l0 l1 a E u => q_ret (by decide +kernel : am_Pg 170 45 = some (.ireturn, 1, [], 0)) rfl⟩
theorem h_A_power_4 : ∀ (l0 l1 l2 : am_V) (a : Int) (st : List am_V) (E : am_E) (u : am_M), Rn m_A_power 4 [l0, l1, l2, vI a] st E u = Rn m_A_power 5 [l0, l1, l2, vI a] (vI a :: st) E u :=
  fun l0 l1 l2 a st E u => q_go (by decide +kernel : am_Pg 172 4 = some (.iload_n 3, 1, [], 0)) rfl
theorem x_A_power :
  (∀ (l0 l1 l2 l3 : am_V) (st : List am_V) (E : am_E) (u : am_M), Rn m_A_power 0 [l0, l1, l2, l3] st E u = Rn m_A_power 1 [l0, l1, l2, l3] (vI 1 :: st) E u) ∧
  (∀ (l0 l1 l2 l3 : am_V) (a : Int) (st : List am_V) (E : am_E) (u : am_M), Rn m_A_power 1 [l0, l1, l2, l3] (vI a :: st) E u = Rn m_A_power 2 [l0, am_fx l1, vI a, l3] st E u) ∧
  (∀ (l0 l1 l2 l3 : am_V) (st : List am_V) (E : am_E) (u : am_M), Rn m_A_power 2 [l0, l1, l2, l3] st E u = Rn m_A_power 3 [l0, l1, l2, l3] (vI 0 :: st) E u) ∧
  (∀ (l0 l1 l2 l3 : am_V) (a : Int) (st : List am_V) (E : am_E) (u : am_M), Rn m_A_power 3 [l0, l1, l2, l3] (vI a :: st) E u = Rn m_A_power 4 [l0, l1, am_fx l2, vI a] st E u) ∧
  (∀ (l0 l2 l3 : am_V) (a : Int) (st : List am_V) (E : am_E) (u : am_M), Rn m_A_power 5 [l0, vI a, l2, l3] st E u = Rn m_A_power 6 [l0, vI a, l2, l3] (vI a :: st) E u) ∧
  (∀ (l0 l1 l2 l3 : am_V) (a b : Int) (st : List am_V) (E : am_E) (u : am_M), Rn m_A_power 6 [l0, l1, l2, l3] (vI b :: vI a :: st) E u = if a < b then Rn m_A_power 9 [l0, l1, l2, l3] st E u else Rn m_A_power 19 [l0, l1, l2, l3] st E u) ∧
  (∀ (l0 l1 l3 : am_V) (a : Int) (st : List am_V) (E : am_E) (u : am_M), Rn m_A_power 9 [l0, l1, vI a, l3] st E u = Rn m_A_power 10 [l0, l1, vI a, l3] (vI a :: st) E u) ∧
  (∀ (l1 l2 l3 : am_V) (a : Int) (st : List am_V) (E : am_E) (u : am_M), Rn m_A_power 10 [vI a, l1, l2, l3] st E u = Rn m_A_power 11 [vI a, l1, l2, l3] (vI a :: st) E u) ∧
  (∀ (l0 l1 l2 l3 : am_V) (a b : Int) (st : List am_V) (E : am_E) (u : am_M), Rn m_A_power 11 [l0, l1, l2, l3] (vI b :: vI a :: st) E u = Rn m_A_power 12 [l0, l1, l2, l3] (vI (w32 (a * b)) :: st) E u) ∧
  (∀ (l0 l1 l2 l3 : am_V) (a : Int) (st : List am_V) (E : am_E) (u : am_M), Rn m_A_power 12 [l0, l1, l2, l3] (vI a :: st) E u = Rn m_A_power 13 [l0, am_fx l1, vI a, l3] st E u) ∧
  (∀ (l0 l1 l2 : am_V) (a : Int) (st : List am_V) (E : am_E) (u : am_M), Rn m_A_power 13 [l0, l1, l2, vI a] st E u = Rn m_A_power 16 [l0, l1, am_fx l2, vI (w32 (a + 1))] st E u) ∧
  (∀ (l0 l1 l2 l3 : am_V) (st : List am_V) (E : am_E) (u : am_M), Rn m_A_power 16 [l0, l1, l2, l3] st E u = Rn m_A_power 4 [l0, l1, l2, l3] st E u) ∧
  (∀ (l0 l1 l3 : am_V) (a : Int) (st : List am_V) (E : am_E) (u : am_M), Rn m_A_power 19 [l0, l1, vI a, l3] st E u = Rn m_A_power 20 [l0, l1, vI a, l3] (vI a :: st) E u) ∧
  (∀ (l0 l1 l2 l3 : am_V) (a : Int) (E : am_E) (u : am_M), Rn m_A_power 20 [l0, l1, l2, l3] [vI a] E u = some (some (vI a), E, u)) :=
  ⟨fun l0 l1 l2 l3 st E u => q_go (by decide +kernel : am_Pg 172 0 = some (.iconst 1, 1, [], 0)) rfl,
  fun l0 l1 l2 l3 a st E u => q_go (by decide +kernel : am_Pg 172 1 = some (.istore_n 2, 1, [], 0)) rfl,
  fun l0 l1 l2 l3 st E u => q_go (by decide +kernel : am_Pg 172 2 = some (.iconst 0, 1, [], 0)) rfl,
  fun l0 l1 l2 l3 a st E u => q_go (by decide +kernel : am_Pg 172 3 = some (.istore_n 3, 1, [], 0)) rfl,
  fun l0 l2 l3 a st E u => q_go (by decide +kernel : am_Pg 172 5 = some (.iload_n 1, 1, [], 0)) rfl,
  fun l0 l1 l2 l3 a b st E u => q_icmp_ge (tgt := 19) (by decide +kernel : am_Pg 172 6 = some (.if_icmp .ge 13, 3, [], 0)) (by decide),
  fun l0 l1 l3 a st E u => q_go (by decide +kernel : am_Pg 172 9 = some (.iload_n 2, 1, [], 0)) rfl,
  fun l1 l2 l3 a st E u => q_go (by decide +kernel : am_Pg 172 10 = some (.iload_n 0, 1, [], 0)) rfl,
  fun l0 l1 l2 l3 a b st E u => q_go (by decide +kernel : am_Pg 172 11 = some (.imul, 1, [], 0)) rfl,
  fun l0 l1 l2 l3 a st E u => q_go (by decide +kernel : am_Pg 172 12 = some (.istore_n 2, 1, [], 0)) rfl,
  fun l0 l1 l2 a st E u => q_go (by decide +kernel : am_Pg 172 13 = some (.iinc 3 1, 3, [], 0)) rfl,
  fun l0 l1 l2 l3 st E u => q_go (by decide +kernel : am_Pg 172 16 = some (.goto (-12), 3, [], 0)) rfl,
  fun l0 l1 l3 a st E u => q_go (by decide +kernel : am_Pg 172 19 = some (.iload_n 2, 1, [], 0)) rfl,
  fun l0 l1 l2 l3 a E u => q_ret (by decide +kernel : am_Pg 172 20 = some (.ireturn, 1, [], 0)) rfl⟩
theorem h_A_commonDivisor_2 : ∀ (l0 l1 l3 : am_V) (a : Int) (st : List am_V) (E : am_E) (u : am_M), Rn m_A_commonDivisor 2 [l0, l1, vI a, l3] st E u = Rn m_A_commonDivisor 3 [l0, l1, vI a, l3] (vI a :: st) E u :=
  fun l0 l1 l3 a st E u => q_go (by decide +kernel : am_Pg 173 2 = some (.iload_n 2, 1, [], 0)) rfl
theorem x_A_commonDivisor :
  (∀ (l0 l1 l2 l3 : am_V) (st : List am_V) (E : am_E) (u : am_M), Rn m_A_commonDivisor 0 [l0, l1, l2, l3] st E u = Rn m_A_commonDivisor 1 [l0, l1, l2, l3] (vI 0 :: st) E u) ∧
  (∀ (l0 l1 l2 l3 : am_V) (a : Int) (st : List am_V) (E : am_E) (u : am_M), Rn m_A_commonDivisor 1 [l0, l1, l2, l3] (vI a :: st) E u = Rn m_A_commonDivisor 2 [l0, am_fx l1, vI a, l3] st E u) ∧
  (∀ (l0 l1 l2 l3 : am_V) (st : List am_V) (E : am_E) (u : am_M), Rn m_A_commonDivisor 3 [l0, l1, l2, l3] st E u = Rn m_A_commonDivisor 5 [l0, l1, l2, l3] (vI 64 :: st) E u) ∧
  (∀ (l0 l1 l2 l3 : am_V) (a b : Int) (st : List am_V) (E : am_E) (u : am_M), Rn m_A_commonDivisor 5 [l0, l1, l2, l3] (vI b :: vI a :: st) E u = if a < b then Rn m_A_commonDivisor 8 [l0, l1, l2, l3] st E u else Rn m_A_commonDivisor 26 [l0, l1, l2, l3] st E u) ∧
  (∀ (l0 l2 l3 : am_V) (a : Int) (st : List am_V) (E : am_E) (u : am_M), Rn m_A_commonDivisor 8 [l0, vI a, l2, l3] st E u = Rn m_A_commonDivisor 9 [l0, vI a, l2, l3] (vI a :: st) E u) ∧
  (∀ (l0 l1 l2 l3 : am_V) (a : Int) (st : List am_V) (E : am_E) (u : am_M), Rn m_A_commonDivisor 9 [l0, l1, l2, l3] (vI a :: st) E u = if a = 0 then Rn m_A_commonDivisor 26 [l0, l1, l2, l3] st E u else Rn m_A_commonDivisor 12 [l0, l1, l2, l3] st E u) ∧
  (∀ (l1 l2 l3 : am_V) (a : Int) (st : List am_V) (E : am_E) (u : am_M), Rn m_A_commonDivisor 12 [vI a, l1, l2, l3] st E u = Rn m_A_commonDivisor 13 [vI a, l1, l2, l3] (vI a :: st) E u) ∧
  (∀ (l0 l2 l3 : am_V) (a : Int) (st : List am_V) (E : am_E) (u : am_M), Rn m_A_commonDivisor 13 [l0, vI a, l2, l3] st E u = Rn m_A_commonDivisor 14 [l0, vI a, l2, l3] (vI a :: st) E u) ∧
  (∀ (l0 l1 l2 l3 : am_V) (a b : Int) (st : List am_V) (E : am_E) (u : am_M) (h : b ≠ 0), Rn m_A_commonDivisor 14 [l0, l1, l2, l3] (vI b :: vI a :: st) E u = Rn m_A_commonDivisor 15 [l0, l1, l2, l3] (vI (w32 (a.tmod b)) :: st) E u) ∧
  (∀ (l0 l1 l2 l3 : am_V) (a : Int) (st : List am_V) (E : am_E) (u : am_M), Rn m_A_commonDivisor 15 [l0, l1, l2, l3] (vI a :: st) E u = Rn m_A_commonDivisor 16 [l0, l1, am_fx l2, vI a] st E u) ∧
  (∀ (l0 l2 l3 : am_V) (a : Int) (st : List am_V) (E : am_E) (u : am_M), Rn m_A_commonDivisor 16 [l0, vI a, l2, l3] st E u = Rn m_A_commonDivisor 17 [l0, vI a, l2, l3] (vI a :: st) E u) ∧
  (∀ (l0 l1 l2 l3 : am_V) (a : Int) (st : List am_V) (E : am_E) (u : am_M), Rn m_A_commonDivisor 17 [l0, l1, l2, l3] (vI a :: st) E u = Rn m_A_commonDivisor 18 [vI a, l1, l2, l3] st E u) ∧
  (∀ (l0 l1 l2 : am_V) (a : Int) (st : List am_V) (E : am_E) (u : am_M), Rn m_A_commonDivisor 18 [l0, l1, l2, vI a] st E u = Rn m_A_commonDivisor 19 [l0, l1, l2, vI a] (vI a :: st) E u) ∧
  (∀ (l0 l1 l2 l3 : am_V) (a : Int) (st : List am_V) (E : am_E) (u : am_M), Rn m_A_commonDivisor 19 [l0, l1, l2, l3] (vI a :: st) E u = Rn m_A_commonDivisor 20 [am_fx l0, vI a, l2, l3] st E u) ∧
  (∀ (l0 l1 l3 : am_V) (a : Int) (st : List am_V) (E : am_E) (u : am_M), Rn m_A_commonDivisor 20 [l0, l1, vI a, l3] st E u = Rn m_A_commonDivisor 23 [l0, am_fx l1, vI (w32 (a + 1)), l3] st E u) ∧
  (∀ (l0 l1 l2 l3 : am_V) (st : List am_V) (E : am_E) (u : am_M), Rn m_A_commonDivisor 23 [l0, l1, l2, l3] st E u = Rn m_A_commonDivisor 2 [l0, l1, l2, l3] st E u) ∧
  (∀ (l1 l2 l3 : am_V) (a : Int) (st : List am_V) (E : am_E) (u : am_M), Rn m_A_commonDivisor 26 [vI a, l1, l2, l3] st E u = Rn m_A_commonDivisor 27 [vI a, l1, l2, l3] (vI a :: st) E u) ∧
  (∀ (l0 l1 l2 l3 : am_V) (a : Int) (E : am_E) (u : am_M), Rn m_A_commonDivisor 27 [l0, l1, l2, l3] [vI a] E u = some (some (vI a), E, u)) :=
  ⟨fun l0 l1 l2 l3 st E u => q_go (by decide +kernel : am_Pg 173 0 = some (.iconst 0, 1, [], 0)) rfl,
  fun l0 l1 l2 l3 a st E u => q_go (by decide +kernel : am_Pg 173 1 = some (.istore_n 2, 1, [], 0)) rfl,
  fun l0 l1 l2 l3 st E u => q_go (by decide +kernel : am_Pg 173 3 = some (.bipush 64, 2, [], 0)) rfl,
  fun l0 l1 l2 l3 a b st E u => q_icmp_ge (tgt := 26) (by decide +kernel : am_Pg 173 5 = some (.if_icmp .ge 21, 3, [], 0)) (by decide),
  fun l0 l2 l3 a st E u => q_go (by decide +kernel : am_Pg 173 8 = some (.iload_n 1, 1, [], 0)) rfl,
  fun l0 l1 l2 l3 a st E u => q_if_eq (tgt := 26) (by decide +kernel : am_Pg 173 9 = some (.ifCond .eq 17, 3, [], 0)) (by decide),
  fun l1 l2 l3 a st E u => q_go (by decide +kernel : am_Pg 173 12 = some (.iload_n 0, 1, [], 0)) rfl,
  fun l0 l2 l3 a st E u => q_go (by decide +kernel : am_Pg 173 13 = some (.iload_n 1, 1, [], 0)) rfl,
  fun l0 l1 l2 l3 a b st E u h => q_rem (by decide +kernel : am_Pg 173 14 = some (.irem, 1, [], 0)) h,
  fun l0 l1 l2 l3 a st E u => q_go (by decide +kernel : am_Pg 173 15 = some (.istore_n 3, 1, [], 0)) rfl,
  fun l0 l2 l3 a st E u => q_go (by decide +kernel : am_Pg 173 16 = some (.iload_n 1, 1, [], 0)) rfl,
  fun l0 l1 l2 l3 a st E u => q_go (by decide +kernel : am_Pg 173 17 = some (.istore_n 0, 1, [], 0)) rfl,
  fun l0 l1 l2 a st E u => q_go (by decide +kernel : am_Pg 173 18 = some (.iload_n 3, 1, [], 0)) rfl,
  fun l0 l1 l2 l3 a st E u => q_go (by decide +kernel : am_Pg 173 19 = some (.istore_n 1, 1, [], 0)) rfl,
  fun l0 l1 l3 a st E u => q_go (by decide +kernel : am_Pg 173 20 = some (.iinc 2 1, 3, [], 0)) rfl,
  fun l0 l1 l2 l3 st E u => q_go (by decide +kernel : am_Pg 173 23 = some (.goto (-21), 3, [], 0)) rfl,
  fun l1 l2 l3 a st E u => q_go (by decide +kernel : am_Pg 173 26 = some (.iload_n 0, 1, [], 0)) rfl,
  fun l0 l1 l2 l3 a E u => q_ret (by decide +kernel : am_Pg 173 27 = some (.ireturn, 1, [], 0)) rfl⟩
theorem h_A_breaks_79 : ∀ (l0 l1 l2 l3 l4 l5 l6 l7 l8 l10 l11 : am_V) (a : Int) (st : List am_V) (E : am_E) (u : am_M), Rn m_A_breaks 79 [l0, l1, l2, l3, l4, l5, l6, l7, l8, vI a, l10, l11] st E u = Rn m_A_breaks 81 [l0, l1, l2, l3, l4, l5, l6, l7, l8, vI a, l10, l11] (vI a :: st) E u :=
  fun l0 l1 l2 l3 l4 l5 l6 l7 l8 l10 l11 a st E u => q_go (by decide +kernel : am_Pg 174 79 = some (.iload 9, 2, [], 0)) rfl
theorem x_A_breaks_0 :
  (∀ (l1 l2 l3 l4 l5 l6 l7 l8 l9 l10 l11 : am_V) (a : Option Nat) (st : List am_V) (E : am_E) (u : am_M), Rn m_A_breaks 0 [vR a, l1, l2, l3, l4, l5, l6, l7, l8, l9, l10, l11] st E u = Rn m_A_breaks 1 [vR a, l1, l2, l3, l4, l5, l6, l7, l8, l9, l10, l11] (vR a :: st) E u) ∧
  (∀ (l0 l1 l2 l3 l4 l5 l6 l7 l8 l9 l10 l11 : am_V) (st : List am_V) (E : am_E) (u : am_M) (hE : SE E), Rn m_A_breaks 1 [l0, l1, l2, l3, l4, l5, l6, l7, l8, l9, l10, l11] (vR (some 0) :: st) E u = Rn m_A_breaks 4 [l0, l1, l2, l3, l4, l5, l6, l7, l8, l9, l10, l11] (vR (some 1) :: st) E u) ∧
  (∀ (l0 l2 l3 l4 l5 l6 l7 l8 l9 l10 l11 : am_V) (a : Int) (st : List am_V) (E : am_E) (u : am_M), Rn m_A_breaks 4 [l0, vI a, l2, l3, l4, l5, l6, l7, l8, l9, l10, l11] st E u = Rn m_A_breaks 5 [l0, vI a, l2, l3, l4, l5, l6, l7, l8, l9, l10, l11] (vI a :: st) E u) ∧
  (∀ (l0 l1 l2 l3 l4 l5 l6 l7 l8 l9 l10 l11 : am_V) (a0 : Int) (E : am_E) (u : am_M) (hE : SE E), Rn m_A_breaks 5 [l0, l1, l2, l3, l4, l5, l6, l7, l8, l9, l10, l11] [vI a0, vR (some 1)] E u = bdI (Rn m_C_isPin 0 [vR (some 1), vI a0] [] E u) (KI m_A_breaks 8 [l0, l1, l2, l3, l4, l5, l6, l7, l8, l9, l10, l11] [])) ∧
  (∀ (l0 l1 l2 l3 l4 l5 l6 l7 l8 l9 l10 l11 : am_V) (a0 : Int) (E : am_E) (u : am_M) (hE : SE E), Rn m_A_breaks 5 [l0, l1, l2, l3, l4, l5, l6, l7, l8, l9, l10, l11] [vI a0, vR (some 8)] E u = bdI (Rn m_C_isPin 0 [vR (some 8), vI a0] [] E u) (KI m_A_breaks 8 [l0, l1, l2, l3, l4, l5, l6, l7, l8, l9, l10, l11] [])) ∧
  (∀ (l0 l1 l2 l3 l4 l5 l6 l7 l8 l9 l10 l11 : am_V) (a0 : Int) (E : am_E) (u : am_M) (hE : SE E), Rn m_A_breaks 5 [l0, l1, l2, l3, l4, l5, l6, l7, l8, l9, l10, l11] [vI a0, vR (some 73)] E u = bdI (Rn m_C_isPin 0 [vR (some 73), vI a0] [] E u) (KI m_A_breaks 8 [l0, l1, l2, l3, l4, l5, l6, l7, l8, l9, l10, l11] [])) ∧
  (∀ (l0 l1 l2 l3 l4 l5 l6 l7 l8 l9 l10 l11 : am_V) (a : Int) (st : List am_V) (E : am_E) (u : am_M), Rn m_A_breaks 8 [l0, l1, l2, l3, l4, l5, l6, l7, l8, l9, l10, l11] (vI a :: st) E u = if a = 0 then Rn m_A_breaks 32 [l0, l1, l2, l3, l4, l5, l6, l7, l8, l9, l10, l11] st E u else Rn m_A_breaks 11 [l0, l1, l2, l3, l4, l5, l6, l7, l8, l9, l10, l11] st E u) ∧
  (∀ (l1 l2 l3 l4 l5 l6 l7 l8 l9 l10 l11 : am_V) (a : Option Nat) (st : List am_V) (E : am_E) (u : am_M), Rn m_A_breaks 11 [vR a, l1, l2, l3, l4, l5, l6, l7, l8, l9, l10, l11] st E u = Rn m_A_breaks 12 [vR a, l1, l2, l3, l4, l5, l6, l7, l8, l9, l10, l11] (vR a :: st) E u) ∧
  (∀ (l0 l1 l2 l3 l4 l5 l6 l7 l8 l9 l10 l11 : am_V) (st : List am_V) (E : am_E) (u : am_M) (hE : SE E), Rn m_A_breaks 12 [l0, l1, l2, l3, l4, l5, l6, l7, l8, l9, l10, l11] (vR (some 0) :: st) E u = Rn m_A_breaks 15 [l0, l1, l2, l3, l4, l5, l6, l7, l8, l9, l10, l11] (vR (some 1) :: st) E u) ∧
  (∀ (l0 l1 l3 l4 l5 l6 l7 l8 l9 l10 l11 : am_V) (a : Int) (st : List am_V) (E : am_E) (u : am_M), Rn m_A_breaks 15 [l0, l1, vI a, l3, l4, l5, l6, l7, l8, l9, l10, l11] st E u = Rn m_A_breaks 16 [l0, l1, vI a, l3, l4, l5, l6, l7, l8, l9, l10, l11] (vI a :: st) E u) ∧
  (∀ (l0 l1 l2 l3 l4 l5 l6 l7 l8 l9 l10 l11 : am_V) (a0 : Int) (E : am_E) (u : am_M) (hE : SE E), Rn m_A_breaks 16 [l0, l1, l2, l3, l4, l5, l6, l7, l8, l9, l10, l11] [vI a0, vR (some 1)] E u = bdI (Rn m_C_isCell 0 [vR (some 1), vI a0] [] E u) (KI m_A_breaks 19 [l0, l1, l2, l3, l4, l5, l6, l7, l8, l9, l10, l11] [])) ∧
  (∀ (l0 l1 l2 l3 l4 l5 l6 l7 l8 l9 l10 l11 : am_V) (a0 : Int) (E : am_E) (u : am_M) (hE : SE E), Rn m_A_breaks 16 [l0, l1, l2, l3, l4, l5, l6, l7, l8, l9, l10, l11] [vI a0, vR (some 8)] E u = bdI (Rn m_C_isCell 0 [vR (some 8), vI a0] [] E u) (KI m_A_breaks 19 [l0, l1, l2, l3, l4, l5, l6, l7, l8, l9, l10, l11] [])) ∧
  (∀ (l0 l1 l2 l3 l4 l5 l6 l7 l8 l9 l10 l11 : am_V) (a0 : Int) (E : am_E) (u : am_M) (hE : SE E), Rn m_A_breaks 16 [l0, l1, l2, l3, l4, l5, l6, l7, l8, l9, l10, l11] [vI a0, vR (some 73)] E u = bdI (Rn m_C_isCell 0 [vR (some 73), vI a0] [] E u) (KI m_A_breaks 19 [l0, l1, l2, l3, l4, l5, l6, l7, l8, l9, l10, l11] [])) ∧
  (∀ (l0 l1 l2 l3 l4 l5 l6 l7 l8 l9 l10 l11 : am_V) (a : Int) (st : List am_V) (E : am_E) (u : am_M), Rn m_A_breaks 19 [l0, l1, l2, l3, l4, l5, l6, l7, l8, l9, l10, l11] (vI a :: st) E u = if a = 0 then Rn m_A_breaks 32 [l0, l1, l2, l3, l4, l5, l6, l7, l8, l9, l10, l11] st E u else Rn m_A_breaks 22 [l0, l1, l2, l3, l4, l5, l6, l7, l8, l9, l10, l11] st E u) ∧
  (∀ (l0 l1 l2 l4 l5 l6 l7 l8 l9 l10 l11 : am_V) (a : Int) (st : List am_V) (E : am_E) (u : am_M), Rn m_A_breaks 22 [l0, l1, l2, vI a, l4, l5, l6, l7, l8, l9, l10, l11] st E u = Rn m_A_breaks 23 [l0, l1, l2, vI a, l4, l5, l6, l7, l8, l9, l10, l11] (vI a :: st) E u) ∧
  (∀ (l0 l1 l2 l3 l4 l5 l6 l7 l8 l9 l10 l11 : am_V) (st : List am_V) (E : am_E) (u : am_M), Rn m_A_breaks 23 [l0, l1, l2, l3, l4, l5, l6, l7, l8, l9, l10, l11] st E u = Rn m_A_breaks 24 [l0, l1, l2, l3, l4, l5, l6, l7, l8, l9, l10, l11] (vI 0 :: st) E u) ∧
  (∀ (l0 l1 l2 l3 l4 l5 l6 l7 l8 l9 l10 l11 : am_V) (st : List am_V) (E : am_E) (u : am_M), Rn m_A_breaks 24 [l0, l1, l2, l3, l4, l5, l6, l7, l8, l9, l10, l11] st E u = Rn m_A_breaks 26 [l0, l1, l2, l3, l4, l5, l6, l7, l8, l9, l10, l11] (vI 30 :: st) E u) ∧
  (∀ (l0 l1 l2 l3 l4 l5 l6 l7 l8 l9 l10 l11 : am_V) (a0 : Int) (a1 : Int) (a2 : Int) (E : am_E) (u : am_M), Rn m_A_breaks 26 [l0, l1, l2, l3, l4, l5, l6, l7, l8, l9, l10, l11] [vI a2, vI a1, vI a0] E u = bdI (Rn m_A_isIn 0 [vI a0, vI a1, vI a2] [] E u) (KI m_A_breaks 29 [l0, l1, l2, l3, l4, l5, l6, l7, l8, l9, l10, l11] [])) ∧
  (∀ (l0 l1 l2 l3 l4 l5 l6 l7 l8 l9 l10 l11 : am_V) (a : Int) (st : List am_V) (E : am_E) (u : am_M), Rn m_A_breaks 29 [l0, l1, l2, l3, l4, l5, l6, l7, l8, l9, l10, l11] (vI a :: st) E u = if a = 0 then Rn m_A_breaks 32 [l0, l1, l2, l3, l4, l5, l6, l7, l8, l9, l10, l11] st E u else Rn m_A_breaks 34 [l0, l1, l2, l3, l4, l5, l6, l7, l8, l9, l10, l11] st E u) ∧
  (∀ (l0 l1 l2 l3 l4 l5 l6 l7 l8 l9 l10 l11 : am_V) (st : List am_V) (E : am_E) (u : am_M), Rn m_A_breaks 32 [l0, l1, l2, l3, l4, l5, l6, l7, l8, l9, l10, l11] st E u = Rn m_A_breaks 33 [l0, l1, l2, l3, l4, l5, l6, l7, l8, l9, l10, l11] (vI (-1) :: st) E u) ∧
  (∀ (l0 l1 l2 l3 l4 l5 l6 l7 l8 l9 l10 l11 : am_V) (a : Int) (E : am_E) (u : am_M), Rn m_A_breaks 33 [l0, l1, l2, l3, l4, l5, l6, l7, l8, l9, l10, l11] [vI a] E u = some (some (vI a), E, u)) ∧
  (∀ (l0 l1 l2 l3 l5 l6 l7 l8 l9 l10 l11 : am_V) (a : Int) (st : List am_V) (E : am_E) (u : am_M), Rn m_A_breaks 34 [l0, l1, l2, l3, vI a, l5, l6, l7, l8, l9, l10, l11] st E u = Rn m_A_breaks 36 [l0, l1, l2, l3, vI a, l5, l6, l7, l8, l9, l10, l11] (vI a :: st) E u) ∧
  (∀ (l0 l1 l2 l3 l4 l5 l6 l7 l8 l9 l10 l11 : am_V) (st : List am_V) (E : am_E) (u : am_M), Rn m_A_breaks 36 [l0, l1, l2, l3, l4, l5, l6, l7, l8, l9, l10, l11] st E u = Rn m_A_breaks 37 [l0, l1, l2, l3, l4, l5, l6, l7, l8, l9, l10, l11] (vI 0 :: st) E u) ∧
  (∀ (l0 l1 l2 l3 l4 l5 l6 l7 l8 l9 l10 l11 : am_V) (st : List am_V) (E : am_E) (u : am_M), Rn m_A_breaks 37 [l0, l1, l2, l3, l4, l5, l6, l7, l8, l9, l10, l11] st E u = Rn m_A_breaks 39 [l0, l1, l2, l3, l4, l5, l6, l7, l8, l9, l10, l11] (vI 10 :: st) E u) ∧
  (∀ (l0 l1 l2 l3 l4 l5 l6 l7 l8 l9 l10 l11 : am_V) (a0 : Int) (a1 : Int) (a2 : Int) (E : am_E) (u : am_M), Rn m_A_breaks 39 [l0, l1, l2, l3, l4, l5, l6, l7, l8, l9, l10, l11] [vI a2, vI a1, vI a0] E u = bdI (Rn m_A_isIn 0 [vI a0, vI a1, vI a2] [] E u) (KI m_A_breaks 42 [l0, l1, l2, l3, l4, l5, l6, l7, l8, l9, l10, l11] [])) ∧
  (∀ (l0 l1 l2 l3 l4 l5 l6 l7 l8 l9 l10 l11 : am_V) (a : Int) (st : List am_V) (E : am_E) (u : am_M), Rn m_A_breaks 42 [l0, l1, l2, l3, l4, l5, l6, l7, l8, l9, l10, l11] (vI a :: st) E u = if a = 0 then Rn m_A_breaks 55 [l0, l1, l2, l3, l4, l5, l6, l7, l8, l9, l10, l11] st E u else Rn m_A_breaks 45 [l0, l1, l2, l3, l4, l5, l6, l7, l8, l9, l10, l11] st E u) ∧
  (∀ (l0 l1 l2 l3 l4 l6 l7 l8 l9 l10 l11 : am_V) (a : Int) (st : List am_V) (E : am_E) (u : am_M), Rn m_A_breaks 45 [l0, l1, l2, l3, l4, vI a, l6, l7, l8, l9, l10, l11] st E u = Rn m_A_breaks 47 [l0, l1, l2, l3, l4, vI a, l6, l7, l8, l9, l10, l11] (vI a :: st) E u) ∧
  (∀ (l0 l1 l2 l3 l4 l5 l6 l7 l8 l9 l10 l11 : am_V) (st : List am_V) (E : am_E) (u : am_M), Rn m_A_breaks 47 [l0, l1, l2, l3, l4, l5, l6, l7, l8, l9, l10, l11] st E u = Rn m_A_breaks 48 [l0, l1, l2, l3, l4, l5, l6, l7, l8, l9, l10, l11] (vI 0 :: st) E u) ∧
  (∀ (l0 l1 l2 l3 l4 l5 l6 l7 l8 l9 l10 l11 : am_V) (st : List am_V) (E : am_E) (u : am_M), Rn m_A_breaks 48 [l0, l1, l2, l3, l4, l5, l6, l7, l8, l9, l10, l11] st E u = Rn m_A_breaks 49 [l0, l1, l2, l3, l4, l5, l6, l7, l8, l9, l10, l11] (vI 1 :: st) E u) ∧
  (∀ (l0 l1 l2 l3 l4 l5 l6 l7 l8 l9 l10 l11 : am_V) (a0 : Int) (a1 : Int) (a2 : Int) (E : am_E) (u : am_M), Rn m_A_breaks 49 [l0, l1, l2, l3, l4, l5, l6, l7, l8, l9, l10, l11] [vI a2, vI a1, vI a0] E u = bdI (Rn m_A_isIn 0 [vI a0, vI a1, vI a2] [] E u) (KI m_A_breaks 52 [l0, l1, l2, l3, l4, l5, l6, l7, l8, l9, l10, l11] [])) ∧
  (∀ (l0 l1 l2 l3 l4 l5 l6 l7 l8 l9 l10 l11 : am_V) (a : Int) (st : List am_V) (E : am_E) (u : am_M), Rn m_A_breaks 52 [l0, l1, l2, l3, l4, l5, l6, l7, l8, l9, l10, l11] (vI a :: st) E u = if a = 0 then Rn m_A_breaks 55 [l0, l1, l2, l3, l4, l5, l6, l7, l8, l9, l10, l11] st E u else Rn m_A_breaks 57 [l0, l1, l2, l3, l4, l5, l6, l7, l8, l9, l10, l11] st E u) ∧
  (∀ (l0 l1 l2 l3 l4 l5 l6 l7 l8 l9 l10 l11 : am_V) (st : List am_V) (E : am_E) (u : am_M), Rn m_A_breaks 55 [l0, l1, l2, l3, l4, l5, l6, l7, l8, l9, l10, l11] st E u = Rn m_A_breaks 56 [l0, l1, l2, l3, l4, l5, l6, l7, l8, l9, l10, l11] (vI (-1) :: st) E u) ∧
  (∀ (l0 l1 l2 l3 l4 l5 l6 l7 l8 l9 l10 l11 : am_V) (a : Int) (E : am_E) (u : am_M), Rn m_A_breaks 56 [l0, l1, l2, l3, l4, l5, l6, l7, l8, l9, l10, l11] [vI a] E u = some (some (vI a), E, u)) ∧
  (∀ (l1 l2 l3 l4 l5 l6 l7 l8 l9 l10 l11 : am_V) (a : Option Nat) (st : List am_V) (E : am_E) (u : am_M), Rn m_A_breaks 57 [vR a, l1, l2, l3, l4, l5, l6, l7, l8, l9, l10, l11] st E u = Rn m_A_breaks 58 [vR a, l1, l2, l3, l4, l5, l6, l7, l8, l9, l10, l11] (vR a :: st) E u) ∧
  (∀ (l0 l1 l2 l3 l4 l5 l6 l7 l8 l9 l10 l11 : am_V) (st : List am_V) (E : am_E) (u : am_M) (hE : SE E), Rn m_A_breaks 58 [l0, l1, l2, l3, l4, l5, l6, l7, l8, l9, l10, l11] (vR (some 0) :: st) E u = Rn m_A_breaks 61 [l0, l1, l2, l3, l4, l5, l6, l7, l8, l9, l10, l11] (vR (some 1) :: st) E u) ∧
  (∀ (l0 l1 l2 l3 l4 l5 l6 l7 l8 l9 l10 l11 : am_V) (E : am_E) (u : am_M) (hE : SE E), Rn m_A_breaks 61 [l0, l1, l2, l3, l4, l5, l6, l7, l8, l9, l10, l11] [vR (some 1)] E u = bdI (Rn m_C_holdSet 0 [vR (some 1), vB false, vB false] [] E u) (KI m_A_breaks 64 [l0, l1, l2, l3, l4, l5, l6, l7, l8, l9, l10, l11] [])) ∧
  (∀ (l0 l1 l2 l3 l4 l5 l6 l7 l8 l9 l10 l11 : am_V) (E : am_E) (u : am_M) (hE : SE E), Rn m_A_breaks 61 [l0, l1, l2, l3, l4, l5, l6, l7, l8, l9, l10, l11] [vR (some 8)] E u = bdI (Rn m_C_holdSet 0 [vR (some 8), vB false, vB false] [] E u) (KI m_A_breaks 64 [l0, l1, l2, l3, l4, l5, l6, l7, l8, l9, l10, l11] [])) ∧
  (∀ (l0 l1 l2 l3 l4 l5 l6 l7 l8 l9 l10 l11 : am_V) (E : am_E) (u : am_M) (hE : SE E), Rn m_A_breaks 61 [l0, l1, l2, l3, l4, l5, l6, l7, l8, l9, l10, l11] [vR (some 73)] E u = bdI (Rn m_C_holdSet 0 [vR (some 73), vB false, vB false] [] E u) (KI m_A_breaks 64 [l0, l1, l2, l3, l4, l5, l6, l7, l8, l9, l10, l11] [])) ∧
  (∀ (l0 l1 l2 l3 l4 l5 l6 l7 l8 l9 l10 l11 : am_V) (a : Int) (st : List am_V) (E : am_E) (u : am_M), Rn m_A_breaks 64 [l0, l1, l2, l3, l4, l5, l6, l7, l8, l9, l10, l11] (vI a :: st) E u = Rn m_A_breaks 66 [l0, l1, l2, l3, l4, am_fx l5, vI a, l7, l8, l9, l10, l11] st E u) ∧
  (∀ (l0 l1 l2 l3 l4 l5 l7 l8 l9 l10 l11 : am_V) (a : Int) (st : List am_V) (E : am_E) (u : am_M), Rn m_A_breaks 66 [l0, l1, l2, l3, l4, l5, vI a, l7, l8, l9, l10, l11] st E u = Rn m_A_breaks 68 [l0, l1, l2, l3, l4, l5, vI a, l7, l8, l9, l10, l11] (vI a :: st) E u) ∧
  (∀ (l0 l1 l2 l3 l4 l5 l6 l7 l8 l9 l10 l11 : am_V) (a0 : Int) (E : am_E) (u : am_M), Rn m_A_breaks 68 [l0, l1, l2, l3, l4, l5, l6, l7, l8, l9, l10, l11] [vI a0] E u = bdI (Rn m_J_bitI 0 [vI a0] [] E u) (KI m_A_breaks 71 [l0, l1, l2, l3, l4, l5, l6, l7, l8, l9, l10, l11] [])) ∧
  (∀ (l0 l1 l2 l3 l4 l5 l6 l7 l8 l9 l10 l11 : am_V) (a : Int) (st : List am_V) (E : am_E) (u : am_M), Rn m_A_breaks 71 [l0, l1, l2, l3, l4, l5, l6, l7, l8, l9, l10, l11] (vI a :: st) E u = Rn m_A_breaks 73 [l0, l1, l2, l3, l4, l5, am_fx l6, vI a, l8, l9, l10, l11] st E u) ∧
  (∀ (l0 l1 l2 l3 l4 l5 l6 l7 l8 l9 l10 l11 : am_V) (st : List am_V) (E : am_E) (u : am_M), Rn m_A_breaks 73 [l0, l1, l2, l3, l4, l5, l6, l7, l8, l9, l10, l11] st E u = Rn m_A_breaks 74 [l0, l1, l2, l3, l4, l5, l6, l7, l8, l9, l10, l11] (vI 0 :: st) E u) ∧
  (∀ (l0 l1 l2 l3 l4 l5 l6 l7 l8 l9 l10 l11 : am_V) (a : Int) (st : List am_V) (E : am_E) (u : am_M), Rn m_A_breaks 74 [l0, l1, l2, l3, l4, l5, l6, l7, l8, l9, l10, l11] (vI a :: st) E u = Rn m_A_breaks 76 [l0, l1, l2, l3, l4, l5, l6, am_fx l7, vI a, l9, l10, l11] st E u) ∧
  (∀ (l0 l1 l2 l3 l4 l5 l6 l7 l8 l9 l10 l11 : am_V) (st : List am_V) (E : am_E) (u : am_M), Rn m_A_breaks 76 [l0, l1, l2, l3, l4, l5, l6, l7, l8, l9, l10, l11] st E u = Rn m_A_breaks 77 [l0, l1, l2, l3, l4, l5, l6, l7, l8, l9, l10, l11] (vI 0 :: st) E u) ∧
  (∀ (l0 l1 l2 l3 l4 l5 l6 l7 l8 l9 l10 l11 : am_V) (a : Int) (st : List am_V) (E : am_E) (u : am_M), Rn m_A_breaks 77 [l0, l1, l2, l3, l4, l5, l6, l7, l8, l9, l10, l11] (vI a :: st) E u = Rn m_A_breaks 79 [l0, l1, l2, l3, l4, l5, l6, l7, am_fx l8, vI a, l10, l11] st E u) ∧
  (∀ (l0 l1 l2 l3 l4 l5 l7 l8 l9 l10 l11 : am_V) (a : Int) (st : List am_V) (E : am_E) (u : am_M), Rn m_A_breaks 81 [l0, l1, l2, l3, l4, l5, vI a, l7, l8, l9, l10, l11] st E u = Rn m_A_breaks 83 [l0, l1, l2, l3, l4, l5, vI a, l7, l8, l9, l10, l11] (vI a :: st) E u) ∧
  (∀ (l0 l1 l2 l3 l4 l5 l6 l7 l8 l9 l10 l11 : am_V) (a b : Int) (st : List am_V) (E : am_E) (u : am_M), Rn m_A_breaks 83 [l0, l1, l2, l3, l4, l5, l6, l7, l8, l9, l10, l11] (vI b :: vI a :: st) E u = if b < a then Rn m_A_breaks 184 [l0, l1, l2, l3, l4, l5, l6, l7, l8, l9, l10, l11] st E u else Rn m_A_breaks 86 [l0, l1, l2, l3, l4, l5, l6, l7, l8, l9, l10, l11] st E u) ∧
  (∀ (l0 l1 l2 l3 l4 l5 l6 l7 l8 l10 l11 : am_V) (a : Int) (st : List am_V) (E : am_E) (u : am_M), Rn m_A_breaks 86 [l0, l1, l2, l3, l4, l5, l6, l7, l8, vI a, l10, l11] st E u = Rn m_A_breaks 88 [l0, l1, l2, l3, l4, l5, l6, l7, l8, vI a, l10, l11] (vI a :: st) E u) ∧
  (∀ (l0 l1 l2 l3 l4 l5 l7 l8 l9 l10 l11 : am_V) (a : Int) (st : List am_V) (E : am_E) (u : am_M), Rn m_A_breaks 88 [l0, l1, l2, l3, l4, l5, vI a, l7, l8, l9, l10, l11] st E u = Rn m_A_breaks 90 [l0, l1, l2, l3, l4, l5, vI a, l7, l8, l9, l10, l11] (vI a :: st) E u) ∧
  (∀ (l0 l1 l2 l3 l4 l5 l6 l7 l8 l9 l10 l11 : am_V) (st : List am_V) (E : am_E) (u : am_M), Rn m_A_breaks 90 [l0, l1, l2, l3, l4, l5, l6, l7, l8, l9, l10, l11] st E u = Rn m_A_breaks 91 [l0, l1, l2, l3, l4, l5, l6, l7, l8, l9, l10, l11] (vI (-1) :: st) E u) ∧
  (∀ (l0 l1 l2 l3 l4 l5 l6 l7 l8 l9 l10 l11 : am_V) (a b : Int) (st : List am_V) (E : am_E) (u : am_M), Rn m_A_breaks 91 [l0, l1, l2, l3, l4, l5, l6, l7, l8, l9, l10, l11] (vI b :: vI a :: st) E u = Rn m_A_breaks 92 [l0, l1, l2, l3, l4, l5, l6, l7, l8, l9, l10, l11] (vI (i_xor a b) :: st) E u) ∧
  (∀ (l0 l1 l2 l3 l4 l5 l6 l7 l8 l9 l10 l11 : am_V) (a b : Int) (st : List am_V) (E : am_E) (u : am_M), Rn m_A_breaks 92 [l0, l1, l2, l3, l4, l5, l6, l7, l8, l9, l10, l11] (vI b :: vI a :: st) E u = Rn m_A_breaks 93 [l0, l1, l2, l3, l4, l5, l6, l7, l8, l9, l10, l11] (vI (i_and a b) :: st) E u) ∧
  (∀ (l0 l1 l2 l3 l4 l5 l6 l7 l8 l9 l10 l11 : am_V) (a : Int) (st : List am_V) (E : am_E) (u : am_M), Rn m_A_breaks 93 [l0, l1, l2, l3, l4, l5, l6, l7, l8, l9, l10, l11] (vI a :: st) E u = if a = 0 then Rn m_A_breaks 96 [l0, l1, l2, l3, l4, l5, l6, l7, l8, l9, l10, l11] st E u else Rn m_A_breaks 178 [l0, l1, l2, l3, l4, l5, l6, l7, l8, l9, l10, l11] st E u) ∧
  (∀ (l0 l1 l2 l3 l4 l5 l6 l7 l8 l10 l11 : am_V) (a : Int) (st : List am_V) (E : am_E) (u : am_M), Rn m_A_breaks 96 [l0, l1, l2, l3, l4, l5, l6, l7, l8, vI a, l10, l11] st E u = Rn m_A_breaks 98 [l0, l1, l2, l3, l4, l5, l6, l7, l8, vI a, l10, l11] (vI a :: st) E u) ∧
  (∀ (l0 l1 l2 l3 l4 l5 l6 l7 l8 l9 l10 l11 : am_V) (a0 : Int) (E : am_E) (u : am_M), Rn m_A_breaks 98 [l0, l1, l2, l3, l4, l5, l6, l7, l8, l9, l10, l11] [vI a0] E u = bdI (Rn m_J_bitI 0 [vI a0] [] E u) (KI m_A_breaks 101 [l0, l1, l2, l3, l4, l5, l6, l7, l8, l9, l10, l11] [])) ∧
  (∀ (l0 l1 l2 l3 l4 l5 l6 l7 l8 l9 l10 l11 : am_V) (a : Int) (st : List am_V) (E : am_E) (u : am_M), Rn m_A_breaks 101 [l0, l1, l2, l3, l4, l5, l6, l7, l8, l9, l10, l11] (vI a :: st) E u = Rn m_A_breaks 103 [l0, l1, l2, l3, l4, l5, l6, l7, l8, am_fx l9, vI a, l11] st E u) ∧
  (∀ (l0 l1 l2 l3 l5 l6 l7 l8 l9 l10 l11 : am_V) (a : Int) (st : List am_V) (E : am_E) (u : am_M), Rn m_A_breaks 103 [l0, l1, l2, l3, vI a, l5, l6, l7, l8, l9, l10, l11] st E u = Rn m_A_breaks 105 [l0, l1, l2, l3, vI a, l5, l6, l7, l8, l9, l10, l11] (vI a :: st) E u) ∧
  (∀ (l0 l1 l2 l3 l4 l5 l6 l7 l8 l9 l11 : am_V) (a : Int) (st : List am_V) (E : am_E) (u : am_M), Rn m_A_breaks 105 [l0, l1, l2, l3, l4, l5, l6, l7, l8, l9, vI a, l11] st E u = Rn m_A_breaks 107 [l0, l1, l2, l3, l4, l5, l6, l7, l8, l9, vI a, l11] (vI a :: st) E u) ∧
  (∀ (l0 l1 l2 l3 l4 l5 l6 l7 l8 l9 l10 l11 : am_V) (a0 : Int) (a1 : Int) (E : am_E) (u : am_M), Rn m_A_breaks 107 [l0, l1, l2, l3, l4, l5, l6, l7, l8, l9, l10, l11] [vI a1, vI a0] E u = bdI (Rn m_A_power 0 [vI a0, vI a1, vB false, vB false] [] E u) (KI m_A_breaks 110 [l0, l1, l2, l3, l4, l5, l6, l7, l8, l9, l10, l11] [])) ∧
  (∀ (l0 l1 l2 l3 l4 l5 l6 l7 l8 l9 l10 l11 : am_V) (st : List am_V) (E : am_E) (u : am_M), Rn m_A_breaks 110 [l0, l1, l2, l3, l4, l5, l6, l7, l8, l9, l10, l11] st E u = Rn m_A_breaks 112 [l0, l1, l2, l3, l4, l5, l6, l7, l8, l9, l10, l11] (vI 10 :: st) E u) ∧
  (∀ (l0 l1 l2 l3 l5 l6 l7 l8 l9 l10 l11 : am_V) (a : Int) (st : List am_V) (E : am_E) (u : am_M), Rn m_A_breaks 112 [l0, l1, l2, l3, vI a, l5, l6, l7, l8, l9, l10, l11] st E u = Rn m_A_breaks 114 [l0, l1, l2, l3, vI a, l5, l6, l7, l8, l9, l10, l11] (vI a :: st) E u) ∧
  (∀ (l0 l1 l2 l3 l4 l5 l6 l7 l8 l9 l10 l11 : am_V) (a b : Int) (st : List am_V) (E : am_E) (u : am_M), Rn m_A_breaks 114 [l0, l1, l2, l3, l4, l5, l6, l7, l8, l9, l10, l11] (vI b :: vI a :: st) E u = Rn m_A_breaks 115 [l0, l1, l2, l3, l4, l5, l6, l7, l8, l9, l10, l11] (vI (w32 (a - b)) :: st) E u) ∧
  (∀ (l0 l1 l2 l3 l4 l5 l6 l8 l9 l10 l11 : am_V) (a : Int) (st : List am_V) (E : am_E) (u : am_M), Rn m_A_breaks 115 [l0, l1, l2, l3, l4, l5, l6, vI a, l8, l9, l10, l11] st E u = Rn m_A_breaks 117 [l0, l1, l2, l3, l4, l5, l6, vI a, l8, l9, l10, l11] (vI a :: st) E u) ∧
  (∀ (l0 l1 l2 l3 l4 l5 l6 l7 l8 l9 l11 : am_V) (a : Int) (st : List am_V) (E : am_E) (u : am_M), Rn m_A_breaks 117 [l0, l1, l2, l3, l4, l5, l6, l7, l8, l9, vI a, l11] st E u = Rn m_A_breaks 119 [l0, l1, l2, l3, l4, l5, l6, l7, l8, l9, vI a, l11] (vI a :: st) E u) ∧
  (∀ (l0 l1 l2 l3 l4 l5 l6 l7 l8 l9 l10 l11 : am_V) (a b : Int) (st : List am_V) (E : am_E) (u : am_M), Rn m_A_breaks 119 [l0, l1, l2, l3, l4, l5, l6, l7, l8, l9, l10, l11] (vI b :: vI a :: st) E u = Rn m_A_breaks 120 [l0, l1, l2, l3, l4, l5, l6, l7, l8, l9, l10, l11] (vI (w32 (a - b)) :: st) E u) ∧
  (∀ (l0 l1 l2 l3 l4 l5 l6 l7 l8 l9 l10 l11 : am_V) (a0 : Int) (a1 : Int) (r0 : am_V) (E : am_E) (u : am_M), Rn m_A_breaks 120 [l0, l1, l2, l3, l4, l5, l6, l7, l8, l9, l10, l11] [vI a1, vI a0, r0] E u = bdI (Rn m_A_power 0 [vI a0, vI a1, vB false, vB false] [] E u) (KI m_A_breaks 123 [l0, l1, l2, l3, l4, l5, l6, l7, l8, l9, l10, l11] [r0])) ∧
  (∀ (l0 l1 l2 l3 l4 l5 l6 l7 l8 l9 l10 l11 : am_V) (a b : Int) (st : List am_V) (E : am_E) (u : am_M), Rn m_A_breaks 123 [l0, l1, l2, l3, l4, l5, l6, l7, l8, l9, l10, l11] (vI b :: vI a :: st) E u = Rn m_A_breaks 124 [l0, l1, l2, l3, l4, l5, l6, l7, l8, l9, l10, l11] (vI (w32 (a * b)) :: st) E u) ∧
  (∀ (l0 l1 l2 l3 l4 l5 l6 l7 l8 l9 l10 l11 : am_V) (a : Int) (st : List am_V) (E : am_E) (u : am_M), Rn m_A_breaks 124 [l0, l1, l2, l3, l4, l5, l6, l7, l8, l9, l10, l11] (vI a :: st) E u = Rn m_A_breaks 126 [l0, l1, l2, l3, l4, l5, l6, l7, l8, l9, am_fx l10, vI a] st E u) ∧
  (∀ (l1 l2 l3 l4 l5 l6 l7 l8 l9 l10 l11 : am_V) (a : Option Nat) (st : List am_V) (E : am_E) (u : am_M), Rn m_A_breaks 126 [vR a, l1, l2, l3, l4, l5, l6, l7, l8, l9, l10, l11] st E u = Rn m_A_breaks 127 [vR a, l1, l2, l3, l4, l5, l6, l7, l8, l9, l10, l11] (vR a :: st) E u) ∧
  (∀ (l0 l1 l2 l3 l4 l5 l6 l7 l8 l9 l10 l11 : am_V) (st : List am_V) (E : am_E) (u : am_M) (hE : SE E), Rn m_A_breaks 127 [l0, l1, l2, l3, l4, l5, l6, l7, l8, l9, l10, l11] (vR (some 0) :: st) E u = Rn m_A_breaks 130 [l0, l1, l2, l3, l4, l5, l6, l7, l8, l9, l10, l11] (vR (some 8) :: st) E u) ∧
  (∀ (l1 l2 l3 l4 l5 l6 l7 l8 l9 l10 l11 : am_V) (a : Option Nat) (st : List am_V) (E : am_E) (u : am_M), Rn m_A_breaks 130 [vR a, l1, l2, l3, l4, l5, l6, l7, l8, l9, l10, l11] st E u = Rn m_A_breaks 131 [vR a, l1, l2, l3, l4, l5, l6, l7, l8, l9, l10, l11] (vR a :: st) E u) ∧
  (∀ (l0 l1 l2 l3 l4 l5 l6 l7 l8 l9 l10 l11 : am_V) (st : List am_V) (E : am_E) (u : am_M) (hE : SE E), Rn m_A_breaks 131 [l0, l1, l2, l3, l4, l5, l6, l7, l8, l9, l10, l11] (vR (some 0) :: st) E u = Rn m_A_breaks 134 [l0, l1, l2, l3, l4, l5, l6, l7, l8, l9, l10, l11] (vR (some 1) :: st) E u) ∧
  (∀ (l0 l1 l2 l3 l4 l5 l6 l7 l8 l10 l11 : am_V) (a : Int) (st : List am_V) (E : am_E) (u : am_M), Rn m_A_breaks 134 [l0, l1, l2, l3, l4, l5, l6, l7, l8, vI a, l10, l11] st E u = Rn m_A_breaks 136 [l0, l1, l2, l3, l4, l5, l6, l7, l8, vI a, l10, l11] (vI a :: st) E u) ∧
  (∀ (l0 l1 l2 l3 l4 l5 l6 l7 l8 l9 l10 l11 : am_V) (a0 : Option Nat) (a1 : Int) (E : am_E) (u : am_M) (hE : SE E), Rn m_A_breaks 136 [l0, l1, l2, l3, l4, l5, l6, l7, l8, l9, l10, l11] [vI a1, vR a0, vR (some 1)] E u = bdV (Rn m_C_becomesCut 0 [vR (some 1), vR a0, vI a1] [] E u) (KV m_A_breaks 139 [l0, l1, l2, l3, l4, l5, l6, l7, l8, l9, l10, l11] [])) ∧
  (∀ (l0 l1 l2 l3 l4 l5 l6 l7 l8 l9 l10 l11 : am_V) (a0 : Option Nat) (a1 : Int) (E : am_E) (u : am_M) (hE : SE E), Rn m_A_breaks 136 [l0, l1, l2, l3, l4, l5, l6, l7, l8, l9, l10, l11] [vI a1, vR a0, vR (some 8)] E u = bdV (Rn m_C_becomesCut 0 [vR (some 8), vR a0, vI a1] [] E u) (KV m_A_breaks 139 [l0, l1, l2, l3, l4, l5, l6, l7, l8, l9, l10, l11] [])) ∧
  (∀ (l0 l1 l2 l3 l4 l5 l6 l7 l8 l9 l10 l11 : am_V) (a0 : Option Nat) (a1 : Int) (E : am_E) (u : am_M) (hE : SE E), Rn m_A_breaks 136 [l0, l1, l2, l3, l4, l5, l6, l7, l8, l9, l10, l11] [vI a1, vR a0, vR (some 73)] E u = bdV (Rn m_C_becomesCut 0 [vR (some 73), vR a0, vI a1] [] E u) (KV m_A_breaks 139 [l0, l1, l2, l3, l4, l5, l6, l7, l8, l9, l10, l11] [])) ∧
  (∀ (l1 l2 l3 l4 l5 l6 l7 l8 l9 l10 l11 : am_V) (a : Option Nat) (st : List am_V) (E : am_E) (u : am_M), Rn m_A_breaks 139 [vR a, l1, l2, l3, l4, l5, l6, l7, l8, l9, l10, l11] st E u = Rn m_A_breaks 140 [vR a, l1, l2, l3, l4, l5, l6, l7, l8, l9, l10, l11] (vR a :: st) E u) ∧
  (∀ (l0 l1 l2 l3 l4 l5 l6 l7 l8 l9 l10 l11 : am_V) (st : List am_V) (E : am_E) (u : am_M) (hE : SE E), Rn m_A_breaks 140 [l0, l1, l2, l3, l4, l5, l6, l7, l8, l9, l10, l11] (vR (some 0) :: st) E u = Rn m_A_breaks 143 [l0, l1, l2, l3, l4, l5, l6, l7, l8, l9, l10, l11] (vR (some 8) :: st) E u) ∧
  (∀ (l0 l1 l2 l3 l4 l5 l6 l7 l8 l9 l10 : am_V) (a : Int) (st : List am_V) (E : am_E) (u : am_M), Rn m_A_breaks 143 [l0, l1, l2, l3, l4, l5, l6, l7, l8, l9, l10, vI a] st E u = Rn m_A_breaks 145 [l0, l1, l2, l3, l4, l5, l6, l7, l8, l9, l10, vI a] (vI a :: st) E u) ∧
  (∀ (l0 l1 l2 l3 l4 l5 l6 l7 l8 l9 l10 l11 : am_V) (a : Int) (st : List am_V) (E : am_E) (u : am_M), Rn m_A_breaks 145 [l0, l1, l2, l3, l4, l5, l6, l7, l8, l9, l10, l11] (vI a :: st) E u = if a = 0 then Rn m_A_breaks 148 [l0, l1, l2, l3, l4, l5, l6, l7, l8, l9, l10, l11] st E u else Rn m_A_breaks 152 [l0, l1, l2, l3, l4, l5, l6, l7, l8, l9, l10, l11] st E u) ∧
  (∀ (l0 l1 l2 l3 l4 l5 l6 l7 l8 l9 l10 l11 : am_V) (st : List am_V) (E : am_E) (u : am_M), Rn m_A_breaks 148 [l0, l1, l2, l3, l4, l5, l6, l7, l8, l9, l10, l11] st E u = Rn m_A_breaks 149 [l0, l1, l2, l3, l4, l5, l6, l7, l8, l9, l10, l11] (vI 0 :: st) E u) ∧
  (∀ (l0 l1 l2 l3 l4 l5 l6 l7 l8 l9 l10 l11 : am_V) (st : List am_V) (E : am_E) (u : am_M), Rn m_A_breaks 149 [l0, l1, l2, l3, l4, l5, l6, l7, l8, l9, l10, l11] st E u = Rn m_A_breaks 153 [l0, l1, l2, l3, l4, l5, l6, l7, l8, l9, l10, l11] st E u) ∧
  (∀ (l0 l1 l2 l4 l5 l6 l7 l8 l9 l10 l11 : am_V) (a : Int) (st : List am_V) (E : am_E) (u : am_M), Rn m_A_breaks 152 [l0, l1, l2, vI a, l4, l5, l6, l7, l8, l9, l10, l11] st E u = Rn m_A_breaks 153 [l0, l1, l2, vI a, l4, l5, l6, l7, l8, l9, l10, l11] (vI a :: st) E u) ∧
  (∀ (l0 l1 l2 l3 l4 l5 l6 l7 l8 l9 l10 l11 : am_V) (a0 : Int) (E : am_E) (u : am_M) (hE : SE E), Rn m_A_breaks 153 [l0, l1, l2, l3, l4, l5, l6, l7, l8, l9, l10, l11] [vI a0, vR (some 1)] E u = bdV (Rn m_C_goesOnFor 0 [vR (some 1), vI a0, vB false] [] E u) (KV m_A_breaks 156 [l0, l1, l2, l3, l4, l5, l6, l7, l8, l9, l10, l11] [])) ∧
  (∀ (l0 l1 l2 l3 l4 l5 l6 l7 l8 l9 l10 l11 : am_V) (a0 : Int) (E : am_E) (u : am_M) (hE : SE E), Rn m_A_breaks 153 [l0, l1, l2, l3, l4, l5, l6, l7, l8, l9, l10, l11] [vI a0, vR (some 8)] E u = bdV (Rn m_C_goesOnFor 0 [vR (some 8), vI a0, vB false] [] E u) (KV m_A_breaks 156 [l0, l1, l2, l3, l4, l5, l6, l7, l8, l9, l10, l11] [])) ∧
  (∀ (l0 l1 l2 l3 l4 l5 l6 l7 l8 l9 l10 l11 : am_V) (a0 : Int) (E : am_E) (u : am_M) (hE : SE E), Rn m_A_breaks 153 [l0, l1, l2, l3, l4, l5, l6, l7, l8, l9, l10, l11] [vI a0, vR (some 73)] E u = bdV (Rn m_C_goesOnFor 0 [vR (some 73), vI a0, vB false] [] E u) (KV m_A_breaks 156 [l0, l1, l2, l3, l4, l5, l6, l7, l8, l9, l10, l11] [])) ∧
  (∀ (l1 l2 l3 l4 l5 l6 l7 l8 l9 l10 l11 : am_V) (a : Option Nat) (st : List am_V) (E : am_E) (u : am_M), Rn m_A_breaks 156 [vR a, l1, l2, l3, l4, l5, l6, l7, l8, l9, l10, l11] st E u = Rn m_A_breaks 157 [vR a, l1, l2, l3, l4, l5, l6, l7, l8, l9, l10, l11] (vR a :: st) E u) ∧
  (∀ (l0 l1 l2 l3 l4 l5 l6 l7 l8 l9 l10 l11 : am_V) (st : List am_V) (E : am_E) (u : am_M) (hE : SE E), Rn m_A_breaks 157 [l0, l1, l2, l3, l4, l5, l6, l7, l8, l9, l10, l11] (vR (some 0) :: st) E u = Rn m_A_breaks 160 [l0, l1, l2, l3, l4, l5, l6, l7, l8, l9, l10, l11] (vR (some 8) :: st) E u) ∧
  (∀ (l0 l1 l2 l3 l4 l5 l6 l7 l8 l9 l10 l11 : am_V) (st : List am_V) (E : am_E) (u : am_M) (hE : SE E), Rn m_A_breaks 160 [l0, l1, l2, l3, l4, l5, l6, l7, l8, l9, l10, l11] (vR (some 1) :: st) E u = Rn m_A_breaks 163 [l0, l1, l2, l3, l4, l5, l6, l7, l8, l9, l10, l11] (vR (some 3) :: st) E u) ∧
  (∀ (l0 l1 l2 l3 l4 l5 l6 l7 l8 l9 l10 l11 : am_V) (st : List am_V) (E : am_E) (u : am_M) (hE : SE E), Rn m_A_breaks 160 [l0, l1, l2, l3, l4, l5, l6, l7, l8, l9, l10, l11] (vR (some 8) :: st) E u = Rn m_A_breaks 163 [l0, l1, l2, l3, l4, l5, l6, l7, l8, l9, l10, l11] (vR (some 10) :: st) E u) ∧
  (∀ (l0 l1 l2 l3 l4 l5 l6 l7 l8 l9 l10 l11 : am_V) (st : List am_V) (E : am_E) (u : am_M) (hE : SE E), Rn m_A_breaks 160 [l0, l1, l2, l3, l4, l5, l6, l7, l8, l9, l10, l11] (vR (some 73) :: st) E u = Rn m_A_breaks 163 [l0, l1, l2, l3, l4, l5, l6, l7, l8, l9, l10, l11] (vR (some 75) :: st) E u) ∧
  (∀ (l0 l2 l3 l4 l5 l6 l7 l8 l9 l10 l11 : am_V) (a : Int) (st : List am_V) (E : am_E) (u : am_M), Rn m_A_breaks 163 [l0, vI a, l2, l3, l4, l5, l6, l7, l8, l9, l10, l11] st E u = Rn m_A_breaks 164 [l0, vI a, l2, l3, l4, l5, l6, l7, l8, l9, l10, l11] (vI a :: st) E u) ∧
  (∀ (l0 l1 l2 l3 l4 l5 l6 l7 l8 l9 l10 l11 : am_V) (a0 : Option Nat) (a1 : Int) (E : am_E) (u : am_M), Rn m_A_breaks 164 [l0, l1, l2, l3, l4, l5, l6, l7, l8, l9, l10, l11] [vI a1, vR a0] E u = bdI (Rn m_A_look 0 [vR a0, vI a1] [] E u) (KI m_A_breaks 167 [l0, l1, l2, l3, l4, l5, l6, l7, l8, l9, l10, l11] [])) ∧
  (∀ (l0 l1 l3 l4 l5 l6 l7 l8 l9 l10 l11 : am_V) (a : Int) (st : List am_V) (E : am_E) (u : am_M), Rn m_A_breaks 167 [l0, l1, vI a, l3, l4, l5, l6, l7, l8, l9, l10, l11] st E u = Rn m_A_breaks 168 [l0, l1, vI a, l3, l4, l5, l6, l7, l8, l9, l10, l11] (vI a :: st) E u) ∧
  (∀ (l0 l1 l2 l3 l4 l5 l6 l7 l8 l9 l10 l11 : am_V) (a b : Int) (st : List am_V) (E : am_E) (u : am_M), Rn m_A_breaks 168 [l0, l1, l2, l3, l4, l5, l6, l7, l8, l9, l10, l11] (vI b :: vI a :: st) E u = if a = b then Rn m_A_breaks 171 [l0, l1, l2, l3, l4, l5, l6, l7, l8, l9, l10, l11] st E u else Rn m_A_breaks 178 [l0, l1, l2, l3, l4, l5, l6, l7, l8, l9, l10, l11] st E u) ∧
  (∀ (l0 l1 l2 l3 l4 l5 l6 l7 l9 l10 l11 : am_V) (a : Int) (st : List am_V) (E : am_E) (u : am_M), Rn m_A_breaks 171 [l0, l1, l2, l3, l4, l5, l6, l7, vI a, l9, l10, l11] st E u = Rn m_A_breaks 173 [l0, l1, l2, l3, l4, l5, l6, l7, vI a, l9, l10, l11] (vI a :: st) E u) ∧
  (∀ (l0 l1 l2 l3 l4 l5 l6 l7 l8 l9 l10 : am_V) (a : Int) (st : List am_V) (E : am_E) (u : am_M), Rn m_A_breaks 173 [l0, l1, l2, l3, l4, l5, l6, l7, l8, l9, l10, vI a] st E u = Rn m_A_breaks 175 [l0, l1, l2, l3, l4, l5, l6, l7, l8, l9, l10, vI a] (vI a :: st) E u) ∧
  (∀ (l0 l1 l2 l3 l4 l5 l6 l7 l8 l9 l10 l11 : am_V) (a b : Int) (st : List am_V) (E : am_E) (u : am_M), Rn m_A_breaks 175 [l0, l1, l2, l3, l4, l5, l6, l7, l8, l9, l10, l11] (vI b :: vI a :: st) E u = Rn m_A_breaks 176 [l0, l1, l2, l3, l4, l5, l6, l7, l8, l9, l10, l11] (vI (w32 (a + b)) :: st) E u) ∧
  (∀ (l0 l1 l2 l3 l4 l5 l6 l7 l8 l9 l10 l11 : am_V) (a : Int) (st : List am_V) (E : am_E) (u : am_M), Rn m_A_breaks 176 [l0, l1, l2, l3, l4, l5, l6, l7, l8, l9, l10, l11] (vI a :: st) E u = Rn m_A_breaks 178 [l0, l1, l2, l3, l4, l5, l6, am_fx l7, vI a, l9, l10, l11] st E u) ∧
  (∀ (l0 l1 l2 l3 l4 l5 l6 l7 l8 l10 l11 : am_V) (a : Int) (st : List am_V) (E : am_E) (u : am_M), Rn m_A_breaks 178 [l0, l1, l2, l3, l4, l5, l6, l7, l8, vI a, l10, l11] st E u = Rn m_A_breaks 181 [l0, l1, l2, l3, l4, l5, l6, l7, am_fx l8, vI (w32 (a + 1)), l10, l11] st E u) ∧
  (∀ (l0 l1 l2 l3 l4 l5 l6 l7 l8 l9 l10 l11 : am_V) (st : List am_V) (E : am_E) (u : am_M), Rn m_A_breaks 181 [l0, l1, l2, l3, l4, l5, l6, l7, l8, l9, l10, l11] st E u = Rn m_A_breaks 79 [l0, l1, l2, l3, l4, l5, l6, l7, l8, l9, l10, l11] st E u) ∧
  (∀ (l0 l1 l2 l3 l4 l5 l6 l7 l8 l9 l10 l11 : am_V) (st : List am_V) (E : am_E) (u : am_M), Rn m_A_breaks 184 [l0, l1, l2, l3, l4, l5, l6, l7, l8, l9, l10, l11] st E u = Rn m_A_breaks 186 [l0, l1, l2, l3, l4, l5, l6, l7, l8, l9, l10, l11] (vI 10 :: st) E u) ∧
  (∀ (l0 l1 l2 l3 l4 l5 l6 l8 l9 l10 l11 : am_V) (a : Int) (st : List am_V) (E : am_E) (u : am_M), Rn m_A_breaks 186 [l0, l1, l2, l3, l4, l5, l6, vI a, l8, l9, l10, l11] st E u = Rn m_A_breaks 188 [l0, l1, l2, l3, l4, l5, l6, vI a, l8, l9, l10, l11] (vI a :: st) E u) ∧
  (∀ (l0 l1 l2 l3 l4 l5 l6 l7 l8 l9 l10 l11 : am_V) (a0 : Int) (a1 : Int) (E : am_E) (u : am_M), Rn m_A_breaks 188 [l0, l1, l2, l3, l4, l5, l6, l7, l8, l9, l10, l11] [vI a1, vI a0] E u = bdI (Rn m_A_power 0 [vI a0, vI a1, vB false, vB false] [] E u) (KI m_A_breaks 191 [l0, l1, l2, l3, l4, l5, l6, l7, l8, l9, l10, l11] [])) ∧
  (∀ (l0 l1 l2 l3 l4 l5 l6 l7 l8 l9 l10 l11 : am_V) (a : Int) (st : List am_V) (E : am_E) (u : am_M), Rn m_A_breaks 191 [l0, l1, l2, l3, l4, l5, l6, l7, l8, l9, l10, l11] (vI a :: st) E u = Rn m_A_breaks 193 [l0, l1, l2, l3, l4, l5, l6, l7, am_fx l8, vI a, l10, l11] st E u) ∧
  (∀ (l0 l1 l2 l3 l4 l5 l6 l7 l9 l10 l11 : am_V) (a : Int) (st : List am_V) (E : am_E) (u : am_M), Rn m_A_breaks 193 [l0, l1, l2, l3, l4, l5, l6, l7, vI a, l9, l10, l11] st E u = Rn m_A_breaks 195 [l0, l1, l2, l3, l4, l5, l6, l7, vI a, l9, l10, l11] (vI a :: st) E u) ∧
  (∀ (l0 l1 l2 l3 l4 l5 l6 l7 l8 l10 l11 : am_V) (a : Int) (st : List am_V) (E : am_E) (u : am_M), Rn m_A_breaks 195 [l0, l1, l2, l3, l4, l5, l6, l7, l8, vI a, l10, l11] st E u = Rn m_A_breaks 197 [l0, l1, l2, l3, l4, l5, l6, l7, l8, vI a, l10, l11] (vI a :: st) E u) ∧
  (∀ (l0 l1 l2 l3 l4 l5 l6 l7 l8 l9 l10 l11 : am_V) (a0 : Int) (a1 : Int) (E : am_E) (u : am_M), Rn m_A_breaks 197 [l0, l1, l2, l3, l4, l5, l6, l7, l8, l9, l10, l11] [vI a1, vI a0] E u = bdI (Rn m_A_commonDivisor 0 [vI a0, vI a1, vB false, vB false] [] E u) (KI m_A_breaks 200 [l0, l1, l2, l3, l4, l5, l6, l7, l8, l9, l10, l11] [])) ∧
  (∀ (l0 l1 l2 l3 l4 l5 l6 l7 l8 l9 l10 l11 : am_V) (a : Int) (st : List am_V) (E : am_E) (u : am_M), Rn m_A_breaks 200 [l0, l1, l2, l3, l4, l5, l6, l7, l8, l9, l10, l11] (vI a :: st) E u = Rn m_A_breaks 202 [l0, l1, l2, l3, l4, l5, l6, l7, l8, am_fx l9, vI a, l11] st E u) ∧
  (∀ (l0 l1 l2 l3 l4 l6 l7 l8 l9 l10 l11 : am_V) (a : Int) (st : List am_V) (E : am_E) (u : am_M), Rn m_A_breaks 202 [l0, l1, l2, l3, l4, vI a, l6, l7, l8, l9, l10, l11] st E u = Rn m_A_breaks 204 [l0, l1, l2, l3, l4, vI a, l6, l7, l8, l9, l10, l11] (vI a :: st) E u) ∧
  (∀ (l0 l1 l2 l3 l4 l5 l6 l7 l8 l9 l10 l11 : am_V) (a : Int) (st : List am_V) (E : am_E) (u : am_M), Rn m_A_breaks 204 [l0, l1, l2, l3, l4, l5, l6, l7, l8, l9, l10, l11] (vI a :: st) E u = if a = 0 then Rn m_A_breaks 207 [l0, l1, l2, l3, l4, l5, l6, l7, l8, l9, l10, l11] st E u else Rn m_A_breaks 212 [l0, l1, l2, l3, l4, l5, l6, l7, l8, l9, l10, l11] st E u) ∧
  (∀ (l0 l1 l2 l3 l4 l5 l6 l7 l9 l10 l11 : am_V) (a : Int) (st : List am_V) (E : am_E) (u : am_M), Rn m_A_breaks 207 [l0, l1, l2, l3, l4, l5, l6, l7, vI a, l9, l10, l11] st E u = Rn m_A_breaks 209 [l0, l1, l2, l3, l4, l5, l6, l7, vI a, l9, l10, l11] (vI a :: st) E u) ∧
  (∀ (l0 l1 l2 l3 l4 l5 l6 l7 l8 l9 l10 l11 : am_V) (st : List am_V) (E : am_E) (u : am_M), Rn m_A_breaks 209 [l0, l1, l2, l3, l4, l5, l6, l7, l8, l9, l10, l11] st E u = Rn m_A_breaks 214 [l0, l1, l2, l3, l4, l5, l6, l7, l8, l9, l10, l11] st E u) ∧
  (∀ (l0 l1 l2 l3 l4 l5 l6 l7 l8 l10 l11 : am_V) (a : Int) (st : List am_V) (E : am_E) (u : am_M), Rn m_A_breaks 212 [l0, l1, l2, l3, l4, l5, l6, l7, l8, vI a, l10, l11] st E u = Rn m_A_breaks 214 [l0, l1, l2, l3, l4, l5, l6, l7, l8, vI a, l10, l11] (vI a :: st) E u) ∧
  (∀ (l0 l1 l2 l3 l4 l5 l6 l7 l8 l9 l11 : am_V) (a : Int) (st : List am_V) (E : am_E) (u : am_M), Rn m_A_breaks 214 [l0, l1, l2, l3, l4, l5, l6, l7, l8, l9, vI a, l11] st E u = Rn m_A_breaks 216 [l0, l1, l2, l3, l4, l5, l6, l7, l8, l9, vI a, l11] (vI a :: st) E u) ∧
  (∀ (l0 l1 l2 l3 l4 l5 l6 l7 l8 l9 l10 l11 : am_V) (st : List am_V) (E : am_E) (u : am_M), Rn m_A_breaks 216 [l0, l1, l2, l3, l4, l5, l6, l7, l8, l9, l10, l11] st E u = Rn m_A_breaks 217 [l0, l1, l2, l3, l4, l5, l6, l7, l8, l9, l10, l11] (vI 1 :: st) E u) ∧
  (∀ (l0 l1 l2 l3 l4 l5 l6 l7 l8 l9 l10 l11 : am_V) (a b : Int) (st : List am_V) (E : am_E) (u : am_M), Rn m_A_breaks 217 [l0, l1, l2, l3, l4, l5, l6, l7, l8, l9, l10, l11] (vI b :: vI a :: st) E u = if a < b then Rn m_A_breaks 220 [l0, l1, l2, l3, l4, l5, l6, l7, l8, l9, l10, l11] st E u else Rn m_A_breaks 224 [l0, l1, l2, l3, l4, l5, l6, l7, l8, l9, l10, l11] st E u) ∧
  (∀ (l0 l1 l2 l3 l4 l5 l6 l7 l8 l9 l10 l11 : am_V) (st : List am_V) (E : am_E) (u : am_M), Rn m_A_breaks 220 [l0, l1, l2, l3, l4, l5, l6, l7, l8, l9, l10, l11] st E u = Rn m_A_breaks 221 [l0, l1, l2, l3, l4, l5, l6, l7, l8, l9, l10, l11] (vI 1 :: st) E u) ∧
  (∀ (l0 l1 l2 l3 l4 l5 l6 l7 l8 l9 l10 l11 : am_V) (st : List am_V) (E : am_E) (u : am_M), Rn m_A_breaks 221 [l0, l1, l2, l3, l4, l5, l6, l7, l8, l9, l10, l11] st E u = Rn m_A_breaks 226 [l0, l1, l2, l3, l4, l5, l6, l7, l8, l9, l10, l11] st E u) :=
  ⟨fun l1 l2 l3 l4 l5 l6 l7 l8 l9 l10 l11 a st E u => q_go (by decide +kernel : am_Pg 174 0 = some (.aload_n 0, 1, [], 0)) rfl,
  fun l0 l1 l2 l3 l4 l5 l6 l7 l8 l9 l10 l11 st E u hE => q_gfR (by decide +kernel : am_Pg 174 1 = some (.getfield 12, 3, [4, 8, 0, 0], 0)) (SE_k4 hE) rfl (SE_r4_0 hE),
  fun l0 l2 l3 l4 l5 l6 l7 l8 l9 l10 l11 a st E u => q_go (by decide +kernel : am_Pg 174 4 = some (.iload_n 1, 1, [], 0)) rfl,
  fun l0 l1 l2 l3 l4 l5 l6 l7 l8 l9 l10 l11 a0  E u hE => q_cI (by decide +kernel : am_Pg 174 5 = some (.invokevirtual 87, 3, [3, 29, 2, 0, 14, 1], 0)) (am_call_V (a := [vI a0]) (st' := []) (Nat.le_of_ble_eq_true rfl) rfl (SE_k0 hE cuB_1)) (by decide +kernel : am_Lm m_C_isPin = 2) (Nat.le_of_ble_eq_true rfl) rfl (by decide +kernel),
  fun l0 l1 l2 l3 l4 l5 l6 l7 l8 l9 l10 l11 a0  E u hE => q_cI (by decide +kernel : am_Pg 174 5 = some (.invokevirtual 87, 3, [3, 29, 2, 0, 14, 1], 0)) (am_call_V (a := [vI a0]) (st' := []) (Nat.le_of_ble_eq_true rfl) rfl (SE_k0 hE cuB_8)) (by decide +kernel : am_Lm m_C_isPin = 2) (Nat.le_of_ble_eq_true rfl) rfl (by decide +kernel),
  fun l0 l1 l2 l3 l4 l5 l6 l7 l8 l9 l10 l11 a0  E u hE => q_cI (by decide +kernel : am_Pg 174 5 = some (.invokevirtual 87, 3, [3, 29, 2, 0, 14, 1], 0)) (am_call_V (a := [vI a0]) (st' := []) (Nat.le_of_ble_eq_true rfl) rfl (SE_k0 hE cuB_73)) (by decide +kernel : am_Lm m_C_isPin = 2) (Nat.le_of_ble_eq_true rfl) rfl (by decide +kernel),
  fun l0 l1 l2 l3 l4 l5 l6 l7 l8 l9 l10 l11 a st E u => q_if_eq (tgt := 32) (by decide +kernel : am_Pg 174 8 = some (.ifCond .eq 24, 3, [], 0)) (by decide),
  fun l1 l2 l3 l4 l5 l6 l7 l8 l9 l10 l11 a st E u => q_go (by decide +kernel : am_Pg 174 11 = some (.aload_n 0, 1, [], 0)) rfl,
  fun l0 l1 l2 l3 l4 l5 l6 l7 l8 l9 l10 l11 st E u hE => q_gfR (by decide +kernel : am_Pg 174 12 = some (.getfield 12, 3, [4, 8, 0, 0], 0)) (SE_k4 hE) rfl (SE_r4_0 hE),
  fun l0 l1 l3 l4 l5 l6 l7 l8 l9 l10 l11 a st E u => q_go (by decide +kernel : am_Pg 174 15 = some (.iload_n 2, 1, [], 0)) rfl,
  fun l0 l1 l2 l3 l4 l5 l6 l7 l8 l9 l10 l11 a0  E u hE => q_cI (by decide +kernel : am_Pg 174 16 = some (.invokevirtual 61, 3, [3, 16, 2, 0, 14, 1], 0)) (am_call_V (a := [vI a0]) (st' := []) (Nat.le_of_ble_eq_true rfl) rfl (SE_k0 hE cuB_1)) (by decide +kernel : am_Lm m_C_isCell = 2) (Nat.le_of_ble_eq_true rfl) rfl (by decide +kernel),
  fun l0 l1 l2 l3 l4 l5 l6 l7 l8 l9 l10 l11 a0  E u hE => q_cI (by decide +kernel : am_Pg 174 16 = some (.invokevirtual 61, 3, [3, 16, 2, 0, 14, 1], 0)) (am_call_V (a := [vI a0]) (st' := []) (Nat.le_of_ble_eq_true rfl) rfl (SE_k0 hE cuB_8)) (by decide +kernel : am_Lm m_C_isCell = 2) (Nat.le_of_ble_eq_true rfl) rfl (by decide +kernel),
  fun l0 l1 l2 l3 l4 l5 l6 l7 l8 l9 l10 l11 a0  E u hE => q_cI (by decide +kernel : am_Pg 174 16 = some (.invokevirtual 61, 3, [3, 16, 2, 0, 14, 1], 0)) (am_call_V (a := [vI a0]) (st' := []) (Nat.le_of_ble_eq_true rfl) rfl (SE_k0 hE cuB_73)) (by decide +kernel : am_Lm m_C_isCell = 2) (Nat.le_of_ble_eq_true rfl) rfl (by decide +kernel),
  fun l0 l1 l2 l3 l4 l5 l6 l7 l8 l9 l10 l11 a st E u => q_if_eq (tgt := 32) (by decide +kernel : am_Pg 174 19 = some (.ifCond .eq 13, 3, [], 0)) (by decide),
  fun l0 l1 l2 l4 l5 l6 l7 l8 l9 l10 l11 a st E u => q_go (by decide +kernel : am_Pg 174 22 = some (.iload_n 3, 1, [], 0)) rfl,
  fun l0 l1 l2 l3 l4 l5 l6 l7 l8 l9 l10 l11 st E u => q_go (by decide +kernel : am_Pg 174 23 = some (.iconst 0, 1, [], 0)) rfl,
  fun l0 l1 l2 l3 l4 l5 l6 l7 l8 l9 l10 l11 st E u => q_go (by decide +kernel : am_Pg 174 24 = some (.bipush 30, 2, [], 0)) rfl,
  fun l0 l1 l2 l3 l4 l5 l6 l7 l8 l9 l10 l11 a0 a1 a2  E u => q_cI (by decide +kernel : am_Pg 174 26 = some (.invokestatic 46, 3, [2, 8, 3, 0], 0)) (am_call_S (f := fun _ _ => true) (a := [vI a0, vI a1, vI a2]) (st' := []) (Nat.le_of_ble_eq_true rfl) rfl rfl) (by decide +kernel : am_Lm m_A_isIn = 3) (Nat.le_of_ble_eq_true rfl) rfl (by decide +kernel),
  fun l0 l1 l2 l3 l4 l5 l6 l7 l8 l9 l10 l11 a st E u => q_if_ne (tgt := 34) (by decide +kernel : am_Pg 174 29 = some (.ifCond .ne 5, 3, [], 0)) (by decide),
  fun l0 l1 l2 l3 l4 l5 l6 l7 l8 l9 l10 l11 st E u => q_go (by decide +kernel : am_Pg 174 32 = some (.iconst (-1), 1, [], 0)) rfl,
  fun l0 l1 l2 l3 l4 l5 l6 l7 l8 l9 l10 l11 a E u => q_ret (by decide +kernel : am_Pg 174 33 = some (.ireturn, 1, [], 0)) rfl,
  fun l0 l1 l2 l3 l5 l6 l7 l8 l9 l10 l11 a st E u => q_go (by decide +kernel : am_Pg 174 34 = some (.iload 4, 2, [], 0)) rfl,
  fun l0 l1 l2 l3 l4 l5 l6 l7 l8 l9 l10 l11 st E u => q_go (by decide +kernel : am_Pg 174 36 = some (.iconst 0, 1, [], 0)) rfl,
  fun l0 l1 l2 l3 l4 l5 l6 l7 l8 l9 l10 l11 st E u => q_go (by decide +kernel : am_Pg 174 37 = some (.bipush 10, 2, [], 0)) rfl,
  fun l0 l1 l2 l3 l4 l5 l6 l7 l8 l9 l10 l11 a0 a1 a2  E u => q_cI (by decide +kernel : am_Pg 174 39 = some (.invokestatic 46, 3, [2, 8, 3, 0], 0)) (am_call_S (f := fun _ _ => true) (a := [vI a0, vI a1, vI a2]) (st' := []) (Nat.le_of_ble_eq_true rfl) rfl rfl) (by decide +kernel : am_Lm m_A_isIn = 3) (Nat.le_of_ble_eq_true rfl) rfl (by decide +kernel),
  fun l0 l1 l2 l3 l4 l5 l6 l7 l8 l9 l10 l11 a st E u => q_if_eq (tgt := 55) (by decide +kernel : am_Pg 174 42 = some (.ifCond .eq 13, 3, [], 0)) (by decide),
  fun l0 l1 l2 l3 l4 l6 l7 l8 l9 l10 l11 a st E u => q_go (by decide +kernel : am_Pg 174 45 = some (.iload 5, 2, [], 0)) rfl,
  fun l0 l1 l2 l3 l4 l5 l6 l7 l8 l9 l10 l11 st E u => q_go (by decide +kernel : am_Pg 174 47 = some (.iconst 0, 1, [], 0)) rfl,
  fun l0 l1 l2 l3 l4 l5 l6 l7 l8 l9 l10 l11 st E u => q_go (by decide +kernel : am_Pg 174 48 = some (.iconst 1, 1, [], 0)) rfl,
  fun l0 l1 l2 l3 l4 l5 l6 l7 l8 l9 l10 l11 a0 a1 a2  E u => q_cI (by decide +kernel : am_Pg 174 49 = some (.invokestatic 46, 3, [2, 8, 3, 0], 0)) (am_call_S (f := fun _ _ => true) (a := [vI a0, vI a1, vI a2]) (st' := []) (Nat.le_of_ble_eq_true rfl) rfl rfl) (by decide +kernel : am_Lm m_A_isIn = 3) (Nat.le_of_ble_eq_true rfl) rfl (by decide +kernel),
  fun l0 l1 l2 l3 l4 l5 l6 l7 l8 l9 l10 l11 a st E u => q_if_ne (tgt := 57) (by decide +kernel : am_Pg 174 52 = some (.ifCond .ne 5, 3, [], 0)) (by decide),
  fun l0 l1 l2 l3 l4 l5 l6 l7 l8 l9 l10 l11 st E u => q_go (by decide +kernel : am_Pg 174 55 = some (.iconst (-1), 1, [], 0)) rfl,
  fun l0 l1 l2 l3 l4 l5 l6 l7 l8 l9 l10 l11 a E u => q_ret (by decide +kernel : am_Pg 174 56 = some (.ireturn, 1, [], 0)) rfl,
  fun l1 l2 l3 l4 l5 l6 l7 l8 l9 l10 l11 a st E u => q_go (by decide +kernel : am_Pg 174 57 = some (.aload_n 0, 1, [], 0)) rfl,
  fun l0 l1 l2 l3 l4 l5 l6 l7 l8 l9 l10 l11 st E u hE => q_gfR (by decide +kernel : am_Pg 174 58 = some (.getfield 12, 3, [4, 8, 0, 0], 0)) (SE_k4 hE) rfl (SE_r4_0 hE),
  fun l0 l1 l2 l3 l4 l5 l6 l7 l8 l9 l10 l11   E u hE => q_cI (by decide +kernel : am_Pg 174 61 = some (.invokevirtual 160, 3, [3, 93, 1, 0, 14, 1], 0)) (am_call_V (a := []) (st' := []) (Nat.le_of_ble_eq_true rfl) rfl (SE_k0 hE cuB_1)) (by decide +kernel : am_Lm m_C_holdSet = 3) (Nat.le_of_ble_eq_true rfl) rfl (by decide +kernel),
  fun l0 l1 l2 l3 l4 l5 l6 l7 l8 l9 l10 l11   E u hE => q_cI (by decide +kernel : am_Pg 174 61 = some (.invokevirtual 160, 3, [3, 93, 1, 0, 14, 1], 0)) (am_call_V (a := []) (st' := []) (Nat.le_of_ble_eq_true rfl) rfl (SE_k0 hE cuB_8)) (by decide +kernel : am_Lm m_C_holdSet = 3) (Nat.le_of_ble_eq_true rfl) rfl (by decide +kernel),
  fun l0 l1 l2 l3 l4 l5 l6 l7 l8 l9 l10 l11   E u hE => q_cI (by decide +kernel : am_Pg 174 61 = some (.invokevirtual 160, 3, [3, 93, 1, 0, 14, 1], 0)) (am_call_V (a := []) (st' := []) (Nat.le_of_ble_eq_true rfl) rfl (SE_k0 hE cuB_73)) (by decide +kernel : am_Lm m_C_holdSet = 3) (Nat.le_of_ble_eq_true rfl) rfl (by decide +kernel),
  fun l0 l1 l2 l3 l4 l5 l6 l7 l8 l9 l10 l11 a st E u => q_go (by decide +kernel : am_Pg 174 64 = some (.istore 6, 2, [], 0)) rfl,
  fun l0 l1 l2 l3 l4 l5 l7 l8 l9 l10 l11 a st E u => q_go (by decide +kernel : am_Pg 174 66 = some (.iload 6, 2, [], 0)) rfl,
  fun l0 l1 l2 l3 l4 l5 l6 l7 l8 l9 l10 l11 a0  E u => q_cI (by decide +kernel : am_Pg 174 68 = some (.invokestatic 209, 3, [2, 151, 1, 0], 0)) (am_call_S (f := fun _ _ => true) (a := [vI a0]) (st' := []) (Nat.le_of_ble_eq_true rfl) rfl rfl) (by decide +kernel : am_Lm m_J_bitI = 1) (Nat.le_of_ble_eq_true rfl) rfl (by decide +kernel),
  fun l0 l1 l2 l3 l4 l5 l6 l7 l8 l9 l10 l11 a st E u => q_go (by decide +kernel : am_Pg 174 71 = some (.istore 7, 2, [], 0)) rfl,
  fun l0 l1 l2 l3 l4 l5 l6 l7 l8 l9 l10 l11 st E u => q_go (by decide +kernel : am_Pg 174 73 = some (.iconst 0, 1, [], 0)) rfl,
  fun l0 l1 l2 l3 l4 l5 l6 l7 l8 l9 l10 l11 a st E u => q_go (by decide +kernel : am_Pg 174 74 = some (.istore 8, 2, [], 0)) rfl,
  fun l0 l1 l2 l3 l4 l5 l6 l7 l8 l9 l10 l11 st E u => q_go (by decide +kernel : am_Pg 174 76 = some (.iconst 0, 1, [], 0)) rfl,
  fun l0 l1 l2 l3 l4 l5 l6 l7 l8 l9 l10 l11 a st E u => q_go (by decide +kernel : am_Pg 174 77 = some (.istore 9, 2, [], 0)) rfl,
  fun l0 l1 l2 l3 l4 l5 l7 l8 l9 l10 l11 a st E u => q_go (by decide +kernel : am_Pg 174 81 = some (.iload 6, 2, [], 0)) rfl,
  fun l0 l1 l2 l3 l4 l5 l6 l7 l8 l9 l10 l11 a b st E u => q_icmp_gt (tgt := 184) (by decide +kernel : am_Pg 174 83 = some (.if_icmp .gt 101, 3, [], 0)) (by decide),
  fun l0 l1 l2 l3 l4 l5 l6 l7 l8 l10 l11 a st E u => q_go (by decide +kernel : am_Pg 174 86 = some (.iload 9, 2, [], 0)) rfl,
  fun l0 l1 l2 l3 l4 l5 l7 l8 l9 l10 l11 a st E u => q_go (by decide +kernel : am_Pg 174 88 = some (.iload 6, 2, [], 0)) rfl,
  fun l0 l1 l2 l3 l4 l5 l6 l7 l8 l9 l10 l11 st E u => q_go (by decide +kernel : am_Pg 174 90 = some (.iconst (-1), 1, [], 0)) rfl,
  fun l0 l1 l2 l3 l4 l5 l6 l7 l8 l9 l10 l11 a b st E u => q_go (by decide +kernel : am_Pg 174 91 = some (.ixor, 1, [], 0)) rfl,
  fun l0 l1 l2 l3 l4 l5 l6 l7 l8 l9 l10 l11 a b st E u => q_go (by decide +kernel : am_Pg 174 92 = some (.iand, 1, [], 0)) rfl,
  fun l0 l1 l2 l3 l4 l5 l6 l7 l8 l9 l10 l11 a st E u => q_if_ne (tgt := 178) (by decide +kernel : am_Pg 174 93 = some (.ifCond .ne 85, 3, [], 0)) (by decide),
  fun l0 l1 l2 l3 l4 l5 l6 l7 l8 l10 l11 a st E u => q_go (by decide +kernel : am_Pg 174 96 = some (.iload 9, 2, [], 0)) rfl,
  fun l0 l1 l2 l3 l4 l5 l6 l7 l8 l9 l10 l11 a0  E u => q_cI (by decide +kernel : am_Pg 174 98 = some (.invokestatic 209, 3, [2, 151, 1, 0], 0)) (am_call_S (f := fun _ _ => true) (a := [vI a0]) (st' := []) (Nat.le_of_ble_eq_true rfl) rfl rfl) (by decide +kernel : am_Lm m_J_bitI = 1) (Nat.le_of_ble_eq_true rfl) rfl (by decide +kernel),
  fun l0 l1 l2 l3 l4 l5 l6 l7 l8 l9 l10 l11 a st E u => q_go (by decide +kernel : am_Pg 174 101 = some (.istore 10, 2, [], 0)) rfl,
  fun l0 l1 l2 l3 l5 l6 l7 l8 l9 l10 l11 a st E u => q_go (by decide +kernel : am_Pg 174 103 = some (.iload 4, 2, [], 0)) rfl,
  fun l0 l1 l2 l3 l4 l5 l6 l7 l8 l9 l11 a st E u => q_go (by decide +kernel : am_Pg 174 105 = some (.iload 10, 2, [], 0)) rfl,
  fun l0 l1 l2 l3 l4 l5 l6 l7 l8 l9 l10 l11 a0 a1  E u => q_cI (by decide +kernel : am_Pg 174 107 = some (.invokestatic 237, 3, [2, 172, 2, 0], 0)) (am_call_S (f := fun _ _ => true) (a := [vI a0, vI a1]) (st' := []) (Nat.le_of_ble_eq_true rfl) rfl rfl) (by decide +kernel : am_Lm m_A_power = 4) (Nat.le_of_ble_eq_true rfl) rfl (by decide +kernel),
  fun l0 l1 l2 l3 l4 l5 l6 l7 l8 l9 l10 l11 st E u => q_go (by decide +kernel : am_Pg 174 110 = some (.bipush 10, 2, [], 0)) rfl,
  fun l0 l1 l2 l3 l5 l6 l7 l8 l9 l10 l11 a st E u => q_go (by decide +kernel : am_Pg 174 112 = some (.iload 4, 2, [], 0)) rfl,
  fun l0 l1 l2 l3 l4 l5 l6 l7 l8 l9 l10 l11 a b st E u => q_go (by decide +kernel : am_Pg 174 114 = some (.isub, 1, [], 0)) rfl,
  fun l0 l1 l2 l3 l4 l5 l6 l8 l9 l10 l11 a st E u => q_go (by decide +kernel : am_Pg 174 115 = some (.iload 7, 2, [], 0)) rfl,
  fun l0 l1 l2 l3 l4 l5 l6 l7 l8 l9 l11 a st E u => q_go (by decide +kernel : am_Pg 174 117 = some (.iload 10, 2, [], 0)) rfl,
  fun l0 l1 l2 l3 l4 l5 l6 l7 l8 l9 l10 l11 a b st E u => q_go (by decide +kernel : am_Pg 174 119 = some (.isub, 1, [], 0)) rfl,
  fun l0 l1 l2 l3 l4 l5 l6 l7 l8 l9 l10 l11 a0 a1 r0 E u => q_cI (by decide +kernel : am_Pg 174 120 = some (.invokestatic 237, 3, [2, 172, 2, 0], 0)) (am_call_S (f := fun _ _ => true) (a := [vI a0, vI a1]) (st' := [r0]) (Nat.le_of_ble_eq_true rfl) rfl rfl) (by decide +kernel : am_Lm m_A_power = 4) (Nat.le_of_ble_eq_true rfl) rfl (by decide +kernel),
  fun l0 l1 l2 l3 l4 l5 l6 l7 l8 l9 l10 l11 a b st E u => q_go (by decide +kernel : am_Pg 174 123 = some (.imul, 1, [], 0)) rfl,
  fun l0 l1 l2 l3 l4 l5 l6 l7 l8 l9 l10 l11 a st E u => q_go (by decide +kernel : am_Pg 174 124 = some (.istore 11, 2, [], 0)) rfl,
  fun l1 l2 l3 l4 l5 l6 l7 l8 l9 l10 l11 a st E u => q_go (by decide +kernel : am_Pg 174 126 = some (.aload_n 0, 1, [], 0)) rfl,
  fun l0 l1 l2 l3 l4 l5 l6 l7 l8 l9 l10 l11 st E u hE => q_gfR (by decide +kernel : am_Pg 174 127 = some (.getfield 16, 3, [4, 8, 1, 0], 0)) (SE_k4 hE) rfl (SE_r4_1 hE),
  fun l1 l2 l3 l4 l5 l6 l7 l8 l9 l10 l11 a st E u => q_go (by decide +kernel : am_Pg 174 130 = some (.aload_n 0, 1, [], 0)) rfl,
  fun l0 l1 l2 l3 l4 l5 l6 l7 l8 l9 l10 l11 st E u hE => q_gfR (by decide +kernel : am_Pg 174 131 = some (.getfield 12, 3, [4, 8, 0, 0], 0)) (SE_k4 hE) rfl (SE_r4_0 hE),
  fun l0 l1 l2 l3 l4 l5 l6 l7 l8 l10 l11 a st E u => q_go (by decide +kernel : am_Pg 174 134 = some (.iload 9, 2, [], 0)) rfl,
  fun l0 l1 l2 l3 l4 l5 l6 l7 l8 l9 l10 l11 a0 a1  E u hE => q_cV (by decide +kernel : am_Pg 174 136 = some (.invokevirtual 214, 3, [3, 152, 3, 0, 14, 1], 0)) (am_call_V (a := [vR a0, vI a1]) (st' := []) (Nat.le_of_ble_eq_true rfl) rfl (SE_k0 hE cuB_1)) (by decide +kernel : am_Lm m_C_becomesCut = 3) (Nat.le_of_ble_eq_true rfl) rfl (by decide +kernel),
  fun l0 l1 l2 l3 l4 l5 l6 l7 l8 l9 l10 l11 a0 a1  E u hE => q_cV (by decide +kernel : am_Pg 174 136 = some (.invokevirtual 214, 3, [3, 152, 3, 0, 14, 1], 0)) (am_call_V (a := [vR a0, vI a1]) (st' := []) (Nat.le_of_ble_eq_true rfl) rfl (SE_k0 hE cuB_8)) (by decide +kernel : am_Lm m_C_becomesCut = 3) (Nat.le_of_ble_eq_true rfl) rfl (by decide +kernel),
  fun l0 l1 l2 l3 l4 l5 l6 l7 l8 l9 l10 l11 a0 a1  E u hE => q_cV (by decide +kernel : am_Pg 174 136 = some (.invokevirtual 214, 3, [3, 152, 3, 0, 14, 1], 0)) (am_call_V (a := [vR a0, vI a1]) (st' := []) (Nat.le_of_ble_eq_true rfl) rfl (SE_k0 hE cuB_73)) (by decide +kernel : am_Lm m_C_becomesCut = 3) (Nat.le_of_ble_eq_true rfl) rfl (by decide +kernel),
  fun l1 l2 l3 l4 l5 l6 l7 l8 l9 l10 l11 a st E u => q_go (by decide +kernel : am_Pg 174 139 = some (.aload_n 0, 1, [], 0)) rfl,
  fun l0 l1 l2 l3 l4 l5 l6 l7 l8 l9 l10 l11 st E u hE => q_gfR (by decide +kernel : am_Pg 174 140 = some (.getfield 16, 3, [4, 8, 1, 0], 0)) (SE_k4 hE) rfl (SE_r4_1 hE),
  fun l0 l1 l2 l3 l4 l5 l6 l7 l8 l9 l10 a st E u => q_go (by decide +kernel : am_Pg 174 143 = some (.iload 11, 2, [], 0)) rfl,
  fun l0 l1 l2 l3 l4 l5 l6 l7 l8 l9 l10 l11 a st E u => q_if_ne (tgt := 152) (by decide +kernel : am_Pg 174 145 = some (.ifCond .ne 7, 3, [], 0)) (by decide),
  fun l0 l1 l2 l3 l4 l5 l6 l7 l8 l9 l10 l11 st E u => q_go (by decide +kernel : am_Pg 174 148 = some (.iconst 0, 1, [], 0)) rfl,
  fun l0 l1 l2 l3 l4 l5 l6 l7 l8 l9 l10 l11 st E u => q_go (by decide +kernel : am_Pg 174 149 = some (.goto 4, 3, [], 0)) rfl,
  fun l0 l1 l2 l4 l5 l6 l7 l8 l9 l10 l11 a st E u => q_go (by decide +kernel : am_Pg 174 152 = some (.iload_n 3, 1, [], 0)) rfl,
  fun l0 l1 l2 l3 l4 l5 l6 l7 l8 l9 l10 l11 a0  E u hE => q_cV (by decide +kernel : am_Pg 174 153 = some (.invokevirtual 193, 3, [3, 132, 2, 0, 14, 1], 0)) (am_call_V (a := [vI a0]) (st' := []) (Nat.le_of_ble_eq_true rfl) rfl (SE_k0 hE cuB_1)) (by decide +kernel : am_Lm m_C_goesOnFor = 3) (Nat.le_of_ble_eq_true rfl) rfl (by decide +kernel),
  fun l0 l1 l2 l3 l4 l5 l6 l7 l8 l9 l10 l11 a0  E u hE => q_cV (by decide +kernel : am_Pg 174 153 = some (.invokevirtual 193, 3, [3, 132, 2, 0, 14, 1], 0)) (am_call_V (a := [vI a0]) (st' := []) (Nat.le_of_ble_eq_true rfl) rfl (SE_k0 hE cuB_8)) (by decide +kernel : am_Lm m_C_goesOnFor = 3) (Nat.le_of_ble_eq_true rfl) rfl (by decide +kernel),
  fun l0 l1 l2 l3 l4 l5 l6 l7 l8 l9 l10 l11 a0  E u hE => q_cV (by decide +kernel : am_Pg 174 153 = some (.invokevirtual 193, 3, [3, 132, 2, 0, 14, 1], 0)) (am_call_V (a := [vI a0]) (st' := []) (Nat.le_of_ble_eq_true rfl) rfl (SE_k0 hE cuB_73)) (by decide +kernel : am_Lm m_C_goesOnFor = 3) (Nat.le_of_ble_eq_true rfl) rfl (by decide +kernel),
  fun l1 l2 l3 l4 l5 l6 l7 l8 l9 l10 l11 a st E u => q_go (by decide +kernel : am_Pg 174 156 = some (.aload_n 0, 1, [], 0)) rfl,
  fun l0 l1 l2 l3 l4 l5 l6 l7 l8 l9 l10 l11 st E u hE => q_gfR (by decide +kernel : am_Pg 174 157 = some (.getfield 16, 3, [4, 8, 1, 0], 0)) (SE_k4 hE) rfl (SE_r4_1 hE),
  fun l0 l1 l2 l3 l4 l5 l6 l7 l8 l9 l10 l11 st E u hE => q_gfR (by decide +kernel : am_Pg 174 160 = some (.getfield 98, 3, [0, 14, 9, 1], 0)) (SE_k0 hE cuB_1) rfl (SE_r0_9 hE cuB_1),
  fun l0 l1 l2 l3 l4 l5 l6 l7 l8 l9 l10 l11 st E u hE => q_gfR (by decide +kernel : am_Pg 174 160 = some (.getfield 98, 3, [0, 14, 9, 1], 0)) (SE_k0 hE cuB_8) rfl (SE_r0_9 hE cuB_8),
  fun l0 l1 l2 l3 l4 l5 l6 l7 l8 l9 l10 l11 st E u hE => q_gfR (by decide +kernel : am_Pg 174 160 = some (.getfield 98, 3, [0, 14, 9, 1], 0)) (SE_k0 hE cuB_73) rfl (SE_r0_9 hE cuB_73),
  fun l0 l2 l3 l4 l5 l6 l7 l8 l9 l10 l11 a st E u => q_go (by decide +kernel : am_Pg 174 163 = some (.iload_n 1, 1, [], 0)) rfl,
  fun l0 l1 l2 l3 l4 l5 l6 l7 l8 l9 l10 l11 a0 a1  E u => q_cI (by decide +kernel : am_Pg 174 164 = some (.invokestatic 94, 3, [2, 36, 2, 0], 0)) (am_call_S (f := fun _ _ => true) (a := [vR a0, vI a1]) (st' := []) (Nat.le_of_ble_eq_true rfl) rfl rfl) (by decide +kernel : am_Lm m_A_look = 2) (Nat.le_of_ble_eq_true rfl) rfl (by decide +kernel),
  fun l0 l1 l3 l4 l5 l6 l7 l8 l9 l10 l11 a st E u => q_go (by decide +kernel : am_Pg 174 167 = some (.iload_n 2, 1, [], 0)) rfl,
  fun l0 l1 l2 l3 l4 l5 l6 l7 l8 l9 l10 l11 a b st E u => q_icmp_ne (tgt := 178) (by decide +kernel : am_Pg 174 168 = some (.if_icmp .ne 10, 3, [], 0)) (by decide),
  fun l0 l1 l2 l3 l4 l5 l6 l7 l9 l10 l11 a st E u => q_go (by decide +kernel : am_Pg 174 171 = some (.iload 8, 2, [], 0)) rfl,
  fun l0 l1 l2 l3 l4 l5 l6 l7 l8 l9 l10 a st E u => q_go (by decide +kernel : am_Pg 174 173 = some (.iload 11, 2, [], 0)) rfl,
  fun l0 l1 l2 l3 l4 l5 l6 l7 l8 l9 l10 l11 a b st E u => q_go (by decide +kernel : am_Pg 174 175 = some (.iadd, 1, [], 0)) rfl,
  fun l0 l1 l2 l3 l4 l5 l6 l7 l8 l9 l10 l11 a st E u => q_go (by decide +kernel : am_Pg 174 176 = some (.istore 8, 2, [], 0)) rfl,
  fun l0 l1 l2 l3 l4 l5 l6 l7 l8 l10 l11 a st E u => q_go (by decide +kernel : am_Pg 174 178 = some (.iinc 9 1, 3, [], 0)) rfl,
  fun l0 l1 l2 l3 l4 l5 l6 l7 l8 l9 l10 l11 st E u => q_go (by decide +kernel : am_Pg 174 181 = some (.goto (-102), 3, [], 0)) rfl,
  fun l0 l1 l2 l3 l4 l5 l6 l7 l8 l9 l10 l11 st E u => q_go (by decide +kernel : am_Pg 174 184 = some (.bipush 10, 2, [], 0)) rfl,
  fun l0 l1 l2 l3 l4 l5 l6 l8 l9 l10 l11 a st E u => q_go (by decide +kernel : am_Pg 174 186 = some (.iload 7, 2, [], 0)) rfl,
  fun l0 l1 l2 l3 l4 l5 l6 l7 l8 l9 l10 l11 a0 a1  E u => q_cI (by decide +kernel : am_Pg 174 188 = some (.invokestatic 237, 3, [2, 172, 2, 0], 0)) (am_call_S (f := fun _ _ => true) (a := [vI a0, vI a1]) (st' := []) (Nat.le_of_ble_eq_true rfl) rfl rfl) (by decide +kernel : am_Lm m_A_power = 4) (Nat.le_of_ble_eq_true rfl) rfl (by decide +kernel),
  fun l0 l1 l2 l3 l4 l5 l6 l7 l8 l9 l10 l11 a st E u => q_go (by decide +kernel : am_Pg 174 191 = some (.istore 9, 2, [], 0)) rfl,
  fun l0 l1 l2 l3 l4 l5 l6 l7 l9 l10 l11 a st E u => q_go (by decide +kernel : am_Pg 174 193 = some (.iload 8, 2, [], 0)) rfl,
  fun l0 l1 l2 l3 l4 l5 l6 l7 l8 l10 l11 a st E u => q_go (by decide +kernel : am_Pg 174 195 = some (.iload 9, 2, [], 0)) rfl,
  fun l0 l1 l2 l3 l4 l5 l6 l7 l8 l9 l10 l11 a0 a1  E u => q_cI (by decide +kernel : am_Pg 174 197 = some (.invokestatic 240, 3, [2, 173, 2, 0], 0)) (am_call_S (f := fun _ _ => true) (a := [vI a0, vI a1]) (st' := []) (Nat.le_of_ble_eq_true rfl) rfl rfl) (by decide +kernel : am_Lm m_A_commonDivisor = 4) (Nat.le_of_ble_eq_true rfl) rfl (by decide +kernel),
  fun l0 l1 l2 l3 l4 l5 l6 l7 l8 l9 l10 l11 a st E u => q_go (by decide +kernel : am_Pg 174 200 = some (.istore 10, 2, [], 0)) rfl,
  fun l0 l1 l2 l3 l4 l6 l7 l8 l9 l10 l11 a st E u => q_go (by decide +kernel : am_Pg 174 202 = some (.iload 5, 2, [], 0)) rfl,
  fun l0 l1 l2 l3 l4 l5 l6 l7 l8 l9 l10 l11 a st E u => q_if_ne (tgt := 212) (by decide +kernel : am_Pg 174 204 = some (.ifCond .ne 8, 3, [], 0)) (by decide),
  fun l0 l1 l2 l3 l4 l5 l6 l7 l9 l10 l11 a st E u => q_go (by decide +kernel : am_Pg 174 207 = some (.iload 8, 2, [], 0)) rfl,
  fun l0 l1 l2 l3 l4 l5 l6 l7 l8 l9 l10 l11 st E u => q_go (by decide +kernel : am_Pg 174 209 = some (.goto 5, 3, [], 0)) rfl,
  fun l0 l1 l2 l3 l4 l5 l6 l7 l8 l10 l11 a st E u => q_go (by decide +kernel : am_Pg 174 212 = some (.iload 9, 2, [], 0)) rfl,
  fun l0 l1 l2 l3 l4 l5 l6 l7 l8 l9 l11 a st E u => q_go (by decide +kernel : am_Pg 174 214 = some (.iload 10, 2, [], 0)) rfl,
  fun l0 l1 l2 l3 l4 l5 l6 l7 l8 l9 l10 l11 st E u => q_go (by decide +kernel : am_Pg 174 216 = some (.iconst 1, 1, [], 0)) rfl,
  fun l0 l1 l2 l3 l4 l5 l6 l7 l8 l9 l10 l11 a b st E u => q_icmp_ge (tgt := 224) (by decide +kernel : am_Pg 174 217 = some (.if_icmp .ge 7, 3, [], 0)) (by decide),
  fun l0 l1 l2 l3 l4 l5 l6 l7 l8 l9 l10 l11 st E u => q_go (by decide +kernel : am_Pg 174 220 = some (.iconst 1, 1, [], 0)) rfl,
  fun l0 l1 l2 l3 l4 l5 l6 l7 l8 l9 l10 l11 st E u => q_go (by decide +kernel : am_Pg 174 221 = some (.goto 5, 3, [], 0)) rfl⟩
theorem x_A_breaks_1 :
  (∀ (l0 l1 l2 l3 l4 l5 l6 l7 l8 l9 l11 : am_V) (a : Int) (st : List am_V) (E : am_E) (u : am_M), Rn m_A_breaks 224 [l0, l1, l2, l3, l4, l5, l6, l7, l8, l9, vI a, l11] st E u = Rn m_A_breaks 226 [l0, l1, l2, l3, l4, l5, l6, l7, l8, l9, vI a, l11] (vI a :: st) E u) ∧
  (∀ (l0 l1 l2 l3 l4 l5 l6 l7 l8 l9 l10 l11 : am_V) (a b : Int) (st : List am_V) (E : am_E) (u : am_M) (h : b ≠ 0), Rn m_A_breaks 226 [l0, l1, l2, l3, l4, l5, l6, l7, l8, l9, l10, l11] (vI b :: vI a :: st) E u = Rn m_A_breaks 227 [l0, l1, l2, l3, l4, l5, l6, l7, l8, l9, l10, l11] (vI (w32 (a.tdiv b)) :: st) E u) ∧
  (∀ (l0 l1 l2 l3 l4 l5 l6 l7 l8 l9 l10 l11 : am_V) (a : Int) (E : am_E) (u : am_M), Rn m_A_breaks 227 [l0, l1, l2, l3, l4, l5, l6, l7, l8, l9, l10, l11] [vI a] E u = some (some (vI a), E, u)) :=
  ⟨fun l0 l1 l2 l3 l4 l5 l6 l7 l8 l9 l11 a st E u => q_go (by decide +kernel : am_Pg 174 224 = some (.iload 10, 2, [], 0)) rfl,
  fun l0 l1 l2 l3 l4 l5 l6 l7 l8 l9 l10 l11 a b st E u h => q_div (by decide +kernel : am_Pg 174 226 = some (.idiv, 1, [], 0)) h,
  fun l0 l1 l2 l3 l4 l5 l6 l7 l8 l9 l10 l11 a E u => q_ret (by decide +kernel : am_Pg 174 227 = some (.ireturn, 1, [], 0)) rfl⟩
theorem x_A_image :
  (∀ (a : Option Nat) (st : List am_V) (E : am_E) (u : am_M), Rn m_A_image 0 [vR a] st E u = Rn m_A_image 1 [vR a] (vR a :: st) E u) ∧
  (∀ (l0 : am_V) (st : List am_V) (E : am_E) (u : am_M) (hE : SE E), Rn m_A_image 1 [l0] (vR (some 0) :: st) E u = Rn m_A_image 4 [l0] (vR (some 73) :: st) E u) ∧
  (∀ (a : Option Nat) (st : List am_V) (E : am_E) (u : am_M), Rn m_A_image 4 [vR a] st E u = Rn m_A_image 5 [vR a] (vR a :: st) E u) ∧
  (∀ (l0 : am_V) (st : List am_V) (E : am_E) (u : am_M) (hE : SE E), Rn m_A_image 5 [l0] (vR (some 0) :: st) E u = Rn m_A_image 8 [l0] (vR (some 1) :: st) E u) ∧
  (∀ (l0 : am_V) (a0 : Option Nat) (E : am_E) (u : am_M) (hE : SE E), Rn m_A_image 8 [l0] [vR a0, vR (some 1)] E u = bdV (Rn m_C_becomes 0 [vR (some 1), vR a0] [] E u) (KV m_A_image 11 [l0] [])) ∧
  (∀ (l0 : am_V) (a0 : Option Nat) (E : am_E) (u : am_M) (hE : SE E), Rn m_A_image 8 [l0] [vR a0, vR (some 8)] E u = bdV (Rn m_C_becomes 0 [vR (some 8), vR a0] [] E u) (KV m_A_image 11 [l0] [])) ∧
  (∀ (l0 : am_V) (a0 : Option Nat) (E : am_E) (u : am_M) (hE : SE E), Rn m_A_image 8 [l0] [vR a0, vR (some 73)] E u = bdV (Rn m_C_becomes 0 [vR (some 73), vR a0] [] E u) (KV m_A_image 11 [l0] [])) ∧
  (∀ (a : Option Nat) (st : List am_V) (E : am_E) (u : am_M), Rn m_A_image 11 [vR a] st E u = Rn m_A_image 12 [vR a] (vR a :: st) E u) ∧
  (∀ (l0 : am_V) (st : List am_V) (E : am_E) (u : am_M) (hE : SE E), Rn m_A_image 12 [l0] (vR (some 0) :: st) E u = Rn m_A_image 15 [l0] (vR (some 80) :: st) E u) ∧
  (∀ (a : Option Nat) (st : List am_V) (E : am_E) (u : am_M), Rn m_A_image 15 [vR a] st E u = Rn m_A_image 16 [vR a] (vR a :: st) E u) ∧
  (∀ (l0 : am_V) (st : List am_V) (E : am_E) (u : am_M) (hE : SE E), Rn m_A_image 16 [l0] (vR (some 0) :: st) E u = Rn m_A_image 19 [l0] (vR (some 15) :: st) E u) ∧
  (∀ (l0 : am_V) (a0 : Option Nat) (E : am_E) (u : am_M) (hE : SE E), Rn m_A_image 19 [l0] [vR a0, vR (some 15)] E u = bdV (Rn m_P_becomes 0 [vR (some 15), vR a0, vB false, vB false] [] E u) (KV m_A_image 22 [l0] [])) ∧
  (∀ (l0 : am_V) (a0 : Option Nat) (E : am_E) (u : am_M) (hE : SE E), Rn m_A_image 19 [l0] [vR a0, vR (some 80)] E u = bdV (Rn m_P_becomes 0 [vR (some 80), vR a0, vB false, vB false] [] E u) (KV m_A_image 22 [l0] [])) ∧
  (∀ (a : Option Nat) (st : List am_V) (E : am_E) (u : am_M), Rn m_A_image 22 [vR a] st E u = Rn m_A_image 23 [vR a] (vR a :: st) E u) ∧
  (∀ (l0 : am_V) (st : List am_V) (E : am_E) (u : am_M), Rn m_A_image 23 [l0] st E u = Rn m_A_image 24 [l0] (vI 1 :: st) E u) ∧
  (∀ (l0 : am_V) (a : Int) (st : List am_V) (E : am_E) (u : am_M) (hE : SE E) (ha : a = 0 ∨ a = 1), Rn m_A_image 24 [l0] (vI a :: vR (some 0) :: st) E u = Rn m_A_image 27 [l0] st E (am_up u 0 7 a)) ∧
  (∀ (l0 : am_V) (b : Bool) (st : List am_V) (E : am_E) (u : am_M) (hE : SE E), Rn m_A_image 24 [l0] (vI (bI b) :: vR (some 0) :: st) E u = Rn m_A_image 27 [l0] st E (am_up u 0 7 (bI b))) ∧
  (∀ (l0 : am_V) (st : List am_V) (E : am_E) (u : am_M), Rn m_A_image 27 [l0] st E u = Rn m_A_image 28 [l0] (vI 1 :: st) E u) ∧
  (∀ (l0 : am_V) (a : Int) (E : am_E) (u : am_M), Rn m_A_image 28 [l0] [vI a] E u = some (some (vI a), E, u)) :=
  ⟨fun a st E u => q_go (by decide +kernel : am_Pg 177 0 = some (.aload_n 0, 1, [], 0)) rfl,
  fun l0 st E u hE => q_gfR (by decide +kernel : am_Pg 177 1 = some (.getfield 26, 3, [4, 8, 3, 0], 0)) (SE_k4 hE) rfl (SE_r4_3 hE),
  fun a st E u => q_go (by decide +kernel : am_Pg 177 4 = some (.aload_n 0, 1, [], 0)) rfl,
  fun l0 st E u hE => q_gfR (by decide +kernel : am_Pg 177 5 = some (.getfield 12, 3, [4, 8, 0, 0], 0)) (SE_k4 hE) rfl (SE_r4_0 hE),
  fun l0 a0  E u hE => q_cV (by decide +kernel : am_Pg 177 8 = some (.invokevirtual 141, 3, [3, 78, 2, 0, 14, 1], 0)) (am_call_V (a := [vR a0]) (st' := []) (Nat.le_of_ble_eq_true rfl) rfl (SE_k0 hE cuB_1)) (by decide +kernel : am_Lm m_C_becomes = 2) (Nat.le_of_ble_eq_true rfl) rfl (by decide +kernel),
  fun l0 a0  E u hE => q_cV (by decide +kernel : am_Pg 177 8 = some (.invokevirtual 141, 3, [3, 78, 2, 0, 14, 1], 0)) (am_call_V (a := [vR a0]) (st' := []) (Nat.le_of_ble_eq_true rfl) rfl (SE_k0 hE cuB_8)) (by decide +kernel : am_Lm m_C_becomes = 2) (Nat.le_of_ble_eq_true rfl) rfl (by decide +kernel),
  fun l0 a0  E u hE => q_cV (by decide +kernel : am_Pg 177 8 = some (.invokevirtual 141, 3, [3, 78, 2, 0, 14, 1], 0)) (am_call_V (a := [vR a0]) (st' := []) (Nat.le_of_ble_eq_true rfl) rfl (SE_k0 hE cuB_73)) (by decide +kernel : am_Lm m_C_becomes = 2) (Nat.le_of_ble_eq_true rfl) rfl (by decide +kernel),
  fun a st E u => q_go (by decide +kernel : am_Pg 177 11 = some (.aload_n 0, 1, [], 0)) rfl,
  fun l0 st E u hE => q_gfR (by decide +kernel : am_Pg 177 12 = some (.getfield 29, 3, [4, 8, 4, 0], 0)) (SE_k4 hE) rfl (SE_r4_4 hE),
  fun a st E u => q_go (by decide +kernel : am_Pg 177 15 = some (.aload_n 0, 1, [], 0)) rfl,
  fun l0 st E u hE => q_gfR (by decide +kernel : am_Pg 177 16 = some (.getfield 22, 3, [4, 8, 2, 0], 0)) (SE_k4 hE) rfl (SE_r4_2 hE),
  fun l0 a0  E u hE => q_cV (by decide +kernel : am_Pg 177 19 = some (.invokevirtual 243, 3, [3, 176, 2, 1, 3, 1], 0)) (am_call_V (a := [vR a0]) (st' := []) (Nat.le_of_ble_eq_true rfl) rfl (SE_k1 hE paB_15)) (by decide +kernel : am_Lm m_P_becomes = 4) (Nat.le_of_ble_eq_true rfl) rfl (by decide +kernel),
  fun l0 a0  E u hE => q_cV (by decide +kernel : am_Pg 177 19 = some (.invokevirtual 243, 3, [3, 176, 2, 1, 3, 1], 0)) (am_call_V (a := [vR a0]) (st' := []) (Nat.le_of_ble_eq_true rfl) rfl (SE_k1 hE paB_80)) (by decide +kernel : am_Lm m_P_becomes = 4) (Nat.le_of_ble_eq_true rfl) rfl (by decide +kernel),
  fun a st E u => q_go (by decide +kernel : am_Pg 177 22 = some (.aload_n 0, 1, [], 0)) rfl,
  fun l0 st E u => q_go (by decide +kernel : am_Pg 177 23 = some (.iconst 1, 1, [], 0)) rfl,
  fun l0 a st E u hE ha => q_pfZ (by decide +kernel : am_Pg 177 24 = some (.putfield 246, 3, [4, 8, 7, 0], 0)) (SE_k4 hE) rfl ha,
  fun l0 b st E u hE => q_pfZ (by decide +kernel : am_Pg 177 24 = some (.putfield 246, 3, [4, 8, 7, 0], 0)) (SE_k4 hE) rfl (bI_01 b),
  fun l0 st E u => q_go (by decide +kernel : am_Pg 177 27 = some (.iconst 1, 1, [], 0)) rfl,
  fun l0 a E u => q_ret (by decide +kernel : am_Pg 177 28 = some (.ireturn, 1, [], 0)) rfl⟩
theorem x_A_restore :
  (∀ (a : Option Nat) (st : List am_V) (E : am_E) (u : am_M), Rn m_A_restore 0 [vR a] st E u = Rn m_A_restore 1 [vR a] (vR a :: st) E u) ∧
  (∀ (l0 : am_V) (st : List am_V) (E : am_E) (u : am_M) (hE : SE E), Rn m_A_restore 1 [l0] (vR (some 0) :: st) E u = Rn m_A_restore 4 [l0] (vI (u 0 7) :: st) E u) ∧
  (∀ (l0 : am_V) (a : Int) (st : List am_V) (E : am_E) (u : am_M), Rn m_A_restore 4 [l0] (vI a :: st) E u = if a = 0 then Rn m_A_restore 7 [l0] st E u else Rn m_A_restore 10 [l0] st E u) ∧
  (∀ (l0 : am_V) (st : List am_V) (E : am_E) (u : am_M), Rn m_A_restore 7 [l0] st E u = Rn m_A_restore 9 [l0] (vI (-4) :: st) E u) ∧
  (∀ (l0 : am_V) (a : Int) (E : am_E) (u : am_M), Rn m_A_restore 9 [l0] [vI a] E u = some (some (vI a), E, u)) ∧
  (∀ (a : Option Nat) (st : List am_V) (E : am_E) (u : am_M), Rn m_A_restore 10 [vR a] st E u = Rn m_A_restore 11 [vR a] (vR a :: st) E u) ∧
  (∀ (l0 : am_V) (st : List am_V) (E : am_E) (u : am_M) (hE : SE E), Rn m_A_restore 11 [l0] (vR (some 0) :: st) E u = Rn m_A_restore 14 [l0] (vR (some 1) :: st) E u) ∧
  (∀ (a : Option Nat) (st : List am_V) (E : am_E) (u : am_M), Rn m_A_restore 14 [vR a] st E u = Rn m_A_restore 15 [vR a] (vR a :: st) E u) ∧
  (∀ (l0 : am_V) (st : List am_V) (E : am_E) (u : am_M) (hE : SE E), Rn m_A_restore 15 [l0] (vR (some 0) :: st) E u = Rn m_A_restore 18 [l0] (vR (some 73) :: st) E u) ∧
  (∀ (l0 : am_V) (a0 : Option Nat) (E : am_E) (u : am_M) (hE : SE E), Rn m_A_restore 18 [l0] [vR a0, vR (some 1)] E u = bdV (Rn m_C_becomes 0 [vR (some 1), vR a0] [] E u) (KV m_A_restore 21 [l0] [])) ∧
  (∀ (l0 : am_V) (a0 : Option Nat) (E : am_E) (u : am_M) (hE : SE E), Rn m_A_restore 18 [l0] [vR a0, vR (some 8)] E u = bdV (Rn m_C_becomes 0 [vR (some 8), vR a0] [] E u) (KV m_A_restore 21 [l0] [])) ∧
  (∀ (l0 : am_V) (a0 : Option Nat) (E : am_E) (u : am_M) (hE : SE E), Rn m_A_restore 18 [l0] [vR a0, vR (some 73)] E u = bdV (Rn m_C_becomes 0 [vR (some 73), vR a0] [] E u) (KV m_A_restore 21 [l0] [])) ∧
  (∀ (a : Option Nat) (st : List am_V) (E : am_E) (u : am_M), Rn m_A_restore 21 [vR a] st E u = Rn m_A_restore 22 [vR a] (vR a :: st) E u) ∧
  (∀ (l0 : am_V) (st : List am_V) (E : am_E) (u : am_M) (hE : SE E), Rn m_A_restore 22 [l0] (vR (some 0) :: st) E u = Rn m_A_restore 25 [l0] (vR (some 15) :: st) E u) ∧
  (∀ (a : Option Nat) (st : List am_V) (E : am_E) (u : am_M), Rn m_A_restore 25 [vR a] st E u = Rn m_A_restore 26 [vR a] (vR a :: st) E u) ∧
  (∀ (l0 : am_V) (st : List am_V) (E : am_E) (u : am_M) (hE : SE E), Rn m_A_restore 26 [l0] (vR (some 0) :: st) E u = Rn m_A_restore 29 [l0] (vR (some 80) :: st) E u) ∧
  (∀ (l0 : am_V) (a0 : Option Nat) (E : am_E) (u : am_M) (hE : SE E), Rn m_A_restore 29 [l0] [vR a0, vR (some 15)] E u = bdV (Rn m_P_becomes 0 [vR (some 15), vR a0, vB false, vB false] [] E u) (KV m_A_restore 32 [l0] [])) ∧
  (∀ (l0 : am_V) (a0 : Option Nat) (E : am_E) (u : am_M) (hE : SE E), Rn m_A_restore 29 [l0] [vR a0, vR (some 80)] E u = bdV (Rn m_P_becomes 0 [vR (some 80), vR a0, vB false, vB false] [] E u) (KV m_A_restore 32 [l0] [])) ∧
  (∀ (l0 : am_V) (st : List am_V) (E : am_E) (u : am_M), Rn m_A_restore 32 [l0] st E u = Rn m_A_restore 33 [l0] (vI 1 :: st) E u) ∧
  (∀ (l0 : am_V) (a : Int) (E : am_E) (u : am_M), Rn m_A_restore 33 [l0] [vI a] E u = some (some (vI a), E, u)) :=
  ⟨fun a st E u => q_go (by decide +kernel : am_Pg 179 0 = some (.aload_n 0, 1, [], 0)) rfl,
  fun l0 st E u hE => q_gfI (by decide +kernel : am_Pg 179 1 = some (.getfield 246, 3, [4, 8, 7, 0], 0)) (SE_k4 hE) (by decide),
  fun l0 a st E u => q_if_ne (tgt := 10) (by decide +kernel : am_Pg 179 4 = some (.ifCond .ne 6, 3, [], 0)) (by decide),
  fun l0 st E u => q_go (by decide +kernel : am_Pg 179 7 = some (.bipush (-4), 2, [], 0)) rfl,
  fun l0 a E u => q_ret (by decide +kernel : am_Pg 179 9 = some (.ireturn, 1, [], 0)) rfl,
  fun a st E u => q_go (by decide +kernel : am_Pg 179 10 = some (.aload_n 0, 1, [], 0)) rfl,
  fun l0 st E u hE => q_gfR (by decide +kernel : am_Pg 179 11 = some (.getfield 12, 3, [4, 8, 0, 0], 0)) (SE_k4 hE) rfl (SE_r4_0 hE),
  fun a st E u => q_go (by decide +kernel : am_Pg 179 14 = some (.aload_n 0, 1, [], 0)) rfl,
  fun l0 st E u hE => q_gfR (by decide +kernel : am_Pg 179 15 = some (.getfield 26, 3, [4, 8, 3, 0], 0)) (SE_k4 hE) rfl (SE_r4_3 hE),
  fun l0 a0  E u hE => q_cV (by decide +kernel : am_Pg 179 18 = some (.invokevirtual 141, 3, [3, 78, 2, 0, 14, 1], 0)) (am_call_V (a := [vR a0]) (st' := []) (Nat.le_of_ble_eq_true rfl) rfl (SE_k0 hE cuB_1)) (by decide +kernel : am_Lm m_C_becomes = 2) (Nat.le_of_ble_eq_true rfl) rfl (by decide +kernel),
  fun l0 a0  E u hE => q_cV (by decide +kernel : am_Pg 179 18 = some (.invokevirtual 141, 3, [3, 78, 2, 0, 14, 1], 0)) (am_call_V (a := [vR a0]) (st' := []) (Nat.le_of_ble_eq_true rfl) rfl (SE_k0 hE cuB_8)) (by decide +kernel : am_Lm m_C_becomes = 2) (Nat.le_of_ble_eq_true rfl) rfl (by decide +kernel),
  fun l0 a0  E u hE => q_cV (by decide +kernel : am_Pg 179 18 = some (.invokevirtual 141, 3, [3, 78, 2, 0, 14, 1], 0)) (am_call_V (a := [vR a0]) (st' := []) (Nat.le_of_ble_eq_true rfl) rfl (SE_k0 hE cuB_73)) (by decide +kernel : am_Lm m_C_becomes = 2) (Nat.le_of_ble_eq_true rfl) rfl (by decide +kernel),
  fun a st E u => q_go (by decide +kernel : am_Pg 179 21 = some (.aload_n 0, 1, [], 0)) rfl,
  fun l0 st E u hE => q_gfR (by decide +kernel : am_Pg 179 22 = some (.getfield 22, 3, [4, 8, 2, 0], 0)) (SE_k4 hE) rfl (SE_r4_2 hE),
  fun a st E u => q_go (by decide +kernel : am_Pg 179 25 = some (.aload_n 0, 1, [], 0)) rfl,
  fun l0 st E u hE => q_gfR (by decide +kernel : am_Pg 179 26 = some (.getfield 29, 3, [4, 8, 4, 0], 0)) (SE_k4 hE) rfl (SE_r4_4 hE),
  fun l0 a0  E u hE => q_cV (by decide +kernel : am_Pg 179 29 = some (.invokevirtual 243, 3, [3, 176, 2, 1, 3, 1], 0)) (am_call_V (a := [vR a0]) (st' := []) (Nat.le_of_ble_eq_true rfl) rfl (SE_k1 hE paB_15)) (by decide +kernel : am_Lm m_P_becomes = 4) (Nat.le_of_ble_eq_true rfl) rfl (by decide +kernel),
  fun l0 a0  E u hE => q_cV (by decide +kernel : am_Pg 179 29 = some (.invokevirtual 243, 3, [3, 176, 2, 1, 3, 1], 0)) (am_call_V (a := [vR a0]) (st' := []) (Nat.le_of_ble_eq_true rfl) rfl (SE_k1 hE paB_80)) (by decide +kernel : am_Lm m_P_becomes = 4) (Nat.le_of_ble_eq_true rfl) rfl (by decide +kernel),
  fun l0 st E u => q_go (by decide +kernel : am_Pg 179 32 = some (.iconst 1, 1, [], 0)) rfl,
  fun l0 a E u => q_ret (by decide +kernel : am_Pg 179 33 = some (.ireturn, 1, [], 0)) rfl⟩
theorem x_A_sheetOf :
  (∀ (l0 : am_V) (a : Int) (st : List am_V) (E : am_E) (u : am_M), Rn m_A_sheetOf 0 [l0, vI a] st E u = Rn m_A_sheetOf 1 [l0, vI a] (vI a :: st) E u) ∧
  (∀ (l0 l1 : am_V) (a : Int) (st : List am_V) (E : am_E) (u : am_M), Rn m_A_sheetOf 1 [l0, l1] (vI a :: st) E u = if a < 0 then Rn m_A_sheetOf 22 [l0, l1] st E u else Rn m_A_sheetOf 4 [l0, l1] st E u) ∧
  (∀ (l0 : am_V) (a : Int) (st : List am_V) (E : am_E) (u : am_M), Rn m_A_sheetOf 4 [l0, vI a] st E u = Rn m_A_sheetOf 5 [l0, vI a] (vI a :: st) E u) ∧
  (∀ (l1 : am_V) (a : Option Nat) (st : List am_V) (E : am_E) (u : am_M), Rn m_A_sheetOf 5 [vR a, l1] st E u = Rn m_A_sheetOf 6 [vR a, l1] (vR a :: st) E u) ∧
  (∀ (l0 l1 : am_V) (st : List am_V) (E : am_E) (u : am_M) (hE : SE E), Rn m_A_sheetOf 6 [l0, l1] (vR (some 0) :: st) E u = Rn m_A_sheetOf 9 [l0, l1] (vR (some 140) :: st) E u) ∧
  (∀ (l0 l1 : am_V) (k : Nat) (st : List am_V) (E : am_E) (u : am_M) (hk : am_kn E k = 13), Rn m_A_sheetOf 9 [l0, l1] (vR (some k) :: st) E u = Rn m_A_sheetOf 10 [l0, l1] (vI (am_len 13 E k) :: st) E u) ∧
  (∀ (l0 l1 : am_V) (a b : Int) (st : List am_V) (E : am_E) (u : am_M), Rn m_A_sheetOf 10 [l0, l1] (vI b :: vI a :: st) E u = if a < b then Rn m_A_sheetOf 13 [l0, l1] st E u else Rn m_A_sheetOf 22 [l0, l1] st E u) ∧
  (∀ (l1 : am_V) (a : Option Nat) (st : List am_V) (E : am_E) (u : am_M), Rn m_A_sheetOf 13 [vR a, l1] st E u = Rn m_A_sheetOf 14 [vR a, l1] (vR a :: st) E u) ∧
  (∀ (l0 l1 : am_V) (st : List am_V) (E : am_E) (u : am_M) (hE : SE E), Rn m_A_sheetOf 14 [l0, l1] (vR (some 0) :: st) E u = Rn m_A_sheetOf 17 [l0, l1] (vR (some 140) :: st) E u) ∧
  (∀ (l0 : am_V) (a : Int) (st : List am_V) (E : am_E) (u : am_M), Rn m_A_sheetOf 17 [l0, vI a] st E u = Rn m_A_sheetOf 18 [l0, vI a] (vI a :: st) E u) ∧
  (∀ (l0 l1 : am_V) (k : Nat) (i : Int) (st : List am_V) (E : am_E) (u : am_M) (h0 : 0 ≤ i) (h1 : i < am_len 13 E k), Rn m_A_sheetOf 18 [l0, l1] (vI i :: vR (some k) :: st) E u = Rn m_A_sheetOf 19 [l0, l1] (vR (E.2.1 k i.toNat) :: st) E u) ∧
  (∀ (l0 l1 : am_V) (st : List am_V) (E : am_E) (u : am_M), Rn m_A_sheetOf 19 [l0, l1] st E u = Rn m_A_sheetOf 23 [l0, l1] st E u) ∧
  (∀ (l0 l1 : am_V) (st : List am_V) (E : am_E) (u : am_M), Rn m_A_sheetOf 22 [l0, l1] st E u = Rn m_A_sheetOf 23 [l0, l1] (vR none :: st) E u) ∧
  (∀ (l0 l1 : am_V) (a : Option Nat) (E : am_E) (u : am_M), Rn m_A_sheetOf 23 [l0, l1] [vR a] E u = some (some (vR a), E, u)) :=
  ⟨fun l0 a st E u => q_go (by decide +kernel : am_Pg 181 0 = some (.iload_n 1, 1, [], 0)) rfl,
  fun l0 l1 a st E u => q_if_lt (tgt := 22) (by decide +kernel : am_Pg 181 1 = some (.ifCond .lt 21, 3, [], 0)) (by decide),
  fun l0 a st E u => q_go (by decide +kernel : am_Pg 181 4 = some (.iload_n 1, 1, [], 0)) rfl,
  fun l1 a st E u => q_go (by decide +kernel : am_Pg 181 5 = some (.aload_n 0, 1, [], 0)) rfl,
  fun l0 l1 st E u hE => q_gfR (by decide +kernel : am_Pg 181 6 = some (.getfield 41, 3, [4, 8, 6, 0], 0)) (SE_k4 hE) rfl (SE_r4_6 hE),
  fun l0 l1 k st E u hk => q_alI (by decide +kernel : am_Pg 181 9 = some (.arraylength, 1, [], 0)) hk (by decide) (by decide),
  fun l0 l1 a b st E u => q_icmp_ge (tgt := 22) (by decide +kernel : am_Pg 181 10 = some (.if_icmp .ge 12, 3, [], 0)) (by decide),
  fun l1 a st E u => q_go (by decide +kernel : am_Pg 181 13 = some (.aload_n 0, 1, [], 0)) rfl,
  fun l0 l1 st E u hE => q_gfR (by decide +kernel : am_Pg 181 14 = some (.getfield 41, 3, [4, 8, 6, 0], 0)) (SE_k4 hE) rfl (SE_r4_6 hE),
  fun l0 a st E u => q_go (by decide +kernel : am_Pg 181 17 = some (.iload_n 1, 1, [], 0)) rfl,
  fun l0 l1 k i st E u h0 h1 => q_aald (by decide +kernel : am_Pg 181 18 = some (.aaload, 1, [], 0)) h0 (Or.inr h1),
  fun l0 l1 st E u => q_go (by decide +kernel : am_Pg 181 19 = some (.goto 4, 3, [], 0)) rfl,
  fun l0 l1 st E u => q_go (by decide +kernel : am_Pg 181 22 = some (.aconst_null, 1, [], 0)) rfl,
  fun l0 l1 a E u => q_ret (by decide +kernel : am_Pg 181 23 = some (.areturn, 1, [], 0)) rfl⟩
theorem x_A_isLane :
  (∀ (a : Int) (st : List am_V) (E : am_E) (u : am_M), Rn m_A_isLane 0 [vI a] st E u = Rn m_A_isLane 1 [vI a] (vI a :: st) E u) ∧
  (∀ (l0 : am_V) (st : List am_V) (E : am_E) (u : am_M), Rn m_A_isLane 1 [l0] st E u = Rn m_A_isLane 2 [l0] (vI 0 :: st) E u) ∧
  (∀ (l0 : am_V) (st : List am_V) (E : am_E) (u : am_M), Rn m_A_isLane 2 [l0] st E u = Rn m_A_isLane 3 [l0] (vI 3 :: st) E u) ∧
  (∀ (l0 : am_V) (a0 : Int) (a1 : Int) (a2 : Int) (E : am_E) (u : am_M), Rn m_A_isLane 3 [l0] [vI a2, vI a1, vI a0] E u = bdI (Rn m_A_isIn 0 [vI a0, vI a1, vI a2] [] E u) (KI m_A_isLane 6 [l0] [])) ∧
  (∀ (l0 : am_V) (b : Bool) (E : am_E) (u : am_M), Rn m_A_isLane 6 [l0] [vI (bI b)] E u = some (some (vI (bI b)), E, u)) ∧
  (∀ (l0 : am_V) (E : am_E) (u : am_M), Rn m_A_isLane 6 [l0] [vI 1] E u = some (some (vI 1), E, u)) ∧
  (∀ (l0 : am_V) (E : am_E) (u : am_M), Rn m_A_isLane 6 [l0] [vI 0] E u = some (some (vI 0), E, u)) :=
  ⟨fun a st E u => q_go (by decide +kernel : am_Pg 182 0 = some (.iload_n 0, 1, [], 0)) rfl,
  fun l0 st E u => q_go (by decide +kernel : am_Pg 182 1 = some (.iconst 0, 1, [], 0)) rfl,
  fun l0 st E u => q_go (by decide +kernel : am_Pg 182 2 = some (.iconst 3, 1, [], 0)) rfl,
  fun l0 a0 a1 a2  E u => q_cI (by decide +kernel : am_Pg 182 3 = some (.invokestatic 46, 3, [2, 8, 3, 0], 0)) (am_call_S (f := fun _ _ => true) (a := [vI a0, vI a1, vI a2]) (st' := []) (Nat.le_of_ble_eq_true rfl) rfl rfl) (by decide +kernel : am_Lm m_A_isIn = 3) (Nat.le_of_ble_eq_true rfl) rfl (by decide +kernel),
  fun l0 b E u => by cases b <;> exact q_ret (by decide +kernel : am_Pg 182 6 = some (.ireturn, 1, [1], 0)) rfl,
  fun l0 E u => q_ret (by decide +kernel : am_Pg 182 6 = some (.ireturn, 1, [1], 0)) rfl,
  fun l0 E u => q_ret (by decide +kernel : am_Pg 182 6 = some (.ireturn, 1, [1], 0)) rfl⟩
theorem h_A_isFelt_3 : ∀ (l0 l1 l2 l3 l4 : am_V) (a : Int) (st : List am_V) (E : am_E) (u : am_M), Rn m_A_isFelt 3 [l0, l1, l2, l3, l4, vI a] st E u = Rn m_A_isFelt 5 [l0, l1, l2, l3, l4, vI a] (vI a :: st) E u :=
  fun l0 l1 l2 l3 l4 a st E u => q_go (by decide +kernel : am_Pg 186 3 = some (.iload 5, 2, [], 0)) rfl
theorem x_A_isFelt :
  (∀ (l0 l1 l2 l3 l4 l5 : am_V) (st : List am_V) (E : am_E) (u : am_M), Rn m_A_isFelt 0 [l0, l1, l2, l3, l4, l5] st E u = Rn m_A_isFelt 1 [l0, l1, l2, l3, l4, l5] (vI 0 :: st) E u) ∧
  (∀ (l0 l1 l2 l3 l4 l5 : am_V) (a : Int) (st : List am_V) (E : am_E) (u : am_M), Rn m_A_isFelt 1 [l0, l1, l2, l3, l4, l5] (vI a :: st) E u = Rn m_A_isFelt 3 [l0, l1, l2, l3, am_fx l4, vI a] st E u) ∧
  (∀ (l0 l1 l2 l3 l5 : am_V) (a : Int) (st : List am_V) (E : am_E) (u : am_M), Rn m_A_isFelt 5 [l0, l1, l2, l3, vI a, l5] st E u = Rn m_A_isFelt 7 [l0, l1, l2, l3, vI a, l5] (vI a :: st) E u) ∧
  (∀ (l0 l1 l2 l3 l4 l5 : am_V) (a b : Int) (st : List am_V) (E : am_E) (u : am_M), Rn m_A_isFelt 7 [l0, l1, l2, l3, l4, l5] (vI b :: vI a :: st) E u = if a < b then Rn m_A_isFelt 10 [l0, l1, l2, l3, l4, l5] st E u else Rn m_A_isFelt 49 [l0, l1, l2, l3, l4, l5] st E u) ∧
  (∀ (l1 l2 l3 l4 l5 : am_V) (a : Option Nat) (st : List am_V) (E : am_E) (u : am_M), Rn m_A_isFelt 10 [vR a, l1, l2, l3, l4, l5] st E u = Rn m_A_isFelt 11 [vR a, l1, l2, l3, l4, l5] (vR a :: st) E u) ∧
  (∀ (l0 l1 l2 l3 l4 l5 : am_V) (st : List am_V) (E : am_E) (u : am_M) (hE : SE E), Rn m_A_isFelt 11 [l0, l1, l2, l3, l4, l5] (vR (some 0) :: st) E u = Rn m_A_isFelt 14 [l0, l1, l2, l3, l4, l5] (vR (some 8) :: st) E u) ∧
  (∀ (l0 l1 l2 l3 l4 l5 : am_V) (E : am_E) (u : am_M) (hE : SE E), Rn m_A_isFelt 14 [l0, l1, l2, l3, l4, l5] [vR (some 1)] E u = bdV (Rn m_C_goesOn 0 [vR (some 1), vB false] [] E u) (KV m_A_isFelt 17 [l0, l1, l2, l3, l4, l5] [])) ∧
  (∀ (l0 l1 l2 l3 l4 l5 : am_V) (E : am_E) (u : am_M) (hE : SE E), Rn m_A_isFelt 14 [l0, l1, l2, l3, l4, l5] [vR (some 8)] E u = bdV (Rn m_C_goesOn 0 [vR (some 8), vB false] [] E u) (KV m_A_isFelt 17 [l0, l1, l2, l3, l4, l5] [])) ∧
  (∀ (l0 l1 l2 l3 l4 l5 : am_V) (E : am_E) (u : am_M) (hE : SE E), Rn m_A_isFelt 14 [l0, l1, l2, l3, l4, l5] [vR (some 73)] E u = bdV (Rn m_C_goesOn 0 [vR (some 73), vB false] [] E u) (KV m_A_isFelt 17 [l0, l1, l2, l3, l4, l5] [])) ∧
  (∀ (l1 l2 l3 l4 l5 : am_V) (a : Option Nat) (st : List am_V) (E : am_E) (u : am_M), Rn m_A_isFelt 17 [vR a, l1, l2, l3, l4, l5] st E u = Rn m_A_isFelt 18 [vR a, l1, l2, l3, l4, l5] (vR a :: st) E u) ∧
  (∀ (l0 l1 l2 l3 l4 l5 : am_V) (st : List am_V) (E : am_E) (u : am_M) (hE : SE E), Rn m_A_isFelt 18 [l0, l1, l2, l3, l4, l5] (vR (some 0) :: st) E u = Rn m_A_isFelt 21 [l0, l1, l2, l3, l4, l5] (vR (some 8) :: st) E u) ∧
  (∀ (l0 l1 l2 l3 l4 l5 : am_V) (st : List am_V) (E : am_E) (u : am_M) (hE : SE E), Rn m_A_isFelt 21 [l0, l1, l2, l3, l4, l5] (vR (some 1) :: st) E u = Rn m_A_isFelt 24 [l0, l1, l2, l3, l4, l5] (vR (some 3) :: st) E u) ∧
  (∀ (l0 l1 l2 l3 l4 l5 : am_V) (st : List am_V) (E : am_E) (u : am_M) (hE : SE E), Rn m_A_isFelt 21 [l0, l1, l2, l3, l4, l5] (vR (some 8) :: st) E u = Rn m_A_isFelt 24 [l0, l1, l2, l3, l4, l5] (vR (some 10) :: st) E u) ∧
  (∀ (l0 l1 l2 l3 l4 l5 : am_V) (st : List am_V) (E : am_E) (u : am_M) (hE : SE E), Rn m_A_isFelt 21 [l0, l1, l2, l3, l4, l5] (vR (some 73) :: st) E u = Rn m_A_isFelt 24 [l0, l1, l2, l3, l4, l5] (vR (some 75) :: st) E u) ∧
  (∀ (l0 l2 l3 l4 l5 : am_V) (a : Int) (st : List am_V) (E : am_E) (u : am_M), Rn m_A_isFelt 24 [l0, vI a, l2, l3, l4, l5] st E u = Rn m_A_isFelt 25 [l0, vI a, l2, l3, l4, l5] (vI a :: st) E u) ∧
  (∀ (l0 l1 l2 l3 l4 l5 : am_V) (a0 : Option Nat) (a1 : Int) (E : am_E) (u : am_M), Rn m_A_isFelt 25 [l0, l1, l2, l3, l4, l5] [vI a1, vR a0] E u = bdI (Rn m_A_look 0 [vR a0, vI a1] [] E u) (KI m_A_isFelt 28 [l0, l1, l2, l3, l4, l5] [])) ∧
  (∀ (l0 l1 l2 l3 l4 l5 : am_V) (a : Int) (st : List am_V) (E : am_E) (u : am_M), Rn m_A_isFelt 28 [l0, l1, l2, l3, l4, l5] (vI a :: st) E u = Rn m_A_isFelt 29 [l0, l1, l2, l3, l4, l5] (vL (a) :: st) E u) ∧
  (∀ (l0 l1 l3 l4 l5 : am_V) (a : Option Nat) (st : List am_V) (E : am_E) (u : am_M), Rn m_A_isFelt 29 [l0, l1, vR a, l3, l4, l5] st E u = Rn m_A_isFelt 30 [l0, l1, vR a, l3, l4, l5] (vR a :: st) E u) ∧
  (∀ (l0 l1 l2 l4 l5 : am_V) (a : Int) (st : List am_V) (E : am_E) (u : am_M), Rn m_A_isFelt 30 [l0, l1, l2, vI a, l4, l5] st E u = Rn m_A_isFelt 31 [l0, l1, l2, vI a, l4, l5] (vI a :: st) E u) ∧
  (∀ (l0 l1 l2 l3 l4 : am_V) (a : Int) (st : List am_V) (E : am_E) (u : am_M), Rn m_A_isFelt 31 [l0, l1, l2, l3, l4, vI a] st E u = Rn m_A_isFelt 33 [l0, l1, l2, l3, l4, vI a] (vI a :: st) E u) ∧
  (∀ (l0 l1 l2 l3 l4 l5 : am_V) (a b : Int) (st : List am_V) (E : am_E) (u : am_M), Rn m_A_isFelt 33 [l0, l1, l2, l3, l4, l5] (vI b :: vI a :: st) E u = Rn m_A_isFelt 34 [l0, l1, l2, l3, l4, l5] (vI (w32 (a + b)) :: st) E u) ∧
  (∀ (l0 l1 l2 l3 l4 l5 : am_V) (k : Nat) (a0 : Int) (r0 : am_V) (E : am_E) (u : am_M) (hE : SE E) (hk : shB k), Rn m_A_isFelt 34 [l0, l1, l2, l3, l4, l5] [vI a0, vR (some k), r0] E u = bdL (Rn m_S_itemAt 0 [vR (some k), vI a0] [] E u) (KL m_A_isFelt 37 [l0, l1, l2, l3, l4, l5] [r0])) ∧
  (∀ (l0 l1 l2 l3 l4 l5 : am_V) (a b : Int) (st : List am_V) (E : am_E) (u : am_M), Rn m_A_isFelt 37 [l0, l1, l2, l3, l4, l5] (vL b :: vL a :: st) E u = Rn m_A_isFelt 38 [l0, l1, l2, l3, l4, l5] (vI (l_cmp a b) :: st) E u) ∧
  (∀ (l0 l1 l2 l3 l4 l5 : am_V) (a : Int) (st : List am_V) (E : am_E) (u : am_M), Rn m_A_isFelt 38 [l0, l1, l2, l3, l4, l5] (vI a :: st) E u = if a = 0 then Rn m_A_isFelt 43 [l0, l1, l2, l3, l4, l5] st E u else Rn m_A_isFelt 41 [l0, l1, l2, l3, l4, l5] st E u) ∧
  (∀ (l0 l1 l2 l3 l4 l5 : am_V) (st : List am_V) (E : am_E) (u : am_M), Rn m_A_isFelt 41 [l0, l1, l2, l3, l4, l5] st E u = Rn m_A_isFelt 42 [l0, l1, l2, l3, l4, l5] (vI 0 :: st) E u) ∧
  (∀ (l0 l1 l2 l3 l4 l5 : am_V) (b : Bool) (E : am_E) (u : am_M), Rn m_A_isFelt 42 [l0, l1, l2, l3, l4, l5] [vI (bI b)] E u = some (some (vI (bI b)), E, u)) ∧
  (∀ (l0 l1 l2 l3 l4 l5 : am_V) (E : am_E) (u : am_M), Rn m_A_isFelt 42 [l0, l1, l2, l3, l4, l5] [vI 1] E u = some (some (vI 1), E, u)) ∧
  (∀ (l0 l1 l2 l3 l4 l5 : am_V) (E : am_E) (u : am_M), Rn m_A_isFelt 42 [l0, l1, l2, l3, l4, l5] [vI 0] E u = some (some (vI 0), E, u)) ∧
  (∀ (l0 l1 l2 l3 l4 : am_V) (a : Int) (st : List am_V) (E : am_E) (u : am_M), Rn m_A_isFelt 43 [l0, l1, l2, l3, l4, vI a] st E u = Rn m_A_isFelt 46 [l0, l1, l2, l3, am_fx l4, vI (w32 (a + 1))] st E u) ∧
  (∀ (l0 l1 l2 l3 l4 l5 : am_V) (st : List am_V) (E : am_E) (u : am_M), Rn m_A_isFelt 46 [l0, l1, l2, l3, l4, l5] st E u = Rn m_A_isFelt 3 [l0, l1, l2, l3, l4, l5] st E u) ∧
  (∀ (l0 l1 l2 l3 l4 l5 : am_V) (st : List am_V) (E : am_E) (u : am_M), Rn m_A_isFelt 49 [l0, l1, l2, l3, l4, l5] st E u = Rn m_A_isFelt 50 [l0, l1, l2, l3, l4, l5] (vI 1 :: st) E u) ∧
  (∀ (l0 l1 l2 l3 l4 l5 : am_V) (b : Bool) (E : am_E) (u : am_M), Rn m_A_isFelt 50 [l0, l1, l2, l3, l4, l5] [vI (bI b)] E u = some (some (vI (bI b)), E, u)) ∧
  (∀ (l0 l1 l2 l3 l4 l5 : am_V) (E : am_E) (u : am_M), Rn m_A_isFelt 50 [l0, l1, l2, l3, l4, l5] [vI 1] E u = some (some (vI 1), E, u)) ∧
  (∀ (l0 l1 l2 l3 l4 l5 : am_V) (E : am_E) (u : am_M), Rn m_A_isFelt 50 [l0, l1, l2, l3, l4, l5] [vI 0] E u = some (some (vI 0), E, u)) :=
  ⟨fun l0 l1 l2 l3 l4 l5 st E u => q_go (by decide +kernel : am_Pg 186 0 = some (.iconst 0, 1, [], 0)) rfl,
  fun l0 l1 l2 l3 l4 l5 a st E u => q_go (by decide +kernel : am_Pg 186 1 = some (.istore 5, 2, [], 0)) rfl,
  fun l0 l1 l2 l3 l5 a st E u => q_go (by decide +kernel : am_Pg 186 5 = some (.iload 4, 2, [], 0)) rfl,
  fun l0 l1 l2 l3 l4 l5 a b st E u => q_icmp_ge (tgt := 49) (by decide +kernel : am_Pg 186 7 = some (.if_icmp .ge 42, 3, [], 0)) (by decide),
  fun l1 l2 l3 l4 l5 a st E u => q_go (by decide +kernel : am_Pg 186 10 = some (.aload_n 0, 1, [], 0)) rfl,
  fun l0 l1 l2 l3 l4 l5 st E u hE => q_gfR (by decide +kernel : am_Pg 186 11 = some (.getfield 16, 3, [4, 8, 1, 0], 0)) (SE_k4 hE) rfl (SE_r4_1 hE),
  fun l0 l1 l2 l3 l4 l5   E u hE => q_cV (by decide +kernel : am_Pg 186 14 = some (.invokevirtual 264, 3, [3, 107, 1, 0, 14, 1], 0)) (am_call_V (a := []) (st' := []) (Nat.le_of_ble_eq_true rfl) rfl (SE_k0 hE cuB_1)) (by decide +kernel : am_Lm m_C_goesOn = 2) (Nat.le_of_ble_eq_true rfl) rfl (by decide +kernel),
  fun l0 l1 l2 l3 l4 l5   E u hE => q_cV (by decide +kernel : am_Pg 186 14 = some (.invokevirtual 264, 3, [3, 107, 1, 0, 14, 1], 0)) (am_call_V (a := []) (st' := []) (Nat.le_of_ble_eq_true rfl) rfl (SE_k0 hE cuB_8)) (by decide +kernel : am_Lm m_C_goesOn = 2) (Nat.le_of_ble_eq_true rfl) rfl (by decide +kernel),
  fun l0 l1 l2 l3 l4 l5   E u hE => q_cV (by decide +kernel : am_Pg 186 14 = some (.invokevirtual 264, 3, [3, 107, 1, 0, 14, 1], 0)) (am_call_V (a := []) (st' := []) (Nat.le_of_ble_eq_true rfl) rfl (SE_k0 hE cuB_73)) (by decide +kernel : am_Lm m_C_goesOn = 2) (Nat.le_of_ble_eq_true rfl) rfl (by decide +kernel),
  fun l1 l2 l3 l4 l5 a st E u => q_go (by decide +kernel : am_Pg 186 17 = some (.aload_n 0, 1, [], 0)) rfl,
  fun l0 l1 l2 l3 l4 l5 st E u hE => q_gfR (by decide +kernel : am_Pg 186 18 = some (.getfield 16, 3, [4, 8, 1, 0], 0)) (SE_k4 hE) rfl (SE_r4_1 hE),
  fun l0 l1 l2 l3 l4 l5 st E u hE => q_gfR (by decide +kernel : am_Pg 186 21 = some (.getfield 98, 3, [0, 14, 9, 1], 0)) (SE_k0 hE cuB_1) rfl (SE_r0_9 hE cuB_1),
  fun l0 l1 l2 l3 l4 l5 st E u hE => q_gfR (by decide +kernel : am_Pg 186 21 = some (.getfield 98, 3, [0, 14, 9, 1], 0)) (SE_k0 hE cuB_8) rfl (SE_r0_9 hE cuB_8),
  fun l0 l1 l2 l3 l4 l5 st E u hE => q_gfR (by decide +kernel : am_Pg 186 21 = some (.getfield 98, 3, [0, 14, 9, 1], 0)) (SE_k0 hE cuB_73) rfl (SE_r0_9 hE cuB_73),
  fun l0 l2 l3 l4 l5 a st E u => q_go (by decide +kernel : am_Pg 186 24 = some (.iload_n 1, 1, [], 0)) rfl,
  fun l0 l1 l2 l3 l4 l5 a0 a1  E u => q_cI (by decide +kernel : am_Pg 186 25 = some (.invokestatic 94, 3, [2, 36, 2, 0], 0)) (am_call_S (f := fun _ _ => true) (a := [vR a0, vI a1]) (st' := []) (Nat.le_of_ble_eq_true rfl) rfl rfl) (by decide +kernel : am_Lm m_A_look = 2) (Nat.le_of_ble_eq_true rfl) rfl (by decide +kernel),
  fun l0 l1 l2 l3 l4 l5 a st E u => q_go (by decide +kernel : am_Pg 186 28 = some (.i2l, 1, [], 0)) rfl,
  fun l0 l1 l3 l4 l5 a st E u => q_go (by decide +kernel : am_Pg 186 29 = some (.aload_n 2, 1, [], 0)) rfl,
  fun l0 l1 l2 l4 l5 a st E u => q_go (by decide +kernel : am_Pg 186 30 = some (.iload_n 3, 1, [], 0)) rfl,
  fun l0 l1 l2 l3 l4 a st E u => q_go (by decide +kernel : am_Pg 186 31 = some (.iload 5, 2, [], 0)) rfl,
  fun l0 l1 l2 l3 l4 l5 a b st E u => q_go (by decide +kernel : am_Pg 186 33 = some (.iadd, 1, [], 0)) rfl,
  fun l0 l1 l2 l3 l4 l5 k a0 r0 E u hE hk => q_cL (by decide +kernel : am_Pg 186 34 = some (.invokevirtual 293, 3, [3, 185, 2, 2, 4, 1], 0)) (am_call_V (a := [vI a0]) (st' := [r0]) (Nat.le_of_ble_eq_true rfl) rfl (SE_k2 hE hk)) (by decide +kernel : am_Lm m_S_itemAt = 2) (Nat.le_of_ble_eq_true rfl) rfl (by decide +kernel),
  fun l0 l1 l2 l3 l4 l5 a b st E u => q_go (by decide +kernel : am_Pg 186 37 = some (.lcmp, 1, [], 0)) rfl,
  fun l0 l1 l2 l3 l4 l5 a st E u => q_if_eq (tgt := 43) (by decide +kernel : am_Pg 186 38 = some (.ifCond .eq 5, 3, [], 0)) (by decide),
  fun l0 l1 l2 l3 l4 l5 st E u => q_go (by decide +kernel : am_Pg 186 41 = some (.iconst 0, 1, [], 0)) rfl,
  fun l0 l1 l2 l3 l4 l5 b E u => by cases b <;> exact q_ret (by decide +kernel : am_Pg 186 42 = some (.ireturn, 1, [1], 0)) rfl,
  fun l0 l1 l2 l3 l4 l5 E u => q_ret (by decide +kernel : am_Pg 186 42 = some (.ireturn, 1, [1], 0)) rfl,
  fun l0 l1 l2 l3 l4 l5 E u => q_ret (by decide +kernel : am_Pg 186 42 = some (.ireturn, 1, [1], 0)) rfl,
  fun l0 l1 l2 l3 l4 a st E u => q_go (by decide +kernel : am_Pg 186 43 = some (.iinc 5 1, 3, [], 0)) rfl,
  fun l0 l1 l2 l3 l4 l5 st E u => q_go (by decide +kernel : am_Pg 186 46 = some (.goto (-43), 3, [], 0)) rfl,
  fun l0 l1 l2 l3 l4 l5 st E u => q_go (by decide +kernel : am_Pg 186 49 = some (.iconst 1, 1, [], 0)) rfl,
  fun l0 l1 l2 l3 l4 l5 b E u => by cases b <;> exact q_ret (by decide +kernel : am_Pg 186 50 = some (.ireturn, 1, [1], 0)) rfl,
  fun l0 l1 l2 l3 l4 l5 E u => q_ret (by decide +kernel : am_Pg 186 50 = some (.ireturn, 1, [1], 0)) rfl,
  fun l0 l1 l2 l3 l4 l5 E u => q_ret (by decide +kernel : am_Pg 186 50 = some (.ireturn, 1, [1], 0)) rfl⟩
theorem h_A_felt_98 : ∀ (l0 l1 l2 l3 l4 l5 l6 l7 l8 l9 : am_V) (a : Int) (st : List am_V) (E : am_E) (u : am_M), Rn m_A_felt 98 [l0, l1, l2, l3, l4, l5, l6, l7, l8, l9, vI a] st E u = Rn m_A_felt 100 [l0, l1, l2, l3, l4, l5, l6, l7, l8, l9, vI a] (vI a :: st) E u :=
  fun l0 l1 l2 l3 l4 l5 l6 l7 l8 l9 a st E u => q_go (by decide +kernel : am_Pg 187 98 = some (.iload 10, 2, [], 0)) rfl
theorem x_A_felt :
  (∀ (l1 l2 l3 l4 l5 l6 l7 l8 l9 l10 : am_V) (a : Option Nat) (st : List am_V) (E : am_E) (u : am_M), Rn m_A_felt 0 [vR a, l1, l2, l3, l4, l5, l6, l7, l8, l9, l10] st E u = Rn m_A_felt 1 [vR a, l1, l2, l3, l4, l5, l6, l7, l8, l9, l10] (vR a :: st) E u) ∧
  (∀ (l0 l1 l3 l4 l5 l6 l7 l8 l9 l10 : am_V) (a : Int) (st : List am_V) (E : am_E) (u : am_M), Rn m_A_felt 1 [l0, l1, vI a, l3, l4, l5, l6, l7, l8, l9, l10] st E u = Rn m_A_felt 2 [l0, l1, vI a, l3, l4, l5, l6, l7, l8, l9, l10] (vI a :: st) E u) ∧
  (∀ (l0 l1 l2 l3 l4 l5 l6 l7 l8 l9 l10 : am_V) (a0 : Int) (E : am_E) (u : am_M) (hE : SE E), Rn m_A_felt 2 [l0, l1, l2, l3, l4, l5, l6, l7, l8, l9, l10] [vI a0, vR (some 0)] E u = bdR (Rn m_A_sheetOf 0 [vR (some 0), vI a0] [] E u) (KR m_A_felt 5 [l0, l1, l2, l3, l4, l5, l6, l7, l8, l9, l10] [])) ∧
  (∀ (l0 l1 l2 l3 l4 l5 l6 l7 l8 l9 l10 : am_V) (a : Option Nat) (st : List am_V) (E : am_E) (u : am_M), Rn m_A_felt 5 [l0, l1, l2, l3, l4, l5, l6, l7, l8, l9, l10] (vR a :: st) E u = Rn m_A_felt 7 [l0, l1, l2, l3, l4, l5, am_fx l6, vR a, l8, l9, l10] st E u) ∧
  (∀ (l0 l1 l2 l3 l4 l5 l6 l8 l9 l10 : am_V) (a : Option Nat) (st : List am_V) (E : am_E) (u : am_M), Rn m_A_felt 7 [l0, l1, l2, l3, l4, l5, l6, vR a, l8, l9, l10] st E u = Rn m_A_felt 9 [l0, l1, l2, l3, l4, l5, l6, vR a, l8, l9, l10] (vR a :: st) E u) ∧
  (∀ (l0 l1 l2 l3 l4 l5 l6 l7 l8 l9 l10 : am_V) (st : List am_V) (E : am_E) (u : am_M), Rn m_A_felt 9 [l0, l1, l2, l3, l4, l5, l6, l7, l8, l9, l10] (vR none :: st) E u = Rn m_A_felt 51 [l0, l1, l2, l3, l4, l5, l6, l7, l8, l9, l10] st E u) ∧
  (∀ (l0 l1 l2 l3 l4 l5 l6 l7 l8 l9 l10 : am_V) (a : Nat) (st : List am_V) (E : am_E) (u : am_M), Rn m_A_felt 9 [l0, l1, l2, l3, l4, l5, l6, l7, l8, l9, l10] (vR (some a) :: st) E u = Rn m_A_felt 12 [l0, l1, l2, l3, l4, l5, l6, l7, l8, l9, l10] st E u) ∧
  (∀ (l1 l2 l3 l4 l5 l6 l7 l8 l9 l10 : am_V) (a : Option Nat) (st : List am_V) (E : am_E) (u : am_M), Rn m_A_felt 12 [vR a, l1, l2, l3, l4, l5, l6, l7, l8, l9, l10] st E u = Rn m_A_felt 13 [vR a, l1, l2, l3, l4, l5, l6, l7, l8, l9, l10] (vR a :: st) E u) ∧
  (∀ (l0 l1 l2 l3 l4 l5 l6 l7 l8 l9 l10 : am_V) (st : List am_V) (E : am_E) (u : am_M) (hE : SE E), Rn m_A_felt 13 [l0, l1, l2, l3, l4, l5, l6, l7, l8, l9, l10] (vR (some 0) :: st) E u = Rn m_A_felt 16 [l0, l1, l2, l3, l4, l5, l6, l7, l8, l9, l10] (vR (some 1) :: st) E u) ∧
  (∀ (l0 l2 l3 l4 l5 l6 l7 l8 l9 l10 : am_V) (a : Int) (st : List am_V) (E : am_E) (u : am_M), Rn m_A_felt 16 [l0, vI a, l2, l3, l4, l5, l6, l7, l8, l9, l10] st E u = Rn m_A_felt 17 [l0, vI a, l2, l3, l4, l5, l6, l7, l8, l9, l10] (vI a :: st) E u) ∧
  (∀ (l0 l1 l2 l3 l4 l5 l6 l7 l8 l9 l10 : am_V) (a0 : Int) (E : am_E) (u : am_M) (hE : SE E), Rn m_A_felt 17 [l0, l1, l2, l3, l4, l5, l6, l7, l8, l9, l10] [vI a0, vR (some 1)] E u = bdI (Rn m_C_isPin 0 [vR (some 1), vI a0] [] E u) (KI m_A_felt 20 [l0, l1, l2, l3, l4, l5, l6, l7, l8, l9, l10] [])) ∧
  (∀ (l0 l1 l2 l3 l4 l5 l6 l7 l8 l9 l10 : am_V) (a0 : Int) (E : am_E) (u : am_M) (hE : SE E), Rn m_A_felt 17 [l0, l1, l2, l3, l4, l5, l6, l7, l8, l9, l10] [vI a0, vR (some 8)] E u = bdI (Rn m_C_isPin 0 [vR (some 8), vI a0] [] E u) (KI m_A_felt 20 [l0, l1, l2, l3, l4, l5, l6, l7, l8, l9, l10] [])) ∧
  (∀ (l0 l1 l2 l3 l4 l5 l6 l7 l8 l9 l10 : am_V) (a0 : Int) (E : am_E) (u : am_M) (hE : SE E), Rn m_A_felt 17 [l0, l1, l2, l3, l4, l5, l6, l7, l8, l9, l10] [vI a0, vR (some 73)] E u = bdI (Rn m_C_isPin 0 [vR (some 73), vI a0] [] E u) (KI m_A_felt 20 [l0, l1, l2, l3, l4, l5, l6, l7, l8, l9, l10] [])) ∧
  (∀ (l0 l1 l2 l3 l4 l5 l6 l7 l8 l9 l10 : am_V) (a : Int) (st : List am_V) (E : am_E) (u : am_M), Rn m_A_felt 20 [l0, l1, l2, l3, l4, l5, l6, l7, l8, l9, l10] (vI a :: st) E u = if a = 0 then Rn m_A_felt 51 [l0, l1, l2, l3, l4, l5, l6, l7, l8, l9, l10] st E u else Rn m_A_felt 23 [l0, l1, l2, l3, l4, l5, l6, l7, l8, l9, l10] st E u) ∧
  (∀ (l0 l1 l2 l4 l5 l6 l7 l8 l9 l10 : am_V) (a : Int) (st : List am_V) (E : am_E) (u : am_M), Rn m_A_felt 23 [l0, l1, l2, vI a, l4, l5, l6, l7, l8, l9, l10] st E u = Rn m_A_felt 24 [l0, l1, l2, vI a, l4, l5, l6, l7, l8, l9, l10] (vI a :: st) E u) ∧
  (∀ (l0 l1 l2 l3 l4 l5 l6 l7 l8 l9 l10 : am_V) (a0 : Int) (E : am_E) (u : am_M), Rn m_A_felt 24 [l0, l1, l2, l3, l4, l5, l6, l7, l8, l9, l10] [vI a0] E u = bdI (Rn m_A_isLane 0 [vI a0] [] E u) (KI m_A_felt 27 [l0, l1, l2, l3, l4, l5, l6, l7, l8, l9, l10] [])) ∧
  (∀ (l0 l1 l2 l3 l4 l5 l6 l7 l8 l9 l10 : am_V) (a : Int) (st : List am_V) (E : am_E) (u : am_M), Rn m_A_felt 27 [l0, l1, l2, l3, l4, l5, l6, l7, l8, l9, l10] (vI a :: st) E u = if a = 0 then Rn m_A_felt 51 [l0, l1, l2, l3, l4, l5, l6, l7, l8, l9, l10] st E u else Rn m_A_felt 30 [l0, l1, l2, l3, l4, l5, l6, l7, l8, l9, l10] st E u) ∧
  (∀ (l0 l1 l2 l3 l4 l6 l7 l8 l9 l10 : am_V) (a : Int) (st : List am_V) (E : am_E) (u : am_M), Rn m_A_felt 30 [l0, l1, l2, l3, l4, vI a, l6, l7, l8, l9, l10] st E u = Rn m_A_felt 32 [l0, l1, l2, l3, l4, vI a, l6, l7, l8, l9, l10] (vI a :: st) E u) ∧
  (∀ (l0 l1 l2 l3 l4 l5 l6 l7 l8 l9 l10 : am_V) (st : List am_V) (E : am_E) (u : am_M), Rn m_A_felt 32 [l0, l1, l2, l3, l4, l5, l6, l7, l8, l9, l10] st E u = Rn m_A_felt 33 [l0, l1, l2, l3, l4, l5, l6, l7, l8, l9, l10] (vI 1 :: st) E u) ∧
  (∀ (l0 l1 l2 l3 l4 l5 l6 l7 l8 l9 l10 : am_V) (st : List am_V) (E : am_E) (u : am_M), Rn m_A_felt 33 [l0, l1, l2, l3, l4, l5, l6, l7, l8, l9, l10] st E u = Rn m_A_felt 35 [l0, l1, l2, l3, l4, l5, l6, l7, l8, l9, l10] (vI 8 :: st) E u) ∧
  (∀ (l0 l1 l2 l3 l4 l5 l6 l7 l8 l9 l10 : am_V) (a0 : Int) (a1 : Int) (a2 : Int) (E : am_E) (u : am_M), Rn m_A_felt 35 [l0, l1, l2, l3, l4, l5, l6, l7, l8, l9, l10] [vI a2, vI a1, vI a0] E u = bdI (Rn m_A_isIn 0 [vI a0, vI a1, vI a2] [] E u) (KI m_A_felt 38 [l0, l1, l2, l3, l4, l5, l6, l7, l8, l9, l10] [])) ∧
  (∀ (l0 l1 l2 l3 l4 l5 l6 l7 l8 l9 l10 : am_V) (a : Int) (st : List am_V) (E : am_E) (u : am_M), Rn m_A_felt 38 [l0, l1, l2, l3, l4, l5, l6, l7, l8, l9, l10] (vI a :: st) E u = if a = 0 then Rn m_A_felt 51 [l0, l1, l2, l3, l4, l5, l6, l7, l8, l9, l10] st E u else Rn m_A_felt 41 [l0, l1, l2, l3, l4, l5, l6, l7, l8, l9, l10] st E u) ∧
  (∀ (l0 l1 l2 l3 l4 l5 l7 l8 l9 l10 : am_V) (a : Int) (st : List am_V) (E : am_E) (u : am_M), Rn m_A_felt 41 [l0, l1, l2, l3, l4, l5, vI a, l7, l8, l9, l10] st E u = Rn m_A_felt 43 [l0, l1, l2, l3, l4, l5, vI a, l7, l8, l9, l10] (vI a :: st) E u) ∧
  (∀ (l0 l1 l2 l3 l4 l5 l6 l7 l8 l9 l10 : am_V) (st : List am_V) (E : am_E) (u : am_M), Rn m_A_felt 43 [l0, l1, l2, l3, l4, l5, l6, l7, l8, l9, l10] st E u = Rn m_A_felt 44 [l0, l1, l2, l3, l4, l5, l6, l7, l8, l9, l10] (vI 0 :: st) E u) ∧
  (∀ (l0 l1 l2 l3 l4 l5 l6 l7 l8 l9 l10 : am_V) (st : List am_V) (E : am_E) (u : am_M), Rn m_A_felt 44 [l0, l1, l2, l3, l4, l5, l6, l7, l8, l9, l10] st E u = Rn m_A_felt 45 [l0, l1, l2, l3, l4, l5, l6, l7, l8, l9, l10] (vI 1 :: st) E u) ∧
  (∀ (l0 l1 l2 l3 l4 l5 l6 l7 l8 l9 l10 : am_V) (a0 : Int) (a1 : Int) (a2 : Int) (E : am_E) (u : am_M), Rn m_A_felt 45 [l0, l1, l2, l3, l4, l5, l6, l7, l8, l9, l10] [vI a2, vI a1, vI a0] E u = bdI (Rn m_A_isIn 0 [vI a0, vI a1, vI a2] [] E u) (KI m_A_felt 48 [l0, l1, l2, l3, l4, l5, l6, l7, l8, l9, l10] [])) ∧
  (∀ (l0 l1 l2 l3 l4 l5 l6 l7 l8 l9 l10 : am_V) (a : Int) (st : List am_V) (E : am_E) (u : am_M), Rn m_A_felt 48 [l0, l1, l2, l3, l4, l5, l6, l7, l8, l9, l10] (vI a :: st) E u = if a = 0 then Rn m_A_felt 51 [l0, l1, l2, l3, l4, l5, l6, l7, l8, l9, l10] st E u else Rn m_A_felt 53 [l0, l1, l2, l3, l4, l5, l6, l7, l8, l9, l10] st E u) ∧
  (∀ (l0 l1 l2 l3 l4 l5 l6 l7 l8 l9 l10 : am_V) (st : List am_V) (E : am_E) (u : am_M), Rn m_A_felt 51 [l0, l1, l2, l3, l4, l5, l6, l7, l8, l9, l10] st E u = Rn m_A_felt 52 [l0, l1, l2, l3, l4, l5, l6, l7, l8, l9, l10] (vI (-1) :: st) E u) ∧
  (∀ (l0 l1 l2 l3 l4 l5 l6 l7 l8 l9 l10 : am_V) (a : Int) (E : am_E) (u : am_M), Rn m_A_felt 52 [l0, l1, l2, l3, l4, l5, l6, l7, l8, l9, l10] [vI a] E u = some (some (vI a), E, u)) ∧
  (∀ (l0 l1 l2 l3 l4 l5 l6 l8 l9 l10 : am_V) (a : Option Nat) (st : List am_V) (E : am_E) (u : am_M), Rn m_A_felt 53 [l0, l1, l2, l3, l4, l5, l6, vR a, l8, l9, l10] st E u = Rn m_A_felt 55 [l0, l1, l2, l3, l4, l5, l6, vR a, l8, l9, l10] (vR a :: st) E u) ∧
  (∀ (l0 l1 l2 l4 l5 l6 l7 l8 l9 l10 : am_V) (a : Int) (st : List am_V) (E : am_E) (u : am_M), Rn m_A_felt 55 [l0, l1, l2, vI a, l4, l5, l6, l7, l8, l9, l10] st E u = Rn m_A_felt 56 [l0, l1, l2, vI a, l4, l5, l6, l7, l8, l9, l10] (vI a :: st) E u) ∧
  (∀ (l0 l1 l2 l3 l5 l6 l7 l8 l9 l10 : am_V) (a : Int) (st : List am_V) (E : am_E) (u : am_M), Rn m_A_felt 56 [l0, l1, l2, l3, vI a, l5, l6, l7, l8, l9, l10] st E u = Rn m_A_felt 58 [l0, l1, l2, l3, vI a, l5, l6, l7, l8, l9, l10] (vI a :: st) E u) ∧
  (∀ (l0 l1 l2 l3 l4 l6 l7 l8 l9 l10 : am_V) (a : Int) (st : List am_V) (E : am_E) (u : am_M), Rn m_A_felt 58 [l0, l1, l2, l3, l4, vI a, l6, l7, l8, l9, l10] st E u = Rn m_A_felt 60 [l0, l1, l2, l3, l4, vI a, l6, l7, l8, l9, l10] (vI a :: st) E u) ∧
  (∀ (l0 l1 l2 l3 l4 l5 l6 l7 l8 l9 l10 : am_V) (k : Nat) (a0 : Int) (a1 : Int) (a2 : Int) (E : am_E) (u : am_M) (hE : SE E) (hk : shB k), Rn m_A_felt 60 [l0, l1, l2, l3, l4, l5, l6, l7, l8, l9, l10] [vI a2, vI a1, vI a0, vR (some k)] E u = bdI (Rn m_S_refusal 0 [vR (some k), vI a0, vI a1, vI a2] [] E u) (KI m_A_felt 63 [l0, l1, l2, l3, l4, l5, l6, l7, l8, l9, l10] [])) ∧
  (∀ (l0 l1 l2 l3 l4 l5 l6 l7 l8 l9 l10 : am_V) (a : Int) (st : List am_V) (E : am_E) (u : am_M), Rn m_A_felt 63 [l0, l1, l2, l3, l4, l5, l6, l7, l8, l9, l10] (vI a :: st) E u = Rn m_A_felt 65 [l0, l1, l2, l3, l4, l5, l6, am_fx l7, vI a, l9, l10] st E u) ∧
  (∀ (l0 l1 l2 l3 l4 l5 l6 l7 l9 l10 : am_V) (a : Int) (st : List am_V) (E : am_E) (u : am_M), Rn m_A_felt 65 [l0, l1, l2, l3, l4, l5, l6, l7, vI a, l9, l10] st E u = Rn m_A_felt 67 [l0, l1, l2, l3, l4, l5, l6, l7, vI a, l9, l10] (vI a :: st) E u) ∧
  (∀ (l0 l1 l2 l3 l4 l5 l6 l7 l8 l9 l10 : am_V) (a : Int) (st : List am_V) (E : am_E) (u : am_M), Rn m_A_felt 67 [l0, l1, l2, l3, l4, l5, l6, l7, l8, l9, l10] (vI a :: st) E u = if a = 0 then Rn m_A_felt 73 [l0, l1, l2, l3, l4, l5, l6, l7, l8, l9, l10] st E u else Rn m_A_felt 70 [l0, l1, l2, l3, l4, l5, l6, l7, l8, l9, l10] st E u) ∧
  (∀ (l0 l1 l2 l3 l4 l5 l6 l7 l9 l10 : am_V) (a : Int) (st : List am_V) (E : am_E) (u : am_M), Rn m_A_felt 70 [l0, l1, l2, l3, l4, l5, l6, l7, vI a, l9, l10] st E u = Rn m_A_felt 72 [l0, l1, l2, l3, l4, l5, l6, l7, vI a, l9, l10] (vI a :: st) E u) ∧
  (∀ (l0 l1 l2 l3 l4 l5 l6 l7 l8 l9 l10 : am_V) (a : Int) (E : am_E) (u : am_M), Rn m_A_felt 72 [l0, l1, l2, l3, l4, l5, l6, l7, l8, l9, l10] [vI a] E u = some (some (vI a), E, u)) ∧
  (∀ (l1 l2 l3 l4 l5 l6 l7 l8 l9 l10 : am_V) (a : Option Nat) (st : List am_V) (E : am_E) (u : am_M), Rn m_A_felt 73 [vR a, l1, l2, l3, l4, l5, l6, l7, l8, l9, l10] st E u = Rn m_A_felt 74 [vR a, l1, l2, l3, l4, l5, l6, l7, l8, l9, l10] (vR a :: st) E u) ∧
  (∀ (l0 l1 l2 l3 l4 l5 l6 l7 l8 l9 l10 : am_V) (st : List am_V) (E : am_E) (u : am_M) (hE : SE E), Rn m_A_felt 74 [l0, l1, l2, l3, l4, l5, l6, l7, l8, l9, l10] (vR (some 0) :: st) E u = Rn m_A_felt 77 [l0, l1, l2, l3, l4, l5, l6, l7, l8, l9, l10] (vR (some 1) :: st) E u) ∧
  (∀ (l0 l1 l2 l3 l4 l5 l6 l7 l8 l9 l10 : am_V) (st : List am_V) (E : am_E) (u : am_M) (hE : SE E), Rn m_A_felt 77 [l0, l1, l2, l3, l4, l5, l6, l7, l8, l9, l10] (vR (some 1) :: st) E u = Rn m_A_felt 80 [l0, l1, l2, l3, l4, l5, l6, l7, l8, l9, l10] (vR (some 3) :: st) E u) ∧
  (∀ (l0 l1 l2 l3 l4 l5 l6 l7 l8 l9 l10 : am_V) (st : List am_V) (E : am_E) (u : am_M) (hE : SE E), Rn m_A_felt 77 [l0, l1, l2, l3, l4, l5, l6, l7, l8, l9, l10] (vR (some 8) :: st) E u = Rn m_A_felt 80 [l0, l1, l2, l3, l4, l5, l6, l7, l8, l9, l10] (vR (some 10) :: st) E u) ∧
  (∀ (l0 l1 l2 l3 l4 l5 l6 l7 l8 l9 l10 : am_V) (st : List am_V) (E : am_E) (u : am_M) (hE : SE E), Rn m_A_felt 77 [l0, l1, l2, l3, l4, l5, l6, l7, l8, l9, l10] (vR (some 73) :: st) E u = Rn m_A_felt 80 [l0, l1, l2, l3, l4, l5, l6, l7, l8, l9, l10] (vR (some 75) :: st) E u) ∧
  (∀ (l0 l2 l3 l4 l5 l6 l7 l8 l9 l10 : am_V) (a : Int) (st : List am_V) (E : am_E) (u : am_M), Rn m_A_felt 80 [l0, vI a, l2, l3, l4, l5, l6, l7, l8, l9, l10] st E u = Rn m_A_felt 81 [l0, vI a, l2, l3, l4, l5, l6, l7, l8, l9, l10] (vI a :: st) E u) ∧
  (∀ (l0 l1 l2 l3 l4 l5 l6 l7 l8 l9 l10 : am_V) (a0 : Option Nat) (a1 : Int) (E : am_E) (u : am_M), Rn m_A_felt 81 [l0, l1, l2, l3, l4, l5, l6, l7, l8, l9, l10] [vI a1, vR a0] E u = bdI (Rn m_A_look 0 [vR a0, vI a1] [] E u) (KI m_A_felt 84 [l0, l1, l2, l3, l4, l5, l6, l7, l8, l9, l10] [])) ∧
  (∀ (l0 l1 l2 l3 l4 l5 l6 l7 l8 l9 l10 : am_V) (st : List am_V) (E : am_E) (u : am_M), Rn m_A_felt 84 [l0, l1, l2, l3, l4, l5, l6, l7, l8, l9, l10] st E u = Rn m_A_felt 86 [l0, l1, l2, l3, l4, l5, l6, l7, l8, l9, l10] (vI (-4) :: st) E u) ∧
  (∀ (l0 l1 l2 l3 l4 l5 l6 l7 l8 l9 l10 : am_V) (a b : Int) (st : List am_V) (E : am_E) (u : am_M), Rn m_A_felt 86 [l0, l1, l2, l3, l4, l5, l6, l7, l8, l9, l10] (vI b :: vI a :: st) E u = if a = b then Rn m_A_felt 89 [l0, l1, l2, l3, l4, l5, l6, l7, l8, l9, l10] st E u else Rn m_A_felt 92 [l0, l1, l2, l3, l4, l5, l6, l7, l8, l9, l10] st E u) ∧
  (∀ (l0 l1 l2 l3 l4 l5 l6 l7 l8 l9 l10 : am_V) (st : List am_V) (E : am_E) (u : am_M), Rn m_A_felt 89 [l0, l1, l2, l3, l4, l5, l6, l7, l8, l9, l10] st E u = Rn m_A_felt 91 [l0, l1, l2, l3, l4, l5, l6, l7, l8, l9, l10] (vI (-2) :: st) E u) ∧
  (∀ (l0 l1 l2 l3 l4 l5 l6 l7 l8 l9 l10 : am_V) (a : Int) (E : am_E) (u : am_M), Rn m_A_felt 91 [l0, l1, l2, l3, l4, l5, l6, l7, l8, l9, l10] [vI a] E u = some (some (vI a), E, u)) ∧
  (∀ (l0 l1 l2 l3 l4 l5 l6 l7 l8 l9 l10 : am_V) (st : List am_V) (E : am_E) (u : am_M), Rn m_A_felt 92 [l0, l1, l2, l3, l4, l5, l6, l7, l8, l9, l10] st E u = Rn m_A_felt 93 [l0, l1, l2, l3, l4, l5, l6, l7, l8, l9, l10] (vI 0 :: st) E u) ∧
  (∀ (l0 l1 l2 l3 l4 l5 l6 l7 l8 l9 l10 : am_V) (a : Int) (st : List am_V) (E : am_E) (u : am_M), Rn m_A_felt 93 [l0, l1, l2, l3, l4, l5, l6, l7, l8, l9, l10] (vI a :: st) E u = Rn m_A_felt 95 [l0, l1, l2, l3, l4, l5, l6, l7, am_fx l8, vI a, l10] st E u) ∧
  (∀ (l0 l1 l2 l3 l4 l5 l6 l7 l8 l9 l10 : am_V) (st : List am_V) (E : am_E) (u : am_M), Rn m_A_felt 95 [l0, l1, l2, l3, l4, l5, l6, l7, l8, l9, l10] st E u = Rn m_A_felt 96 [l0, l1, l2, l3, l4, l5, l6, l7, l8, l9, l10] (vI 0 :: st) E u) ∧
  (∀ (l0 l1 l2 l3 l4 l5 l6 l7 l8 l9 l10 : am_V) (a : Int) (st : List am_V) (E : am_E) (u : am_M), Rn m_A_felt 96 [l0, l1, l2, l3, l4, l5, l6, l7, l8, l9, l10] (vI a :: st) E u = Rn m_A_felt 98 [l0, l1, l2, l3, l4, l5, l6, l7, l8, am_fx l9, vI a] st E u) ∧
  (∀ (l0 l1 l2 l3 l4 l5 l7 l8 l9 l10 : am_V) (a : Int) (st : List am_V) (E : am_E) (u : am_M), Rn m_A_felt 100 [l0, l1, l2, l3, l4, l5, vI a, l7, l8, l9, l10] st E u = Rn m_A_felt 102 [l0, l1, l2, l3, l4, l5, vI a, l7, l8, l9, l10] (vI a :: st) E u) ∧
  (∀ (l0 l1 l2 l3 l4 l5 l6 l7 l8 l9 l10 : am_V) (a : Int) (st : List am_V) (E : am_E) (u : am_M), Rn m_A_felt 102 [l0, l1, l2, l3, l4, l5, l6, l7, l8, l9, l10] (vI a :: st) E u = if a = 0 then Rn m_A_felt 105 [l0, l1, l2, l3, l4, l5, l6, l7, l8, l9, l10] st E u else Rn m_A_felt 109 [l0, l1, l2, l3, l4, l5, l6, l7, l8, l9, l10] st E u) ∧
  (∀ (l0 l1 l2 l3 l4 l5 l6 l7 l8 l9 l10 : am_V) (st : List am_V) (E : am_E) (u : am_M), Rn m_A_felt 105 [l0, l1, l2, l3, l4, l5, l6, l7, l8, l9, l10] st E u = Rn m_A_felt 106 [l0, l1, l2, l3, l4, l5, l6, l7, l8, l9, l10] (vI 5 :: st) E u) ∧
  (∀ (l0 l1 l2 l3 l4 l5 l6 l7 l8 l9 l10 : am_V) (st : List am_V) (E : am_E) (u : am_M), Rn m_A_felt 106 [l0, l1, l2, l3, l4, l5, l6, l7, l8, l9, l10] st E u = Rn m_A_felt 110 [l0, l1, l2, l3, l4, l5, l6, l7, l8, l9, l10] st E u) ∧
  (∀ (l0 l1 l2 l3 l4 l5 l6 l7 l8 l9 l10 : am_V) (st : List am_V) (E : am_E) (u : am_M), Rn m_A_felt 109 [l0, l1, l2, l3, l4, l5, l6, l7, l8, l9, l10] st E u = Rn m_A_felt 110 [l0, l1, l2, l3, l4, l5, l6, l7, l8, l9, l10] (vI 4 :: st) E u) ∧
  (∀ (l0 l1 l2 l3 l4 l5 l6 l7 l8 l9 l10 : am_V) (a b : Int) (st : List am_V) (E : am_E) (u : am_M), Rn m_A_felt 110 [l0, l1, l2, l3, l4, l5, l6, l7, l8, l9, l10] (vI b :: vI a :: st) E u = if a < b then Rn m_A_felt 113 [l0, l1, l2, l3, l4, l5, l6, l7, l8, l9, l10] st E u else Rn m_A_felt 181 [l0, l1, l2, l3, l4, l5, l6, l7, l8, l9, l10] st E u) ∧
  (∀ (l1 l2 l3 l4 l5 l6 l7 l8 l9 l10 : am_V) (a : Option Nat) (st : List am_V) (E : am_E) (u : am_M), Rn m_A_felt 113 [vR a, l1, l2, l3, l4, l5, l6, l7, l8, l9, l10] st E u = Rn m_A_felt 114 [vR a, l1, l2, l3, l4, l5, l6, l7, l8, l9, l10] (vR a :: st) E u) ∧
  (∀ (l0 l1 l2 l3 l4 l5 l6 l7 l8 l9 l10 : am_V) (st : List am_V) (E : am_E) (u : am_M) (hE : SE E), Rn m_A_felt 114 [l0, l1, l2, l3, l4, l5, l6, l7, l8, l9, l10] (vR (some 0) :: st) E u = Rn m_A_felt 117 [l0, l1, l2, l3, l4, l5, l6, l7, l8, l9, l10] (vR (some 8) :: st) E u) ∧
  (∀ (l1 l2 l3 l4 l5 l6 l7 l8 l9 l10 : am_V) (a : Option Nat) (st : List am_V) (E : am_E) (u : am_M), Rn m_A_felt 117 [vR a, l1, l2, l3, l4, l5, l6, l7, l8, l9, l10] st E u = Rn m_A_felt 118 [vR a, l1, l2, l3, l4, l5, l6, l7, l8, l9, l10] (vR a :: st) E u) ∧
  (∀ (l0 l1 l2 l3 l4 l5 l6 l7 l8 l9 l10 : am_V) (st : List am_V) (E : am_E) (u : am_M) (hE : SE E), Rn m_A_felt 118 [l0, l1, l2, l3, l4, l5, l6, l7, l8, l9, l10] (vR (some 0) :: st) E u = Rn m_A_felt 121 [l0, l1, l2, l3, l4, l5, l6, l7, l8, l9, l10] (vR (some 1) :: st) E u) ∧
  (∀ (l0 l1 l2 l3 l4 l5 l6 l7 l8 l9 l10 : am_V) (a0 : Option Nat) (E : am_E) (u : am_M) (hE : SE E), Rn m_A_felt 121 [l0, l1, l2, l3, l4, l5, l6, l7, l8, l9, l10] [vR a0, vR (some 1)] E u = bdV (Rn m_C_becomes 0 [vR (some 1), vR a0] [] E u) (KV m_A_felt 124 [l0, l1, l2, l3, l4, l5, l6, l7, l8, l9, l10] [])) ∧
  (∀ (l0 l1 l2 l3 l4 l5 l6 l7 l8 l9 l10 : am_V) (a0 : Option Nat) (E : am_E) (u : am_M) (hE : SE E), Rn m_A_felt 121 [l0, l1, l2, l3, l4, l5, l6, l7, l8, l9, l10] [vR a0, vR (some 8)] E u = bdV (Rn m_C_becomes 0 [vR (some 8), vR a0] [] E u) (KV m_A_felt 124 [l0, l1, l2, l3, l4, l5, l6, l7, l8, l9, l10] [])) ∧
  (∀ (l0 l1 l2 l3 l4 l5 l6 l7 l8 l9 l10 : am_V) (a0 : Option Nat) (E : am_E) (u : am_M) (hE : SE E), Rn m_A_felt 121 [l0, l1, l2, l3, l4, l5, l6, l7, l8, l9, l10] [vR a0, vR (some 73)] E u = bdV (Rn m_C_becomes 0 [vR (some 73), vR a0] [] E u) (KV m_A_felt 124 [l0, l1, l2, l3, l4, l5, l6, l7, l8, l9, l10] [])) ∧
  (∀ (l0 l1 l2 l3 l4 l5 l7 l8 l9 l10 : am_V) (a : Int) (st : List am_V) (E : am_E) (u : am_M), Rn m_A_felt 124 [l0, l1, l2, l3, l4, l5, vI a, l7, l8, l9, l10] st E u = Rn m_A_felt 126 [l0, l1, l2, l3, l4, l5, vI a, l7, l8, l9, l10] (vI a :: st) E u) ∧
  (∀ (l0 l1 l2 l3 l4 l5 l6 l7 l8 l9 l10 : am_V) (a : Int) (st : List am_V) (E : am_E) (u : am_M), Rn m_A_felt 126 [l0, l1, l2, l3, l4, l5, l6, l7, l8, l9, l10] (vI a :: st) E u = if a = 0 then Rn m_A_felt 129 [l0, l1, l2, l3, l4, l5, l6, l7, l8, l9, l10] st E u else Rn m_A_felt 139 [l0, l1, l2, l3, l4, l5, l6, l7, l8, l9, l10] st E u) ∧
  (∀ (l1 l2 l3 l4 l5 l6 l7 l8 l9 l10 : am_V) (a : Option Nat) (st : List am_V) (E : am_E) (u : am_M), Rn m_A_felt 129 [vR a, l1, l2, l3, l4, l5, l6, l7, l8, l9, l10] st E u = Rn m_A_felt 130 [vR a, l1, l2, l3, l4, l5, l6, l7, l8, l9, l10] (vR a :: st) E u) ∧
  (∀ (l0 l1 l2 l3 l4 l5 l6 l7 l8 l9 l10 : am_V) (st : List am_V) (E : am_E) (u : am_M) (hE : SE E), Rn m_A_felt 130 [l0, l1, l2, l3, l4, l5, l6, l7, l8, l9, l10] (vR (some 0) :: st) E u = Rn m_A_felt 133 [l0, l1, l2, l3, l4, l5, l6, l7, l8, l9, l10] (vR (some 8) :: st) E u) ∧
  (∀ (l0 l1 l2 l3 l4 l5 l6 l7 l8 l9 l10 : am_V) (st : List am_V) (E : am_E) (u : am_M) (hE : SE E), Rn m_A_felt 133 [l0, l1, l2, l3, l4, l5, l6, l7, l8, l9, l10] (vR (some 1) :: st) E u = Rn m_A_felt 136 [l0, l1, l2, l3, l4, l5, l6, l7, l8, l9, l10] (vR (some 2) :: st) E u) ∧
  (∀ (l0 l1 l2 l3 l4 l5 l6 l7 l8 l9 l10 : am_V) (st : List am_V) (E : am_E) (u : am_M) (hE : SE E), Rn m_A_felt 133 [l0, l1, l2, l3, l4, l5, l6, l7, l8, l9, l10] (vR (some 8) :: st) E u = Rn m_A_felt 136 [l0, l1, l2, l3, l4, l5, l6, l7, l8, l9, l10] (vR (some 9) :: st) E u) ∧
  (∀ (l0 l1 l2 l3 l4 l5 l6 l7 l8 l9 l10 : am_V) (st : List am_V) (E : am_E) (u : am_M) (hE : SE E), Rn m_A_felt 133 [l0, l1, l2, l3, l4, l5, l6, l7, l8, l9, l10] (vR (some 73) :: st) E u = Rn m_A_felt 136 [l0, l1, l2, l3, l4, l5, l6, l7, l8, l9, l10] (vR (some 74) :: st) E u) ∧
  (∀ (l0 l1 l2 l3 l4 l5 l6 l7 l8 l9 l10 : am_V) (st : List am_V) (E : am_E) (u : am_M), Rn m_A_felt 136 [l0, l1, l2, l3, l4, l5, l6, l7, l8, l9, l10] st E u = Rn m_A_felt 146 [l0, l1, l2, l3, l4, l5, l6, l7, l8, l9, l10] st E u) ∧
  (∀ (l1 l2 l3 l4 l5 l6 l7 l8 l9 l10 : am_V) (a : Option Nat) (st : List am_V) (E : am_E) (u : am_M), Rn m_A_felt 139 [vR a, l1, l2, l3, l4, l5, l6, l7, l8, l9, l10] st E u = Rn m_A_felt 140 [vR a, l1, l2, l3, l4, l5, l6, l7, l8, l9, l10] (vR a :: st) E u) ∧
  (∀ (l0 l1 l2 l3 l4 l5 l6 l7 l8 l9 l10 : am_V) (st : List am_V) (E : am_E) (u : am_M) (hE : SE E), Rn m_A_felt 140 [l0, l1, l2, l3, l4, l5, l6, l7, l8, l9, l10] (vR (some 0) :: st) E u = Rn m_A_felt 143 [l0, l1, l2, l3, l4, l5, l6, l7, l8, l9, l10] (vR (some 8) :: st) E u) ∧
  (∀ (l0 l1 l2 l3 l4 l5 l6 l7 l8 l9 l10 : am_V) (st : List am_V) (E : am_E) (u : am_M) (hE : SE E), Rn m_A_felt 143 [l0, l1, l2, l3, l4, l5, l6, l7, l8, l9, l10] (vR (some 1) :: st) E u = Rn m_A_felt 146 [l0, l1, l2, l3, l4, l5, l6, l7, l8, l9, l10] (vR (some 4) :: st) E u) ∧
  (∀ (l0 l1 l2 l3 l4 l5 l6 l7 l8 l9 l10 : am_V) (st : List am_V) (E : am_E) (u : am_M) (hE : SE E), Rn m_A_felt 143 [l0, l1, l2, l3, l4, l5, l6, l7, l8, l9, l10] (vR (some 8) :: st) E u = Rn m_A_felt 146 [l0, l1, l2, l3, l4, l5, l6, l7, l8, l9, l10] (vR (some 11) :: st) E u) ∧
  (∀ (l0 l1 l2 l3 l4 l5 l6 l7 l8 l9 l10 : am_V) (st : List am_V) (E : am_E) (u : am_M) (hE : SE E), Rn m_A_felt 143 [l0, l1, l2, l3, l4, l5, l6, l7, l8, l9, l10] (vR (some 73) :: st) E u = Rn m_A_felt 146 [l0, l1, l2, l3, l4, l5, l6, l7, l8, l9, l10] (vR (some 76) :: st) E u) ∧
  (∀ (l0 l2 l3 l4 l5 l6 l7 l8 l9 l10 : am_V) (a : Int) (st : List am_V) (E : am_E) (u : am_M), Rn m_A_felt 146 [l0, vI a, l2, l3, l4, l5, l6, l7, l8, l9, l10] st E u = Rn m_A_felt 147 [l0, vI a, l2, l3, l4, l5, l6, l7, l8, l9, l10] (vI a :: st) E u) ∧
  (∀ (l0 l1 l2 l3 l4 l5 l6 l7 l8 l9 : am_V) (a : Int) (st : List am_V) (E : am_E) (u : am_M), Rn m_A_felt 147 [l0, l1, l2, l3, l4, l5, l6, l7, l8, l9, vI a] st E u = Rn m_A_felt 149 [l0, l1, l2, l3, l4, l5, l6, l7, l8, l9, vI a] (vI a :: st) E u) ∧
  (∀ (l0 l1 l2 l3 l4 l5 l6 l7 l8 l9 l10 : am_V) (a0 : Option Nat) (a1 : Int) (a2 : Int) (E : am_E) (u : am_M), Rn m_A_felt 149 [l0, l1, l2, l3, l4, l5, l6, l7, l8, l9, l10] [vI a2, vI a1, vR a0] E u = bdV (Rn m_A_lay 0 [vR a0, vI a1, vI a2] [] E u) (KV m_A_felt 152 [l0, l1, l2, l3, l4, l5, l6, l7, l8, l9, l10] [])) ∧
  (∀ (l1 l2 l3 l4 l5 l6 l7 l8 l9 l10 : am_V) (a : Option Nat) (st : List am_V) (E : am_E) (u : am_M), Rn m_A_felt 152 [vR a, l1, l2, l3, l4, l5, l6, l7, l8, l9, l10] st E u = Rn m_A_felt 153 [vR a, l1, l2, l3, l4, l5, l6, l7, l8, l9, l10] (vR a :: st) E u) ∧
  (∀ (l0 l2 l3 l4 l5 l6 l7 l8 l9 l10 : am_V) (a : Int) (st : List am_V) (E : am_E) (u : am_M), Rn m_A_felt 153 [l0, vI a, l2, l3, l4, l5, l6, l7, l8, l9, l10] st E u = Rn m_A_felt 154 [l0, vI a, l2, l3, l4, l5, l6, l7, l8, l9, l10] (vI a :: st) E u) ∧
  (∀ (l0 l1 l2 l3 l4 l5 l6 l8 l9 l10 : am_V) (a : Option Nat) (st : List am_V) (E : am_E) (u : am_M), Rn m_A_felt 154 [l0, l1, l2, l3, l4, l5, l6, vR a, l8, l9, l10] st E u = Rn m_A_felt 156 [l0, l1, l2, l3, l4, l5, l6, vR a, l8, l9, l10] (vR a :: st) E u) ∧
  (∀ (l0 l1 l2 l3 l5 l6 l7 l8 l9 l10 : am_V) (a : Int) (st : List am_V) (E : am_E) (u : am_M), Rn m_A_felt 156 [l0, l1, l2, l3, vI a, l5, l6, l7, l8, l9, l10] st E u = Rn m_A_felt 158 [l0, l1, l2, l3, vI a, l5, l6, l7, l8, l9, l10] (vI a :: st) E u) ∧
  (∀ (l0 l1 l2 l3 l4 l6 l7 l8 l9 l10 : am_V) (a : Int) (st : List am_V) (E : am_E) (u : am_M), Rn m_A_felt 158 [l0, l1, l2, l3, l4, vI a, l6, l7, l8, l9, l10] st E u = Rn m_A_felt 160 [l0, l1, l2, l3, l4, vI a, l6, l7, l8, l9, l10] (vI a :: st) E u) ∧
  (∀ (l0 l1 l2 l3 l4 l5 l6 l7 l8 l9 l10 : am_V) (a0 : Int) (a1 : Option Nat) (a2 : Int) (a3 : Int) (E : am_E) (u : am_M) (hE : SE E), Rn m_A_felt 160 [l0, l1, l2, l3, l4, l5, l6, l7, l8, l9, l10] [vI a3, vI a2, vR a1, vI a0, vR (some 0)] E u = bdI (Rn m_A_isFelt 0 [vR (some 0), vI a0, vR a1, vI a2, vI a3, vB false] [] E u) (KI m_A_felt 163 [l0, l1, l2, l3, l4, l5, l6, l7, l8, l9, l10] [])) ∧
  (∀ (l0 l1 l2 l3 l4 l5 l6 l7 l8 l9 l10 : am_V) (a : Int) (st : List am_V) (E : am_E) (u : am_M), Rn m_A_felt 163 [l0, l1, l2, l3, l4, l5, l6, l7, l8, l9, l10] (vI a :: st) E u = if a = 0 then Rn m_A_felt 175 [l0, l1, l2, l3, l4, l5, l6, l7, l8, l9, l10] st E u else Rn m_A_felt 166 [l0, l1, l2, l3, l4, l5, l6, l7, l8, l9, l10] st E u) ∧
  (∀ (l0 l1 l2 l3 l4 l5 l6 l7 l8 l10 : am_V) (a : Int) (st : List am_V) (E : am_E) (u : am_M), Rn m_A_felt 166 [l0, l1, l2, l3, l4, l5, l6, l7, l8, vI a, l10] st E u = Rn m_A_felt 168 [l0, l1, l2, l3, l4, l5, l6, l7, l8, vI a, l10] (vI a :: st) E u) ∧
  (∀ (l0 l1 l2 l3 l4 l5 l6 l7 l8 l9 l10 : am_V) (st : List am_V) (E : am_E) (u : am_M), Rn m_A_felt 168 [l0, l1, l2, l3, l4, l5, l6, l7, l8, l9, l10] st E u = Rn m_A_felt 169 [l0, l1, l2, l3, l4, l5, l6, l7, l8, l9, l10] (vI 1 :: st) E u) ∧
  (∀ (l0 l1 l2 l3 l4 l5 l6 l7 l8 l9 : am_V) (a : Int) (st : List am_V) (E : am_E) (u : am_M), Rn m_A_felt 169 [l0, l1, l2, l3, l4, l5, l6, l7, l8, l9, vI a] st E u = Rn m_A_felt 171 [l0, l1, l2, l3, l4, l5, l6, l7, l8, l9, vI a] (vI a :: st) E u) ∧
  (∀ (l0 l1 l2 l3 l4 l5 l6 l7 l8 l9 l10 : am_V) (a b : Int) (st : List am_V) (E : am_E) (u : am_M), Rn m_A_felt 171 [l0, l1, l2, l3, l4, l5, l6, l7, l8, l9, l10] (vI b :: vI a :: st) E u = Rn m_A_felt 172 [l0, l1, l2, l3, l4, l5, l6, l7, l8, l9, l10] (vI (i_shl a b) :: st) E u) ∧
  (∀ (l0 l1 l2 l3 l4 l5 l6 l7 l8 l9 l10 : am_V) (a b : Int) (st : List am_V) (E : am_E) (u : am_M), Rn m_A_felt 172 [l0, l1, l2, l3, l4, l5, l6, l7, l8, l9, l10] (vI b :: vI a :: st) E u = Rn m_A_felt 173 [l0, l1, l2, l3, l4, l5, l6, l7, l8, l9, l10] (vI (i_or a b) :: st) E u) ∧
  (∀ (l0 l1 l2 l3 l4 l5 l6 l7 l8 l9 l10 : am_V) (a : Int) (st : List am_V) (E : am_E) (u : am_M), Rn m_A_felt 173 [l0, l1, l2, l3, l4, l5, l6, l7, l8, l9, l10] (vI a :: st) E u = Rn m_A_felt 175 [l0, l1, l2, l3, l4, l5, l6, l7, am_fx l8, vI a, l10] st E u) ∧
  (∀ (l0 l1 l2 l3 l4 l5 l6 l7 l8 l9 : am_V) (a : Int) (st : List am_V) (E : am_E) (u : am_M), Rn m_A_felt 175 [l0, l1, l2, l3, l4, l5, l6, l7, l8, l9, vI a] st E u = Rn m_A_felt 178 [l0, l1, l2, l3, l4, l5, l6, l7, l8, am_fx l9, vI (w32 (a + 1))] st E u) ∧
  (∀ (l0 l1 l2 l3 l4 l5 l6 l7 l8 l9 l10 : am_V) (st : List am_V) (E : am_E) (u : am_M), Rn m_A_felt 178 [l0, l1, l2, l3, l4, l5, l6, l7, l8, l9, l10] st E u = Rn m_A_felt 98 [l0, l1, l2, l3, l4, l5, l6, l7, l8, l9, l10] st E u) ∧
  (∀ (l0 l1 l2 l3 l4 l5 l6 l7 l8 l10 : am_V) (a : Int) (st : List am_V) (E : am_E) (u : am_M), Rn m_A_felt 181 [l0, l1, l2, l3, l4, l5, l6, l7, l8, vI a, l10] st E u = Rn m_A_felt 183 [l0, l1, l2, l3, l4, l5, l6, l7, l8, vI a, l10] (vI a :: st) E u) ∧
  (∀ (l0 l1 l2 l3 l4 l5 l6 l7 l8 l9 l10 : am_V) (a : Int) (E : am_E) (u : am_M), Rn m_A_felt 183 [l0, l1, l2, l3, l4, l5, l6, l7, l8, l9, l10] [vI a] E u = some (some (vI a), E, u)) :=
  ⟨fun l1 l2 l3 l4 l5 l6 l7 l8 l9 l10 a st E u => q_go (by decide +kernel : am_Pg 187 0 = some (.aload_n 0, 1, [], 0)) rfl,
  fun l0 l1 l3 l4 l5 l6 l7 l8 l9 l10 a st E u => q_go (by decide +kernel : am_Pg 187 1 = some (.iload_n 2, 1, [], 0)) rfl,
  fun l0 l1 l2 l3 l4 l5 l6 l7 l8 l9 l10 a0  E u hE => q_cR (by decide +kernel : am_Pg 187 2 = some (.invokevirtual 250, 3, [3, 181, 2, 4, 8, 0], 0)) (am_call_V (a := [vI a0]) (st' := []) (Nat.le_of_ble_eq_true rfl) rfl (SE_k4 hE)) (by decide +kernel : am_Lm m_A_sheetOf = 2) (Nat.le_of_ble_eq_true rfl) rfl (by decide +kernel),
  fun l0 l1 l2 l3 l4 l5 l6 l7 l8 l9 l10 a st E u => q_go (by decide +kernel : am_Pg 187 5 = some (.astore 7, 2, [], 0)) rfl,
  fun l0 l1 l2 l3 l4 l5 l6 l8 l9 l10 a st E u => q_go (by decide +kernel : am_Pg 187 7 = some (.aload 7, 2, [], 0)) rfl,
  fun l0 l1 l2 l3 l4 l5 l6 l7 l8 l9 l10 st E u => q_go (by decide +kernel : am_Pg 187 9 = some (.ifnull 42, 3, [], 0)) rfl,
  fun l0 l1 l2 l3 l4 l5 l6 l7 l8 l9 l10 a st E u => q_go (by decide +kernel : am_Pg 187 9 = some (.ifnull 42, 3, [], 0)) rfl,
  fun l1 l2 l3 l4 l5 l6 l7 l8 l9 l10 a st E u => q_go (by decide +kernel : am_Pg 187 12 = some (.aload_n 0, 1, [], 0)) rfl,
  fun l0 l1 l2 l3 l4 l5 l6 l7 l8 l9 l10 st E u hE => q_gfR (by decide +kernel : am_Pg 187 13 = some (.getfield 12, 3, [4, 8, 0, 0], 0)) (SE_k4 hE) rfl (SE_r4_0 hE),
  fun l0 l2 l3 l4 l5 l6 l7 l8 l9 l10 a st E u => q_go (by decide +kernel : am_Pg 187 16 = some (.iload_n 1, 1, [], 0)) rfl,
  fun l0 l1 l2 l3 l4 l5 l6 l7 l8 l9 l10 a0  E u hE => q_cI (by decide +kernel : am_Pg 187 17 = some (.invokevirtual 87, 3, [3, 29, 2, 0, 14, 1], 0)) (am_call_V (a := [vI a0]) (st' := []) (Nat.le_of_ble_eq_true rfl) rfl (SE_k0 hE cuB_1)) (by decide +kernel : am_Lm m_C_isPin = 2) (Nat.le_of_ble_eq_true rfl) rfl (by decide +kernel),
  fun l0 l1 l2 l3 l4 l5 l6 l7 l8 l9 l10 a0  E u hE => q_cI (by decide +kernel : am_Pg 187 17 = some (.invokevirtual 87, 3, [3, 29, 2, 0, 14, 1], 0)) (am_call_V (a := [vI a0]) (st' := []) (Nat.le_of_ble_eq_true rfl) rfl (SE_k0 hE cuB_8)) (by decide +kernel : am_Lm m_C_isPin = 2) (Nat.le_of_ble_eq_true rfl) rfl (by decide +kernel),
  fun l0 l1 l2 l3 l4 l5 l6 l7 l8 l9 l10 a0  E u hE => q_cI (by decide +kernel : am_Pg 187 17 = some (.invokevirtual 87, 3, [3, 29, 2, 0, 14, 1], 0)) (am_call_V (a := [vI a0]) (st' := []) (Nat.le_of_ble_eq_true rfl) rfl (SE_k0 hE cuB_73)) (by decide +kernel : am_Lm m_C_isPin = 2) (Nat.le_of_ble_eq_true rfl) rfl (by decide +kernel),
  fun l0 l1 l2 l3 l4 l5 l6 l7 l8 l9 l10 a st E u => q_if_eq (tgt := 51) (by decide +kernel : am_Pg 187 20 = some (.ifCond .eq 31, 3, [], 0)) (by decide),
  fun l0 l1 l2 l4 l5 l6 l7 l8 l9 l10 a st E u => q_go (by decide +kernel : am_Pg 187 23 = some (.iload_n 3, 1, [], 0)) rfl,
  fun l0 l1 l2 l3 l4 l5 l6 l7 l8 l9 l10 a0  E u => q_cI (by decide +kernel : am_Pg 187 24 = some (.invokestatic 254, 3, [2, 182, 1, 0], 0)) (am_call_S (f := fun _ _ => true) (a := [vI a0]) (st' := []) (Nat.le_of_ble_eq_true rfl) rfl rfl) (by decide +kernel : am_Lm m_A_isLane = 1) (Nat.le_of_ble_eq_true rfl) rfl (by decide +kernel),
  fun l0 l1 l2 l3 l4 l5 l6 l7 l8 l9 l10 a st E u => q_if_eq (tgt := 51) (by decide +kernel : am_Pg 187 27 = some (.ifCond .eq 24, 3, [], 0)) (by decide),
  fun l0 l1 l2 l3 l4 l6 l7 l8 l9 l10 a st E u => q_go (by decide +kernel : am_Pg 187 30 = some (.iload 5, 2, [], 0)) rfl,
  fun l0 l1 l2 l3 l4 l5 l6 l7 l8 l9 l10 st E u => q_go (by decide +kernel : am_Pg 187 32 = some (.iconst 1, 1, [], 0)) rfl,
  fun l0 l1 l2 l3 l4 l5 l6 l7 l8 l9 l10 st E u => q_go (by decide +kernel : am_Pg 187 33 = some (.bipush 8, 2, [], 0)) rfl,
  fun l0 l1 l2 l3 l4 l5 l6 l7 l8 l9 l10 a0 a1 a2  E u => q_cI (by decide +kernel : am_Pg 187 35 = some (.invokestatic 46, 3, [2, 8, 3, 0], 0)) (am_call_S (f := fun _ _ => true) (a := [vI a0, vI a1, vI a2]) (st' := []) (Nat.le_of_ble_eq_true rfl) rfl rfl) (by decide +kernel : am_Lm m_A_isIn = 3) (Nat.le_of_ble_eq_true rfl) rfl (by decide +kernel),
  fun l0 l1 l2 l3 l4 l5 l6 l7 l8 l9 l10 a st E u => q_if_eq (tgt := 51) (by decide +kernel : am_Pg 187 38 = some (.ifCond .eq 13, 3, [], 0)) (by decide),
  fun l0 l1 l2 l3 l4 l5 l7 l8 l9 l10 a st E u => q_go (by decide +kernel : am_Pg 187 41 = some (.iload 6, 2, [], 0)) rfl,
  fun l0 l1 l2 l3 l4 l5 l6 l7 l8 l9 l10 st E u => q_go (by decide +kernel : am_Pg 187 43 = some (.iconst 0, 1, [], 0)) rfl,
  fun l0 l1 l2 l3 l4 l5 l6 l7 l8 l9 l10 st E u => q_go (by decide +kernel : am_Pg 187 44 = some (.iconst 1, 1, [], 0)) rfl,
  fun l0 l1 l2 l3 l4 l5 l6 l7 l8 l9 l10 a0 a1 a2  E u => q_cI (by decide +kernel : am_Pg 187 45 = some (.invokestatic 46, 3, [2, 8, 3, 0], 0)) (am_call_S (f := fun _ _ => true) (a := [vI a0, vI a1, vI a2]) (st' := []) (Nat.le_of_ble_eq_true rfl) rfl rfl) (by decide +kernel : am_Lm m_A_isIn = 3) (Nat.le_of_ble_eq_true rfl) rfl (by decide +kernel),
  fun l0 l1 l2 l3 l4 l5 l6 l7 l8 l9 l10 a st E u => q_if_ne (tgt := 53) (by decide +kernel : am_Pg 187 48 = some (.ifCond .ne 5, 3, [], 0)) (by decide),
  fun l0 l1 l2 l3 l4 l5 l6 l7 l8 l9 l10 st E u => q_go (by decide +kernel : am_Pg 187 51 = some (.iconst (-1), 1, [], 0)) rfl,
  fun l0 l1 l2 l3 l4 l5 l6 l7 l8 l9 l10 a E u => q_ret (by decide +kernel : am_Pg 187 52 = some (.ireturn, 1, [], 0)) rfl,
  fun l0 l1 l2 l3 l4 l5 l6 l8 l9 l10 a st E u => q_go (by decide +kernel : am_Pg 187 53 = some (.aload 7, 2, [], 0)) rfl,
  fun l0 l1 l2 l4 l5 l6 l7 l8 l9 l10 a st E u => q_go (by decide +kernel : am_Pg 187 55 = some (.iload_n 3, 1, [], 0)) rfl,
  fun l0 l1 l2 l3 l5 l6 l7 l8 l9 l10 a st E u => q_go (by decide +kernel : am_Pg 187 56 = some (.iload 4, 2, [], 0)) rfl,
  fun l0 l1 l2 l3 l4 l6 l7 l8 l9 l10 a st E u => q_go (by decide +kernel : am_Pg 187 58 = some (.iload 5, 2, [], 0)) rfl,
  fun l0 l1 l2 l3 l4 l5 l6 l7 l8 l9 l10 k a0 a1 a2  E u hE hk => q_cI (by decide +kernel : am_Pg 187 60 = some (.invokevirtual 257, 3, [3, 184, 4, 2, 4, 1], 0)) (am_call_V (a := [vI a0, vI a1, vI a2]) (st' := []) (Nat.le_of_ble_eq_true rfl) rfl (SE_k2 hE hk)) (by decide +kernel : am_Lm m_S_refusal = 4) (Nat.le_of_ble_eq_true rfl) rfl (by decide +kernel),
  fun l0 l1 l2 l3 l4 l5 l6 l7 l8 l9 l10 a st E u => q_go (by decide +kernel : am_Pg 187 63 = some (.istore 8, 2, [], 0)) rfl,
  fun l0 l1 l2 l3 l4 l5 l6 l7 l9 l10 a st E u => q_go (by decide +kernel : am_Pg 187 65 = some (.iload 8, 2, [], 0)) rfl,
  fun l0 l1 l2 l3 l4 l5 l6 l7 l8 l9 l10 a st E u => q_if_eq (tgt := 73) (by decide +kernel : am_Pg 187 67 = some (.ifCond .eq 6, 3, [], 0)) (by decide),
  fun l0 l1 l2 l3 l4 l5 l6 l7 l9 l10 a st E u => q_go (by decide +kernel : am_Pg 187 70 = some (.iload 8, 2, [], 0)) rfl,
  fun l0 l1 l2 l3 l4 l5 l6 l7 l8 l9 l10 a E u => q_ret (by decide +kernel : am_Pg 187 72 = some (.ireturn, 1, [], 0)) rfl,
  fun l1 l2 l3 l4 l5 l6 l7 l8 l9 l10 a st E u => q_go (by decide +kernel : am_Pg 187 73 = some (.aload_n 0, 1, [], 0)) rfl,
  fun l0 l1 l2 l3 l4 l5 l6 l7 l8 l9 l10 st E u hE => q_gfR (by decide +kernel : am_Pg 187 74 = some (.getfield 12, 3, [4, 8, 0, 0], 0)) (SE_k4 hE) rfl (SE_r4_0 hE),
  fun l0 l1 l2 l3 l4 l5 l6 l7 l8 l9 l10 st E u hE => q_gfR (by decide +kernel : am_Pg 187 77 = some (.getfield 98, 3, [0, 14, 9, 1], 0)) (SE_k0 hE cuB_1) rfl (SE_r0_9 hE cuB_1),
  fun l0 l1 l2 l3 l4 l5 l6 l7 l8 l9 l10 st E u hE => q_gfR (by decide +kernel : am_Pg 187 77 = some (.getfield 98, 3, [0, 14, 9, 1], 0)) (SE_k0 hE cuB_8) rfl (SE_r0_9 hE cuB_8),
  fun l0 l1 l2 l3 l4 l5 l6 l7 l8 l9 l10 st E u hE => q_gfR (by decide +kernel : am_Pg 187 77 = some (.getfield 98, 3, [0, 14, 9, 1], 0)) (SE_k0 hE cuB_73) rfl (SE_r0_9 hE cuB_73),
  fun l0 l2 l3 l4 l5 l6 l7 l8 l9 l10 a st E u => q_go (by decide +kernel : am_Pg 187 80 = some (.iload_n 1, 1, [], 0)) rfl,
  fun l0 l1 l2 l3 l4 l5 l6 l7 l8 l9 l10 a0 a1  E u => q_cI (by decide +kernel : am_Pg 187 81 = some (.invokestatic 94, 3, [2, 36, 2, 0], 0)) (am_call_S (f := fun _ _ => true) (a := [vR a0, vI a1]) (st' := []) (Nat.le_of_ble_eq_true rfl) rfl rfl) (by decide +kernel : am_Lm m_A_look = 2) (Nat.le_of_ble_eq_true rfl) rfl (by decide +kernel),
  fun l0 l1 l2 l3 l4 l5 l6 l7 l8 l9 l10 st E u => q_go (by decide +kernel : am_Pg 187 84 = some (.bipush (-4), 2, [], 0)) rfl,
  fun l0 l1 l2 l3 l4 l5 l6 l7 l8 l9 l10 a b st E u => q_icmp_ne (tgt := 92) (by decide +kernel : am_Pg 187 86 = some (.if_icmp .ne 6, 3, [], 0)) (by decide),
  fun l0 l1 l2 l3 l4 l5 l6 l7 l8 l9 l10 st E u => q_go (by decide +kernel : am_Pg 187 89 = some (.bipush (-2), 2, [], 0)) rfl,
  fun l0 l1 l2 l3 l4 l5 l6 l7 l8 l9 l10 a E u => q_ret (by decide +kernel : am_Pg 187 91 = some (.ireturn, 1, [], 0)) rfl,
  fun l0 l1 l2 l3 l4 l5 l6 l7 l8 l9 l10 st E u => q_go (by decide +kernel : am_Pg 187 92 = some (.iconst 0, 1, [], 0)) rfl,
  fun l0 l1 l2 l3 l4 l5 l6 l7 l8 l9 l10 a st E u => q_go (by decide +kernel : am_Pg 187 93 = some (.istore 9, 2, [], 0)) rfl,
  fun l0 l1 l2 l3 l4 l5 l6 l7 l8 l9 l10 st E u => q_go (by decide +kernel : am_Pg 187 95 = some (.iconst 0, 1, [], 0)) rfl,
  fun l0 l1 l2 l3 l4 l5 l6 l7 l8 l9 l10 a st E u => q_go (by decide +kernel : am_Pg 187 96 = some (.istore 10, 2, [], 0)) rfl,
  fun l0 l1 l2 l3 l4 l5 l7 l8 l9 l10 a st E u => q_go (by decide +kernel : am_Pg 187 100 = some (.iload 6, 2, [], 0)) rfl,
  fun l0 l1 l2 l3 l4 l5 l6 l7 l8 l9 l10 a st E u => q_if_ne (tgt := 109) (by decide +kernel : am_Pg 187 102 = some (.ifCond .ne 7, 3, [], 0)) (by decide),
  fun l0 l1 l2 l3 l4 l5 l6 l7 l8 l9 l10 st E u => q_go (by decide +kernel : am_Pg 187 105 = some (.iconst 5, 1, [], 0)) rfl,
  fun l0 l1 l2 l3 l4 l5 l6 l7 l8 l9 l10 st E u => q_go (by decide +kernel : am_Pg 187 106 = some (.goto 4, 3, [], 0)) rfl,
  fun l0 l1 l2 l3 l4 l5 l6 l7 l8 l9 l10 st E u => q_go (by decide +kernel : am_Pg 187 109 = some (.iconst 4, 1, [], 0)) rfl,
  fun l0 l1 l2 l3 l4 l5 l6 l7 l8 l9 l10 a b st E u => q_icmp_ge (tgt := 181) (by decide +kernel : am_Pg 187 110 = some (.if_icmp .ge 71, 3, [], 0)) (by decide),
  fun l1 l2 l3 l4 l5 l6 l7 l8 l9 l10 a st E u => q_go (by decide +kernel : am_Pg 187 113 = some (.aload_n 0, 1, [], 0)) rfl,
  fun l0 l1 l2 l3 l4 l5 l6 l7 l8 l9 l10 st E u hE => q_gfR (by decide +kernel : am_Pg 187 114 = some (.getfield 16, 3, [4, 8, 1, 0], 0)) (SE_k4 hE) rfl (SE_r4_1 hE),
  fun l1 l2 l3 l4 l5 l6 l7 l8 l9 l10 a st E u => q_go (by decide +kernel : am_Pg 187 117 = some (.aload_n 0, 1, [], 0)) rfl,
  fun l0 l1 l2 l3 l4 l5 l6 l7 l8 l9 l10 st E u hE => q_gfR (by decide +kernel : am_Pg 187 118 = some (.getfield 12, 3, [4, 8, 0, 0], 0)) (SE_k4 hE) rfl (SE_r4_0 hE),
  fun l0 l1 l2 l3 l4 l5 l6 l7 l8 l9 l10 a0  E u hE => q_cV (by decide +kernel : am_Pg 187 121 = some (.invokevirtual 141, 3, [3, 78, 2, 0, 14, 1], 0)) (am_call_V (a := [vR a0]) (st' := []) (Nat.le_of_ble_eq_true rfl) rfl (SE_k0 hE cuB_1)) (by decide +kernel : am_Lm m_C_becomes = 2) (Nat.le_of_ble_eq_true rfl) rfl (by decide +kernel),
  fun l0 l1 l2 l3 l4 l5 l6 l7 l8 l9 l10 a0  E u hE => q_cV (by decide +kernel : am_Pg 187 121 = some (.invokevirtual 141, 3, [3, 78, 2, 0, 14, 1], 0)) (am_call_V (a := [vR a0]) (st' := []) (Nat.le_of_ble_eq_true rfl) rfl (SE_k0 hE cuB_8)) (by decide +kernel : am_Lm m_C_becomes = 2) (Nat.le_of_ble_eq_true rfl) rfl (by decide +kernel),
  fun l0 l1 l2 l3 l4 l5 l6 l7 l8 l9 l10 a0  E u hE => q_cV (by decide +kernel : am_Pg 187 121 = some (.invokevirtual 141, 3, [3, 78, 2, 0, 14, 1], 0)) (am_call_V (a := [vR a0]) (st' := []) (Nat.le_of_ble_eq_true rfl) rfl (SE_k0 hE cuB_73)) (by decide +kernel : am_Lm m_C_becomes = 2) (Nat.le_of_ble_eq_true rfl) rfl (by decide +kernel),
  fun l0 l1 l2 l3 l4 l5 l7 l8 l9 l10 a st E u => q_go (by decide +kernel : am_Pg 187 124 = some (.iload 6, 2, [], 0)) rfl,
  fun l0 l1 l2 l3 l4 l5 l6 l7 l8 l9 l10 a st E u => q_if_ne (tgt := 139) (by decide +kernel : am_Pg 187 126 = some (.ifCond .ne 13, 3, [], 0)) (by decide),
  fun l1 l2 l3 l4 l5 l6 l7 l8 l9 l10 a st E u => q_go (by decide +kernel : am_Pg 187 129 = some (.aload_n 0, 1, [], 0)) rfl,
  fun l0 l1 l2 l3 l4 l5 l6 l7 l8 l9 l10 st E u hE => q_gfR (by decide +kernel : am_Pg 187 130 = some (.getfield 16, 3, [4, 8, 1, 0], 0)) (SE_k4 hE) rfl (SE_r4_1 hE),
  fun l0 l1 l2 l3 l4 l5 l6 l7 l8 l9 l10 st E u hE => q_gfR (by decide +kernel : am_Pg 187 133 = some (.getfield 90, 3, [0, 14, 8, 1], 0)) (SE_k0 hE cuB_1) rfl (SE_r0_8 hE cuB_1),
  fun l0 l1 l2 l3 l4 l5 l6 l7 l8 l9 l10 st E u hE => q_gfR (by decide +kernel : am_Pg 187 133 = some (.getfield 90, 3, [0, 14, 8, 1], 0)) (SE_k0 hE cuB_8) rfl (SE_r0_8 hE cuB_8),
  fun l0 l1 l2 l3 l4 l5 l6 l7 l8 l9 l10 st E u hE => q_gfR (by decide +kernel : am_Pg 187 133 = some (.getfield 90, 3, [0, 14, 8, 1], 0)) (SE_k0 hE cuB_73) rfl (SE_r0_8 hE cuB_73),
  fun l0 l1 l2 l3 l4 l5 l6 l7 l8 l9 l10 st E u => q_go (by decide +kernel : am_Pg 187 136 = some (.goto 10, 3, [], 0)) rfl,
  fun l1 l2 l3 l4 l5 l6 l7 l8 l9 l10 a st E u => q_go (by decide +kernel : am_Pg 187 139 = some (.aload_n 0, 1, [], 0)) rfl,
  fun l0 l1 l2 l3 l4 l5 l6 l7 l8 l9 l10 st E u hE => q_gfR (by decide +kernel : am_Pg 187 140 = some (.getfield 16, 3, [4, 8, 1, 0], 0)) (SE_k4 hE) rfl (SE_r4_1 hE),
  fun l0 l1 l2 l3 l4 l5 l6 l7 l8 l9 l10 st E u hE => q_gfR (by decide +kernel : am_Pg 187 143 = some (.getfield 101, 3, [0, 14, 10, 1], 0)) (SE_k0 hE cuB_1) rfl (SE_r0_10 hE cuB_1),
  fun l0 l1 l2 l3 l4 l5 l6 l7 l8 l9 l10 st E u hE => q_gfR (by decide +kernel : am_Pg 187 143 = some (.getfield 101, 3, [0, 14, 10, 1], 0)) (SE_k0 hE cuB_8) rfl (SE_r0_10 hE cuB_8),
  fun l0 l1 l2 l3 l4 l5 l6 l7 l8 l9 l10 st E u hE => q_gfR (by decide +kernel : am_Pg 187 143 = some (.getfield 101, 3, [0, 14, 10, 1], 0)) (SE_k0 hE cuB_73) rfl (SE_r0_10 hE cuB_73),
  fun l0 l2 l3 l4 l5 l6 l7 l8 l9 l10 a st E u => q_go (by decide +kernel : am_Pg 187 146 = some (.iload_n 1, 1, [], 0)) rfl,
  fun l0 l1 l2 l3 l4 l5 l6 l7 l8 l9 a st E u => q_go (by decide +kernel : am_Pg 187 147 = some (.iload 10, 2, [], 0)) rfl,
  fun l0 l1 l2 l3 l4 l5 l6 l7 l8 l9 l10 a0 a1 a2  E u => q_cV (by decide +kernel : am_Pg 187 149 = some (.invokestatic 173, 3, [2, 19, 3, 0], 0)) (am_call_S (f := fun _ _ => true) (a := [vR a0, vI a1, vI a2]) (st' := []) (Nat.le_of_ble_eq_true rfl) rfl rfl) (by decide +kernel : am_Lm m_A_lay = 3) (Nat.le_of_ble_eq_true rfl) rfl (by decide +kernel),
  fun l1 l2 l3 l4 l5 l6 l7 l8 l9 l10 a st E u => q_go (by decide +kernel : am_Pg 187 152 = some (.aload_n 0, 1, [], 0)) rfl,
  fun l0 l2 l3 l4 l5 l6 l7 l8 l9 l10 a st E u => q_go (by decide +kernel : am_Pg 187 153 = some (.iload_n 1, 1, [], 0)) rfl,
  fun l0 l1 l2 l3 l4 l5 l6 l8 l9 l10 a st E u => q_go (by decide +kernel : am_Pg 187 154 = some (.aload 7, 2, [], 0)) rfl,
  fun l0 l1 l2 l3 l5 l6 l7 l8 l9 l10 a st E u => q_go (by decide +kernel : am_Pg 187 156 = some (.iload 4, 2, [], 0)) rfl,
  fun l0 l1 l2 l3 l4 l6 l7 l8 l9 l10 a st E u => q_go (by decide +kernel : am_Pg 187 158 = some (.iload 5, 2, [], 0)) rfl,
  fun l0 l1 l2 l3 l4 l5 l6 l7 l8 l9 l10 a0 a1 a2 a3  E u hE => q_cI (by decide +kernel : am_Pg 187 160 = some (.invokevirtual 260, 3, [3, 186, 5, 4, 8, 0], 0)) (am_call_V (a := [vI a0, vR a1, vI a2, vI a3]) (st' := []) (Nat.le_of_ble_eq_true rfl) rfl (SE_k4 hE)) (by decide +kernel : am_Lm m_A_isFelt = 6) (Nat.le_of_ble_eq_true rfl) rfl (by decide +kernel),
  fun l0 l1 l2 l3 l4 l5 l6 l7 l8 l9 l10 a st E u => q_if_eq (tgt := 175) (by decide +kernel : am_Pg 187 163 = some (.ifCond .eq 12, 3, [], 0)) (by decide),
  fun l0 l1 l2 l3 l4 l5 l6 l7 l8 l10 a st E u => q_go (by decide +kernel : am_Pg 187 166 = some (.iload 9, 2, [], 0)) rfl,
  fun l0 l1 l2 l3 l4 l5 l6 l7 l8 l9 l10 st E u => q_go (by decide +kernel : am_Pg 187 168 = some (.iconst 1, 1, [], 0)) rfl,
  fun l0 l1 l2 l3 l4 l5 l6 l7 l8 l9 a st E u => q_go (by decide +kernel : am_Pg 187 169 = some (.iload 10, 2, [], 0)) rfl,
  fun l0 l1 l2 l3 l4 l5 l6 l7 l8 l9 l10 a b st E u => q_go (by decide +kernel : am_Pg 187 171 = some (.ishl, 1, [], 0)) rfl,
  fun l0 l1 l2 l3 l4 l5 l6 l7 l8 l9 l10 a b st E u => q_go (by decide +kernel : am_Pg 187 172 = some (.ior, 1, [], 0)) rfl,
  fun l0 l1 l2 l3 l4 l5 l6 l7 l8 l9 l10 a st E u => q_go (by decide +kernel : am_Pg 187 173 = some (.istore 9, 2, [], 0)) rfl,
  fun l0 l1 l2 l3 l4 l5 l6 l7 l8 l9 a st E u => q_go (by decide +kernel : am_Pg 187 175 = some (.iinc 10 1, 3, [], 0)) rfl,
  fun l0 l1 l2 l3 l4 l5 l6 l7 l8 l9 l10 st E u => q_go (by decide +kernel : am_Pg 187 178 = some (.goto (-80), 3, [], 0)) rfl,
  fun l0 l1 l2 l3 l4 l5 l6 l7 l8 l10 a st E u => q_go (by decide +kernel : am_Pg 187 181 = some (.iload 9, 2, [], 0)) rfl,
  fun l0 l1 l2 l3 l4 l5 l6 l7 l8 l9 l10 a E u => q_ret (by decide +kernel : am_Pg 187 183 = some (.ireturn, 1, [], 0)) rfl⟩
theorem h_A_film_77 : ∀ (l0 l1 l2 l3 l4 l5 l6 l7 : am_V) (a : Int) (st : List am_V) (E : am_E) (u : am_M), Rn m_A_film 77 [l0, l1, l2, l3, l4, l5, l6, l7, vI a] st E u = Rn m_A_film 79 [l0, l1, l2, l3, l4, l5, l6, l7, vI a] (vI a :: st) E u :=
  fun l0 l1 l2 l3 l4 l5 l6 l7 a st E u => q_go (by decide +kernel : am_Pg 195 77 = some (.iload 8, 2, [], 0)) rfl
theorem x_A_film :
  (∀ (l1 l2 l3 l4 l5 l6 l7 l8 : am_V) (a : Option Nat) (st : List am_V) (E : am_E) (u : am_M), Rn m_A_film 0 [vR a, l1, l2, l3, l4, l5, l6, l7, l8] st E u = Rn m_A_film 1 [vR a, l1, l2, l3, l4, l5, l6, l7, l8] (vR a :: st) E u) ∧
  (∀ (l0 l1 l2 l4 l5 l6 l7 l8 : am_V) (a : Int) (st : List am_V) (E : am_E) (u : am_M), Rn m_A_film 1 [l0, l1, l2, vI a, l4, l5, l6, l7, l8] st E u = Rn m_A_film 2 [l0, l1, l2, vI a, l4, l5, l6, l7, l8] (vI a :: st) E u) ∧
  (∀ (l0 l1 l2 l3 l4 l5 l6 l7 l8 : am_V) (a0 : Int) (E : am_E) (u : am_M) (hE : SE E), Rn m_A_film 2 [l0, l1, l2, l3, l4, l5, l6, l7, l8] [vI a0, vR (some 0)] E u = bdR (Rn m_A_sheetOf 0 [vR (some 0), vI a0] [] E u) (KR m_A_film 5 [l0, l1, l2, l3, l4, l5, l6, l7, l8] [])) ∧
  (∀ (l0 l1 l2 l3 l4 l5 l6 l7 l8 : am_V) (a : Option Nat) (st : List am_V) (E : am_E) (u : am_M), Rn m_A_film 5 [l0, l1, l2, l3, l4, l5, l6, l7, l8] (vR a :: st) E u = Rn m_A_film 7 [l0, l1, l2, l3, l4, am_fx l5, vR a, l7, l8] st E u) ∧
  (∀ (l0 l1 l2 l3 l4 l5 l7 l8 : am_V) (a : Option Nat) (st : List am_V) (E : am_E) (u : am_M), Rn m_A_film 7 [l0, l1, l2, l3, l4, l5, vR a, l7, l8] st E u = Rn m_A_film 9 [l0, l1, l2, l3, l4, l5, vR a, l7, l8] (vR a :: st) E u) ∧
  (∀ (l0 l1 l2 l3 l4 l5 l6 l7 l8 : am_V) (st : List am_V) (E : am_E) (u : am_M), Rn m_A_film 9 [l0, l1, l2, l3, l4, l5, l6, l7, l8] (vR none :: st) E u = Rn m_A_film 41 [l0, l1, l2, l3, l4, l5, l6, l7, l8] st E u) ∧
  (∀ (l0 l1 l2 l3 l4 l5 l6 l7 l8 : am_V) (a : Nat) (st : List am_V) (E : am_E) (u : am_M), Rn m_A_film 9 [l0, l1, l2, l3, l4, l5, l6, l7, l8] (vR (some a) :: st) E u = Rn m_A_film 12 [l0, l1, l2, l3, l4, l5, l6, l7, l8] st E u) ∧
  (∀ (l1 l2 l3 l4 l5 l6 l7 l8 : am_V) (a : Option Nat) (st : List am_V) (E : am_E) (u : am_M), Rn m_A_film 12 [vR a, l1, l2, l3, l4, l5, l6, l7, l8] st E u = Rn m_A_film 13 [vR a, l1, l2, l3, l4, l5, l6, l7, l8] (vR a :: st) E u) ∧
  (∀ (l0 l1 l2 l3 l4 l5 l6 l7 l8 : am_V) (st : List am_V) (E : am_E) (u : am_M) (hE : SE E), Rn m_A_film 13 [l0, l1, l2, l3, l4, l5, l6, l7, l8] (vR (some 0) :: st) E u = Rn m_A_film 16 [l0, l1, l2, l3, l4, l5, l6, l7, l8] (vR (some 1) :: st) E u) ∧
  (∀ (l0 l2 l3 l4 l5 l6 l7 l8 : am_V) (a : Int) (st : List am_V) (E : am_E) (u : am_M), Rn m_A_film 16 [l0, vI a, l2, l3, l4, l5, l6, l7, l8] st E u = Rn m_A_film 17 [l0, vI a, l2, l3, l4, l5, l6, l7, l8] (vI a :: st) E u) ∧
  (∀ (l0 l1 l2 l3 l4 l5 l6 l7 l8 : am_V) (a0 : Int) (E : am_E) (u : am_M) (hE : SE E), Rn m_A_film 17 [l0, l1, l2, l3, l4, l5, l6, l7, l8] [vI a0, vR (some 1)] E u = bdI (Rn m_C_isPin 0 [vR (some 1), vI a0] [] E u) (KI m_A_film 20 [l0, l1, l2, l3, l4, l5, l6, l7, l8] [])) ∧
  (∀ (l0 l1 l2 l3 l4 l5 l6 l7 l8 : am_V) (a0 : Int) (E : am_E) (u : am_M) (hE : SE E), Rn m_A_film 17 [l0, l1, l2, l3, l4, l5, l6, l7, l8] [vI a0, vR (some 8)] E u = bdI (Rn m_C_isPin 0 [vR (some 8), vI a0] [] E u) (KI m_A_film 20 [l0, l1, l2, l3, l4, l5, l6, l7, l8] [])) ∧
  (∀ (l0 l1 l2 l3 l4 l5 l6 l7 l8 : am_V) (a0 : Int) (E : am_E) (u : am_M) (hE : SE E), Rn m_A_film 17 [l0, l1, l2, l3, l4, l5, l6, l7, l8] [vI a0, vR (some 73)] E u = bdI (Rn m_C_isPin 0 [vR (some 73), vI a0] [] E u) (KI m_A_film 20 [l0, l1, l2, l3, l4, l5, l6, l7, l8] [])) ∧
  (∀ (l0 l1 l2 l3 l4 l5 l6 l7 l8 : am_V) (a : Int) (st : List am_V) (E : am_E) (u : am_M), Rn m_A_film 20 [l0, l1, l2, l3, l4, l5, l6, l7, l8] (vI a :: st) E u = if a = 0 then Rn m_A_film 41 [l0, l1, l2, l3, l4, l5, l6, l7, l8] st E u else Rn m_A_film 23 [l0, l1, l2, l3, l4, l5, l6, l7, l8] st E u) ∧
  (∀ (l0 l1 l3 l4 l5 l6 l7 l8 : am_V) (a : Int) (st : List am_V) (E : am_E) (u : am_M), Rn m_A_film 23 [l0, l1, vI a, l3, l4, l5, l6, l7, l8] st E u = Rn m_A_film 24 [l0, l1, vI a, l3, l4, l5, l6, l7, l8] (vI a :: st) E u) ∧
  (∀ (l0 l1 l2 l3 l4 l5 l6 l7 l8 : am_V) (st : List am_V) (E : am_E) (u : am_M), Rn m_A_film 24 [l0, l1, l2, l3, l4, l5, l6, l7, l8] st E u = Rn m_A_film 25 [l0, l1, l2, l3, l4, l5, l6, l7, l8] (vI 1 :: st) E u) ∧
  (∀ (l0 l1 l2 l3 l4 l5 l6 l7 l8 : am_V) (st : List am_V) (E : am_E) (u : am_M), Rn m_A_film 25 [l0, l1, l2, l3, l4, l5, l6, l7, l8] st E u = Rn m_A_film 27 [l0, l1, l2, l3, l4, l5, l6, l7, l8] (vI 24 :: st) E u) ∧
  (∀ (l0 l1 l2 l3 l4 l5 l6 l7 l8 : am_V) (a0 : Int) (a1 : Int) (a2 : Int) (E : am_E) (u : am_M), Rn m_A_film 27 [l0, l1, l2, l3, l4, l5, l6, l7, l8] [vI a2, vI a1, vI a0] E u = bdI (Rn m_A_isIn 0 [vI a0, vI a1, vI a2] [] E u) (KI m_A_film 30 [l0, l1, l2, l3, l4, l5, l6, l7, l8] [])) ∧
  (∀ (l0 l1 l2 l3 l4 l5 l6 l7 l8 : am_V) (a : Int) (st : List am_V) (E : am_E) (u : am_M), Rn m_A_film 30 [l0, l1, l2, l3, l4, l5, l6, l7, l8] (vI a :: st) E u = if a = 0 then Rn m_A_film 41 [l0, l1, l2, l3, l4, l5, l6, l7, l8] st E u else Rn m_A_film 33 [l0, l1, l2, l3, l4, l5, l6, l7, l8] st E u) ∧
  (∀ (l0 l1 l2 l3 l5 l6 l7 l8 : am_V) (a : Int) (st : List am_V) (E : am_E) (u : am_M), Rn m_A_film 33 [l0, l1, l2, l3, vI a, l5, l6, l7, l8] st E u = Rn m_A_film 35 [l0, l1, l2, l3, vI a, l5, l6, l7, l8] (vI a :: st) E u) ∧
  (∀ (l0 l1 l2 l3 l4 l5 l6 l7 l8 : am_V) (a0 : Int) (E : am_E) (u : am_M), Rn m_A_film 35 [l0, l1, l2, l3, l4, l5, l6, l7, l8] [vI a0] E u = bdI (Rn m_A_isLane 0 [vI a0] [] E u) (KI m_A_film 38 [l0, l1, l2, l3, l4, l5, l6, l7, l8] [])) ∧
  (∀ (l0 l1 l2 l3 l4 l5 l6 l7 l8 : am_V) (a : Int) (st : List am_V) (E : am_E) (u : am_M), Rn m_A_film 38 [l0, l1, l2, l3, l4, l5, l6, l7, l8] (vI a :: st) E u = if a = 0 then Rn m_A_film 41 [l0, l1, l2, l3, l4, l5, l6, l7, l8] st E u else Rn m_A_film 43 [l0, l1, l2, l3, l4, l5, l6, l7, l8] st E u) ∧
  (∀ (l0 l1 l2 l3 l4 l5 l6 l7 l8 : am_V) (st : List am_V) (E : am_E) (u : am_M), Rn m_A_film 41 [l0, l1, l2, l3, l4, l5, l6, l7, l8] st E u = Rn m_A_film 42 [l0, l1, l2, l3, l4, l5, l6, l7, l8] (vI (-1) :: st) E u) ∧
  (∀ (l0 l1 l2 l3 l4 l5 l6 l7 l8 : am_V) (a : Int) (E : am_E) (u : am_M), Rn m_A_film 42 [l0, l1, l2, l3, l4, l5, l6, l7, l8] [vI a] E u = some (some (vI a), E, u)) ∧
  (∀ (l0 l1 l2 l3 l4 l5 l7 l8 : am_V) (a : Option Nat) (st : List am_V) (E : am_E) (u : am_M), Rn m_A_film 43 [l0, l1, l2, l3, l4, l5, vR a, l7, l8] st E u = Rn m_A_film 45 [l0, l1, l2, l3, l4, l5, vR a, l7, l8] (vR a :: st) E u) ∧
  (∀ (l0 l1 l2 l3 l5 l6 l7 l8 : am_V) (a : Int) (st : List am_V) (E : am_E) (u : am_M), Rn m_A_film 45 [l0, l1, l2, l3, vI a, l5, l6, l7, l8] st E u = Rn m_A_film 47 [l0, l1, l2, l3, vI a, l5, l6, l7, l8] (vI a :: st) E u) ∧
  (∀ (l0 l1 l2 l3 l4 l6 l7 l8 : am_V) (a : Int) (st : List am_V) (E : am_E) (u : am_M), Rn m_A_film 47 [l0, l1, l2, l3, l4, vI a, l6, l7, l8] st E u = Rn m_A_film 49 [l0, l1, l2, l3, l4, vI a, l6, l7, l8] (vI a :: st) E u) ∧
  (∀ (l0 l1 l3 l4 l5 l6 l7 l8 : am_V) (a : Int) (st : List am_V) (E : am_E) (u : am_M), Rn m_A_film 49 [l0, l1, vI a, l3, l4, l5, l6, l7, l8] st E u = Rn m_A_film 50 [l0, l1, vI a, l3, l4, l5, l6, l7, l8] (vI a :: st) E u) ∧
  (∀ (l0 l1 l2 l3 l4 l5 l6 l7 l8 : am_V) (k : Nat) (a0 : Int) (a1 : Int) (a2 : Int) (E : am_E) (u : am_M) (hE : SE E) (hk : shB k), Rn m_A_film 50 [l0, l1, l2, l3, l4, l5, l6, l7, l8] [vI a2, vI a1, vI a0, vR (some k)] E u = bdI (Rn m_S_refusal 0 [vR (some k), vI a0, vI a1, vI a2] [] E u) (KI m_A_film 53 [l0, l1, l2, l3, l4, l5, l6, l7, l8] [])) ∧
  (∀ (l0 l1 l2 l3 l4 l5 l6 l7 l8 : am_V) (a : Int) (st : List am_V) (E : am_E) (u : am_M), Rn m_A_film 53 [l0, l1, l2, l3, l4, l5, l6, l7, l8] (vI a :: st) E u = Rn m_A_film 55 [l0, l1, l2, l3, l4, l5, am_fx l6, vI a, l8] st E u) ∧
  (∀ (l0 l1 l2 l3 l4 l5 l6 l8 : am_V) (a : Int) (st : List am_V) (E : am_E) (u : am_M), Rn m_A_film 55 [l0, l1, l2, l3, l4, l5, l6, vI a, l8] st E u = Rn m_A_film 57 [l0, l1, l2, l3, l4, l5, l6, vI a, l8] (vI a :: st) E u) ∧
  (∀ (l0 l1 l2 l3 l4 l5 l6 l7 l8 : am_V) (a : Int) (st : List am_V) (E : am_E) (u : am_M), Rn m_A_film 57 [l0, l1, l2, l3, l4, l5, l6, l7, l8] (vI a :: st) E u = if a = 0 then Rn m_A_film 63 [l0, l1, l2, l3, l4, l5, l6, l7, l8] st E u else Rn m_A_film 60 [l0, l1, l2, l3, l4, l5, l6, l7, l8] st E u) ∧
  (∀ (l0 l1 l2 l3 l4 l5 l6 l8 : am_V) (a : Int) (st : List am_V) (E : am_E) (u : am_M), Rn m_A_film 60 [l0, l1, l2, l3, l4, l5, l6, vI a, l8] st E u = Rn m_A_film 62 [l0, l1, l2, l3, l4, l5, l6, vI a, l8] (vI a :: st) E u) ∧
  (∀ (l0 l1 l2 l3 l4 l5 l6 l7 l8 : am_V) (a : Int) (E : am_E) (u : am_M), Rn m_A_film 62 [l0, l1, l2, l3, l4, l5, l6, l7, l8] [vI a] E u = some (some (vI a), E, u)) ∧
  (∀ (l1 l2 l3 l4 l5 l6 l7 l8 : am_V) (a : Option Nat) (st : List am_V) (E : am_E) (u : am_M), Rn m_A_film 63 [vR a, l1, l2, l3, l4, l5, l6, l7, l8] st E u = Rn m_A_film 64 [vR a, l1, l2, l3, l4, l5, l6, l7, l8] (vR a :: st) E u) ∧
  (∀ (l0 l1 l2 l3 l4 l5 l6 l7 l8 : am_V) (st : List am_V) (E : am_E) (u : am_M) (hE : SE E), Rn m_A_film 64 [l0, l1, l2, l3, l4, l5, l6, l7, l8] (vR (some 0) :: st) E u = Rn m_A_film 67 [l0, l1, l2, l3, l4, l5, l6, l7, l8] (vR (some 8) :: st) E u) ∧
  (∀ (l1 l2 l3 l4 l5 l6 l7 l8 : am_V) (a : Option Nat) (st : List am_V) (E : am_E) (u : am_M), Rn m_A_film 67 [vR a, l1, l2, l3, l4, l5, l6, l7, l8] st E u = Rn m_A_film 68 [vR a, l1, l2, l3, l4, l5, l6, l7, l8] (vR a :: st) E u) ∧
  (∀ (l0 l1 l2 l3 l4 l5 l6 l7 l8 : am_V) (st : List am_V) (E : am_E) (u : am_M) (hE : SE E), Rn m_A_film 68 [l0, l1, l2, l3, l4, l5, l6, l7, l8] (vR (some 0) :: st) E u = Rn m_A_film 71 [l0, l1, l2, l3, l4, l5, l6, l7, l8] (vR (some 1) :: st) E u) ∧
  (∀ (l0 l1 l2 l3 l4 l5 l6 l7 l8 : am_V) (a0 : Option Nat) (E : am_E) (u : am_M) (hE : SE E), Rn m_A_film 71 [l0, l1, l2, l3, l4, l5, l6, l7, l8] [vR a0, vR (some 1)] E u = bdV (Rn m_C_becomes 0 [vR (some 1), vR a0] [] E u) (KV m_A_film 74 [l0, l1, l2, l3, l4, l5, l6, l7, l8] [])) ∧
  (∀ (l0 l1 l2 l3 l4 l5 l6 l7 l8 : am_V) (a0 : Option Nat) (E : am_E) (u : am_M) (hE : SE E), Rn m_A_film 71 [l0, l1, l2, l3, l4, l5, l6, l7, l8] [vR a0, vR (some 8)] E u = bdV (Rn m_C_becomes 0 [vR (some 8), vR a0] [] E u) (KV m_A_film 74 [l0, l1, l2, l3, l4, l5, l6, l7, l8] [])) ∧
  (∀ (l0 l1 l2 l3 l4 l5 l6 l7 l8 : am_V) (a0 : Option Nat) (E : am_E) (u : am_M) (hE : SE E), Rn m_A_film 71 [l0, l1, l2, l3, l4, l5, l6, l7, l8] [vR a0, vR (some 73)] E u = bdV (Rn m_C_becomes 0 [vR (some 73), vR a0] [] E u) (KV m_A_film 74 [l0, l1, l2, l3, l4, l5, l6, l7, l8] [])) ∧
  (∀ (l0 l1 l2 l3 l4 l5 l6 l7 l8 : am_V) (st : List am_V) (E : am_E) (u : am_M), Rn m_A_film 74 [l0, l1, l2, l3, l4, l5, l6, l7, l8] st E u = Rn m_A_film 75 [l0, l1, l2, l3, l4, l5, l6, l7, l8] (vI 0 :: st) E u) ∧
  (∀ (l0 l1 l2 l3 l4 l5 l6 l7 l8 : am_V) (a : Int) (st : List am_V) (E : am_E) (u : am_M), Rn m_A_film 75 [l0, l1, l2, l3, l4, l5, l6, l7, l8] (vI a :: st) E u = Rn m_A_film 77 [l0, l1, l2, l3, l4, l5, l6, am_fx l7, vI a] st E u) ∧
  (∀ (l0 l1 l3 l4 l5 l6 l7 l8 : am_V) (a : Int) (st : List am_V) (E : am_E) (u : am_M), Rn m_A_film 79 [l0, l1, vI a, l3, l4, l5, l6, l7, l8] st E u = Rn m_A_film 80 [l0, l1, vI a, l3, l4, l5, l6, l7, l8] (vI a :: st) E u) ∧
  (∀ (l0 l1 l2 l3 l4 l5 l6 l7 l8 : am_V) (a b : Int) (st : List am_V) (E : am_E) (u : am_M), Rn m_A_film 80 [l0, l1, l2, l3, l4, l5, l6, l7, l8] (vI b :: vI a :: st) E u = if a < b then Rn m_A_film 83 [l0, l1, l2, l3, l4, l5, l6, l7, l8] st E u else Rn m_A_film 118 [l0, l1, l2, l3, l4, l5, l6, l7, l8] st E u) ∧
  (∀ (l1 l2 l3 l4 l5 l6 l7 l8 : am_V) (a : Option Nat) (st : List am_V) (E : am_E) (u : am_M), Rn m_A_film 83 [vR a, l1, l2, l3, l4, l5, l6, l7, l8] st E u = Rn m_A_film 84 [vR a, l1, l2, l3, l4, l5, l6, l7, l8] (vR a :: st) E u) ∧
  (∀ (l0 l1 l2 l3 l4 l5 l6 l7 l8 : am_V) (st : List am_V) (E : am_E) (u : am_M) (hE : SE E), Rn m_A_film 84 [l0, l1, l2, l3, l4, l5, l6, l7, l8] (vR (some 0) :: st) E u = Rn m_A_film 87 [l0, l1, l2, l3, l4, l5, l6, l7, l8] (vR (some 8) :: st) E u) ∧
  (∀ (l0 l1 l2 l3 l4 l5 l6 l7 l8 : am_V) (E : am_E) (u : am_M) (hE : SE E), Rn m_A_film 87 [l0, l1, l2, l3, l4, l5, l6, l7, l8] [vR (some 1)] E u = bdV (Rn m_C_goesOn 0 [vR (some 1), vB false] [] E u) (KV m_A_film 90 [l0, l1, l2, l3, l4, l5, l6, l7, l8] [])) ∧
  (∀ (l0 l1 l2 l3 l4 l5 l6 l7 l8 : am_V) (E : am_E) (u : am_M) (hE : SE E), Rn m_A_film 87 [l0, l1, l2, l3, l4, l5, l6, l7, l8] [vR (some 8)] E u = bdV (Rn m_C_goesOn 0 [vR (some 8), vB false] [] E u) (KV m_A_film 90 [l0, l1, l2, l3, l4, l5, l6, l7, l8] [])) ∧
  (∀ (l0 l1 l2 l3 l4 l5 l6 l7 l8 : am_V) (E : am_E) (u : am_M) (hE : SE E), Rn m_A_film 87 [l0, l1, l2, l3, l4, l5, l6, l7, l8] [vR (some 73)] E u = bdV (Rn m_C_goesOn 0 [vR (some 73), vB false] [] E u) (KV m_A_film 90 [l0, l1, l2, l3, l4, l5, l6, l7, l8] [])) ∧
  (∀ (l0 l1 l2 l3 l4 l5 l7 l8 : am_V) (a : Option Nat) (st : List am_V) (E : am_E) (u : am_M), Rn m_A_film 90 [l0, l1, l2, l3, l4, l5, vR a, l7, l8] st E u = Rn m_A_film 92 [l0, l1, l2, l3, l4, l5, vR a, l7, l8] (vR a :: st) E u) ∧
  (∀ (l0 l1 l2 l3 l4 l6 l7 l8 : am_V) (a : Int) (st : List am_V) (E : am_E) (u : am_M), Rn m_A_film 92 [l0, l1, l2, l3, l4, vI a, l6, l7, l8] st E u = Rn m_A_film 94 [l0, l1, l2, l3, l4, vI a, l6, l7, l8] (vI a :: st) E u) ∧
  (∀ (l0 l1 l2 l3 l4 l5 l6 l7 : am_V) (a : Int) (st : List am_V) (E : am_E) (u : am_M), Rn m_A_film 94 [l0, l1, l2, l3, l4, l5, l6, l7, vI a] st E u = Rn m_A_film 96 [l0, l1, l2, l3, l4, l5, l6, l7, vI a] (vI a :: st) E u) ∧
  (∀ (l0 l1 l2 l3 l4 l5 l6 l7 l8 : am_V) (a b : Int) (st : List am_V) (E : am_E) (u : am_M), Rn m_A_film 96 [l0, l1, l2, l3, l4, l5, l6, l7, l8] (vI b :: vI a :: st) E u = Rn m_A_film 97 [l0, l1, l2, l3, l4, l5, l6, l7, l8] (vI (w32 (a + b)) :: st) E u) ∧
  (∀ (l1 l2 l3 l4 l5 l6 l7 l8 : am_V) (a : Option Nat) (st : List am_V) (E : am_E) (u : am_M), Rn m_A_film 97 [vR a, l1, l2, l3, l4, l5, l6, l7, l8] st E u = Rn m_A_film 98 [vR a, l1, l2, l3, l4, l5, l6, l7, l8] (vR a :: st) E u) ∧
  (∀ (l0 l1 l2 l3 l4 l5 l6 l7 l8 : am_V) (st : List am_V) (E : am_E) (u : am_M) (hE : SE E), Rn m_A_film 98 [l0, l1, l2, l3, l4, l5, l6, l7, l8] (vR (some 0) :: st) E u = Rn m_A_film 101 [l0, l1, l2, l3, l4, l5, l6, l7, l8] (vR (some 8) :: st) E u) ∧
  (∀ (l0 l1 l2 l3 l4 l5 l6 l7 l8 : am_V) (st : List am_V) (E : am_E) (u : am_M) (hE : SE E), Rn m_A_film 101 [l0, l1, l2, l3, l4, l5, l6, l7, l8] (vR (some 1) :: st) E u = Rn m_A_film 104 [l0, l1, l2, l3, l4, l5, l6, l7, l8] (vR (some 3) :: st) E u) ∧
  (∀ (l0 l1 l2 l3 l4 l5 l6 l7 l8 : am_V) (st : List am_V) (E : am_E) (u : am_M) (hE : SE E), Rn m_A_film 101 [l0, l1, l2, l3, l4, l5, l6, l7, l8] (vR (some 8) :: st) E u = Rn m_A_film 104 [l0, l1, l2, l3, l4, l5, l6, l7, l8] (vR (some 10) :: st) E u) ∧
  (∀ (l0 l1 l2 l3 l4 l5 l6 l7 l8 : am_V) (st : List am_V) (E : am_E) (u : am_M) (hE : SE E), Rn m_A_film 101 [l0, l1, l2, l3, l4, l5, l6, l7, l8] (vR (some 73) :: st) E u = Rn m_A_film 104 [l0, l1, l2, l3, l4, l5, l6, l7, l8] (vR (some 75) :: st) E u) ∧
  (∀ (l0 l2 l3 l4 l5 l6 l7 l8 : am_V) (a : Int) (st : List am_V) (E : am_E) (u : am_M), Rn m_A_film 104 [l0, vI a, l2, l3, l4, l5, l6, l7, l8] st E u = Rn m_A_film 105 [l0, vI a, l2, l3, l4, l5, l6, l7, l8] (vI a :: st) E u) ∧
  (∀ (l0 l1 l2 l3 l4 l5 l6 l7 l8 : am_V) (a0 : Option Nat) (a1 : Int) (r0 r1 : am_V) (E : am_E) (u : am_M), Rn m_A_film 105 [l0, l1, l2, l3, l4, l5, l6, l7, l8] [vI a1, vR a0, r0, r1] E u = bdI (Rn m_A_look 0 [vR a0, vI a1] [] E u) (KI m_A_film 108 [l0, l1, l2, l3, l4, l5, l6, l7, l8] [r0, r1])) ∧
  (∀ (l0 l1 l2 l3 l4 l5 l6 l7 l8 : am_V) (a : Int) (st : List am_V) (E : am_E) (u : am_M), Rn m_A_film 108 [l0, l1, l2, l3, l4, l5, l6, l7, l8] (vI a :: st) E u = Rn m_A_film 109 [l0, l1, l2, l3, l4, l5, l6, l7, l8] (vL (a) :: st) E u) ∧
  (∀ (l0 l1 l2 l3 l4 l5 l6 l7 l8 : am_V) (k : Nat) (a0 : Int) (a1 : Int) (E : am_E) (u : am_M) (hE : SE E) (hk : shB k), Rn m_A_film 109 [l0, l1, l2, l3, l4, l5, l6, l7, l8] [vL a1, vI a0, vR (some k)] E u = bdV (Rn m_S_writes 0 [vR (some k), vI a0, vL a1, vB false] [] E u) (KV m_A_film 112 [l0, l1, l2, l3, l4, l5, l6, l7, l8] [])) ∧
  (∀ (l0 l1 l2 l3 l4 l5 l6 l7 : am_V) (a : Int) (st : List am_V) (E : am_E) (u : am_M), Rn m_A_film 112 [l0, l1, l2, l3, l4, l5, l6, l7, vI a] st E u = Rn m_A_film 115 [l0, l1, l2, l3, l4, l5, l6, am_fx l7, vI (w32 (a + 1))] st E u) ∧
  (∀ (l0 l1 l2 l3 l4 l5 l6 l7 l8 : am_V) (st : List am_V) (E : am_E) (u : am_M), Rn m_A_film 115 [l0, l1, l2, l3, l4, l5, l6, l7, l8] st E u = Rn m_A_film 77 [l0, l1, l2, l3, l4, l5, l6, l7, l8] st E u) ∧
  (∀ (l0 l1 l3 l4 l5 l6 l7 l8 : am_V) (a : Int) (st : List am_V) (E : am_E) (u : am_M), Rn m_A_film 118 [l0, l1, vI a, l3, l4, l5, l6, l7, l8] st E u = Rn m_A_film 119 [l0, l1, vI a, l3, l4, l5, l6, l7, l8] (vI a :: st) E u) ∧
  (∀ (l0 l1 l2 l3 l4 l5 l6 l7 l8 : am_V) (a : Int) (E : am_E) (u : am_M), Rn m_A_film 119 [l0, l1, l2, l3, l4, l5, l6, l7, l8] [vI a] E u = some (some (vI a), E, u)) :=
  ⟨fun l1 l2 l3 l4 l5 l6 l7 l8 a st E u => q_go (by decide +kernel : am_Pg 195 0 = some (.aload_n 0, 1, [], 0)) rfl,
  fun l0 l1 l2 l4 l5 l6 l7 l8 a st E u => q_go (by decide +kernel : am_Pg 195 1 = some (.iload_n 3, 1, [], 0)) rfl,
  fun l0 l1 l2 l3 l4 l5 l6 l7 l8 a0  E u hE => q_cR (by decide +kernel : am_Pg 195 2 = some (.invokevirtual 250, 3, [3, 181, 2, 4, 8, 0], 0)) (am_call_V (a := [vI a0]) (st' := []) (Nat.le_of_ble_eq_true rfl) rfl (SE_k4 hE)) (by decide +kernel : am_Lm m_A_sheetOf = 2) (Nat.le_of_ble_eq_true rfl) rfl (by decide +kernel),
  fun l0 l1 l2 l3 l4 l5 l6 l7 l8 a st E u => q_go (by decide +kernel : am_Pg 195 5 = some (.astore 6, 2, [], 0)) rfl,
  fun l0 l1 l2 l3 l4 l5 l7 l8 a st E u => q_go (by decide +kernel : am_Pg 195 7 = some (.aload 6, 2, [], 0)) rfl,
  fun l0 l1 l2 l3 l4 l5 l6 l7 l8 st E u => q_go (by decide +kernel : am_Pg 195 9 = some (.ifnull 32, 3, [], 0)) rfl,
  fun l0 l1 l2 l3 l4 l5 l6 l7 l8 a st E u => q_go (by decide +kernel : am_Pg 195 9 = some (.ifnull 32, 3, [], 0)) rfl,
  fun l1 l2 l3 l4 l5 l6 l7 l8 a st E u => q_go (by decide +kernel : am_Pg 195 12 = some (.aload_n 0, 1, [], 0)) rfl,
  fun l0 l1 l2 l3 l4 l5 l6 l7 l8 st E u hE => q_gfR (by decide +kernel : am_Pg 195 13 = some (.getfield 12, 3, [4, 8, 0, 0], 0)) (SE_k4 hE) rfl (SE_r4_0 hE),
  fun l0 l2 l3 l4 l5 l6 l7 l8 a st E u => q_go (by decide +kernel : am_Pg 195 16 = some (.iload_n 1, 1, [], 0)) rfl,
  fun l0 l1 l2 l3 l4 l5 l6 l7 l8 a0  E u hE => q_cI (by decide +kernel : am_Pg 195 17 = some (.invokevirtual 87, 3, [3, 29, 2, 0, 14, 1], 0)) (am_call_V (a := [vI a0]) (st' := []) (Nat.le_of_ble_eq_true rfl) rfl (SE_k0 hE cuB_1)) (by decide +kernel : am_Lm m_C_isPin = 2) (Nat.le_of_ble_eq_true rfl) rfl (by decide +kernel),
  fun l0 l1 l2 l3 l4 l5 l6 l7 l8 a0  E u hE => q_cI (by decide +kernel : am_Pg 195 17 = some (.invokevirtual 87, 3, [3, 29, 2, 0, 14, 1], 0)) (am_call_V (a := [vI a0]) (st' := []) (Nat.le_of_ble_eq_true rfl) rfl (SE_k0 hE cuB_8)) (by decide +kernel : am_Lm m_C_isPin = 2) (Nat.le_of_ble_eq_true rfl) rfl (by decide +kernel),
  fun l0 l1 l2 l3 l4 l5 l6 l7 l8 a0  E u hE => q_cI (by decide +kernel : am_Pg 195 17 = some (.invokevirtual 87, 3, [3, 29, 2, 0, 14, 1], 0)) (am_call_V (a := [vI a0]) (st' := []) (Nat.le_of_ble_eq_true rfl) rfl (SE_k0 hE cuB_73)) (by decide +kernel : am_Lm m_C_isPin = 2) (Nat.le_of_ble_eq_true rfl) rfl (by decide +kernel),
  fun l0 l1 l2 l3 l4 l5 l6 l7 l8 a st E u => q_if_eq (tgt := 41) (by decide +kernel : am_Pg 195 20 = some (.ifCond .eq 21, 3, [], 0)) (by decide),
  fun l0 l1 l3 l4 l5 l6 l7 l8 a st E u => q_go (by decide +kernel : am_Pg 195 23 = some (.iload_n 2, 1, [], 0)) rfl,
  fun l0 l1 l2 l3 l4 l5 l6 l7 l8 st E u => q_go (by decide +kernel : am_Pg 195 24 = some (.iconst 1, 1, [], 0)) rfl,
  fun l0 l1 l2 l3 l4 l5 l6 l7 l8 st E u => q_go (by decide +kernel : am_Pg 195 25 = some (.bipush 24, 2, [], 0)) rfl,
  fun l0 l1 l2 l3 l4 l5 l6 l7 l8 a0 a1 a2  E u => q_cI (by decide +kernel : am_Pg 195 27 = some (.invokestatic 46, 3, [2, 8, 3, 0], 0)) (am_call_S (f := fun _ _ => true) (a := [vI a0, vI a1, vI a2]) (st' := []) (Nat.le_of_ble_eq_true rfl) rfl rfl) (by decide +kernel : am_Lm m_A_isIn = 3) (Nat.le_of_ble_eq_true rfl) rfl (by decide +kernel),
  fun l0 l1 l2 l3 l4 l5 l6 l7 l8 a st E u => q_if_eq (tgt := 41) (by decide +kernel : am_Pg 195 30 = some (.ifCond .eq 11, 3, [], 0)) (by decide),
  fun l0 l1 l2 l3 l5 l6 l7 l8 a st E u => q_go (by decide +kernel : am_Pg 195 33 = some (.iload 4, 2, [], 0)) rfl,
  fun l0 l1 l2 l3 l4 l5 l6 l7 l8 a0  E u => q_cI (by decide +kernel : am_Pg 195 35 = some (.invokestatic 254, 3, [2, 182, 1, 0], 0)) (am_call_S (f := fun _ _ => true) (a := [vI a0]) (st' := []) (Nat.le_of_ble_eq_true rfl) rfl rfl) (by decide +kernel : am_Lm m_A_isLane = 1) (Nat.le_of_ble_eq_true rfl) rfl (by decide +kernel),
  fun l0 l1 l2 l3 l4 l5 l6 l7 l8 a st E u => q_if_ne (tgt := 43) (by decide +kernel : am_Pg 195 38 = some (.ifCond .ne 5, 3, [], 0)) (by decide),
  fun l0 l1 l2 l3 l4 l5 l6 l7 l8 st E u => q_go (by decide +kernel : am_Pg 195 41 = some (.iconst (-1), 1, [], 0)) rfl,
  fun l0 l1 l2 l3 l4 l5 l6 l7 l8 a E u => q_ret (by decide +kernel : am_Pg 195 42 = some (.ireturn, 1, [], 0)) rfl,
  fun l0 l1 l2 l3 l4 l5 l7 l8 a st E u => q_go (by decide +kernel : am_Pg 195 43 = some (.aload 6, 2, [], 0)) rfl,
  fun l0 l1 l2 l3 l5 l6 l7 l8 a st E u => q_go (by decide +kernel : am_Pg 195 45 = some (.iload 4, 2, [], 0)) rfl,
  fun l0 l1 l2 l3 l4 l6 l7 l8 a st E u => q_go (by decide +kernel : am_Pg 195 47 = some (.iload 5, 2, [], 0)) rfl,
  fun l0 l1 l3 l4 l5 l6 l7 l8 a st E u => q_go (by decide +kernel : am_Pg 195 49 = some (.iload_n 2, 1, [], 0)) rfl,
  fun l0 l1 l2 l3 l4 l5 l6 l7 l8 k a0 a1 a2  E u hE hk => q_cI (by decide +kernel : am_Pg 195 50 = some (.invokevirtual 257, 3, [3, 184, 4, 2, 4, 1], 0)) (am_call_V (a := [vI a0, vI a1, vI a2]) (st' := []) (Nat.le_of_ble_eq_true rfl) rfl (SE_k2 hE hk)) (by decide +kernel : am_Lm m_S_refusal = 4) (Nat.le_of_ble_eq_true rfl) rfl (by decide +kernel),
  fun l0 l1 l2 l3 l4 l5 l6 l7 l8 a st E u => q_go (by decide +kernel : am_Pg 195 53 = some (.istore 7, 2, [], 0)) rfl,
  fun l0 l1 l2 l3 l4 l5 l6 l8 a st E u => q_go (by decide +kernel : am_Pg 195 55 = some (.iload 7, 2, [], 0)) rfl,
  fun l0 l1 l2 l3 l4 l5 l6 l7 l8 a st E u => q_if_eq (tgt := 63) (by decide +kernel : am_Pg 195 57 = some (.ifCond .eq 6, 3, [], 0)) (by decide),
  fun l0 l1 l2 l3 l4 l5 l6 l8 a st E u => q_go (by decide +kernel : am_Pg 195 60 = some (.iload 7, 2, [], 0)) rfl,
  fun l0 l1 l2 l3 l4 l5 l6 l7 l8 a E u => q_ret (by decide +kernel : am_Pg 195 62 = some (.ireturn, 1, [], 0)) rfl,
  fun l1 l2 l3 l4 l5 l6 l7 l8 a st E u => q_go (by decide +kernel : am_Pg 195 63 = some (.aload_n 0, 1, [], 0)) rfl,
  fun l0 l1 l2 l3 l4 l5 l6 l7 l8 st E u hE => q_gfR (by decide +kernel : am_Pg 195 64 = some (.getfield 16, 3, [4, 8, 1, 0], 0)) (SE_k4 hE) rfl (SE_r4_1 hE),
  fun l1 l2 l3 l4 l5 l6 l7 l8 a st E u => q_go (by decide +kernel : am_Pg 195 67 = some (.aload_n 0, 1, [], 0)) rfl,
  fun l0 l1 l2 l3 l4 l5 l6 l7 l8 st E u hE => q_gfR (by decide +kernel : am_Pg 195 68 = some (.getfield 12, 3, [4, 8, 0, 0], 0)) (SE_k4 hE) rfl (SE_r4_0 hE),
  fun l0 l1 l2 l3 l4 l5 l6 l7 l8 a0  E u hE => q_cV (by decide +kernel : am_Pg 195 71 = some (.invokevirtual 141, 3, [3, 78, 2, 0, 14, 1], 0)) (am_call_V (a := [vR a0]) (st' := []) (Nat.le_of_ble_eq_true rfl) rfl (SE_k0 hE cuB_1)) (by decide +kernel : am_Lm m_C_becomes = 2) (Nat.le_of_ble_eq_true rfl) rfl (by decide +kernel),
  fun l0 l1 l2 l3 l4 l5 l6 l7 l8 a0  E u hE => q_cV (by decide +kernel : am_Pg 195 71 = some (.invokevirtual 141, 3, [3, 78, 2, 0, 14, 1], 0)) (am_call_V (a := [vR a0]) (st' := []) (Nat.le_of_ble_eq_true rfl) rfl (SE_k0 hE cuB_8)) (by decide +kernel : am_Lm m_C_becomes = 2) (Nat.le_of_ble_eq_true rfl) rfl (by decide +kernel),
  fun l0 l1 l2 l3 l4 l5 l6 l7 l8 a0  E u hE => q_cV (by decide +kernel : am_Pg 195 71 = some (.invokevirtual 141, 3, [3, 78, 2, 0, 14, 1], 0)) (am_call_V (a := [vR a0]) (st' := []) (Nat.le_of_ble_eq_true rfl) rfl (SE_k0 hE cuB_73)) (by decide +kernel : am_Lm m_C_becomes = 2) (Nat.le_of_ble_eq_true rfl) rfl (by decide +kernel),
  fun l0 l1 l2 l3 l4 l5 l6 l7 l8 st E u => q_go (by decide +kernel : am_Pg 195 74 = some (.iconst 0, 1, [], 0)) rfl,
  fun l0 l1 l2 l3 l4 l5 l6 l7 l8 a st E u => q_go (by decide +kernel : am_Pg 195 75 = some (.istore 8, 2, [], 0)) rfl,
  fun l0 l1 l3 l4 l5 l6 l7 l8 a st E u => q_go (by decide +kernel : am_Pg 195 79 = some (.iload_n 2, 1, [], 0)) rfl,
  fun l0 l1 l2 l3 l4 l5 l6 l7 l8 a b st E u => q_icmp_ge (tgt := 118) (by decide +kernel : am_Pg 195 80 = some (.if_icmp .ge 38, 3, [], 0)) (by decide),
  fun l1 l2 l3 l4 l5 l6 l7 l8 a st E u => q_go (by decide +kernel : am_Pg 195 83 = some (.aload_n 0, 1, [], 0)) rfl,
  fun l0 l1 l2 l3 l4 l5 l6 l7 l8 st E u hE => q_gfR (by decide +kernel : am_Pg 195 84 = some (.getfield 16, 3, [4, 8, 1, 0], 0)) (SE_k4 hE) rfl (SE_r4_1 hE),
  fun l0 l1 l2 l3 l4 l5 l6 l7 l8   E u hE => q_cV (by decide +kernel : am_Pg 195 87 = some (.invokevirtual 264, 3, [3, 107, 1, 0, 14, 1], 0)) (am_call_V (a := []) (st' := []) (Nat.le_of_ble_eq_true rfl) rfl (SE_k0 hE cuB_1)) (by decide +kernel : am_Lm m_C_goesOn = 2) (Nat.le_of_ble_eq_true rfl) rfl (by decide +kernel),
  fun l0 l1 l2 l3 l4 l5 l6 l7 l8   E u hE => q_cV (by decide +kernel : am_Pg 195 87 = some (.invokevirtual 264, 3, [3, 107, 1, 0, 14, 1], 0)) (am_call_V (a := []) (st' := []) (Nat.le_of_ble_eq_true rfl) rfl (SE_k0 hE cuB_8)) (by decide +kernel : am_Lm m_C_goesOn = 2) (Nat.le_of_ble_eq_true rfl) rfl (by decide +kernel),
  fun l0 l1 l2 l3 l4 l5 l6 l7 l8   E u hE => q_cV (by decide +kernel : am_Pg 195 87 = some (.invokevirtual 264, 3, [3, 107, 1, 0, 14, 1], 0)) (am_call_V (a := []) (st' := []) (Nat.le_of_ble_eq_true rfl) rfl (SE_k0 hE cuB_73)) (by decide +kernel : am_Lm m_C_goesOn = 2) (Nat.le_of_ble_eq_true rfl) rfl (by decide +kernel),
  fun l0 l1 l2 l3 l4 l5 l7 l8 a st E u => q_go (by decide +kernel : am_Pg 195 90 = some (.aload 6, 2, [], 0)) rfl,
  fun l0 l1 l2 l3 l4 l6 l7 l8 a st E u => q_go (by decide +kernel : am_Pg 195 92 = some (.iload 5, 2, [], 0)) rfl,
  fun l0 l1 l2 l3 l4 l5 l6 l7 a st E u => q_go (by decide +kernel : am_Pg 195 94 = some (.iload 8, 2, [], 0)) rfl,
  fun l0 l1 l2 l3 l4 l5 l6 l7 l8 a b st E u => q_go (by decide +kernel : am_Pg 195 96 = some (.iadd, 1, [], 0)) rfl,
  fun l1 l2 l3 l4 l5 l6 l7 l8 a st E u => q_go (by decide +kernel : am_Pg 195 97 = some (.aload_n 0, 1, [], 0)) rfl,
  fun l0 l1 l2 l3 l4 l5 l6 l7 l8 st E u hE => q_gfR (by decide +kernel : am_Pg 195 98 = some (.getfield 16, 3, [4, 8, 1, 0], 0)) (SE_k4 hE) rfl (SE_r4_1 hE),
  fun l0 l1 l2 l3 l4 l5 l6 l7 l8 st E u hE => q_gfR (by decide +kernel : am_Pg 195 101 = some (.getfield 98, 3, [0, 14, 9, 1], 0)) (SE_k0 hE cuB_1) rfl (SE_r0_9 hE cuB_1),
  fun l0 l1 l2 l3 l4 l5 l6 l7 l8 st E u hE => q_gfR (by decide +kernel : am_Pg 195 101 = some (.getfield 98, 3, [0, 14, 9, 1], 0)) (SE_k0 hE cuB_8) rfl (SE_r0_9 hE cuB_8),
  fun l0 l1 l2 l3 l4 l5 l6 l7 l8 st E u hE => q_gfR (by decide +kernel : am_Pg 195 101 = some (.getfield 98, 3, [0, 14, 9, 1], 0)) (SE_k0 hE cuB_73) rfl (SE_r0_9 hE cuB_73),
  fun l0 l2 l3 l4 l5 l6 l7 l8 a st E u => q_go (by decide +kernel : am_Pg 195 104 = some (.iload_n 1, 1, [], 0)) rfl,
  fun l0 l1 l2 l3 l4 l5 l6 l7 l8 a0 a1 r0 r1 E u => q_cI (by decide +kernel : am_Pg 195 105 = some (.invokestatic 94, 3, [2, 36, 2, 0], 0)) (am_call_S (f := fun _ _ => true) (a := [vR a0, vI a1]) (st' := [r0, r1]) (Nat.le_of_ble_eq_true rfl) rfl rfl) (by decide +kernel : am_Lm m_A_look = 2) (Nat.le_of_ble_eq_true rfl) rfl (by decide +kernel),
  fun l0 l1 l2 l3 l4 l5 l6 l7 l8 a st E u => q_go (by decide +kernel : am_Pg 195 108 = some (.i2l, 1, [], 0)) rfl,
  fun l0 l1 l2 l3 l4 l5 l6 l7 l8 k a0 a1  E u hE hk => q_cV (by decide +kernel : am_Pg 195 109 = some (.invokevirtual 267, 3, [3, 194, 3, 2, 4, 1], 0)) (am_call_V (a := [vI a0, vL a1]) (st' := []) (Nat.le_of_ble_eq_true rfl) rfl (SE_k2 hE hk)) (by decide +kernel : am_Lm m_S_writes = 4) (Nat.le_of_ble_eq_true rfl) rfl (by decide +kernel),
  fun l0 l1 l2 l3 l4 l5 l6 l7 a st E u => q_go (by decide +kernel : am_Pg 195 112 = some (.iinc 8 1, 3, [], 0)) rfl,
  fun l0 l1 l2 l3 l4 l5 l6 l7 l8 st E u => q_go (by decide +kernel : am_Pg 195 115 = some (.goto (-38), 3, [], 0)) rfl,
  fun l0 l1 l3 l4 l5 l6 l7 l8 a st E u => q_go (by decide +kernel : am_Pg 195 118 = some (.iload_n 2, 1, [], 0)) rfl,
  fun l0 l1 l2 l3 l4 l5 l6 l7 l8 a E u => q_ret (by decide +kernel : am_Pg 195 119 = some (.ireturn, 1, [], 0)) rfl⟩
theorem x_A_sheet :
  (∀ (l1 l2 l3 l4 : am_V) (a : Option Nat) (st : List am_V) (E : am_E) (u : am_M), Rn m_A_sheet 0 [vR a, l1, l2, l3, l4] st E u = Rn m_A_sheet 1 [vR a, l1, l2, l3, l4] (vR a :: st) E u) ∧
  (∀ (l0 l2 l3 l4 : am_V) (a : Int) (st : List am_V) (E : am_E) (u : am_M), Rn m_A_sheet 1 [l0, vI a, l2, l3, l4] st E u = Rn m_A_sheet 2 [l0, vI a, l2, l3, l4] (vI a :: st) E u) ∧
  (∀ (l0 l1 l2 l3 l4 : am_V) (a0 : Int) (E : am_E) (u : am_M) (hE : SE E), Rn m_A_sheet 2 [l0, l1, l2, l3, l4] [vI a0, vR (some 0)] E u = bdR (Rn m_A_sheetOf 0 [vR (some 0), vI a0] [] E u) (KR m_A_sheet 5 [l0, l1, l2, l3, l4] [])) ∧
  (∀ (l0 l1 l2 l3 l4 : am_V) (a : Option Nat) (st : List am_V) (E : am_E) (u : am_M), Rn m_A_sheet 5 [l0, l1, l2, l3, l4] (vR a :: st) E u = Rn m_A_sheet 7 [l0, l1, l2, am_fx l3, vR a] st E u) ∧
  (∀ (l0 l1 l2 l3 : am_V) (a : Option Nat) (st : List am_V) (E : am_E) (u : am_M), Rn m_A_sheet 7 [l0, l1, l2, l3, vR a] st E u = Rn m_A_sheet 9 [l0, l1, l2, l3, vR a] (vR a :: st) E u) ∧
  (∀ (l0 l1 l2 l3 l4 : am_V) (st : List am_V) (E : am_E) (u : am_M), Rn m_A_sheet 9 [l0, l1, l2, l3, l4] (vR none :: st) E u = Rn m_A_sheet 25 [l0, l1, l2, l3, l4] st E u) ∧
  (∀ (l0 l1 l2 l3 l4 : am_V) (a : Nat) (st : List am_V) (E : am_E) (u : am_M), Rn m_A_sheet 9 [l0, l1, l2, l3, l4] (vR (some a) :: st) E u = Rn m_A_sheet 12 [l0, l1, l2, l3, l4] st E u) ∧
  (∀ (l0 l1 l3 l4 : am_V) (a : Int) (st : List am_V) (E : am_E) (u : am_M), Rn m_A_sheet 12 [l0, l1, vI a, l3, l4] st E u = Rn m_A_sheet 13 [l0, l1, vI a, l3, l4] (vI a :: st) E u) ∧
  (∀ (l0 l1 l2 l3 l4 : am_V) (a0 : Int) (E : am_E) (u : am_M), Rn m_A_sheet 13 [l0, l1, l2, l3, l4] [vI a0] E u = bdI (Rn m_A_isLane 0 [vI a0] [] E u) (KI m_A_sheet 16 [l0, l1, l2, l3, l4] [])) ∧
  (∀ (l0 l1 l2 l3 l4 : am_V) (a : Int) (st : List am_V) (E : am_E) (u : am_M), Rn m_A_sheet 16 [l0, l1, l2, l3, l4] (vI a :: st) E u = if a = 0 then Rn m_A_sheet 25 [l0, l1, l2, l3, l4] st E u else Rn m_A_sheet 19 [l0, l1, l2, l3, l4] st E u) ∧
  (∀ (l0 l1 l2 l4 : am_V) (a : Int) (st : List am_V) (E : am_E) (u : am_M), Rn m_A_sheet 19 [l0, l1, l2, vI a, l4] st E u = Rn m_A_sheet 20 [l0, l1, l2, vI a, l4] (vI a :: st) E u) ∧
  (∀ (l0 l1 l2 l3 l4 : am_V) (st : List am_V) (E : am_E) (u : am_M), Rn m_A_sheet 20 [l0, l1, l2, l3, l4] st E u = Rn m_A_sheet 22 [l0, l1, l2, l3, l4] (vI 24 :: st) E u) ∧
  (∀ (l0 l1 l2 l3 l4 : am_V) (a b : Int) (st : List am_V) (E : am_E) (u : am_M), Rn m_A_sheet 22 [l0, l1, l2, l3, l4] (vI b :: vI a :: st) E u = if b < a then Rn m_A_sheet 25 [l0, l1, l2, l3, l4] st E u else Rn m_A_sheet 27 [l0, l1, l2, l3, l4] st E u) ∧
  (∀ (l0 l1 l2 l3 l4 : am_V) (st : List am_V) (E : am_E) (u : am_M), Rn m_A_sheet 25 [l0, l1, l2, l3, l4] st E u = Rn m_A_sheet 26 [l0, l1, l2, l3, l4] (vI (-1) :: st) E u) ∧
  (∀ (l0 l1 l2 l3 l4 : am_V) (a : Int) (E : am_E) (u : am_M), Rn m_A_sheet 26 [l0, l1, l2, l3, l4] [vI a] E u = some (some (vI a), E, u)) ∧
  (∀ (l0 l1 l2 l4 : am_V) (a : Int) (st : List am_V) (E : am_E) (u : am_M), Rn m_A_sheet 27 [l0, l1, l2, vI a, l4] st E u = Rn m_A_sheet 28 [l0, l1, l2, vI a, l4] (vI a :: st) E u) ∧
  (∀ (l0 l1 l2 l3 l4 : am_V) (a : Int) (st : List am_V) (E : am_E) (u : am_M), Rn m_A_sheet 28 [l0, l1, l2, l3, l4] (vI a :: st) E u = if a < 0 then Rn m_A_sheet 31 [l0, l1, l2, l3, l4] st E u else Rn m_A_sheet 34 [l0, l1, l2, l3, l4] st E u) ∧
  (∀ (l0 l1 l2 l3 l4 : am_V) (st : List am_V) (E : am_E) (u : am_M), Rn m_A_sheet 31 [l0, l1, l2, l3, l4] st E u = Rn m_A_sheet 33 [l0, l1, l2, l3, l4] (vI (-14) :: st) E u) ∧
  (∀ (l0 l1 l2 l3 l4 : am_V) (a : Int) (E : am_E) (u : am_M), Rn m_A_sheet 33 [l0, l1, l2, l3, l4] [vI a] E u = some (some (vI a), E, u)) ∧
  (∀ (l0 l1 l2 l3 : am_V) (a : Option Nat) (st : List am_V) (E : am_E) (u : am_M), Rn m_A_sheet 34 [l0, l1, l2, l3, vR a] st E u = Rn m_A_sheet 36 [l0, l1, l2, l3, vR a] (vR a :: st) E u) ∧
  (∀ (l0 l1 l3 l4 : am_V) (a : Int) (st : List am_V) (E : am_E) (u : am_M), Rn m_A_sheet 36 [l0, l1, vI a, l3, l4] st E u = Rn m_A_sheet 37 [l0, l1, vI a, l3, l4] (vI a :: st) E u) ∧
  (∀ (l0 l1 l2 l4 : am_V) (a : Int) (st : List am_V) (E : am_E) (u : am_M), Rn m_A_sheet 37 [l0, l1, l2, vI a, l4] st E u = Rn m_A_sheet 38 [l0, l1, l2, vI a, l4] (vI a :: st) E u) ∧
  (∀ (l0 l1 l2 l3 l4 : am_V) (k : Nat) (a0 : Int) (a1 : Int) (E : am_E) (u : am_M) (hE : SE E) (hk : shB k), Rn m_A_sheet 38 [l0, l1, l2, l3, l4] [vI a1, vI a0, vR (some k)] E u = bdV (Rn m_S_begins 0 [vR (some k), vI a0, vI a1] [] E u) (KV m_A_sheet 41 [l0, l1, l2, l3, l4] [])) ∧
  (∀ (l0 l1 l2 l4 : am_V) (a : Int) (st : List am_V) (E : am_E) (u : am_M), Rn m_A_sheet 41 [l0, l1, l2, vI a, l4] st E u = Rn m_A_sheet 42 [l0, l1, l2, vI a, l4] (vI a :: st) E u) ∧
  (∀ (l0 l1 l2 l3 l4 : am_V) (a : Int) (E : am_E) (u : am_M), Rn m_A_sheet 42 [l0, l1, l2, l3, l4] [vI a] E u = some (some (vI a), E, u)) :=
  ⟨fun l1 l2 l3 l4 a st E u => q_go (by decide +kernel : am_Pg 199 0 = some (.aload_n 0, 1, [], 0)) rfl,
  fun l0 l2 l3 l4 a st E u => q_go (by decide +kernel : am_Pg 199 1 = some (.iload_n 1, 1, [], 0)) rfl,
  fun l0 l1 l2 l3 l4 a0  E u hE => q_cR (by decide +kernel : am_Pg 199 2 = some (.invokevirtual 250, 3, [3, 181, 2, 4, 8, 0], 0)) (am_call_V (a := [vI a0]) (st' := []) (Nat.le_of_ble_eq_true rfl) rfl (SE_k4 hE)) (by decide +kernel : am_Lm m_A_sheetOf = 2) (Nat.le_of_ble_eq_true rfl) rfl (by decide +kernel),
  fun l0 l1 l2 l3 l4 a st E u => q_go (by decide +kernel : am_Pg 199 5 = some (.astore 4, 2, [], 0)) rfl,
  fun l0 l1 l2 l3 a st E u => q_go (by decide +kernel : am_Pg 199 7 = some (.aload 4, 2, [], 0)) rfl,
  fun l0 l1 l2 l3 l4 st E u => q_go (by decide +kernel : am_Pg 199 9 = some (.ifnull 16, 3, [], 0)) rfl,
  fun l0 l1 l2 l3 l4 a st E u => q_go (by decide +kernel : am_Pg 199 9 = some (.ifnull 16, 3, [], 0)) rfl,
  fun l0 l1 l3 l4 a st E u => q_go (by decide +kernel : am_Pg 199 12 = some (.iload_n 2, 1, [], 0)) rfl,
  fun l0 l1 l2 l3 l4 a0  E u => q_cI (by decide +kernel : am_Pg 199 13 = some (.invokestatic 254, 3, [2, 182, 1, 0], 0)) (am_call_S (f := fun _ _ => true) (a := [vI a0]) (st' := []) (Nat.le_of_ble_eq_true rfl) rfl rfl) (by decide +kernel : am_Lm m_A_isLane = 1) (Nat.le_of_ble_eq_true rfl) rfl (by decide +kernel),
  fun l0 l1 l2 l3 l4 a st E u => q_if_eq (tgt := 25) (by decide +kernel : am_Pg 199 16 = some (.ifCond .eq 9, 3, [], 0)) (by decide),
  fun l0 l1 l2 l4 a st E u => q_go (by decide +kernel : am_Pg 199 19 = some (.iload_n 3, 1, [], 0)) rfl,
  fun l0 l1 l2 l3 l4 st E u => q_go (by decide +kernel : am_Pg 199 20 = some (.bipush 24, 2, [], 0)) rfl,
  fun l0 l1 l2 l3 l4 a b st E u => q_icmp_le (tgt := 27) (by decide +kernel : am_Pg 199 22 = some (.if_icmp .le 5, 3, [], 0)) (by decide),
  fun l0 l1 l2 l3 l4 st E u => q_go (by decide +kernel : am_Pg 199 25 = some (.iconst (-1), 1, [], 0)) rfl,
  fun l0 l1 l2 l3 l4 a E u => q_ret (by decide +kernel : am_Pg 199 26 = some (.ireturn, 1, [], 0)) rfl,
  fun l0 l1 l2 l4 a st E u => q_go (by decide +kernel : am_Pg 199 27 = some (.iload_n 3, 1, [], 0)) rfl,
  fun l0 l1 l2 l3 l4 a st E u => q_if_ge (tgt := 34) (by decide +kernel : am_Pg 199 28 = some (.ifCond .ge 6, 3, [], 0)) (by decide),
  fun l0 l1 l2 l3 l4 st E u => q_go (by decide +kernel : am_Pg 199 31 = some (.bipush (-14), 2, [], 0)) rfl,
  fun l0 l1 l2 l3 l4 a E u => q_ret (by decide +kernel : am_Pg 199 33 = some (.ireturn, 1, [], 0)) rfl,
  fun l0 l1 l2 l3 a st E u => q_go (by decide +kernel : am_Pg 199 34 = some (.aload 4, 2, [], 0)) rfl,
  fun l0 l1 l3 l4 a st E u => q_go (by decide +kernel : am_Pg 199 36 = some (.iload_n 2, 1, [], 0)) rfl,
  fun l0 l1 l2 l4 a st E u => q_go (by decide +kernel : am_Pg 199 37 = some (.iload_n 3, 1, [], 0)) rfl,
  fun l0 l1 l2 l3 l4 k a0 a1  E u hE hk => q_cV (by decide +kernel : am_Pg 199 38 = some (.invokevirtual 271, 3, [3, 198, 3, 2, 4, 1], 0)) (am_call_V (a := [vI a0, vI a1]) (st' := []) (Nat.le_of_ble_eq_true rfl) rfl (SE_k2 hE hk)) (by decide +kernel : am_Lm m_S_begins = 3) (Nat.le_of_ble_eq_true rfl) rfl (by decide +kernel),
  fun l0 l1 l2 l4 a st E u => q_go (by decide +kernel : am_Pg 199 41 = some (.iload_n 3, 1, [], 0)) rfl,
  fun l0 l1 l2 l3 l4 a E u => q_ret (by decide +kernel : am_Pg 199 42 = some (.ireturn, 1, [], 0)) rfl⟩
theorem x_A_drop :
  (∀ (l1 l2 : am_V) (a : Option Nat) (st : List am_V) (E : am_E) (u : am_M), Rn m_A_drop 0 [vR a, l1, l2] st E u = Rn m_A_drop 1 [vR a, l1, l2] (vR a :: st) E u) ∧
  (∀ (l0 l2 : am_V) (a : Int) (st : List am_V) (E : am_E) (u : am_M), Rn m_A_drop 1 [l0, vI a, l2] st E u = Rn m_A_drop 2 [l0, vI a, l2] (vI a :: st) E u) ∧
  (∀ (l0 l1 l2 : am_V) (a0 : Int) (E : am_E) (u : am_M) (hE : SE E), Rn m_A_drop 2 [l0, l1, l2] [vI a0, vR (some 0)] E u = bdR (Rn m_A_sheetOf 0 [vR (some 0), vI a0] [] E u) (KR m_A_drop 5 [l0, l1, l2] [])) ∧
  (∀ (l0 l1 l2 : am_V) (a : Option Nat) (st : List am_V) (E : am_E) (u : am_M), Rn m_A_drop 5 [l0, l1, l2] (vR a :: st) E u = Rn m_A_drop 6 [l0, am_fx l1, vR a] st E u) ∧
  (∀ (l0 l1 : am_V) (a : Option Nat) (st : List am_V) (E : am_E) (u : am_M), Rn m_A_drop 6 [l0, l1, vR a] st E u = Rn m_A_drop 7 [l0, l1, vR a] (vR a :: st) E u) ∧
  (∀ (l0 l1 l2 : am_V) (st : List am_V) (E : am_E) (u : am_M), Rn m_A_drop 7 [l0, l1, l2] (vR none :: st) E u = Rn m_A_drop 10 [l0, l1, l2] st E u) ∧
  (∀ (l0 l1 l2 : am_V) (a : Nat) (st : List am_V) (E : am_E) (u : am_M), Rn m_A_drop 7 [l0, l1, l2] (vR (some a) :: st) E u = Rn m_A_drop 12 [l0, l1, l2] st E u) ∧
  (∀ (l0 l1 l2 : am_V) (st : List am_V) (E : am_E) (u : am_M), Rn m_A_drop 10 [l0, l1, l2] st E u = Rn m_A_drop 11 [l0, l1, l2] (vI (-1) :: st) E u) ∧
  (∀ (l0 l1 l2 : am_V) (a : Int) (E : am_E) (u : am_M), Rn m_A_drop 11 [l0, l1, l2] [vI a] E u = some (some (vI a), E, u)) ∧
  (∀ (l0 l1 : am_V) (a : Option Nat) (st : List am_V) (E : am_E) (u : am_M), Rn m_A_drop 12 [l0, l1, vR a] st E u = Rn m_A_drop 13 [l0, l1, vR a] (vR a :: st) E u) ∧
  (∀ (l0 l1 l2 : am_V) (k : Nat) (st : List am_V) (E : am_E) (u : am_M) (hE : SE E) (hk : shB k), Rn m_A_drop 13 [l0, l1, l2] (vR (some k) :: st) E u = Rn m_A_drop 16 [l0, l1, l2] (vI (u k 1) :: st) E u) ∧
  (∀ (l0 l1 l2 : am_V) (a : Int) (st : List am_V) (E : am_E) (u : am_M), Rn m_A_drop 16 [l0, l1, l2] (vI a :: st) E u = if a = 0 then Rn m_A_drop 22 [l0, l1, l2] st E u else Rn m_A_drop 19 [l0, l1, l2] st E u) ∧
  (∀ (l0 l1 l2 : am_V) (st : List am_V) (E : am_E) (u : am_M), Rn m_A_drop 19 [l0, l1, l2] st E u = Rn m_A_drop 21 [l0, l1, l2] (vI (-11) :: st) E u) ∧
  (∀ (l0 l1 l2 : am_V) (a : Int) (E : am_E) (u : am_M), Rn m_A_drop 21 [l0, l1, l2] [vI a] E u = some (some (vI a), E, u)) ∧
  (∀ (l0 l1 : am_V) (a : Option Nat) (st : List am_V) (E : am_E) (u : am_M), Rn m_A_drop 22 [l0, l1, vR a] st E u = Rn m_A_drop 23 [l0, l1, vR a] (vR a :: st) E u) ∧
  (∀ (l0 l1 l2 : am_V) (st : List am_V) (E : am_E) (u : am_M), Rn m_A_drop 23 [l0, l1, l2] st E u = Rn m_A_drop 24 [l0, l1, l2] (vI 1 :: st) E u) ∧
  (∀ (l0 l1 l2 : am_V) (k : Nat) (a : Int) (st : List am_V) (E : am_E) (u : am_M) (hE : SE E) (hk : shB k) (ha : a = 0 ∨ a = 1), Rn m_A_drop 24 [l0, l1, l2] (vI a :: vR (some k) :: st) E u = Rn m_A_drop 27 [l0, l1, l2] st E (am_up u k 1 a)) ∧
  (∀ (l0 l1 l2 : am_V) (k : Nat) (b : Bool) (st : List am_V) (E : am_E) (u : am_M) (hE : SE E) (hk : shB k), Rn m_A_drop 24 [l0, l1, l2] (vI (bI b) :: vR (some k) :: st) E u = Rn m_A_drop 27 [l0, l1, l2] st E (am_up u k 1 (bI b))) ∧
  (∀ (l0 l1 : am_V) (a : Option Nat) (st : List am_V) (E : am_E) (u : am_M), Rn m_A_drop 27 [l0, l1, vR a] st E u = Rn m_A_drop 28 [l0, l1, vR a] (vR a :: st) E u) ∧
  (∀ (l0 l1 l2 : am_V) (k : Nat) (st : List am_V) (E : am_E) (u : am_M) (hE : SE E) (hk : shB k), Rn m_A_drop 28 [l0, l1, l2] (vR (some k) :: st) E u = Rn m_A_drop 31 [l0, l1, l2] (vI (u k 3) :: st) E u) ∧
  (∀ (l0 l1 l2 : am_V) (a : Int) (E : am_E) (u : am_M), Rn m_A_drop 31 [l0, l1, l2] [vI a] E u = some (some (vI a), E, u)) :=
  ⟨fun l1 l2 a st E u => q_go (by decide +kernel : am_Pg 201 0 = some (.aload_n 0, 1, [], 0)) rfl,
  fun l0 l2 a st E u => q_go (by decide +kernel : am_Pg 201 1 = some (.iload_n 1, 1, [], 0)) rfl,
  fun l0 l1 l2 a0  E u hE => q_cR (by decide +kernel : am_Pg 201 2 = some (.invokevirtual 250, 3, [3, 181, 2, 4, 8, 0], 0)) (am_call_V (a := [vI a0]) (st' := []) (Nat.le_of_ble_eq_true rfl) rfl (SE_k4 hE)) (by decide +kernel : am_Lm m_A_sheetOf = 2) (Nat.le_of_ble_eq_true rfl) rfl (by decide +kernel),
  fun l0 l1 l2 a st E u => q_go (by decide +kernel : am_Pg 201 5 = some (.astore_n 2, 1, [], 0)) rfl,
  fun l0 l1 a st E u => q_go (by decide +kernel : am_Pg 201 6 = some (.aload_n 2, 1, [], 0)) rfl,
  fun l0 l1 l2 st E u => q_go (by decide +kernel : am_Pg 201 7 = some (.ifnonnull 5, 3, [], 0)) rfl,
  fun l0 l1 l2 a st E u => q_go (by decide +kernel : am_Pg 201 7 = some (.ifnonnull 5, 3, [], 0)) rfl,
  fun l0 l1 l2 st E u => q_go (by decide +kernel : am_Pg 201 10 = some (.iconst (-1), 1, [], 0)) rfl,
  fun l0 l1 l2 a E u => q_ret (by decide +kernel : am_Pg 201 11 = some (.ireturn, 1, [], 0)) rfl,
  fun l0 l1 a st E u => q_go (by decide +kernel : am_Pg 201 12 = some (.aload_n 2, 1, [], 0)) rfl,
  fun l0 l1 l2 k st E u hE hk => q_gfI (by decide +kernel : am_Pg 201 13 = some (.getfield 274, 3, [2, 4, 1, 1], 0)) (SE_k2 hE hk) (by decide),
  fun l0 l1 l2 a st E u => q_if_eq (tgt := 22) (by decide +kernel : am_Pg 201 16 = some (.ifCond .eq 6, 3, [], 0)) (by decide),
  fun l0 l1 l2 st E u => q_go (by decide +kernel : am_Pg 201 19 = some (.bipush (-11), 2, [], 0)) rfl,
  fun l0 l1 l2 a E u => q_ret (by decide +kernel : am_Pg 201 21 = some (.ireturn, 1, [], 0)) rfl,
  fun l0 l1 a st E u => q_go (by decide +kernel : am_Pg 201 22 = some (.aload_n 2, 1, [], 0)) rfl,
  fun l0 l1 l2 st E u => q_go (by decide +kernel : am_Pg 201 23 = some (.iconst 1, 1, [], 0)) rfl,
  fun l0 l1 l2 k a st E u hE hk ha => q_pfZ (by decide +kernel : am_Pg 201 24 = some (.putfield 274, 3, [2, 4, 1, 1], 0)) (SE_k2 hE hk) rfl ha,
  fun l0 l1 l2 k b st E u hE hk => q_pfZ (by decide +kernel : am_Pg 201 24 = some (.putfield 274, 3, [2, 4, 1, 1], 0)) (SE_k2 hE hk) rfl (bI_01 b),
  fun l0 l1 a st E u => q_go (by decide +kernel : am_Pg 201 27 = some (.aload_n 2, 1, [], 0)) rfl,
  fun l0 l1 l2 k st E u hE hk => q_gfI (by decide +kernel : am_Pg 201 28 = some (.getfield 277, 3, [2, 4, 3, 1], 0)) (SE_k2 hE hk) (by decide),
  fun l0 l1 l2 a E u => q_ret (by decide +kernel : am_Pg 201 31 = some (.ireturn, 1, [], 0)) rfl⟩
theorem x_A_item :
  (∀ (l1 l2 l3 l4 l5 l6 l7 : am_V) (a : Option Nat) (st : List am_V) (E : am_E) (u : am_M), Rn m_A_item 0 [vR a, l1, l2, l3, l4, l5, l6, l7] st E u = Rn m_A_item 1 [vR a, l1, l2, l3, l4, l5, l6, l7] (vR a :: st) E u) ∧
  (∀ (l0 l2 l3 l4 l5 l6 l7 : am_V) (a : Int) (st : List am_V) (E : am_E) (u : am_M), Rn m_A_item 1 [l0, vI a, l2, l3, l4, l5, l6, l7] st E u = Rn m_A_item 2 [l0, vI a, l2, l3, l4, l5, l6, l7] (vI a :: st) E u) ∧
  (∀ (l0 l1 l2 l3 l4 l5 l6 l7 : am_V) (a0 : Int) (E : am_E) (u : am_M) (hE : SE E), Rn m_A_item 2 [l0, l1, l2, l3, l4, l5, l6, l7] [vI a0, vR (some 0)] E u = bdR (Rn m_A_sheetOf 0 [vR (some 0), vI a0] [] E u) (KR m_A_item 5 [l0, l1, l2, l3, l4, l5, l6, l7] [])) ∧
  (∀ (l0 l1 l2 l3 l4 l5 l6 l7 : am_V) (a : Option Nat) (st : List am_V) (E : am_E) (u : am_M), Rn m_A_item 5 [l0, l1, l2, l3, l4, l5, l6, l7] (vR a :: st) E u = Rn m_A_item 7 [l0, l1, l2, l3, l4, am_fx l5, vR a, l7] st E u) ∧
  (∀ (l0 l1 l2 l3 l4 l5 l7 : am_V) (a : Option Nat) (st : List am_V) (E : am_E) (u : am_M), Rn m_A_item 7 [l0, l1, l2, l3, l4, l5, vR a, l7] st E u = Rn m_A_item 9 [l0, l1, l2, l3, l4, l5, vR a, l7] (vR a :: st) E u) ∧
  (∀ (l0 l1 l2 l3 l4 l5 l6 l7 : am_V) (st : List am_V) (E : am_E) (u : am_M), Rn m_A_item 9 [l0, l1, l2, l3, l4, l5, l6, l7] (vR none :: st) E u = Rn m_A_item 19 [l0, l1, l2, l3, l4, l5, l6, l7] st E u) ∧
  (∀ (l0 l1 l2 l3 l4 l5 l6 l7 : am_V) (a : Nat) (st : List am_V) (E : am_E) (u : am_M), Rn m_A_item 9 [l0, l1, l2, l3, l4, l5, l6, l7] (vR (some a) :: st) E u = Rn m_A_item 12 [l0, l1, l2, l3, l4, l5, l6, l7] st E u) ∧
  (∀ (l0 l1 l3 l4 l5 l6 l7 : am_V) (a : Int) (st : List am_V) (E : am_E) (u : am_M), Rn m_A_item 12 [l0, l1, vI a, l3, l4, l5, l6, l7] st E u = Rn m_A_item 13 [l0, l1, vI a, l3, l4, l5, l6, l7] (vI a :: st) E u) ∧
  (∀ (l0 l1 l2 l3 l4 l5 l6 l7 : am_V) (a0 : Int) (E : am_E) (u : am_M), Rn m_A_item 13 [l0, l1, l2, l3, l4, l5, l6, l7] [vI a0] E u = bdI (Rn m_A_isLane 0 [vI a0] [] E u) (KI m_A_item 16 [l0, l1, l2, l3, l4, l5, l6, l7] [])) ∧
  (∀ (l0 l1 l2 l3 l4 l5 l6 l7 : am_V) (a : Int) (st : List am_V) (E : am_E) (u : am_M), Rn m_A_item 16 [l0, l1, l2, l3, l4, l5, l6, l7] (vI a :: st) E u = if a = 0 then Rn m_A_item 19 [l0, l1, l2, l3, l4, l5, l6, l7] st E u else Rn m_A_item 21 [l0, l1, l2, l3, l4, l5, l6, l7] st E u) ∧
  (∀ (l0 l1 l2 l3 l4 l5 l6 l7 : am_V) (st : List am_V) (E : am_E) (u : am_M), Rn m_A_item 19 [l0, l1, l2, l3, l4, l5, l6, l7] st E u = Rn m_A_item 20 [l0, l1, l2, l3, l4, l5, l6, l7] (vI (-1) :: st) E u) ∧
  (∀ (l0 l1 l2 l3 l4 l5 l6 l7 : am_V) (a : Int) (E : am_E) (u : am_M), Rn m_A_item 20 [l0, l1, l2, l3, l4, l5, l6, l7] [vI a] E u = some (some (vI a), E, u)) ∧
  (∀ (l0 l1 l2 l3 l4 l5 l7 : am_V) (a : Option Nat) (st : List am_V) (E : am_E) (u : am_M), Rn m_A_item 21 [l0, l1, l2, l3, l4, l5, vR a, l7] st E u = Rn m_A_item 23 [l0, l1, l2, l3, l4, l5, vR a, l7] (vR a :: st) E u) ∧
  (∀ (l0 l1 l3 l4 l5 l6 l7 : am_V) (a : Int) (st : List am_V) (E : am_E) (u : am_M), Rn m_A_item 23 [l0, l1, vI a, l3, l4, l5, l6, l7] st E u = Rn m_A_item 24 [l0, l1, vI a, l3, l4, l5, l6, l7] (vI a :: st) E u) ∧
  (∀ (l0 l1 l2 l4 l5 l6 l7 : am_V) (a : Int) (st : List am_V) (E : am_E) (u : am_M), Rn m_A_item 24 [l0, l1, l2, vI a, l4, l5, l6, l7] st E u = Rn m_A_item 25 [l0, l1, l2, vI a, l4, l5, l6, l7] (vI a :: st) E u) ∧
  (∀ (l0 l1 l2 l3 l4 l5 l6 l7 : am_V) (st : List am_V) (E : am_E) (u : am_M), Rn m_A_item 25 [l0, l1, l2, l3, l4, l5, l6, l7] st E u = Rn m_A_item 26 [l0, l1, l2, l3, l4, l5, l6, l7] (vI 1 :: st) E u) ∧
  (∀ (l0 l1 l2 l3 l4 l5 l6 l7 : am_V) (k : Nat) (a0 : Int) (a1 : Int) (a2 : Int) (E : am_E) (u : am_M) (hE : SE E) (hk : shB k), Rn m_A_item 26 [l0, l1, l2, l3, l4, l5, l6, l7] [vI a2, vI a1, vI a0, vR (some k)] E u = bdI (Rn m_S_refusal 0 [vR (some k), vI a0, vI a1, vI a2] [] E u) (KI m_A_item 29 [l0, l1, l2, l3, l4, l5, l6, l7] [])) ∧
  (∀ (l0 l1 l2 l3 l4 l5 l6 l7 : am_V) (a : Int) (st : List am_V) (E : am_E) (u : am_M), Rn m_A_item 29 [l0, l1, l2, l3, l4, l5, l6, l7] (vI a :: st) E u = Rn m_A_item 31 [l0, l1, l2, l3, l4, l5, am_fx l6, vI a] st E u) ∧
  (∀ (l0 l1 l2 l3 l4 l5 l6 : am_V) (a : Int) (st : List am_V) (E : am_E) (u : am_M), Rn m_A_item 31 [l0, l1, l2, l3, l4, l5, l6, vI a] st E u = Rn m_A_item 33 [l0, l1, l2, l3, l4, l5, l6, vI a] (vI a :: st) E u) ∧
  (∀ (l0 l1 l2 l3 l4 l5 l6 l7 : am_V) (a : Int) (st : List am_V) (E : am_E) (u : am_M), Rn m_A_item 33 [l0, l1, l2, l3, l4, l5, l6, l7] (vI a :: st) E u = if a = 0 then Rn m_A_item 39 [l0, l1, l2, l3, l4, l5, l6, l7] st E u else Rn m_A_item 36 [l0, l1, l2, l3, l4, l5, l6, l7] st E u) ∧
  (∀ (l0 l1 l2 l3 l4 l5 l6 : am_V) (a : Int) (st : List am_V) (E : am_E) (u : am_M), Rn m_A_item 36 [l0, l1, l2, l3, l4, l5, l6, vI a] st E u = Rn m_A_item 38 [l0, l1, l2, l3, l4, l5, l6, vI a] (vI a :: st) E u) ∧
  (∀ (l0 l1 l2 l3 l4 l5 l6 l7 : am_V) (a : Int) (E : am_E) (u : am_M), Rn m_A_item 38 [l0, l1, l2, l3, l4, l5, l6, l7] [vI a] E u = some (some (vI a), E, u)) ∧
  (∀ (l0 l1 l2 l3 l4 l5 l7 : am_V) (a : Option Nat) (st : List am_V) (E : am_E) (u : am_M), Rn m_A_item 39 [l0, l1, l2, l3, l4, l5, vR a, l7] st E u = Rn m_A_item 41 [l0, l1, l2, l3, l4, l5, vR a, l7] (vR a :: st) E u) ∧
  (∀ (l0 l1 l2 l4 l5 l6 l7 : am_V) (a : Int) (st : List am_V) (E : am_E) (u : am_M), Rn m_A_item 41 [l0, l1, l2, vI a, l4, l5, l6, l7] st E u = Rn m_A_item 42 [l0, l1, l2, vI a, l4, l5, l6, l7] (vI a :: st) E u) ∧
  (∀ (l0 l1 l2 l3 l5 l6 l7 : am_V) (a : Int) (st : List am_V) (E : am_E) (u : am_M), Rn m_A_item 42 [l0, l1, l2, l3, vL a, l5, l6, l7] st E u = Rn m_A_item 44 [l0, l1, l2, l3, vL a, l5, l6, l7] (vL a :: st) E u) ∧
  (∀ (l0 l1 l2 l3 l4 l5 l6 l7 : am_V) (k : Nat) (a0 : Int) (a1 : Int) (E : am_E) (u : am_M) (hE : SE E) (hk : shB k), Rn m_A_item 44 [l0, l1, l2, l3, l4, l5, l6, l7] [vL a1, vI a0, vR (some k)] E u = bdV (Rn m_S_writes 0 [vR (some k), vI a0, vL a1, vB false] [] E u) (KV m_A_item 47 [l0, l1, l2, l3, l4, l5, l6, l7] [])) ∧
  (∀ (l0 l1 l2 l3 l4 l5 l6 l7 : am_V) (st : List am_V) (E : am_E) (u : am_M), Rn m_A_item 47 [l0, l1, l2, l3, l4, l5, l6, l7] st E u = Rn m_A_item 48 [l0, l1, l2, l3, l4, l5, l6, l7] (vI 1 :: st) E u) ∧
  (∀ (l0 l1 l2 l3 l4 l5 l6 l7 : am_V) (a : Int) (E : am_E) (u : am_M), Rn m_A_item 48 [l0, l1, l2, l3, l4, l5, l6, l7] [vI a] E u = some (some (vI a), E, u)) :=
  ⟨fun l1 l2 l3 l4 l5 l6 l7 a st E u => q_go (by decide +kernel : am_Pg 203 0 = some (.aload_n 0, 1, [], 0)) rfl,
  fun l0 l2 l3 l4 l5 l6 l7 a st E u => q_go (by decide +kernel : am_Pg 203 1 = some (.iload_n 1, 1, [], 0)) rfl,
  fun l0 l1 l2 l3 l4 l5 l6 l7 a0  E u hE => q_cR (by decide +kernel : am_Pg 203 2 = some (.invokevirtual 250, 3, [3, 181, 2, 4, 8, 0], 0)) (am_call_V (a := [vI a0]) (st' := []) (Nat.le_of_ble_eq_true rfl) rfl (SE_k4 hE)) (by decide +kernel : am_Lm m_A_sheetOf = 2) (Nat.le_of_ble_eq_true rfl) rfl (by decide +kernel),
  fun l0 l1 l2 l3 l4 l5 l6 l7 a st E u => q_go (by decide +kernel : am_Pg 203 5 = some (.astore 6, 2, [], 0)) rfl,
  fun l0 l1 l2 l3 l4 l5 l7 a st E u => q_go (by decide +kernel : am_Pg 203 7 = some (.aload 6, 2, [], 0)) rfl,
  fun l0 l1 l2 l3 l4 l5 l6 l7 st E u => q_go (by decide +kernel : am_Pg 203 9 = some (.ifnull 10, 3, [], 0)) rfl,
  fun l0 l1 l2 l3 l4 l5 l6 l7 a st E u => q_go (by decide +kernel : am_Pg 203 9 = some (.ifnull 10, 3, [], 0)) rfl,
  fun l0 l1 l3 l4 l5 l6 l7 a st E u => q_go (by decide +kernel : am_Pg 203 12 = some (.iload_n 2, 1, [], 0)) rfl,
  fun l0 l1 l2 l3 l4 l5 l6 l7 a0  E u => q_cI (by decide +kernel : am_Pg 203 13 = some (.invokestatic 254, 3, [2, 182, 1, 0], 0)) (am_call_S (f := fun _ _ => true) (a := [vI a0]) (st' := []) (Nat.le_of_ble_eq_true rfl) rfl rfl) (by decide +kernel : am_Lm m_A_isLane = 1) (Nat.le_of_ble_eq_true rfl) rfl (by decide +kernel),
  fun l0 l1 l2 l3 l4 l5 l6 l7 a st E u => q_if_ne (tgt := 21) (by decide +kernel : am_Pg 203 16 = some (.ifCond .ne 5, 3, [], 0)) (by decide),
  fun l0 l1 l2 l3 l4 l5 l6 l7 st E u => q_go (by decide +kernel : am_Pg 203 19 = some (.iconst (-1), 1, [], 0)) rfl,
  fun l0 l1 l2 l3 l4 l5 l6 l7 a E u => q_ret (by decide +kernel : am_Pg 203 20 = some (.ireturn, 1, [], 0)) rfl,
  fun l0 l1 l2 l3 l4 l5 l7 a st E u => q_go (by decide +kernel : am_Pg 203 21 = some (.aload 6, 2, [], 0)) rfl,
  fun l0 l1 l3 l4 l5 l6 l7 a st E u => q_go (by decide +kernel : am_Pg 203 23 = some (.iload_n 2, 1, [], 0)) rfl,
  fun l0 l1 l2 l4 l5 l6 l7 a st E u => q_go (by decide +kernel : am_Pg 203 24 = some (.iload_n 3, 1, [], 0)) rfl,
  fun l0 l1 l2 l3 l4 l5 l6 l7 st E u => q_go (by decide +kernel : am_Pg 203 25 = some (.iconst 1, 1, [], 0)) rfl,
  fun l0 l1 l2 l3 l4 l5 l6 l7 k a0 a1 a2  E u hE hk => q_cI (by decide +kernel : am_Pg 203 26 = some (.invokevirtual 257, 3, [3, 184, 4, 2, 4, 1], 0)) (am_call_V (a := [vI a0, vI a1, vI a2]) (st' := []) (Nat.le_of_ble_eq_true rfl) rfl (SE_k2 hE hk)) (by decide +kernel : am_Lm m_S_refusal = 4) (Nat.le_of_ble_eq_true rfl) rfl (by decide +kernel),
  fun l0 l1 l2 l3 l4 l5 l6 l7 a st E u => q_go (by decide +kernel : am_Pg 203 29 = some (.istore 7, 2, [], 0)) rfl,
  fun l0 l1 l2 l3 l4 l5 l6 a st E u => q_go (by decide +kernel : am_Pg 203 31 = some (.iload 7, 2, [], 0)) rfl,
  fun l0 l1 l2 l3 l4 l5 l6 l7 a st E u => q_if_eq (tgt := 39) (by decide +kernel : am_Pg 203 33 = some (.ifCond .eq 6, 3, [], 0)) (by decide),
  fun l0 l1 l2 l3 l4 l5 l6 a st E u => q_go (by decide +kernel : am_Pg 203 36 = some (.iload 7, 2, [], 0)) rfl,
  fun l0 l1 l2 l3 l4 l5 l6 l7 a E u => q_ret (by decide +kernel : am_Pg 203 38 = some (.ireturn, 1, [], 0)) rfl,
  fun l0 l1 l2 l3 l4 l5 l7 a st E u => q_go (by decide +kernel : am_Pg 203 39 = some (.aload 6, 2, [], 0)) rfl,
  fun l0 l1 l2 l4 l5 l6 l7 a st E u => q_go (by decide +kernel : am_Pg 203 41 = some (.iload_n 3, 1, [], 0)) rfl,
  fun l0 l1 l2 l3 l5 l6 l7 a st E u => q_go (by decide +kernel : am_Pg 203 42 = some (.lload 4, 2, [], 0)) rfl,
  fun l0 l1 l2 l3 l4 l5 l6 l7 k a0 a1  E u hE hk => q_cV (by decide +kernel : am_Pg 203 44 = some (.invokevirtual 267, 3, [3, 194, 3, 2, 4, 1], 0)) (am_call_V (a := [vI a0, vL a1]) (st' := []) (Nat.le_of_ble_eq_true rfl) rfl (SE_k2 hE hk)) (by decide +kernel : am_Lm m_S_writes = 4) (Nat.le_of_ble_eq_true rfl) rfl (by decide +kernel),
  fun l0 l1 l2 l3 l4 l5 l6 l7 st E u => q_go (by decide +kernel : am_Pg 203 47 = some (.iconst 1, 1, [], 0)) rfl,
  fun l0 l1 l2 l3 l4 l5 l6 l7 a E u => q_ret (by decide +kernel : am_Pg 203 48 = some (.ireturn, 1, [], 0)) rfl⟩
theorem x_A_copy :
  (∀ (l1 l2 l3 l4 l5 l6 l7 : am_V) (a : Option Nat) (st : List am_V) (E : am_E) (u : am_M), Rn m_A_copy 0 [vR a, l1, l2, l3, l4, l5, l6, l7] st E u = Rn m_A_copy 1 [vR a, l1, l2, l3, l4, l5, l6, l7] (vR a :: st) E u) ∧
  (∀ (l0 l2 l3 l4 l5 l6 l7 : am_V) (a : Int) (st : List am_V) (E : am_E) (u : am_M), Rn m_A_copy 1 [l0, vI a, l2, l3, l4, l5, l6, l7] st E u = Rn m_A_copy 2 [l0, vI a, l2, l3, l4, l5, l6, l7] (vI a :: st) E u) ∧
  (∀ (l0 l1 l2 l3 l4 l5 l6 l7 : am_V) (a0 : Int) (E : am_E) (u : am_M) (hE : SE E), Rn m_A_copy 2 [l0, l1, l2, l3, l4, l5, l6, l7] [vI a0, vR (some 0)] E u = bdR (Rn m_A_sheetOf 0 [vR (some 0), vI a0] [] E u) (KR m_A_copy 5 [l0, l1, l2, l3, l4, l5, l6, l7] [])) ∧
  (∀ (l0 l1 l2 l3 l4 l5 l6 l7 : am_V) (a : Option Nat) (st : List am_V) (E : am_E) (u : am_M), Rn m_A_copy 5 [l0, l1, l2, l3, l4, l5, l6, l7] (vR a :: st) E u = Rn m_A_copy 7 [l0, l1, l2, l3, l4, am_fx l5, vR a, l7] st E u) ∧
  (∀ (l1 l2 l3 l4 l5 l6 l7 : am_V) (a : Option Nat) (st : List am_V) (E : am_E) (u : am_M), Rn m_A_copy 7 [vR a, l1, l2, l3, l4, l5, l6, l7] st E u = Rn m_A_copy 8 [vR a, l1, l2, l3, l4, l5, l6, l7] (vR a :: st) E u) ∧
  (∀ (l0 l1 l2 l4 l5 l6 l7 : am_V) (a : Int) (st : List am_V) (E : am_E) (u : am_M), Rn m_A_copy 8 [l0, l1, l2, vI a, l4, l5, l6, l7] st E u = Rn m_A_copy 9 [l0, l1, l2, vI a, l4, l5, l6, l7] (vI a :: st) E u) ∧
  (∀ (l0 l1 l2 l3 l4 l5 l6 l7 : am_V) (a0 : Int) (E : am_E) (u : am_M) (hE : SE E), Rn m_A_copy 9 [l0, l1, l2, l3, l4, l5, l6, l7] [vI a0, vR (some 0)] E u = bdR (Rn m_A_sheetOf 0 [vR (some 0), vI a0] [] E u) (KR m_A_copy 12 [l0, l1, l2, l3, l4, l5, l6, l7] [])) ∧
  (∀ (l0 l1 l2 l3 l4 l5 l6 l7 : am_V) (a : Option Nat) (st : List am_V) (E : am_E) (u : am_M), Rn m_A_copy 12 [l0, l1, l2, l3, l4, l5, l6, l7] (vR a :: st) E u = Rn m_A_copy 14 [l0, l1, l2, l3, l4, l5, am_fx l6, vR a] st E u) ∧
  (∀ (l0 l1 l2 l3 l4 l5 l7 : am_V) (a : Option Nat) (st : List am_V) (E : am_E) (u : am_M), Rn m_A_copy 14 [l0, l1, l2, l3, l4, l5, vR a, l7] st E u = Rn m_A_copy 16 [l0, l1, l2, l3, l4, l5, vR a, l7] (vR a :: st) E u) ∧
  (∀ (l0 l1 l2 l3 l4 l5 l6 l7 : am_V) (st : List am_V) (E : am_E) (u : am_M), Rn m_A_copy 16 [l0, l1, l2, l3, l4, l5, l6, l7] (vR none :: st) E u = Rn m_A_copy 24 [l0, l1, l2, l3, l4, l5, l6, l7] st E u) ∧
  (∀ (l0 l1 l2 l3 l4 l5 l6 l7 : am_V) (a : Nat) (st : List am_V) (E : am_E) (u : am_M), Rn m_A_copy 16 [l0, l1, l2, l3, l4, l5, l6, l7] (vR (some a) :: st) E u = Rn m_A_copy 19 [l0, l1, l2, l3, l4, l5, l6, l7] st E u) ∧
  (∀ (l0 l1 l2 l3 l4 l5 l6 : am_V) (a : Option Nat) (st : List am_V) (E : am_E) (u : am_M), Rn m_A_copy 19 [l0, l1, l2, l3, l4, l5, l6, vR a] st E u = Rn m_A_copy 21 [l0, l1, l2, l3, l4, l5, l6, vR a] (vR a :: st) E u) ∧
  (∀ (l0 l1 l2 l3 l4 l5 l6 l7 : am_V) (st : List am_V) (E : am_E) (u : am_M), Rn m_A_copy 21 [l0, l1, l2, l3, l4, l5, l6, l7] (vR none :: st) E u = Rn m_A_copy 24 [l0, l1, l2, l3, l4, l5, l6, l7] st E u) ∧
  (∀ (l0 l1 l2 l3 l4 l5 l6 l7 : am_V) (a : Nat) (st : List am_V) (E : am_E) (u : am_M), Rn m_A_copy 21 [l0, l1, l2, l3, l4, l5, l6, l7] (vR (some a) :: st) E u = Rn m_A_copy 26 [l0, l1, l2, l3, l4, l5, l6, l7] st E u) ∧
  (∀ (l0 l1 l2 l3 l4 l5 l6 l7 : am_V) (st : List am_V) (E : am_E) (u : am_M), Rn m_A_copy 24 [l0, l1, l2, l3, l4, l5, l6, l7] st E u = Rn m_A_copy 25 [l0, l1, l2, l3, l4, l5, l6, l7] (vI (-1) :: st) E u) ∧
  (∀ (l0 l1 l2 l3 l4 l5 l6 l7 : am_V) (a : Int) (E : am_E) (u : am_M), Rn m_A_copy 25 [l0, l1, l2, l3, l4, l5, l6, l7] [vI a] E u = some (some (vI a), E, u)) ∧
  (∀ (l0 l1 l2 l3 l4 l5 l7 : am_V) (a : Option Nat) (st : List am_V) (E : am_E) (u : am_M), Rn m_A_copy 26 [l0, l1, l2, l3, l4, l5, vR a, l7] st E u = Rn m_A_copy 28 [l0, l1, l2, l3, l4, l5, vR a, l7] (vR a :: st) E u) ∧
  (∀ (l0 l1 l2 l3 l4 l5 l6 l7 : am_V) (k : Nat) (st : List am_V) (E : am_E) (u : am_M) (hE : SE E) (hk : shB k), Rn m_A_copy 28 [l0, l1, l2, l3, l4, l5, l6, l7] (vR (some k) :: st) E u = Rn m_A_copy 31 [l0, l1, l2, l3, l4, l5, l6, l7] (vI (u k 1) :: st) E u) ∧
  (∀ (l0 l1 l2 l3 l4 l5 l6 l7 : am_V) (a : Int) (st : List am_V) (E : am_E) (u : am_M), Rn m_A_copy 31 [l0, l1, l2, l3, l4, l5, l6, l7] (vI a :: st) E u = if a = 0 then Rn m_A_copy 34 [l0, l1, l2, l3, l4, l5, l6, l7] st E u else Rn m_A_copy 42 [l0, l1, l2, l3, l4, l5, l6, l7] st E u) ∧
  (∀ (l0 l1 l2 l3 l4 l5 l6 : am_V) (a : Option Nat) (st : List am_V) (E : am_E) (u : am_M), Rn m_A_copy 34 [l0, l1, l2, l3, l4, l5, l6, vR a] st E u = Rn m_A_copy 36 [l0, l1, l2, l3, l4, l5, l6, vR a] (vR a :: st) E u) ∧
  (∀ (l0 l1 l2 l3 l4 l5 l6 l7 : am_V) (k : Nat) (st : List am_V) (E : am_E) (u : am_M) (hE : SE E) (hk : shB k), Rn m_A_copy 36 [l0, l1, l2, l3, l4, l5, l6, l7] (vR (some k) :: st) E u = Rn m_A_copy 39 [l0, l1, l2, l3, l4, l5, l6, l7] (vI (u k 1) :: st) E u) ∧
  (∀ (l0 l1 l2 l3 l4 l5 l6 l7 : am_V) (a : Int) (st : List am_V) (E : am_E) (u : am_M), Rn m_A_copy 39 [l0, l1, l2, l3, l4, l5, l6, l7] (vI a :: st) E u = if a = 0 then Rn m_A_copy 45 [l0, l1, l2, l3, l4, l5, l6, l7] st E u else Rn m_A_copy 42 [l0, l1, l2, l3, l4, l5, l6, l7] st E u) ∧
  (∀ (l0 l1 l2 l3 l4 l5 l6 l7 : am_V) (st : List am_V) (E : am_E) (u : am_M), Rn m_A_copy 42 [l0, l1, l2, l3, l4, l5, l6, l7] st E u = Rn m_A_copy 44 [l0, l1, l2, l3, l4, l5, l6, l7] (vI (-11) :: st) E u) ∧
  (∀ (l0 l1 l2 l3 l4 l5 l6 l7 : am_V) (a : Int) (E : am_E) (u : am_M), Rn m_A_copy 44 [l0, l1, l2, l3, l4, l5, l6, l7] [vI a] E u = some (some (vI a), E, u)) ∧
  (∀ (l0 l1 l2 l3 l4 l5 l7 : am_V) (a : Option Nat) (st : List am_V) (E : am_E) (u : am_M), Rn m_A_copy 45 [l0, l1, l2, l3, l4, l5, vR a, l7] st E u = Rn m_A_copy 47 [l0, l1, l2, l3, l4, l5, vR a, l7] (vR a :: st) E u) ∧
  (∀ (l0 l1 l2 l3 l4 l5 l6 l7 : am_V) (k : Nat) (st : List am_V) (E : am_E) (u : am_M) (hE : SE E) (hk : shB k), Rn m_A_copy 47 [l0, l1, l2, l3, l4, l5, l6, l7] (vR (some k) :: st) E u = Rn m_A_copy 50 [l0, l1, l2, l3, l4, l5, l6, l7] (vI (u k 2) :: st) E u) ∧
  (∀ (l0 l1 l2 l3 l4 l5 l6 : am_V) (a : Option Nat) (st : List am_V) (E : am_E) (u : am_M), Rn m_A_copy 50 [l0, l1, l2, l3, l4, l5, l6, vR a] st E u = Rn m_A_copy 52 [l0, l1, l2, l3, l4, l5, l6, vR a] (vR a :: st) E u) ∧
  (∀ (l0 l1 l2 l3 l4 l5 l6 l7 : am_V) (k : Nat) (st : List am_V) (E : am_E) (u : am_M) (hE : SE E) (hk : shB k), Rn m_A_copy 52 [l0, l1, l2, l3, l4, l5, l6, l7] (vR (some k) :: st) E u = Rn m_A_copy 55 [l0, l1, l2, l3, l4, l5, l6, l7] (vI (u k 2) :: st) E u) ∧
  (∀ (l0 l1 l2 l3 l4 l5 l6 l7 : am_V) (a b : Int) (st : List am_V) (E : am_E) (u : am_M), Rn m_A_copy 55 [l0, l1, l2, l3, l4, l5, l6, l7] (vI b :: vI a :: st) E u = if a = b then Rn m_A_copy 61 [l0, l1, l2, l3, l4, l5, l6, l7] st E u else Rn m_A_copy 58 [l0, l1, l2, l3, l4, l5, l6, l7] st E u) ∧
  (∀ (l0 l1 l2 l3 l4 l5 l6 l7 : am_V) (st : List am_V) (E : am_E) (u : am_M), Rn m_A_copy 58 [l0, l1, l2, l3, l4, l5, l6, l7] st E u = Rn m_A_copy 60 [l0, l1, l2, l3, l4, l5, l6, l7] (vI (-12) :: st) E u) ∧
  (∀ (l0 l1 l2 l3 l4 l5 l6 l7 : am_V) (a : Int) (E : am_E) (u : am_M), Rn m_A_copy 60 [l0, l1, l2, l3, l4, l5, l6, l7] [vI a] E u = some (some (vI a), E, u)) ∧
  (∀ (l0 l1 l2 l3 l4 l5 l7 : am_V) (a : Option Nat) (st : List am_V) (E : am_E) (u : am_M), Rn m_A_copy 61 [l0, l1, l2, l3, l4, l5, vR a, l7] st E u = Rn m_A_copy 63 [l0, l1, l2, l3, l4, l5, vR a, l7] (vR a :: st) E u) ∧
  (∀ (l0 l1 l3 l4 l5 l6 l7 : am_V) (a : Int) (st : List am_V) (E : am_E) (u : am_M), Rn m_A_copy 63 [l0, l1, vI a, l3, l4, l5, l6, l7] st E u = Rn m_A_copy 64 [l0, l1, vI a, l3, l4, l5, l6, l7] (vI a :: st) E u) ∧
  (∀ (l0 l1 l2 l3 l4 l6 l7 : am_V) (a : Int) (st : List am_V) (E : am_E) (u : am_M), Rn m_A_copy 64 [l0, l1, l2, l3, l4, vI a, l6, l7] st E u = Rn m_A_copy 66 [l0, l1, l2, l3, l4, vI a, l6, l7] (vI a :: st) E u) ∧
  (∀ (l0 l1 l2 l3 l4 l5 l6 l7 : am_V) (k : Nat) (a0 : Int) (a1 : Int) (E : am_E) (u : am_M) (hE : SE E) (hk : shB k), Rn m_A_copy 66 [l0, l1, l2, l3, l4, l5, l6, l7] [vI a1, vI a0, vR (some k)] E u = bdI (Rn m_S_hasItems 0 [vR (some k), vI a0, vI a1] [] E u) (KI m_A_copy 69 [l0, l1, l2, l3, l4, l5, l6, l7] [])) ∧
  (∀ (l0 l1 l2 l3 l4 l5 l6 l7 : am_V) (a : Int) (st : List am_V) (E : am_E) (u : am_M), Rn m_A_copy 69 [l0, l1, l2, l3, l4, l5, l6, l7] (vI a :: st) E u = if a = 0 then Rn m_A_copy 84 [l0, l1, l2, l3, l4, l5, l6, l7] st E u else Rn m_A_copy 72 [l0, l1, l2, l3, l4, l5, l6, l7] st E u) ∧
  (∀ (l0 l1 l2 l3 l4 l5 l6 : am_V) (a : Option Nat) (st : List am_V) (E : am_E) (u : am_M), Rn m_A_copy 72 [l0, l1, l2, l3, l4, l5, l6, vR a] st E u = Rn m_A_copy 74 [l0, l1, l2, l3, l4, l5, l6, vR a] (vR a :: st) E u) ∧
  (∀ (l0 l1 l2 l3 l5 l6 l7 : am_V) (a : Int) (st : List am_V) (E : am_E) (u : am_M), Rn m_A_copy 74 [l0, l1, l2, l3, vI a, l5, l6, l7] st E u = Rn m_A_copy 76 [l0, l1, l2, l3, vI a, l5, l6, l7] (vI a :: st) E u) ∧
  (∀ (l0 l1 l2 l3 l4 l6 l7 : am_V) (a : Int) (st : List am_V) (E : am_E) (u : am_M), Rn m_A_copy 76 [l0, l1, l2, l3, l4, vI a, l6, l7] st E u = Rn m_A_copy 78 [l0, l1, l2, l3, l4, vI a, l6, l7] (vI a :: st) E u) ∧
  (∀ (l0 l1 l2 l3 l4 l5 l6 l7 : am_V) (k : Nat) (a0 : Int) (a1 : Int) (E : am_E) (u : am_M) (hE : SE E) (hk : shB k), Rn m_A_copy 78 [l0, l1, l2, l3, l4, l5, l6, l7] [vI a1, vI a0, vR (some k)] E u = bdI (Rn m_S_hasItems 0 [vR (some k), vI a0, vI a1] [] E u) (KI m_A_copy 81 [l0, l1, l2, l3, l4, l5, l6, l7] [])) ∧
  (∀ (l0 l1 l2 l3 l4 l5 l6 l7 : am_V) (a : Int) (st : List am_V) (E : am_E) (u : am_M), Rn m_A_copy 81 [l0, l1, l2, l3, l4, l5, l6, l7] (vI a :: st) E u = if a = 0 then Rn m_A_copy 84 [l0, l1, l2, l3, l4, l5, l6, l7] st E u else Rn m_A_copy 87 [l0, l1, l2, l3, l4, l5, l6, l7] st E u) ∧
  (∀ (l0 l1 l2 l3 l4 l5 l6 l7 : am_V) (st : List am_V) (E : am_E) (u : am_M), Rn m_A_copy 84 [l0, l1, l2, l3, l4, l5, l6, l7] st E u = Rn m_A_copy 86 [l0, l1, l2, l3, l4, l5, l6, l7] (vI (-13) :: st) E u) ∧
  (∀ (l0 l1 l2 l3 l4 l5 l6 l7 : am_V) (a : Int) (E : am_E) (u : am_M), Rn m_A_copy 86 [l0, l1, l2, l3, l4, l5, l6, l7] [vI a] E u = some (some (vI a), E, u)) ∧
  (∀ (l0 l1 l2 l3 l4 l5 l6 : am_V) (a : Option Nat) (st : List am_V) (E : am_E) (u : am_M), Rn m_A_copy 87 [l0, l1, l2, l3, l4, l5, l6, vR a] st E u = Rn m_A_copy 89 [l0, l1, l2, l3, l4, l5, l6, vR a] (vR a :: st) E u) ∧
  (∀ (l0 l1 l2 l3 l5 l6 l7 : am_V) (a : Int) (st : List am_V) (E : am_E) (u : am_M), Rn m_A_copy 89 [l0, l1, l2, l3, vI a, l5, l6, l7] st E u = Rn m_A_copy 91 [l0, l1, l2, l3, vI a, l5, l6, l7] (vI a :: st) E u) ∧
  (∀ (l0 l1 l2 l3 l4 l5 l7 : am_V) (a : Option Nat) (st : List am_V) (E : am_E) (u : am_M), Rn m_A_copy 91 [l0, l1, l2, l3, l4, l5, vR a, l7] st E u = Rn m_A_copy 93 [l0, l1, l2, l3, l4, l5, vR a, l7] (vR a :: st) E u) ∧
  (∀ (l0 l1 l3 l4 l5 l6 l7 : am_V) (a : Int) (st : List am_V) (E : am_E) (u : am_M), Rn m_A_copy 93 [l0, l1, vI a, l3, l4, l5, l6, l7] st E u = Rn m_A_copy 94 [l0, l1, vI a, l3, l4, l5, l6, l7] (vI a :: st) E u) ∧
  (∀ (l0 l1 l2 l3 l4 l6 l7 : am_V) (a : Int) (st : List am_V) (E : am_E) (u : am_M), Rn m_A_copy 94 [l0, l1, l2, l3, l4, vI a, l6, l7] st E u = Rn m_A_copy 96 [l0, l1, l2, l3, l4, vI a, l6, l7] (vI a :: st) E u) ∧
  (∀ (l0 l1 l2 l3 l4 l5 l6 l7 : am_V) (k : Nat) (a0 : Int) (a1 : Option Nat) (a2 : Int) (a3 : Int) (E : am_E) (u : am_M) (hE : SE E) (hk : shB k), Rn m_A_copy 96 [l0, l1, l2, l3, l4, l5, l6, l7] [vI a3, vI a2, vR a1, vI a0, vR (some k)] E u = bdV (Rn m_S_takes 0 [vR (some k), vI a0, vR a1, vI a2, vI a3] [] E u) (KV m_A_copy 99 [l0, l1, l2, l3, l4, l5, l6, l7] [])) ∧
  (∀ (l0 l1 l2 l3 l4 l6 l7 : am_V) (a : Int) (st : List am_V) (E : am_E) (u : am_M), Rn m_A_copy 99 [l0, l1, l2, l3, l4, vI a, l6, l7] st E u = Rn m_A_copy 101 [l0, l1, l2, l3, l4, vI a, l6, l7] (vI a :: st) E u) ∧
  (∀ (l0 l1 l2 l3 l4 l5 l6 l7 : am_V) (a : Int) (E : am_E) (u : am_M), Rn m_A_copy 101 [l0, l1, l2, l3, l4, l5, l6, l7] [vI a] E u = some (some (vI a), E, u)) :=
  ⟨fun l1 l2 l3 l4 l5 l6 l7 a st E u => q_go (by decide +kernel : am_Pg 206 0 = some (.aload_n 0, 1, [], 0)) rfl,
  fun l0 l2 l3 l4 l5 l6 l7 a st E u => q_go (by decide +kernel : am_Pg 206 1 = some (.iload_n 1, 1, [], 0)) rfl,
  fun l0 l1 l2 l3 l4 l5 l6 l7 a0  E u hE => q_cR (by decide +kernel : am_Pg 206 2 = some (.invokevirtual 250, 3, [3, 181, 2, 4, 8, 0], 0)) (am_call_V (a := [vI a0]) (st' := []) (Nat.le_of_ble_eq_true rfl) rfl (SE_k4 hE)) (by decide +kernel : am_Lm m_A_sheetOf = 2) (Nat.le_of_ble_eq_true rfl) rfl (by decide +kernel),
  fun l0 l1 l2 l3 l4 l5 l6 l7 a st E u => q_go (by decide +kernel : am_Pg 206 5 = some (.astore 6, 2, [], 0)) rfl,
  fun l1 l2 l3 l4 l5 l6 l7 a st E u => q_go (by decide +kernel : am_Pg 206 7 = some (.aload_n 0, 1, [], 0)) rfl,
  fun l0 l1 l2 l4 l5 l6 l7 a st E u => q_go (by decide +kernel : am_Pg 206 8 = some (.iload_n 3, 1, [], 0)) rfl,
  fun l0 l1 l2 l3 l4 l5 l6 l7 a0  E u hE => q_cR (by decide +kernel : am_Pg 206 9 = some (.invokevirtual 250, 3, [3, 181, 2, 4, 8, 0], 0)) (am_call_V (a := [vI a0]) (st' := []) (Nat.le_of_ble_eq_true rfl) rfl (SE_k4 hE)) (by decide +kernel : am_Lm m_A_sheetOf = 2) (Nat.le_of_ble_eq_true rfl) rfl (by decide +kernel),
  fun l0 l1 l2 l3 l4 l5 l6 l7 a st E u => q_go (by decide +kernel : am_Pg 206 12 = some (.astore 7, 2, [], 0)) rfl,
  fun l0 l1 l2 l3 l4 l5 l7 a st E u => q_go (by decide +kernel : am_Pg 206 14 = some (.aload 6, 2, [], 0)) rfl,
  fun l0 l1 l2 l3 l4 l5 l6 l7 st E u => q_go (by decide +kernel : am_Pg 206 16 = some (.ifnull 8, 3, [], 0)) rfl,
  fun l0 l1 l2 l3 l4 l5 l6 l7 a st E u => q_go (by decide +kernel : am_Pg 206 16 = some (.ifnull 8, 3, [], 0)) rfl,
  fun l0 l1 l2 l3 l4 l5 l6 a st E u => q_go (by decide +kernel : am_Pg 206 19 = some (.aload 7, 2, [], 0)) rfl,
  fun l0 l1 l2 l3 l4 l5 l6 l7 st E u => q_go (by decide +kernel : am_Pg 206 21 = some (.ifnonnull 5, 3, [], 0)) rfl,
  fun l0 l1 l2 l3 l4 l5 l6 l7 a st E u => q_go (by decide +kernel : am_Pg 206 21 = some (.ifnonnull 5, 3, [], 0)) rfl,
  fun l0 l1 l2 l3 l4 l5 l6 l7 st E u => q_go (by decide +kernel : am_Pg 206 24 = some (.iconst (-1), 1, [], 0)) rfl,
  fun l0 l1 l2 l3 l4 l5 l6 l7 a E u => q_ret (by decide +kernel : am_Pg 206 25 = some (.ireturn, 1, [], 0)) rfl,
  fun l0 l1 l2 l3 l4 l5 l7 a st E u => q_go (by decide +kernel : am_Pg 206 26 = some (.aload 6, 2, [], 0)) rfl,
  fun l0 l1 l2 l3 l4 l5 l6 l7 k st E u hE hk => q_gfI (by decide +kernel : am_Pg 206 28 = some (.getfield 274, 3, [2, 4, 1, 1], 0)) (SE_k2 hE hk) (by decide),
  fun l0 l1 l2 l3 l4 l5 l6 l7 a st E u => q_if_ne (tgt := 42) (by decide +kernel : am_Pg 206 31 = some (.ifCond .ne 11, 3, [], 0)) (by decide),
  fun l0 l1 l2 l3 l4 l5 l6 a st E u => q_go (by decide +kernel : am_Pg 206 34 = some (.aload 7, 2, [], 0)) rfl,
  fun l0 l1 l2 l3 l4 l5 l6 l7 k st E u hE hk => q_gfI (by decide +kernel : am_Pg 206 36 = some (.getfield 274, 3, [2, 4, 1, 1], 0)) (SE_k2 hE hk) (by decide),
  fun l0 l1 l2 l3 l4 l5 l6 l7 a st E u => q_if_eq (tgt := 45) (by decide +kernel : am_Pg 206 39 = some (.ifCond .eq 6, 3, [], 0)) (by decide),
  fun l0 l1 l2 l3 l4 l5 l6 l7 st E u => q_go (by decide +kernel : am_Pg 206 42 = some (.bipush (-11), 2, [], 0)) rfl,
  fun l0 l1 l2 l3 l4 l5 l6 l7 a E u => q_ret (by decide +kernel : am_Pg 206 44 = some (.ireturn, 1, [], 0)) rfl,
  fun l0 l1 l2 l3 l4 l5 l7 a st E u => q_go (by decide +kernel : am_Pg 206 45 = some (.aload 6, 2, [], 0)) rfl,
  fun l0 l1 l2 l3 l4 l5 l6 l7 k st E u hE hk => q_gfI (by decide +kernel : am_Pg 206 47 = some (.getfield 280, 3, [2, 4, 2, 1], 0)) (SE_k2 hE hk) (by decide),
  fun l0 l1 l2 l3 l4 l5 l6 a st E u => q_go (by decide +kernel : am_Pg 206 50 = some (.aload 7, 2, [], 0)) rfl,
  fun l0 l1 l2 l3 l4 l5 l6 l7 k st E u hE hk => q_gfI (by decide +kernel : am_Pg 206 52 = some (.getfield 280, 3, [2, 4, 2, 1], 0)) (SE_k2 hE hk) (by decide),
  fun l0 l1 l2 l3 l4 l5 l6 l7 a b st E u => q_icmp_eq (tgt := 61) (by decide +kernel : am_Pg 206 55 = some (.if_icmp .eq 6, 3, [], 0)) (by decide),
  fun l0 l1 l2 l3 l4 l5 l6 l7 st E u => q_go (by decide +kernel : am_Pg 206 58 = some (.bipush (-12), 2, [], 0)) rfl,
  fun l0 l1 l2 l3 l4 l5 l6 l7 a E u => q_ret (by decide +kernel : am_Pg 206 60 = some (.ireturn, 1, [], 0)) rfl,
  fun l0 l1 l2 l3 l4 l5 l7 a st E u => q_go (by decide +kernel : am_Pg 206 61 = some (.aload 6, 2, [], 0)) rfl,
  fun l0 l1 l3 l4 l5 l6 l7 a st E u => q_go (by decide +kernel : am_Pg 206 63 = some (.iload_n 2, 1, [], 0)) rfl,
  fun l0 l1 l2 l3 l4 l6 l7 a st E u => q_go (by decide +kernel : am_Pg 206 64 = some (.iload 5, 2, [], 0)) rfl,
  fun l0 l1 l2 l3 l4 l5 l6 l7 k a0 a1  E u hE hk => q_cI (by decide +kernel : am_Pg 206 66 = some (.invokevirtual 283, 3, [3, 183, 3, 2, 4, 1], 0)) (am_call_V (a := [vI a0, vI a1]) (st' := []) (Nat.le_of_ble_eq_true rfl) rfl (SE_k2 hE hk)) (by decide +kernel : am_Lm m_S_hasItems = 3) (Nat.le_of_ble_eq_true rfl) rfl (by decide +kernel),
  fun l0 l1 l2 l3 l4 l5 l6 l7 a st E u => q_if_eq (tgt := 84) (by decide +kernel : am_Pg 206 69 = some (.ifCond .eq 15, 3, [], 0)) (by decide),
  fun l0 l1 l2 l3 l4 l5 l6 a st E u => q_go (by decide +kernel : am_Pg 206 72 = some (.aload 7, 2, [], 0)) rfl,
  fun l0 l1 l2 l3 l5 l6 l7 a st E u => q_go (by decide +kernel : am_Pg 206 74 = some (.iload 4, 2, [], 0)) rfl,
  fun l0 l1 l2 l3 l4 l6 l7 a st E u => q_go (by decide +kernel : am_Pg 206 76 = some (.iload 5, 2, [], 0)) rfl,
  fun l0 l1 l2 l3 l4 l5 l6 l7 k a0 a1  E u hE hk => q_cI (by decide +kernel : am_Pg 206 78 = some (.invokevirtual 283, 3, [3, 183, 3, 2, 4, 1], 0)) (am_call_V (a := [vI a0, vI a1]) (st' := []) (Nat.le_of_ble_eq_true rfl) rfl (SE_k2 hE hk)) (by decide +kernel : am_Lm m_S_hasItems = 3) (Nat.le_of_ble_eq_true rfl) rfl (by decide +kernel),
  fun l0 l1 l2 l3 l4 l5 l6 l7 a st E u => q_if_ne (tgt := 87) (by decide +kernel : am_Pg 206 81 = some (.ifCond .ne 6, 3, [], 0)) (by decide),
  fun l0 l1 l2 l3 l4 l5 l6 l7 st E u => q_go (by decide +kernel : am_Pg 206 84 = some (.bipush (-13), 2, [], 0)) rfl,
  fun l0 l1 l2 l3 l4 l5 l6 l7 a E u => q_ret (by decide +kernel : am_Pg 206 86 = some (.ireturn, 1, [], 0)) rfl,
  fun l0 l1 l2 l3 l4 l5 l6 a st E u => q_go (by decide +kernel : am_Pg 206 87 = some (.aload 7, 2, [], 0)) rfl,
  fun l0 l1 l2 l3 l5 l6 l7 a st E u => q_go (by decide +kernel : am_Pg 206 89 = some (.iload 4, 2, [], 0)) rfl,
  fun l0 l1 l2 l3 l4 l5 l7 a st E u => q_go (by decide +kernel : am_Pg 206 91 = some (.aload 6, 2, [], 0)) rfl,
  fun l0 l1 l3 l4 l5 l6 l7 a st E u => q_go (by decide +kernel : am_Pg 206 93 = some (.iload_n 2, 1, [], 0)) rfl,
  fun l0 l1 l2 l3 l4 l6 l7 a st E u => q_go (by decide +kernel : am_Pg 206 94 = some (.iload 5, 2, [], 0)) rfl,
  fun l0 l1 l2 l3 l4 l5 l6 l7 k a0 a1 a2 a3  E u hE hk => q_cV (by decide +kernel : am_Pg 206 96 = some (.invokevirtual 286, 3, [3, 205, 5, 2, 4, 1], 0)) (am_call_V (a := [vI a0, vR a1, vI a2, vI a3]) (st' := []) (Nat.le_of_ble_eq_true rfl) rfl (SE_k2 hE hk)) (by decide +kernel : am_Lm m_S_takes = 5) (Nat.le_of_ble_eq_true rfl) rfl (by decide +kernel),
  fun l0 l1 l2 l3 l4 l6 l7 a st E u => q_go (by decide +kernel : am_Pg 206 99 = some (.iload 5, 2, [], 0)) rfl,
  fun l0 l1 l2 l3 l4 l5 l6 l7 a E u => q_ret (by decide +kernel : am_Pg 206 101 = some (.ireturn, 1, [], 0)) rfl⟩

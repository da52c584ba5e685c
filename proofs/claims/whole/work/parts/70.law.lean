/-! Equations of the law's body, and what constructors read of themselves (WRITTEN by wip/whole/gen_law.py) -/
theorem h_L_law_18 : ∀ (l0 l1 l2 : am_V) (a : Int) (st : List am_V) (E : am_E) (u : am_M), Rn m_L_law 18 [l0, l1, l2, vI a] st E u = Rn m_L_law 19 [l0, l1, l2, vI a] (vI a :: st) E u :=
  fun l0 l1 l2 a st E u => q_go (by decide +kernel : am_Pg 208 18 = some (.iload_n 3, 1, [], 0)) rfl
theorem x_L_law :
  (∀ (l0 l1 l2 l3 : am_V) (st : List am_V) (E : am_E) (u : am_M), Rn m_L_law 0 [l0, l1, l2, l3] st E u = Rn m_L_law 3 [l0, l1, l2, l3] (vR (some E.1.length) :: st) (E.1 ++ [(4, 8)], am_zq E.2.1 E.1.length, E.2.2) (am_zr u E.1.length)) ∧
  (∀ (l0 l1 l2 l3 : am_V) (a : Int) (st : List am_V) (E : am_E) (u : am_M), Rn m_L_law 3 [l0, l1, l2, l3] (vI a :: st) E u = Rn m_L_law 4 [l0, l1, l2, l3] (vI a :: vI a :: st) E u) ∧
  (∀ (l0 l1 l2 l3 : am_V) (a : Option Nat) (st : List am_V) (E : am_E) (u : am_M), Rn m_L_law 3 [l0, l1, l2, l3] (vR a :: st) E u = Rn m_L_law 4 [l0, l1, l2, l3] (vR a :: vR a :: st) E u) ∧
  (∀ (l0 l1 l2 l3 : am_V) (k : Nat) (r0 : am_V) (E : am_E) (u : am_M) (hk : E.1[k]? = some (4, 8)), Rn m_L_law 4 [l0, l1, l2, l3] [vR (some k), r0] E u = bdV (Rn m_A_init 0 [vR (some k), vB false] [] E u) (KV m_L_law 7 [l0, l1, l2, l3] [r0])) ∧
  (∀ (l0 l1 l2 l3 : am_V) (a : Option Nat) (st : List am_V) (E : am_E) (u : am_M), Rn m_L_law 7 [l0, l1, l2, l3] (vR a :: st) E u = Rn m_L_law 8 [am_fx l0, vR a, l2, l3] st E u) ∧
  (∀ (l0 l1 l2 l3 : am_V) (st : List am_V) (E : am_E) (u : am_M), Rn m_L_law 8 [l0, l1, l2, l3] st E u = Rn m_L_law 11 [l0, l1, l2, l3] (vR (some E.1.length) :: st) (E.1 ++ [(5, 17)], am_zq E.2.1 E.1.length, E.2.2) (am_zr u E.1.length)) ∧
  (∀ (l0 l1 l2 l3 : am_V) (a : Int) (st : List am_V) (E : am_E) (u : am_M), Rn m_L_law 11 [l0, l1, l2, l3] (vI a :: st) E u = Rn m_L_law 12 [l0, l1, l2, l3] (vI a :: vI a :: st) E u) ∧
  (∀ (l0 l1 l2 l3 : am_V) (a : Option Nat) (st : List am_V) (E : am_E) (u : am_M), Rn m_L_law 11 [l0, l1, l2, l3] (vR a :: st) E u = Rn m_L_law 12 [l0, l1, l2, l3] (vR a :: vR a :: st) E u) ∧
  (∀ (l0 l1 l2 l3 : am_V) (k : Nat) (r0 : am_V) (E : am_E) (u : am_M) (hk : E.1[k]? = some (5, 17)), Rn m_L_law 12 [l0, l1, l2, l3] [vR (some k), r0] E u = bdV (Rn m_M_init 0 [vR (some k), vB false] [] E u) (KV m_L_law 15 [l0, l1, l2, l3] [r0])) ∧
  (∀ (l0 l1 l2 l3 : am_V) (a : Option Nat) (st : List am_V) (E : am_E) (u : am_M), Rn m_L_law 15 [l0, l1, l2, l3] (vR a :: st) E u = Rn m_L_law 16 [l0, am_fx l1, vR a, l3] st E u) ∧
  (∀ (l0 l1 l2 l3 : am_V) (st : List am_V) (E : am_E) (u : am_M), Rn m_L_law 16 [l0, l1, l2, l3] st E u = Rn m_L_law 17 [l0, l1, l2, l3] (vI 0 :: st) E u) ∧
  (∀ (l0 l1 l2 l3 : am_V) (a : Int) (st : List am_V) (E : am_E) (u : am_M), Rn m_L_law 17 [l0, l1, l2, l3] (vI a :: st) E u = Rn m_L_law 18 [l0, l1, am_fx l2, vI a] st E u) ∧
  (∀ (l1 l2 l3 : am_V) (st : List am_V) (E : am_E) (u : am_M), Rn m_L_law 19 [vB true, l1, l2, l3] st E u = Rn m_L_law 20 [vB true, l1, l2, l3] (vB true :: st) E u) ∧
  (∀ (l0 l1 l2 l3 : am_V) (st : List am_V) (E : am_E) (u : am_M), Rn m_L_law 20 [l0, l1, l2, l3] (vB true :: st) E u = Rn m_L_law 21 [l0, l1, l2, l3] (vI (E.2.2.1 : Int) :: st) E u) ∧
  (∀ (l0 l1 l2 l3 : am_V) (st : List am_V) (E : am_E) (u : am_M), Rn m_L_law 21 [l0, l1, l2, l3] st E u = Rn m_L_law 23 [l0, l1, l2, l3] (vI 7 :: st) E u) ∧
  (∀ (l0 l1 l2 l3 : am_V) (a b : Int) (st : List am_V) (E : am_E) (u : am_M), Rn m_L_law 23 [l0, l1, l2, l3] (vI b :: vI a :: st) E u = Rn m_L_law 24 [l0, l1, l2, l3] (vI (w32 (a - b)) :: st) E u) ∧
  (∀ (l0 l1 l2 l3 : am_V) (a b : Int) (st : List am_V) (E : am_E) (u : am_M), Rn m_L_law 24 [l0, l1, l2, l3] (vI b :: vI a :: st) E u = if b < a then Rn m_L_law 1455 [l0, l1, l2, l3] st E u else Rn m_L_law 27 [l0, l1, l2, l3] st E u) ∧
  (∀ (l1 l2 l3 : am_V) (st : List am_V) (E : am_E) (u : am_M), Rn m_L_law 27 [vB true, l1, l2, l3] st E u = Rn m_L_law 28 [vB true, l1, l2, l3] (vB true :: st) E u) ∧
  (∀ (l0 l1 l2 : am_V) (a : Int) (st : List am_V) (E : am_E) (u : am_M), Rn m_L_law 28 [l0, l1, l2, vI a] st E u = Rn m_L_law 29 [l0, l1, l2, vI a] (vI a :: st) E u) ∧
  (∀ (l0 l1 l2 l3 : am_V) (i : Int) (st : List am_V) (E : am_E) (u : am_M) (h0 : 0 ≤ i) (h1 : i < (E.2.2.1 : Int)), Rn m_L_law 29 [l0, l1, l2, l3] (vI i :: vB true :: st) E u = Rn m_L_law 30 [l0, l1, l2, l3] (vI (E.2.2.2 i.toNat) :: st) E u) ∧
  (∀ (l0 l1 l2 l3 : am_V) (st : List am_V) (E : am_E) (u : am_M), Rn m_L_law 30 [l0, l1, l2, l3] st E u = Rn m_L_law 32 [l0, l1, l2, l3] (vI 63 :: st) E u) ∧
  (∀ (l0 l1 l2 l3 : am_V) (a b : Int) (st : List am_V) (E : am_E) (u : am_M), Rn m_L_law 32 [l0, l1, l2, l3] (vI b :: vI a :: st) E u = Rn m_L_law 33 [l0, l1, l2, l3] (vI (i_and a b) :: st) E u) ∧
  (∀ (l0 l1 l2 l3 : am_V) (a : Int) (st : List am_V) (E : am_E) (u : am_M), Rn m_L_law 33 [l0, l1, l2, l3] (vI a :: st) E u = if a = 0 then Rn m_L_law 196 [l0, l1, l2, l3] st E u else if a = 1 then Rn m_L_law 229 [l0, l1, l2, l3] st E u else if a = 2 then Rn m_L_law 262 [l0, l1, l2, l3] st E u else if a = 3 then Rn m_L_law 305 [l0, l1, l2, l3] st E u else if a = 4 then Rn m_L_law 338 [l0, l1, l2, l3] st E u else if a = 5 then Rn m_L_law 371 [l0, l1, l2, l3] st E u else if a = 6 then Rn m_L_law 394 [l0, l1, l2, l3] st E u else if a = 7 then Rn m_L_law 417 [l0, l1, l2, l3] st E u else if a = 8 then Rn m_L_law 430 [l0, l1, l2, l3] st E u else if a = 9 then Rn m_L_law 453 [l0, l1, l2, l3] st E u else if a = 10 then Rn m_L_law 476 [l0, l1, l2, l3] st E u else if a = 11 then Rn m_L_law 499 [l0, l1, l2, l3] st E u else if a = 12 then Rn m_L_law 532 [l0, l1, l2, l3] st E u else if a = 13 then Rn m_L_law 555 [l0, l1, l2, l3] st E u else if a = 14 then Rn m_L_law 588 [l0, l1, l2, l3] st E u else if a = 15 then Rn m_L_law 611 [l0, l1, l2, l3] st E u else if a = 16 then Rn m_L_law 624 [l0, l1, l2, l3] st E u else if a = 17 then Rn m_L_law 647 [l0, l1, l2, l3] st E u else if a = 18 then Rn m_L_law 680 [l0, l1, l2, l3] st E u else if a = 19 then Rn m_L_law 703 [l0, l1, l2, l3] st E u else if a = 20 then Rn m_L_law 736 [l0, l1, l2, l3] st E u else if a = 21 then Rn m_L_law 769 [l0, l1, l2, l3] st E u else if a = 22 then Rn m_L_law 812 [l0, l1, l2, l3] st E u else if a = 23 then Rn m_L_law 855 [l0, l1, l2, l3] st E u else if a = 24 then Rn m_L_law 898 [l0, l1, l2, l3] st E u else if a = 25 then Rn m_L_law 931 [l0, l1, l2, l3] st E u else if a = 26 then Rn m_L_law 954 [l0, l1, l2, l3] st E u else if a = 27 then Rn m_L_law 987 [l0, l1, l2, l3] st E u else if a = 28 then Rn m_L_law 1010 [l0, l1, l2, l3] st E u else if a = 29 then Rn m_L_law 1073 [l0, l1, l2, l3] st E u else if a = 30 then Rn m_L_law 1086 [l0, l1, l2, l3] st E u else if a = 31 then Rn m_L_law 1099 [l0, l1, l2, l3] st E u else if a = 32 then Rn m_L_law 1174 [l0, l1, l2, l3] st E u else if a = 33 then Rn m_L_law 1237 [l0, l1, l2, l3] st E u else if a = 34 then Rn m_L_law 1280 [l0, l1, l2, l3] st E u else if a = 35 then Rn m_L_law 1303 [l0, l1, l2, l3] st E u else if a = 36 then Rn m_L_law 1386 [l0, l1, l2, l3] st E u else Rn m_L_law 1449 [l0, l1, l2, l3] st E u) :=
  ⟨fun l0 l1 l2 l3 st E u => q_go (by decide +kernel : am_Pg 208 0 = some (.new 7, 3, [4, 8], 0)) rfl,
  fun l0 l1 l2 l3 a st E u => q_go (by decide +kernel : am_Pg 208 3 = some (.dup, 1, [], 0)) rfl,
  fun l0 l1 l2 l3 a st E u => q_go (by decide +kernel : am_Pg 208 3 = some (.dup, 1, [], 0)) rfl,
  fun l0 l1 l2 l3 k  r0 E u hk => q_cV (by decide +kernel : am_Pg 208 4 = some (.invokespecial 9, 3, [3, 5, 1, 4, 8, 0], 0)) (am_call_V (a := []) (st' := [r0]) (Nat.le_of_ble_eq_true rfl) rfl hk) (by decide +kernel : am_Lm m_A_init = 2) (Nat.le_of_ble_eq_true rfl) rfl (by decide +kernel),
  fun l0 l1 l2 l3 a st E u => q_go (by decide +kernel : am_Pg 208 7 = some (.astore_n 1, 1, [], 0)) rfl,
  fun l0 l1 l2 l3 st E u => q_go (by decide +kernel : am_Pg 208 8 = some (.new 10, 3, [5, 17], 0)) rfl,
  fun l0 l1 l2 l3 a st E u => q_go (by decide +kernel : am_Pg 208 11 = some (.dup, 1, [], 0)) rfl,
  fun l0 l1 l2 l3 a st E u => q_go (by decide +kernel : am_Pg 208 11 = some (.dup, 1, [], 0)) rfl,
  fun l0 l1 l2 l3 k  r0 E u hk => q_cV (by decide +kernel : am_Pg 208 12 = some (.invokespecial 12, 3, [3, 7, 1, 5, 17, 0], 0)) (am_call_V (a := []) (st' := [r0]) (Nat.le_of_ble_eq_true rfl) rfl hk) (by decide +kernel : am_Lm m_M_init = 2) (Nat.le_of_ble_eq_true rfl) rfl (by decide +kernel),
  fun l0 l1 l2 l3 a st E u => q_go (by decide +kernel : am_Pg 208 15 = some (.astore_n 2, 1, [], 0)) rfl,
  fun l0 l1 l2 l3 st E u => q_go (by decide +kernel : am_Pg 208 16 = some (.iconst 0, 1, [], 0)) rfl,
  fun l0 l1 l2 l3 a st E u => q_go (by decide +kernel : am_Pg 208 17 = some (.istore_n 3, 1, [], 0)) rfl,
  fun l1 l2 l3 st E u => q_go (by decide +kernel : am_Pg 208 19 = some (.aload_n 0, 1, [], 0)) rfl,
  fun l0 l1 l2 l3 st E u => q_go (by decide +kernel : am_Pg 208 20 = some (.arraylength, 1, [], 0)) rfl,
  fun l0 l1 l2 l3 st E u => q_go (by decide +kernel : am_Pg 208 21 = some (.bipush 7, 2, [], 0)) rfl,
  fun l0 l1 l2 l3 a b st E u => q_go (by decide +kernel : am_Pg 208 23 = some (.isub, 1, [], 0)) rfl,
  fun l0 l1 l2 l3 a b st E u => q_icmp_gt (tgt := 1455) (by decide +kernel : am_Pg 208 24 = some (.if_icmp .gt 1431, 3, [], 0)) (by decide),
  fun l1 l2 l3 st E u => q_go (by decide +kernel : am_Pg 208 27 = some (.aload_n 0, 1, [], 0)) rfl,
  fun l0 l1 l2 a st E u => q_go (by decide +kernel : am_Pg 208 28 = some (.iload_n 3, 1, [], 0)) rfl,
  fun l0 l1 l2 l3 i st E u h0 h1 => q_isc (by decide +kernel : am_Pg 208 29 = some (.iaload, 1, [], 0)) h0 h1,
  fun l0 l1 l2 l3 st E u => q_go (by decide +kernel : am_Pg 208 30 = some (.bipush 63, 2, [], 0)) rfl,
  fun l0 l1 l2 l3 a b st E u => q_go (by decide +kernel : am_Pg 208 32 = some (.iand, 1, [], 0)) rfl,
  (fun l0 l1 l2 l3 a st E u => by
  by_cases h0 : a = 0
  · subst h0; rw [if_pos rfl]; exact q_go (by decide +kernel : am_Pg 208 33 = some (.tableswitch 1416 0 36 #[163, 196, 229, 272, 305, 338, 361, 384, 397, 420, 443, 466, 499, 522, 555, 578, 591, 614, 647, 670, 703, 736, 779, 822, 865, 898, 921, 954, 977, 1040, 1053, 1066, 1141, 1204, 1247, 1270, 1353], 163, [], 0)) rfl
  rw [if_neg h0]
  by_cases h1 : a = 1
  · subst h1; rw [if_pos rfl]; exact q_go (by decide +kernel : am_Pg 208 33 = some (.tableswitch 1416 0 36 #[163, 196, 229, 272, 305, 338, 361, 384, 397, 420, 443, 466, 499, 522, 555, 578, 591, 614, 647, 670, 703, 736, 779, 822, 865, 898, 921, 954, 977, 1040, 1053, 1066, 1141, 1204, 1247, 1270, 1353], 163, [], 0)) rfl
  rw [if_neg h1]
  by_cases h2 : a = 2
  · subst h2; rw [if_pos rfl]; exact q_go (by decide +kernel : am_Pg 208 33 = some (.tableswitch 1416 0 36 #[163, 196, 229, 272, 305, 338, 361, 384, 397, 420, 443, 466, 499, 522, 555, 578, 591, 614, 647, 670, 703, 736, 779, 822, 865, 898, 921, 954, 977, 1040, 1053, 1066, 1141, 1204, 1247, 1270, 1353], 163, [], 0)) rfl
  rw [if_neg h2]
  by_cases h3 : a = 3
  · subst h3; rw [if_pos rfl]; exact q_go (by decide +kernel : am_Pg 208 33 = some (.tableswitch 1416 0 36 #[163, 196, 229, 272, 305, 338, 361, 384, 397, 420, 443, 466, 499, 522, 555, 578, 591, 614, 647, 670, 703, 736, 779, 822, 865, 898, 921, 954, 977, 1040, 1053, 1066, 1141, 1204, 1247, 1270, 1353], 163, [], 0)) rfl
  rw [if_neg h3]
  by_cases h4 : a = 4
  · subst h4; rw [if_pos rfl]; exact q_go (by decide +kernel : am_Pg 208 33 = some (.tableswitch 1416 0 36 #[163, 196, 229, 272, 305, 338, 361, 384, 397, 420, 443, 466, 499, 522, 555, 578, 591, 614, 647, 670, 703, 736, 779, 822, 865, 898, 921, 954, 977, 1040, 1053, 1066, 1141, 1204, 1247, 1270, 1353], 163, [], 0)) rfl
  rw [if_neg h4]
  by_cases h5 : a = 5
  · subst h5; rw [if_pos rfl]; exact q_go (by decide +kernel : am_Pg 208 33 = some (.tableswitch 1416 0 36 #[163, 196, 229, 272, 305, 338, 361, 384, 397, 420, 443, 466, 499, 522, 555, 578, 591, 614, 647, 670, 703, 736, 779, 822, 865, 898, 921, 954, 977, 1040, 1053, 1066, 1141, 1204, 1247, 1270, 1353], 163, [], 0)) rfl
  rw [if_neg h5]
  by_cases h6 : a = 6
  · subst h6; rw [if_pos rfl]; exact q_go (by decide +kernel : am_Pg 208 33 = some (.tableswitch 1416 0 36 #[163, 196, 229, 272, 305, 338, 361, 384, 397, 420, 443, 466, 499, 522, 555, 578, 591, 614, 647, 670, 703, 736, 779, 822, 865, 898, 921, 954, 977, 1040, 1053, 1066, 1141, 1204, 1247, 1270, 1353], 163, [], 0)) rfl
  rw [if_neg h6]
  by_cases h7 : a = 7
  · subst h7; rw [if_pos rfl]; exact q_go (by decide +kernel : am_Pg 208 33 = some (.tableswitch 1416 0 36 #[163, 196, 229, 272, 305, 338, 361, 384, 397, 420, 443, 466, 499, 522, 555, 578, 591, 614, 647, 670, 703, 736, 779, 822, 865, 898, 921, 954, 977, 1040, 1053, 1066, 1141, 1204, 1247, 1270, 1353], 163, [], 0)) rfl
  rw [if_neg h7]
  by_cases h8 : a = 8
  · subst h8; rw [if_pos rfl]; exact q_go (by decide +kernel : am_Pg 208 33 = some (.tableswitch 1416 0 36 #[163, 196, 229, 272, 305, 338, 361, 384, 397, 420, 443, 466, 499, 522, 555, 578, 591, 614, 647, 670, 703, 736, 779, 822, 865, 898, 921, 954, 977, 1040, 1053, 1066, 1141, 1204, 1247, 1270, 1353], 163, [], 0)) rfl
  rw [if_neg h8]
  by_cases h9 : a = 9
  · subst h9; rw [if_pos rfl]; exact q_go (by decide +kernel : am_Pg 208 33 = some (.tableswitch 1416 0 36 #[163, 196, 229, 272, 305, 338, 361, 384, 397, 420, 443, 466, 499, 522, 555, 578, 591, 614, 647, 670, 703, 736, 779, 822, 865, 898, 921, 954, 977, 1040, 1053, 1066, 1141, 1204, 1247, 1270, 1353], 163, [], 0)) rfl
  rw [if_neg h9]
  by_cases h10 : a = 10
  · subst h10; rw [if_pos rfl]; exact q_go (by decide +kernel : am_Pg 208 33 = some (.tableswitch 1416 0 36 #[163, 196, 229, 272, 305, 338, 361, 384, 397, 420, 443, 466, 499, 522, 555, 578, 591, 614, 647, 670, 703, 736, 779, 822, 865, 898, 921, 954, 977, 1040, 1053, 1066, 1141, 1204, 1247, 1270, 1353], 163, [], 0)) rfl
  rw [if_neg h10]
  by_cases h11 : a = 11
  · subst h11; rw [if_pos rfl]; exact q_go (by decide +kernel : am_Pg 208 33 = some (.tableswitch 1416 0 36 #[163, 196, 229, 272, 305, 338, 361, 384, 397, 420, 443, 466, 499, 522, 555, 578, 591, 614, 647, 670, 703, 736, 779, 822, 865, 898, 921, 954, 977, 1040, 1053, 1066, 1141, 1204, 1247, 1270, 1353], 163, [], 0)) rfl
  rw [if_neg h11]
  by_cases h12 : a = 12
  · subst h12; rw [if_pos rfl]; exact q_go (by decide +kernel : am_Pg 208 33 = some (.tableswitch 1416 0 36 #[163, 196, 229, 272, 305, 338, 361, 384, 397, 420, 443, 466, 499, 522, 555, 578, 591, 614, 647, 670, 703, 736, 779, 822, 865, 898, 921, 954, 977, 1040, 1053, 1066, 1141, 1204, 1247, 1270, 1353], 163, [], 0)) rfl
  rw [if_neg h12]
  by_cases h13 : a = 13
  · subst h13; rw [if_pos rfl]; exact q_go (by decide +kernel : am_Pg 208 33 = some (.tableswitch 1416 0 36 #[163, 196, 229, 272, 305, 338, 361, 384, 397, 420, 443, 466, 499, 522, 555, 578, 591, 614, 647, 670, 703, 736, 779, 822, 865, 898, 921, 954, 977, 1040, 1053, 1066, 1141, 1204, 1247, 1270, 1353], 163, [], 0)) rfl
  rw [if_neg h13]
  by_cases h14 : a = 14
  · subst h14; rw [if_pos rfl]; exact q_go (by decide +kernel : am_Pg 208 33 = some (.tableswitch 1416 0 36 #[163, 196, 229, 272, 305, 338, 361, 384, 397, 420, 443, 466, 499, 522, 555, 578, 591, 614, 647, 670, 703, 736, 779, 822, 865, 898, 921, 954, 977, 1040, 1053, 1066, 1141, 1204, 1247, 1270, 1353], 163, [], 0)) rfl
  rw [if_neg h14]
  by_cases h15 : a = 15
  · subst h15; rw [if_pos rfl]; exact q_go (by decide +kernel : am_Pg 208 33 = some (.tableswitch 1416 0 36 #[163, 196, 229, 272, 305, 338, 361, 384, 397, 420, 443, 466, 499, 522, 555, 578, 591, 614, 647, 670, 703, 736, 779, 822, 865, 898, 921, 954, 977, 1040, 1053, 1066, 1141, 1204, 1247, 1270, 1353], 163, [], 0)) rfl
  rw [if_neg h15]
  by_cases h16 : a = 16
  · subst h16; rw [if_pos rfl]; exact q_go (by decide +kernel : am_Pg 208 33 = some (.tableswitch 1416 0 36 #[163, 196, 229, 272, 305, 338, 361, 384, 397, 420, 443, 466, 499, 522, 555, 578, 591, 614, 647, 670, 703, 736, 779, 822, 865, 898, 921, 954, 977, 1040, 1053, 1066, 1141, 1204, 1247, 1270, 1353], 163, [], 0)) rfl
  rw [if_neg h16]
  by_cases h17 : a = 17
  · subst h17; rw [if_pos rfl]; exact q_go (by decide +kernel : am_Pg 208 33 = some (.tableswitch 1416 0 36 #[163, 196, 229, 272, 305, 338, 361, 384, 397, 420, 443, 466, 499, 522, 555, 578, 591, 614, 647, 670, 703, 736, 779, 822, 865, 898, 921, 954, 977, 1040, 1053, 1066, 1141, 1204, 1247, 1270, 1353], 163, [], 0)) rfl
  rw [if_neg h17]
  by_cases h18 : a = 18
  · subst h18; rw [if_pos rfl]; exact q_go (by decide +kernel : am_Pg 208 33 = some (.tableswitch 1416 0 36 #[163, 196, 229, 272, 305, 338, 361, 384, 397, 420, 443, 466, 499, 522, 555, 578, 591, 614, 647, 670, 703, 736, 779, 822, 865, 898, 921, 954, 977, 1040, 1053, 1066, 1141, 1204, 1247, 1270, 1353], 163, [], 0)) rfl
  rw [if_neg h18]
  by_cases h19 : a = 19
  · subst h19; rw [if_pos rfl]; exact q_go (by decide +kernel : am_Pg 208 33 = some (.tableswitch 1416 0 36 #[163, 196, 229, 272, 305, 338, 361, 384, 397, 420, 443, 466, 499, 522, 555, 578, 591, 614, 647, 670, 703, 736, 779, 822, 865, 898, 921, 954, 977, 1040, 1053, 1066, 1141, 1204, 1247, 1270, 1353], 163, [], 0)) rfl
  rw [if_neg h19]
  by_cases h20 : a = 20
  · subst h20; rw [if_pos rfl]; exact q_go (by decide +kernel : am_Pg 208 33 = some (.tableswitch 1416 0 36 #[163, 196, 229, 272, 305, 338, 361, 384, 397, 420, 443, 466, 499, 522, 555, 578, 591, 614, 647, 670, 703, 736, 779, 822, 865, 898, 921, 954, 977, 1040, 1053, 1066, 1141, 1204, 1247, 1270, 1353], 163, [], 0)) rfl
  rw [if_neg h20]
  by_cases h21 : a = 21
  · subst h21; rw [if_pos rfl]; exact q_go (by decide +kernel : am_Pg 208 33 = some (.tableswitch 1416 0 36 #[163, 196, 229, 272, 305, 338, 361, 384, 397, 420, 443, 466, 499, 522, 555, 578, 591, 614, 647, 670, 703, 736, 779, 822, 865, 898, 921, 954, 977, 1040, 1053, 1066, 1141, 1204, 1247, 1270, 1353], 163, [], 0)) rfl
  rw [if_neg h21]
  by_cases h22 : a = 22
  · subst h22; rw [if_pos rfl]; exact q_go (by decide +kernel : am_Pg 208 33 = some (.tableswitch 1416 0 36 #[163, 196, 229, 272, 305, 338, 361, 384, 397, 420, 443, 466, 499, 522, 555, 578, 591, 614, 647, 670, 703, 736, 779, 822, 865, 898, 921, 954, 977, 1040, 1053, 1066, 1141, 1204, 1247, 1270, 1353], 163, [], 0)) rfl
  rw [if_neg h22]
  by_cases h23 : a = 23
  · subst h23; rw [if_pos rfl]; exact q_go (by decide +kernel : am_Pg 208 33 = some (.tableswitch 1416 0 36 #[163, 196, 229, 272, 305, 338, 361, 384, 397, 420, 443, 466, 499, 522, 555, 578, 591, 614, 647, 670, 703, 736, 779, 822, 865, 898, 921, 954, 977, 1040, 1053, 1066, 1141, 1204, 1247, 1270, 1353], 163, [], 0)) rfl
  rw [if_neg h23]
  by_cases h24 : a = 24
  · subst h24; rw [if_pos rfl]; exact q_go (by decide +kernel : am_Pg 208 33 = some (.tableswitch 1416 0 36 #[163, 196, 229, 272, 305, 338, 361, 384, 397, 420, 443, 466, 499, 522, 555, 578, 591, 614, 647, 670, 703, 736, 779, 822, 865, 898, 921, 954, 977, 1040, 1053, 1066, 1141, 1204, 1247, 1270, 1353], 163, [], 0)) rfl
  rw [if_neg h24]
  by_cases h25 : a = 25
  · subst h25; rw [if_pos rfl]; exact q_go (by decide +kernel : am_Pg 208 33 = some (.tableswitch 1416 0 36 #[163, 196, 229, 272, 305, 338, 361, 384, 397, 420, 443, 466, 499, 522, 555, 578, 591, 614, 647, 670, 703, 736, 779, 822, 865, 898, 921, 954, 977, 1040, 1053, 1066, 1141, 1204, 1247, 1270, 1353], 163, [], 0)) rfl
  rw [if_neg h25]
  by_cases h26 : a = 26
  · subst h26; rw [if_pos rfl]; exact q_go (by decide +kernel : am_Pg 208 33 = some (.tableswitch 1416 0 36 #[163, 196, 229, 272, 305, 338, 361, 384, 397, 420, 443, 466, 499, 522, 555, 578, 591, 614, 647, 670, 703, 736, 779, 822, 865, 898, 921, 954, 977, 1040, 1053, 1066, 1141, 1204, 1247, 1270, 1353], 163, [], 0)) rfl
  rw [if_neg h26]
  by_cases h27 : a = 27
  · subst h27; rw [if_pos rfl]; exact q_go (by decide +kernel : am_Pg 208 33 = some (.tableswitch 1416 0 36 #[163, 196, 229, 272, 305, 338, 361, 384, 397, 420, 443, 466, 499, 522, 555, 578, 591, 614, 647, 670, 703, 736, 779, 822, 865, 898, 921, 954, 977, 1040, 1053, 1066, 1141, 1204, 1247, 1270, 1353], 163, [], 0)) rfl
  rw [if_neg h27]
  by_cases h28 : a = 28
  · subst h28; rw [if_pos rfl]; exact q_go (by decide +kernel : am_Pg 208 33 = some (.tableswitch 1416 0 36 #[163, 196, 229, 272, 305, 338, 361, 384, 397, 420, 443, 466, 499, 522, 555, 578, 591, 614, 647, 670, 703, 736, 779, 822, 865, 898, 921, 954, 977, 1040, 1053, 1066, 1141, 1204, 1247, 1270, 1353], 163, [], 0)) rfl
  rw [if_neg h28]
  by_cases h29 : a = 29
  · subst h29; rw [if_pos rfl]; exact q_go (by decide +kernel : am_Pg 208 33 = some (.tableswitch 1416 0 36 #[163, 196, 229, 272, 305, 338, 361, 384, 397, 420, 443, 466, 499, 522, 555, 578, 591, 614, 647, 670, 703, 736, 779, 822, 865, 898, 921, 954, 977, 1040, 1053, 1066, 1141, 1204, 1247, 1270, 1353], 163, [], 0)) rfl
  rw [if_neg h29]
  by_cases h30 : a = 30
  · subst h30; rw [if_pos rfl]; exact q_go (by decide +kernel : am_Pg 208 33 = some (.tableswitch 1416 0 36 #[163, 196, 229, 272, 305, 338, 361, 384, 397, 420, 443, 466, 499, 522, 555, 578, 591, 614, 647, 670, 703, 736, 779, 822, 865, 898, 921, 954, 977, 1040, 1053, 1066, 1141, 1204, 1247, 1270, 1353], 163, [], 0)) rfl
  rw [if_neg h30]
  by_cases h31 : a = 31
  · subst h31; rw [if_pos rfl]; exact q_go (by decide +kernel : am_Pg 208 33 = some (.tableswitch 1416 0 36 #[163, 196, 229, 272, 305, 338, 361, 384, 397, 420, 443, 466, 499, 522, 555, 578, 591, 614, 647, 670, 703, 736, 779, 822, 865, 898, 921, 954, 977, 1040, 1053, 1066, 1141, 1204, 1247, 1270, 1353], 163, [], 0)) rfl
  rw [if_neg h31]
  by_cases h32 : a = 32
  · subst h32; rw [if_pos rfl]; exact q_go (by decide +kernel : am_Pg 208 33 = some (.tableswitch 1416 0 36 #[163, 196, 229, 272, 305, 338, 361, 384, 397, 420, 443, 466, 499, 522, 555, 578, 591, 614, 647, 670, 703, 736, 779, 822, 865, 898, 921, 954, 977, 1040, 1053, 1066, 1141, 1204, 1247, 1270, 1353], 163, [], 0)) rfl
  rw [if_neg h32]
  by_cases h33 : a = 33
  · subst h33; rw [if_pos rfl]; exact q_go (by decide +kernel : am_Pg 208 33 = some (.tableswitch 1416 0 36 #[163, 196, 229, 272, 305, 338, 361, 384, 397, 420, 443, 466, 499, 522, 555, 578, 591, 614, 647, 670, 703, 736, 779, 822, 865, 898, 921, 954, 977, 1040, 1053, 1066, 1141, 1204, 1247, 1270, 1353], 163, [], 0)) rfl
  rw [if_neg h33]
  by_cases h34 : a = 34
  · subst h34; rw [if_pos rfl]; exact q_go (by decide +kernel : am_Pg 208 33 = some (.tableswitch 1416 0 36 #[163, 196, 229, 272, 305, 338, 361, 384, 397, 420, 443, 466, 499, 522, 555, 578, 591, 614, 647, 670, 703, 736, 779, 822, 865, 898, 921, 954, 977, 1040, 1053, 1066, 1141, 1204, 1247, 1270, 1353], 163, [], 0)) rfl
  rw [if_neg h34]
  by_cases h35 : a = 35
  · subst h35; rw [if_pos rfl]; exact q_go (by decide +kernel : am_Pg 208 33 = some (.tableswitch 1416 0 36 #[163, 196, 229, 272, 305, 338, 361, 384, 397, 420, 443, 466, 499, 522, 555, 578, 591, 614, 647, 670, 703, 736, 779, 822, 865, 898, 921, 954, 977, 1040, 1053, 1066, 1141, 1204, 1247, 1270, 1353], 163, [], 0)) rfl
  rw [if_neg h35]
  by_cases h36 : a = 36
  · subst h36; rw [if_pos rfl]; exact q_go (by decide +kernel : am_Pg 208 33 = some (.tableswitch 1416 0 36 #[163, 196, 229, 272, 305, 338, 361, 384, 397, 420, 443, 466, 499, 522, 555, 578, 591, 614, 647, 670, 703, 736, 779, 822, 865, 898, 921, 954, 977, 1040, 1053, 1066, 1141, 1204, 1247, 1270, 1353], 163, [], 0)) rfl
  rw [if_neg h36]
  exact q_go (by decide +kernel : am_Pg 208 33 = some (.tableswitch 1416 0 36 #[163, 196, 229, 272, 305, 338, 361, 384, 397, 420, 443, 466, 499, 522, 555, 578, 591, 614, 647, 670, 703, 736, 779, 822, 865, 898, 921, 954, 977, 1040, 1053, 1066, 1141, 1204, 1247, 1270, 1353], 163, [], 0)) (by simp only [am_step, am_br]; rw [if_pos (by simp; omega)]; rfl))⟩
theorem x_L_law_196 :
  (∀ (l0 l2 l3 : am_V) (a : Option Nat) (st : List am_V) (E : am_E) (u : am_M), Rn m_L_law 196 [l0, vR a, l2, l3] st E u = Rn m_L_law 197 [l0, vR a, l2, l3] (vR a :: st) E u) ∧
  (∀ (l1 l2 l3 : am_V) (st : List am_V) (E : am_E) (u : am_M), Rn m_L_law 197 [vB true, l1, l2, l3] st E u = Rn m_L_law 198 [vB true, l1, l2, l3] (vB true :: st) E u) ∧
  (∀ (l0 l1 l2 : am_V) (a : Int) (st : List am_V) (E : am_E) (u : am_M), Rn m_L_law 198 [l0, l1, l2, vI a] st E u = Rn m_L_law 199 [l0, l1, l2, vI a] (vI a :: st) E u) ∧
  (∀ (l0 l1 l2 l3 : am_V) (st : List am_V) (E : am_E) (u : am_M), Rn m_L_law 199 [l0, l1, l2, l3] st E u = Rn m_L_law 200 [l0, l1, l2, l3] (vI 1 :: st) E u) ∧
  (∀ (l0 l1 l2 l3 : am_V) (a b : Int) (st : List am_V) (E : am_E) (u : am_M), Rn m_L_law 200 [l0, l1, l2, l3] (vI b :: vI a :: st) E u = Rn m_L_law 201 [l0, l1, l2, l3] (vI (w32 (a + b)) :: st) E u) ∧
  (∀ (l0 l1 l2 l3 : am_V) (i : Int) (st : List am_V) (E : am_E) (u : am_M) (h0 : 0 ≤ i) (h1 : i < (E.2.2.1 : Int)), Rn m_L_law 201 [l0, l1, l2, l3] (vI i :: vB true :: st) E u = Rn m_L_law 202 [l0, l1, l2, l3] (vI (E.2.2.2 i.toNat) :: st) E u) ∧
  (∀ (l1 l2 l3 : am_V) (st : List am_V) (E : am_E) (u : am_M), Rn m_L_law 202 [vB true, l1, l2, l3] st E u = Rn m_L_law 203 [vB true, l1, l2, l3] (vB true :: st) E u) ∧
  (∀ (l0 l1 l2 : am_V) (a : Int) (st : List am_V) (E : am_E) (u : am_M), Rn m_L_law 203 [l0, l1, l2, vI a] st E u = Rn m_L_law 204 [l0, l1, l2, vI a] (vI a :: st) E u) ∧
  (∀ (l0 l1 l2 l3 : am_V) (st : List am_V) (E : am_E) (u : am_M), Rn m_L_law 204 [l0, l1, l2, l3] st E u = Rn m_L_law 205 [l0, l1, l2, l3] (vI 2 :: st) E u) ∧
  (∀ (l0 l1 l2 l3 : am_V) (a b : Int) (st : List am_V) (E : am_E) (u : am_M), Rn m_L_law 205 [l0, l1, l2, l3] (vI b :: vI a :: st) E u = Rn m_L_law 206 [l0, l1, l2, l3] (vI (w32 (a + b)) :: st) E u) ∧
  (∀ (l0 l1 l2 l3 : am_V) (i : Int) (st : List am_V) (E : am_E) (u : am_M) (h0 : 0 ≤ i) (h1 : i < (E.2.2.1 : Int)), Rn m_L_law 206 [l0, l1, l2, l3] (vI i :: vB true :: st) E u = Rn m_L_law 207 [l0, l1, l2, l3] (vI (E.2.2.2 i.toNat) :: st) E u) ∧
  (∀ (l0 l1 l2 l3 : am_V) (a0 : Int) (a1 : Int) (E : am_E) (u : am_M) (hE : SE E), Rn m_L_law 207 [l0, l1, l2, l3] [vI a1, vI a0, vR (some 0)] E u = bdI (Rn m_A_cushion 0 [vR (some 0), vI a0, vI a1] [] E u) (KI m_L_law 210 [l0, l1, l2, l3] [])) ∧
  (∀ (l0 l1 l3 : am_V) (a : Option Nat) (st : List am_V) (E : am_E) (u : am_M), Rn m_L_law 210 [l0, l1, vR a, l3] st E u = Rn m_L_law 211 [l0, l1, vR a, l3] (vR a :: st) E u) ∧
  (∀ (l1 l2 l3 : am_V) (st : List am_V) (E : am_E) (u : am_M), Rn m_L_law 211 [vB true, l1, l2, l3] st E u = Rn m_L_law 212 [vB true, l1, l2, l3] (vB true :: st) E u) ∧
  (∀ (l0 l1 l2 : am_V) (a : Int) (st : List am_V) (E : am_E) (u : am_M), Rn m_L_law 212 [l0, l1, l2, vI a] st E u = Rn m_L_law 213 [l0, l1, l2, vI a] (vI a :: st) E u) ∧
  (∀ (l0 l1 l2 l3 : am_V) (st : List am_V) (E : am_E) (u : am_M), Rn m_L_law 213 [l0, l1, l2, l3] st E u = Rn m_L_law 214 [l0, l1, l2, l3] (vI 1 :: st) E u) ∧
  (∀ (l0 l1 l2 l3 : am_V) (a b : Int) (st : List am_V) (E : am_E) (u : am_M), Rn m_L_law 214 [l0, l1, l2, l3] (vI b :: vI a :: st) E u = Rn m_L_law 215 [l0, l1, l2, l3] (vI (w32 (a + b)) :: st) E u) ∧
  (∀ (l0 l1 l2 l3 : am_V) (i : Int) (st : List am_V) (E : am_E) (u : am_M) (h0 : 0 ≤ i) (h1 : i < (E.2.2.1 : Int)), Rn m_L_law 215 [l0, l1, l2, l3] (vI i :: vB true :: st) E u = Rn m_L_law 216 [l0, l1, l2, l3] (vI (E.2.2.2 i.toNat) :: st) E u) ∧
  (∀ (l1 l2 l3 : am_V) (st : List am_V) (E : am_E) (u : am_M), Rn m_L_law 216 [vB true, l1, l2, l3] st E u = Rn m_L_law 217 [vB true, l1, l2, l3] (vB true :: st) E u) ∧
  (∀ (l0 l1 l2 : am_V) (a : Int) (st : List am_V) (E : am_E) (u : am_M), Rn m_L_law 217 [l0, l1, l2, vI a] st E u = Rn m_L_law 218 [l0, l1, l2, vI a] (vI a :: st) E u) ∧
  (∀ (l0 l1 l2 l3 : am_V) (st : List am_V) (E : am_E) (u : am_M), Rn m_L_law 218 [l0, l1, l2, l3] st E u = Rn m_L_law 219 [l0, l1, l2, l3] (vI 2 :: st) E u) ∧
  (∀ (l0 l1 l2 l3 : am_V) (a b : Int) (st : List am_V) (E : am_E) (u : am_M), Rn m_L_law 219 [l0, l1, l2, l3] (vI b :: vI a :: st) E u = Rn m_L_law 220 [l0, l1, l2, l3] (vI (w32 (a + b)) :: st) E u) ∧
  (∀ (l0 l1 l2 l3 : am_V) (i : Int) (st : List am_V) (E : am_E) (u : am_M) (h0 : 0 ≤ i) (h1 : i < (E.2.2.1 : Int)), Rn m_L_law 220 [l0, l1, l2, l3] (vI i :: vB true :: st) E u = Rn m_L_law 221 [l0, l1, l2, l3] (vI (E.2.2.2 i.toNat) :: st) E u) ∧
  (∀ (l0 l1 l2 l3 : am_V) (a0 : Int) (a1 : Int) (r0 : am_V) (E : am_E) (u : am_M) (hE : SE E), Rn m_L_law 221 [l0, l1, l2, l3] [vI a1, vI a0, vR (some 149), r0] E u = bdI (Rn m_M_cushion 0 [vR (some 149), vI a0, vI a1] [] E u) (KI m_L_law 224 [l0, l1, l2, l3] [r0])) ∧
  (∀ (l0 l1 l2 l3 : am_V) (a b : Int) (st : List am_V) (E : am_E) (u : am_M), Rn m_L_law 224 [l0, l1, l2, l3] (vI b :: vI a :: st) E u = if a = b then Rn m_L_law 1449 [l0, l1, l2, l3] st E u else Rn m_L_law 227 [l0, l1, l2, l3] st E u) ∧
  (∀ (l0 l1 l2 l3 : am_V) (st : List am_V) (E : am_E) (u : am_M), Rn m_L_law 227 [l0, l1, l2, l3] st E u = Rn m_L_law 228 [l0, l1, l2, l3] (vI 0 :: st) E u) ∧
  (∀ (l0 l1 l2 l3 : am_V) (b : Bool) (E : am_E) (u : am_M), Rn m_L_law 228 [l0, l1, l2, l3] [vI (bI b)] E u = some (some (vI (bI b)), E, u)) ∧
  (∀ (l0 l1 l2 l3 : am_V) (E : am_E) (u : am_M), Rn m_L_law 228 [l0, l1, l2, l3] [vI 1] E u = some (some (vI 1), E, u)) ∧
  (∀ (l0 l1 l2 l3 : am_V) (E : am_E) (u : am_M), Rn m_L_law 228 [l0, l1, l2, l3] [vI 0] E u = some (some (vI 0), E, u)) :=
  ⟨fun l0 l2 l3 a st E u => q_go (by decide +kernel : am_Pg 208 196 = some (.aload_n 1, 1, [], 0)) rfl,
  fun l1 l2 l3 st E u => q_go (by decide +kernel : am_Pg 208 197 = some (.aload_n 0, 1, [], 0)) rfl,
  fun l0 l1 l2 a st E u => q_go (by decide +kernel : am_Pg 208 198 = some (.iload_n 3, 1, [], 0)) rfl,
  fun l0 l1 l2 l3 st E u => q_go (by decide +kernel : am_Pg 208 199 = some (.iconst 1, 1, [], 0)) rfl,
  fun l0 l1 l2 l3 a b st E u => q_go (by decide +kernel : am_Pg 208 200 = some (.iadd, 1, [], 0)) rfl,
  fun l0 l1 l2 l3 i st E u h0 h1 => q_isc (by decide +kernel : am_Pg 208 201 = some (.iaload, 1, [], 0)) h0 h1,
  fun l1 l2 l3 st E u => q_go (by decide +kernel : am_Pg 208 202 = some (.aload_n 0, 1, [], 0)) rfl,
  fun l0 l1 l2 a st E u => q_go (by decide +kernel : am_Pg 208 203 = some (.iload_n 3, 1, [], 0)) rfl,
  fun l0 l1 l2 l3 st E u => q_go (by decide +kernel : am_Pg 208 204 = some (.iconst 2, 1, [], 0)) rfl,
  fun l0 l1 l2 l3 a b st E u => q_go (by decide +kernel : am_Pg 208 205 = some (.iadd, 1, [], 0)) rfl,
  fun l0 l1 l2 l3 i st E u h0 h1 => q_isc (by decide +kernel : am_Pg 208 206 = some (.iaload, 1, [], 0)) h0 h1,
  fun l0 l1 l2 l3 a0 a1  E u hE => q_cI (by decide +kernel : am_Pg 208 207 = some (.invokevirtual 13, 3, [3, 12, 3, 4, 8, 0], 0)) (am_call_V (a := [vI a0, vI a1]) (st' := []) (Nat.le_of_ble_eq_true rfl) rfl (SE_k4 hE)) (by decide +kernel : am_Lm m_A_cushion = 3) (Nat.le_of_ble_eq_true rfl) rfl (by decide +kernel),
  fun l0 l1 l3 a st E u => q_go (by decide +kernel : am_Pg 208 210 = some (.aload_n 2, 1, [], 0)) rfl,
  fun l1 l2 l3 st E u => q_go (by decide +kernel : am_Pg 208 211 = some (.aload_n 0, 1, [], 0)) rfl,
  fun l0 l1 l2 a st E u => q_go (by decide +kernel : am_Pg 208 212 = some (.iload_n 3, 1, [], 0)) rfl,
  fun l0 l1 l2 l3 st E u => q_go (by decide +kernel : am_Pg 208 213 = some (.iconst 1, 1, [], 0)) rfl,
  fun l0 l1 l2 l3 a b st E u => q_go (by decide +kernel : am_Pg 208 214 = some (.iadd, 1, [], 0)) rfl,
  fun l0 l1 l2 l3 i st E u h0 h1 => q_isc (by decide +kernel : am_Pg 208 215 = some (.iaload, 1, [], 0)) h0 h1,
  fun l1 l2 l3 st E u => q_go (by decide +kernel : am_Pg 208 216 = some (.aload_n 0, 1, [], 0)) rfl,
  fun l0 l1 l2 a st E u => q_go (by decide +kernel : am_Pg 208 217 = some (.iload_n 3, 1, [], 0)) rfl,
  fun l0 l1 l2 l3 st E u => q_go (by decide +kernel : am_Pg 208 218 = some (.iconst 2, 1, [], 0)) rfl,
  fun l0 l1 l2 l3 a b st E u => q_go (by decide +kernel : am_Pg 208 219 = some (.iadd, 1, [], 0)) rfl,
  fun l0 l1 l2 l3 i st E u h0 h1 => q_isc (by decide +kernel : am_Pg 208 220 = some (.iaload, 1, [], 0)) h0 h1,
  fun l0 l1 l2 l3 a0 a1 r0 E u hE => q_cI (by decide +kernel : am_Pg 208 221 = some (.invokevirtual 17, 3, [3, 15, 3, 5, 17, 0], 0)) (am_call_V (a := [vI a0, vI a1]) (st' := [r0]) (Nat.le_of_ble_eq_true rfl) rfl (SE_k5 hE)) (by decide +kernel : am_Lm m_M_cushion = 3) (Nat.le_of_ble_eq_true rfl) rfl (by decide +kernel),
  fun l0 l1 l2 l3 a b st E u => q_icmp_eq (tgt := 1449) (by decide +kernel : am_Pg 208 224 = some (.if_icmp .eq 1225, 3, [], 0)) (by decide),
  fun l0 l1 l2 l3 st E u => q_go (by decide +kernel : am_Pg 208 227 = some (.iconst 0, 1, [], 0)) rfl,
  fun l0 l1 l2 l3 b E u => by cases b <;> exact q_ret (by decide +kernel : am_Pg 208 228 = some (.ireturn, 1, [1], 0)) rfl,
  fun l0 l1 l2 l3 E u => q_ret (by decide +kernel : am_Pg 208 228 = some (.ireturn, 1, [1], 0)) rfl,
  fun l0 l1 l2 l3 E u => q_ret (by decide +kernel : am_Pg 208 228 = some (.ireturn, 1, [1], 0)) rfl⟩
theorem x_L_law_229 :
  (∀ (l0 l2 l3 : am_V) (a : Option Nat) (st : List am_V) (E : am_E) (u : am_M), Rn m_L_law 229 [l0, vR a, l2, l3] st E u = Rn m_L_law 230 [l0, vR a, l2, l3] (vR a :: st) E u) ∧
  (∀ (l1 l2 l3 : am_V) (st : List am_V) (E : am_E) (u : am_M), Rn m_L_law 230 [vB true, l1, l2, l3] st E u = Rn m_L_law 231 [vB true, l1, l2, l3] (vB true :: st) E u) ∧
  (∀ (l0 l1 l2 : am_V) (a : Int) (st : List am_V) (E : am_E) (u : am_M), Rn m_L_law 231 [l0, l1, l2, vI a] st E u = Rn m_L_law 232 [l0, l1, l2, vI a] (vI a :: st) E u) ∧
  (∀ (l0 l1 l2 l3 : am_V) (st : List am_V) (E : am_E) (u : am_M), Rn m_L_law 232 [l0, l1, l2, l3] st E u = Rn m_L_law 233 [l0, l1, l2, l3] (vI 1 :: st) E u) ∧
  (∀ (l0 l1 l2 l3 : am_V) (a b : Int) (st : List am_V) (E : am_E) (u : am_M), Rn m_L_law 233 [l0, l1, l2, l3] (vI b :: vI a :: st) E u = Rn m_L_law 234 [l0, l1, l2, l3] (vI (w32 (a + b)) :: st) E u) ∧
  (∀ (l0 l1 l2 l3 : am_V) (i : Int) (st : List am_V) (E : am_E) (u : am_M) (h0 : 0 ≤ i) (h1 : i < (E.2.2.1 : Int)), Rn m_L_law 234 [l0, l1, l2, l3] (vI i :: vB true :: st) E u = Rn m_L_law 235 [l0, l1, l2, l3] (vI (E.2.2.2 i.toNat) :: st) E u) ∧
  (∀ (l1 l2 l3 : am_V) (st : List am_V) (E : am_E) (u : am_M), Rn m_L_law 235 [vB true, l1, l2, l3] st E u = Rn m_L_law 236 [vB true, l1, l2, l3] (vB true :: st) E u) ∧
  (∀ (l0 l1 l2 : am_V) (a : Int) (st : List am_V) (E : am_E) (u : am_M), Rn m_L_law 236 [l0, l1, l2, vI a] st E u = Rn m_L_law 237 [l0, l1, l2, vI a] (vI a :: st) E u) ∧
  (∀ (l0 l1 l2 l3 : am_V) (st : List am_V) (E : am_E) (u : am_M), Rn m_L_law 237 [l0, l1, l2, l3] st E u = Rn m_L_law 238 [l0, l1, l2, l3] (vI 2 :: st) E u) ∧
  (∀ (l0 l1 l2 l3 : am_V) (a b : Int) (st : List am_V) (E : am_E) (u : am_M), Rn m_L_law 238 [l0, l1, l2, l3] (vI b :: vI a :: st) E u = Rn m_L_law 239 [l0, l1, l2, l3] (vI (w32 (a + b)) :: st) E u) ∧
  (∀ (l0 l1 l2 l3 : am_V) (i : Int) (st : List am_V) (E : am_E) (u : am_M) (h0 : 0 ≤ i) (h1 : i < (E.2.2.1 : Int)), Rn m_L_law 239 [l0, l1, l2, l3] (vI i :: vB true :: st) E u = Rn m_L_law 240 [l0, l1, l2, l3] (vI (E.2.2.2 i.toNat) :: st) E u) ∧
  (∀ (l0 l1 l2 l3 : am_V) (a0 : Int) (a1 : Int) (E : am_E) (u : am_M) (hE : SE E), Rn m_L_law 240 [l0, l1, l2, l3] [vI a1, vI a0, vR (some 0)] E u = bdI (Rn m_A_pin 0 [vR (some 0), vI a0, vI a1] [] E u) (KI m_L_law 243 [l0, l1, l2, l3] [])) ∧
  (∀ (l0 l1 l3 : am_V) (a : Option Nat) (st : List am_V) (E : am_E) (u : am_M), Rn m_L_law 243 [l0, l1, vR a, l3] st E u = Rn m_L_law 244 [l0, l1, vR a, l3] (vR a :: st) E u) ∧
  (∀ (l1 l2 l3 : am_V) (st : List am_V) (E : am_E) (u : am_M), Rn m_L_law 244 [vB true, l1, l2, l3] st E u = Rn m_L_law 245 [vB true, l1, l2, l3] (vB true :: st) E u) ∧
  (∀ (l0 l1 l2 : am_V) (a : Int) (st : List am_V) (E : am_E) (u : am_M), Rn m_L_law 245 [l0, l1, l2, vI a] st E u = Rn m_L_law 246 [l0, l1, l2, vI a] (vI a :: st) E u) ∧
  (∀ (l0 l1 l2 l3 : am_V) (st : List am_V) (E : am_E) (u : am_M), Rn m_L_law 246 [l0, l1, l2, l3] st E u = Rn m_L_law 247 [l0, l1, l2, l3] (vI 1 :: st) E u) ∧
  (∀ (l0 l1 l2 l3 : am_V) (a b : Int) (st : List am_V) (E : am_E) (u : am_M), Rn m_L_law 247 [l0, l1, l2, l3] (vI b :: vI a :: st) E u = Rn m_L_law 248 [l0, l1, l2, l3] (vI (w32 (a + b)) :: st) E u) ∧
  (∀ (l0 l1 l2 l3 : am_V) (i : Int) (st : List am_V) (E : am_E) (u : am_M) (h0 : 0 ≤ i) (h1 : i < (E.2.2.1 : Int)), Rn m_L_law 248 [l0, l1, l2, l3] (vI i :: vB true :: st) E u = Rn m_L_law 249 [l0, l1, l2, l3] (vI (E.2.2.2 i.toNat) :: st) E u) ∧
  (∀ (l1 l2 l3 : am_V) (st : List am_V) (E : am_E) (u : am_M), Rn m_L_law 249 [vB true, l1, l2, l3] st E u = Rn m_L_law 250 [vB true, l1, l2, l3] (vB true :: st) E u) ∧
  (∀ (l0 l1 l2 : am_V) (a : Int) (st : List am_V) (E : am_E) (u : am_M), Rn m_L_law 250 [l0, l1, l2, vI a] st E u = Rn m_L_law 251 [l0, l1, l2, vI a] (vI a :: st) E u) ∧
  (∀ (l0 l1 l2 l3 : am_V) (st : List am_V) (E : am_E) (u : am_M), Rn m_L_law 251 [l0, l1, l2, l3] st E u = Rn m_L_law 252 [l0, l1, l2, l3] (vI 2 :: st) E u) ∧
  (∀ (l0 l1 l2 l3 : am_V) (a b : Int) (st : List am_V) (E : am_E) (u : am_M), Rn m_L_law 252 [l0, l1, l2, l3] (vI b :: vI a :: st) E u = Rn m_L_law 253 [l0, l1, l2, l3] (vI (w32 (a + b)) :: st) E u) ∧
  (∀ (l0 l1 l2 l3 : am_V) (i : Int) (st : List am_V) (E : am_E) (u : am_M) (h0 : 0 ≤ i) (h1 : i < (E.2.2.1 : Int)), Rn m_L_law 253 [l0, l1, l2, l3] (vI i :: vB true :: st) E u = Rn m_L_law 254 [l0, l1, l2, l3] (vI (E.2.2.2 i.toNat) :: st) E u) ∧
  (∀ (l0 l1 l2 l3 : am_V) (a0 : Int) (a1 : Int) (r0 : am_V) (E : am_E) (u : am_M) (hE : SE E), Rn m_L_law 254 [l0, l1, l2, l3] [vI a1, vI a0, vR (some 149), r0] E u = bdI (Rn m_M_pin 0 [vR (some 149), vI a0, vI a1] [] E u) (KI m_L_law 257 [l0, l1, l2, l3] [r0])) ∧
  (∀ (l0 l1 l2 l3 : am_V) (a b : Int) (st : List am_V) (E : am_E) (u : am_M), Rn m_L_law 257 [l0, l1, l2, l3] (vI b :: vI a :: st) E u = if a = b then Rn m_L_law 1449 [l0, l1, l2, l3] st E u else Rn m_L_law 260 [l0, l1, l2, l3] st E u) ∧
  (∀ (l0 l1 l2 l3 : am_V) (st : List am_V) (E : am_E) (u : am_M), Rn m_L_law 260 [l0, l1, l2, l3] st E u = Rn m_L_law 261 [l0, l1, l2, l3] (vI 0 :: st) E u) ∧
  (∀ (l0 l1 l2 l3 : am_V) (b : Bool) (E : am_E) (u : am_M), Rn m_L_law 261 [l0, l1, l2, l3] [vI (bI b)] E u = some (some (vI (bI b)), E, u)) ∧
  (∀ (l0 l1 l2 l3 : am_V) (E : am_E) (u : am_M), Rn m_L_law 261 [l0, l1, l2, l3] [vI 1] E u = some (some (vI 1), E, u)) ∧
  (∀ (l0 l1 l2 l3 : am_V) (E : am_E) (u : am_M), Rn m_L_law 261 [l0, l1, l2, l3] [vI 0] E u = some (some (vI 0), E, u)) :=
  ⟨fun l0 l2 l3 a st E u => q_go (by decide +kernel : am_Pg 208 229 = some (.aload_n 1, 1, [], 0)) rfl,
  fun l1 l2 l3 st E u => q_go (by decide +kernel : am_Pg 208 230 = some (.aload_n 0, 1, [], 0)) rfl,
  fun l0 l1 l2 a st E u => q_go (by decide +kernel : am_Pg 208 231 = some (.iload_n 3, 1, [], 0)) rfl,
  fun l0 l1 l2 l3 st E u => q_go (by decide +kernel : am_Pg 208 232 = some (.iconst 1, 1, [], 0)) rfl,
  fun l0 l1 l2 l3 a b st E u => q_go (by decide +kernel : am_Pg 208 233 = some (.iadd, 1, [], 0)) rfl,
  fun l0 l1 l2 l3 i st E u h0 h1 => q_isc (by decide +kernel : am_Pg 208 234 = some (.iaload, 1, [], 0)) h0 h1,
  fun l1 l2 l3 st E u => q_go (by decide +kernel : am_Pg 208 235 = some (.aload_n 0, 1, [], 0)) rfl,
  fun l0 l1 l2 a st E u => q_go (by decide +kernel : am_Pg 208 236 = some (.iload_n 3, 1, [], 0)) rfl,
  fun l0 l1 l2 l3 st E u => q_go (by decide +kernel : am_Pg 208 237 = some (.iconst 2, 1, [], 0)) rfl,
  fun l0 l1 l2 l3 a b st E u => q_go (by decide +kernel : am_Pg 208 238 = some (.iadd, 1, [], 0)) rfl,
  fun l0 l1 l2 l3 i st E u h0 h1 => q_isc (by decide +kernel : am_Pg 208 239 = some (.iaload, 1, [], 0)) h0 h1,
  fun l0 l1 l2 l3 a0 a1  E u hE => q_cI (by decide +kernel : am_Pg 208 240 = some (.invokevirtual 18, 3, [3, 21, 3, 4, 8, 0], 0)) (am_call_V (a := [vI a0, vI a1]) (st' := []) (Nat.le_of_ble_eq_true rfl) rfl (SE_k4 hE)) (by decide +kernel : am_Lm m_A_pin = 3) (Nat.le_of_ble_eq_true rfl) rfl (by decide +kernel),
  fun l0 l1 l3 a st E u => q_go (by decide +kernel : am_Pg 208 243 = some (.aload_n 2, 1, [], 0)) rfl,
  fun l1 l2 l3 st E u => q_go (by decide +kernel : am_Pg 208 244 = some (.aload_n 0, 1, [], 0)) rfl,
  fun l0 l1 l2 a st E u => q_go (by decide +kernel : am_Pg 208 245 = some (.iload_n 3, 1, [], 0)) rfl,
  fun l0 l1 l2 l3 st E u => q_go (by decide +kernel : am_Pg 208 246 = some (.iconst 1, 1, [], 0)) rfl,
  fun l0 l1 l2 l3 a b st E u => q_go (by decide +kernel : am_Pg 208 247 = some (.iadd, 1, [], 0)) rfl,
  fun l0 l1 l2 l3 i st E u h0 h1 => q_isc (by decide +kernel : am_Pg 208 248 = some (.iaload, 1, [], 0)) h0 h1,
  fun l1 l2 l3 st E u => q_go (by decide +kernel : am_Pg 208 249 = some (.aload_n 0, 1, [], 0)) rfl,
  fun l0 l1 l2 a st E u => q_go (by decide +kernel : am_Pg 208 250 = some (.iload_n 3, 1, [], 0)) rfl,
  fun l0 l1 l2 l3 st E u => q_go (by decide +kernel : am_Pg 208 251 = some (.iconst 2, 1, [], 0)) rfl,
  fun l0 l1 l2 l3 a b st E u => q_go (by decide +kernel : am_Pg 208 252 = some (.iadd, 1, [], 0)) rfl,
  fun l0 l1 l2 l3 i st E u h0 h1 => q_isc (by decide +kernel : am_Pg 208 253 = some (.iaload, 1, [], 0)) h0 h1,
  fun l0 l1 l2 l3 a0 a1 r0 E u hE => q_cI (by decide +kernel : am_Pg 208 254 = some (.invokevirtual 21, 3, [3, 28, 3, 5, 17, 0], 0)) (am_call_V (a := [vI a0, vI a1]) (st' := [r0]) (Nat.le_of_ble_eq_true rfl) rfl (SE_k5 hE)) (by decide +kernel : am_Lm m_M_pin = 3) (Nat.le_of_ble_eq_true rfl) rfl (by decide +kernel),
  fun l0 l1 l2 l3 a b st E u => q_icmp_eq (tgt := 1449) (by decide +kernel : am_Pg 208 257 = some (.if_icmp .eq 1192, 3, [], 0)) (by decide),
  fun l0 l1 l2 l3 st E u => q_go (by decide +kernel : am_Pg 208 260 = some (.iconst 0, 1, [], 0)) rfl,
  fun l0 l1 l2 l3 b E u => by cases b <;> exact q_ret (by decide +kernel : am_Pg 208 261 = some (.ireturn, 1, [1], 0)) rfl,
  fun l0 l1 l2 l3 E u => q_ret (by decide +kernel : am_Pg 208 261 = some (.ireturn, 1, [1], 0)) rfl,
  fun l0 l1 l2 l3 E u => q_ret (by decide +kernel : am_Pg 208 261 = some (.ireturn, 1, [1], 0)) rfl⟩
theorem x_L_law_262 :
  (∀ (l0 l2 l3 : am_V) (a : Option Nat) (st : List am_V) (E : am_E) (u : am_M), Rn m_L_law 262 [l0, vR a, l2, l3] st E u = Rn m_L_law 263 [l0, vR a, l2, l3] (vR a :: st) E u) ∧
  (∀ (l1 l2 l3 : am_V) (st : List am_V) (E : am_E) (u : am_M), Rn m_L_law 263 [vB true, l1, l2, l3] st E u = Rn m_L_law 264 [vB true, l1, l2, l3] (vB true :: st) E u) ∧
  (∀ (l0 l1 l2 : am_V) (a : Int) (st : List am_V) (E : am_E) (u : am_M), Rn m_L_law 264 [l0, l1, l2, vI a] st E u = Rn m_L_law 265 [l0, l1, l2, vI a] (vI a :: st) E u) ∧
  (∀ (l0 l1 l2 l3 : am_V) (st : List am_V) (E : am_E) (u : am_M), Rn m_L_law 265 [l0, l1, l2, l3] st E u = Rn m_L_law 266 [l0, l1, l2, l3] (vI 1 :: st) E u) ∧
  (∀ (l0 l1 l2 l3 : am_V) (a b : Int) (st : List am_V) (E : am_E) (u : am_M), Rn m_L_law 266 [l0, l1, l2, l3] (vI b :: vI a :: st) E u = Rn m_L_law 267 [l0, l1, l2, l3] (vI (w32 (a + b)) :: st) E u) ∧
  (∀ (l0 l1 l2 l3 : am_V) (i : Int) (st : List am_V) (E : am_E) (u : am_M) (h0 : 0 ≤ i) (h1 : i < (E.2.2.1 : Int)), Rn m_L_law 267 [l0, l1, l2, l3] (vI i :: vB true :: st) E u = Rn m_L_law 268 [l0, l1, l2, l3] (vI (E.2.2.2 i.toNat) :: st) E u) ∧
  (∀ (l1 l2 l3 : am_V) (st : List am_V) (E : am_E) (u : am_M), Rn m_L_law 268 [vB true, l1, l2, l3] st E u = Rn m_L_law 269 [vB true, l1, l2, l3] (vB true :: st) E u) ∧
  (∀ (l0 l1 l2 : am_V) (a : Int) (st : List am_V) (E : am_E) (u : am_M), Rn m_L_law 269 [l0, l1, l2, vI a] st E u = Rn m_L_law 270 [l0, l1, l2, vI a] (vI a :: st) E u) ∧
  (∀ (l0 l1 l2 l3 : am_V) (st : List am_V) (E : am_E) (u : am_M), Rn m_L_law 270 [l0, l1, l2, l3] st E u = Rn m_L_law 271 [l0, l1, l2, l3] (vI 2 :: st) E u) ∧
  (∀ (l0 l1 l2 l3 : am_V) (a b : Int) (st : List am_V) (E : am_E) (u : am_M), Rn m_L_law 271 [l0, l1, l2, l3] (vI b :: vI a :: st) E u = Rn m_L_law 272 [l0, l1, l2, l3] (vI (w32 (a + b)) :: st) E u) ∧
  (∀ (l0 l1 l2 l3 : am_V) (i : Int) (st : List am_V) (E : am_E) (u : am_M) (h0 : 0 ≤ i) (h1 : i < (E.2.2.1 : Int)), Rn m_L_law 272 [l0, l1, l2, l3] (vI i :: vB true :: st) E u = Rn m_L_law 273 [l0, l1, l2, l3] (vI (E.2.2.2 i.toNat) :: st) E u) ∧
  (∀ (l1 l2 l3 : am_V) (st : List am_V) (E : am_E) (u : am_M), Rn m_L_law 273 [vB true, l1, l2, l3] st E u = Rn m_L_law 274 [vB true, l1, l2, l3] (vB true :: st) E u) ∧
  (∀ (l0 l1 l2 : am_V) (a : Int) (st : List am_V) (E : am_E) (u : am_M), Rn m_L_law 274 [l0, l1, l2, vI a] st E u = Rn m_L_law 275 [l0, l1, l2, vI a] (vI a :: st) E u) ∧
  (∀ (l0 l1 l2 l3 : am_V) (st : List am_V) (E : am_E) (u : am_M), Rn m_L_law 275 [l0, l1, l2, l3] st E u = Rn m_L_law 276 [l0, l1, l2, l3] (vI 3 :: st) E u) ∧
  (∀ (l0 l1 l2 l3 : am_V) (a b : Int) (st : List am_V) (E : am_E) (u : am_M), Rn m_L_law 276 [l0, l1, l2, l3] (vI b :: vI a :: st) E u = Rn m_L_law 277 [l0, l1, l2, l3] (vI (w32 (a + b)) :: st) E u) ∧
  (∀ (l0 l1 l2 l3 : am_V) (i : Int) (st : List am_V) (E : am_E) (u : am_M) (h0 : 0 ≤ i) (h1 : i < (E.2.2.1 : Int)), Rn m_L_law 277 [l0, l1, l2, l3] (vI i :: vB true :: st) E u = Rn m_L_law 278 [l0, l1, l2, l3] (vI (E.2.2.2 i.toNat) :: st) E u) ∧
  (∀ (l0 l1 l2 l3 : am_V) (a0 : Int) (a1 : Int) (a2 : Int) (E : am_E) (u : am_M) (hE : SE E), Rn m_L_law 278 [l0, l1, l2, l3] [vI a2, vI a1, vI a0, vR (some 0)] E u = bdI (Rn m_A_thread 0 [vR (some 0), vI a0, vI a1, vI a2] [] E u) (KI m_L_law 281 [l0, l1, l2, l3] [])) ∧
  (∀ (l0 l1 l3 : am_V) (a : Option Nat) (st : List am_V) (E : am_E) (u : am_M), Rn m_L_law 281 [l0, l1, vR a, l3] st E u = Rn m_L_law 282 [l0, l1, vR a, l3] (vR a :: st) E u) ∧
  (∀ (l1 l2 l3 : am_V) (st : List am_V) (E : am_E) (u : am_M), Rn m_L_law 282 [vB true, l1, l2, l3] st E u = Rn m_L_law 283 [vB true, l1, l2, l3] (vB true :: st) E u) ∧
  (∀ (l0 l1 l2 : am_V) (a : Int) (st : List am_V) (E : am_E) (u : am_M), Rn m_L_law 283 [l0, l1, l2, vI a] st E u = Rn m_L_law 284 [l0, l1, l2, vI a] (vI a :: st) E u) ∧
  (∀ (l0 l1 l2 l3 : am_V) (st : List am_V) (E : am_E) (u : am_M), Rn m_L_law 284 [l0, l1, l2, l3] st E u = Rn m_L_law 285 [l0, l1, l2, l3] (vI 1 :: st) E u) ∧
  (∀ (l0 l1 l2 l3 : am_V) (a b : Int) (st : List am_V) (E : am_E) (u : am_M), Rn m_L_law 285 [l0, l1, l2, l3] (vI b :: vI a :: st) E u = Rn m_L_law 286 [l0, l1, l2, l3] (vI (w32 (a + b)) :: st) E u) ∧
  (∀ (l0 l1 l2 l3 : am_V) (i : Int) (st : List am_V) (E : am_E) (u : am_M) (h0 : 0 ≤ i) (h1 : i < (E.2.2.1 : Int)), Rn m_L_law 286 [l0, l1, l2, l3] (vI i :: vB true :: st) E u = Rn m_L_law 287 [l0, l1, l2, l3] (vI (E.2.2.2 i.toNat) :: st) E u) ∧
  (∀ (l1 l2 l3 : am_V) (st : List am_V) (E : am_E) (u : am_M), Rn m_L_law 287 [vB true, l1, l2, l3] st E u = Rn m_L_law 288 [vB true, l1, l2, l3] (vB true :: st) E u) ∧
  (∀ (l0 l1 l2 : am_V) (a : Int) (st : List am_V) (E : am_E) (u : am_M), Rn m_L_law 288 [l0, l1, l2, vI a] st E u = Rn m_L_law 289 [l0, l1, l2, vI a] (vI a :: st) E u) ∧
  (∀ (l0 l1 l2 l3 : am_V) (st : List am_V) (E : am_E) (u : am_M), Rn m_L_law 289 [l0, l1, l2, l3] st E u = Rn m_L_law 290 [l0, l1, l2, l3] (vI 2 :: st) E u) ∧
  (∀ (l0 l1 l2 l3 : am_V) (a b : Int) (st : List am_V) (E : am_E) (u : am_M), Rn m_L_law 290 [l0, l1, l2, l3] (vI b :: vI a :: st) E u = Rn m_L_law 291 [l0, l1, l2, l3] (vI (w32 (a + b)) :: st) E u) ∧
  (∀ (l0 l1 l2 l3 : am_V) (i : Int) (st : List am_V) (E : am_E) (u : am_M) (h0 : 0 ≤ i) (h1 : i < (E.2.2.1 : Int)), Rn m_L_law 291 [l0, l1, l2, l3] (vI i :: vB true :: st) E u = Rn m_L_law 292 [l0, l1, l2, l3] (vI (E.2.2.2 i.toNat) :: st) E u) ∧
  (∀ (l1 l2 l3 : am_V) (st : List am_V) (E : am_E) (u : am_M), Rn m_L_law 292 [vB true, l1, l2, l3] st E u = Rn m_L_law 293 [vB true, l1, l2, l3] (vB true :: st) E u) ∧
  (∀ (l0 l1 l2 : am_V) (a : Int) (st : List am_V) (E : am_E) (u : am_M), Rn m_L_law 293 [l0, l1, l2, vI a] st E u = Rn m_L_law 294 [l0, l1, l2, vI a] (vI a :: st) E u) ∧
  (∀ (l0 l1 l2 l3 : am_V) (st : List am_V) (E : am_E) (u : am_M), Rn m_L_law 294 [l0, l1, l2, l3] st E u = Rn m_L_law 295 [l0, l1, l2, l3] (vI 3 :: st) E u) ∧
  (∀ (l0 l1 l2 l3 : am_V) (a b : Int) (st : List am_V) (E : am_E) (u : am_M), Rn m_L_law 295 [l0, l1, l2, l3] (vI b :: vI a :: st) E u = Rn m_L_law 296 [l0, l1, l2, l3] (vI (w32 (a + b)) :: st) E u) ∧
  (∀ (l0 l1 l2 l3 : am_V) (i : Int) (st : List am_V) (E : am_E) (u : am_M) (h0 : 0 ≤ i) (h1 : i < (E.2.2.1 : Int)), Rn m_L_law 296 [l0, l1, l2, l3] (vI i :: vB true :: st) E u = Rn m_L_law 297 [l0, l1, l2, l3] (vI (E.2.2.2 i.toNat) :: st) E u) ∧
  (∀ (l0 l1 l2 l3 : am_V) (a0 : Int) (a1 : Int) (a2 : Int) (r0 : am_V) (E : am_E) (u : am_M) (hE : SE E), Rn m_L_law 297 [l0, l1, l2, l3] [vI a2, vI a1, vI a0, vR (some 149), r0] E u = bdI (Rn m_M_thread 0 [vR (some 149), vI a0, vI a1, vI a2] [] E u) (KI m_L_law 300 [l0, l1, l2, l3] [r0])) ∧
  (∀ (l0 l1 l2 l3 : am_V) (a b : Int) (st : List am_V) (E : am_E) (u : am_M), Rn m_L_law 300 [l0, l1, l2, l3] (vI b :: vI a :: st) E u = if a = b then Rn m_L_law 1449 [l0, l1, l2, l3] st E u else Rn m_L_law 303 [l0, l1, l2, l3] st E u) ∧
  (∀ (l0 l1 l2 l3 : am_V) (st : List am_V) (E : am_E) (u : am_M), Rn m_L_law 303 [l0, l1, l2, l3] st E u = Rn m_L_law 304 [l0, l1, l2, l3] (vI 0 :: st) E u) ∧
  (∀ (l0 l1 l2 l3 : am_V) (b : Bool) (E : am_E) (u : am_M), Rn m_L_law 304 [l0, l1, l2, l3] [vI (bI b)] E u = some (some (vI (bI b)), E, u)) ∧
  (∀ (l0 l1 l2 l3 : am_V) (E : am_E) (u : am_M), Rn m_L_law 304 [l0, l1, l2, l3] [vI 1] E u = some (some (vI 1), E, u)) ∧
  (∀ (l0 l1 l2 l3 : am_V) (E : am_E) (u : am_M), Rn m_L_law 304 [l0, l1, l2, l3] [vI 0] E u = some (some (vI 0), E, u)) :=
  ⟨fun l0 l2 l3 a st E u => q_go (by decide +kernel : am_Pg 208 262 = some (.aload_n 1, 1, [], 0)) rfl,
  fun l1 l2 l3 st E u => q_go (by decide +kernel : am_Pg 208 263 = some (.aload_n 0, 1, [], 0)) rfl,
  fun l0 l1 l2 a st E u => q_go (by decide +kernel : am_Pg 208 264 = some (.iload_n 3, 1, [], 0)) rfl,
  fun l0 l1 l2 l3 st E u => q_go (by decide +kernel : am_Pg 208 265 = some (.iconst 1, 1, [], 0)) rfl,
  fun l0 l1 l2 l3 a b st E u => q_go (by decide +kernel : am_Pg 208 266 = some (.iadd, 1, [], 0)) rfl,
  fun l0 l1 l2 l3 i st E u h0 h1 => q_isc (by decide +kernel : am_Pg 208 267 = some (.iaload, 1, [], 0)) h0 h1,
  fun l1 l2 l3 st E u => q_go (by decide +kernel : am_Pg 208 268 = some (.aload_n 0, 1, [], 0)) rfl,
  fun l0 l1 l2 a st E u => q_go (by decide +kernel : am_Pg 208 269 = some (.iload_n 3, 1, [], 0)) rfl,
  fun l0 l1 l2 l3 st E u => q_go (by decide +kernel : am_Pg 208 270 = some (.iconst 2, 1, [], 0)) rfl,
  fun l0 l1 l2 l3 a b st E u => q_go (by decide +kernel : am_Pg 208 271 = some (.iadd, 1, [], 0)) rfl,
  fun l0 l1 l2 l3 i st E u h0 h1 => q_isc (by decide +kernel : am_Pg 208 272 = some (.iaload, 1, [], 0)) h0 h1,
  fun l1 l2 l3 st E u => q_go (by decide +kernel : am_Pg 208 273 = some (.aload_n 0, 1, [], 0)) rfl,
  fun l0 l1 l2 a st E u => q_go (by decide +kernel : am_Pg 208 274 = some (.iload_n 3, 1, [], 0)) rfl,
  fun l0 l1 l2 l3 st E u => q_go (by decide +kernel : am_Pg 208 275 = some (.iconst 3, 1, [], 0)) rfl,
  fun l0 l1 l2 l3 a b st E u => q_go (by decide +kernel : am_Pg 208 276 = some (.iadd, 1, [], 0)) rfl,
  fun l0 l1 l2 l3 i st E u h0 h1 => q_isc (by decide +kernel : am_Pg 208 277 = some (.iaload, 1, [], 0)) h0 h1,
  fun l0 l1 l2 l3 a0 a1 a2  E u hE => q_cI (by decide +kernel : am_Pg 208 278 = some (.invokevirtual 22, 3, [3, 32, 4, 4, 8, 0], 0)) (am_call_V (a := [vI a0, vI a1, vI a2]) (st' := []) (Nat.le_of_ble_eq_true rfl) rfl (SE_k4 hE)) (by decide +kernel : am_Lm m_A_thread = 4) (Nat.le_of_ble_eq_true rfl) rfl (by decide +kernel),
  fun l0 l1 l3 a st E u => q_go (by decide +kernel : am_Pg 208 281 = some (.aload_n 2, 1, [], 0)) rfl,
  fun l1 l2 l3 st E u => q_go (by decide +kernel : am_Pg 208 282 = some (.aload_n 0, 1, [], 0)) rfl,
  fun l0 l1 l2 a st E u => q_go (by decide +kernel : am_Pg 208 283 = some (.iload_n 3, 1, [], 0)) rfl,
  fun l0 l1 l2 l3 st E u => q_go (by decide +kernel : am_Pg 208 284 = some (.iconst 1, 1, [], 0)) rfl,
  fun l0 l1 l2 l3 a b st E u => q_go (by decide +kernel : am_Pg 208 285 = some (.iadd, 1, [], 0)) rfl,
  fun l0 l1 l2 l3 i st E u h0 h1 => q_isc (by decide +kernel : am_Pg 208 286 = some (.iaload, 1, [], 0)) h0 h1,
  fun l1 l2 l3 st E u => q_go (by decide +kernel : am_Pg 208 287 = some (.aload_n 0, 1, [], 0)) rfl,
  fun l0 l1 l2 a st E u => q_go (by decide +kernel : am_Pg 208 288 = some (.iload_n 3, 1, [], 0)) rfl,
  fun l0 l1 l2 l3 st E u => q_go (by decide +kernel : am_Pg 208 289 = some (.iconst 2, 1, [], 0)) rfl,
  fun l0 l1 l2 l3 a b st E u => q_go (by decide +kernel : am_Pg 208 290 = some (.iadd, 1, [], 0)) rfl,
  fun l0 l1 l2 l3 i st E u h0 h1 => q_isc (by decide +kernel : am_Pg 208 291 = some (.iaload, 1, [], 0)) h0 h1,
  fun l1 l2 l3 st E u => q_go (by decide +kernel : am_Pg 208 292 = some (.aload_n 0, 1, [], 0)) rfl,
  fun l0 l1 l2 a st E u => q_go (by decide +kernel : am_Pg 208 293 = some (.iload_n 3, 1, [], 0)) rfl,
  fun l0 l1 l2 l3 st E u => q_go (by decide +kernel : am_Pg 208 294 = some (.iconst 3, 1, [], 0)) rfl,
  fun l0 l1 l2 l3 a b st E u => q_go (by decide +kernel : am_Pg 208 295 = some (.iadd, 1, [], 0)) rfl,
  fun l0 l1 l2 l3 i st E u h0 h1 => q_isc (by decide +kernel : am_Pg 208 296 = some (.iaload, 1, [], 0)) h0 h1,
  fun l0 l1 l2 l3 a0 a1 a2 r0 E u hE => q_cI (by decide +kernel : am_Pg 208 297 = some (.invokevirtual 26, 3, [3, 35, 4, 5, 17, 0], 0)) (am_call_V (a := [vI a0, vI a1, vI a2]) (st' := [r0]) (Nat.le_of_ble_eq_true rfl) rfl (SE_k5 hE)) (by decide +kernel : am_Lm m_M_thread = 4) (Nat.le_of_ble_eq_true rfl) rfl (by decide +kernel),
  fun l0 l1 l2 l3 a b st E u => q_icmp_eq (tgt := 1449) (by decide +kernel : am_Pg 208 300 = some (.if_icmp .eq 1149, 3, [], 0)) (by decide),
  fun l0 l1 l2 l3 st E u => q_go (by decide +kernel : am_Pg 208 303 = some (.iconst 0, 1, [], 0)) rfl,
  fun l0 l1 l2 l3 b E u => by cases b <;> exact q_ret (by decide +kernel : am_Pg 208 304 = some (.ireturn, 1, [1], 0)) rfl,
  fun l0 l1 l2 l3 E u => q_ret (by decide +kernel : am_Pg 208 304 = some (.ireturn, 1, [1], 0)) rfl,
  fun l0 l1 l2 l3 E u => q_ret (by decide +kernel : am_Pg 208 304 = some (.ireturn, 1, [1], 0)) rfl⟩
theorem x_L_law_305 :
  (∀ (l0 l2 l3 : am_V) (a : Option Nat) (st : List am_V) (E : am_E) (u : am_M), Rn m_L_law 305 [l0, vR a, l2, l3] st E u = Rn m_L_law 306 [l0, vR a, l2, l3] (vR a :: st) E u) ∧
  (∀ (l1 l2 l3 : am_V) (st : List am_V) (E : am_E) (u : am_M), Rn m_L_law 306 [vB true, l1, l2, l3] st E u = Rn m_L_law 307 [vB true, l1, l2, l3] (vB true :: st) E u) ∧
  (∀ (l0 l1 l2 : am_V) (a : Int) (st : List am_V) (E : am_E) (u : am_M), Rn m_L_law 307 [l0, l1, l2, vI a] st E u = Rn m_L_law 308 [l0, l1, l2, vI a] (vI a :: st) E u) ∧
  (∀ (l0 l1 l2 l3 : am_V) (st : List am_V) (E : am_E) (u : am_M), Rn m_L_law 308 [l0, l1, l2, l3] st E u = Rn m_L_law 309 [l0, l1, l2, l3] (vI 1 :: st) E u) ∧
  (∀ (l0 l1 l2 l3 : am_V) (a b : Int) (st : List am_V) (E : am_E) (u : am_M), Rn m_L_law 309 [l0, l1, l2, l3] (vI b :: vI a :: st) E u = Rn m_L_law 310 [l0, l1, l2, l3] (vI (w32 (a + b)) :: st) E u) ∧
  (∀ (l0 l1 l2 l3 : am_V) (i : Int) (st : List am_V) (E : am_E) (u : am_M) (h0 : 0 ≤ i) (h1 : i < (E.2.2.1 : Int)), Rn m_L_law 310 [l0, l1, l2, l3] (vI i :: vB true :: st) E u = Rn m_L_law 311 [l0, l1, l2, l3] (vI (E.2.2.2 i.toNat) :: st) E u) ∧
  (∀ (l1 l2 l3 : am_V) (st : List am_V) (E : am_E) (u : am_M), Rn m_L_law 311 [vB true, l1, l2, l3] st E u = Rn m_L_law 312 [vB true, l1, l2, l3] (vB true :: st) E u) ∧
  (∀ (l0 l1 l2 : am_V) (a : Int) (st : List am_V) (E : am_E) (u : am_M), Rn m_L_law 312 [l0, l1, l2, vI a] st E u = Rn m_L_law 313 [l0, l1, l2, vI a] (vI a :: st) E u) ∧
  (∀ (l0 l1 l2 l3 : am_V) (st : List am_V) (E : am_E) (u : am_M), Rn m_L_law 313 [l0, l1, l2, l3] st E u = Rn m_L_law 314 [l0, l1, l2, l3] (vI 2 :: st) E u) ∧
  (∀ (l0 l1 l2 l3 : am_V) (a b : Int) (st : List am_V) (E : am_E) (u : am_M), Rn m_L_law 314 [l0, l1, l2, l3] (vI b :: vI a :: st) E u = Rn m_L_law 315 [l0, l1, l2, l3] (vI (w32 (a + b)) :: st) E u) ∧
  (∀ (l0 l1 l2 l3 : am_V) (i : Int) (st : List am_V) (E : am_E) (u : am_M) (h0 : 0 ≤ i) (h1 : i < (E.2.2.1 : Int)), Rn m_L_law 315 [l0, l1, l2, l3] (vI i :: vB true :: st) E u = Rn m_L_law 316 [l0, l1, l2, l3] (vI (E.2.2.2 i.toNat) :: st) E u) ∧
  (∀ (l0 l1 l2 l3 : am_V) (a0 : Int) (a1 : Int) (E : am_E) (u : am_M) (hE : SE E), Rn m_L_law 316 [l0, l1, l2, l3] [vI a1, vI a0, vR (some 0)] E u = bdI (Rn m_A_of 0 [vR (some 0), vI a0, vI a1] [] E u) (KI m_L_law 319 [l0, l1, l2, l3] [])) ∧
  (∀ (l0 l1 l3 : am_V) (a : Option Nat) (st : List am_V) (E : am_E) (u : am_M), Rn m_L_law 319 [l0, l1, vR a, l3] st E u = Rn m_L_law 320 [l0, l1, vR a, l3] (vR a :: st) E u) ∧
  (∀ (l1 l2 l3 : am_V) (st : List am_V) (E : am_E) (u : am_M), Rn m_L_law 320 [vB true, l1, l2, l3] st E u = Rn m_L_law 321 [vB true, l1, l2, l3] (vB true :: st) E u) ∧
  (∀ (l0 l1 l2 : am_V) (a : Int) (st : List am_V) (E : am_E) (u : am_M), Rn m_L_law 321 [l0, l1, l2, vI a] st E u = Rn m_L_law 322 [l0, l1, l2, vI a] (vI a :: st) E u) ∧
  (∀ (l0 l1 l2 l3 : am_V) (st : List am_V) (E : am_E) (u : am_M), Rn m_L_law 322 [l0, l1, l2, l3] st E u = Rn m_L_law 323 [l0, l1, l2, l3] (vI 1 :: st) E u) ∧
  (∀ (l0 l1 l2 l3 : am_V) (a b : Int) (st : List am_V) (E : am_E) (u : am_M), Rn m_L_law 323 [l0, l1, l2, l3] (vI b :: vI a :: st) E u = Rn m_L_law 324 [l0, l1, l2, l3] (vI (w32 (a + b)) :: st) E u) ∧
  (∀ (l0 l1 l2 l3 : am_V) (i : Int) (st : List am_V) (E : am_E) (u : am_M) (h0 : 0 ≤ i) (h1 : i < (E.2.2.1 : Int)), Rn m_L_law 324 [l0, l1, l2, l3] (vI i :: vB true :: st) E u = Rn m_L_law 325 [l0, l1, l2, l3] (vI (E.2.2.2 i.toNat) :: st) E u) ∧
  (∀ (l1 l2 l3 : am_V) (st : List am_V) (E : am_E) (u : am_M), Rn m_L_law 325 [vB true, l1, l2, l3] st E u = Rn m_L_law 326 [vB true, l1, l2, l3] (vB true :: st) E u) ∧
  (∀ (l0 l1 l2 : am_V) (a : Int) (st : List am_V) (E : am_E) (u : am_M), Rn m_L_law 326 [l0, l1, l2, vI a] st E u = Rn m_L_law 327 [l0, l1, l2, vI a] (vI a :: st) E u) ∧
  (∀ (l0 l1 l2 l3 : am_V) (st : List am_V) (E : am_E) (u : am_M), Rn m_L_law 327 [l0, l1, l2, l3] st E u = Rn m_L_law 328 [l0, l1, l2, l3] (vI 2 :: st) E u) ∧
  (∀ (l0 l1 l2 l3 : am_V) (a b : Int) (st : List am_V) (E : am_E) (u : am_M), Rn m_L_law 328 [l0, l1, l2, l3] (vI b :: vI a :: st) E u = Rn m_L_law 329 [l0, l1, l2, l3] (vI (w32 (a + b)) :: st) E u) ∧
  (∀ (l0 l1 l2 l3 : am_V) (i : Int) (st : List am_V) (E : am_E) (u : am_M) (h0 : 0 ≤ i) (h1 : i < (E.2.2.1 : Int)), Rn m_L_law 329 [l0, l1, l2, l3] (vI i :: vB true :: st) E u = Rn m_L_law 330 [l0, l1, l2, l3] (vI (E.2.2.2 i.toNat) :: st) E u) ∧
  (∀ (l0 l1 l2 l3 : am_V) (a0 : Int) (a1 : Int) (r0 : am_V) (E : am_E) (u : am_M) (hE : SE E), Rn m_L_law 330 [l0, l1, l2, l3] [vI a1, vI a0, vR (some 149), r0] E u = bdI (Rn m_M_of 0 [vR (some 149), vI a0, vI a1] [] E u) (KI m_L_law 333 [l0, l1, l2, l3] [r0])) ∧
  (∀ (l0 l1 l2 l3 : am_V) (a b : Int) (st : List am_V) (E : am_E) (u : am_M), Rn m_L_law 333 [l0, l1, l2, l3] (vI b :: vI a :: st) E u = if a = b then Rn m_L_law 1449 [l0, l1, l2, l3] st E u else Rn m_L_law 336 [l0, l1, l2, l3] st E u) ∧
  (∀ (l0 l1 l2 l3 : am_V) (st : List am_V) (E : am_E) (u : am_M), Rn m_L_law 336 [l0, l1, l2, l3] st E u = Rn m_L_law 337 [l0, l1, l2, l3] (vI 0 :: st) E u) ∧
  (∀ (l0 l1 l2 l3 : am_V) (b : Bool) (E : am_E) (u : am_M), Rn m_L_law 337 [l0, l1, l2, l3] [vI (bI b)] E u = some (some (vI (bI b)), E, u)) ∧
  (∀ (l0 l1 l2 l3 : am_V) (E : am_E) (u : am_M), Rn m_L_law 337 [l0, l1, l2, l3] [vI 1] E u = some (some (vI 1), E, u)) ∧
  (∀ (l0 l1 l2 l3 : am_V) (E : am_E) (u : am_M), Rn m_L_law 337 [l0, l1, l2, l3] [vI 0] E u = some (some (vI 0), E, u)) :=
  ⟨fun l0 l2 l3 a st E u => q_go (by decide +kernel : am_Pg 208 305 = some (.aload_n 1, 1, [], 0)) rfl,
  fun l1 l2 l3 st E u => q_go (by decide +kernel : am_Pg 208 306 = some (.aload_n 0, 1, [], 0)) rfl,
  fun l0 l1 l2 a st E u => q_go (by decide +kernel : am_Pg 208 307 = some (.iload_n 3, 1, [], 0)) rfl,
  fun l0 l1 l2 l3 st E u => q_go (by decide +kernel : am_Pg 208 308 = some (.iconst 1, 1, [], 0)) rfl,
  fun l0 l1 l2 l3 a b st E u => q_go (by decide +kernel : am_Pg 208 309 = some (.iadd, 1, [], 0)) rfl,
  fun l0 l1 l2 l3 i st E u h0 h1 => q_isc (by decide +kernel : am_Pg 208 310 = some (.iaload, 1, [], 0)) h0 h1,
  fun l1 l2 l3 st E u => q_go (by decide +kernel : am_Pg 208 311 = some (.aload_n 0, 1, [], 0)) rfl,
  fun l0 l1 l2 a st E u => q_go (by decide +kernel : am_Pg 208 312 = some (.iload_n 3, 1, [], 0)) rfl,
  fun l0 l1 l2 l3 st E u => q_go (by decide +kernel : am_Pg 208 313 = some (.iconst 2, 1, [], 0)) rfl,
  fun l0 l1 l2 l3 a b st E u => q_go (by decide +kernel : am_Pg 208 314 = some (.iadd, 1, [], 0)) rfl,
  fun l0 l1 l2 l3 i st E u h0 h1 => q_isc (by decide +kernel : am_Pg 208 315 = some (.iaload, 1, [], 0)) h0 h1,
  fun l0 l1 l2 l3 a0 a1  E u hE => q_cI (by decide +kernel : am_Pg 208 316 = some (.invokevirtual 27, 3, [3, 44, 3, 4, 8, 0], 0)) (am_call_V (a := [vI a0, vI a1]) (st' := []) (Nat.le_of_ble_eq_true rfl) rfl (SE_k4 hE)) (by decide +kernel : am_Lm m_A_of = 3) (Nat.le_of_ble_eq_true rfl) rfl (by decide +kernel),
  fun l0 l1 l3 a st E u => q_go (by decide +kernel : am_Pg 208 319 = some (.aload_n 2, 1, [], 0)) rfl,
  fun l1 l2 l3 st E u => q_go (by decide +kernel : am_Pg 208 320 = some (.aload_n 0, 1, [], 0)) rfl,
  fun l0 l1 l2 a st E u => q_go (by decide +kernel : am_Pg 208 321 = some (.iload_n 3, 1, [], 0)) rfl,
  fun l0 l1 l2 l3 st E u => q_go (by decide +kernel : am_Pg 208 322 = some (.iconst 1, 1, [], 0)) rfl,
  fun l0 l1 l2 l3 a b st E u => q_go (by decide +kernel : am_Pg 208 323 = some (.iadd, 1, [], 0)) rfl,
  fun l0 l1 l2 l3 i st E u h0 h1 => q_isc (by decide +kernel : am_Pg 208 324 = some (.iaload, 1, [], 0)) h0 h1,
  fun l1 l2 l3 st E u => q_go (by decide +kernel : am_Pg 208 325 = some (.aload_n 0, 1, [], 0)) rfl,
  fun l0 l1 l2 a st E u => q_go (by decide +kernel : am_Pg 208 326 = some (.iload_n 3, 1, [], 0)) rfl,
  fun l0 l1 l2 l3 st E u => q_go (by decide +kernel : am_Pg 208 327 = some (.iconst 2, 1, [], 0)) rfl,
  fun l0 l1 l2 l3 a b st E u => q_go (by decide +kernel : am_Pg 208 328 = some (.iadd, 1, [], 0)) rfl,
  fun l0 l1 l2 l3 i st E u h0 h1 => q_isc (by decide +kernel : am_Pg 208 329 = some (.iaload, 1, [], 0)) h0 h1,
  fun l0 l1 l2 l3 a0 a1 r0 E u hE => q_cI (by decide +kernel : am_Pg 208 330 = some (.invokevirtual 30, 3, [3, 55, 3, 5, 17, 0], 0)) (am_call_V (a := [vI a0, vI a1]) (st' := [r0]) (Nat.le_of_ble_eq_true rfl) rfl (SE_k5 hE)) (by decide +kernel : am_Lm m_M_of = 3) (Nat.le_of_ble_eq_true rfl) rfl (by decide +kernel),
  fun l0 l1 l2 l3 a b st E u => q_icmp_eq (tgt := 1449) (by decide +kernel : am_Pg 208 333 = some (.if_icmp .eq 1116, 3, [], 0)) (by decide),
  fun l0 l1 l2 l3 st E u => q_go (by decide +kernel : am_Pg 208 336 = some (.iconst 0, 1, [], 0)) rfl,
  fun l0 l1 l2 l3 b E u => by cases b <;> exact q_ret (by decide +kernel : am_Pg 208 337 = some (.ireturn, 1, [1], 0)) rfl,
  fun l0 l1 l2 l3 E u => q_ret (by decide +kernel : am_Pg 208 337 = some (.ireturn, 1, [1], 0)) rfl,
  fun l0 l1 l2 l3 E u => q_ret (by decide +kernel : am_Pg 208 337 = some (.ireturn, 1, [1], 0)) rfl⟩
theorem x_L_law_338 :
  (∀ (l0 l2 l3 : am_V) (a : Option Nat) (st : List am_V) (E : am_E) (u : am_M), Rn m_L_law 338 [l0, vR a, l2, l3] st E u = Rn m_L_law 339 [l0, vR a, l2, l3] (vR a :: st) E u) ∧
  (∀ (l1 l2 l3 : am_V) (st : List am_V) (E : am_E) (u : am_M), Rn m_L_law 339 [vB true, l1, l2, l3] st E u = Rn m_L_law 340 [vB true, l1, l2, l3] (vB true :: st) E u) ∧
  (∀ (l0 l1 l2 : am_V) (a : Int) (st : List am_V) (E : am_E) (u : am_M), Rn m_L_law 340 [l0, l1, l2, vI a] st E u = Rn m_L_law 341 [l0, l1, l2, vI a] (vI a :: st) E u) ∧
  (∀ (l0 l1 l2 l3 : am_V) (st : List am_V) (E : am_E) (u : am_M), Rn m_L_law 341 [l0, l1, l2, l3] st E u = Rn m_L_law 342 [l0, l1, l2, l3] (vI 1 :: st) E u) ∧
  (∀ (l0 l1 l2 l3 : am_V) (a b : Int) (st : List am_V) (E : am_E) (u : am_M), Rn m_L_law 342 [l0, l1, l2, l3] (vI b :: vI a :: st) E u = Rn m_L_law 343 [l0, l1, l2, l3] (vI (w32 (a + b)) :: st) E u) ∧
  (∀ (l0 l1 l2 l3 : am_V) (i : Int) (st : List am_V) (E : am_E) (u : am_M) (h0 : 0 ≤ i) (h1 : i < (E.2.2.1 : Int)), Rn m_L_law 343 [l0, l1, l2, l3] (vI i :: vB true :: st) E u = Rn m_L_law 344 [l0, l1, l2, l3] (vI (E.2.2.2 i.toNat) :: st) E u) ∧
  (∀ (l1 l2 l3 : am_V) (st : List am_V) (E : am_E) (u : am_M), Rn m_L_law 344 [vB true, l1, l2, l3] st E u = Rn m_L_law 345 [vB true, l1, l2, l3] (vB true :: st) E u) ∧
  (∀ (l0 l1 l2 : am_V) (a : Int) (st : List am_V) (E : am_E) (u : am_M), Rn m_L_law 345 [l0, l1, l2, vI a] st E u = Rn m_L_law 346 [l0, l1, l2, vI a] (vI a :: st) E u) ∧
  (∀ (l0 l1 l2 l3 : am_V) (st : List am_V) (E : am_E) (u : am_M), Rn m_L_law 346 [l0, l1, l2, l3] st E u = Rn m_L_law 347 [l0, l1, l2, l3] (vI 2 :: st) E u) ∧
  (∀ (l0 l1 l2 l3 : am_V) (a b : Int) (st : List am_V) (E : am_E) (u : am_M), Rn m_L_law 347 [l0, l1, l2, l3] (vI b :: vI a :: st) E u = Rn m_L_law 348 [l0, l1, l2, l3] (vI (w32 (a + b)) :: st) E u) ∧
  (∀ (l0 l1 l2 l3 : am_V) (i : Int) (st : List am_V) (E : am_E) (u : am_M) (h0 : 0 ≤ i) (h1 : i < (E.2.2.1 : Int)), Rn m_L_law 348 [l0, l1, l2, l3] (vI i :: vB true :: st) E u = Rn m_L_law 349 [l0, l1, l2, l3] (vI (E.2.2.2 i.toNat) :: st) E u) ∧
  (∀ (l0 l1 l2 l3 : am_V) (a0 : Int) (a1 : Int) (E : am_E) (u : am_M) (hE : SE E), Rn m_L_law 349 [l0, l1, l2, l3] [vI a1, vI a0, vR (some 0)] E u = bdI (Rn m_A_at 0 [vR (some 0), vI a0, vI a1] [] E u) (KI m_L_law 352 [l0, l1, l2, l3] [])) ∧
  (∀ (l0 l1 l3 : am_V) (a : Option Nat) (st : List am_V) (E : am_E) (u : am_M), Rn m_L_law 352 [l0, l1, vR a, l3] st E u = Rn m_L_law 353 [l0, l1, vR a, l3] (vR a :: st) E u) ∧
  (∀ (l1 l2 l3 : am_V) (st : List am_V) (E : am_E) (u : am_M), Rn m_L_law 353 [vB true, l1, l2, l3] st E u = Rn m_L_law 354 [vB true, l1, l2, l3] (vB true :: st) E u) ∧
  (∀ (l0 l1 l2 : am_V) (a : Int) (st : List am_V) (E : am_E) (u : am_M), Rn m_L_law 354 [l0, l1, l2, vI a] st E u = Rn m_L_law 355 [l0, l1, l2, vI a] (vI a :: st) E u) ∧
  (∀ (l0 l1 l2 l3 : am_V) (st : List am_V) (E : am_E) (u : am_M), Rn m_L_law 355 [l0, l1, l2, l3] st E u = Rn m_L_law 356 [l0, l1, l2, l3] (vI 1 :: st) E u) ∧
  (∀ (l0 l1 l2 l3 : am_V) (a b : Int) (st : List am_V) (E : am_E) (u : am_M), Rn m_L_law 356 [l0, l1, l2, l3] (vI b :: vI a :: st) E u = Rn m_L_law 357 [l0, l1, l2, l3] (vI (w32 (a + b)) :: st) E u) ∧
  (∀ (l0 l1 l2 l3 : am_V) (i : Int) (st : List am_V) (E : am_E) (u : am_M) (h0 : 0 ≤ i) (h1 : i < (E.2.2.1 : Int)), Rn m_L_law 357 [l0, l1, l2, l3] (vI i :: vB true :: st) E u = Rn m_L_law 358 [l0, l1, l2, l3] (vI (E.2.2.2 i.toNat) :: st) E u) ∧
  (∀ (l1 l2 l3 : am_V) (st : List am_V) (E : am_E) (u : am_M), Rn m_L_law 358 [vB true, l1, l2, l3] st E u = Rn m_L_law 359 [vB true, l1, l2, l3] (vB true :: st) E u) ∧
  (∀ (l0 l1 l2 : am_V) (a : Int) (st : List am_V) (E : am_E) (u : am_M), Rn m_L_law 359 [l0, l1, l2, vI a] st E u = Rn m_L_law 360 [l0, l1, l2, vI a] (vI a :: st) E u) ∧
  (∀ (l0 l1 l2 l3 : am_V) (st : List am_V) (E : am_E) (u : am_M), Rn m_L_law 360 [l0, l1, l2, l3] st E u = Rn m_L_law 361 [l0, l1, l2, l3] (vI 2 :: st) E u) ∧
  (∀ (l0 l1 l2 l3 : am_V) (a b : Int) (st : List am_V) (E : am_E) (u : am_M), Rn m_L_law 361 [l0, l1, l2, l3] (vI b :: vI a :: st) E u = Rn m_L_law 362 [l0, l1, l2, l3] (vI (w32 (a + b)) :: st) E u) ∧
  (∀ (l0 l1 l2 l3 : am_V) (i : Int) (st : List am_V) (E : am_E) (u : am_M) (h0 : 0 ≤ i) (h1 : i < (E.2.2.1 : Int)), Rn m_L_law 362 [l0, l1, l2, l3] (vI i :: vB true :: st) E u = Rn m_L_law 363 [l0, l1, l2, l3] (vI (E.2.2.2 i.toNat) :: st) E u) ∧
  (∀ (l0 l1 l2 l3 : am_V) (a0 : Int) (a1 : Int) (r0 : am_V) (E : am_E) (u : am_M) (hE : SE E), Rn m_L_law 363 [l0, l1, l2, l3] [vI a1, vI a0, vR (some 149), r0] E u = bdI (Rn m_M_at 0 [vR (some 149), vI a0, vI a1] [] E u) (KI m_L_law 366 [l0, l1, l2, l3] [r0])) ∧
  (∀ (l0 l1 l2 l3 : am_V) (a b : Int) (st : List am_V) (E : am_E) (u : am_M), Rn m_L_law 366 [l0, l1, l2, l3] (vI b :: vI a :: st) E u = if a = b then Rn m_L_law 1449 [l0, l1, l2, l3] st E u else Rn m_L_law 369 [l0, l1, l2, l3] st E u) ∧
  (∀ (l0 l1 l2 l3 : am_V) (st : List am_V) (E : am_E) (u : am_M), Rn m_L_law 369 [l0, l1, l2, l3] st E u = Rn m_L_law 370 [l0, l1, l2, l3] (vI 0 :: st) E u) ∧
  (∀ (l0 l1 l2 l3 : am_V) (b : Bool) (E : am_E) (u : am_M), Rn m_L_law 370 [l0, l1, l2, l3] [vI (bI b)] E u = some (some (vI (bI b)), E, u)) ∧
  (∀ (l0 l1 l2 l3 : am_V) (E : am_E) (u : am_M), Rn m_L_law 370 [l0, l1, l2, l3] [vI 1] E u = some (some (vI 1), E, u)) ∧
  (∀ (l0 l1 l2 l3 : am_V) (E : am_E) (u : am_M), Rn m_L_law 370 [l0, l1, l2, l3] [vI 0] E u = some (some (vI 0), E, u)) :=
  ⟨fun l0 l2 l3 a st E u => q_go (by decide +kernel : am_Pg 208 338 = some (.aload_n 1, 1, [], 0)) rfl,
  fun l1 l2 l3 st E u => q_go (by decide +kernel : am_Pg 208 339 = some (.aload_n 0, 1, [], 0)) rfl,
  fun l0 l1 l2 a st E u => q_go (by decide +kernel : am_Pg 208 340 = some (.iload_n 3, 1, [], 0)) rfl,
  fun l0 l1 l2 l3 st E u => q_go (by decide +kernel : am_Pg 208 341 = some (.iconst 1, 1, [], 0)) rfl,
  fun l0 l1 l2 l3 a b st E u => q_go (by decide +kernel : am_Pg 208 342 = some (.iadd, 1, [], 0)) rfl,
  fun l0 l1 l2 l3 i st E u h0 h1 => q_isc (by decide +kernel : am_Pg 208 343 = some (.iaload, 1, [], 0)) h0 h1,
  fun l1 l2 l3 st E u => q_go (by decide +kernel : am_Pg 208 344 = some (.aload_n 0, 1, [], 0)) rfl,
  fun l0 l1 l2 a st E u => q_go (by decide +kernel : am_Pg 208 345 = some (.iload_n 3, 1, [], 0)) rfl,
  fun l0 l1 l2 l3 st E u => q_go (by decide +kernel : am_Pg 208 346 = some (.iconst 2, 1, [], 0)) rfl,
  fun l0 l1 l2 l3 a b st E u => q_go (by decide +kernel : am_Pg 208 347 = some (.iadd, 1, [], 0)) rfl,
  fun l0 l1 l2 l3 i st E u h0 h1 => q_isc (by decide +kernel : am_Pg 208 348 = some (.iaload, 1, [], 0)) h0 h1,
  fun l0 l1 l2 l3 a0 a1  E u hE => q_cI (by decide +kernel : am_Pg 208 349 = some (.invokevirtual 31, 3, [3, 56, 3, 4, 8, 0], 0)) (am_call_V (a := [vI a0, vI a1]) (st' := []) (Nat.le_of_ble_eq_true rfl) rfl (SE_k4 hE)) (by decide +kernel : am_Lm m_A_at = 3) (Nat.le_of_ble_eq_true rfl) rfl (by decide +kernel),
  fun l0 l1 l3 a st E u => q_go (by decide +kernel : am_Pg 208 352 = some (.aload_n 2, 1, [], 0)) rfl,
  fun l1 l2 l3 st E u => q_go (by decide +kernel : am_Pg 208 353 = some (.aload_n 0, 1, [], 0)) rfl,
  fun l0 l1 l2 a st E u => q_go (by decide +kernel : am_Pg 208 354 = some (.iload_n 3, 1, [], 0)) rfl,
  fun l0 l1 l2 l3 st E u => q_go (by decide +kernel : am_Pg 208 355 = some (.iconst 1, 1, [], 0)) rfl,
  fun l0 l1 l2 l3 a b st E u => q_go (by decide +kernel : am_Pg 208 356 = some (.iadd, 1, [], 0)) rfl,
  fun l0 l1 l2 l3 i st E u h0 h1 => q_isc (by decide +kernel : am_Pg 208 357 = some (.iaload, 1, [], 0)) h0 h1,
  fun l1 l2 l3 st E u => q_go (by decide +kernel : am_Pg 208 358 = some (.aload_n 0, 1, [], 0)) rfl,
  fun l0 l1 l2 a st E u => q_go (by decide +kernel : am_Pg 208 359 = some (.iload_n 3, 1, [], 0)) rfl,
  fun l0 l1 l2 l3 st E u => q_go (by decide +kernel : am_Pg 208 360 = some (.iconst 2, 1, [], 0)) rfl,
  fun l0 l1 l2 l3 a b st E u => q_go (by decide +kernel : am_Pg 208 361 = some (.iadd, 1, [], 0)) rfl,
  fun l0 l1 l2 l3 i st E u h0 h1 => q_isc (by decide +kernel : am_Pg 208 362 = some (.iaload, 1, [], 0)) h0 h1,
  fun l0 l1 l2 l3 a0 a1 r0 E u hE => q_cI (by decide +kernel : am_Pg 208 363 = some (.invokevirtual 34, 3, [3, 58, 3, 5, 17, 0], 0)) (am_call_V (a := [vI a0, vI a1]) (st' := [r0]) (Nat.le_of_ble_eq_true rfl) rfl (SE_k5 hE)) (by decide +kernel : am_Lm m_M_at = 3) (Nat.le_of_ble_eq_true rfl) rfl (by decide +kernel),
  fun l0 l1 l2 l3 a b st E u => q_icmp_eq (tgt := 1449) (by decide +kernel : am_Pg 208 366 = some (.if_icmp .eq 1083, 3, [], 0)) (by decide),
  fun l0 l1 l2 l3 st E u => q_go (by decide +kernel : am_Pg 208 369 = some (.iconst 0, 1, [], 0)) rfl,
  fun l0 l1 l2 l3 b E u => by cases b <;> exact q_ret (by decide +kernel : am_Pg 208 370 = some (.ireturn, 1, [1], 0)) rfl,
  fun l0 l1 l2 l3 E u => q_ret (by decide +kernel : am_Pg 208 370 = some (.ireturn, 1, [1], 0)) rfl,
  fun l0 l1 l2 l3 E u => q_ret (by decide +kernel : am_Pg 208 370 = some (.ireturn, 1, [1], 0)) rfl⟩
theorem x_L_law_371 :
  (∀ (l0 l2 l3 : am_V) (a : Option Nat) (st : List am_V) (E : am_E) (u : am_M), Rn m_L_law 371 [l0, vR a, l2, l3] st E u = Rn m_L_law 372 [l0, vR a, l2, l3] (vR a :: st) E u) ∧
  (∀ (l1 l2 l3 : am_V) (st : List am_V) (E : am_E) (u : am_M), Rn m_L_law 372 [vB true, l1, l2, l3] st E u = Rn m_L_law 373 [vB true, l1, l2, l3] (vB true :: st) E u) ∧
  (∀ (l0 l1 l2 : am_V) (a : Int) (st : List am_V) (E : am_E) (u : am_M), Rn m_L_law 373 [l0, l1, l2, vI a] st E u = Rn m_L_law 374 [l0, l1, l2, vI a] (vI a :: st) E u) ∧
  (∀ (l0 l1 l2 l3 : am_V) (st : List am_V) (E : am_E) (u : am_M), Rn m_L_law 374 [l0, l1, l2, l3] st E u = Rn m_L_law 375 [l0, l1, l2, l3] (vI 1 :: st) E u) ∧
  (∀ (l0 l1 l2 l3 : am_V) (a b : Int) (st : List am_V) (E : am_E) (u : am_M), Rn m_L_law 375 [l0, l1, l2, l3] (vI b :: vI a :: st) E u = Rn m_L_law 376 [l0, l1, l2, l3] (vI (w32 (a + b)) :: st) E u) ∧
  (∀ (l0 l1 l2 l3 : am_V) (i : Int) (st : List am_V) (E : am_E) (u : am_M) (h0 : 0 ≤ i) (h1 : i < (E.2.2.1 : Int)), Rn m_L_law 376 [l0, l1, l2, l3] (vI i :: vB true :: st) E u = Rn m_L_law 377 [l0, l1, l2, l3] (vI (E.2.2.2 i.toNat) :: st) E u) ∧
  (∀ (l0 l1 l2 l3 : am_V) (a0 : Int) (E : am_E) (u : am_M) (hE : SE E), Rn m_L_law 377 [l0, l1, l2, l3] [vI a0, vR (some 0)] E u = bdI (Rn m_A_cell 0 [vR (some 0), vI a0] [] E u) (KI m_L_law 380 [l0, l1, l2, l3] [])) ∧
  (∀ (l0 l1 l3 : am_V) (a : Option Nat) (st : List am_V) (E : am_E) (u : am_M), Rn m_L_law 380 [l0, l1, vR a, l3] st E u = Rn m_L_law 381 [l0, l1, vR a, l3] (vR a :: st) E u) ∧
  (∀ (l1 l2 l3 : am_V) (st : List am_V) (E : am_E) (u : am_M), Rn m_L_law 381 [vB true, l1, l2, l3] st E u = Rn m_L_law 382 [vB true, l1, l2, l3] (vB true :: st) E u) ∧
  (∀ (l0 l1 l2 : am_V) (a : Int) (st : List am_V) (E : am_E) (u : am_M), Rn m_L_law 382 [l0, l1, l2, vI a] st E u = Rn m_L_law 383 [l0, l1, l2, vI a] (vI a :: st) E u) ∧
  (∀ (l0 l1 l2 l3 : am_V) (st : List am_V) (E : am_E) (u : am_M), Rn m_L_law 383 [l0, l1, l2, l3] st E u = Rn m_L_law 384 [l0, l1, l2, l3] (vI 1 :: st) E u) ∧
  (∀ (l0 l1 l2 l3 : am_V) (a b : Int) (st : List am_V) (E : am_E) (u : am_M), Rn m_L_law 384 [l0, l1, l2, l3] (vI b :: vI a :: st) E u = Rn m_L_law 385 [l0, l1, l2, l3] (vI (w32 (a + b)) :: st) E u) ∧
  (∀ (l0 l1 l2 l3 : am_V) (i : Int) (st : List am_V) (E : am_E) (u : am_M) (h0 : 0 ≤ i) (h1 : i < (E.2.2.1 : Int)), Rn m_L_law 385 [l0, l1, l2, l3] (vI i :: vB true :: st) E u = Rn m_L_law 386 [l0, l1, l2, l3] (vI (E.2.2.2 i.toNat) :: st) E u) ∧
  (∀ (l0 l1 l2 l3 : am_V) (a0 : Int) (r0 : am_V) (E : am_E) (u : am_M) (hE : SE E), Rn m_L_law 386 [l0, l1, l2, l3] [vI a0, vR (some 149), r0] E u = bdI (Rn m_M_cell 0 [vR (some 149), vI a0] [] E u) (KI m_L_law 389 [l0, l1, l2, l3] [r0])) ∧
  (∀ (l0 l1 l2 l3 : am_V) (a b : Int) (st : List am_V) (E : am_E) (u : am_M), Rn m_L_law 389 [l0, l1, l2, l3] (vI b :: vI a :: st) E u = if a = b then Rn m_L_law 1449 [l0, l1, l2, l3] st E u else Rn m_L_law 392 [l0, l1, l2, l3] st E u) ∧
  (∀ (l0 l1 l2 l3 : am_V) (st : List am_V) (E : am_E) (u : am_M), Rn m_L_law 392 [l0, l1, l2, l3] st E u = Rn m_L_law 393 [l0, l1, l2, l3] (vI 0 :: st) E u) ∧
  (∀ (l0 l1 l2 l3 : am_V) (b : Bool) (E : am_E) (u : am_M), Rn m_L_law 393 [l0, l1, l2, l3] [vI (bI b)] E u = some (some (vI (bI b)), E, u)) ∧
  (∀ (l0 l1 l2 l3 : am_V) (E : am_E) (u : am_M), Rn m_L_law 393 [l0, l1, l2, l3] [vI 1] E u = some (some (vI 1), E, u)) ∧
  (∀ (l0 l1 l2 l3 : am_V) (E : am_E) (u : am_M), Rn m_L_law 393 [l0, l1, l2, l3] [vI 0] E u = some (some (vI 0), E, u)) :=
  ⟨fun l0 l2 l3 a st E u => q_go (by decide +kernel : am_Pg 208 371 = some (.aload_n 1, 1, [], 0)) rfl,
  fun l1 l2 l3 st E u => q_go (by decide +kernel : am_Pg 208 372 = some (.aload_n 0, 1, [], 0)) rfl,
  fun l0 l1 l2 a st E u => q_go (by decide +kernel : am_Pg 208 373 = some (.iload_n 3, 1, [], 0)) rfl,
  fun l0 l1 l2 l3 st E u => q_go (by decide +kernel : am_Pg 208 374 = some (.iconst 1, 1, [], 0)) rfl,
  fun l0 l1 l2 l3 a b st E u => q_go (by decide +kernel : am_Pg 208 375 = some (.iadd, 1, [], 0)) rfl,
  fun l0 l1 l2 l3 i st E u h0 h1 => q_isc (by decide +kernel : am_Pg 208 376 = some (.iaload, 1, [], 0)) h0 h1,
  fun l0 l1 l2 l3 a0  E u hE => q_cI (by decide +kernel : am_Pg 208 377 = some (.invokevirtual 35, 3, [3, 59, 2, 4, 8, 0], 0)) (am_call_V (a := [vI a0]) (st' := []) (Nat.le_of_ble_eq_true rfl) rfl (SE_k4 hE)) (by decide +kernel : am_Lm m_A_cell = 2) (Nat.le_of_ble_eq_true rfl) rfl (by decide +kernel),
  fun l0 l1 l3 a st E u => q_go (by decide +kernel : am_Pg 208 380 = some (.aload_n 2, 1, [], 0)) rfl,
  fun l1 l2 l3 st E u => q_go (by decide +kernel : am_Pg 208 381 = some (.aload_n 0, 1, [], 0)) rfl,
  fun l0 l1 l2 a st E u => q_go (by decide +kernel : am_Pg 208 382 = some (.iload_n 3, 1, [], 0)) rfl,
  fun l0 l1 l2 l3 st E u => q_go (by decide +kernel : am_Pg 208 383 = some (.iconst 1, 1, [], 0)) rfl,
  fun l0 l1 l2 l3 a b st E u => q_go (by decide +kernel : am_Pg 208 384 = some (.iadd, 1, [], 0)) rfl,
  fun l0 l1 l2 l3 i st E u h0 h1 => q_isc (by decide +kernel : am_Pg 208 385 = some (.iaload, 1, [], 0)) h0 h1,
  fun l0 l1 l2 l3 a0 r0 E u hE => q_cI (by decide +kernel : am_Pg 208 386 = some (.invokevirtual 39, 3, [3, 60, 2, 5, 17, 0], 0)) (am_call_V (a := [vI a0]) (st' := [r0]) (Nat.le_of_ble_eq_true rfl) rfl (SE_k5 hE)) (by decide +kernel : am_Lm m_M_cell = 2) (Nat.le_of_ble_eq_true rfl) rfl (by decide +kernel),
  fun l0 l1 l2 l3 a b st E u => q_icmp_eq (tgt := 1449) (by decide +kernel : am_Pg 208 389 = some (.if_icmp .eq 1060, 3, [], 0)) (by decide),
  fun l0 l1 l2 l3 st E u => q_go (by decide +kernel : am_Pg 208 392 = some (.iconst 0, 1, [], 0)) rfl,
  fun l0 l1 l2 l3 b E u => by cases b <;> exact q_ret (by decide +kernel : am_Pg 208 393 = some (.ireturn, 1, [1], 0)) rfl,
  fun l0 l1 l2 l3 E u => q_ret (by decide +kernel : am_Pg 208 393 = some (.ireturn, 1, [1], 0)) rfl,
  fun l0 l1 l2 l3 E u => q_ret (by decide +kernel : am_Pg 208 393 = some (.ireturn, 1, [1], 0)) rfl⟩
theorem x_L_law_394 :
  (∀ (l0 l2 l3 : am_V) (a : Option Nat) (st : List am_V) (E : am_E) (u : am_M), Rn m_L_law 394 [l0, vR a, l2, l3] st E u = Rn m_L_law 395 [l0, vR a, l2, l3] (vR a :: st) E u) ∧
  (∀ (l1 l2 l3 : am_V) (st : List am_V) (E : am_E) (u : am_M), Rn m_L_law 395 [vB true, l1, l2, l3] st E u = Rn m_L_law 396 [vB true, l1, l2, l3] (vB true :: st) E u) ∧
  (∀ (l0 l1 l2 : am_V) (a : Int) (st : List am_V) (E : am_E) (u : am_M), Rn m_L_law 396 [l0, l1, l2, vI a] st E u = Rn m_L_law 397 [l0, l1, l2, vI a] (vI a :: st) E u) ∧
  (∀ (l0 l1 l2 l3 : am_V) (st : List am_V) (E : am_E) (u : am_M), Rn m_L_law 397 [l0, l1, l2, l3] st E u = Rn m_L_law 398 [l0, l1, l2, l3] (vI 1 :: st) E u) ∧
  (∀ (l0 l1 l2 l3 : am_V) (a b : Int) (st : List am_V) (E : am_E) (u : am_M), Rn m_L_law 398 [l0, l1, l2, l3] (vI b :: vI a :: st) E u = Rn m_L_law 399 [l0, l1, l2, l3] (vI (w32 (a + b)) :: st) E u) ∧
  (∀ (l0 l1 l2 l3 : am_V) (i : Int) (st : List am_V) (E : am_E) (u : am_M) (h0 : 0 ≤ i) (h1 : i < (E.2.2.1 : Int)), Rn m_L_law 399 [l0, l1, l2, l3] (vI i :: vB true :: st) E u = Rn m_L_law 400 [l0, l1, l2, l3] (vI (E.2.2.2 i.toNat) :: st) E u) ∧
  (∀ (l0 l1 l2 l3 : am_V) (a0 : Int) (E : am_E) (u : am_M) (hE : SE E), Rn m_L_law 400 [l0, l1, l2, l3] [vI a0, vR (some 0)] E u = bdI (Rn m_A_type 0 [vR (some 0), vI a0] [] E u) (KI m_L_law 403 [l0, l1, l2, l3] [])) ∧
  (∀ (l0 l1 l3 : am_V) (a : Option Nat) (st : List am_V) (E : am_E) (u : am_M), Rn m_L_law 403 [l0, l1, vR a, l3] st E u = Rn m_L_law 404 [l0, l1, vR a, l3] (vR a :: st) E u) ∧
  (∀ (l1 l2 l3 : am_V) (st : List am_V) (E : am_E) (u : am_M), Rn m_L_law 404 [vB true, l1, l2, l3] st E u = Rn m_L_law 405 [vB true, l1, l2, l3] (vB true :: st) E u) ∧
  (∀ (l0 l1 l2 : am_V) (a : Int) (st : List am_V) (E : am_E) (u : am_M), Rn m_L_law 405 [l0, l1, l2, vI a] st E u = Rn m_L_law 406 [l0, l1, l2, vI a] (vI a :: st) E u) ∧
  (∀ (l0 l1 l2 l3 : am_V) (st : List am_V) (E : am_E) (u : am_M), Rn m_L_law 406 [l0, l1, l2, l3] st E u = Rn m_L_law 407 [l0, l1, l2, l3] (vI 1 :: st) E u) ∧
  (∀ (l0 l1 l2 l3 : am_V) (a b : Int) (st : List am_V) (E : am_E) (u : am_M), Rn m_L_law 407 [l0, l1, l2, l3] (vI b :: vI a :: st) E u = Rn m_L_law 408 [l0, l1, l2, l3] (vI (w32 (a + b)) :: st) E u) ∧
  (∀ (l0 l1 l2 l3 : am_V) (i : Int) (st : List am_V) (E : am_E) (u : am_M) (h0 : 0 ≤ i) (h1 : i < (E.2.2.1 : Int)), Rn m_L_law 408 [l0, l1, l2, l3] (vI i :: vB true :: st) E u = Rn m_L_law 409 [l0, l1, l2, l3] (vI (E.2.2.2 i.toNat) :: st) E u) ∧
  (∀ (l0 l1 l2 l3 : am_V) (a0 : Int) (r0 : am_V) (E : am_E) (u : am_M) (hE : SE E), Rn m_L_law 409 [l0, l1, l2, l3] [vI a0, vR (some 149), r0] E u = bdI (Rn m_M_type 0 [vR (some 149), vI a0] [] E u) (KI m_L_law 412 [l0, l1, l2, l3] [r0])) ∧
  (∀ (l0 l1 l2 l3 : am_V) (a b : Int) (st : List am_V) (E : am_E) (u : am_M), Rn m_L_law 412 [l0, l1, l2, l3] (vI b :: vI a :: st) E u = if a = b then Rn m_L_law 1449 [l0, l1, l2, l3] st E u else Rn m_L_law 415 [l0, l1, l2, l3] st E u) ∧
  (∀ (l0 l1 l2 l3 : am_V) (st : List am_V) (E : am_E) (u : am_M), Rn m_L_law 415 [l0, l1, l2, l3] st E u = Rn m_L_law 416 [l0, l1, l2, l3] (vI 0 :: st) E u) ∧
  (∀ (l0 l1 l2 l3 : am_V) (b : Bool) (E : am_E) (u : am_M), Rn m_L_law 416 [l0, l1, l2, l3] [vI (bI b)] E u = some (some (vI (bI b)), E, u)) ∧
  (∀ (l0 l1 l2 l3 : am_V) (E : am_E) (u : am_M), Rn m_L_law 416 [l0, l1, l2, l3] [vI 1] E u = some (some (vI 1), E, u)) ∧
  (∀ (l0 l1 l2 l3 : am_V) (E : am_E) (u : am_M), Rn m_L_law 416 [l0, l1, l2, l3] [vI 0] E u = some (some (vI 0), E, u)) :=
  ⟨fun l0 l2 l3 a st E u => q_go (by decide +kernel : am_Pg 208 394 = some (.aload_n 1, 1, [], 0)) rfl,
  fun l1 l2 l3 st E u => q_go (by decide +kernel : am_Pg 208 395 = some (.aload_n 0, 1, [], 0)) rfl,
  fun l0 l1 l2 a st E u => q_go (by decide +kernel : am_Pg 208 396 = some (.iload_n 3, 1, [], 0)) rfl,
  fun l0 l1 l2 l3 st E u => q_go (by decide +kernel : am_Pg 208 397 = some (.iconst 1, 1, [], 0)) rfl,
  fun l0 l1 l2 l3 a b st E u => q_go (by decide +kernel : am_Pg 208 398 = some (.iadd, 1, [], 0)) rfl,
  fun l0 l1 l2 l3 i st E u h0 h1 => q_isc (by decide +kernel : am_Pg 208 399 = some (.iaload, 1, [], 0)) h0 h1,
  fun l0 l1 l2 l3 a0  E u hE => q_cI (by decide +kernel : am_Pg 208 400 = some (.invokevirtual 40, 3, [3, 62, 2, 4, 8, 0], 0)) (am_call_V (a := [vI a0]) (st' := []) (Nat.le_of_ble_eq_true rfl) rfl (SE_k4 hE)) (by decide +kernel : am_Lm m_A_type = 2) (Nat.le_of_ble_eq_true rfl) rfl (by decide +kernel),
  fun l0 l1 l3 a st E u => q_go (by decide +kernel : am_Pg 208 403 = some (.aload_n 2, 1, [], 0)) rfl,
  fun l1 l2 l3 st E u => q_go (by decide +kernel : am_Pg 208 404 = some (.aload_n 0, 1, [], 0)) rfl,
  fun l0 l1 l2 a st E u => q_go (by decide +kernel : am_Pg 208 405 = some (.iload_n 3, 1, [], 0)) rfl,
  fun l0 l1 l2 l3 st E u => q_go (by decide +kernel : am_Pg 208 406 = some (.iconst 1, 1, [], 0)) rfl,
  fun l0 l1 l2 l3 a b st E u => q_go (by decide +kernel : am_Pg 208 407 = some (.iadd, 1, [], 0)) rfl,
  fun l0 l1 l2 l3 i st E u h0 h1 => q_isc (by decide +kernel : am_Pg 208 408 = some (.iaload, 1, [], 0)) h0 h1,
  fun l0 l1 l2 l3 a0 r0 E u hE => q_cI (by decide +kernel : am_Pg 208 409 = some (.invokevirtual 43, 3, [3, 63, 2, 5, 17, 0], 0)) (am_call_V (a := [vI a0]) (st' := [r0]) (Nat.le_of_ble_eq_true rfl) rfl (SE_k5 hE)) (by decide +kernel : am_Lm m_M_type = 2) (Nat.le_of_ble_eq_true rfl) rfl (by decide +kernel),
  fun l0 l1 l2 l3 a b st E u => q_icmp_eq (tgt := 1449) (by decide +kernel : am_Pg 208 412 = some (.if_icmp .eq 1037, 3, [], 0)) (by decide),
  fun l0 l1 l2 l3 st E u => q_go (by decide +kernel : am_Pg 208 415 = some (.iconst 0, 1, [], 0)) rfl,
  fun l0 l1 l2 l3 b E u => by cases b <;> exact q_ret (by decide +kernel : am_Pg 208 416 = some (.ireturn, 1, [1], 0)) rfl,
  fun l0 l1 l2 l3 E u => q_ret (by decide +kernel : am_Pg 208 416 = some (.ireturn, 1, [1], 0)) rfl,
  fun l0 l1 l2 l3 E u => q_ret (by decide +kernel : am_Pg 208 416 = some (.ireturn, 1, [1], 0)) rfl⟩
theorem x_L_law_417 :
  (∀ (l0 l2 l3 : am_V) (a : Option Nat) (st : List am_V) (E : am_E) (u : am_M), Rn m_L_law 417 [l0, vR a, l2, l3] st E u = Rn m_L_law 418 [l0, vR a, l2, l3] (vR a :: st) E u) ∧
  (∀ (l0 l1 l2 l3 : am_V) (E : am_E) (u : am_M) (hE : SE E), Rn m_L_law 418 [l0, l1, l2, l3] [vR (some 0)] E u = bdI (Rn m_A_read 0 [vR (some 0), vB false, vB false] [] E u) (KI m_L_law 421 [l0, l1, l2, l3] [])) ∧
  (∀ (l0 l1 l3 : am_V) (a : Option Nat) (st : List am_V) (E : am_E) (u : am_M), Rn m_L_law 421 [l0, l1, vR a, l3] st E u = Rn m_L_law 422 [l0, l1, vR a, l3] (vR a :: st) E u) ∧
  (∀ (l0 l1 l2 l3 : am_V) (r0 : am_V) (E : am_E) (u : am_M) (hE : SE E), Rn m_L_law 422 [l0, l1, l2, l3] [vR (some 149), r0] E u = bdI (Rn m_M_read 0 [vR (some 149), vB false] [] E u) (KI m_L_law 425 [l0, l1, l2, l3] [r0])) ∧
  (∀ (l0 l1 l2 l3 : am_V) (a b : Int) (st : List am_V) (E : am_E) (u : am_M), Rn m_L_law 425 [l0, l1, l2, l3] (vI b :: vI a :: st) E u = if a = b then Rn m_L_law 1449 [l0, l1, l2, l3] st E u else Rn m_L_law 428 [l0, l1, l2, l3] st E u) ∧
  (∀ (l0 l1 l2 l3 : am_V) (st : List am_V) (E : am_E) (u : am_M), Rn m_L_law 428 [l0, l1, l2, l3] st E u = Rn m_L_law 429 [l0, l1, l2, l3] (vI 0 :: st) E u) ∧
  (∀ (l0 l1 l2 l3 : am_V) (b : Bool) (E : am_E) (u : am_M), Rn m_L_law 429 [l0, l1, l2, l3] [vI (bI b)] E u = some (some (vI (bI b)), E, u)) ∧
  (∀ (l0 l1 l2 l3 : am_V) (E : am_E) (u : am_M), Rn m_L_law 429 [l0, l1, l2, l3] [vI 1] E u = some (some (vI 1), E, u)) ∧
  (∀ (l0 l1 l2 l3 : am_V) (E : am_E) (u : am_M), Rn m_L_law 429 [l0, l1, l2, l3] [vI 0] E u = some (some (vI 0), E, u)) :=
  ⟨fun l0 l2 l3 a st E u => q_go (by decide +kernel : am_Pg 208 417 = some (.aload_n 1, 1, [], 0)) rfl,
  fun l0 l1 l2 l3   E u hE => q_cI (by decide +kernel : am_Pg 208 418 = some (.invokevirtual 44, 3, [3, 79, 1, 4, 8, 0], 0)) (am_call_V (a := []) (st' := []) (Nat.le_of_ble_eq_true rfl) rfl (SE_k4 hE)) (by decide +kernel : am_Lm m_A_read = 3) (Nat.le_of_ble_eq_true rfl) rfl (by decide +kernel),
  fun l0 l1 l3 a st E u => q_go (by decide +kernel : am_Pg 208 421 = some (.aload_n 2, 1, [], 0)) rfl,
  fun l0 l1 l2 l3  r0 E u hE => q_cI (by decide +kernel : am_Pg 208 422 = some (.invokevirtual 48, 3, [3, 89, 1, 5, 17, 0], 0)) (am_call_V (a := []) (st' := [r0]) (Nat.le_of_ble_eq_true rfl) rfl (SE_k5 hE)) (by decide +kernel : am_Lm m_M_read = 2) (Nat.le_of_ble_eq_true rfl) rfl (by decide +kernel),
  fun l0 l1 l2 l3 a b st E u => q_icmp_eq (tgt := 1449) (by decide +kernel : am_Pg 208 425 = some (.if_icmp .eq 1024, 3, [], 0)) (by decide),
  fun l0 l1 l2 l3 st E u => q_go (by decide +kernel : am_Pg 208 428 = some (.iconst 0, 1, [], 0)) rfl,
  fun l0 l1 l2 l3 b E u => by cases b <;> exact q_ret (by decide +kernel : am_Pg 208 429 = some (.ireturn, 1, [1], 0)) rfl,
  fun l0 l1 l2 l3 E u => q_ret (by decide +kernel : am_Pg 208 429 = some (.ireturn, 1, [1], 0)) rfl,
  fun l0 l1 l2 l3 E u => q_ret (by decide +kernel : am_Pg 208 429 = some (.ireturn, 1, [1], 0)) rfl⟩
theorem x_L_law_430 :
  (∀ (l0 l2 l3 : am_V) (a : Option Nat) (st : List am_V) (E : am_E) (u : am_M), Rn m_L_law 430 [l0, vR a, l2, l3] st E u = Rn m_L_law 431 [l0, vR a, l2, l3] (vR a :: st) E u) ∧
  (∀ (l1 l2 l3 : am_V) (st : List am_V) (E : am_E) (u : am_M), Rn m_L_law 431 [vB true, l1, l2, l3] st E u = Rn m_L_law 432 [vB true, l1, l2, l3] (vB true :: st) E u) ∧
  (∀ (l0 l1 l2 : am_V) (a : Int) (st : List am_V) (E : am_E) (u : am_M), Rn m_L_law 432 [l0, l1, l2, vI a] st E u = Rn m_L_law 433 [l0, l1, l2, vI a] (vI a :: st) E u) ∧
  (∀ (l0 l1 l2 l3 : am_V) (st : List am_V) (E : am_E) (u : am_M), Rn m_L_law 433 [l0, l1, l2, l3] st E u = Rn m_L_law 434 [l0, l1, l2, l3] (vI 1 :: st) E u) ∧
  (∀ (l0 l1 l2 l3 : am_V) (a b : Int) (st : List am_V) (E : am_E) (u : am_M), Rn m_L_law 434 [l0, l1, l2, l3] (vI b :: vI a :: st) E u = Rn m_L_law 435 [l0, l1, l2, l3] (vI (w32 (a + b)) :: st) E u) ∧
  (∀ (l0 l1 l2 l3 : am_V) (i : Int) (st : List am_V) (E : am_E) (u : am_M) (h0 : 0 ≤ i) (h1 : i < (E.2.2.1 : Int)), Rn m_L_law 435 [l0, l1, l2, l3] (vI i :: vB true :: st) E u = Rn m_L_law 436 [l0, l1, l2, l3] (vI (E.2.2.2 i.toNat) :: st) E u) ∧
  (∀ (l0 l1 l2 l3 : am_V) (a0 : Int) (E : am_E) (u : am_M) (hE : SE E), Rn m_L_law 436 [l0, l1, l2, l3] [vI a0, vR (some 0)] E u = bdI (Rn m_A_count 0 [vR (some 0), vI a0] [] E u) (KI m_L_law 439 [l0, l1, l2, l3] [])) ∧
  (∀ (l0 l1 l3 : am_V) (a : Option Nat) (st : List am_V) (E : am_E) (u : am_M), Rn m_L_law 439 [l0, l1, vR a, l3] st E u = Rn m_L_law 440 [l0, l1, vR a, l3] (vR a :: st) E u) ∧
  (∀ (l1 l2 l3 : am_V) (st : List am_V) (E : am_E) (u : am_M), Rn m_L_law 440 [vB true, l1, l2, l3] st E u = Rn m_L_law 441 [vB true, l1, l2, l3] (vB true :: st) E u) ∧
  (∀ (l0 l1 l2 : am_V) (a : Int) (st : List am_V) (E : am_E) (u : am_M), Rn m_L_law 441 [l0, l1, l2, vI a] st E u = Rn m_L_law 442 [l0, l1, l2, vI a] (vI a :: st) E u) ∧
  (∀ (l0 l1 l2 l3 : am_V) (st : List am_V) (E : am_E) (u : am_M), Rn m_L_law 442 [l0, l1, l2, l3] st E u = Rn m_L_law 443 [l0, l1, l2, l3] (vI 1 :: st) E u) ∧
  (∀ (l0 l1 l2 l3 : am_V) (a b : Int) (st : List am_V) (E : am_E) (u : am_M), Rn m_L_law 443 [l0, l1, l2, l3] (vI b :: vI a :: st) E u = Rn m_L_law 444 [l0, l1, l2, l3] (vI (w32 (a + b)) :: st) E u) ∧
  (∀ (l0 l1 l2 l3 : am_V) (i : Int) (st : List am_V) (E : am_E) (u : am_M) (h0 : 0 ≤ i) (h1 : i < (E.2.2.1 : Int)), Rn m_L_law 444 [l0, l1, l2, l3] (vI i :: vB true :: st) E u = Rn m_L_law 445 [l0, l1, l2, l3] (vI (E.2.2.2 i.toNat) :: st) E u) ∧
  (∀ (l0 l1 l2 l3 : am_V) (a0 : Int) (r0 : am_V) (E : am_E) (u : am_M) (hE : SE E), Rn m_L_law 445 [l0, l1, l2, l3] [vI a0, vR (some 149), r0] E u = bdI (Rn m_M_count 0 [vR (some 149), vI a0] [] E u) (KI m_L_law 448 [l0, l1, l2, l3] [r0])) ∧
  (∀ (l0 l1 l2 l3 : am_V) (a b : Int) (st : List am_V) (E : am_E) (u : am_M), Rn m_L_law 448 [l0, l1, l2, l3] (vI b :: vI a :: st) E u = if a = b then Rn m_L_law 1449 [l0, l1, l2, l3] st E u else Rn m_L_law 451 [l0, l1, l2, l3] st E u) ∧
  (∀ (l0 l1 l2 l3 : am_V) (st : List am_V) (E : am_E) (u : am_M), Rn m_L_law 451 [l0, l1, l2, l3] st E u = Rn m_L_law 452 [l0, l1, l2, l3] (vI 0 :: st) E u) ∧
  (∀ (l0 l1 l2 l3 : am_V) (b : Bool) (E : am_E) (u : am_M), Rn m_L_law 452 [l0, l1, l2, l3] [vI (bI b)] E u = some (some (vI (bI b)), E, u)) ∧
  (∀ (l0 l1 l2 l3 : am_V) (E : am_E) (u : am_M), Rn m_L_law 452 [l0, l1, l2, l3] [vI 1] E u = some (some (vI 1), E, u)) ∧
  (∀ (l0 l1 l2 l3 : am_V) (E : am_E) (u : am_M), Rn m_L_law 452 [l0, l1, l2, l3] [vI 0] E u = some (some (vI 0), E, u)) :=
  ⟨fun l0 l2 l3 a st E u => q_go (by decide +kernel : am_Pg 208 430 = some (.aload_n 1, 1, [], 0)) rfl,
  fun l1 l2 l3 st E u => q_go (by decide +kernel : am_Pg 208 431 = some (.aload_n 0, 1, [], 0)) rfl,
  fun l0 l1 l2 a st E u => q_go (by decide +kernel : am_Pg 208 432 = some (.iload_n 3, 1, [], 0)) rfl,
  fun l0 l1 l2 l3 st E u => q_go (by decide +kernel : am_Pg 208 433 = some (.iconst 1, 1, [], 0)) rfl,
  fun l0 l1 l2 l3 a b st E u => q_go (by decide +kernel : am_Pg 208 434 = some (.iadd, 1, [], 0)) rfl,
  fun l0 l1 l2 l3 i st E u h0 h1 => q_isc (by decide +kernel : am_Pg 208 435 = some (.iaload, 1, [], 0)) h0 h1,
  fun l0 l1 l2 l3 a0  E u hE => q_cI (by decide +kernel : am_Pg 208 436 = some (.invokevirtual 49, 3, [3, 94, 2, 4, 8, 0], 0)) (am_call_V (a := [vI a0]) (st' := []) (Nat.le_of_ble_eq_true rfl) rfl (SE_k4 hE)) (by decide +kernel : am_Lm m_A_count = 2) (Nat.le_of_ble_eq_true rfl) rfl (by decide +kernel),
  fun l0 l1 l3 a st E u => q_go (by decide +kernel : am_Pg 208 439 = some (.aload_n 2, 1, [], 0)) rfl,
  fun l1 l2 l3 st E u => q_go (by decide +kernel : am_Pg 208 440 = some (.aload_n 0, 1, [], 0)) rfl,
  fun l0 l1 l2 a st E u => q_go (by decide +kernel : am_Pg 208 441 = some (.iload_n 3, 1, [], 0)) rfl,
  fun l0 l1 l2 l3 st E u => q_go (by decide +kernel : am_Pg 208 442 = some (.iconst 1, 1, [], 0)) rfl,
  fun l0 l1 l2 l3 a b st E u => q_go (by decide +kernel : am_Pg 208 443 = some (.iadd, 1, [], 0)) rfl,
  fun l0 l1 l2 l3 i st E u h0 h1 => q_isc (by decide +kernel : am_Pg 208 444 = some (.iaload, 1, [], 0)) h0 h1,
  fun l0 l1 l2 l3 a0 r0 E u hE => q_cI (by decide +kernel : am_Pg 208 445 = some (.invokevirtual 52, 3, [3, 98, 2, 5, 17, 0], 0)) (am_call_V (a := [vI a0]) (st' := [r0]) (Nat.le_of_ble_eq_true rfl) rfl (SE_k5 hE)) (by decide +kernel : am_Lm m_M_count = 2) (Nat.le_of_ble_eq_true rfl) rfl (by decide +kernel),
  fun l0 l1 l2 l3 a b st E u => q_icmp_eq (tgt := 1449) (by decide +kernel : am_Pg 208 448 = some (.if_icmp .eq 1001, 3, [], 0)) (by decide),
  fun l0 l1 l2 l3 st E u => q_go (by decide +kernel : am_Pg 208 451 = some (.iconst 0, 1, [], 0)) rfl,
  fun l0 l1 l2 l3 b E u => by cases b <;> exact q_ret (by decide +kernel : am_Pg 208 452 = some (.ireturn, 1, [1], 0)) rfl,
  fun l0 l1 l2 l3 E u => q_ret (by decide +kernel : am_Pg 208 452 = some (.ireturn, 1, [1], 0)) rfl,
  fun l0 l1 l2 l3 E u => q_ret (by decide +kernel : am_Pg 208 452 = some (.ireturn, 1, [1], 0)) rfl⟩
theorem x_L_law_453 :
  (∀ (l0 l2 l3 : am_V) (a : Option Nat) (st : List am_V) (E : am_E) (u : am_M), Rn m_L_law 453 [l0, vR a, l2, l3] st E u = Rn m_L_law 454 [l0, vR a, l2, l3] (vR a :: st) E u) ∧
  (∀ (l1 l2 l3 : am_V) (st : List am_V) (E : am_E) (u : am_M), Rn m_L_law 454 [vB true, l1, l2, l3] st E u = Rn m_L_law 455 [vB true, l1, l2, l3] (vB true :: st) E u) ∧
  (∀ (l0 l1 l2 : am_V) (a : Int) (st : List am_V) (E : am_E) (u : am_M), Rn m_L_law 455 [l0, l1, l2, vI a] st E u = Rn m_L_law 456 [l0, l1, l2, vI a] (vI a :: st) E u) ∧
  (∀ (l0 l1 l2 l3 : am_V) (st : List am_V) (E : am_E) (u : am_M), Rn m_L_law 456 [l0, l1, l2, l3] st E u = Rn m_L_law 457 [l0, l1, l2, l3] (vI 1 :: st) E u) ∧
  (∀ (l0 l1 l2 l3 : am_V) (a b : Int) (st : List am_V) (E : am_E) (u : am_M), Rn m_L_law 457 [l0, l1, l2, l3] (vI b :: vI a :: st) E u = Rn m_L_law 458 [l0, l1, l2, l3] (vI (w32 (a + b)) :: st) E u) ∧
  (∀ (l0 l1 l2 l3 : am_V) (i : Int) (st : List am_V) (E : am_E) (u : am_M) (h0 : 0 ≤ i) (h1 : i < (E.2.2.1 : Int)), Rn m_L_law 458 [l0, l1, l2, l3] (vI i :: vB true :: st) E u = Rn m_L_law 459 [l0, l1, l2, l3] (vI (E.2.2.2 i.toNat) :: st) E u) ∧
  (∀ (l0 l1 l2 l3 : am_V) (a0 : Int) (E : am_E) (u : am_M) (hE : SE E), Rn m_L_law 459 [l0, l1, l2, l3] [vI a0, vR (some 0)] E u = bdI (Rn m_A_days 0 [vR (some 0), vI a0] [] E u) (KI m_L_law 462 [l0, l1, l2, l3] [])) ∧
  (∀ (l0 l1 l3 : am_V) (a : Option Nat) (st : List am_V) (E : am_E) (u : am_M), Rn m_L_law 462 [l0, l1, vR a, l3] st E u = Rn m_L_law 463 [l0, l1, vR a, l3] (vR a :: st) E u) ∧
  (∀ (l1 l2 l3 : am_V) (st : List am_V) (E : am_E) (u : am_M), Rn m_L_law 463 [vB true, l1, l2, l3] st E u = Rn m_L_law 464 [vB true, l1, l2, l3] (vB true :: st) E u) ∧
  (∀ (l0 l1 l2 : am_V) (a : Int) (st : List am_V) (E : am_E) (u : am_M), Rn m_L_law 464 [l0, l1, l2, vI a] st E u = Rn m_L_law 465 [l0, l1, l2, vI a] (vI a :: st) E u) ∧
  (∀ (l0 l1 l2 l3 : am_V) (st : List am_V) (E : am_E) (u : am_M), Rn m_L_law 465 [l0, l1, l2, l3] st E u = Rn m_L_law 466 [l0, l1, l2, l3] (vI 1 :: st) E u) ∧
  (∀ (l0 l1 l2 l3 : am_V) (a b : Int) (st : List am_V) (E : am_E) (u : am_M), Rn m_L_law 466 [l0, l1, l2, l3] (vI b :: vI a :: st) E u = Rn m_L_law 467 [l0, l1, l2, l3] (vI (w32 (a + b)) :: st) E u) ∧
  (∀ (l0 l1 l2 l3 : am_V) (i : Int) (st : List am_V) (E : am_E) (u : am_M) (h0 : 0 ≤ i) (h1 : i < (E.2.2.1 : Int)), Rn m_L_law 467 [l0, l1, l2, l3] (vI i :: vB true :: st) E u = Rn m_L_law 468 [l0, l1, l2, l3] (vI (E.2.2.2 i.toNat) :: st) E u) ∧
  (∀ (l0 l1 l2 l3 : am_V) (a0 : Int) (r0 : am_V) (E : am_E) (u : am_M) (hE : SE E), Rn m_L_law 468 [l0, l1, l2, l3] [vI a0, vR (some 149), r0] E u = bdI (Rn m_M_days 0 [vR (some 149), vI a0, vB false] [] E u) (KI m_L_law 471 [l0, l1, l2, l3] [r0])) ∧
  (∀ (l0 l1 l2 l3 : am_V) (a b : Int) (st : List am_V) (E : am_E) (u : am_M), Rn m_L_law 471 [l0, l1, l2, l3] (vI b :: vI a :: st) E u = if a = b then Rn m_L_law 1449 [l0, l1, l2, l3] st E u else Rn m_L_law 474 [l0, l1, l2, l3] st E u) ∧
  (∀ (l0 l1 l2 l3 : am_V) (st : List am_V) (E : am_E) (u : am_M), Rn m_L_law 474 [l0, l1, l2, l3] st E u = Rn m_L_law 475 [l0, l1, l2, l3] (vI 0 :: st) E u) ∧
  (∀ (l0 l1 l2 l3 : am_V) (b : Bool) (E : am_E) (u : am_M), Rn m_L_law 475 [l0, l1, l2, l3] [vI (bI b)] E u = some (some (vI (bI b)), E, u)) ∧
  (∀ (l0 l1 l2 l3 : am_V) (E : am_E) (u : am_M), Rn m_L_law 475 [l0, l1, l2, l3] [vI 1] E u = some (some (vI 1), E, u)) ∧
  (∀ (l0 l1 l2 l3 : am_V) (E : am_E) (u : am_M), Rn m_L_law 475 [l0, l1, l2, l3] [vI 0] E u = some (some (vI 0), E, u)) :=
  ⟨fun l0 l2 l3 a st E u => q_go (by decide +kernel : am_Pg 208 453 = some (.aload_n 1, 1, [], 0)) rfl,
  fun l1 l2 l3 st E u => q_go (by decide +kernel : am_Pg 208 454 = some (.aload_n 0, 1, [], 0)) rfl,
  fun l0 l1 l2 a st E u => q_go (by decide +kernel : am_Pg 208 455 = some (.iload_n 3, 1, [], 0)) rfl,
  fun l0 l1 l2 l3 st E u => q_go (by decide +kernel : am_Pg 208 456 = some (.iconst 1, 1, [], 0)) rfl,
  fun l0 l1 l2 l3 a b st E u => q_go (by decide +kernel : am_Pg 208 457 = some (.iadd, 1, [], 0)) rfl,
  fun l0 l1 l2 l3 i st E u h0 h1 => q_isc (by decide +kernel : am_Pg 208 458 = some (.iaload, 1, [], 0)) h0 h1,
  fun l0 l1 l2 l3 a0  E u hE => q_cI (by decide +kernel : am_Pg 208 459 = some (.invokevirtual 53, 3, [3, 109, 2, 4, 8, 0], 0)) (am_call_V (a := [vI a0]) (st' := []) (Nat.le_of_ble_eq_true rfl) rfl (SE_k4 hE)) (by decide +kernel : am_Lm m_A_days = 2) (Nat.le_of_ble_eq_true rfl) rfl (by decide +kernel),
  fun l0 l1 l3 a st E u => q_go (by decide +kernel : am_Pg 208 462 = some (.aload_n 2, 1, [], 0)) rfl,
  fun l1 l2 l3 st E u => q_go (by decide +kernel : am_Pg 208 463 = some (.aload_n 0, 1, [], 0)) rfl,
  fun l0 l1 l2 a st E u => q_go (by decide +kernel : am_Pg 208 464 = some (.iload_n 3, 1, [], 0)) rfl,
  fun l0 l1 l2 l3 st E u => q_go (by decide +kernel : am_Pg 208 465 = some (.iconst 1, 1, [], 0)) rfl,
  fun l0 l1 l2 l3 a b st E u => q_go (by decide +kernel : am_Pg 208 466 = some (.iadd, 1, [], 0)) rfl,
  fun l0 l1 l2 l3 i st E u h0 h1 => q_isc (by decide +kernel : am_Pg 208 467 = some (.iaload, 1, [], 0)) h0 h1,
  fun l0 l1 l2 l3 a0 r0 E u hE => q_cI (by decide +kernel : am_Pg 208 468 = some (.invokevirtual 56, 3, [3, 116, 2, 5, 17, 0], 0)) (am_call_V (a := [vI a0]) (st' := [r0]) (Nat.le_of_ble_eq_true rfl) rfl (SE_k5 hE)) (by decide +kernel : am_Lm m_M_days = 3) (Nat.le_of_ble_eq_true rfl) rfl (by decide +kernel),
  fun l0 l1 l2 l3 a b st E u => q_icmp_eq (tgt := 1449) (by decide +kernel : am_Pg 208 471 = some (.if_icmp .eq 978, 3, [], 0)) (by decide),
  fun l0 l1 l2 l3 st E u => q_go (by decide +kernel : am_Pg 208 474 = some (.iconst 0, 1, [], 0)) rfl,
  fun l0 l1 l2 l3 b E u => by cases b <;> exact q_ret (by decide +kernel : am_Pg 208 475 = some (.ireturn, 1, [1], 0)) rfl,
  fun l0 l1 l2 l3 E u => q_ret (by decide +kernel : am_Pg 208 475 = some (.ireturn, 1, [1], 0)) rfl,
  fun l0 l1 l2 l3 E u => q_ret (by decide +kernel : am_Pg 208 475 = some (.ireturn, 1, [1], 0)) rfl⟩
theorem x_L_law_476 :
  (∀ (l0 l2 l3 : am_V) (a : Option Nat) (st : List am_V) (E : am_E) (u : am_M), Rn m_L_law 476 [l0, vR a, l2, l3] st E u = Rn m_L_law 477 [l0, vR a, l2, l3] (vR a :: st) E u) ∧
  (∀ (l1 l2 l3 : am_V) (st : List am_V) (E : am_E) (u : am_M), Rn m_L_law 477 [vB true, l1, l2, l3] st E u = Rn m_L_law 478 [vB true, l1, l2, l3] (vB true :: st) E u) ∧
  (∀ (l0 l1 l2 : am_V) (a : Int) (st : List am_V) (E : am_E) (u : am_M), Rn m_L_law 478 [l0, l1, l2, vI a] st E u = Rn m_L_law 479 [l0, l1, l2, vI a] (vI a :: st) E u) ∧
  (∀ (l0 l1 l2 l3 : am_V) (st : List am_V) (E : am_E) (u : am_M), Rn m_L_law 479 [l0, l1, l2, l3] st E u = Rn m_L_law 480 [l0, l1, l2, l3] (vI 1 :: st) E u) ∧
  (∀ (l0 l1 l2 l3 : am_V) (a b : Int) (st : List am_V) (E : am_E) (u : am_M), Rn m_L_law 480 [l0, l1, l2, l3] (vI b :: vI a :: st) E u = Rn m_L_law 481 [l0, l1, l2, l3] (vI (w32 (a + b)) :: st) E u) ∧
  (∀ (l0 l1 l2 l3 : am_V) (i : Int) (st : List am_V) (E : am_E) (u : am_M) (h0 : 0 ≤ i) (h1 : i < (E.2.2.1 : Int)), Rn m_L_law 481 [l0, l1, l2, l3] (vI i :: vB true :: st) E u = Rn m_L_law 482 [l0, l1, l2, l3] (vI (E.2.2.2 i.toNat) :: st) E u) ∧
  (∀ (l0 l1 l2 l3 : am_V) (a0 : Int) (E : am_E) (u : am_M) (hE : SE E), Rn m_L_law 482 [l0, l1, l2, l3] [vI a0, vR (some 0)] E u = bdI (Rn m_A_out 0 [vR (some 0), vI a0, vB false] [] E u) (KI m_L_law 485 [l0, l1, l2, l3] [])) ∧
  (∀ (l0 l1 l3 : am_V) (a : Option Nat) (st : List am_V) (E : am_E) (u : am_M), Rn m_L_law 485 [l0, l1, vR a, l3] st E u = Rn m_L_law 486 [l0, l1, vR a, l3] (vR a :: st) E u) ∧
  (∀ (l1 l2 l3 : am_V) (st : List am_V) (E : am_E) (u : am_M), Rn m_L_law 486 [vB true, l1, l2, l3] st E u = Rn m_L_law 487 [vB true, l1, l2, l3] (vB true :: st) E u) ∧
  (∀ (l0 l1 l2 : am_V) (a : Int) (st : List am_V) (E : am_E) (u : am_M), Rn m_L_law 487 [l0, l1, l2, vI a] st E u = Rn m_L_law 488 [l0, l1, l2, vI a] (vI a :: st) E u) ∧
  (∀ (l0 l1 l2 l3 : am_V) (st : List am_V) (E : am_E) (u : am_M), Rn m_L_law 488 [l0, l1, l2, l3] st E u = Rn m_L_law 489 [l0, l1, l2, l3] (vI 1 :: st) E u) ∧
  (∀ (l0 l1 l2 l3 : am_V) (a b : Int) (st : List am_V) (E : am_E) (u : am_M), Rn m_L_law 489 [l0, l1, l2, l3] (vI b :: vI a :: st) E u = Rn m_L_law 490 [l0, l1, l2, l3] (vI (w32 (a + b)) :: st) E u) ∧
  (∀ (l0 l1 l2 l3 : am_V) (i : Int) (st : List am_V) (E : am_E) (u : am_M) (h0 : 0 ≤ i) (h1 : i < (E.2.2.1 : Int)), Rn m_L_law 490 [l0, l1, l2, l3] (vI i :: vB true :: st) E u = Rn m_L_law 491 [l0, l1, l2, l3] (vI (E.2.2.2 i.toNat) :: st) E u) ∧
  (∀ (l0 l1 l2 l3 : am_V) (a0 : Int) (r0 : am_V) (E : am_E) (u : am_M) (hE : SE E), Rn m_L_law 491 [l0, l1, l2, l3] [vI a0, vR (some 149), r0] E u = bdI (Rn m_M_out 0 [vR (some 149), vI a0, vB false] [] E u) (KI m_L_law 494 [l0, l1, l2, l3] [r0])) ∧
  (∀ (l0 l1 l2 l3 : am_V) (a b : Int) (st : List am_V) (E : am_E) (u : am_M), Rn m_L_law 494 [l0, l1, l2, l3] (vI b :: vI a :: st) E u = if a = b then Rn m_L_law 1449 [l0, l1, l2, l3] st E u else Rn m_L_law 497 [l0, l1, l2, l3] st E u) ∧
  (∀ (l0 l1 l2 l3 : am_V) (st : List am_V) (E : am_E) (u : am_M), Rn m_L_law 497 [l0, l1, l2, l3] st E u = Rn m_L_law 498 [l0, l1, l2, l3] (vI 0 :: st) E u) ∧
  (∀ (l0 l1 l2 l3 : am_V) (b : Bool) (E : am_E) (u : am_M), Rn m_L_law 498 [l0, l1, l2, l3] [vI (bI b)] E u = some (some (vI (bI b)), E, u)) ∧
  (∀ (l0 l1 l2 l3 : am_V) (E : am_E) (u : am_M), Rn m_L_law 498 [l0, l1, l2, l3] [vI 1] E u = some (some (vI 1), E, u)) ∧
  (∀ (l0 l1 l2 l3 : am_V) (E : am_E) (u : am_M), Rn m_L_law 498 [l0, l1, l2, l3] [vI 0] E u = some (some (vI 0), E, u)) :=
  ⟨fun l0 l2 l3 a st E u => q_go (by decide +kernel : am_Pg 208 476 = some (.aload_n 1, 1, [], 0)) rfl,
  fun l1 l2 l3 st E u => q_go (by decide +kernel : am_Pg 208 477 = some (.aload_n 0, 1, [], 0)) rfl,
  fun l0 l1 l2 a st E u => q_go (by decide +kernel : am_Pg 208 478 = some (.iload_n 3, 1, [], 0)) rfl,
  fun l0 l1 l2 l3 st E u => q_go (by decide +kernel : am_Pg 208 479 = some (.iconst 1, 1, [], 0)) rfl,
  fun l0 l1 l2 l3 a b st E u => q_go (by decide +kernel : am_Pg 208 480 = some (.iadd, 1, [], 0)) rfl,
  fun l0 l1 l2 l3 i st E u h0 h1 => q_isc (by decide +kernel : am_Pg 208 481 = some (.iaload, 1, [], 0)) h0 h1,
  fun l0 l1 l2 l3 a0  E u hE => q_cI (by decide +kernel : am_Pg 208 482 = some (.invokevirtual 57, 3, [3, 117, 2, 4, 8, 0], 0)) (am_call_V (a := [vI a0]) (st' := []) (Nat.le_of_ble_eq_true rfl) rfl (SE_k4 hE)) (by decide +kernel : am_Lm m_A_out = 3) (Nat.le_of_ble_eq_true rfl) rfl (by decide +kernel),
  fun l0 l1 l3 a st E u => q_go (by decide +kernel : am_Pg 208 485 = some (.aload_n 2, 1, [], 0)) rfl,
  fun l1 l2 l3 st E u => q_go (by decide +kernel : am_Pg 208 486 = some (.aload_n 0, 1, [], 0)) rfl,
  fun l0 l1 l2 a st E u => q_go (by decide +kernel : am_Pg 208 487 = some (.iload_n 3, 1, [], 0)) rfl,
  fun l0 l1 l2 l3 st E u => q_go (by decide +kernel : am_Pg 208 488 = some (.iconst 1, 1, [], 0)) rfl,
  fun l0 l1 l2 l3 a b st E u => q_go (by decide +kernel : am_Pg 208 489 = some (.iadd, 1, [], 0)) rfl,
  fun l0 l1 l2 l3 i st E u h0 h1 => q_isc (by decide +kernel : am_Pg 208 490 = some (.iaload, 1, [], 0)) h0 h1,
  fun l0 l1 l2 l3 a0 r0 E u hE => q_cI (by decide +kernel : am_Pg 208 491 = some (.invokevirtual 60, 3, [3, 118, 2, 5, 17, 0], 0)) (am_call_V (a := [vI a0]) (st' := [r0]) (Nat.le_of_ble_eq_true rfl) rfl (SE_k5 hE)) (by decide +kernel : am_Lm m_M_out = 3) (Nat.le_of_ble_eq_true rfl) rfl (by decide +kernel),
  fun l0 l1 l2 l3 a b st E u => q_icmp_eq (tgt := 1449) (by decide +kernel : am_Pg 208 494 = some (.if_icmp .eq 955, 3, [], 0)) (by decide),
  fun l0 l1 l2 l3 st E u => q_go (by decide +kernel : am_Pg 208 497 = some (.iconst 0, 1, [], 0)) rfl,
  fun l0 l1 l2 l3 b E u => by cases b <;> exact q_ret (by decide +kernel : am_Pg 208 498 = some (.ireturn, 1, [1], 0)) rfl,
  fun l0 l1 l2 l3 E u => q_ret (by decide +kernel : am_Pg 208 498 = some (.ireturn, 1, [1], 0)) rfl,
  fun l0 l1 l2 l3 E u => q_ret (by decide +kernel : am_Pg 208 498 = some (.ireturn, 1, [1], 0)) rfl⟩
theorem x_L_law_499 :
  (∀ (l0 l2 l3 : am_V) (a : Option Nat) (st : List am_V) (E : am_E) (u : am_M), Rn m_L_law 499 [l0, vR a, l2, l3] st E u = Rn m_L_law 500 [l0, vR a, l2, l3] (vR a :: st) E u) ∧
  (∀ (l1 l2 l3 : am_V) (st : List am_V) (E : am_E) (u : am_M), Rn m_L_law 500 [vB true, l1, l2, l3] st E u = Rn m_L_law 501 [vB true, l1, l2, l3] (vB true :: st) E u) ∧
  (∀ (l0 l1 l2 : am_V) (a : Int) (st : List am_V) (E : am_E) (u : am_M), Rn m_L_law 501 [l0, l1, l2, vI a] st E u = Rn m_L_law 502 [l0, l1, l2, vI a] (vI a :: st) E u) ∧
  (∀ (l0 l1 l2 l3 : am_V) (st : List am_V) (E : am_E) (u : am_M), Rn m_L_law 502 [l0, l1, l2, l3] st E u = Rn m_L_law 503 [l0, l1, l2, l3] (vI 1 :: st) E u) ∧
  (∀ (l0 l1 l2 l3 : am_V) (a b : Int) (st : List am_V) (E : am_E) (u : am_M), Rn m_L_law 503 [l0, l1, l2, l3] (vI b :: vI a :: st) E u = Rn m_L_law 504 [l0, l1, l2, l3] (vI (w32 (a + b)) :: st) E u) ∧
  (∀ (l0 l1 l2 l3 : am_V) (i : Int) (st : List am_V) (E : am_E) (u : am_M) (h0 : 0 ≤ i) (h1 : i < (E.2.2.1 : Int)), Rn m_L_law 504 [l0, l1, l2, l3] (vI i :: vB true :: st) E u = Rn m_L_law 505 [l0, l1, l2, l3] (vI (E.2.2.2 i.toNat) :: st) E u) ∧
  (∀ (l1 l2 l3 : am_V) (st : List am_V) (E : am_E) (u : am_M), Rn m_L_law 505 [vB true, l1, l2, l3] st E u = Rn m_L_law 506 [vB true, l1, l2, l3] (vB true :: st) E u) ∧
  (∀ (l0 l1 l2 : am_V) (a : Int) (st : List am_V) (E : am_E) (u : am_M), Rn m_L_law 506 [l0, l1, l2, vI a] st E u = Rn m_L_law 507 [l0, l1, l2, vI a] (vI a :: st) E u) ∧
  (∀ (l0 l1 l2 l3 : am_V) (st : List am_V) (E : am_E) (u : am_M), Rn m_L_law 507 [l0, l1, l2, l3] st E u = Rn m_L_law 508 [l0, l1, l2, l3] (vI 2 :: st) E u) ∧
  (∀ (l0 l1 l2 l3 : am_V) (a b : Int) (st : List am_V) (E : am_E) (u : am_M), Rn m_L_law 508 [l0, l1, l2, l3] (vI b :: vI a :: st) E u = Rn m_L_law 509 [l0, l1, l2, l3] (vI (w32 (a + b)) :: st) E u) ∧
  (∀ (l0 l1 l2 l3 : am_V) (i : Int) (st : List am_V) (E : am_E) (u : am_M) (h0 : 0 ≤ i) (h1 : i < (E.2.2.1 : Int)), Rn m_L_law 509 [l0, l1, l2, l3] (vI i :: vB true :: st) E u = Rn m_L_law 510 [l0, l1, l2, l3] (vI (E.2.2.2 i.toNat) :: st) E u) ∧
  (∀ (l0 l1 l2 l3 : am_V) (a0 : Int) (a1 : Int) (E : am_E) (u : am_M) (hE : SE E), Rn m_L_law 510 [l0, l1, l2, l3] [vI a1, vI a0, vR (some 0)] E u = bdI (Rn m_A_put 0 [vR (some 0), vI a0, vI a1] [] E u) (KI m_L_law 513 [l0, l1, l2, l3] [])) ∧
  (∀ (l0 l1 l3 : am_V) (a : Option Nat) (st : List am_V) (E : am_E) (u : am_M), Rn m_L_law 513 [l0, l1, vR a, l3] st E u = Rn m_L_law 514 [l0, l1, vR a, l3] (vR a :: st) E u) ∧
  (∀ (l1 l2 l3 : am_V) (st : List am_V) (E : am_E) (u : am_M), Rn m_L_law 514 [vB true, l1, l2, l3] st E u = Rn m_L_law 515 [vB true, l1, l2, l3] (vB true :: st) E u) ∧
  (∀ (l0 l1 l2 : am_V) (a : Int) (st : List am_V) (E : am_E) (u : am_M), Rn m_L_law 515 [l0, l1, l2, vI a] st E u = Rn m_L_law 516 [l0, l1, l2, vI a] (vI a :: st) E u) ∧
  (∀ (l0 l1 l2 l3 : am_V) (st : List am_V) (E : am_E) (u : am_M), Rn m_L_law 516 [l0, l1, l2, l3] st E u = Rn m_L_law 517 [l0, l1, l2, l3] (vI 1 :: st) E u) ∧
  (∀ (l0 l1 l2 l3 : am_V) (a b : Int) (st : List am_V) (E : am_E) (u : am_M), Rn m_L_law 517 [l0, l1, l2, l3] (vI b :: vI a :: st) E u = Rn m_L_law 518 [l0, l1, l2, l3] (vI (w32 (a + b)) :: st) E u) ∧
  (∀ (l0 l1 l2 l3 : am_V) (i : Int) (st : List am_V) (E : am_E) (u : am_M) (h0 : 0 ≤ i) (h1 : i < (E.2.2.1 : Int)), Rn m_L_law 518 [l0, l1, l2, l3] (vI i :: vB true :: st) E u = Rn m_L_law 519 [l0, l1, l2, l3] (vI (E.2.2.2 i.toNat) :: st) E u) ∧
  (∀ (l1 l2 l3 : am_V) (st : List am_V) (E : am_E) (u : am_M), Rn m_L_law 519 [vB true, l1, l2, l3] st E u = Rn m_L_law 520 [vB true, l1, l2, l3] (vB true :: st) E u) ∧
  (∀ (l0 l1 l2 : am_V) (a : Int) (st : List am_V) (E : am_E) (u : am_M), Rn m_L_law 520 [l0, l1, l2, vI a] st E u = Rn m_L_law 521 [l0, l1, l2, vI a] (vI a :: st) E u) ∧
  (∀ (l0 l1 l2 l3 : am_V) (st : List am_V) (E : am_E) (u : am_M), Rn m_L_law 521 [l0, l1, l2, l3] st E u = Rn m_L_law 522 [l0, l1, l2, l3] (vI 2 :: st) E u) ∧
  (∀ (l0 l1 l2 l3 : am_V) (a b : Int) (st : List am_V) (E : am_E) (u : am_M), Rn m_L_law 522 [l0, l1, l2, l3] (vI b :: vI a :: st) E u = Rn m_L_law 523 [l0, l1, l2, l3] (vI (w32 (a + b)) :: st) E u) ∧
  (∀ (l0 l1 l2 l3 : am_V) (i : Int) (st : List am_V) (E : am_E) (u : am_M) (h0 : 0 ≤ i) (h1 : i < (E.2.2.1 : Int)), Rn m_L_law 523 [l0, l1, l2, l3] (vI i :: vB true :: st) E u = Rn m_L_law 524 [l0, l1, l2, l3] (vI (E.2.2.2 i.toNat) :: st) E u) ∧
  (∀ (l0 l1 l2 l3 : am_V) (a0 : Int) (a1 : Int) (r0 : am_V) (E : am_E) (u : am_M) (hE : SE E), Rn m_L_law 524 [l0, l1, l2, l3] [vI a1, vI a0, vR (some 149), r0] E u = bdI (Rn m_M_put 0 [vR (some 149), vI a0, vI a1] [] E u) (KI m_L_law 527 [l0, l1, l2, l3] [r0])) ∧
  (∀ (l0 l1 l2 l3 : am_V) (a b : Int) (st : List am_V) (E : am_E) (u : am_M), Rn m_L_law 527 [l0, l1, l2, l3] (vI b :: vI a :: st) E u = if a = b then Rn m_L_law 1449 [l0, l1, l2, l3] st E u else Rn m_L_law 530 [l0, l1, l2, l3] st E u) ∧
  (∀ (l0 l1 l2 l3 : am_V) (st : List am_V) (E : am_E) (u : am_M), Rn m_L_law 530 [l0, l1, l2, l3] st E u = Rn m_L_law 531 [l0, l1, l2, l3] (vI 0 :: st) E u) ∧
  (∀ (l0 l1 l2 l3 : am_V) (b : Bool) (E : am_E) (u : am_M), Rn m_L_law 531 [l0, l1, l2, l3] [vI (bI b)] E u = some (some (vI (bI b)), E, u)) ∧
  (∀ (l0 l1 l2 l3 : am_V) (E : am_E) (u : am_M), Rn m_L_law 531 [l0, l1, l2, l3] [vI 1] E u = some (some (vI 1), E, u)) ∧
  (∀ (l0 l1 l2 l3 : am_V) (E : am_E) (u : am_M), Rn m_L_law 531 [l0, l1, l2, l3] [vI 0] E u = some (some (vI 0), E, u)) :=
  ⟨fun l0 l2 l3 a st E u => q_go (by decide +kernel : am_Pg 208 499 = some (.aload_n 1, 1, [], 0)) rfl,
  fun l1 l2 l3 st E u => q_go (by decide +kernel : am_Pg 208 500 = some (.aload_n 0, 1, [], 0)) rfl,
  fun l0 l1 l2 a st E u => q_go (by decide +kernel : am_Pg 208 501 = some (.iload_n 3, 1, [], 0)) rfl,
  fun l0 l1 l2 l3 st E u => q_go (by decide +kernel : am_Pg 208 502 = some (.iconst 1, 1, [], 0)) rfl,
  fun l0 l1 l2 l3 a b st E u => q_go (by decide +kernel : am_Pg 208 503 = some (.iadd, 1, [], 0)) rfl,
  fun l0 l1 l2 l3 i st E u h0 h1 => q_isc (by decide +kernel : am_Pg 208 504 = some (.iaload, 1, [], 0)) h0 h1,
  fun l1 l2 l3 st E u => q_go (by decide +kernel : am_Pg 208 505 = some (.aload_n 0, 1, [], 0)) rfl,
  fun l0 l1 l2 a st E u => q_go (by decide +kernel : am_Pg 208 506 = some (.iload_n 3, 1, [], 0)) rfl,
  fun l0 l1 l2 l3 st E u => q_go (by decide +kernel : am_Pg 208 507 = some (.iconst 2, 1, [], 0)) rfl,
  fun l0 l1 l2 l3 a b st E u => q_go (by decide +kernel : am_Pg 208 508 = some (.iadd, 1, [], 0)) rfl,
  fun l0 l1 l2 l3 i st E u h0 h1 => q_isc (by decide +kernel : am_Pg 208 509 = some (.iaload, 1, [], 0)) h0 h1,
  fun l0 l1 l2 l3 a0 a1  E u hE => q_cI (by decide +kernel : am_Pg 208 510 = some (.invokevirtual 61, 3, [3, 119, 3, 4, 8, 0], 0)) (am_call_V (a := [vI a0, vI a1]) (st' := []) (Nat.le_of_ble_eq_true rfl) rfl (SE_k4 hE)) (by decide +kernel : am_Lm m_A_put = 3) (Nat.le_of_ble_eq_true rfl) rfl (by decide +kernel),
  fun l0 l1 l3 a st E u => q_go (by decide +kernel : am_Pg 208 513 = some (.aload_n 2, 1, [], 0)) rfl,
  fun l1 l2 l3 st E u => q_go (by decide +kernel : am_Pg 208 514 = some (.aload_n 0, 1, [], 0)) rfl,
  fun l0 l1 l2 a st E u => q_go (by decide +kernel : am_Pg 208 515 = some (.iload_n 3, 1, [], 0)) rfl,
  fun l0 l1 l2 l3 st E u => q_go (by decide +kernel : am_Pg 208 516 = some (.iconst 1, 1, [], 0)) rfl,
  fun l0 l1 l2 l3 a b st E u => q_go (by decide +kernel : am_Pg 208 517 = some (.iadd, 1, [], 0)) rfl,
  fun l0 l1 l2 l3 i st E u h0 h1 => q_isc (by decide +kernel : am_Pg 208 518 = some (.iaload, 1, [], 0)) h0 h1,
  fun l1 l2 l3 st E u => q_go (by decide +kernel : am_Pg 208 519 = some (.aload_n 0, 1, [], 0)) rfl,
  fun l0 l1 l2 a st E u => q_go (by decide +kernel : am_Pg 208 520 = some (.iload_n 3, 1, [], 0)) rfl,
  fun l0 l1 l2 l3 st E u => q_go (by decide +kernel : am_Pg 208 521 = some (.iconst 2, 1, [], 0)) rfl,
  fun l0 l1 l2 l3 a b st E u => q_go (by decide +kernel : am_Pg 208 522 = some (.iadd, 1, [], 0)) rfl,
  fun l0 l1 l2 l3 i st E u h0 h1 => q_isc (by decide +kernel : am_Pg 208 523 = some (.iaload, 1, [], 0)) h0 h1,
  fun l0 l1 l2 l3 a0 a1 r0 E u hE => q_cI (by decide +kernel : am_Pg 208 524 = some (.invokevirtual 64, 3, [3, 120, 3, 5, 17, 0], 0)) (am_call_V (a := [vI a0, vI a1]) (st' := [r0]) (Nat.le_of_ble_eq_true rfl) rfl (SE_k5 hE)) (by decide +kernel : am_Lm m_M_put = 3) (Nat.le_of_ble_eq_true rfl) rfl (by decide +kernel),
  fun l0 l1 l2 l3 a b st E u => q_icmp_eq (tgt := 1449) (by decide +kernel : am_Pg 208 527 = some (.if_icmp .eq 922, 3, [], 0)) (by decide),
  fun l0 l1 l2 l3 st E u => q_go (by decide +kernel : am_Pg 208 530 = some (.iconst 0, 1, [], 0)) rfl,
  fun l0 l1 l2 l3 b E u => by cases b <;> exact q_ret (by decide +kernel : am_Pg 208 531 = some (.ireturn, 1, [1], 0)) rfl,
  fun l0 l1 l2 l3 E u => q_ret (by decide +kernel : am_Pg 208 531 = some (.ireturn, 1, [1], 0)) rfl,
  fun l0 l1 l2 l3 E u => q_ret (by decide +kernel : am_Pg 208 531 = some (.ireturn, 1, [1], 0)) rfl⟩
theorem x_L_law_532 :
  (∀ (l0 l2 l3 : am_V) (a : Option Nat) (st : List am_V) (E : am_E) (u : am_M), Rn m_L_law 532 [l0, vR a, l2, l3] st E u = Rn m_L_law 533 [l0, vR a, l2, l3] (vR a :: st) E u) ∧
  (∀ (l1 l2 l3 : am_V) (st : List am_V) (E : am_E) (u : am_M), Rn m_L_law 533 [vB true, l1, l2, l3] st E u = Rn m_L_law 534 [vB true, l1, l2, l3] (vB true :: st) E u) ∧
  (∀ (l0 l1 l2 : am_V) (a : Int) (st : List am_V) (E : am_E) (u : am_M), Rn m_L_law 534 [l0, l1, l2, vI a] st E u = Rn m_L_law 535 [l0, l1, l2, vI a] (vI a :: st) E u) ∧
  (∀ (l0 l1 l2 l3 : am_V) (st : List am_V) (E : am_E) (u : am_M), Rn m_L_law 535 [l0, l1, l2, l3] st E u = Rn m_L_law 536 [l0, l1, l2, l3] (vI 1 :: st) E u) ∧
  (∀ (l0 l1 l2 l3 : am_V) (a b : Int) (st : List am_V) (E : am_E) (u : am_M), Rn m_L_law 536 [l0, l1, l2, l3] (vI b :: vI a :: st) E u = Rn m_L_law 537 [l0, l1, l2, l3] (vI (w32 (a + b)) :: st) E u) ∧
  (∀ (l0 l1 l2 l3 : am_V) (i : Int) (st : List am_V) (E : am_E) (u : am_M) (h0 : 0 ≤ i) (h1 : i < (E.2.2.1 : Int)), Rn m_L_law 537 [l0, l1, l2, l3] (vI i :: vB true :: st) E u = Rn m_L_law 538 [l0, l1, l2, l3] (vI (E.2.2.2 i.toNat) :: st) E u) ∧
  (∀ (l0 l1 l2 l3 : am_V) (a0 : Int) (E : am_E) (u : am_M) (hE : SE E), Rn m_L_law 538 [l0, l1, l2, l3] [vI a0, vR (some 0)] E u = bdI (Rn m_A_cut 0 [vR (some 0), vI a0] [] E u) (KI m_L_law 541 [l0, l1, l2, l3] [])) ∧
  (∀ (l0 l1 l3 : am_V) (a : Option Nat) (st : List am_V) (E : am_E) (u : am_M), Rn m_L_law 541 [l0, l1, vR a, l3] st E u = Rn m_L_law 542 [l0, l1, vR a, l3] (vR a :: st) E u) ∧
  (∀ (l1 l2 l3 : am_V) (st : List am_V) (E : am_E) (u : am_M), Rn m_L_law 542 [vB true, l1, l2, l3] st E u = Rn m_L_law 543 [vB true, l1, l2, l3] (vB true :: st) E u) ∧
  (∀ (l0 l1 l2 : am_V) (a : Int) (st : List am_V) (E : am_E) (u : am_M), Rn m_L_law 543 [l0, l1, l2, vI a] st E u = Rn m_L_law 544 [l0, l1, l2, vI a] (vI a :: st) E u) ∧
  (∀ (l0 l1 l2 l3 : am_V) (st : List am_V) (E : am_E) (u : am_M), Rn m_L_law 544 [l0, l1, l2, l3] st E u = Rn m_L_law 545 [l0, l1, l2, l3] (vI 1 :: st) E u) ∧
  (∀ (l0 l1 l2 l3 : am_V) (a b : Int) (st : List am_V) (E : am_E) (u : am_M), Rn m_L_law 545 [l0, l1, l2, l3] (vI b :: vI a :: st) E u = Rn m_L_law 546 [l0, l1, l2, l3] (vI (w32 (a + b)) :: st) E u) ∧
  (∀ (l0 l1 l2 l3 : am_V) (i : Int) (st : List am_V) (E : am_E) (u : am_M) (h0 : 0 ≤ i) (h1 : i < (E.2.2.1 : Int)), Rn m_L_law 546 [l0, l1, l2, l3] (vI i :: vB true :: st) E u = Rn m_L_law 547 [l0, l1, l2, l3] (vI (E.2.2.2 i.toNat) :: st) E u) ∧
  (∀ (l0 l1 l2 l3 : am_V) (a0 : Int) (r0 : am_V) (E : am_E) (u : am_M) (hE : SE E), Rn m_L_law 547 [l0, l1, l2, l3] [vI a0, vR (some 149), r0] E u = bdI (Rn m_M_cut 0 [vR (some 149), vI a0] [] E u) (KI m_L_law 550 [l0, l1, l2, l3] [r0])) ∧
  (∀ (l0 l1 l2 l3 : am_V) (a b : Int) (st : List am_V) (E : am_E) (u : am_M), Rn m_L_law 550 [l0, l1, l2, l3] (vI b :: vI a :: st) E u = if a = b then Rn m_L_law 1449 [l0, l1, l2, l3] st E u else Rn m_L_law 553 [l0, l1, l2, l3] st E u) ∧
  (∀ (l0 l1 l2 l3 : am_V) (st : List am_V) (E : am_E) (u : am_M), Rn m_L_law 553 [l0, l1, l2, l3] st E u = Rn m_L_law 554 [l0, l1, l2, l3] (vI 0 :: st) E u) ∧
  (∀ (l0 l1 l2 l3 : am_V) (b : Bool) (E : am_E) (u : am_M), Rn m_L_law 554 [l0, l1, l2, l3] [vI (bI b)] E u = some (some (vI (bI b)), E, u)) ∧
  (∀ (l0 l1 l2 l3 : am_V) (E : am_E) (u : am_M), Rn m_L_law 554 [l0, l1, l2, l3] [vI 1] E u = some (some (vI 1), E, u)) ∧
  (∀ (l0 l1 l2 l3 : am_V) (E : am_E) (u : am_M), Rn m_L_law 554 [l0, l1, l2, l3] [vI 0] E u = some (some (vI 0), E, u)) :=
  ⟨fun l0 l2 l3 a st E u => q_go (by decide +kernel : am_Pg 208 532 = some (.aload_n 1, 1, [], 0)) rfl,
  fun l1 l2 l3 st E u => q_go (by decide +kernel : am_Pg 208 533 = some (.aload_n 0, 1, [], 0)) rfl,
  fun l0 l1 l2 a st E u => q_go (by decide +kernel : am_Pg 208 534 = some (.iload_n 3, 1, [], 0)) rfl,
  fun l0 l1 l2 l3 st E u => q_go (by decide +kernel : am_Pg 208 535 = some (.iconst 1, 1, [], 0)) rfl,
  fun l0 l1 l2 l3 a b st E u => q_go (by decide +kernel : am_Pg 208 536 = some (.iadd, 1, [], 0)) rfl,
  fun l0 l1 l2 l3 i st E u h0 h1 => q_isc (by decide +kernel : am_Pg 208 537 = some (.iaload, 1, [], 0)) h0 h1,
  fun l0 l1 l2 l3 a0  E u hE => q_cI (by decide +kernel : am_Pg 208 538 = some (.invokevirtual 65, 3, [3, 121, 2, 4, 8, 0], 0)) (am_call_V (a := [vI a0]) (st' := []) (Nat.le_of_ble_eq_true rfl) rfl (SE_k4 hE)) (by decide +kernel : am_Lm m_A_cut = 2) (Nat.le_of_ble_eq_true rfl) rfl (by decide +kernel),
  fun l0 l1 l3 a st E u => q_go (by decide +kernel : am_Pg 208 541 = some (.aload_n 2, 1, [], 0)) rfl,
  fun l1 l2 l3 st E u => q_go (by decide +kernel : am_Pg 208 542 = some (.aload_n 0, 1, [], 0)) rfl,
  fun l0 l1 l2 a st E u => q_go (by decide +kernel : am_Pg 208 543 = some (.iload_n 3, 1, [], 0)) rfl,
  fun l0 l1 l2 l3 st E u => q_go (by decide +kernel : am_Pg 208 544 = some (.iconst 1, 1, [], 0)) rfl,
  fun l0 l1 l2 l3 a b st E u => q_go (by decide +kernel : am_Pg 208 545 = some (.iadd, 1, [], 0)) rfl,
  fun l0 l1 l2 l3 i st E u h0 h1 => q_isc (by decide +kernel : am_Pg 208 546 = some (.iaload, 1, [], 0)) h0 h1,
  fun l0 l1 l2 l3 a0 r0 E u hE => q_cI (by decide +kernel : am_Pg 208 547 = some (.invokevirtual 68, 3, [3, 122, 2, 5, 17, 0], 0)) (am_call_V (a := [vI a0]) (st' := [r0]) (Nat.le_of_ble_eq_true rfl) rfl (SE_k5 hE)) (by decide +kernel : am_Lm m_M_cut = 2) (Nat.le_of_ble_eq_true rfl) rfl (by decide +kernel),
  fun l0 l1 l2 l3 a b st E u => q_icmp_eq (tgt := 1449) (by decide +kernel : am_Pg 208 550 = some (.if_icmp .eq 899, 3, [], 0)) (by decide),
  fun l0 l1 l2 l3 st E u => q_go (by decide +kernel : am_Pg 208 553 = some (.iconst 0, 1, [], 0)) rfl,
  fun l0 l1 l2 l3 b E u => by cases b <;> exact q_ret (by decide +kernel : am_Pg 208 554 = some (.ireturn, 1, [1], 0)) rfl,
  fun l0 l1 l2 l3 E u => q_ret (by decide +kernel : am_Pg 208 554 = some (.ireturn, 1, [1], 0)) rfl,
  fun l0 l1 l2 l3 E u => q_ret (by decide +kernel : am_Pg 208 554 = some (.ireturn, 1, [1], 0)) rfl⟩
theorem x_L_law_555 :
  (∀ (l0 l2 l3 : am_V) (a : Option Nat) (st : List am_V) (E : am_E) (u : am_M), Rn m_L_law 555 [l0, vR a, l2, l3] st E u = Rn m_L_law 556 [l0, vR a, l2, l3] (vR a :: st) E u) ∧
  (∀ (l1 l2 l3 : am_V) (st : List am_V) (E : am_E) (u : am_M), Rn m_L_law 556 [vB true, l1, l2, l3] st E u = Rn m_L_law 557 [vB true, l1, l2, l3] (vB true :: st) E u) ∧
  (∀ (l0 l1 l2 : am_V) (a : Int) (st : List am_V) (E : am_E) (u : am_M), Rn m_L_law 557 [l0, l1, l2, vI a] st E u = Rn m_L_law 558 [l0, l1, l2, vI a] (vI a :: st) E u) ∧
  (∀ (l0 l1 l2 l3 : am_V) (st : List am_V) (E : am_E) (u : am_M), Rn m_L_law 558 [l0, l1, l2, l3] st E u = Rn m_L_law 559 [l0, l1, l2, l3] (vI 1 :: st) E u) ∧
  (∀ (l0 l1 l2 l3 : am_V) (a b : Int) (st : List am_V) (E : am_E) (u : am_M), Rn m_L_law 559 [l0, l1, l2, l3] (vI b :: vI a :: st) E u = Rn m_L_law 560 [l0, l1, l2, l3] (vI (w32 (a + b)) :: st) E u) ∧
  (∀ (l0 l1 l2 l3 : am_V) (i : Int) (st : List am_V) (E : am_E) (u : am_M) (h0 : 0 ≤ i) (h1 : i < (E.2.2.1 : Int)), Rn m_L_law 560 [l0, l1, l2, l3] (vI i :: vB true :: st) E u = Rn m_L_law 561 [l0, l1, l2, l3] (vI (E.2.2.2 i.toNat) :: st) E u) ∧
  (∀ (l1 l2 l3 : am_V) (st : List am_V) (E : am_E) (u : am_M), Rn m_L_law 561 [vB true, l1, l2, l3] st E u = Rn m_L_law 562 [vB true, l1, l2, l3] (vB true :: st) E u) ∧
  (∀ (l0 l1 l2 : am_V) (a : Int) (st : List am_V) (E : am_E) (u : am_M), Rn m_L_law 562 [l0, l1, l2, vI a] st E u = Rn m_L_law 563 [l0, l1, l2, vI a] (vI a :: st) E u) ∧
  (∀ (l0 l1 l2 l3 : am_V) (st : List am_V) (E : am_E) (u : am_M), Rn m_L_law 563 [l0, l1, l2, l3] st E u = Rn m_L_law 564 [l0, l1, l2, l3] (vI 2 :: st) E u) ∧
  (∀ (l0 l1 l2 l3 : am_V) (a b : Int) (st : List am_V) (E : am_E) (u : am_M), Rn m_L_law 564 [l0, l1, l2, l3] (vI b :: vI a :: st) E u = Rn m_L_law 565 [l0, l1, l2, l3] (vI (w32 (a + b)) :: st) E u) ∧
  (∀ (l0 l1 l2 l3 : am_V) (i : Int) (st : List am_V) (E : am_E) (u : am_M) (h0 : 0 ≤ i) (h1 : i < (E.2.2.1 : Int)), Rn m_L_law 565 [l0, l1, l2, l3] (vI i :: vB true :: st) E u = Rn m_L_law 566 [l0, l1, l2, l3] (vI (E.2.2.2 i.toNat) :: st) E u) ∧
  (∀ (l0 l1 l2 l3 : am_V) (a0 : Int) (a1 : Int) (E : am_E) (u : am_M) (hE : SE E), Rn m_L_law 566 [l0, l1, l2, l3] [vI a1, vI a0, vR (some 0)] E u = bdI (Rn m_A_course 0 [vR (some 0), vI a0, vI a1, vB false] [] E u) (KI m_L_law 569 [l0, l1, l2, l3] [])) ∧
  (∀ (l0 l1 l3 : am_V) (a : Option Nat) (st : List am_V) (E : am_E) (u : am_M), Rn m_L_law 569 [l0, l1, vR a, l3] st E u = Rn m_L_law 570 [l0, l1, vR a, l3] (vR a :: st) E u) ∧
  (∀ (l1 l2 l3 : am_V) (st : List am_V) (E : am_E) (u : am_M), Rn m_L_law 570 [vB true, l1, l2, l3] st E u = Rn m_L_law 571 [vB true, l1, l2, l3] (vB true :: st) E u) ∧
  (∀ (l0 l1 l2 : am_V) (a : Int) (st : List am_V) (E : am_E) (u : am_M), Rn m_L_law 571 [l0, l1, l2, vI a] st E u = Rn m_L_law 572 [l0, l1, l2, vI a] (vI a :: st) E u) ∧
  (∀ (l0 l1 l2 l3 : am_V) (st : List am_V) (E : am_E) (u : am_M), Rn m_L_law 572 [l0, l1, l2, l3] st E u = Rn m_L_law 573 [l0, l1, l2, l3] (vI 1 :: st) E u) ∧
  (∀ (l0 l1 l2 l3 : am_V) (a b : Int) (st : List am_V) (E : am_E) (u : am_M), Rn m_L_law 573 [l0, l1, l2, l3] (vI b :: vI a :: st) E u = Rn m_L_law 574 [l0, l1, l2, l3] (vI (w32 (a + b)) :: st) E u) ∧
  (∀ (l0 l1 l2 l3 : am_V) (i : Int) (st : List am_V) (E : am_E) (u : am_M) (h0 : 0 ≤ i) (h1 : i < (E.2.2.1 : Int)), Rn m_L_law 574 [l0, l1, l2, l3] (vI i :: vB true :: st) E u = Rn m_L_law 575 [l0, l1, l2, l3] (vI (E.2.2.2 i.toNat) :: st) E u) ∧
  (∀ (l1 l2 l3 : am_V) (st : List am_V) (E : am_E) (u : am_M), Rn m_L_law 575 [vB true, l1, l2, l3] st E u = Rn m_L_law 576 [vB true, l1, l2, l3] (vB true :: st) E u) ∧
  (∀ (l0 l1 l2 : am_V) (a : Int) (st : List am_V) (E : am_E) (u : am_M), Rn m_L_law 576 [l0, l1, l2, vI a] st E u = Rn m_L_law 577 [l0, l1, l2, vI a] (vI a :: st) E u) ∧
  (∀ (l0 l1 l2 l3 : am_V) (st : List am_V) (E : am_E) (u : am_M), Rn m_L_law 577 [l0, l1, l2, l3] st E u = Rn m_L_law 578 [l0, l1, l2, l3] (vI 2 :: st) E u) ∧
  (∀ (l0 l1 l2 l3 : am_V) (a b : Int) (st : List am_V) (E : am_E) (u : am_M), Rn m_L_law 578 [l0, l1, l2, l3] (vI b :: vI a :: st) E u = Rn m_L_law 579 [l0, l1, l2, l3] (vI (w32 (a + b)) :: st) E u) ∧
  (∀ (l0 l1 l2 l3 : am_V) (i : Int) (st : List am_V) (E : am_E) (u : am_M) (h0 : 0 ≤ i) (h1 : i < (E.2.2.1 : Int)), Rn m_L_law 579 [l0, l1, l2, l3] (vI i :: vB true :: st) E u = Rn m_L_law 580 [l0, l1, l2, l3] (vI (E.2.2.2 i.toNat) :: st) E u) ∧
  (∀ (l0 l1 l2 l3 : am_V) (a0 : Int) (a1 : Int) (r0 : am_V) (E : am_E) (u : am_M) (hE : SE E), Rn m_L_law 580 [l0, l1, l2, l3] [vI a1, vI a0, vR (some 149), r0] E u = bdI (Rn m_M_course 0 [vR (some 149), vI a0, vI a1, vB false] [] E u) (KI m_L_law 583 [l0, l1, l2, l3] [r0])) ∧
  (∀ (l0 l1 l2 l3 : am_V) (a b : Int) (st : List am_V) (E : am_E) (u : am_M), Rn m_L_law 583 [l0, l1, l2, l3] (vI b :: vI a :: st) E u = if a = b then Rn m_L_law 1449 [l0, l1, l2, l3] st E u else Rn m_L_law 586 [l0, l1, l2, l3] st E u) ∧
  (∀ (l0 l1 l2 l3 : am_V) (st : List am_V) (E : am_E) (u : am_M), Rn m_L_law 586 [l0, l1, l2, l3] st E u = Rn m_L_law 587 [l0, l1, l2, l3] (vI 0 :: st) E u) ∧
  (∀ (l0 l1 l2 l3 : am_V) (b : Bool) (E : am_E) (u : am_M), Rn m_L_law 587 [l0, l1, l2, l3] [vI (bI b)] E u = some (some (vI (bI b)), E, u)) ∧
  (∀ (l0 l1 l2 l3 : am_V) (E : am_E) (u : am_M), Rn m_L_law 587 [l0, l1, l2, l3] [vI 1] E u = some (some (vI 1), E, u)) ∧
  (∀ (l0 l1 l2 l3 : am_V) (E : am_E) (u : am_M), Rn m_L_law 587 [l0, l1, l2, l3] [vI 0] E u = some (some (vI 0), E, u)) :=
  ⟨fun l0 l2 l3 a st E u => q_go (by decide +kernel : am_Pg 208 555 = some (.aload_n 1, 1, [], 0)) rfl,
  fun l1 l2 l3 st E u => q_go (by decide +kernel : am_Pg 208 556 = some (.aload_n 0, 1, [], 0)) rfl,
  fun l0 l1 l2 a st E u => q_go (by decide +kernel : am_Pg 208 557 = some (.iload_n 3, 1, [], 0)) rfl,
  fun l0 l1 l2 l3 st E u => q_go (by decide +kernel : am_Pg 208 558 = some (.iconst 1, 1, [], 0)) rfl,
  fun l0 l1 l2 l3 a b st E u => q_go (by decide +kernel : am_Pg 208 559 = some (.iadd, 1, [], 0)) rfl,
  fun l0 l1 l2 l3 i st E u h0 h1 => q_isc (by decide +kernel : am_Pg 208 560 = some (.iaload, 1, [], 0)) h0 h1,
  fun l1 l2 l3 st E u => q_go (by decide +kernel : am_Pg 208 561 = some (.aload_n 0, 1, [], 0)) rfl,
  fun l0 l1 l2 a st E u => q_go (by decide +kernel : am_Pg 208 562 = some (.iload_n 3, 1, [], 0)) rfl,
  fun l0 l1 l2 l3 st E u => q_go (by decide +kernel : am_Pg 208 563 = some (.iconst 2, 1, [], 0)) rfl,
  fun l0 l1 l2 l3 a b st E u => q_go (by decide +kernel : am_Pg 208 564 = some (.iadd, 1, [], 0)) rfl,
  fun l0 l1 l2 l3 i st E u h0 h1 => q_isc (by decide +kernel : am_Pg 208 565 = some (.iaload, 1, [], 0)) h0 h1,
  fun l0 l1 l2 l3 a0 a1  E u hE => q_cI (by decide +kernel : am_Pg 208 566 = some (.invokevirtual 69, 3, [3, 123, 3, 4, 8, 0], 0)) (am_call_V (a := [vI a0, vI a1]) (st' := []) (Nat.le_of_ble_eq_true rfl) rfl (SE_k4 hE)) (by decide +kernel : am_Lm m_A_course = 4) (Nat.le_of_ble_eq_true rfl) rfl (by decide +kernel),
  fun l0 l1 l3 a st E u => q_go (by decide +kernel : am_Pg 208 569 = some (.aload_n 2, 1, [], 0)) rfl,
  fun l1 l2 l3 st E u => q_go (by decide +kernel : am_Pg 208 570 = some (.aload_n 0, 1, [], 0)) rfl,
  fun l0 l1 l2 a st E u => q_go (by decide +kernel : am_Pg 208 571 = some (.iload_n 3, 1, [], 0)) rfl,
  fun l0 l1 l2 l3 st E u => q_go (by decide +kernel : am_Pg 208 572 = some (.iconst 1, 1, [], 0)) rfl,
  fun l0 l1 l2 l3 a b st E u => q_go (by decide +kernel : am_Pg 208 573 = some (.iadd, 1, [], 0)) rfl,
  fun l0 l1 l2 l3 i st E u h0 h1 => q_isc (by decide +kernel : am_Pg 208 574 = some (.iaload, 1, [], 0)) h0 h1,
  fun l1 l2 l3 st E u => q_go (by decide +kernel : am_Pg 208 575 = some (.aload_n 0, 1, [], 0)) rfl,
  fun l0 l1 l2 a st E u => q_go (by decide +kernel : am_Pg 208 576 = some (.iload_n 3, 1, [], 0)) rfl,
  fun l0 l1 l2 l3 st E u => q_go (by decide +kernel : am_Pg 208 577 = some (.iconst 2, 1, [], 0)) rfl,
  fun l0 l1 l2 l3 a b st E u => q_go (by decide +kernel : am_Pg 208 578 = some (.iadd, 1, [], 0)) rfl,
  fun l0 l1 l2 l3 i st E u h0 h1 => q_isc (by decide +kernel : am_Pg 208 579 = some (.iaload, 1, [], 0)) h0 h1,
  fun l0 l1 l2 l3 a0 a1 r0 E u hE => q_cI (by decide +kernel : am_Pg 208 580 = some (.invokevirtual 72, 3, [3, 124, 3, 5, 17, 0], 0)) (am_call_V (a := [vI a0, vI a1]) (st' := [r0]) (Nat.le_of_ble_eq_true rfl) rfl (SE_k5 hE)) (by decide +kernel : am_Lm m_M_course = 4) (Nat.le_of_ble_eq_true rfl) rfl (by decide +kernel),
  fun l0 l1 l2 l3 a b st E u => q_icmp_eq (tgt := 1449) (by decide +kernel : am_Pg 208 583 = some (.if_icmp .eq 866, 3, [], 0)) (by decide),
  fun l0 l1 l2 l3 st E u => q_go (by decide +kernel : am_Pg 208 586 = some (.iconst 0, 1, [], 0)) rfl,
  fun l0 l1 l2 l3 b E u => by cases b <;> exact q_ret (by decide +kernel : am_Pg 208 587 = some (.ireturn, 1, [1], 0)) rfl,
  fun l0 l1 l2 l3 E u => q_ret (by decide +kernel : am_Pg 208 587 = some (.ireturn, 1, [1], 0)) rfl,
  fun l0 l1 l2 l3 E u => q_ret (by decide +kernel : am_Pg 208 587 = some (.ireturn, 1, [1], 0)) rfl⟩
theorem x_L_law_588 :
  (∀ (l0 l2 l3 : am_V) (a : Option Nat) (st : List am_V) (E : am_E) (u : am_M), Rn m_L_law 588 [l0, vR a, l2, l3] st E u = Rn m_L_law 589 [l0, vR a, l2, l3] (vR a :: st) E u) ∧
  (∀ (l1 l2 l3 : am_V) (st : List am_V) (E : am_E) (u : am_M), Rn m_L_law 589 [vB true, l1, l2, l3] st E u = Rn m_L_law 590 [vB true, l1, l2, l3] (vB true :: st) E u) ∧
  (∀ (l0 l1 l2 : am_V) (a : Int) (st : List am_V) (E : am_E) (u : am_M), Rn m_L_law 590 [l0, l1, l2, vI a] st E u = Rn m_L_law 591 [l0, l1, l2, vI a] (vI a :: st) E u) ∧
  (∀ (l0 l1 l2 l3 : am_V) (st : List am_V) (E : am_E) (u : am_M), Rn m_L_law 591 [l0, l1, l2, l3] st E u = Rn m_L_law 592 [l0, l1, l2, l3] (vI 1 :: st) E u) ∧
  (∀ (l0 l1 l2 l3 : am_V) (a b : Int) (st : List am_V) (E : am_E) (u : am_M), Rn m_L_law 592 [l0, l1, l2, l3] (vI b :: vI a :: st) E u = Rn m_L_law 593 [l0, l1, l2, l3] (vI (w32 (a + b)) :: st) E u) ∧
  (∀ (l0 l1 l2 l3 : am_V) (i : Int) (st : List am_V) (E : am_E) (u : am_M) (h0 : 0 ≤ i) (h1 : i < (E.2.2.1 : Int)), Rn m_L_law 593 [l0, l1, l2, l3] (vI i :: vB true :: st) E u = Rn m_L_law 594 [l0, l1, l2, l3] (vI (E.2.2.2 i.toNat) :: st) E u) ∧
  (∀ (l0 l1 l2 l3 : am_V) (a0 : Int) (E : am_E) (u : am_M) (hE : SE E), Rn m_L_law 594 [l0, l1, l2, l3] [vI a0, vR (some 0)] E u = bdI (Rn m_A_drift 0 [vR (some 0), vI a0] [] E u) (KI m_L_law 597 [l0, l1, l2, l3] [])) ∧
  (∀ (l0 l1 l3 : am_V) (a : Option Nat) (st : List am_V) (E : am_E) (u : am_M), Rn m_L_law 597 [l0, l1, vR a, l3] st E u = Rn m_L_law 598 [l0, l1, vR a, l3] (vR a :: st) E u) ∧
  (∀ (l1 l2 l3 : am_V) (st : List am_V) (E : am_E) (u : am_M), Rn m_L_law 598 [vB true, l1, l2, l3] st E u = Rn m_L_law 599 [vB true, l1, l2, l3] (vB true :: st) E u) ∧
  (∀ (l0 l1 l2 : am_V) (a : Int) (st : List am_V) (E : am_E) (u : am_M), Rn m_L_law 599 [l0, l1, l2, vI a] st E u = Rn m_L_law 600 [l0, l1, l2, vI a] (vI a :: st) E u) ∧
  (∀ (l0 l1 l2 l3 : am_V) (st : List am_V) (E : am_E) (u : am_M), Rn m_L_law 600 [l0, l1, l2, l3] st E u = Rn m_L_law 601 [l0, l1, l2, l3] (vI 1 :: st) E u) ∧
  (∀ (l0 l1 l2 l3 : am_V) (a b : Int) (st : List am_V) (E : am_E) (u : am_M), Rn m_L_law 601 [l0, l1, l2, l3] (vI b :: vI a :: st) E u = Rn m_L_law 602 [l0, l1, l2, l3] (vI (w32 (a + b)) :: st) E u) ∧
  (∀ (l0 l1 l2 l3 : am_V) (i : Int) (st : List am_V) (E : am_E) (u : am_M) (h0 : 0 ≤ i) (h1 : i < (E.2.2.1 : Int)), Rn m_L_law 602 [l0, l1, l2, l3] (vI i :: vB true :: st) E u = Rn m_L_law 603 [l0, l1, l2, l3] (vI (E.2.2.2 i.toNat) :: st) E u) ∧
  (∀ (l0 l1 l2 l3 : am_V) (a0 : Int) (r0 : am_V) (E : am_E) (u : am_M) (hE : SE E), Rn m_L_law 603 [l0, l1, l2, l3] [vI a0, vR (some 149), r0] E u = bdI (Rn m_M_drift 0 [vR (some 149), vI a0, vB false, vB false] [] E u) (KI m_L_law 606 [l0, l1, l2, l3] [r0])) ∧
  (∀ (l0 l1 l2 l3 : am_V) (a b : Int) (st : List am_V) (E : am_E) (u : am_M), Rn m_L_law 606 [l0, l1, l2, l3] (vI b :: vI a :: st) E u = if a = b then Rn m_L_law 1449 [l0, l1, l2, l3] st E u else Rn m_L_law 609 [l0, l1, l2, l3] st E u) ∧
  (∀ (l0 l1 l2 l3 : am_V) (st : List am_V) (E : am_E) (u : am_M), Rn m_L_law 609 [l0, l1, l2, l3] st E u = Rn m_L_law 610 [l0, l1, l2, l3] (vI 0 :: st) E u) ∧
  (∀ (l0 l1 l2 l3 : am_V) (b : Bool) (E : am_E) (u : am_M), Rn m_L_law 610 [l0, l1, l2, l3] [vI (bI b)] E u = some (some (vI (bI b)), E, u)) ∧
  (∀ (l0 l1 l2 l3 : am_V) (E : am_E) (u : am_M), Rn m_L_law 610 [l0, l1, l2, l3] [vI 1] E u = some (some (vI 1), E, u)) ∧
  (∀ (l0 l1 l2 l3 : am_V) (E : am_E) (u : am_M), Rn m_L_law 610 [l0, l1, l2, l3] [vI 0] E u = some (some (vI 0), E, u)) :=
  ⟨fun l0 l2 l3 a st E u => q_go (by decide +kernel : am_Pg 208 588 = some (.aload_n 1, 1, [], 0)) rfl,
  fun l1 l2 l3 st E u => q_go (by decide +kernel : am_Pg 208 589 = some (.aload_n 0, 1, [], 0)) rfl,
  fun l0 l1 l2 a st E u => q_go (by decide +kernel : am_Pg 208 590 = some (.iload_n 3, 1, [], 0)) rfl,
  fun l0 l1 l2 l3 st E u => q_go (by decide +kernel : am_Pg 208 591 = some (.iconst 1, 1, [], 0)) rfl,
  fun l0 l1 l2 l3 a b st E u => q_go (by decide +kernel : am_Pg 208 592 = some (.iadd, 1, [], 0)) rfl,
  fun l0 l1 l2 l3 i st E u h0 h1 => q_isc (by decide +kernel : am_Pg 208 593 = some (.iaload, 1, [], 0)) h0 h1,
  fun l0 l1 l2 l3 a0  E u hE => q_cI (by decide +kernel : am_Pg 208 594 = some (.invokevirtual 73, 3, [3, 125, 2, 4, 8, 0], 0)) (am_call_V (a := [vI a0]) (st' := []) (Nat.le_of_ble_eq_true rfl) rfl (SE_k4 hE)) (by decide +kernel : am_Lm m_A_drift = 2) (Nat.le_of_ble_eq_true rfl) rfl (by decide +kernel),
  fun l0 l1 l3 a st E u => q_go (by decide +kernel : am_Pg 208 597 = some (.aload_n 2, 1, [], 0)) rfl,
  fun l1 l2 l3 st E u => q_go (by decide +kernel : am_Pg 208 598 = some (.aload_n 0, 1, [], 0)) rfl,
  fun l0 l1 l2 a st E u => q_go (by decide +kernel : am_Pg 208 599 = some (.iload_n 3, 1, [], 0)) rfl,
  fun l0 l1 l2 l3 st E u => q_go (by decide +kernel : am_Pg 208 600 = some (.iconst 1, 1, [], 0)) rfl,
  fun l0 l1 l2 l3 a b st E u => q_go (by decide +kernel : am_Pg 208 601 = some (.iadd, 1, [], 0)) rfl,
  fun l0 l1 l2 l3 i st E u h0 h1 => q_isc (by decide +kernel : am_Pg 208 602 = some (.iaload, 1, [], 0)) h0 h1,
  fun l0 l1 l2 l3 a0 r0 E u hE => q_cI (by decide +kernel : am_Pg 208 603 = some (.invokevirtual 76, 3, [3, 126, 2, 5, 17, 0], 0)) (am_call_V (a := [vI a0]) (st' := [r0]) (Nat.le_of_ble_eq_true rfl) rfl (SE_k5 hE)) (by decide +kernel : am_Lm m_M_drift = 4) (Nat.le_of_ble_eq_true rfl) rfl (by decide +kernel),
  fun l0 l1 l2 l3 a b st E u => q_icmp_eq (tgt := 1449) (by decide +kernel : am_Pg 208 606 = some (.if_icmp .eq 843, 3, [], 0)) (by decide),
  fun l0 l1 l2 l3 st E u => q_go (by decide +kernel : am_Pg 208 609 = some (.iconst 0, 1, [], 0)) rfl,
  fun l0 l1 l2 l3 b E u => by cases b <;> exact q_ret (by decide +kernel : am_Pg 208 610 = some (.ireturn, 1, [1], 0)) rfl,
  fun l0 l1 l2 l3 E u => q_ret (by decide +kernel : am_Pg 208 610 = some (.ireturn, 1, [1], 0)) rfl,
  fun l0 l1 l2 l3 E u => q_ret (by decide +kernel : am_Pg 208 610 = some (.ireturn, 1, [1], 0)) rfl⟩
theorem x_L_law_611 :
  (∀ (l0 l2 l3 : am_V) (a : Option Nat) (st : List am_V) (E : am_E) (u : am_M), Rn m_L_law 611 [l0, vR a, l2, l3] st E u = Rn m_L_law 612 [l0, vR a, l2, l3] (vR a :: st) E u) ∧
  (∀ (l0 l1 l2 l3 : am_V) (E : am_E) (u : am_M) (hE : SE E), Rn m_L_law 612 [l0, l1, l2, l3] [vR (some 0)] E u = bdI (Rn m_A_undo 0 [vR (some 0)] [] E u) (KI m_L_law 615 [l0, l1, l2, l3] [])) ∧
  (∀ (l0 l1 l3 : am_V) (a : Option Nat) (st : List am_V) (E : am_E) (u : am_M), Rn m_L_law 615 [l0, l1, vR a, l3] st E u = Rn m_L_law 616 [l0, l1, vR a, l3] (vR a :: st) E u) ∧
  (∀ (l0 l1 l2 l3 : am_V) (r0 : am_V) (E : am_E) (u : am_M) (hE : SE E), Rn m_L_law 616 [l0, l1, l2, l3] [vR (some 149), r0] E u = bdI (Rn m_M_undo 0 [vR (some 149), vB false, vB false] [] E u) (KI m_L_law 619 [l0, l1, l2, l3] [r0])) ∧
  (∀ (l0 l1 l2 l3 : am_V) (a b : Int) (st : List am_V) (E : am_E) (u : am_M), Rn m_L_law 619 [l0, l1, l2, l3] (vI b :: vI a :: st) E u = if a = b then Rn m_L_law 1449 [l0, l1, l2, l3] st E u else Rn m_L_law 622 [l0, l1, l2, l3] st E u) ∧
  (∀ (l0 l1 l2 l3 : am_V) (st : List am_V) (E : am_E) (u : am_M), Rn m_L_law 622 [l0, l1, l2, l3] st E u = Rn m_L_law 623 [l0, l1, l2, l3] (vI 0 :: st) E u) ∧
  (∀ (l0 l1 l2 l3 : am_V) (b : Bool) (E : am_E) (u : am_M), Rn m_L_law 623 [l0, l1, l2, l3] [vI (bI b)] E u = some (some (vI (bI b)), E, u)) ∧
  (∀ (l0 l1 l2 l3 : am_V) (E : am_E) (u : am_M), Rn m_L_law 623 [l0, l1, l2, l3] [vI 1] E u = some (some (vI 1), E, u)) ∧
  (∀ (l0 l1 l2 l3 : am_V) (E : am_E) (u : am_M), Rn m_L_law 623 [l0, l1, l2, l3] [vI 0] E u = some (some (vI 0), E, u)) :=
  ⟨fun l0 l2 l3 a st E u => q_go (by decide +kernel : am_Pg 208 611 = some (.aload_n 1, 1, [], 0)) rfl,
  fun l0 l1 l2 l3   E u hE => q_cI (by decide +kernel : am_Pg 208 612 = some (.invokevirtual 77, 3, [3, 128, 1, 4, 8, 0], 0)) (am_call_V (a := []) (st' := []) (Nat.le_of_ble_eq_true rfl) rfl (SE_k4 hE)) (by decide +kernel : am_Lm m_A_undo = 1) (Nat.le_of_ble_eq_true rfl) rfl (by decide +kernel),
  fun l0 l1 l3 a st E u => q_go (by decide +kernel : am_Pg 208 615 = some (.aload_n 2, 1, [], 0)) rfl,
  fun l0 l1 l2 l3  r0 E u hE => q_cI (by decide +kernel : am_Pg 208 616 = some (.invokevirtual 80, 3, [3, 129, 1, 5, 17, 0], 0)) (am_call_V (a := []) (st' := [r0]) (Nat.le_of_ble_eq_true rfl) rfl (SE_k5 hE)) (by decide +kernel : am_Lm m_M_undo = 3) (Nat.le_of_ble_eq_true rfl) rfl (by decide +kernel),
  fun l0 l1 l2 l3 a b st E u => q_icmp_eq (tgt := 1449) (by decide +kernel : am_Pg 208 619 = some (.if_icmp .eq 830, 3, [], 0)) (by decide),
  fun l0 l1 l2 l3 st E u => q_go (by decide +kernel : am_Pg 208 622 = some (.iconst 0, 1, [], 0)) rfl,
  fun l0 l1 l2 l3 b E u => by cases b <;> exact q_ret (by decide +kernel : am_Pg 208 623 = some (.ireturn, 1, [1], 0)) rfl,
  fun l0 l1 l2 l3 E u => q_ret (by decide +kernel : am_Pg 208 623 = some (.ireturn, 1, [1], 0)) rfl,
  fun l0 l1 l2 l3 E u => q_ret (by decide +kernel : am_Pg 208 623 = some (.ireturn, 1, [1], 0)) rfl⟩
theorem x_L_law_624 :
  (∀ (l0 l2 l3 : am_V) (a : Option Nat) (st : List am_V) (E : am_E) (u : am_M), Rn m_L_law 624 [l0, vR a, l2, l3] st E u = Rn m_L_law 625 [l0, vR a, l2, l3] (vR a :: st) E u) ∧
  (∀ (l1 l2 l3 : am_V) (st : List am_V) (E : am_E) (u : am_M), Rn m_L_law 625 [vB true, l1, l2, l3] st E u = Rn m_L_law 626 [vB true, l1, l2, l3] (vB true :: st) E u) ∧
  (∀ (l0 l1 l2 : am_V) (a : Int) (st : List am_V) (E : am_E) (u : am_M), Rn m_L_law 626 [l0, l1, l2, vI a] st E u = Rn m_L_law 627 [l0, l1, l2, vI a] (vI a :: st) E u) ∧
  (∀ (l0 l1 l2 l3 : am_V) (st : List am_V) (E : am_E) (u : am_M), Rn m_L_law 627 [l0, l1, l2, l3] st E u = Rn m_L_law 628 [l0, l1, l2, l3] (vI 1 :: st) E u) ∧
  (∀ (l0 l1 l2 l3 : am_V) (a b : Int) (st : List am_V) (E : am_E) (u : am_M), Rn m_L_law 628 [l0, l1, l2, l3] (vI b :: vI a :: st) E u = Rn m_L_law 629 [l0, l1, l2, l3] (vI (w32 (a + b)) :: st) E u) ∧
  (∀ (l0 l1 l2 l3 : am_V) (i : Int) (st : List am_V) (E : am_E) (u : am_M) (h0 : 0 ≤ i) (h1 : i < (E.2.2.1 : Int)), Rn m_L_law 629 [l0, l1, l2, l3] (vI i :: vB true :: st) E u = Rn m_L_law 630 [l0, l1, l2, l3] (vI (E.2.2.2 i.toNat) :: st) E u) ∧
  (∀ (l0 l1 l2 l3 : am_V) (a0 : Int) (E : am_E) (u : am_M) (hE : SE E), Rn m_L_law 630 [l0, l1, l2, l3] [vI a0, vR (some 0)] E u = bdI (Rn m_A_seed 0 [vR (some 0), vI a0, vB false] [] E u) (KI m_L_law 633 [l0, l1, l2, l3] [])) ∧
  (∀ (l0 l1 l3 : am_V) (a : Option Nat) (st : List am_V) (E : am_E) (u : am_M), Rn m_L_law 633 [l0, l1, vR a, l3] st E u = Rn m_L_law 634 [l0, l1, vR a, l3] (vR a :: st) E u) ∧
  (∀ (l1 l2 l3 : am_V) (st : List am_V) (E : am_E) (u : am_M), Rn m_L_law 634 [vB true, l1, l2, l3] st E u = Rn m_L_law 635 [vB true, l1, l2, l3] (vB true :: st) E u) ∧
  (∀ (l0 l1 l2 : am_V) (a : Int) (st : List am_V) (E : am_E) (u : am_M), Rn m_L_law 635 [l0, l1, l2, vI a] st E u = Rn m_L_law 636 [l0, l1, l2, vI a] (vI a :: st) E u) ∧
  (∀ (l0 l1 l2 l3 : am_V) (st : List am_V) (E : am_E) (u : am_M), Rn m_L_law 636 [l0, l1, l2, l3] st E u = Rn m_L_law 637 [l0, l1, l2, l3] (vI 1 :: st) E u) ∧
  (∀ (l0 l1 l2 l3 : am_V) (a b : Int) (st : List am_V) (E : am_E) (u : am_M), Rn m_L_law 637 [l0, l1, l2, l3] (vI b :: vI a :: st) E u = Rn m_L_law 638 [l0, l1, l2, l3] (vI (w32 (a + b)) :: st) E u) ∧
  (∀ (l0 l1 l2 l3 : am_V) (i : Int) (st : List am_V) (E : am_E) (u : am_M) (h0 : 0 ≤ i) (h1 : i < (E.2.2.1 : Int)), Rn m_L_law 638 [l0, l1, l2, l3] (vI i :: vB true :: st) E u = Rn m_L_law 639 [l0, l1, l2, l3] (vI (E.2.2.2 i.toNat) :: st) E u) ∧
  (∀ (l0 l1 l2 l3 : am_V) (a0 : Int) (r0 : am_V) (E : am_E) (u : am_M) (hE : SE E), Rn m_L_law 639 [l0, l1, l2, l3] [vI a0, vR (some 149), r0] E u = bdI (Rn m_M_seed 0 [vR (some 149), vI a0, vB false] [] E u) (KI m_L_law 642 [l0, l1, l2, l3] [r0])) ∧
  (∀ (l0 l1 l2 l3 : am_V) (a b : Int) (st : List am_V) (E : am_E) (u : am_M), Rn m_L_law 642 [l0, l1, l2, l3] (vI b :: vI a :: st) E u = if a = b then Rn m_L_law 1449 [l0, l1, l2, l3] st E u else Rn m_L_law 645 [l0, l1, l2, l3] st E u) ∧
  (∀ (l0 l1 l2 l3 : am_V) (st : List am_V) (E : am_E) (u : am_M), Rn m_L_law 645 [l0, l1, l2, l3] st E u = Rn m_L_law 646 [l0, l1, l2, l3] (vI 0 :: st) E u) ∧
  (∀ (l0 l1 l2 l3 : am_V) (b : Bool) (E : am_E) (u : am_M), Rn m_L_law 646 [l0, l1, l2, l3] [vI (bI b)] E u = some (some (vI (bI b)), E, u)) ∧
  (∀ (l0 l1 l2 l3 : am_V) (E : am_E) (u : am_M), Rn m_L_law 646 [l0, l1, l2, l3] [vI 1] E u = some (some (vI 1), E, u)) ∧
  (∀ (l0 l1 l2 l3 : am_V) (E : am_E) (u : am_M), Rn m_L_law 646 [l0, l1, l2, l3] [vI 0] E u = some (some (vI 0), E, u)) :=
  ⟨fun l0 l2 l3 a st E u => q_go (by decide +kernel : am_Pg 208 624 = some (.aload_n 1, 1, [], 0)) rfl,
  fun l1 l2 l3 st E u => q_go (by decide +kernel : am_Pg 208 625 = some (.aload_n 0, 1, [], 0)) rfl,
  fun l0 l1 l2 a st E u => q_go (by decide +kernel : am_Pg 208 626 = some (.iload_n 3, 1, [], 0)) rfl,
  fun l0 l1 l2 l3 st E u => q_go (by decide +kernel : am_Pg 208 627 = some (.iconst 1, 1, [], 0)) rfl,
  fun l0 l1 l2 l3 a b st E u => q_go (by decide +kernel : am_Pg 208 628 = some (.iadd, 1, [], 0)) rfl,
  fun l0 l1 l2 l3 i st E u h0 h1 => q_isc (by decide +kernel : am_Pg 208 629 = some (.iaload, 1, [], 0)) h0 h1,
  fun l0 l1 l2 l3 a0  E u hE => q_cI (by decide +kernel : am_Pg 208 630 = some (.invokevirtual 81, 3, [3, 130, 2, 4, 8, 0], 0)) (am_call_V (a := [vI a0]) (st' := []) (Nat.le_of_ble_eq_true rfl) rfl (SE_k4 hE)) (by decide +kernel : am_Lm m_A_seed = 3) (Nat.le_of_ble_eq_true rfl) rfl (by decide +kernel),
  fun l0 l1 l3 a st E u => q_go (by decide +kernel : am_Pg 208 633 = some (.aload_n 2, 1, [], 0)) rfl,
  fun l1 l2 l3 st E u => q_go (by decide +kernel : am_Pg 208 634 = some (.aload_n 0, 1, [], 0)) rfl,
  fun l0 l1 l2 a st E u => q_go (by decide +kernel : am_Pg 208 635 = some (.iload_n 3, 1, [], 0)) rfl,
  fun l0 l1 l2 l3 st E u => q_go (by decide +kernel : am_Pg 208 636 = some (.iconst 1, 1, [], 0)) rfl,
  fun l0 l1 l2 l3 a b st E u => q_go (by decide +kernel : am_Pg 208 637 = some (.iadd, 1, [], 0)) rfl,
  fun l0 l1 l2 l3 i st E u h0 h1 => q_isc (by decide +kernel : am_Pg 208 638 = some (.iaload, 1, [], 0)) h0 h1,
  fun l0 l1 l2 l3 a0 r0 E u hE => q_cI (by decide +kernel : am_Pg 208 639 = some (.invokevirtual 84, 3, [3, 131, 2, 5, 17, 0], 0)) (am_call_V (a := [vI a0]) (st' := [r0]) (Nat.le_of_ble_eq_true rfl) rfl (SE_k5 hE)) (by decide +kernel : am_Lm m_M_seed = 3) (Nat.le_of_ble_eq_true rfl) rfl (by decide +kernel),
  fun l0 l1 l2 l3 a b st E u => q_icmp_eq (tgt := 1449) (by decide +kernel : am_Pg 208 642 = some (.if_icmp .eq 807, 3, [], 0)) (by decide),
  fun l0 l1 l2 l3 st E u => q_go (by decide +kernel : am_Pg 208 645 = some (.iconst 0, 1, [], 0)) rfl,
  fun l0 l1 l2 l3 b E u => by cases b <;> exact q_ret (by decide +kernel : am_Pg 208 646 = some (.ireturn, 1, [1], 0)) rfl,
  fun l0 l1 l2 l3 E u => q_ret (by decide +kernel : am_Pg 208 646 = some (.ireturn, 1, [1], 0)) rfl,
  fun l0 l1 l2 l3 E u => q_ret (by decide +kernel : am_Pg 208 646 = some (.ireturn, 1, [1], 0)) rfl⟩
theorem x_L_law_647 :
  (∀ (l0 l2 l3 : am_V) (a : Option Nat) (st : List am_V) (E : am_E) (u : am_M), Rn m_L_law 647 [l0, vR a, l2, l3] st E u = Rn m_L_law 648 [l0, vR a, l2, l3] (vR a :: st) E u) ∧
  (∀ (l1 l2 l3 : am_V) (st : List am_V) (E : am_E) (u : am_M), Rn m_L_law 648 [vB true, l1, l2, l3] st E u = Rn m_L_law 649 [vB true, l1, l2, l3] (vB true :: st) E u) ∧
  (∀ (l0 l1 l2 : am_V) (a : Int) (st : List am_V) (E : am_E) (u : am_M), Rn m_L_law 649 [l0, l1, l2, vI a] st E u = Rn m_L_law 650 [l0, l1, l2, vI a] (vI a :: st) E u) ∧
  (∀ (l0 l1 l2 l3 : am_V) (st : List am_V) (E : am_E) (u : am_M), Rn m_L_law 650 [l0, l1, l2, l3] st E u = Rn m_L_law 651 [l0, l1, l2, l3] (vI 1 :: st) E u) ∧
  (∀ (l0 l1 l2 l3 : am_V) (a b : Int) (st : List am_V) (E : am_E) (u : am_M), Rn m_L_law 651 [l0, l1, l2, l3] (vI b :: vI a :: st) E u = Rn m_L_law 652 [l0, l1, l2, l3] (vI (w32 (a + b)) :: st) E u) ∧
  (∀ (l0 l1 l2 l3 : am_V) (i : Int) (st : List am_V) (E : am_E) (u : am_M) (h0 : 0 ≤ i) (h1 : i < (E.2.2.1 : Int)), Rn m_L_law 652 [l0, l1, l2, l3] (vI i :: vB true :: st) E u = Rn m_L_law 653 [l0, l1, l2, l3] (vI (E.2.2.2 i.toNat) :: st) E u) ∧
  (∀ (l1 l2 l3 : am_V) (st : List am_V) (E : am_E) (u : am_M), Rn m_L_law 653 [vB true, l1, l2, l3] st E u = Rn m_L_law 654 [vB true, l1, l2, l3] (vB true :: st) E u) ∧
  (∀ (l0 l1 l2 : am_V) (a : Int) (st : List am_V) (E : am_E) (u : am_M), Rn m_L_law 654 [l0, l1, l2, vI a] st E u = Rn m_L_law 655 [l0, l1, l2, vI a] (vI a :: st) E u) ∧
  (∀ (l0 l1 l2 l3 : am_V) (st : List am_V) (E : am_E) (u : am_M), Rn m_L_law 655 [l0, l1, l2, l3] st E u = Rn m_L_law 656 [l0, l1, l2, l3] (vI 2 :: st) E u) ∧
  (∀ (l0 l1 l2 l3 : am_V) (a b : Int) (st : List am_V) (E : am_E) (u : am_M), Rn m_L_law 656 [l0, l1, l2, l3] (vI b :: vI a :: st) E u = Rn m_L_law 657 [l0, l1, l2, l3] (vI (w32 (a + b)) :: st) E u) ∧
  (∀ (l0 l1 l2 l3 : am_V) (i : Int) (st : List am_V) (E : am_E) (u : am_M) (h0 : 0 ≤ i) (h1 : i < (E.2.2.1 : Int)), Rn m_L_law 657 [l0, l1, l2, l3] (vI i :: vB true :: st) E u = Rn m_L_law 658 [l0, l1, l2, l3] (vI (E.2.2.2 i.toNat) :: st) E u) ∧
  (∀ (l0 l1 l2 l3 : am_V) (a0 : Int) (a1 : Int) (E : am_E) (u : am_M) (hE : SE E), Rn m_L_law 658 [l0, l1, l2, l3] [vI a1, vI a0, vR (some 0)] E u = bdI (Rn m_A_ahead 0 [vR (some 0), vI a0, vI a1] [] E u) (KI m_L_law 661 [l0, l1, l2, l3] [])) ∧
  (∀ (l0 l1 l3 : am_V) (a : Option Nat) (st : List am_V) (E : am_E) (u : am_M), Rn m_L_law 661 [l0, l1, vR a, l3] st E u = Rn m_L_law 662 [l0, l1, vR a, l3] (vR a :: st) E u) ∧
  (∀ (l1 l2 l3 : am_V) (st : List am_V) (E : am_E) (u : am_M), Rn m_L_law 662 [vB true, l1, l2, l3] st E u = Rn m_L_law 663 [vB true, l1, l2, l3] (vB true :: st) E u) ∧
  (∀ (l0 l1 l2 : am_V) (a : Int) (st : List am_V) (E : am_E) (u : am_M), Rn m_L_law 663 [l0, l1, l2, vI a] st E u = Rn m_L_law 664 [l0, l1, l2, vI a] (vI a :: st) E u) ∧
  (∀ (l0 l1 l2 l3 : am_V) (st : List am_V) (E : am_E) (u : am_M), Rn m_L_law 664 [l0, l1, l2, l3] st E u = Rn m_L_law 665 [l0, l1, l2, l3] (vI 1 :: st) E u) ∧
  (∀ (l0 l1 l2 l3 : am_V) (a b : Int) (st : List am_V) (E : am_E) (u : am_M), Rn m_L_law 665 [l0, l1, l2, l3] (vI b :: vI a :: st) E u = Rn m_L_law 666 [l0, l1, l2, l3] (vI (w32 (a + b)) :: st) E u) ∧
  (∀ (l0 l1 l2 l3 : am_V) (i : Int) (st : List am_V) (E : am_E) (u : am_M) (h0 : 0 ≤ i) (h1 : i < (E.2.2.1 : Int)), Rn m_L_law 666 [l0, l1, l2, l3] (vI i :: vB true :: st) E u = Rn m_L_law 667 [l0, l1, l2, l3] (vI (E.2.2.2 i.toNat) :: st) E u) ∧
  (∀ (l1 l2 l3 : am_V) (st : List am_V) (E : am_E) (u : am_M), Rn m_L_law 667 [vB true, l1, l2, l3] st E u = Rn m_L_law 668 [vB true, l1, l2, l3] (vB true :: st) E u) ∧
  (∀ (l0 l1 l2 : am_V) (a : Int) (st : List am_V) (E : am_E) (u : am_M), Rn m_L_law 668 [l0, l1, l2, vI a] st E u = Rn m_L_law 669 [l0, l1, l2, vI a] (vI a :: st) E u) ∧
  (∀ (l0 l1 l2 l3 : am_V) (st : List am_V) (E : am_E) (u : am_M), Rn m_L_law 669 [l0, l1, l2, l3] st E u = Rn m_L_law 670 [l0, l1, l2, l3] (vI 2 :: st) E u) ∧
  (∀ (l0 l1 l2 l3 : am_V) (a b : Int) (st : List am_V) (E : am_E) (u : am_M), Rn m_L_law 670 [l0, l1, l2, l3] (vI b :: vI a :: st) E u = Rn m_L_law 671 [l0, l1, l2, l3] (vI (w32 (a + b)) :: st) E u) ∧
  (∀ (l0 l1 l2 l3 : am_V) (i : Int) (st : List am_V) (E : am_E) (u : am_M) (h0 : 0 ≤ i) (h1 : i < (E.2.2.1 : Int)), Rn m_L_law 671 [l0, l1, l2, l3] (vI i :: vB true :: st) E u = Rn m_L_law 672 [l0, l1, l2, l3] (vI (E.2.2.2 i.toNat) :: st) E u) ∧
  (∀ (l0 l1 l2 l3 : am_V) (a0 : Int) (a1 : Int) (r0 : am_V) (E : am_E) (u : am_M) (hE : SE E), Rn m_L_law 672 [l0, l1, l2, l3] [vI a1, vI a0, vR (some 149), r0] E u = bdI (Rn m_M_ahead 0 [vR (some 149), vI a0, vI a1, vB false] [] E u) (KI m_L_law 675 [l0, l1, l2, l3] [r0])) ∧
  (∀ (l0 l1 l2 l3 : am_V) (a b : Int) (st : List am_V) (E : am_E) (u : am_M), Rn m_L_law 675 [l0, l1, l2, l3] (vI b :: vI a :: st) E u = if a = b then Rn m_L_law 1449 [l0, l1, l2, l3] st E u else Rn m_L_law 678 [l0, l1, l2, l3] st E u) ∧
  (∀ (l0 l1 l2 l3 : am_V) (st : List am_V) (E : am_E) (u : am_M), Rn m_L_law 678 [l0, l1, l2, l3] st E u = Rn m_L_law 679 [l0, l1, l2, l3] (vI 0 :: st) E u) ∧
  (∀ (l0 l1 l2 l3 : am_V) (b : Bool) (E : am_E) (u : am_M), Rn m_L_law 679 [l0, l1, l2, l3] [vI (bI b)] E u = some (some (vI (bI b)), E, u)) ∧
  (∀ (l0 l1 l2 l3 : am_V) (E : am_E) (u : am_M), Rn m_L_law 679 [l0, l1, l2, l3] [vI 1] E u = some (some (vI 1), E, u)) ∧
  (∀ (l0 l1 l2 l3 : am_V) (E : am_E) (u : am_M), Rn m_L_law 679 [l0, l1, l2, l3] [vI 0] E u = some (some (vI 0), E, u)) :=
  ⟨fun l0 l2 l3 a st E u => q_go (by decide +kernel : am_Pg 208 647 = some (.aload_n 1, 1, [], 0)) rfl,
  fun l1 l2 l3 st E u => q_go (by decide +kernel : am_Pg 208 648 = some (.aload_n 0, 1, [], 0)) rfl,
  fun l0 l1 l2 a st E u => q_go (by decide +kernel : am_Pg 208 649 = some (.iload_n 3, 1, [], 0)) rfl,
  fun l0 l1 l2 l3 st E u => q_go (by decide +kernel : am_Pg 208 650 = some (.iconst 1, 1, [], 0)) rfl,
  fun l0 l1 l2 l3 a b st E u => q_go (by decide +kernel : am_Pg 208 651 = some (.iadd, 1, [], 0)) rfl,
  fun l0 l1 l2 l3 i st E u h0 h1 => q_isc (by decide +kernel : am_Pg 208 652 = some (.iaload, 1, [], 0)) h0 h1,
  fun l1 l2 l3 st E u => q_go (by decide +kernel : am_Pg 208 653 = some (.aload_n 0, 1, [], 0)) rfl,
  fun l0 l1 l2 a st E u => q_go (by decide +kernel : am_Pg 208 654 = some (.iload_n 3, 1, [], 0)) rfl,
  fun l0 l1 l2 l3 st E u => q_go (by decide +kernel : am_Pg 208 655 = some (.iconst 2, 1, [], 0)) rfl,
  fun l0 l1 l2 l3 a b st E u => q_go (by decide +kernel : am_Pg 208 656 = some (.iadd, 1, [], 0)) rfl,
  fun l0 l1 l2 l3 i st E u h0 h1 => q_isc (by decide +kernel : am_Pg 208 657 = some (.iaload, 1, [], 0)) h0 h1,
  fun l0 l1 l2 l3 a0 a1  E u hE => q_cI (by decide +kernel : am_Pg 208 658 = some (.invokevirtual 85, 3, [3, 133, 3, 4, 8, 0], 0)) (am_call_V (a := [vI a0, vI a1]) (st' := []) (Nat.le_of_ble_eq_true rfl) rfl (SE_k4 hE)) (by decide +kernel : am_Lm m_A_ahead = 3) (Nat.le_of_ble_eq_true rfl) rfl (by decide +kernel),
  fun l0 l1 l3 a st E u => q_go (by decide +kernel : am_Pg 208 661 = some (.aload_n 2, 1, [], 0)) rfl,
  fun l1 l2 l3 st E u => q_go (by decide +kernel : am_Pg 208 662 = some (.aload_n 0, 1, [], 0)) rfl,
  fun l0 l1 l2 a st E u => q_go (by decide +kernel : am_Pg 208 663 = some (.iload_n 3, 1, [], 0)) rfl,
  fun l0 l1 l2 l3 st E u => q_go (by decide +kernel : am_Pg 208 664 = some (.iconst 1, 1, [], 0)) rfl,
  fun l0 l1 l2 l3 a b st E u => q_go (by decide +kernel : am_Pg 208 665 = some (.iadd, 1, [], 0)) rfl,
  fun l0 l1 l2 l3 i st E u h0 h1 => q_isc (by decide +kernel : am_Pg 208 666 = some (.iaload, 1, [], 0)) h0 h1,
  fun l1 l2 l3 st E u => q_go (by decide +kernel : am_Pg 208 667 = some (.aload_n 0, 1, [], 0)) rfl,
  fun l0 l1 l2 a st E u => q_go (by decide +kernel : am_Pg 208 668 = some (.iload_n 3, 1, [], 0)) rfl,
  fun l0 l1 l2 l3 st E u => q_go (by decide +kernel : am_Pg 208 669 = some (.iconst 2, 1, [], 0)) rfl,
  fun l0 l1 l2 l3 a b st E u => q_go (by decide +kernel : am_Pg 208 670 = some (.iadd, 1, [], 0)) rfl,
  fun l0 l1 l2 l3 i st E u h0 h1 => q_isc (by decide +kernel : am_Pg 208 671 = some (.iaload, 1, [], 0)) h0 h1,
  fun l0 l1 l2 l3 a0 a1 r0 E u hE => q_cI (by decide +kernel : am_Pg 208 672 = some (.invokevirtual 88, 3, [3, 137, 3, 5, 17, 0], 0)) (am_call_V (a := [vI a0, vI a1]) (st' := [r0]) (Nat.le_of_ble_eq_true rfl) rfl (SE_k5 hE)) (by decide +kernel : am_Lm m_M_ahead = 4) (Nat.le_of_ble_eq_true rfl) rfl (by decide +kernel),
  fun l0 l1 l2 l3 a b st E u => q_icmp_eq (tgt := 1449) (by decide +kernel : am_Pg 208 675 = some (.if_icmp .eq 774, 3, [], 0)) (by decide),
  fun l0 l1 l2 l3 st E u => q_go (by decide +kernel : am_Pg 208 678 = some (.iconst 0, 1, [], 0)) rfl,
  fun l0 l1 l2 l3 b E u => by cases b <;> exact q_ret (by decide +kernel : am_Pg 208 679 = some (.ireturn, 1, [1], 0)) rfl,
  fun l0 l1 l2 l3 E u => q_ret (by decide +kernel : am_Pg 208 679 = some (.ireturn, 1, [1], 0)) rfl,
  fun l0 l1 l2 l3 E u => q_ret (by decide +kernel : am_Pg 208 679 = some (.ireturn, 1, [1], 0)) rfl⟩
theorem x_L_law_680 :
  (∀ (l0 l2 l3 : am_V) (a : Option Nat) (st : List am_V) (E : am_E) (u : am_M), Rn m_L_law 680 [l0, vR a, l2, l3] st E u = Rn m_L_law 681 [l0, vR a, l2, l3] (vR a :: st) E u) ∧
  (∀ (l1 l2 l3 : am_V) (st : List am_V) (E : am_E) (u : am_M), Rn m_L_law 681 [vB true, l1, l2, l3] st E u = Rn m_L_law 682 [vB true, l1, l2, l3] (vB true :: st) E u) ∧
  (∀ (l0 l1 l2 : am_V) (a : Int) (st : List am_V) (E : am_E) (u : am_M), Rn m_L_law 682 [l0, l1, l2, vI a] st E u = Rn m_L_law 683 [l0, l1, l2, vI a] (vI a :: st) E u) ∧
  (∀ (l0 l1 l2 l3 : am_V) (st : List am_V) (E : am_E) (u : am_M), Rn m_L_law 683 [l0, l1, l2, l3] st E u = Rn m_L_law 684 [l0, l1, l2, l3] (vI 1 :: st) E u) ∧
  (∀ (l0 l1 l2 l3 : am_V) (a b : Int) (st : List am_V) (E : am_E) (u : am_M), Rn m_L_law 684 [l0, l1, l2, l3] (vI b :: vI a :: st) E u = Rn m_L_law 685 [l0, l1, l2, l3] (vI (w32 (a + b)) :: st) E u) ∧
  (∀ (l0 l1 l2 l3 : am_V) (i : Int) (st : List am_V) (E : am_E) (u : am_M) (h0 : 0 ≤ i) (h1 : i < (E.2.2.1 : Int)), Rn m_L_law 685 [l0, l1, l2, l3] (vI i :: vB true :: st) E u = Rn m_L_law 686 [l0, l1, l2, l3] (vI (E.2.2.2 i.toNat) :: st) E u) ∧
  (∀ (l0 l1 l2 l3 : am_V) (a0 : Int) (E : am_E) (u : am_M) (hE : SE E), Rn m_L_law 686 [l0, l1, l2, l3] [vI a0, vR (some 0)] E u = bdI (Rn m_A_holes 0 [vR (some 0), vI a0] [] E u) (KI m_L_law 689 [l0, l1, l2, l3] [])) ∧
  (∀ (l0 l1 l3 : am_V) (a : Option Nat) (st : List am_V) (E : am_E) (u : am_M), Rn m_L_law 689 [l0, l1, vR a, l3] st E u = Rn m_L_law 690 [l0, l1, vR a, l3] (vR a :: st) E u) ∧
  (∀ (l1 l2 l3 : am_V) (st : List am_V) (E : am_E) (u : am_M), Rn m_L_law 690 [vB true, l1, l2, l3] st E u = Rn m_L_law 691 [vB true, l1, l2, l3] (vB true :: st) E u) ∧
  (∀ (l0 l1 l2 : am_V) (a : Int) (st : List am_V) (E : am_E) (u : am_M), Rn m_L_law 691 [l0, l1, l2, vI a] st E u = Rn m_L_law 692 [l0, l1, l2, vI a] (vI a :: st) E u) ∧
  (∀ (l0 l1 l2 l3 : am_V) (st : List am_V) (E : am_E) (u : am_M), Rn m_L_law 692 [l0, l1, l2, l3] st E u = Rn m_L_law 693 [l0, l1, l2, l3] (vI 1 :: st) E u) ∧
  (∀ (l0 l1 l2 l3 : am_V) (a b : Int) (st : List am_V) (E : am_E) (u : am_M), Rn m_L_law 693 [l0, l1, l2, l3] (vI b :: vI a :: st) E u = Rn m_L_law 694 [l0, l1, l2, l3] (vI (w32 (a + b)) :: st) E u) ∧
  (∀ (l0 l1 l2 l3 : am_V) (i : Int) (st : List am_V) (E : am_E) (u : am_M) (h0 : 0 ≤ i) (h1 : i < (E.2.2.1 : Int)), Rn m_L_law 694 [l0, l1, l2, l3] (vI i :: vB true :: st) E u = Rn m_L_law 695 [l0, l1, l2, l3] (vI (E.2.2.2 i.toNat) :: st) E u) ∧
  (∀ (l0 l1 l2 l3 : am_V) (a0 : Int) (r0 : am_V) (E : am_E) (u : am_M) (hE : SE E), Rn m_L_law 695 [l0, l1, l2, l3] [vI a0, vR (some 149), r0] E u = bdI (Rn m_M_holes 0 [vR (some 149), vI a0, vB false] [] E u) (KI m_L_law 698 [l0, l1, l2, l3] [r0])) ∧
  (∀ (l0 l1 l2 l3 : am_V) (a b : Int) (st : List am_V) (E : am_E) (u : am_M), Rn m_L_law 698 [l0, l1, l2, l3] (vI b :: vI a :: st) E u = if a = b then Rn m_L_law 1449 [l0, l1, l2, l3] st E u else Rn m_L_law 701 [l0, l1, l2, l3] st E u) ∧
  (∀ (l0 l1 l2 l3 : am_V) (st : List am_V) (E : am_E) (u : am_M), Rn m_L_law 701 [l0, l1, l2, l3] st E u = Rn m_L_law 702 [l0, l1, l2, l3] (vI 0 :: st) E u) ∧
  (∀ (l0 l1 l2 l3 : am_V) (b : Bool) (E : am_E) (u : am_M), Rn m_L_law 702 [l0, l1, l2, l3] [vI (bI b)] E u = some (some (vI (bI b)), E, u)) ∧
  (∀ (l0 l1 l2 l3 : am_V) (E : am_E) (u : am_M), Rn m_L_law 702 [l0, l1, l2, l3] [vI 1] E u = some (some (vI 1), E, u)) ∧
  (∀ (l0 l1 l2 l3 : am_V) (E : am_E) (u : am_M), Rn m_L_law 702 [l0, l1, l2, l3] [vI 0] E u = some (some (vI 0), E, u)) :=
  ⟨fun l0 l2 l3 a st E u => q_go (by decide +kernel : am_Pg 208 680 = some (.aload_n 1, 1, [], 0)) rfl,
  fun l1 l2 l3 st E u => q_go (by decide +kernel : am_Pg 208 681 = some (.aload_n 0, 1, [], 0)) rfl,
  fun l0 l1 l2 a st E u => q_go (by decide +kernel : am_Pg 208 682 = some (.iload_n 3, 1, [], 0)) rfl,
  fun l0 l1 l2 l3 st E u => q_go (by decide +kernel : am_Pg 208 683 = some (.iconst 1, 1, [], 0)) rfl,
  fun l0 l1 l2 l3 a b st E u => q_go (by decide +kernel : am_Pg 208 684 = some (.iadd, 1, [], 0)) rfl,
  fun l0 l1 l2 l3 i st E u h0 h1 => q_isc (by decide +kernel : am_Pg 208 685 = some (.iaload, 1, [], 0)) h0 h1,
  fun l0 l1 l2 l3 a0  E u hE => q_cI (by decide +kernel : am_Pg 208 686 = some (.invokevirtual 89, 3, [3, 138, 2, 4, 8, 0], 0)) (am_call_V (a := [vI a0]) (st' := []) (Nat.le_of_ble_eq_true rfl) rfl (SE_k4 hE)) (by decide +kernel : am_Lm m_A_holes = 2) (Nat.le_of_ble_eq_true rfl) rfl (by decide +kernel),
  fun l0 l1 l3 a st E u => q_go (by decide +kernel : am_Pg 208 689 = some (.aload_n 2, 1, [], 0)) rfl,
  fun l1 l2 l3 st E u => q_go (by decide +kernel : am_Pg 208 690 = some (.aload_n 0, 1, [], 0)) rfl,
  fun l0 l1 l2 a st E u => q_go (by decide +kernel : am_Pg 208 691 = some (.iload_n 3, 1, [], 0)) rfl,
  fun l0 l1 l2 l3 st E u => q_go (by decide +kernel : am_Pg 208 692 = some (.iconst 1, 1, [], 0)) rfl,
  fun l0 l1 l2 l3 a b st E u => q_go (by decide +kernel : am_Pg 208 693 = some (.iadd, 1, [], 0)) rfl,
  fun l0 l1 l2 l3 i st E u h0 h1 => q_isc (by decide +kernel : am_Pg 208 694 = some (.iaload, 1, [], 0)) h0 h1,
  fun l0 l1 l2 l3 a0 r0 E u hE => q_cI (by decide +kernel : am_Pg 208 695 = some (.invokevirtual 92, 3, [3, 139, 2, 5, 17, 0], 0)) (am_call_V (a := [vI a0]) (st' := [r0]) (Nat.le_of_ble_eq_true rfl) rfl (SE_k5 hE)) (by decide +kernel : am_Lm m_M_holes = 3) (Nat.le_of_ble_eq_true rfl) rfl (by decide +kernel),
  fun l0 l1 l2 l3 a b st E u => q_icmp_eq (tgt := 1449) (by decide +kernel : am_Pg 208 698 = some (.if_icmp .eq 751, 3, [], 0)) (by decide),
  fun l0 l1 l2 l3 st E u => q_go (by decide +kernel : am_Pg 208 701 = some (.iconst 0, 1, [], 0)) rfl,
  fun l0 l1 l2 l3 b E u => by cases b <;> exact q_ret (by decide +kernel : am_Pg 208 702 = some (.ireturn, 1, [1], 0)) rfl,
  fun l0 l1 l2 l3 E u => q_ret (by decide +kernel : am_Pg 208 702 = some (.ireturn, 1, [1], 0)) rfl,
  fun l0 l1 l2 l3 E u => q_ret (by decide +kernel : am_Pg 208 702 = some (.ireturn, 1, [1], 0)) rfl⟩
theorem x_L_law_703 :
  (∀ (l0 l2 l3 : am_V) (a : Option Nat) (st : List am_V) (E : am_E) (u : am_M), Rn m_L_law 703 [l0, vR a, l2, l3] st E u = Rn m_L_law 704 [l0, vR a, l2, l3] (vR a :: st) E u) ∧
  (∀ (l1 l2 l3 : am_V) (st : List am_V) (E : am_E) (u : am_M), Rn m_L_law 704 [vB true, l1, l2, l3] st E u = Rn m_L_law 705 [vB true, l1, l2, l3] (vB true :: st) E u) ∧
  (∀ (l0 l1 l2 : am_V) (a : Int) (st : List am_V) (E : am_E) (u : am_M), Rn m_L_law 705 [l0, l1, l2, vI a] st E u = Rn m_L_law 706 [l0, l1, l2, vI a] (vI a :: st) E u) ∧
  (∀ (l0 l1 l2 l3 : am_V) (st : List am_V) (E : am_E) (u : am_M), Rn m_L_law 706 [l0, l1, l2, l3] st E u = Rn m_L_law 707 [l0, l1, l2, l3] (vI 1 :: st) E u) ∧
  (∀ (l0 l1 l2 l3 : am_V) (a b : Int) (st : List am_V) (E : am_E) (u : am_M), Rn m_L_law 707 [l0, l1, l2, l3] (vI b :: vI a :: st) E u = Rn m_L_law 708 [l0, l1, l2, l3] (vI (w32 (a + b)) :: st) E u) ∧
  (∀ (l0 l1 l2 l3 : am_V) (i : Int) (st : List am_V) (E : am_E) (u : am_M) (h0 : 0 ≤ i) (h1 : i < (E.2.2.1 : Int)), Rn m_L_law 708 [l0, l1, l2, l3] (vI i :: vB true :: st) E u = Rn m_L_law 709 [l0, l1, l2, l3] (vI (E.2.2.2 i.toNat) :: st) E u) ∧
  (∀ (l1 l2 l3 : am_V) (st : List am_V) (E : am_E) (u : am_M), Rn m_L_law 709 [vB true, l1, l2, l3] st E u = Rn m_L_law 710 [vB true, l1, l2, l3] (vB true :: st) E u) ∧
  (∀ (l0 l1 l2 : am_V) (a : Int) (st : List am_V) (E : am_E) (u : am_M), Rn m_L_law 710 [l0, l1, l2, vI a] st E u = Rn m_L_law 711 [l0, l1, l2, vI a] (vI a :: st) E u) ∧
  (∀ (l0 l1 l2 l3 : am_V) (st : List am_V) (E : am_E) (u : am_M), Rn m_L_law 711 [l0, l1, l2, l3] st E u = Rn m_L_law 712 [l0, l1, l2, l3] (vI 2 :: st) E u) ∧
  (∀ (l0 l1 l2 l3 : am_V) (a b : Int) (st : List am_V) (E : am_E) (u : am_M), Rn m_L_law 712 [l0, l1, l2, l3] (vI b :: vI a :: st) E u = Rn m_L_law 713 [l0, l1, l2, l3] (vI (w32 (a + b)) :: st) E u) ∧
  (∀ (l0 l1 l2 l3 : am_V) (i : Int) (st : List am_V) (E : am_E) (u : am_M) (h0 : 0 ≤ i) (h1 : i < (E.2.2.1 : Int)), Rn m_L_law 713 [l0, l1, l2, l3] (vI i :: vB true :: st) E u = Rn m_L_law 714 [l0, l1, l2, l3] (vI (E.2.2.2 i.toNat) :: st) E u) ∧
  (∀ (l0 l1 l2 l3 : am_V) (a0 : Int) (a1 : Int) (E : am_E) (u : am_M) (hE : SE E), Rn m_L_law 714 [l0, l1, l2, l3] [vI a1, vI a0, vR (some 0)] E u = bdI (Rn m_A_comes 0 [vR (some 0), vI a0, vI a1] [] E u) (KI m_L_law 717 [l0, l1, l2, l3] [])) ∧
  (∀ (l0 l1 l3 : am_V) (a : Option Nat) (st : List am_V) (E : am_E) (u : am_M), Rn m_L_law 717 [l0, l1, vR a, l3] st E u = Rn m_L_law 718 [l0, l1, vR a, l3] (vR a :: st) E u) ∧
  (∀ (l1 l2 l3 : am_V) (st : List am_V) (E : am_E) (u : am_M), Rn m_L_law 718 [vB true, l1, l2, l3] st E u = Rn m_L_law 719 [vB true, l1, l2, l3] (vB true :: st) E u) ∧
  (∀ (l0 l1 l2 : am_V) (a : Int) (st : List am_V) (E : am_E) (u : am_M), Rn m_L_law 719 [l0, l1, l2, vI a] st E u = Rn m_L_law 720 [l0, l1, l2, vI a] (vI a :: st) E u) ∧
  (∀ (l0 l1 l2 l3 : am_V) (st : List am_V) (E : am_E) (u : am_M), Rn m_L_law 720 [l0, l1, l2, l3] st E u = Rn m_L_law 721 [l0, l1, l2, l3] (vI 1 :: st) E u) ∧
  (∀ (l0 l1 l2 l3 : am_V) (a b : Int) (st : List am_V) (E : am_E) (u : am_M), Rn m_L_law 721 [l0, l1, l2, l3] (vI b :: vI a :: st) E u = Rn m_L_law 722 [l0, l1, l2, l3] (vI (w32 (a + b)) :: st) E u) ∧
  (∀ (l0 l1 l2 l3 : am_V) (i : Int) (st : List am_V) (E : am_E) (u : am_M) (h0 : 0 ≤ i) (h1 : i < (E.2.2.1 : Int)), Rn m_L_law 722 [l0, l1, l2, l3] (vI i :: vB true :: st) E u = Rn m_L_law 723 [l0, l1, l2, l3] (vI (E.2.2.2 i.toNat) :: st) E u) ∧
  (∀ (l1 l2 l3 : am_V) (st : List am_V) (E : am_E) (u : am_M), Rn m_L_law 723 [vB true, l1, l2, l3] st E u = Rn m_L_law 724 [vB true, l1, l2, l3] (vB true :: st) E u) ∧
  (∀ (l0 l1 l2 : am_V) (a : Int) (st : List am_V) (E : am_E) (u : am_M), Rn m_L_law 724 [l0, l1, l2, vI a] st E u = Rn m_L_law 725 [l0, l1, l2, vI a] (vI a :: st) E u) ∧
  (∀ (l0 l1 l2 l3 : am_V) (st : List am_V) (E : am_E) (u : am_M), Rn m_L_law 725 [l0, l1, l2, l3] st E u = Rn m_L_law 726 [l0, l1, l2, l3] (vI 2 :: st) E u) ∧
  (∀ (l0 l1 l2 l3 : am_V) (a b : Int) (st : List am_V) (E : am_E) (u : am_M), Rn m_L_law 726 [l0, l1, l2, l3] (vI b :: vI a :: st) E u = Rn m_L_law 727 [l0, l1, l2, l3] (vI (w32 (a + b)) :: st) E u) ∧
  (∀ (l0 l1 l2 l3 : am_V) (i : Int) (st : List am_V) (E : am_E) (u : am_M) (h0 : 0 ≤ i) (h1 : i < (E.2.2.1 : Int)), Rn m_L_law 727 [l0, l1, l2, l3] (vI i :: vB true :: st) E u = Rn m_L_law 728 [l0, l1, l2, l3] (vI (E.2.2.2 i.toNat) :: st) E u) ∧
  (∀ (l0 l1 l2 l3 : am_V) (a0 : Int) (a1 : Int) (r0 : am_V) (E : am_E) (u : am_M) (hE : SE E), Rn m_L_law 728 [l0, l1, l2, l3] [vI a1, vI a0, vR (some 149), r0] E u = bdI (Rn m_M_comes 0 [vR (some 149), vI a0, vI a1, vB false] [] E u) (KI m_L_law 731 [l0, l1, l2, l3] [r0])) ∧
  (∀ (l0 l1 l2 l3 : am_V) (a b : Int) (st : List am_V) (E : am_E) (u : am_M), Rn m_L_law 731 [l0, l1, l2, l3] (vI b :: vI a :: st) E u = if a = b then Rn m_L_law 1449 [l0, l1, l2, l3] st E u else Rn m_L_law 734 [l0, l1, l2, l3] st E u) ∧
  (∀ (l0 l1 l2 l3 : am_V) (st : List am_V) (E : am_E) (u : am_M), Rn m_L_law 734 [l0, l1, l2, l3] st E u = Rn m_L_law 735 [l0, l1, l2, l3] (vI 0 :: st) E u) ∧
  (∀ (l0 l1 l2 l3 : am_V) (b : Bool) (E : am_E) (u : am_M), Rn m_L_law 735 [l0, l1, l2, l3] [vI (bI b)] E u = some (some (vI (bI b)), E, u)) ∧
  (∀ (l0 l1 l2 l3 : am_V) (E : am_E) (u : am_M), Rn m_L_law 735 [l0, l1, l2, l3] [vI 1] E u = some (some (vI 1), E, u)) ∧
  (∀ (l0 l1 l2 l3 : am_V) (E : am_E) (u : am_M), Rn m_L_law 735 [l0, l1, l2, l3] [vI 0] E u = some (some (vI 0), E, u)) :=
  ⟨fun l0 l2 l3 a st E u => q_go (by decide +kernel : am_Pg 208 703 = some (.aload_n 1, 1, [], 0)) rfl,
  fun l1 l2 l3 st E u => q_go (by decide +kernel : am_Pg 208 704 = some (.aload_n 0, 1, [], 0)) rfl,
  fun l0 l1 l2 a st E u => q_go (by decide +kernel : am_Pg 208 705 = some (.iload_n 3, 1, [], 0)) rfl,
  fun l0 l1 l2 l3 st E u => q_go (by decide +kernel : am_Pg 208 706 = some (.iconst 1, 1, [], 0)) rfl,
  fun l0 l1 l2 l3 a b st E u => q_go (by decide +kernel : am_Pg 208 707 = some (.iadd, 1, [], 0)) rfl,
  fun l0 l1 l2 l3 i st E u h0 h1 => q_isc (by decide +kernel : am_Pg 208 708 = some (.iaload, 1, [], 0)) h0 h1,
  fun l1 l2 l3 st E u => q_go (by decide +kernel : am_Pg 208 709 = some (.aload_n 0, 1, [], 0)) rfl,
  fun l0 l1 l2 a st E u => q_go (by decide +kernel : am_Pg 208 710 = some (.iload_n 3, 1, [], 0)) rfl,
  fun l0 l1 l2 l3 st E u => q_go (by decide +kernel : am_Pg 208 711 = some (.iconst 2, 1, [], 0)) rfl,
  fun l0 l1 l2 l3 a b st E u => q_go (by decide +kernel : am_Pg 208 712 = some (.iadd, 1, [], 0)) rfl,
  fun l0 l1 l2 l3 i st E u h0 h1 => q_isc (by decide +kernel : am_Pg 208 713 = some (.iaload, 1, [], 0)) h0 h1,
  fun l0 l1 l2 l3 a0 a1  E u hE => q_cI (by decide +kernel : am_Pg 208 714 = some (.invokevirtual 93, 3, [3, 141, 3, 4, 8, 0], 0)) (am_call_V (a := [vI a0, vI a1]) (st' := []) (Nat.le_of_ble_eq_true rfl) rfl (SE_k4 hE)) (by decide +kernel : am_Lm m_A_comes = 3) (Nat.le_of_ble_eq_true rfl) rfl (by decide +kernel),
  fun l0 l1 l3 a st E u => q_go (by decide +kernel : am_Pg 208 717 = some (.aload_n 2, 1, [], 0)) rfl,
  fun l1 l2 l3 st E u => q_go (by decide +kernel : am_Pg 208 718 = some (.aload_n 0, 1, [], 0)) rfl,
  fun l0 l1 l2 a st E u => q_go (by decide +kernel : am_Pg 208 719 = some (.iload_n 3, 1, [], 0)) rfl,
  fun l0 l1 l2 l3 st E u => q_go (by decide +kernel : am_Pg 208 720 = some (.iconst 1, 1, [], 0)) rfl,
  fun l0 l1 l2 l3 a b st E u => q_go (by decide +kernel : am_Pg 208 721 = some (.iadd, 1, [], 0)) rfl,
  fun l0 l1 l2 l3 i st E u h0 h1 => q_isc (by decide +kernel : am_Pg 208 722 = some (.iaload, 1, [], 0)) h0 h1,
  fun l1 l2 l3 st E u => q_go (by decide +kernel : am_Pg 208 723 = some (.aload_n 0, 1, [], 0)) rfl,
  fun l0 l1 l2 a st E u => q_go (by decide +kernel : am_Pg 208 724 = some (.iload_n 3, 1, [], 0)) rfl,
  fun l0 l1 l2 l3 st E u => q_go (by decide +kernel : am_Pg 208 725 = some (.iconst 2, 1, [], 0)) rfl,
  fun l0 l1 l2 l3 a b st E u => q_go (by decide +kernel : am_Pg 208 726 = some (.iadd, 1, [], 0)) rfl,
  fun l0 l1 l2 l3 i st E u h0 h1 => q_isc (by decide +kernel : am_Pg 208 727 = some (.iaload, 1, [], 0)) h0 h1,
  fun l0 l1 l2 l3 a0 a1 r0 E u hE => q_cI (by decide +kernel : am_Pg 208 728 = some (.invokevirtual 96, 3, [3, 143, 3, 5, 17, 0], 0)) (am_call_V (a := [vI a0, vI a1]) (st' := [r0]) (Nat.le_of_ble_eq_true rfl) rfl (SE_k5 hE)) (by decide +kernel : am_Lm m_M_comes = 4) (Nat.le_of_ble_eq_true rfl) rfl (by decide +kernel),
  fun l0 l1 l2 l3 a b st E u => q_icmp_eq (tgt := 1449) (by decide +kernel : am_Pg 208 731 = some (.if_icmp .eq 718, 3, [], 0)) (by decide),
  fun l0 l1 l2 l3 st E u => q_go (by decide +kernel : am_Pg 208 734 = some (.iconst 0, 1, [], 0)) rfl,
  fun l0 l1 l2 l3 b E u => by cases b <;> exact q_ret (by decide +kernel : am_Pg 208 735 = some (.ireturn, 1, [1], 0)) rfl,
  fun l0 l1 l2 l3 E u => q_ret (by decide +kernel : am_Pg 208 735 = some (.ireturn, 1, [1], 0)) rfl,
  fun l0 l1 l2 l3 E u => q_ret (by decide +kernel : am_Pg 208 735 = some (.ireturn, 1, [1], 0)) rfl⟩
theorem x_L_law_736 :
  (∀ (l0 l2 l3 : am_V) (a : Option Nat) (st : List am_V) (E : am_E) (u : am_M), Rn m_L_law 736 [l0, vR a, l2, l3] st E u = Rn m_L_law 737 [l0, vR a, l2, l3] (vR a :: st) E u) ∧
  (∀ (l1 l2 l3 : am_V) (st : List am_V) (E : am_E) (u : am_M), Rn m_L_law 737 [vB true, l1, l2, l3] st E u = Rn m_L_law 738 [vB true, l1, l2, l3] (vB true :: st) E u) ∧
  (∀ (l0 l1 l2 : am_V) (a : Int) (st : List am_V) (E : am_E) (u : am_M), Rn m_L_law 738 [l0, l1, l2, vI a] st E u = Rn m_L_law 739 [l0, l1, l2, vI a] (vI a :: st) E u) ∧
  (∀ (l0 l1 l2 l3 : am_V) (st : List am_V) (E : am_E) (u : am_M), Rn m_L_law 739 [l0, l1, l2, l3] st E u = Rn m_L_law 740 [l0, l1, l2, l3] (vI 1 :: st) E u) ∧
  (∀ (l0 l1 l2 l3 : am_V) (a b : Int) (st : List am_V) (E : am_E) (u : am_M), Rn m_L_law 740 [l0, l1, l2, l3] (vI b :: vI a :: st) E u = Rn m_L_law 741 [l0, l1, l2, l3] (vI (w32 (a + b)) :: st) E u) ∧
  (∀ (l0 l1 l2 l3 : am_V) (i : Int) (st : List am_V) (E : am_E) (u : am_M) (h0 : 0 ≤ i) (h1 : i < (E.2.2.1 : Int)), Rn m_L_law 741 [l0, l1, l2, l3] (vI i :: vB true :: st) E u = Rn m_L_law 742 [l0, l1, l2, l3] (vI (E.2.2.2 i.toNat) :: st) E u) ∧
  (∀ (l1 l2 l3 : am_V) (st : List am_V) (E : am_E) (u : am_M), Rn m_L_law 742 [vB true, l1, l2, l3] st E u = Rn m_L_law 743 [vB true, l1, l2, l3] (vB true :: st) E u) ∧
  (∀ (l0 l1 l2 : am_V) (a : Int) (st : List am_V) (E : am_E) (u : am_M), Rn m_L_law 743 [l0, l1, l2, vI a] st E u = Rn m_L_law 744 [l0, l1, l2, vI a] (vI a :: st) E u) ∧
  (∀ (l0 l1 l2 l3 : am_V) (st : List am_V) (E : am_E) (u : am_M), Rn m_L_law 744 [l0, l1, l2, l3] st E u = Rn m_L_law 745 [l0, l1, l2, l3] (vI 2 :: st) E u) ∧
  (∀ (l0 l1 l2 l3 : am_V) (a b : Int) (st : List am_V) (E : am_E) (u : am_M), Rn m_L_law 745 [l0, l1, l2, l3] (vI b :: vI a :: st) E u = Rn m_L_law 746 [l0, l1, l2, l3] (vI (w32 (a + b)) :: st) E u) ∧
  (∀ (l0 l1 l2 l3 : am_V) (i : Int) (st : List am_V) (E : am_E) (u : am_M) (h0 : 0 ≤ i) (h1 : i < (E.2.2.1 : Int)), Rn m_L_law 746 [l0, l1, l2, l3] (vI i :: vB true :: st) E u = Rn m_L_law 747 [l0, l1, l2, l3] (vI (E.2.2.2 i.toNat) :: st) E u) ∧
  (∀ (l0 l1 l2 l3 : am_V) (a0 : Int) (a1 : Int) (E : am_E) (u : am_M) (hE : SE E), Rn m_L_law 747 [l0, l1, l2, l3] [vI a1, vI a0, vR (some 0)] E u = bdI (Rn m_A_side 0 [vR (some 0), vI a0, vI a1] [] E u) (KI m_L_law 750 [l0, l1, l2, l3] [])) ∧
  (∀ (l0 l1 l3 : am_V) (a : Option Nat) (st : List am_V) (E : am_E) (u : am_M), Rn m_L_law 750 [l0, l1, vR a, l3] st E u = Rn m_L_law 751 [l0, l1, vR a, l3] (vR a :: st) E u) ∧
  (∀ (l1 l2 l3 : am_V) (st : List am_V) (E : am_E) (u : am_M), Rn m_L_law 751 [vB true, l1, l2, l3] st E u = Rn m_L_law 752 [vB true, l1, l2, l3] (vB true :: st) E u) ∧
  (∀ (l0 l1 l2 : am_V) (a : Int) (st : List am_V) (E : am_E) (u : am_M), Rn m_L_law 752 [l0, l1, l2, vI a] st E u = Rn m_L_law 753 [l0, l1, l2, vI a] (vI a :: st) E u) ∧
  (∀ (l0 l1 l2 l3 : am_V) (st : List am_V) (E : am_E) (u : am_M), Rn m_L_law 753 [l0, l1, l2, l3] st E u = Rn m_L_law 754 [l0, l1, l2, l3] (vI 1 :: st) E u) ∧
  (∀ (l0 l1 l2 l3 : am_V) (a b : Int) (st : List am_V) (E : am_E) (u : am_M), Rn m_L_law 754 [l0, l1, l2, l3] (vI b :: vI a :: st) E u = Rn m_L_law 755 [l0, l1, l2, l3] (vI (w32 (a + b)) :: st) E u) ∧
  (∀ (l0 l1 l2 l3 : am_V) (i : Int) (st : List am_V) (E : am_E) (u : am_M) (h0 : 0 ≤ i) (h1 : i < (E.2.2.1 : Int)), Rn m_L_law 755 [l0, l1, l2, l3] (vI i :: vB true :: st) E u = Rn m_L_law 756 [l0, l1, l2, l3] (vI (E.2.2.2 i.toNat) :: st) E u) ∧
  (∀ (l1 l2 l3 : am_V) (st : List am_V) (E : am_E) (u : am_M), Rn m_L_law 756 [vB true, l1, l2, l3] st E u = Rn m_L_law 757 [vB true, l1, l2, l3] (vB true :: st) E u) ∧
  (∀ (l0 l1 l2 : am_V) (a : Int) (st : List am_V) (E : am_E) (u : am_M), Rn m_L_law 757 [l0, l1, l2, vI a] st E u = Rn m_L_law 758 [l0, l1, l2, vI a] (vI a :: st) E u) ∧
  (∀ (l0 l1 l2 l3 : am_V) (st : List am_V) (E : am_E) (u : am_M), Rn m_L_law 758 [l0, l1, l2, l3] st E u = Rn m_L_law 759 [l0, l1, l2, l3] (vI 2 :: st) E u) ∧
  (∀ (l0 l1 l2 l3 : am_V) (a b : Int) (st : List am_V) (E : am_E) (u : am_M), Rn m_L_law 759 [l0, l1, l2, l3] (vI b :: vI a :: st) E u = Rn m_L_law 760 [l0, l1, l2, l3] (vI (w32 (a + b)) :: st) E u) ∧
  (∀ (l0 l1 l2 l3 : am_V) (i : Int) (st : List am_V) (E : am_E) (u : am_M) (h0 : 0 ≤ i) (h1 : i < (E.2.2.1 : Int)), Rn m_L_law 760 [l0, l1, l2, l3] (vI i :: vB true :: st) E u = Rn m_L_law 761 [l0, l1, l2, l3] (vI (E.2.2.2 i.toNat) :: st) E u) ∧
  (∀ (l0 l1 l2 l3 : am_V) (a0 : Int) (a1 : Int) (r0 : am_V) (E : am_E) (u : am_M) (hE : SE E), Rn m_L_law 761 [l0, l1, l2, l3] [vI a1, vI a0, vR (some 149), r0] E u = bdI (Rn m_M_side 0 [vR (some 149), vI a0, vI a1, vB false] [] E u) (KI m_L_law 764 [l0, l1, l2, l3] [r0])) ∧
  (∀ (l0 l1 l2 l3 : am_V) (a b : Int) (st : List am_V) (E : am_E) (u : am_M), Rn m_L_law 764 [l0, l1, l2, l3] (vI b :: vI a :: st) E u = if a = b then Rn m_L_law 1449 [l0, l1, l2, l3] st E u else Rn m_L_law 767 [l0, l1, l2, l3] st E u) ∧
  (∀ (l0 l1 l2 l3 : am_V) (st : List am_V) (E : am_E) (u : am_M), Rn m_L_law 767 [l0, l1, l2, l3] st E u = Rn m_L_law 768 [l0, l1, l2, l3] (vI 0 :: st) E u) ∧
  (∀ (l0 l1 l2 l3 : am_V) (b : Bool) (E : am_E) (u : am_M), Rn m_L_law 768 [l0, l1, l2, l3] [vI (bI b)] E u = some (some (vI (bI b)), E, u)) ∧
  (∀ (l0 l1 l2 l3 : am_V) (E : am_E) (u : am_M), Rn m_L_law 768 [l0, l1, l2, l3] [vI 1] E u = some (some (vI 1), E, u)) ∧
  (∀ (l0 l1 l2 l3 : am_V) (E : am_E) (u : am_M), Rn m_L_law 768 [l0, l1, l2, l3] [vI 0] E u = some (some (vI 0), E, u)) :=
  ⟨fun l0 l2 l3 a st E u => q_go (by decide +kernel : am_Pg 208 736 = some (.aload_n 1, 1, [], 0)) rfl,
  fun l1 l2 l3 st E u => q_go (by decide +kernel : am_Pg 208 737 = some (.aload_n 0, 1, [], 0)) rfl,
  fun l0 l1 l2 a st E u => q_go (by decide +kernel : am_Pg 208 738 = some (.iload_n 3, 1, [], 0)) rfl,
  fun l0 l1 l2 l3 st E u => q_go (by decide +kernel : am_Pg 208 739 = some (.iconst 1, 1, [], 0)) rfl,
  fun l0 l1 l2 l3 a b st E u => q_go (by decide +kernel : am_Pg 208 740 = some (.iadd, 1, [], 0)) rfl,
  fun l0 l1 l2 l3 i st E u h0 h1 => q_isc (by decide +kernel : am_Pg 208 741 = some (.iaload, 1, [], 0)) h0 h1,
  fun l1 l2 l3 st E u => q_go (by decide +kernel : am_Pg 208 742 = some (.aload_n 0, 1, [], 0)) rfl,
  fun l0 l1 l2 a st E u => q_go (by decide +kernel : am_Pg 208 743 = some (.iload_n 3, 1, [], 0)) rfl,
  fun l0 l1 l2 l3 st E u => q_go (by decide +kernel : am_Pg 208 744 = some (.iconst 2, 1, [], 0)) rfl,
  fun l0 l1 l2 l3 a b st E u => q_go (by decide +kernel : am_Pg 208 745 = some (.iadd, 1, [], 0)) rfl,
  fun l0 l1 l2 l3 i st E u h0 h1 => q_isc (by decide +kernel : am_Pg 208 746 = some (.iaload, 1, [], 0)) h0 h1,
  fun l0 l1 l2 l3 a0 a1  E u hE => q_cI (by decide +kernel : am_Pg 208 747 = some (.invokevirtual 97, 3, [3, 145, 3, 4, 8, 0], 0)) (am_call_V (a := [vI a0, vI a1]) (st' := []) (Nat.le_of_ble_eq_true rfl) rfl (SE_k4 hE)) (by decide +kernel : am_Lm m_A_side = 3) (Nat.le_of_ble_eq_true rfl) rfl (by decide +kernel),
  fun l0 l1 l3 a st E u => q_go (by decide +kernel : am_Pg 208 750 = some (.aload_n 2, 1, [], 0)) rfl,
  fun l1 l2 l3 st E u => q_go (by decide +kernel : am_Pg 208 751 = some (.aload_n 0, 1, [], 0)) rfl,
  fun l0 l1 l2 a st E u => q_go (by decide +kernel : am_Pg 208 752 = some (.iload_n 3, 1, [], 0)) rfl,
  fun l0 l1 l2 l3 st E u => q_go (by decide +kernel : am_Pg 208 753 = some (.iconst 1, 1, [], 0)) rfl,
  fun l0 l1 l2 l3 a b st E u => q_go (by decide +kernel : am_Pg 208 754 = some (.iadd, 1, [], 0)) rfl,
  fun l0 l1 l2 l3 i st E u h0 h1 => q_isc (by decide +kernel : am_Pg 208 755 = some (.iaload, 1, [], 0)) h0 h1,
  fun l1 l2 l3 st E u => q_go (by decide +kernel : am_Pg 208 756 = some (.aload_n 0, 1, [], 0)) rfl,
  fun l0 l1 l2 a st E u => q_go (by decide +kernel : am_Pg 208 757 = some (.iload_n 3, 1, [], 0)) rfl,
  fun l0 l1 l2 l3 st E u => q_go (by decide +kernel : am_Pg 208 758 = some (.iconst 2, 1, [], 0)) rfl,
  fun l0 l1 l2 l3 a b st E u => q_go (by decide +kernel : am_Pg 208 759 = some (.iadd, 1, [], 0)) rfl,
  fun l0 l1 l2 l3 i st E u h0 h1 => q_isc (by decide +kernel : am_Pg 208 760 = some (.iaload, 1, [], 0)) h0 h1,
  fun l0 l1 l2 l3 a0 a1 r0 E u hE => q_cI (by decide +kernel : am_Pg 208 761 = some (.invokevirtual 100, 3, [3, 146, 3, 5, 17, 0], 0)) (am_call_V (a := [vI a0, vI a1]) (st' := [r0]) (Nat.le_of_ble_eq_true rfl) rfl (SE_k5 hE)) (by decide +kernel : am_Lm m_M_side = 4) (Nat.le_of_ble_eq_true rfl) rfl (by decide +kernel),
  fun l0 l1 l2 l3 a b st E u => q_icmp_eq (tgt := 1449) (by decide +kernel : am_Pg 208 764 = some (.if_icmp .eq 685, 3, [], 0)) (by decide),
  fun l0 l1 l2 l3 st E u => q_go (by decide +kernel : am_Pg 208 767 = some (.iconst 0, 1, [], 0)) rfl,
  fun l0 l1 l2 l3 b E u => by cases b <;> exact q_ret (by decide +kernel : am_Pg 208 768 = some (.ireturn, 1, [1], 0)) rfl,
  fun l0 l1 l2 l3 E u => q_ret (by decide +kernel : am_Pg 208 768 = some (.ireturn, 1, [1], 0)) rfl,
  fun l0 l1 l2 l3 E u => q_ret (by decide +kernel : am_Pg 208 768 = some (.ireturn, 1, [1], 0)) rfl⟩
theorem x_L_law_769 :
  (∀ (l0 l2 l3 : am_V) (a : Option Nat) (st : List am_V) (E : am_E) (u : am_M), Rn m_L_law 769 [l0, vR a, l2, l3] st E u = Rn m_L_law 770 [l0, vR a, l2, l3] (vR a :: st) E u) ∧
  (∀ (l1 l2 l3 : am_V) (st : List am_V) (E : am_E) (u : am_M), Rn m_L_law 770 [vB true, l1, l2, l3] st E u = Rn m_L_law 771 [vB true, l1, l2, l3] (vB true :: st) E u) ∧
  (∀ (l0 l1 l2 : am_V) (a : Int) (st : List am_V) (E : am_E) (u : am_M), Rn m_L_law 771 [l0, l1, l2, vI a] st E u = Rn m_L_law 772 [l0, l1, l2, vI a] (vI a :: st) E u) ∧
  (∀ (l0 l1 l2 l3 : am_V) (st : List am_V) (E : am_E) (u : am_M), Rn m_L_law 772 [l0, l1, l2, l3] st E u = Rn m_L_law 773 [l0, l1, l2, l3] (vI 1 :: st) E u) ∧
  (∀ (l0 l1 l2 l3 : am_V) (a b : Int) (st : List am_V) (E : am_E) (u : am_M), Rn m_L_law 773 [l0, l1, l2, l3] (vI b :: vI a :: st) E u = Rn m_L_law 774 [l0, l1, l2, l3] (vI (w32 (a + b)) :: st) E u) ∧
  (∀ (l0 l1 l2 l3 : am_V) (i : Int) (st : List am_V) (E : am_E) (u : am_M) (h0 : 0 ≤ i) (h1 : i < (E.2.2.1 : Int)), Rn m_L_law 774 [l0, l1, l2, l3] (vI i :: vB true :: st) E u = Rn m_L_law 775 [l0, l1, l2, l3] (vI (E.2.2.2 i.toNat) :: st) E u) ∧
  (∀ (l1 l2 l3 : am_V) (st : List am_V) (E : am_E) (u : am_M), Rn m_L_law 775 [vB true, l1, l2, l3] st E u = Rn m_L_law 776 [vB true, l1, l2, l3] (vB true :: st) E u) ∧
  (∀ (l0 l1 l2 : am_V) (a : Int) (st : List am_V) (E : am_E) (u : am_M), Rn m_L_law 776 [l0, l1, l2, vI a] st E u = Rn m_L_law 777 [l0, l1, l2, vI a] (vI a :: st) E u) ∧
  (∀ (l0 l1 l2 l3 : am_V) (st : List am_V) (E : am_E) (u : am_M), Rn m_L_law 777 [l0, l1, l2, l3] st E u = Rn m_L_law 778 [l0, l1, l2, l3] (vI 2 :: st) E u) ∧
  (∀ (l0 l1 l2 l3 : am_V) (a b : Int) (st : List am_V) (E : am_E) (u : am_M), Rn m_L_law 778 [l0, l1, l2, l3] (vI b :: vI a :: st) E u = Rn m_L_law 779 [l0, l1, l2, l3] (vI (w32 (a + b)) :: st) E u) ∧
  (∀ (l0 l1 l2 l3 : am_V) (i : Int) (st : List am_V) (E : am_E) (u : am_M) (h0 : 0 ≤ i) (h1 : i < (E.2.2.1 : Int)), Rn m_L_law 779 [l0, l1, l2, l3] (vI i :: vB true :: st) E u = Rn m_L_law 780 [l0, l1, l2, l3] (vI (E.2.2.2 i.toNat) :: st) E u) ∧
  (∀ (l1 l2 l3 : am_V) (st : List am_V) (E : am_E) (u : am_M), Rn m_L_law 780 [vB true, l1, l2, l3] st E u = Rn m_L_law 781 [vB true, l1, l2, l3] (vB true :: st) E u) ∧
  (∀ (l0 l1 l2 : am_V) (a : Int) (st : List am_V) (E : am_E) (u : am_M), Rn m_L_law 781 [l0, l1, l2, vI a] st E u = Rn m_L_law 782 [l0, l1, l2, vI a] (vI a :: st) E u) ∧
  (∀ (l0 l1 l2 l3 : am_V) (st : List am_V) (E : am_E) (u : am_M), Rn m_L_law 782 [l0, l1, l2, l3] st E u = Rn m_L_law 783 [l0, l1, l2, l3] (vI 3 :: st) E u) ∧
  (∀ (l0 l1 l2 l3 : am_V) (a b : Int) (st : List am_V) (E : am_E) (u : am_M), Rn m_L_law 783 [l0, l1, l2, l3] (vI b :: vI a :: st) E u = Rn m_L_law 784 [l0, l1, l2, l3] (vI (w32 (a + b)) :: st) E u) ∧
  (∀ (l0 l1 l2 l3 : am_V) (i : Int) (st : List am_V) (E : am_E) (u : am_M) (h0 : 0 ≤ i) (h1 : i < (E.2.2.1 : Int)), Rn m_L_law 784 [l0, l1, l2, l3] (vI i :: vB true :: st) E u = Rn m_L_law 785 [l0, l1, l2, l3] (vI (E.2.2.2 i.toNat) :: st) E u) ∧
  (∀ (l0 l1 l2 l3 : am_V) (a0 : Int) (a1 : Int) (a2 : Int) (E : am_E) (u : am_M) (hE : SE E), Rn m_L_law 785 [l0, l1, l2, l3] [vI a2, vI a1, vI a0, vR (some 0)] E u = bdI (Rn m_A_hole 0 [vR (some 0), vI a0, vI a1, vI a2] [] E u) (KI m_L_law 788 [l0, l1, l2, l3] [])) ∧
  (∀ (l0 l1 l3 : am_V) (a : Option Nat) (st : List am_V) (E : am_E) (u : am_M), Rn m_L_law 788 [l0, l1, vR a, l3] st E u = Rn m_L_law 789 [l0, l1, vR a, l3] (vR a :: st) E u) ∧
  (∀ (l1 l2 l3 : am_V) (st : List am_V) (E : am_E) (u : am_M), Rn m_L_law 789 [vB true, l1, l2, l3] st E u = Rn m_L_law 790 [vB true, l1, l2, l3] (vB true :: st) E u) ∧
  (∀ (l0 l1 l2 : am_V) (a : Int) (st : List am_V) (E : am_E) (u : am_M), Rn m_L_law 790 [l0, l1, l2, vI a] st E u = Rn m_L_law 791 [l0, l1, l2, vI a] (vI a :: st) E u) ∧
  (∀ (l0 l1 l2 l3 : am_V) (st : List am_V) (E : am_E) (u : am_M), Rn m_L_law 791 [l0, l1, l2, l3] st E u = Rn m_L_law 792 [l0, l1, l2, l3] (vI 1 :: st) E u) ∧
  (∀ (l0 l1 l2 l3 : am_V) (a b : Int) (st : List am_V) (E : am_E) (u : am_M), Rn m_L_law 792 [l0, l1, l2, l3] (vI b :: vI a :: st) E u = Rn m_L_law 793 [l0, l1, l2, l3] (vI (w32 (a + b)) :: st) E u) ∧
  (∀ (l0 l1 l2 l3 : am_V) (i : Int) (st : List am_V) (E : am_E) (u : am_M) (h0 : 0 ≤ i) (h1 : i < (E.2.2.1 : Int)), Rn m_L_law 793 [l0, l1, l2, l3] (vI i :: vB true :: st) E u = Rn m_L_law 794 [l0, l1, l2, l3] (vI (E.2.2.2 i.toNat) :: st) E u) ∧
  (∀ (l1 l2 l3 : am_V) (st : List am_V) (E : am_E) (u : am_M), Rn m_L_law 794 [vB true, l1, l2, l3] st E u = Rn m_L_law 795 [vB true, l1, l2, l3] (vB true :: st) E u) ∧
  (∀ (l0 l1 l2 : am_V) (a : Int) (st : List am_V) (E : am_E) (u : am_M), Rn m_L_law 795 [l0, l1, l2, vI a] st E u = Rn m_L_law 796 [l0, l1, l2, vI a] (vI a :: st) E u) ∧
  (∀ (l0 l1 l2 l3 : am_V) (st : List am_V) (E : am_E) (u : am_M), Rn m_L_law 796 [l0, l1, l2, l3] st E u = Rn m_L_law 797 [l0, l1, l2, l3] (vI 2 :: st) E u) ∧
  (∀ (l0 l1 l2 l3 : am_V) (a b : Int) (st : List am_V) (E : am_E) (u : am_M), Rn m_L_law 797 [l0, l1, l2, l3] (vI b :: vI a :: st) E u = Rn m_L_law 798 [l0, l1, l2, l3] (vI (w32 (a + b)) :: st) E u) ∧
  (∀ (l0 l1 l2 l3 : am_V) (i : Int) (st : List am_V) (E : am_E) (u : am_M) (h0 : 0 ≤ i) (h1 : i < (E.2.2.1 : Int)), Rn m_L_law 798 [l0, l1, l2, l3] (vI i :: vB true :: st) E u = Rn m_L_law 799 [l0, l1, l2, l3] (vI (E.2.2.2 i.toNat) :: st) E u) ∧
  (∀ (l1 l2 l3 : am_V) (st : List am_V) (E : am_E) (u : am_M), Rn m_L_law 799 [vB true, l1, l2, l3] st E u = Rn m_L_law 800 [vB true, l1, l2, l3] (vB true :: st) E u) ∧
  (∀ (l0 l1 l2 : am_V) (a : Int) (st : List am_V) (E : am_E) (u : am_M), Rn m_L_law 800 [l0, l1, l2, vI a] st E u = Rn m_L_law 801 [l0, l1, l2, vI a] (vI a :: st) E u) ∧
  (∀ (l0 l1 l2 l3 : am_V) (st : List am_V) (E : am_E) (u : am_M), Rn m_L_law 801 [l0, l1, l2, l3] st E u = Rn m_L_law 802 [l0, l1, l2, l3] (vI 3 :: st) E u) ∧
  (∀ (l0 l1 l2 l3 : am_V) (a b : Int) (st : List am_V) (E : am_E) (u : am_M), Rn m_L_law 802 [l0, l1, l2, l3] (vI b :: vI a :: st) E u = Rn m_L_law 803 [l0, l1, l2, l3] (vI (w32 (a + b)) :: st) E u) ∧
  (∀ (l0 l1 l2 l3 : am_V) (i : Int) (st : List am_V) (E : am_E) (u : am_M) (h0 : 0 ≤ i) (h1 : i < (E.2.2.1 : Int)), Rn m_L_law 803 [l0, l1, l2, l3] (vI i :: vB true :: st) E u = Rn m_L_law 804 [l0, l1, l2, l3] (vI (E.2.2.2 i.toNat) :: st) E u) ∧
  (∀ (l0 l1 l2 l3 : am_V) (a0 : Int) (a1 : Int) (a2 : Int) (r0 : am_V) (E : am_E) (u : am_M) (hE : SE E), Rn m_L_law 804 [l0, l1, l2, l3] [vI a2, vI a1, vI a0, vR (some 149), r0] E u = bdI (Rn m_M_hole 0 [vR (some 149), vI a0, vI a1, vI a2, vB false, vB false, vB false, vB false] [] E u) (KI m_L_law 807 [l0, l1, l2, l3] [r0])) ∧
  (∀ (l0 l1 l2 l3 : am_V) (a b : Int) (st : List am_V) (E : am_E) (u : am_M), Rn m_L_law 807 [l0, l1, l2, l3] (vI b :: vI a :: st) E u = if a = b then Rn m_L_law 1449 [l0, l1, l2, l3] st E u else Rn m_L_law 810 [l0, l1, l2, l3] st E u) ∧
  (∀ (l0 l1 l2 l3 : am_V) (st : List am_V) (E : am_E) (u : am_M), Rn m_L_law 810 [l0, l1, l2, l3] st E u = Rn m_L_law 811 [l0, l1, l2, l3] (vI 0 :: st) E u) ∧
  (∀ (l0 l1 l2 l3 : am_V) (b : Bool) (E : am_E) (u : am_M), Rn m_L_law 811 [l0, l1, l2, l3] [vI (bI b)] E u = some (some (vI (bI b)), E, u)) ∧
  (∀ (l0 l1 l2 l3 : am_V) (E : am_E) (u : am_M), Rn m_L_law 811 [l0, l1, l2, l3] [vI 1] E u = some (some (vI 1), E, u)) ∧
  (∀ (l0 l1 l2 l3 : am_V) (E : am_E) (u : am_M), Rn m_L_law 811 [l0, l1, l2, l3] [vI 0] E u = some (some (vI 0), E, u)) :=
  ⟨fun l0 l2 l3 a st E u => q_go (by decide +kernel : am_Pg 208 769 = some (.aload_n 1, 1, [], 0)) rfl,
  fun l1 l2 l3 st E u => q_go (by decide +kernel : am_Pg 208 770 = some (.aload_n 0, 1, [], 0)) rfl,
  fun l0 l1 l2 a st E u => q_go (by decide +kernel : am_Pg 208 771 = some (.iload_n 3, 1, [], 0)) rfl,
  fun l0 l1 l2 l3 st E u => q_go (by decide +kernel : am_Pg 208 772 = some (.iconst 1, 1, [], 0)) rfl,
  fun l0 l1 l2 l3 a b st E u => q_go (by decide +kernel : am_Pg 208 773 = some (.iadd, 1, [], 0)) rfl,
  fun l0 l1 l2 l3 i st E u h0 h1 => q_isc (by decide +kernel : am_Pg 208 774 = some (.iaload, 1, [], 0)) h0 h1,
  fun l1 l2 l3 st E u => q_go (by decide +kernel : am_Pg 208 775 = some (.aload_n 0, 1, [], 0)) rfl,
  fun l0 l1 l2 a st E u => q_go (by decide +kernel : am_Pg 208 776 = some (.iload_n 3, 1, [], 0)) rfl,
  fun l0 l1 l2 l3 st E u => q_go (by decide +kernel : am_Pg 208 777 = some (.iconst 2, 1, [], 0)) rfl,
  fun l0 l1 l2 l3 a b st E u => q_go (by decide +kernel : am_Pg 208 778 = some (.iadd, 1, [], 0)) rfl,
  fun l0 l1 l2 l3 i st E u h0 h1 => q_isc (by decide +kernel : am_Pg 208 779 = some (.iaload, 1, [], 0)) h0 h1,
  fun l1 l2 l3 st E u => q_go (by decide +kernel : am_Pg 208 780 = some (.aload_n 0, 1, [], 0)) rfl,
  fun l0 l1 l2 a st E u => q_go (by decide +kernel : am_Pg 208 781 = some (.iload_n 3, 1, [], 0)) rfl,
  fun l0 l1 l2 l3 st E u => q_go (by decide +kernel : am_Pg 208 782 = some (.iconst 3, 1, [], 0)) rfl,
  fun l0 l1 l2 l3 a b st E u => q_go (by decide +kernel : am_Pg 208 783 = some (.iadd, 1, [], 0)) rfl,
  fun l0 l1 l2 l3 i st E u h0 h1 => q_isc (by decide +kernel : am_Pg 208 784 = some (.iaload, 1, [], 0)) h0 h1,
  fun l0 l1 l2 l3 a0 a1 a2  E u hE => q_cI (by decide +kernel : am_Pg 208 785 = some (.invokevirtual 101, 3, [3, 148, 4, 4, 8, 0], 0)) (am_call_V (a := [vI a0, vI a1, vI a2]) (st' := []) (Nat.le_of_ble_eq_true rfl) rfl (SE_k4 hE)) (by decide +kernel : am_Lm m_A_hole = 4) (Nat.le_of_ble_eq_true rfl) rfl (by decide +kernel),
  fun l0 l1 l3 a st E u => q_go (by decide +kernel : am_Pg 208 788 = some (.aload_n 2, 1, [], 0)) rfl,
  fun l1 l2 l3 st E u => q_go (by decide +kernel : am_Pg 208 789 = some (.aload_n 0, 1, [], 0)) rfl,
  fun l0 l1 l2 a st E u => q_go (by decide +kernel : am_Pg 208 790 = some (.iload_n 3, 1, [], 0)) rfl,
  fun l0 l1 l2 l3 st E u => q_go (by decide +kernel : am_Pg 208 791 = some (.iconst 1, 1, [], 0)) rfl,
  fun l0 l1 l2 l3 a b st E u => q_go (by decide +kernel : am_Pg 208 792 = some (.iadd, 1, [], 0)) rfl,
  fun l0 l1 l2 l3 i st E u h0 h1 => q_isc (by decide +kernel : am_Pg 208 793 = some (.iaload, 1, [], 0)) h0 h1,
  fun l1 l2 l3 st E u => q_go (by decide +kernel : am_Pg 208 794 = some (.aload_n 0, 1, [], 0)) rfl,
  fun l0 l1 l2 a st E u => q_go (by decide +kernel : am_Pg 208 795 = some (.iload_n 3, 1, [], 0)) rfl,
  fun l0 l1 l2 l3 st E u => q_go (by decide +kernel : am_Pg 208 796 = some (.iconst 2, 1, [], 0)) rfl,
  fun l0 l1 l2 l3 a b st E u => q_go (by decide +kernel : am_Pg 208 797 = some (.iadd, 1, [], 0)) rfl,
  fun l0 l1 l2 l3 i st E u h0 h1 => q_isc (by decide +kernel : am_Pg 208 798 = some (.iaload, 1, [], 0)) h0 h1,
  fun l1 l2 l3 st E u => q_go (by decide +kernel : am_Pg 208 799 = some (.aload_n 0, 1, [], 0)) rfl,
  fun l0 l1 l2 a st E u => q_go (by decide +kernel : am_Pg 208 800 = some (.iload_n 3, 1, [], 0)) rfl,
  fun l0 l1 l2 l3 st E u => q_go (by decide +kernel : am_Pg 208 801 = some (.iconst 3, 1, [], 0)) rfl,
  fun l0 l1 l2 l3 a b st E u => q_go (by decide +kernel : am_Pg 208 802 = some (.iadd, 1, [], 0)) rfl,
  fun l0 l1 l2 l3 i st E u h0 h1 => q_isc (by decide +kernel : am_Pg 208 803 = some (.iaload, 1, [], 0)) h0 h1,
  fun l0 l1 l2 l3 a0 a1 a2 r0 E u hE => q_cI (by decide +kernel : am_Pg 208 804 = some (.invokevirtual 104, 3, [3, 149, 4, 5, 17, 0], 0)) (am_call_V (a := [vI a0, vI a1, vI a2]) (st' := [r0]) (Nat.le_of_ble_eq_true rfl) rfl (SE_k5 hE)) (by decide +kernel : am_Lm m_M_hole = 8) (Nat.le_of_ble_eq_true rfl) rfl (by decide +kernel),
  fun l0 l1 l2 l3 a b st E u => q_icmp_eq (tgt := 1449) (by decide +kernel : am_Pg 208 807 = some (.if_icmp .eq 642, 3, [], 0)) (by decide),
  fun l0 l1 l2 l3 st E u => q_go (by decide +kernel : am_Pg 208 810 = some (.iconst 0, 1, [], 0)) rfl,
  fun l0 l1 l2 l3 b E u => by cases b <;> exact q_ret (by decide +kernel : am_Pg 208 811 = some (.ireturn, 1, [1], 0)) rfl,
  fun l0 l1 l2 l3 E u => q_ret (by decide +kernel : am_Pg 208 811 = some (.ireturn, 1, [1], 0)) rfl,
  fun l0 l1 l2 l3 E u => q_ret (by decide +kernel : am_Pg 208 811 = some (.ireturn, 1, [1], 0)) rfl⟩
theorem x_L_law_812 :
  (∀ (l0 l2 l3 : am_V) (a : Option Nat) (st : List am_V) (E : am_E) (u : am_M), Rn m_L_law 812 [l0, vR a, l2, l3] st E u = Rn m_L_law 813 [l0, vR a, l2, l3] (vR a :: st) E u) ∧
  (∀ (l1 l2 l3 : am_V) (st : List am_V) (E : am_E) (u : am_M), Rn m_L_law 813 [vB true, l1, l2, l3] st E u = Rn m_L_law 814 [vB true, l1, l2, l3] (vB true :: st) E u) ∧
  (∀ (l0 l1 l2 : am_V) (a : Int) (st : List am_V) (E : am_E) (u : am_M), Rn m_L_law 814 [l0, l1, l2, vI a] st E u = Rn m_L_law 815 [l0, l1, l2, vI a] (vI a :: st) E u) ∧
  (∀ (l0 l1 l2 l3 : am_V) (st : List am_V) (E : am_E) (u : am_M), Rn m_L_law 815 [l0, l1, l2, l3] st E u = Rn m_L_law 816 [l0, l1, l2, l3] (vI 1 :: st) E u) ∧
  (∀ (l0 l1 l2 l3 : am_V) (a b : Int) (st : List am_V) (E : am_E) (u : am_M), Rn m_L_law 816 [l0, l1, l2, l3] (vI b :: vI a :: st) E u = Rn m_L_law 817 [l0, l1, l2, l3] (vI (w32 (a + b)) :: st) E u) ∧
  (∀ (l0 l1 l2 l3 : am_V) (i : Int) (st : List am_V) (E : am_E) (u : am_M) (h0 : 0 ≤ i) (h1 : i < (E.2.2.1 : Int)), Rn m_L_law 817 [l0, l1, l2, l3] (vI i :: vB true :: st) E u = Rn m_L_law 818 [l0, l1, l2, l3] (vI (E.2.2.2 i.toNat) :: st) E u) ∧
  (∀ (l1 l2 l3 : am_V) (st : List am_V) (E : am_E) (u : am_M), Rn m_L_law 818 [vB true, l1, l2, l3] st E u = Rn m_L_law 819 [vB true, l1, l2, l3] (vB true :: st) E u) ∧
  (∀ (l0 l1 l2 : am_V) (a : Int) (st : List am_V) (E : am_E) (u : am_M), Rn m_L_law 819 [l0, l1, l2, vI a] st E u = Rn m_L_law 820 [l0, l1, l2, vI a] (vI a :: st) E u) ∧
  (∀ (l0 l1 l2 l3 : am_V) (st : List am_V) (E : am_E) (u : am_M), Rn m_L_law 820 [l0, l1, l2, l3] st E u = Rn m_L_law 821 [l0, l1, l2, l3] (vI 2 :: st) E u) ∧
  (∀ (l0 l1 l2 l3 : am_V) (a b : Int) (st : List am_V) (E : am_E) (u : am_M), Rn m_L_law 821 [l0, l1, l2, l3] (vI b :: vI a :: st) E u = Rn m_L_law 822 [l0, l1, l2, l3] (vI (w32 (a + b)) :: st) E u) ∧
  (∀ (l0 l1 l2 l3 : am_V) (i : Int) (st : List am_V) (E : am_E) (u : am_M) (h0 : 0 ≤ i) (h1 : i < (E.2.2.1 : Int)), Rn m_L_law 822 [l0, l1, l2, l3] (vI i :: vB true :: st) E u = Rn m_L_law 823 [l0, l1, l2, l3] (vI (E.2.2.2 i.toNat) :: st) E u) ∧
  (∀ (l1 l2 l3 : am_V) (st : List am_V) (E : am_E) (u : am_M), Rn m_L_law 823 [vB true, l1, l2, l3] st E u = Rn m_L_law 824 [vB true, l1, l2, l3] (vB true :: st) E u) ∧
  (∀ (l0 l1 l2 : am_V) (a : Int) (st : List am_V) (E : am_E) (u : am_M), Rn m_L_law 824 [l0, l1, l2, vI a] st E u = Rn m_L_law 825 [l0, l1, l2, vI a] (vI a :: st) E u) ∧
  (∀ (l0 l1 l2 l3 : am_V) (st : List am_V) (E : am_E) (u : am_M), Rn m_L_law 825 [l0, l1, l2, l3] st E u = Rn m_L_law 826 [l0, l1, l2, l3] (vI 3 :: st) E u) ∧
  (∀ (l0 l1 l2 l3 : am_V) (a b : Int) (st : List am_V) (E : am_E) (u : am_M), Rn m_L_law 826 [l0, l1, l2, l3] (vI b :: vI a :: st) E u = Rn m_L_law 827 [l0, l1, l2, l3] (vI (w32 (a + b)) :: st) E u) ∧
  (∀ (l0 l1 l2 l3 : am_V) (i : Int) (st : List am_V) (E : am_E) (u : am_M) (h0 : 0 ≤ i) (h1 : i < (E.2.2.1 : Int)), Rn m_L_law 827 [l0, l1, l2, l3] (vI i :: vB true :: st) E u = Rn m_L_law 828 [l0, l1, l2, l3] (vI (E.2.2.2 i.toNat) :: st) E u) ∧
  (∀ (l0 l1 l2 l3 : am_V) (a0 : Int) (a1 : Int) (a2 : Int) (E : am_E) (u : am_M) (hE : SE E), Rn m_L_law 828 [l0, l1, l2, l3] [vI a2, vI a1, vI a0, vR (some 0)] E u = bdI (Rn m_A_cuts 0 [vR (some 0), vI a0, vI a1, vI a2, vB false, vB false, vB false] [] E u) (KI m_L_law 831 [l0, l1, l2, l3] [])) ∧
  (∀ (l0 l1 l3 : am_V) (a : Option Nat) (st : List am_V) (E : am_E) (u : am_M), Rn m_L_law 831 [l0, l1, vR a, l3] st E u = Rn m_L_law 832 [l0, l1, vR a, l3] (vR a :: st) E u) ∧
  (∀ (l1 l2 l3 : am_V) (st : List am_V) (E : am_E) (u : am_M), Rn m_L_law 832 [vB true, l1, l2, l3] st E u = Rn m_L_law 833 [vB true, l1, l2, l3] (vB true :: st) E u) ∧
  (∀ (l0 l1 l2 : am_V) (a : Int) (st : List am_V) (E : am_E) (u : am_M), Rn m_L_law 833 [l0, l1, l2, vI a] st E u = Rn m_L_law 834 [l0, l1, l2, vI a] (vI a :: st) E u) ∧
  (∀ (l0 l1 l2 l3 : am_V) (st : List am_V) (E : am_E) (u : am_M), Rn m_L_law 834 [l0, l1, l2, l3] st E u = Rn m_L_law 835 [l0, l1, l2, l3] (vI 1 :: st) E u) ∧
  (∀ (l0 l1 l2 l3 : am_V) (a b : Int) (st : List am_V) (E : am_E) (u : am_M), Rn m_L_law 835 [l0, l1, l2, l3] (vI b :: vI a :: st) E u = Rn m_L_law 836 [l0, l1, l2, l3] (vI (w32 (a + b)) :: st) E u) ∧
  (∀ (l0 l1 l2 l3 : am_V) (i : Int) (st : List am_V) (E : am_E) (u : am_M) (h0 : 0 ≤ i) (h1 : i < (E.2.2.1 : Int)), Rn m_L_law 836 [l0, l1, l2, l3] (vI i :: vB true :: st) E u = Rn m_L_law 837 [l0, l1, l2, l3] (vI (E.2.2.2 i.toNat) :: st) E u) ∧
  (∀ (l1 l2 l3 : am_V) (st : List am_V) (E : am_E) (u : am_M), Rn m_L_law 837 [vB true, l1, l2, l3] st E u = Rn m_L_law 838 [vB true, l1, l2, l3] (vB true :: st) E u) ∧
  (∀ (l0 l1 l2 : am_V) (a : Int) (st : List am_V) (E : am_E) (u : am_M), Rn m_L_law 838 [l0, l1, l2, vI a] st E u = Rn m_L_law 839 [l0, l1, l2, vI a] (vI a :: st) E u) ∧
  (∀ (l0 l1 l2 l3 : am_V) (st : List am_V) (E : am_E) (u : am_M), Rn m_L_law 839 [l0, l1, l2, l3] st E u = Rn m_L_law 840 [l0, l1, l2, l3] (vI 2 :: st) E u) ∧
  (∀ (l0 l1 l2 l3 : am_V) (a b : Int) (st : List am_V) (E : am_E) (u : am_M), Rn m_L_law 840 [l0, l1, l2, l3] (vI b :: vI a :: st) E u = Rn m_L_law 841 [l0, l1, l2, l3] (vI (w32 (a + b)) :: st) E u) ∧
  (∀ (l0 l1 l2 l3 : am_V) (i : Int) (st : List am_V) (E : am_E) (u : am_M) (h0 : 0 ≤ i) (h1 : i < (E.2.2.1 : Int)), Rn m_L_law 841 [l0, l1, l2, l3] (vI i :: vB true :: st) E u = Rn m_L_law 842 [l0, l1, l2, l3] (vI (E.2.2.2 i.toNat) :: st) E u) ∧
  (∀ (l1 l2 l3 : am_V) (st : List am_V) (E : am_E) (u : am_M), Rn m_L_law 842 [vB true, l1, l2, l3] st E u = Rn m_L_law 843 [vB true, l1, l2, l3] (vB true :: st) E u) ∧
  (∀ (l0 l1 l2 : am_V) (a : Int) (st : List am_V) (E : am_E) (u : am_M), Rn m_L_law 843 [l0, l1, l2, vI a] st E u = Rn m_L_law 844 [l0, l1, l2, vI a] (vI a :: st) E u) ∧
  (∀ (l0 l1 l2 l3 : am_V) (st : List am_V) (E : am_E) (u : am_M), Rn m_L_law 844 [l0, l1, l2, l3] st E u = Rn m_L_law 845 [l0, l1, l2, l3] (vI 3 :: st) E u) ∧
  (∀ (l0 l1 l2 l3 : am_V) (a b : Int) (st : List am_V) (E : am_E) (u : am_M), Rn m_L_law 845 [l0, l1, l2, l3] (vI b :: vI a :: st) E u = Rn m_L_law 846 [l0, l1, l2, l3] (vI (w32 (a + b)) :: st) E u) ∧
  (∀ (l0 l1 l2 l3 : am_V) (i : Int) (st : List am_V) (E : am_E) (u : am_M) (h0 : 0 ≤ i) (h1 : i < (E.2.2.1 : Int)), Rn m_L_law 846 [l0, l1, l2, l3] (vI i :: vB true :: st) E u = Rn m_L_law 847 [l0, l1, l2, l3] (vI (E.2.2.2 i.toNat) :: st) E u) ∧
  (∀ (l0 l1 l2 l3 : am_V) (a0 : Int) (a1 : Int) (a2 : Int) (r0 : am_V) (E : am_E) (u : am_M) (hE : SE E), Rn m_L_law 847 [l0, l1, l2, l3] [vI a2, vI a1, vI a0, vR (some 149), r0] E u = bdI (Rn m_M_cuts 0 [vR (some 149), vI a0, vI a1, vI a2, vB false, vB false, vB false] [] E u) (KI m_L_law 850 [l0, l1, l2, l3] [r0])) ∧
  (∀ (l0 l1 l2 l3 : am_V) (a b : Int) (st : List am_V) (E : am_E) (u : am_M), Rn m_L_law 850 [l0, l1, l2, l3] (vI b :: vI a :: st) E u = if a = b then Rn m_L_law 1449 [l0, l1, l2, l3] st E u else Rn m_L_law 853 [l0, l1, l2, l3] st E u) ∧
  (∀ (l0 l1 l2 l3 : am_V) (st : List am_V) (E : am_E) (u : am_M), Rn m_L_law 853 [l0, l1, l2, l3] st E u = Rn m_L_law 854 [l0, l1, l2, l3] (vI 0 :: st) E u) ∧
  (∀ (l0 l1 l2 l3 : am_V) (b : Bool) (E : am_E) (u : am_M), Rn m_L_law 854 [l0, l1, l2, l3] [vI (bI b)] E u = some (some (vI (bI b)), E, u)) ∧
  (∀ (l0 l1 l2 l3 : am_V) (E : am_E) (u : am_M), Rn m_L_law 854 [l0, l1, l2, l3] [vI 1] E u = some (some (vI 1), E, u)) ∧
  (∀ (l0 l1 l2 l3 : am_V) (E : am_E) (u : am_M), Rn m_L_law 854 [l0, l1, l2, l3] [vI 0] E u = some (some (vI 0), E, u)) :=
  ⟨fun l0 l2 l3 a st E u => q_go (by decide +kernel : am_Pg 208 812 = some (.aload_n 1, 1, [], 0)) rfl,
  fun l1 l2 l3 st E u => q_go (by decide +kernel : am_Pg 208 813 = some (.aload_n 0, 1, [], 0)) rfl,
  fun l0 l1 l2 a st E u => q_go (by decide +kernel : am_Pg 208 814 = some (.iload_n 3, 1, [], 0)) rfl,
  fun l0 l1 l2 l3 st E u => q_go (by decide +kernel : am_Pg 208 815 = some (.iconst 1, 1, [], 0)) rfl,
  fun l0 l1 l2 l3 a b st E u => q_go (by decide +kernel : am_Pg 208 816 = some (.iadd, 1, [], 0)) rfl,
  fun l0 l1 l2 l3 i st E u h0 h1 => q_isc (by decide +kernel : am_Pg 208 817 = some (.iaload, 1, [], 0)) h0 h1,
  fun l1 l2 l3 st E u => q_go (by decide +kernel : am_Pg 208 818 = some (.aload_n 0, 1, [], 0)) rfl,
  fun l0 l1 l2 a st E u => q_go (by decide +kernel : am_Pg 208 819 = some (.iload_n 3, 1, [], 0)) rfl,
  fun l0 l1 l2 l3 st E u => q_go (by decide +kernel : am_Pg 208 820 = some (.iconst 2, 1, [], 0)) rfl,
  fun l0 l1 l2 l3 a b st E u => q_go (by decide +kernel : am_Pg 208 821 = some (.iadd, 1, [], 0)) rfl,
  fun l0 l1 l2 l3 i st E u h0 h1 => q_isc (by decide +kernel : am_Pg 208 822 = some (.iaload, 1, [], 0)) h0 h1,
  fun l1 l2 l3 st E u => q_go (by decide +kernel : am_Pg 208 823 = some (.aload_n 0, 1, [], 0)) rfl,
  fun l0 l1 l2 a st E u => q_go (by decide +kernel : am_Pg 208 824 = some (.iload_n 3, 1, [], 0)) rfl,
  fun l0 l1 l2 l3 st E u => q_go (by decide +kernel : am_Pg 208 825 = some (.iconst 3, 1, [], 0)) rfl,
  fun l0 l1 l2 l3 a b st E u => q_go (by decide +kernel : am_Pg 208 826 = some (.iadd, 1, [], 0)) rfl,
  fun l0 l1 l2 l3 i st E u h0 h1 => q_isc (by decide +kernel : am_Pg 208 827 = some (.iaload, 1, [], 0)) h0 h1,
  fun l0 l1 l2 l3 a0 a1 a2  E u hE => q_cI (by decide +kernel : am_Pg 208 828 = some (.invokevirtual 105, 3, [3, 153, 4, 4, 8, 0], 0)) (am_call_V (a := [vI a0, vI a1, vI a2]) (st' := []) (Nat.le_of_ble_eq_true rfl) rfl (SE_k4 hE)) (by decide +kernel : am_Lm m_A_cuts = 7) (Nat.le_of_ble_eq_true rfl) rfl (by decide +kernel),
  fun l0 l1 l3 a st E u => q_go (by decide +kernel : am_Pg 208 831 = some (.aload_n 2, 1, [], 0)) rfl,
  fun l1 l2 l3 st E u => q_go (by decide +kernel : am_Pg 208 832 = some (.aload_n 0, 1, [], 0)) rfl,
  fun l0 l1 l2 a st E u => q_go (by decide +kernel : am_Pg 208 833 = some (.iload_n 3, 1, [], 0)) rfl,
  fun l0 l1 l2 l3 st E u => q_go (by decide +kernel : am_Pg 208 834 = some (.iconst 1, 1, [], 0)) rfl,
  fun l0 l1 l2 l3 a b st E u => q_go (by decide +kernel : am_Pg 208 835 = some (.iadd, 1, [], 0)) rfl,
  fun l0 l1 l2 l3 i st E u h0 h1 => q_isc (by decide +kernel : am_Pg 208 836 = some (.iaload, 1, [], 0)) h0 h1,
  fun l1 l2 l3 st E u => q_go (by decide +kernel : am_Pg 208 837 = some (.aload_n 0, 1, [], 0)) rfl,
  fun l0 l1 l2 a st E u => q_go (by decide +kernel : am_Pg 208 838 = some (.iload_n 3, 1, [], 0)) rfl,
  fun l0 l1 l2 l3 st E u => q_go (by decide +kernel : am_Pg 208 839 = some (.iconst 2, 1, [], 0)) rfl,
  fun l0 l1 l2 l3 a b st E u => q_go (by decide +kernel : am_Pg 208 840 = some (.iadd, 1, [], 0)) rfl,
  fun l0 l1 l2 l3 i st E u h0 h1 => q_isc (by decide +kernel : am_Pg 208 841 = some (.iaload, 1, [], 0)) h0 h1,
  fun l1 l2 l3 st E u => q_go (by decide +kernel : am_Pg 208 842 = some (.aload_n 0, 1, [], 0)) rfl,
  fun l0 l1 l2 a st E u => q_go (by decide +kernel : am_Pg 208 843 = some (.iload_n 3, 1, [], 0)) rfl,
  fun l0 l1 l2 l3 st E u => q_go (by decide +kernel : am_Pg 208 844 = some (.iconst 3, 1, [], 0)) rfl,
  fun l0 l1 l2 l3 a b st E u => q_go (by decide +kernel : am_Pg 208 845 = some (.iadd, 1, [], 0)) rfl,
  fun l0 l1 l2 l3 i st E u h0 h1 => q_isc (by decide +kernel : am_Pg 208 846 = some (.iaload, 1, [], 0)) h0 h1,
  fun l0 l1 l2 l3 a0 a1 a2 r0 E u hE => q_cI (by decide +kernel : am_Pg 208 847 = some (.invokevirtual 108, 3, [3, 156, 4, 5, 17, 0], 0)) (am_call_V (a := [vI a0, vI a1, vI a2]) (st' := [r0]) (Nat.le_of_ble_eq_true rfl) rfl (SE_k5 hE)) (by decide +kernel : am_Lm m_M_cuts = 7) (Nat.le_of_ble_eq_true rfl) rfl (by decide +kernel),
  fun l0 l1 l2 l3 a b st E u => q_icmp_eq (tgt := 1449) (by decide +kernel : am_Pg 208 850 = some (.if_icmp .eq 599, 3, [], 0)) (by decide),
  fun l0 l1 l2 l3 st E u => q_go (by decide +kernel : am_Pg 208 853 = some (.iconst 0, 1, [], 0)) rfl,
  fun l0 l1 l2 l3 b E u => by cases b <;> exact q_ret (by decide +kernel : am_Pg 208 854 = some (.ireturn, 1, [1], 0)) rfl,
  fun l0 l1 l2 l3 E u => q_ret (by decide +kernel : am_Pg 208 854 = some (.ireturn, 1, [1], 0)) rfl,
  fun l0 l1 l2 l3 E u => q_ret (by decide +kernel : am_Pg 208 854 = some (.ireturn, 1, [1], 0)) rfl⟩
theorem x_L_law_855 :
  (∀ (l0 l2 l3 : am_V) (a : Option Nat) (st : List am_V) (E : am_E) (u : am_M), Rn m_L_law 855 [l0, vR a, l2, l3] st E u = Rn m_L_law 856 [l0, vR a, l2, l3] (vR a :: st) E u) ∧
  (∀ (l1 l2 l3 : am_V) (st : List am_V) (E : am_E) (u : am_M), Rn m_L_law 856 [vB true, l1, l2, l3] st E u = Rn m_L_law 857 [vB true, l1, l2, l3] (vB true :: st) E u) ∧
  (∀ (l0 l1 l2 : am_V) (a : Int) (st : List am_V) (E : am_E) (u : am_M), Rn m_L_law 857 [l0, l1, l2, vI a] st E u = Rn m_L_law 858 [l0, l1, l2, vI a] (vI a :: st) E u) ∧
  (∀ (l0 l1 l2 l3 : am_V) (st : List am_V) (E : am_E) (u : am_M), Rn m_L_law 858 [l0, l1, l2, l3] st E u = Rn m_L_law 859 [l0, l1, l2, l3] (vI 1 :: st) E u) ∧
  (∀ (l0 l1 l2 l3 : am_V) (a b : Int) (st : List am_V) (E : am_E) (u : am_M), Rn m_L_law 859 [l0, l1, l2, l3] (vI b :: vI a :: st) E u = Rn m_L_law 860 [l0, l1, l2, l3] (vI (w32 (a + b)) :: st) E u) ∧
  (∀ (l0 l1 l2 l3 : am_V) (i : Int) (st : List am_V) (E : am_E) (u : am_M) (h0 : 0 ≤ i) (h1 : i < (E.2.2.1 : Int)), Rn m_L_law 860 [l0, l1, l2, l3] (vI i :: vB true :: st) E u = Rn m_L_law 861 [l0, l1, l2, l3] (vI (E.2.2.2 i.toNat) :: st) E u) ∧
  (∀ (l1 l2 l3 : am_V) (st : List am_V) (E : am_E) (u : am_M), Rn m_L_law 861 [vB true, l1, l2, l3] st E u = Rn m_L_law 862 [vB true, l1, l2, l3] (vB true :: st) E u) ∧
  (∀ (l0 l1 l2 : am_V) (a : Int) (st : List am_V) (E : am_E) (u : am_M), Rn m_L_law 862 [l0, l1, l2, vI a] st E u = Rn m_L_law 863 [l0, l1, l2, vI a] (vI a :: st) E u) ∧
  (∀ (l0 l1 l2 l3 : am_V) (st : List am_V) (E : am_E) (u : am_M), Rn m_L_law 863 [l0, l1, l2, l3] st E u = Rn m_L_law 864 [l0, l1, l2, l3] (vI 2 :: st) E u) ∧
  (∀ (l0 l1 l2 l3 : am_V) (a b : Int) (st : List am_V) (E : am_E) (u : am_M), Rn m_L_law 864 [l0, l1, l2, l3] (vI b :: vI a :: st) E u = Rn m_L_law 865 [l0, l1, l2, l3] (vI (w32 (a + b)) :: st) E u) ∧
  (∀ (l0 l1 l2 l3 : am_V) (i : Int) (st : List am_V) (E : am_E) (u : am_M) (h0 : 0 ≤ i) (h1 : i < (E.2.2.1 : Int)), Rn m_L_law 865 [l0, l1, l2, l3] (vI i :: vB true :: st) E u = Rn m_L_law 866 [l0, l1, l2, l3] (vI (E.2.2.2 i.toNat) :: st) E u) ∧
  (∀ (l1 l2 l3 : am_V) (st : List am_V) (E : am_E) (u : am_M), Rn m_L_law 866 [vB true, l1, l2, l3] st E u = Rn m_L_law 867 [vB true, l1, l2, l3] (vB true :: st) E u) ∧
  (∀ (l0 l1 l2 : am_V) (a : Int) (st : List am_V) (E : am_E) (u : am_M), Rn m_L_law 867 [l0, l1, l2, vI a] st E u = Rn m_L_law 868 [l0, l1, l2, vI a] (vI a :: st) E u) ∧
  (∀ (l0 l1 l2 l3 : am_V) (st : List am_V) (E : am_E) (u : am_M), Rn m_L_law 868 [l0, l1, l2, l3] st E u = Rn m_L_law 869 [l0, l1, l2, l3] (vI 3 :: st) E u) ∧
  (∀ (l0 l1 l2 l3 : am_V) (a b : Int) (st : List am_V) (E : am_E) (u : am_M), Rn m_L_law 869 [l0, l1, l2, l3] (vI b :: vI a :: st) E u = Rn m_L_law 870 [l0, l1, l2, l3] (vI (w32 (a + b)) :: st) E u) ∧
  (∀ (l0 l1 l2 l3 : am_V) (i : Int) (st : List am_V) (E : am_E) (u : am_M) (h0 : 0 ≤ i) (h1 : i < (E.2.2.1 : Int)), Rn m_L_law 870 [l0, l1, l2, l3] (vI i :: vB true :: st) E u = Rn m_L_law 871 [l0, l1, l2, l3] (vI (E.2.2.2 i.toNat) :: st) E u) ∧
  (∀ (l0 l1 l2 l3 : am_V) (a0 : Int) (a1 : Int) (a2 : Int) (E : am_E) (u : am_M) (hE : SE E), Rn m_L_law 871 [l0, l1, l2, l3] [vI a2, vI a1, vI a0, vR (some 0)] E u = bdI (Rn m_A_place 0 [vR (some 0), vI a0, vI a1, vI a2] [] E u) (KI m_L_law 874 [l0, l1, l2, l3] [])) ∧
  (∀ (l0 l1 l3 : am_V) (a : Option Nat) (st : List am_V) (E : am_E) (u : am_M), Rn m_L_law 874 [l0, l1, vR a, l3] st E u = Rn m_L_law 875 [l0, l1, vR a, l3] (vR a :: st) E u) ∧
  (∀ (l1 l2 l3 : am_V) (st : List am_V) (E : am_E) (u : am_M), Rn m_L_law 875 [vB true, l1, l2, l3] st E u = Rn m_L_law 876 [vB true, l1, l2, l3] (vB true :: st) E u) ∧
  (∀ (l0 l1 l2 : am_V) (a : Int) (st : List am_V) (E : am_E) (u : am_M), Rn m_L_law 876 [l0, l1, l2, vI a] st E u = Rn m_L_law 877 [l0, l1, l2, vI a] (vI a :: st) E u) ∧
  (∀ (l0 l1 l2 l3 : am_V) (st : List am_V) (E : am_E) (u : am_M), Rn m_L_law 877 [l0, l1, l2, l3] st E u = Rn m_L_law 878 [l0, l1, l2, l3] (vI 1 :: st) E u) ∧
  (∀ (l0 l1 l2 l3 : am_V) (a b : Int) (st : List am_V) (E : am_E) (u : am_M), Rn m_L_law 878 [l0, l1, l2, l3] (vI b :: vI a :: st) E u = Rn m_L_law 879 [l0, l1, l2, l3] (vI (w32 (a + b)) :: st) E u) ∧
  (∀ (l0 l1 l2 l3 : am_V) (i : Int) (st : List am_V) (E : am_E) (u : am_M) (h0 : 0 ≤ i) (h1 : i < (E.2.2.1 : Int)), Rn m_L_law 879 [l0, l1, l2, l3] (vI i :: vB true :: st) E u = Rn m_L_law 880 [l0, l1, l2, l3] (vI (E.2.2.2 i.toNat) :: st) E u) ∧
  (∀ (l1 l2 l3 : am_V) (st : List am_V) (E : am_E) (u : am_M), Rn m_L_law 880 [vB true, l1, l2, l3] st E u = Rn m_L_law 881 [vB true, l1, l2, l3] (vB true :: st) E u) ∧
  (∀ (l0 l1 l2 : am_V) (a : Int) (st : List am_V) (E : am_E) (u : am_M), Rn m_L_law 881 [l0, l1, l2, vI a] st E u = Rn m_L_law 882 [l0, l1, l2, vI a] (vI a :: st) E u) ∧
  (∀ (l0 l1 l2 l3 : am_V) (st : List am_V) (E : am_E) (u : am_M), Rn m_L_law 882 [l0, l1, l2, l3] st E u = Rn m_L_law 883 [l0, l1, l2, l3] (vI 2 :: st) E u) ∧
  (∀ (l0 l1 l2 l3 : am_V) (a b : Int) (st : List am_V) (E : am_E) (u : am_M), Rn m_L_law 883 [l0, l1, l2, l3] (vI b :: vI a :: st) E u = Rn m_L_law 884 [l0, l1, l2, l3] (vI (w32 (a + b)) :: st) E u) ∧
  (∀ (l0 l1 l2 l3 : am_V) (i : Int) (st : List am_V) (E : am_E) (u : am_M) (h0 : 0 ≤ i) (h1 : i < (E.2.2.1 : Int)), Rn m_L_law 884 [l0, l1, l2, l3] (vI i :: vB true :: st) E u = Rn m_L_law 885 [l0, l1, l2, l3] (vI (E.2.2.2 i.toNat) :: st) E u) ∧
  (∀ (l1 l2 l3 : am_V) (st : List am_V) (E : am_E) (u : am_M), Rn m_L_law 885 [vB true, l1, l2, l3] st E u = Rn m_L_law 886 [vB true, l1, l2, l3] (vB true :: st) E u) ∧
  (∀ (l0 l1 l2 : am_V) (a : Int) (st : List am_V) (E : am_E) (u : am_M), Rn m_L_law 886 [l0, l1, l2, vI a] st E u = Rn m_L_law 887 [l0, l1, l2, vI a] (vI a :: st) E u) ∧
  (∀ (l0 l1 l2 l3 : am_V) (st : List am_V) (E : am_E) (u : am_M), Rn m_L_law 887 [l0, l1, l2, l3] st E u = Rn m_L_law 888 [l0, l1, l2, l3] (vI 3 :: st) E u) ∧
  (∀ (l0 l1 l2 l3 : am_V) (a b : Int) (st : List am_V) (E : am_E) (u : am_M), Rn m_L_law 888 [l0, l1, l2, l3] (vI b :: vI a :: st) E u = Rn m_L_law 889 [l0, l1, l2, l3] (vI (w32 (a + b)) :: st) E u) ∧
  (∀ (l0 l1 l2 l3 : am_V) (i : Int) (st : List am_V) (E : am_E) (u : am_M) (h0 : 0 ≤ i) (h1 : i < (E.2.2.1 : Int)), Rn m_L_law 889 [l0, l1, l2, l3] (vI i :: vB true :: st) E u = Rn m_L_law 890 [l0, l1, l2, l3] (vI (E.2.2.2 i.toNat) :: st) E u) ∧
  (∀ (l0 l1 l2 l3 : am_V) (a0 : Int) (a1 : Int) (a2 : Int) (r0 : am_V) (E : am_E) (u : am_M) (hE : SE E), Rn m_L_law 890 [l0, l1, l2, l3] [vI a2, vI a1, vI a0, vR (some 149), r0] E u = bdI (Rn m_M_place 0 [vR (some 149), vI a0, vI a1, vI a2, vB false, vB false, vB false, vB false] [] E u) (KI m_L_law 893 [l0, l1, l2, l3] [r0])) ∧
  (∀ (l0 l1 l2 l3 : am_V) (a b : Int) (st : List am_V) (E : am_E) (u : am_M), Rn m_L_law 893 [l0, l1, l2, l3] (vI b :: vI a :: st) E u = if a = b then Rn m_L_law 1449 [l0, l1, l2, l3] st E u else Rn m_L_law 896 [l0, l1, l2, l3] st E u) ∧
  (∀ (l0 l1 l2 l3 : am_V) (st : List am_V) (E : am_E) (u : am_M), Rn m_L_law 896 [l0, l1, l2, l3] st E u = Rn m_L_law 897 [l0, l1, l2, l3] (vI 0 :: st) E u) ∧
  (∀ (l0 l1 l2 l3 : am_V) (b : Bool) (E : am_E) (u : am_M), Rn m_L_law 897 [l0, l1, l2, l3] [vI (bI b)] E u = some (some (vI (bI b)), E, u)) ∧
  (∀ (l0 l1 l2 l3 : am_V) (E : am_E) (u : am_M), Rn m_L_law 897 [l0, l1, l2, l3] [vI 1] E u = some (some (vI 1), E, u)) ∧
  (∀ (l0 l1 l2 l3 : am_V) (E : am_E) (u : am_M), Rn m_L_law 897 [l0, l1, l2, l3] [vI 0] E u = some (some (vI 0), E, u)) :=
  ⟨fun l0 l2 l3 a st E u => q_go (by decide +kernel : am_Pg 208 855 = some (.aload_n 1, 1, [], 0)) rfl,
  fun l1 l2 l3 st E u => q_go (by decide +kernel : am_Pg 208 856 = some (.aload_n 0, 1, [], 0)) rfl,
  fun l0 l1 l2 a st E u => q_go (by decide +kernel : am_Pg 208 857 = some (.iload_n 3, 1, [], 0)) rfl,
  fun l0 l1 l2 l3 st E u => q_go (by decide +kernel : am_Pg 208 858 = some (.iconst 1, 1, [], 0)) rfl,
  fun l0 l1 l2 l3 a b st E u => q_go (by decide +kernel : am_Pg 208 859 = some (.iadd, 1, [], 0)) rfl,
  fun l0 l1 l2 l3 i st E u h0 h1 => q_isc (by decide +kernel : am_Pg 208 860 = some (.iaload, 1, [], 0)) h0 h1,
  fun l1 l2 l3 st E u => q_go (by decide +kernel : am_Pg 208 861 = some (.aload_n 0, 1, [], 0)) rfl,
  fun l0 l1 l2 a st E u => q_go (by decide +kernel : am_Pg 208 862 = some (.iload_n 3, 1, [], 0)) rfl,
  fun l0 l1 l2 l3 st E u => q_go (by decide +kernel : am_Pg 208 863 = some (.iconst 2, 1, [], 0)) rfl,
  fun l0 l1 l2 l3 a b st E u => q_go (by decide +kernel : am_Pg 208 864 = some (.iadd, 1, [], 0)) rfl,
  fun l0 l1 l2 l3 i st E u h0 h1 => q_isc (by decide +kernel : am_Pg 208 865 = some (.iaload, 1, [], 0)) h0 h1,
  fun l1 l2 l3 st E u => q_go (by decide +kernel : am_Pg 208 866 = some (.aload_n 0, 1, [], 0)) rfl,
  fun l0 l1 l2 a st E u => q_go (by decide +kernel : am_Pg 208 867 = some (.iload_n 3, 1, [], 0)) rfl,
  fun l0 l1 l2 l3 st E u => q_go (by decide +kernel : am_Pg 208 868 = some (.iconst 3, 1, [], 0)) rfl,
  fun l0 l1 l2 l3 a b st E u => q_go (by decide +kernel : am_Pg 208 869 = some (.iadd, 1, [], 0)) rfl,
  fun l0 l1 l2 l3 i st E u h0 h1 => q_isc (by decide +kernel : am_Pg 208 870 = some (.iaload, 1, [], 0)) h0 h1,
  fun l0 l1 l2 l3 a0 a1 a2  E u hE => q_cI (by decide +kernel : am_Pg 208 871 = some (.invokevirtual 109, 3, [3, 157, 4, 4, 8, 0], 0)) (am_call_V (a := [vI a0, vI a1, vI a2]) (st' := []) (Nat.le_of_ble_eq_true rfl) rfl (SE_k4 hE)) (by decide +kernel : am_Lm m_A_place = 4) (Nat.le_of_ble_eq_true rfl) rfl (by decide +kernel),
  fun l0 l1 l3 a st E u => q_go (by decide +kernel : am_Pg 208 874 = some (.aload_n 2, 1, [], 0)) rfl,
  fun l1 l2 l3 st E u => q_go (by decide +kernel : am_Pg 208 875 = some (.aload_n 0, 1, [], 0)) rfl,
  fun l0 l1 l2 a st E u => q_go (by decide +kernel : am_Pg 208 876 = some (.iload_n 3, 1, [], 0)) rfl,
  fun l0 l1 l2 l3 st E u => q_go (by decide +kernel : am_Pg 208 877 = some (.iconst 1, 1, [], 0)) rfl,
  fun l0 l1 l2 l3 a b st E u => q_go (by decide +kernel : am_Pg 208 878 = some (.iadd, 1, [], 0)) rfl,
  fun l0 l1 l2 l3 i st E u h0 h1 => q_isc (by decide +kernel : am_Pg 208 879 = some (.iaload, 1, [], 0)) h0 h1,
  fun l1 l2 l3 st E u => q_go (by decide +kernel : am_Pg 208 880 = some (.aload_n 0, 1, [], 0)) rfl,
  fun l0 l1 l2 a st E u => q_go (by decide +kernel : am_Pg 208 881 = some (.iload_n 3, 1, [], 0)) rfl,
  fun l0 l1 l2 l3 st E u => q_go (by decide +kernel : am_Pg 208 882 = some (.iconst 2, 1, [], 0)) rfl,
  fun l0 l1 l2 l3 a b st E u => q_go (by decide +kernel : am_Pg 208 883 = some (.iadd, 1, [], 0)) rfl,
  fun l0 l1 l2 l3 i st E u h0 h1 => q_isc (by decide +kernel : am_Pg 208 884 = some (.iaload, 1, [], 0)) h0 h1,
  fun l1 l2 l3 st E u => q_go (by decide +kernel : am_Pg 208 885 = some (.aload_n 0, 1, [], 0)) rfl,
  fun l0 l1 l2 a st E u => q_go (by decide +kernel : am_Pg 208 886 = some (.iload_n 3, 1, [], 0)) rfl,
  fun l0 l1 l2 l3 st E u => q_go (by decide +kernel : am_Pg 208 887 = some (.iconst 3, 1, [], 0)) rfl,
  fun l0 l1 l2 l3 a b st E u => q_go (by decide +kernel : am_Pg 208 888 = some (.iadd, 1, [], 0)) rfl,
  fun l0 l1 l2 l3 i st E u h0 h1 => q_isc (by decide +kernel : am_Pg 208 889 = some (.iaload, 1, [], 0)) h0 h1,
  fun l0 l1 l2 l3 a0 a1 a2 r0 E u hE => q_cI (by decide +kernel : am_Pg 208 890 = some (.invokevirtual 112, 3, [3, 158, 4, 5, 17, 0], 0)) (am_call_V (a := [vI a0, vI a1, vI a2]) (st' := [r0]) (Nat.le_of_ble_eq_true rfl) rfl (SE_k5 hE)) (by decide +kernel : am_Lm m_M_place = 8) (Nat.le_of_ble_eq_true rfl) rfl (by decide +kernel),
  fun l0 l1 l2 l3 a b st E u => q_icmp_eq (tgt := 1449) (by decide +kernel : am_Pg 208 893 = some (.if_icmp .eq 556, 3, [], 0)) (by decide),
  fun l0 l1 l2 l3 st E u => q_go (by decide +kernel : am_Pg 208 896 = some (.iconst 0, 1, [], 0)) rfl,
  fun l0 l1 l2 l3 b E u => by cases b <;> exact q_ret (by decide +kernel : am_Pg 208 897 = some (.ireturn, 1, [1], 0)) rfl,
  fun l0 l1 l2 l3 E u => q_ret (by decide +kernel : am_Pg 208 897 = some (.ireturn, 1, [1], 0)) rfl,
  fun l0 l1 l2 l3 E u => q_ret (by decide +kernel : am_Pg 208 897 = some (.ireturn, 1, [1], 0)) rfl⟩
theorem x_L_law_898 :
  (∀ (l0 l2 l3 : am_V) (a : Option Nat) (st : List am_V) (E : am_E) (u : am_M), Rn m_L_law 898 [l0, vR a, l2, l3] st E u = Rn m_L_law 899 [l0, vR a, l2, l3] (vR a :: st) E u) ∧
  (∀ (l1 l2 l3 : am_V) (st : List am_V) (E : am_E) (u : am_M), Rn m_L_law 899 [vB true, l1, l2, l3] st E u = Rn m_L_law 900 [vB true, l1, l2, l3] (vB true :: st) E u) ∧
  (∀ (l0 l1 l2 : am_V) (a : Int) (st : List am_V) (E : am_E) (u : am_M), Rn m_L_law 900 [l0, l1, l2, vI a] st E u = Rn m_L_law 901 [l0, l1, l2, vI a] (vI a :: st) E u) ∧
  (∀ (l0 l1 l2 l3 : am_V) (st : List am_V) (E : am_E) (u : am_M), Rn m_L_law 901 [l0, l1, l2, l3] st E u = Rn m_L_law 902 [l0, l1, l2, l3] (vI 1 :: st) E u) ∧
  (∀ (l0 l1 l2 l3 : am_V) (a b : Int) (st : List am_V) (E : am_E) (u : am_M), Rn m_L_law 902 [l0, l1, l2, l3] (vI b :: vI a :: st) E u = Rn m_L_law 903 [l0, l1, l2, l3] (vI (w32 (a + b)) :: st) E u) ∧
  (∀ (l0 l1 l2 l3 : am_V) (i : Int) (st : List am_V) (E : am_E) (u : am_M) (h0 : 0 ≤ i) (h1 : i < (E.2.2.1 : Int)), Rn m_L_law 903 [l0, l1, l2, l3] (vI i :: vB true :: st) E u = Rn m_L_law 904 [l0, l1, l2, l3] (vI (E.2.2.2 i.toNat) :: st) E u) ∧
  (∀ (l1 l2 l3 : am_V) (st : List am_V) (E : am_E) (u : am_M), Rn m_L_law 904 [vB true, l1, l2, l3] st E u = Rn m_L_law 905 [vB true, l1, l2, l3] (vB true :: st) E u) ∧
  (∀ (l0 l1 l2 : am_V) (a : Int) (st : List am_V) (E : am_E) (u : am_M), Rn m_L_law 905 [l0, l1, l2, vI a] st E u = Rn m_L_law 906 [l0, l1, l2, vI a] (vI a :: st) E u) ∧
  (∀ (l0 l1 l2 l3 : am_V) (st : List am_V) (E : am_E) (u : am_M), Rn m_L_law 906 [l0, l1, l2, l3] st E u = Rn m_L_law 907 [l0, l1, l2, l3] (vI 2 :: st) E u) ∧
  (∀ (l0 l1 l2 l3 : am_V) (a b : Int) (st : List am_V) (E : am_E) (u : am_M), Rn m_L_law 907 [l0, l1, l2, l3] (vI b :: vI a :: st) E u = Rn m_L_law 908 [l0, l1, l2, l3] (vI (w32 (a + b)) :: st) E u) ∧
  (∀ (l0 l1 l2 l3 : am_V) (i : Int) (st : List am_V) (E : am_E) (u : am_M) (h0 : 0 ≤ i) (h1 : i < (E.2.2.1 : Int)), Rn m_L_law 908 [l0, l1, l2, l3] (vI i :: vB true :: st) E u = Rn m_L_law 909 [l0, l1, l2, l3] (vI (E.2.2.2 i.toNat) :: st) E u) ∧
  (∀ (l0 l1 l2 l3 : am_V) (a0 : Int) (a1 : Int) (E : am_E) (u : am_M) (hE : SE E), Rn m_L_law 909 [l0, l1, l2, l3] [vI a1, vI a0, vR (some 0)] E u = bdI (Rn m_A_nearest 0 [vR (some 0), vI a0, vI a1, vB false] [] E u) (KI m_L_law 912 [l0, l1, l2, l3] [])) ∧
  (∀ (l0 l1 l3 : am_V) (a : Option Nat) (st : List am_V) (E : am_E) (u : am_M), Rn m_L_law 912 [l0, l1, vR a, l3] st E u = Rn m_L_law 913 [l0, l1, vR a, l3] (vR a :: st) E u) ∧
  (∀ (l1 l2 l3 : am_V) (st : List am_V) (E : am_E) (u : am_M), Rn m_L_law 913 [vB true, l1, l2, l3] st E u = Rn m_L_law 914 [vB true, l1, l2, l3] (vB true :: st) E u) ∧
  (∀ (l0 l1 l2 : am_V) (a : Int) (st : List am_V) (E : am_E) (u : am_M), Rn m_L_law 914 [l0, l1, l2, vI a] st E u = Rn m_L_law 915 [l0, l1, l2, vI a] (vI a :: st) E u) ∧
  (∀ (l0 l1 l2 l3 : am_V) (st : List am_V) (E : am_E) (u : am_M), Rn m_L_law 915 [l0, l1, l2, l3] st E u = Rn m_L_law 916 [l0, l1, l2, l3] (vI 1 :: st) E u) ∧
  (∀ (l0 l1 l2 l3 : am_V) (a b : Int) (st : List am_V) (E : am_E) (u : am_M), Rn m_L_law 916 [l0, l1, l2, l3] (vI b :: vI a :: st) E u = Rn m_L_law 917 [l0, l1, l2, l3] (vI (w32 (a + b)) :: st) E u) ∧
  (∀ (l0 l1 l2 l3 : am_V) (i : Int) (st : List am_V) (E : am_E) (u : am_M) (h0 : 0 ≤ i) (h1 : i < (E.2.2.1 : Int)), Rn m_L_law 917 [l0, l1, l2, l3] (vI i :: vB true :: st) E u = Rn m_L_law 918 [l0, l1, l2, l3] (vI (E.2.2.2 i.toNat) :: st) E u) ∧
  (∀ (l1 l2 l3 : am_V) (st : List am_V) (E : am_E) (u : am_M), Rn m_L_law 918 [vB true, l1, l2, l3] st E u = Rn m_L_law 919 [vB true, l1, l2, l3] (vB true :: st) E u) ∧
  (∀ (l0 l1 l2 : am_V) (a : Int) (st : List am_V) (E : am_E) (u : am_M), Rn m_L_law 919 [l0, l1, l2, vI a] st E u = Rn m_L_law 920 [l0, l1, l2, vI a] (vI a :: st) E u) ∧
  (∀ (l0 l1 l2 l3 : am_V) (st : List am_V) (E : am_E) (u : am_M), Rn m_L_law 920 [l0, l1, l2, l3] st E u = Rn m_L_law 921 [l0, l1, l2, l3] (vI 2 :: st) E u) ∧
  (∀ (l0 l1 l2 l3 : am_V) (a b : Int) (st : List am_V) (E : am_E) (u : am_M), Rn m_L_law 921 [l0, l1, l2, l3] (vI b :: vI a :: st) E u = Rn m_L_law 922 [l0, l1, l2, l3] (vI (w32 (a + b)) :: st) E u) ∧
  (∀ (l0 l1 l2 l3 : am_V) (i : Int) (st : List am_V) (E : am_E) (u : am_M) (h0 : 0 ≤ i) (h1 : i < (E.2.2.1 : Int)), Rn m_L_law 922 [l0, l1, l2, l3] (vI i :: vB true :: st) E u = Rn m_L_law 923 [l0, l1, l2, l3] (vI (E.2.2.2 i.toNat) :: st) E u) ∧
  (∀ (l0 l1 l2 l3 : am_V) (a0 : Int) (a1 : Int) (r0 : am_V) (E : am_E) (u : am_M) (hE : SE E), Rn m_L_law 923 [l0, l1, l2, l3] [vI a1, vI a0, vR (some 149), r0] E u = bdI (Rn m_M_nearest 0 [vR (some 149), vI a0, vI a1, vB false] [] E u) (KI m_L_law 926 [l0, l1, l2, l3] [r0])) ∧
  (∀ (l0 l1 l2 l3 : am_V) (a b : Int) (st : List am_V) (E : am_E) (u : am_M), Rn m_L_law 926 [l0, l1, l2, l3] (vI b :: vI a :: st) E u = if a = b then Rn m_L_law 1449 [l0, l1, l2, l3] st E u else Rn m_L_law 929 [l0, l1, l2, l3] st E u) ∧
  (∀ (l0 l1 l2 l3 : am_V) (st : List am_V) (E : am_E) (u : am_M), Rn m_L_law 929 [l0, l1, l2, l3] st E u = Rn m_L_law 930 [l0, l1, l2, l3] (vI 0 :: st) E u) ∧
  (∀ (l0 l1 l2 l3 : am_V) (b : Bool) (E : am_E) (u : am_M), Rn m_L_law 930 [l0, l1, l2, l3] [vI (bI b)] E u = some (some (vI (bI b)), E, u)) ∧
  (∀ (l0 l1 l2 l3 : am_V) (E : am_E) (u : am_M), Rn m_L_law 930 [l0, l1, l2, l3] [vI 1] E u = some (some (vI 1), E, u)) ∧
  (∀ (l0 l1 l2 l3 : am_V) (E : am_E) (u : am_M), Rn m_L_law 930 [l0, l1, l2, l3] [vI 0] E u = some (some (vI 0), E, u)) :=
  ⟨fun l0 l2 l3 a st E u => q_go (by decide +kernel : am_Pg 208 898 = some (.aload_n 1, 1, [], 0)) rfl,
  fun l1 l2 l3 st E u => q_go (by decide +kernel : am_Pg 208 899 = some (.aload_n 0, 1, [], 0)) rfl,
  fun l0 l1 l2 a st E u => q_go (by decide +kernel : am_Pg 208 900 = some (.iload_n 3, 1, [], 0)) rfl,
  fun l0 l1 l2 l3 st E u => q_go (by decide +kernel : am_Pg 208 901 = some (.iconst 1, 1, [], 0)) rfl,
  fun l0 l1 l2 l3 a b st E u => q_go (by decide +kernel : am_Pg 208 902 = some (.iadd, 1, [], 0)) rfl,
  fun l0 l1 l2 l3 i st E u h0 h1 => q_isc (by decide +kernel : am_Pg 208 903 = some (.iaload, 1, [], 0)) h0 h1,
  fun l1 l2 l3 st E u => q_go (by decide +kernel : am_Pg 208 904 = some (.aload_n 0, 1, [], 0)) rfl,
  fun l0 l1 l2 a st E u => q_go (by decide +kernel : am_Pg 208 905 = some (.iload_n 3, 1, [], 0)) rfl,
  fun l0 l1 l2 l3 st E u => q_go (by decide +kernel : am_Pg 208 906 = some (.iconst 2, 1, [], 0)) rfl,
  fun l0 l1 l2 l3 a b st E u => q_go (by decide +kernel : am_Pg 208 907 = some (.iadd, 1, [], 0)) rfl,
  fun l0 l1 l2 l3 i st E u h0 h1 => q_isc (by decide +kernel : am_Pg 208 908 = some (.iaload, 1, [], 0)) h0 h1,
  fun l0 l1 l2 l3 a0 a1  E u hE => q_cI (by decide +kernel : am_Pg 208 909 = some (.invokevirtual 113, 3, [3, 159, 3, 4, 8, 0], 0)) (am_call_V (a := [vI a0, vI a1]) (st' := []) (Nat.le_of_ble_eq_true rfl) rfl (SE_k4 hE)) (by decide +kernel : am_Lm m_A_nearest = 4) (Nat.le_of_ble_eq_true rfl) rfl (by decide +kernel),
  fun l0 l1 l3 a st E u => q_go (by decide +kernel : am_Pg 208 912 = some (.aload_n 2, 1, [], 0)) rfl,
  fun l1 l2 l3 st E u => q_go (by decide +kernel : am_Pg 208 913 = some (.aload_n 0, 1, [], 0)) rfl,
  fun l0 l1 l2 a st E u => q_go (by decide +kernel : am_Pg 208 914 = some (.iload_n 3, 1, [], 0)) rfl,
  fun l0 l1 l2 l3 st E u => q_go (by decide +kernel : am_Pg 208 915 = some (.iconst 1, 1, [], 0)) rfl,
  fun l0 l1 l2 l3 a b st E u => q_go (by decide +kernel : am_Pg 208 916 = some (.iadd, 1, [], 0)) rfl,
  fun l0 l1 l2 l3 i st E u h0 h1 => q_isc (by decide +kernel : am_Pg 208 917 = some (.iaload, 1, [], 0)) h0 h1,
  fun l1 l2 l3 st E u => q_go (by decide +kernel : am_Pg 208 918 = some (.aload_n 0, 1, [], 0)) rfl,
  fun l0 l1 l2 a st E u => q_go (by decide +kernel : am_Pg 208 919 = some (.iload_n 3, 1, [], 0)) rfl,
  fun l0 l1 l2 l3 st E u => q_go (by decide +kernel : am_Pg 208 920 = some (.iconst 2, 1, [], 0)) rfl,
  fun l0 l1 l2 l3 a b st E u => q_go (by decide +kernel : am_Pg 208 921 = some (.iadd, 1, [], 0)) rfl,
  fun l0 l1 l2 l3 i st E u h0 h1 => q_isc (by decide +kernel : am_Pg 208 922 = some (.iaload, 1, [], 0)) h0 h1,
  fun l0 l1 l2 l3 a0 a1 r0 E u hE => q_cI (by decide +kernel : am_Pg 208 923 = some (.invokevirtual 116, 3, [3, 160, 3, 5, 17, 0], 0)) (am_call_V (a := [vI a0, vI a1]) (st' := [r0]) (Nat.le_of_ble_eq_true rfl) rfl (SE_k5 hE)) (by decide +kernel : am_Lm m_M_nearest = 4) (Nat.le_of_ble_eq_true rfl) rfl (by decide +kernel),
  fun l0 l1 l2 l3 a b st E u => q_icmp_eq (tgt := 1449) (by decide +kernel : am_Pg 208 926 = some (.if_icmp .eq 523, 3, [], 0)) (by decide),
  fun l0 l1 l2 l3 st E u => q_go (by decide +kernel : am_Pg 208 929 = some (.iconst 0, 1, [], 0)) rfl,
  fun l0 l1 l2 l3 b E u => by cases b <;> exact q_ret (by decide +kernel : am_Pg 208 930 = some (.ireturn, 1, [1], 0)) rfl,
  fun l0 l1 l2 l3 E u => q_ret (by decide +kernel : am_Pg 208 930 = some (.ireturn, 1, [1], 0)) rfl,
  fun l0 l1 l2 l3 E u => q_ret (by decide +kernel : am_Pg 208 930 = some (.ireturn, 1, [1], 0)) rfl⟩
theorem x_L_law_931 :
  (∀ (l0 l2 l3 : am_V) (a : Option Nat) (st : List am_V) (E : am_E) (u : am_M), Rn m_L_law 931 [l0, vR a, l2, l3] st E u = Rn m_L_law 932 [l0, vR a, l2, l3] (vR a :: st) E u) ∧
  (∀ (l1 l2 l3 : am_V) (st : List am_V) (E : am_E) (u : am_M), Rn m_L_law 932 [vB true, l1, l2, l3] st E u = Rn m_L_law 933 [vB true, l1, l2, l3] (vB true :: st) E u) ∧
  (∀ (l0 l1 l2 : am_V) (a : Int) (st : List am_V) (E : am_E) (u : am_M), Rn m_L_law 933 [l0, l1, l2, vI a] st E u = Rn m_L_law 934 [l0, l1, l2, vI a] (vI a :: st) E u) ∧
  (∀ (l0 l1 l2 l3 : am_V) (st : List am_V) (E : am_E) (u : am_M), Rn m_L_law 934 [l0, l1, l2, l3] st E u = Rn m_L_law 935 [l0, l1, l2, l3] (vI 1 :: st) E u) ∧
  (∀ (l0 l1 l2 l3 : am_V) (a b : Int) (st : List am_V) (E : am_E) (u : am_M), Rn m_L_law 935 [l0, l1, l2, l3] (vI b :: vI a :: st) E u = Rn m_L_law 936 [l0, l1, l2, l3] (vI (w32 (a + b)) :: st) E u) ∧
  (∀ (l0 l1 l2 l3 : am_V) (i : Int) (st : List am_V) (E : am_E) (u : am_M) (h0 : 0 ≤ i) (h1 : i < (E.2.2.1 : Int)), Rn m_L_law 936 [l0, l1, l2, l3] (vI i :: vB true :: st) E u = Rn m_L_law 937 [l0, l1, l2, l3] (vI (E.2.2.2 i.toNat) :: st) E u) ∧
  (∀ (l0 l1 l2 l3 : am_V) (a0 : Int) (E : am_E) (u : am_M) (hE : SE E), Rn m_L_law 937 [l0, l1, l2, l3] [vI a0, vR (some 0)] E u = bdI (Rn m_A_bound 0 [vR (some 0), vI a0, vB false, vB false] [] E u) (KI m_L_law 940 [l0, l1, l2, l3] [])) ∧
  (∀ (l0 l1 l3 : am_V) (a : Option Nat) (st : List am_V) (E : am_E) (u : am_M), Rn m_L_law 940 [l0, l1, vR a, l3] st E u = Rn m_L_law 941 [l0, l1, vR a, l3] (vR a :: st) E u) ∧
  (∀ (l1 l2 l3 : am_V) (st : List am_V) (E : am_E) (u : am_M), Rn m_L_law 941 [vB true, l1, l2, l3] st E u = Rn m_L_law 942 [vB true, l1, l2, l3] (vB true :: st) E u) ∧
  (∀ (l0 l1 l2 : am_V) (a : Int) (st : List am_V) (E : am_E) (u : am_M), Rn m_L_law 942 [l0, l1, l2, vI a] st E u = Rn m_L_law 943 [l0, l1, l2, vI a] (vI a :: st) E u) ∧
  (∀ (l0 l1 l2 l3 : am_V) (st : List am_V) (E : am_E) (u : am_M), Rn m_L_law 943 [l0, l1, l2, l3] st E u = Rn m_L_law 944 [l0, l1, l2, l3] (vI 1 :: st) E u) ∧
  (∀ (l0 l1 l2 l3 : am_V) (a b : Int) (st : List am_V) (E : am_E) (u : am_M), Rn m_L_law 944 [l0, l1, l2, l3] (vI b :: vI a :: st) E u = Rn m_L_law 945 [l0, l1, l2, l3] (vI (w32 (a + b)) :: st) E u) ∧
  (∀ (l0 l1 l2 l3 : am_V) (i : Int) (st : List am_V) (E : am_E) (u : am_M) (h0 : 0 ≤ i) (h1 : i < (E.2.2.1 : Int)), Rn m_L_law 945 [l0, l1, l2, l3] (vI i :: vB true :: st) E u = Rn m_L_law 946 [l0, l1, l2, l3] (vI (E.2.2.2 i.toNat) :: st) E u) ∧
  (∀ (l0 l1 l2 l3 : am_V) (a0 : Int) (r0 : am_V) (E : am_E) (u : am_M) (hE : SE E), Rn m_L_law 946 [l0, l1, l2, l3] [vI a0, vR (some 149), r0] E u = bdI (Rn m_M_bound 0 [vR (some 149), vI a0, vB false, vB false] [] E u) (KI m_L_law 949 [l0, l1, l2, l3] [r0])) ∧
  (∀ (l0 l1 l2 l3 : am_V) (a b : Int) (st : List am_V) (E : am_E) (u : am_M), Rn m_L_law 949 [l0, l1, l2, l3] (vI b :: vI a :: st) E u = if a = b then Rn m_L_law 1449 [l0, l1, l2, l3] st E u else Rn m_L_law 952 [l0, l1, l2, l3] st E u) ∧
  (∀ (l0 l1 l2 l3 : am_V) (st : List am_V) (E : am_E) (u : am_M), Rn m_L_law 952 [l0, l1, l2, l3] st E u = Rn m_L_law 953 [l0, l1, l2, l3] (vI 0 :: st) E u) ∧
  (∀ (l0 l1 l2 l3 : am_V) (b : Bool) (E : am_E) (u : am_M), Rn m_L_law 953 [l0, l1, l2, l3] [vI (bI b)] E u = some (some (vI (bI b)), E, u)) ∧
  (∀ (l0 l1 l2 l3 : am_V) (E : am_E) (u : am_M), Rn m_L_law 953 [l0, l1, l2, l3] [vI 1] E u = some (some (vI 1), E, u)) ∧
  (∀ (l0 l1 l2 l3 : am_V) (E : am_E) (u : am_M), Rn m_L_law 953 [l0, l1, l2, l3] [vI 0] E u = some (some (vI 0), E, u)) :=
  ⟨fun l0 l2 l3 a st E u => q_go (by decide +kernel : am_Pg 208 931 = some (.aload_n 1, 1, [], 0)) rfl,
  fun l1 l2 l3 st E u => q_go (by decide +kernel : am_Pg 208 932 = some (.aload_n 0, 1, [], 0)) rfl,
  fun l0 l1 l2 a st E u => q_go (by decide +kernel : am_Pg 208 933 = some (.iload_n 3, 1, [], 0)) rfl,
  fun l0 l1 l2 l3 st E u => q_go (by decide +kernel : am_Pg 208 934 = some (.iconst 1, 1, [], 0)) rfl,
  fun l0 l1 l2 l3 a b st E u => q_go (by decide +kernel : am_Pg 208 935 = some (.iadd, 1, [], 0)) rfl,
  fun l0 l1 l2 l3 i st E u h0 h1 => q_isc (by decide +kernel : am_Pg 208 936 = some (.iaload, 1, [], 0)) h0 h1,
  fun l0 l1 l2 l3 a0  E u hE => q_cI (by decide +kernel : am_Pg 208 937 = some (.invokevirtual 117, 3, [3, 163, 2, 4, 8, 0], 0)) (am_call_V (a := [vI a0]) (st' := []) (Nat.le_of_ble_eq_true rfl) rfl (SE_k4 hE)) (by decide +kernel : am_Lm m_A_bound = 4) (Nat.le_of_ble_eq_true rfl) rfl (by decide +kernel),
  fun l0 l1 l3 a st E u => q_go (by decide +kernel : am_Pg 208 940 = some (.aload_n 2, 1, [], 0)) rfl,
  fun l1 l2 l3 st E u => q_go (by decide +kernel : am_Pg 208 941 = some (.aload_n 0, 1, [], 0)) rfl,
  fun l0 l1 l2 a st E u => q_go (by decide +kernel : am_Pg 208 942 = some (.iload_n 3, 1, [], 0)) rfl,
  fun l0 l1 l2 l3 st E u => q_go (by decide +kernel : am_Pg 208 943 = some (.iconst 1, 1, [], 0)) rfl,
  fun l0 l1 l2 l3 a b st E u => q_go (by decide +kernel : am_Pg 208 944 = some (.iadd, 1, [], 0)) rfl,
  fun l0 l1 l2 l3 i st E u h0 h1 => q_isc (by decide +kernel : am_Pg 208 945 = some (.iaload, 1, [], 0)) h0 h1,
  fun l0 l1 l2 l3 a0 r0 E u hE => q_cI (by decide +kernel : am_Pg 208 946 = some (.invokevirtual 120, 3, [3, 165, 2, 5, 17, 0], 0)) (am_call_V (a := [vI a0]) (st' := [r0]) (Nat.le_of_ble_eq_true rfl) rfl (SE_k5 hE)) (by decide +kernel : am_Lm m_M_bound = 4) (Nat.le_of_ble_eq_true rfl) rfl (by decide +kernel),
  fun l0 l1 l2 l3 a b st E u => q_icmp_eq (tgt := 1449) (by decide +kernel : am_Pg 208 949 = some (.if_icmp .eq 500, 3, [], 0)) (by decide),
  fun l0 l1 l2 l3 st E u => q_go (by decide +kernel : am_Pg 208 952 = some (.iconst 0, 1, [], 0)) rfl,
  fun l0 l1 l2 l3 b E u => by cases b <;> exact q_ret (by decide +kernel : am_Pg 208 953 = some (.ireturn, 1, [1], 0)) rfl,
  fun l0 l1 l2 l3 E u => q_ret (by decide +kernel : am_Pg 208 953 = some (.ireturn, 1, [1], 0)) rfl,
  fun l0 l1 l2 l3 E u => q_ret (by decide +kernel : am_Pg 208 953 = some (.ireturn, 1, [1], 0)) rfl⟩
theorem x_L_law_954 :
  (∀ (l0 l2 l3 : am_V) (a : Option Nat) (st : List am_V) (E : am_E) (u : am_M), Rn m_L_law 954 [l0, vR a, l2, l3] st E u = Rn m_L_law 955 [l0, vR a, l2, l3] (vR a :: st) E u) ∧
  (∀ (l1 l2 l3 : am_V) (st : List am_V) (E : am_E) (u : am_M), Rn m_L_law 955 [vB true, l1, l2, l3] st E u = Rn m_L_law 956 [vB true, l1, l2, l3] (vB true :: st) E u) ∧
  (∀ (l0 l1 l2 : am_V) (a : Int) (st : List am_V) (E : am_E) (u : am_M), Rn m_L_law 956 [l0, l1, l2, vI a] st E u = Rn m_L_law 957 [l0, l1, l2, vI a] (vI a :: st) E u) ∧
  (∀ (l0 l1 l2 l3 : am_V) (st : List am_V) (E : am_E) (u : am_M), Rn m_L_law 957 [l0, l1, l2, l3] st E u = Rn m_L_law 958 [l0, l1, l2, l3] (vI 1 :: st) E u) ∧
  (∀ (l0 l1 l2 l3 : am_V) (a b : Int) (st : List am_V) (E : am_E) (u : am_M), Rn m_L_law 958 [l0, l1, l2, l3] (vI b :: vI a :: st) E u = Rn m_L_law 959 [l0, l1, l2, l3] (vI (w32 (a + b)) :: st) E u) ∧
  (∀ (l0 l1 l2 l3 : am_V) (i : Int) (st : List am_V) (E : am_E) (u : am_M) (h0 : 0 ≤ i) (h1 : i < (E.2.2.1 : Int)), Rn m_L_law 959 [l0, l1, l2, l3] (vI i :: vB true :: st) E u = Rn m_L_law 960 [l0, l1, l2, l3] (vI (E.2.2.2 i.toNat) :: st) E u) ∧
  (∀ (l1 l2 l3 : am_V) (st : List am_V) (E : am_E) (u : am_M), Rn m_L_law 960 [vB true, l1, l2, l3] st E u = Rn m_L_law 961 [vB true, l1, l2, l3] (vB true :: st) E u) ∧
  (∀ (l0 l1 l2 : am_V) (a : Int) (st : List am_V) (E : am_E) (u : am_M), Rn m_L_law 961 [l0, l1, l2, vI a] st E u = Rn m_L_law 962 [l0, l1, l2, vI a] (vI a :: st) E u) ∧
  (∀ (l0 l1 l2 l3 : am_V) (st : List am_V) (E : am_E) (u : am_M), Rn m_L_law 962 [l0, l1, l2, l3] st E u = Rn m_L_law 963 [l0, l1, l2, l3] (vI 2 :: st) E u) ∧
  (∀ (l0 l1 l2 l3 : am_V) (a b : Int) (st : List am_V) (E : am_E) (u : am_M), Rn m_L_law 963 [l0, l1, l2, l3] (vI b :: vI a :: st) E u = Rn m_L_law 964 [l0, l1, l2, l3] (vI (w32 (a + b)) :: st) E u) ∧
  (∀ (l0 l1 l2 l3 : am_V) (i : Int) (st : List am_V) (E : am_E) (u : am_M) (h0 : 0 ≤ i) (h1 : i < (E.2.2.1 : Int)), Rn m_L_law 964 [l0, l1, l2, l3] (vI i :: vB true :: st) E u = Rn m_L_law 965 [l0, l1, l2, l3] (vI (E.2.2.2 i.toNat) :: st) E u) ∧
  (∀ (l0 l1 l2 l3 : am_V) (a0 : Int) (a1 : Int) (E : am_E) (u : am_M) (hE : SE E), Rn m_L_law 965 [l0, l1, l2, l3] [vI a1, vI a0, vR (some 0)] E u = bdI (Rn m_A_between 0 [vR (some 0), vI a0, vI a1, vB false, vB false] [] E u) (KI m_L_law 968 [l0, l1, l2, l3] [])) ∧
  (∀ (l0 l1 l3 : am_V) (a : Option Nat) (st : List am_V) (E : am_E) (u : am_M), Rn m_L_law 968 [l0, l1, vR a, l3] st E u = Rn m_L_law 969 [l0, l1, vR a, l3] (vR a :: st) E u) ∧
  (∀ (l1 l2 l3 : am_V) (st : List am_V) (E : am_E) (u : am_M), Rn m_L_law 969 [vB true, l1, l2, l3] st E u = Rn m_L_law 970 [vB true, l1, l2, l3] (vB true :: st) E u) ∧
  (∀ (l0 l1 l2 : am_V) (a : Int) (st : List am_V) (E : am_E) (u : am_M), Rn m_L_law 970 [l0, l1, l2, vI a] st E u = Rn m_L_law 971 [l0, l1, l2, vI a] (vI a :: st) E u) ∧
  (∀ (l0 l1 l2 l3 : am_V) (st : List am_V) (E : am_E) (u : am_M), Rn m_L_law 971 [l0, l1, l2, l3] st E u = Rn m_L_law 972 [l0, l1, l2, l3] (vI 1 :: st) E u) ∧
  (∀ (l0 l1 l2 l3 : am_V) (a b : Int) (st : List am_V) (E : am_E) (u : am_M), Rn m_L_law 972 [l0, l1, l2, l3] (vI b :: vI a :: st) E u = Rn m_L_law 973 [l0, l1, l2, l3] (vI (w32 (a + b)) :: st) E u) ∧
  (∀ (l0 l1 l2 l3 : am_V) (i : Int) (st : List am_V) (E : am_E) (u : am_M) (h0 : 0 ≤ i) (h1 : i < (E.2.2.1 : Int)), Rn m_L_law 973 [l0, l1, l2, l3] (vI i :: vB true :: st) E u = Rn m_L_law 974 [l0, l1, l2, l3] (vI (E.2.2.2 i.toNat) :: st) E u) ∧
  (∀ (l1 l2 l3 : am_V) (st : List am_V) (E : am_E) (u : am_M), Rn m_L_law 974 [vB true, l1, l2, l3] st E u = Rn m_L_law 975 [vB true, l1, l2, l3] (vB true :: st) E u) ∧
  (∀ (l0 l1 l2 : am_V) (a : Int) (st : List am_V) (E : am_E) (u : am_M), Rn m_L_law 975 [l0, l1, l2, vI a] st E u = Rn m_L_law 976 [l0, l1, l2, vI a] (vI a :: st) E u) ∧
  (∀ (l0 l1 l2 l3 : am_V) (st : List am_V) (E : am_E) (u : am_M), Rn m_L_law 976 [l0, l1, l2, l3] st E u = Rn m_L_law 977 [l0, l1, l2, l3] (vI 2 :: st) E u) ∧
  (∀ (l0 l1 l2 l3 : am_V) (a b : Int) (st : List am_V) (E : am_E) (u : am_M), Rn m_L_law 977 [l0, l1, l2, l3] (vI b :: vI a :: st) E u = Rn m_L_law 978 [l0, l1, l2, l3] (vI (w32 (a + b)) :: st) E u) ∧
  (∀ (l0 l1 l2 l3 : am_V) (i : Int) (st : List am_V) (E : am_E) (u : am_M) (h0 : 0 ≤ i) (h1 : i < (E.2.2.1 : Int)), Rn m_L_law 978 [l0, l1, l2, l3] (vI i :: vB true :: st) E u = Rn m_L_law 979 [l0, l1, l2, l3] (vI (E.2.2.2 i.toNat) :: st) E u) ∧
  (∀ (l0 l1 l2 l3 : am_V) (a0 : Int) (a1 : Int) (r0 : am_V) (E : am_E) (u : am_M) (hE : SE E), Rn m_L_law 979 [l0, l1, l2, l3] [vI a1, vI a0, vR (some 149), r0] E u = bdI (Rn m_M_between 0 [vR (some 149), vI a0, vI a1, vB false, vB false] [] E u) (KI m_L_law 982 [l0, l1, l2, l3] [r0])) ∧
  (∀ (l0 l1 l2 l3 : am_V) (a b : Int) (st : List am_V) (E : am_E) (u : am_M), Rn m_L_law 982 [l0, l1, l2, l3] (vI b :: vI a :: st) E u = if a = b then Rn m_L_law 1449 [l0, l1, l2, l3] st E u else Rn m_L_law 985 [l0, l1, l2, l3] st E u) ∧
  (∀ (l0 l1 l2 l3 : am_V) (st : List am_V) (E : am_E) (u : am_M), Rn m_L_law 985 [l0, l1, l2, l3] st E u = Rn m_L_law 986 [l0, l1, l2, l3] (vI 0 :: st) E u) ∧
  (∀ (l0 l1 l2 l3 : am_V) (b : Bool) (E : am_E) (u : am_M), Rn m_L_law 986 [l0, l1, l2, l3] [vI (bI b)] E u = some (some (vI (bI b)), E, u)) ∧
  (∀ (l0 l1 l2 l3 : am_V) (E : am_E) (u : am_M), Rn m_L_law 986 [l0, l1, l2, l3] [vI 1] E u = some (some (vI 1), E, u)) ∧
  (∀ (l0 l1 l2 l3 : am_V) (E : am_E) (u : am_M), Rn m_L_law 986 [l0, l1, l2, l3] [vI 0] E u = some (some (vI 0), E, u)) :=
  ⟨fun l0 l2 l3 a st E u => q_go (by decide +kernel : am_Pg 208 954 = some (.aload_n 1, 1, [], 0)) rfl,
  fun l1 l2 l3 st E u => q_go (by decide +kernel : am_Pg 208 955 = some (.aload_n 0, 1, [], 0)) rfl,
  fun l0 l1 l2 a st E u => q_go (by decide +kernel : am_Pg 208 956 = some (.iload_n 3, 1, [], 0)) rfl,
  fun l0 l1 l2 l3 st E u => q_go (by decide +kernel : am_Pg 208 957 = some (.iconst 1, 1, [], 0)) rfl,
  fun l0 l1 l2 l3 a b st E u => q_go (by decide +kernel : am_Pg 208 958 = some (.iadd, 1, [], 0)) rfl,
  fun l0 l1 l2 l3 i st E u h0 h1 => q_isc (by decide +kernel : am_Pg 208 959 = some (.iaload, 1, [], 0)) h0 h1,
  fun l1 l2 l3 st E u => q_go (by decide +kernel : am_Pg 208 960 = some (.aload_n 0, 1, [], 0)) rfl,
  fun l0 l1 l2 a st E u => q_go (by decide +kernel : am_Pg 208 961 = some (.iload_n 3, 1, [], 0)) rfl,
  fun l0 l1 l2 l3 st E u => q_go (by decide +kernel : am_Pg 208 962 = some (.iconst 2, 1, [], 0)) rfl,
  fun l0 l1 l2 l3 a b st E u => q_go (by decide +kernel : am_Pg 208 963 = some (.iadd, 1, [], 0)) rfl,
  fun l0 l1 l2 l3 i st E u h0 h1 => q_isc (by decide +kernel : am_Pg 208 964 = some (.iaload, 1, [], 0)) h0 h1,
  fun l0 l1 l2 l3 a0 a1  E u hE => q_cI (by decide +kernel : am_Pg 208 965 = some (.invokevirtual 121, 3, [3, 166, 3, 4, 8, 0], 0)) (am_call_V (a := [vI a0, vI a1]) (st' := []) (Nat.le_of_ble_eq_true rfl) rfl (SE_k4 hE)) (by decide +kernel : am_Lm m_A_between = 5) (Nat.le_of_ble_eq_true rfl) rfl (by decide +kernel),
  fun l0 l1 l3 a st E u => q_go (by decide +kernel : am_Pg 208 968 = some (.aload_n 2, 1, [], 0)) rfl,
  fun l1 l2 l3 st E u => q_go (by decide +kernel : am_Pg 208 969 = some (.aload_n 0, 1, [], 0)) rfl,
  fun l0 l1 l2 a st E u => q_go (by decide +kernel : am_Pg 208 970 = some (.iload_n 3, 1, [], 0)) rfl,
  fun l0 l1 l2 l3 st E u => q_go (by decide +kernel : am_Pg 208 971 = some (.iconst 1, 1, [], 0)) rfl,
  fun l0 l1 l2 l3 a b st E u => q_go (by decide +kernel : am_Pg 208 972 = some (.iadd, 1, [], 0)) rfl,
  fun l0 l1 l2 l3 i st E u h0 h1 => q_isc (by decide +kernel : am_Pg 208 973 = some (.iaload, 1, [], 0)) h0 h1,
  fun l1 l2 l3 st E u => q_go (by decide +kernel : am_Pg 208 974 = some (.aload_n 0, 1, [], 0)) rfl,
  fun l0 l1 l2 a st E u => q_go (by decide +kernel : am_Pg 208 975 = some (.iload_n 3, 1, [], 0)) rfl,
  fun l0 l1 l2 l3 st E u => q_go (by decide +kernel : am_Pg 208 976 = some (.iconst 2, 1, [], 0)) rfl,
  fun l0 l1 l2 l3 a b st E u => q_go (by decide +kernel : am_Pg 208 977 = some (.iadd, 1, [], 0)) rfl,
  fun l0 l1 l2 l3 i st E u h0 h1 => q_isc (by decide +kernel : am_Pg 208 978 = some (.iaload, 1, [], 0)) h0 h1,
  fun l0 l1 l2 l3 a0 a1 r0 E u hE => q_cI (by decide +kernel : am_Pg 208 979 = some (.invokevirtual 124, 3, [3, 167, 3, 5, 17, 0], 0)) (am_call_V (a := [vI a0, vI a1]) (st' := [r0]) (Nat.le_of_ble_eq_true rfl) rfl (SE_k5 hE)) (by decide +kernel : am_Lm m_M_between = 5) (Nat.le_of_ble_eq_true rfl) rfl (by decide +kernel),
  fun l0 l1 l2 l3 a b st E u => q_icmp_eq (tgt := 1449) (by decide +kernel : am_Pg 208 982 = some (.if_icmp .eq 467, 3, [], 0)) (by decide),
  fun l0 l1 l2 l3 st E u => q_go (by decide +kernel : am_Pg 208 985 = some (.iconst 0, 1, [], 0)) rfl,
  fun l0 l1 l2 l3 b E u => by cases b <;> exact q_ret (by decide +kernel : am_Pg 208 986 = some (.ireturn, 1, [1], 0)) rfl,
  fun l0 l1 l2 l3 E u => q_ret (by decide +kernel : am_Pg 208 986 = some (.ireturn, 1, [1], 0)) rfl,
  fun l0 l1 l2 l3 E u => q_ret (by decide +kernel : am_Pg 208 986 = some (.ireturn, 1, [1], 0)) rfl⟩
theorem x_L_law_987 :
  (∀ (l0 l2 l3 : am_V) (a : Option Nat) (st : List am_V) (E : am_E) (u : am_M), Rn m_L_law 987 [l0, vR a, l2, l3] st E u = Rn m_L_law 988 [l0, vR a, l2, l3] (vR a :: st) E u) ∧
  (∀ (l1 l2 l3 : am_V) (st : List am_V) (E : am_E) (u : am_M), Rn m_L_law 988 [vB true, l1, l2, l3] st E u = Rn m_L_law 989 [vB true, l1, l2, l3] (vB true :: st) E u) ∧
  (∀ (l0 l1 l2 : am_V) (a : Int) (st : List am_V) (E : am_E) (u : am_M), Rn m_L_law 989 [l0, l1, l2, vI a] st E u = Rn m_L_law 990 [l0, l1, l2, vI a] (vI a :: st) E u) ∧
  (∀ (l0 l1 l2 l3 : am_V) (st : List am_V) (E : am_E) (u : am_M), Rn m_L_law 990 [l0, l1, l2, l3] st E u = Rn m_L_law 991 [l0, l1, l2, l3] (vI 1 :: st) E u) ∧
  (∀ (l0 l1 l2 l3 : am_V) (a b : Int) (st : List am_V) (E : am_E) (u : am_M), Rn m_L_law 991 [l0, l1, l2, l3] (vI b :: vI a :: st) E u = Rn m_L_law 992 [l0, l1, l2, l3] (vI (w32 (a + b)) :: st) E u) ∧
  (∀ (l0 l1 l2 l3 : am_V) (i : Int) (st : List am_V) (E : am_E) (u : am_M) (h0 : 0 ≤ i) (h1 : i < (E.2.2.1 : Int)), Rn m_L_law 992 [l0, l1, l2, l3] (vI i :: vB true :: st) E u = Rn m_L_law 993 [l0, l1, l2, l3] (vI (E.2.2.2 i.toNat) :: st) E u) ∧
  (∀ (l0 l1 l2 l3 : am_V) (a0 : Int) (E : am_E) (u : am_M) (hE : SE E), Rn m_L_law 993 [l0, l1, l2, l3] [vI a0, vR (some 0)] E u = bdI (Rn m_A_which 0 [vR (some 0), vI a0] [] E u) (KI m_L_law 996 [l0, l1, l2, l3] [])) ∧
  (∀ (l0 l1 l3 : am_V) (a : Option Nat) (st : List am_V) (E : am_E) (u : am_M), Rn m_L_law 996 [l0, l1, vR a, l3] st E u = Rn m_L_law 997 [l0, l1, vR a, l3] (vR a :: st) E u) ∧
  (∀ (l1 l2 l3 : am_V) (st : List am_V) (E : am_E) (u : am_M), Rn m_L_law 997 [vB true, l1, l2, l3] st E u = Rn m_L_law 998 [vB true, l1, l2, l3] (vB true :: st) E u) ∧
  (∀ (l0 l1 l2 : am_V) (a : Int) (st : List am_V) (E : am_E) (u : am_M), Rn m_L_law 998 [l0, l1, l2, vI a] st E u = Rn m_L_law 999 [l0, l1, l2, vI a] (vI a :: st) E u) ∧
  (∀ (l0 l1 l2 l3 : am_V) (st : List am_V) (E : am_E) (u : am_M), Rn m_L_law 999 [l0, l1, l2, l3] st E u = Rn m_L_law 1000 [l0, l1, l2, l3] (vI 1 :: st) E u) ∧
  (∀ (l0 l1 l2 l3 : am_V) (a b : Int) (st : List am_V) (E : am_E) (u : am_M), Rn m_L_law 1000 [l0, l1, l2, l3] (vI b :: vI a :: st) E u = Rn m_L_law 1001 [l0, l1, l2, l3] (vI (w32 (a + b)) :: st) E u) ∧
  (∀ (l0 l1 l2 l3 : am_V) (i : Int) (st : List am_V) (E : am_E) (u : am_M) (h0 : 0 ≤ i) (h1 : i < (E.2.2.1 : Int)), Rn m_L_law 1001 [l0, l1, l2, l3] (vI i :: vB true :: st) E u = Rn m_L_law 1002 [l0, l1, l2, l3] (vI (E.2.2.2 i.toNat) :: st) E u) ∧
  (∀ (l0 l1 l2 l3 : am_V) (a0 : Int) (r0 : am_V) (E : am_E) (u : am_M) (hE : SE E), Rn m_L_law 1002 [l0, l1, l2, l3] [vI a0, vR (some 149), r0] E u = bdI (Rn m_M_which 0 [vR (some 149), vI a0, vB false, vB false, vB false, vB false, vB false] [] E u) (KI m_L_law 1005 [l0, l1, l2, l3] [r0])) ∧
  (∀ (l0 l1 l2 l3 : am_V) (a b : Int) (st : List am_V) (E : am_E) (u : am_M), Rn m_L_law 1005 [l0, l1, l2, l3] (vI b :: vI a :: st) E u = if a = b then Rn m_L_law 1449 [l0, l1, l2, l3] st E u else Rn m_L_law 1008 [l0, l1, l2, l3] st E u) ∧
  (∀ (l0 l1 l2 l3 : am_V) (st : List am_V) (E : am_E) (u : am_M), Rn m_L_law 1008 [l0, l1, l2, l3] st E u = Rn m_L_law 1009 [l0, l1, l2, l3] (vI 0 :: st) E u) ∧
  (∀ (l0 l1 l2 l3 : am_V) (b : Bool) (E : am_E) (u : am_M), Rn m_L_law 1009 [l0, l1, l2, l3] [vI (bI b)] E u = some (some (vI (bI b)), E, u)) ∧
  (∀ (l0 l1 l2 l3 : am_V) (E : am_E) (u : am_M), Rn m_L_law 1009 [l0, l1, l2, l3] [vI 1] E u = some (some (vI 1), E, u)) ∧
  (∀ (l0 l1 l2 l3 : am_V) (E : am_E) (u : am_M), Rn m_L_law 1009 [l0, l1, l2, l3] [vI 0] E u = some (some (vI 0), E, u)) :=
  ⟨fun l0 l2 l3 a st E u => q_go (by decide +kernel : am_Pg 208 987 = some (.aload_n 1, 1, [], 0)) rfl,
  fun l1 l2 l3 st E u => q_go (by decide +kernel : am_Pg 208 988 = some (.aload_n 0, 1, [], 0)) rfl,
  fun l0 l1 l2 a st E u => q_go (by decide +kernel : am_Pg 208 989 = some (.iload_n 3, 1, [], 0)) rfl,
  fun l0 l1 l2 l3 st E u => q_go (by decide +kernel : am_Pg 208 990 = some (.iconst 1, 1, [], 0)) rfl,
  fun l0 l1 l2 l3 a b st E u => q_go (by decide +kernel : am_Pg 208 991 = some (.iadd, 1, [], 0)) rfl,
  fun l0 l1 l2 l3 i st E u h0 h1 => q_isc (by decide +kernel : am_Pg 208 992 = some (.iaload, 1, [], 0)) h0 h1,
  fun l0 l1 l2 l3 a0  E u hE => q_cI (by decide +kernel : am_Pg 208 993 = some (.invokevirtual 125, 3, [3, 170, 2, 4, 8, 0], 0)) (am_call_V (a := [vI a0]) (st' := []) (Nat.le_of_ble_eq_true rfl) rfl (SE_k4 hE)) (by decide +kernel : am_Lm m_A_which = 2) (Nat.le_of_ble_eq_true rfl) rfl (by decide +kernel),
  fun l0 l1 l3 a st E u => q_go (by decide +kernel : am_Pg 208 996 = some (.aload_n 2, 1, [], 0)) rfl,
  fun l1 l2 l3 st E u => q_go (by decide +kernel : am_Pg 208 997 = some (.aload_n 0, 1, [], 0)) rfl,
  fun l0 l1 l2 a st E u => q_go (by decide +kernel : am_Pg 208 998 = some (.iload_n 3, 1, [], 0)) rfl,
  fun l0 l1 l2 l3 st E u => q_go (by decide +kernel : am_Pg 208 999 = some (.iconst 1, 1, [], 0)) rfl,
  fun l0 l1 l2 l3 a b st E u => q_go (by decide +kernel : am_Pg 208 1000 = some (.iadd, 1, [], 0)) rfl,
  fun l0 l1 l2 l3 i st E u h0 h1 => q_isc (by decide +kernel : am_Pg 208 1001 = some (.iaload, 1, [], 0)) h0 h1,
  fun l0 l1 l2 l3 a0 r0 E u hE => q_cI (by decide +kernel : am_Pg 208 1002 = some (.invokevirtual 128, 3, [3, 171, 2, 5, 17, 0], 0)) (am_call_V (a := [vI a0]) (st' := [r0]) (Nat.le_of_ble_eq_true rfl) rfl (SE_k5 hE)) (by decide +kernel : am_Lm m_M_which = 7) (Nat.le_of_ble_eq_true rfl) rfl (by decide +kernel),
  fun l0 l1 l2 l3 a b st E u => q_icmp_eq (tgt := 1449) (by decide +kernel : am_Pg 208 1005 = some (.if_icmp .eq 444, 3, [], 0)) (by decide),
  fun l0 l1 l2 l3 st E u => q_go (by decide +kernel : am_Pg 208 1008 = some (.iconst 0, 1, [], 0)) rfl,
  fun l0 l1 l2 l3 b E u => by cases b <;> exact q_ret (by decide +kernel : am_Pg 208 1009 = some (.ireturn, 1, [1], 0)) rfl,
  fun l0 l1 l2 l3 E u => q_ret (by decide +kernel : am_Pg 208 1009 = some (.ireturn, 1, [1], 0)) rfl,
  fun l0 l1 l2 l3 E u => q_ret (by decide +kernel : am_Pg 208 1009 = some (.ireturn, 1, [1], 0)) rfl⟩
theorem x_L_law_1010 :
  (∀ (l0 l2 l3 : am_V) (a : Option Nat) (st : List am_V) (E : am_E) (u : am_M), Rn m_L_law 1010 [l0, vR a, l2, l3] st E u = Rn m_L_law 1011 [l0, vR a, l2, l3] (vR a :: st) E u) ∧
  (∀ (l1 l2 l3 : am_V) (st : List am_V) (E : am_E) (u : am_M), Rn m_L_law 1011 [vB true, l1, l2, l3] st E u = Rn m_L_law 1012 [vB true, l1, l2, l3] (vB true :: st) E u) ∧
  (∀ (l0 l1 l2 : am_V) (a : Int) (st : List am_V) (E : am_E) (u : am_M), Rn m_L_law 1012 [l0, l1, l2, vI a] st E u = Rn m_L_law 1013 [l0, l1, l2, vI a] (vI a :: st) E u) ∧
  (∀ (l0 l1 l2 l3 : am_V) (st : List am_V) (E : am_E) (u : am_M), Rn m_L_law 1013 [l0, l1, l2, l3] st E u = Rn m_L_law 1014 [l0, l1, l2, l3] (vI 1 :: st) E u) ∧
  (∀ (l0 l1 l2 l3 : am_V) (a b : Int) (st : List am_V) (E : am_E) (u : am_M), Rn m_L_law 1014 [l0, l1, l2, l3] (vI b :: vI a :: st) E u = Rn m_L_law 1015 [l0, l1, l2, l3] (vI (w32 (a + b)) :: st) E u) ∧
  (∀ (l0 l1 l2 l3 : am_V) (i : Int) (st : List am_V) (E : am_E) (u : am_M) (h0 : 0 ≤ i) (h1 : i < (E.2.2.1 : Int)), Rn m_L_law 1015 [l0, l1, l2, l3] (vI i :: vB true :: st) E u = Rn m_L_law 1016 [l0, l1, l2, l3] (vI (E.2.2.2 i.toNat) :: st) E u) ∧
  (∀ (l1 l2 l3 : am_V) (st : List am_V) (E : am_E) (u : am_M), Rn m_L_law 1016 [vB true, l1, l2, l3] st E u = Rn m_L_law 1017 [vB true, l1, l2, l3] (vB true :: st) E u) ∧
  (∀ (l0 l1 l2 : am_V) (a : Int) (st : List am_V) (E : am_E) (u : am_M), Rn m_L_law 1017 [l0, l1, l2, vI a] st E u = Rn m_L_law 1018 [l0, l1, l2, vI a] (vI a :: st) E u) ∧
  (∀ (l0 l1 l2 l3 : am_V) (st : List am_V) (E : am_E) (u : am_M), Rn m_L_law 1018 [l0, l1, l2, l3] st E u = Rn m_L_law 1019 [l0, l1, l2, l3] (vI 2 :: st) E u) ∧
  (∀ (l0 l1 l2 l3 : am_V) (a b : Int) (st : List am_V) (E : am_E) (u : am_M), Rn m_L_law 1019 [l0, l1, l2, l3] (vI b :: vI a :: st) E u = Rn m_L_law 1020 [l0, l1, l2, l3] (vI (w32 (a + b)) :: st) E u) ∧
  (∀ (l0 l1 l2 l3 : am_V) (i : Int) (st : List am_V) (E : am_E) (u : am_M) (h0 : 0 ≤ i) (h1 : i < (E.2.2.1 : Int)), Rn m_L_law 1020 [l0, l1, l2, l3] (vI i :: vB true :: st) E u = Rn m_L_law 1021 [l0, l1, l2, l3] (vI (E.2.2.2 i.toNat) :: st) E u) ∧
  (∀ (l1 l2 l3 : am_V) (st : List am_V) (E : am_E) (u : am_M), Rn m_L_law 1021 [vB true, l1, l2, l3] st E u = Rn m_L_law 1022 [vB true, l1, l2, l3] (vB true :: st) E u) ∧
  (∀ (l0 l1 l2 : am_V) (a : Int) (st : List am_V) (E : am_E) (u : am_M), Rn m_L_law 1022 [l0, l1, l2, vI a] st E u = Rn m_L_law 1023 [l0, l1, l2, vI a] (vI a :: st) E u) ∧
  (∀ (l0 l1 l2 l3 : am_V) (st : List am_V) (E : am_E) (u : am_M), Rn m_L_law 1023 [l0, l1, l2, l3] st E u = Rn m_L_law 1024 [l0, l1, l2, l3] (vI 3 :: st) E u) ∧
  (∀ (l0 l1 l2 l3 : am_V) (a b : Int) (st : List am_V) (E : am_E) (u : am_M), Rn m_L_law 1024 [l0, l1, l2, l3] (vI b :: vI a :: st) E u = Rn m_L_law 1025 [l0, l1, l2, l3] (vI (w32 (a + b)) :: st) E u) ∧
  (∀ (l0 l1 l2 l3 : am_V) (i : Int) (st : List am_V) (E : am_E) (u : am_M) (h0 : 0 ≤ i) (h1 : i < (E.2.2.1 : Int)), Rn m_L_law 1025 [l0, l1, l2, l3] (vI i :: vB true :: st) E u = Rn m_L_law 1026 [l0, l1, l2, l3] (vI (E.2.2.2 i.toNat) :: st) E u) ∧
  (∀ (l1 l2 l3 : am_V) (st : List am_V) (E : am_E) (u : am_M), Rn m_L_law 1026 [vB true, l1, l2, l3] st E u = Rn m_L_law 1027 [vB true, l1, l2, l3] (vB true :: st) E u) ∧
  (∀ (l0 l1 l2 : am_V) (a : Int) (st : List am_V) (E : am_E) (u : am_M), Rn m_L_law 1027 [l0, l1, l2, vI a] st E u = Rn m_L_law 1028 [l0, l1, l2, vI a] (vI a :: st) E u) ∧
  (∀ (l0 l1 l2 l3 : am_V) (st : List am_V) (E : am_E) (u : am_M), Rn m_L_law 1028 [l0, l1, l2, l3] st E u = Rn m_L_law 1029 [l0, l1, l2, l3] (vI 4 :: st) E u) ∧
  (∀ (l0 l1 l2 l3 : am_V) (a b : Int) (st : List am_V) (E : am_E) (u : am_M), Rn m_L_law 1029 [l0, l1, l2, l3] (vI b :: vI a :: st) E u = Rn m_L_law 1030 [l0, l1, l2, l3] (vI (w32 (a + b)) :: st) E u) ∧
  (∀ (l0 l1 l2 l3 : am_V) (i : Int) (st : List am_V) (E : am_E) (u : am_M) (h0 : 0 ≤ i) (h1 : i < (E.2.2.1 : Int)), Rn m_L_law 1030 [l0, l1, l2, l3] (vI i :: vB true :: st) E u = Rn m_L_law 1031 [l0, l1, l2, l3] (vI (E.2.2.2 i.toNat) :: st) E u) ∧
  (∀ (l1 l2 l3 : am_V) (st : List am_V) (E : am_E) (u : am_M), Rn m_L_law 1031 [vB true, l1, l2, l3] st E u = Rn m_L_law 1032 [vB true, l1, l2, l3] (vB true :: st) E u) ∧
  (∀ (l0 l1 l2 : am_V) (a : Int) (st : List am_V) (E : am_E) (u : am_M), Rn m_L_law 1032 [l0, l1, l2, vI a] st E u = Rn m_L_law 1033 [l0, l1, l2, vI a] (vI a :: st) E u) ∧
  (∀ (l0 l1 l2 l3 : am_V) (st : List am_V) (E : am_E) (u : am_M), Rn m_L_law 1033 [l0, l1, l2, l3] st E u = Rn m_L_law 1034 [l0, l1, l2, l3] (vI 5 :: st) E u) ∧
  (∀ (l0 l1 l2 l3 : am_V) (a b : Int) (st : List am_V) (E : am_E) (u : am_M), Rn m_L_law 1034 [l0, l1, l2, l3] (vI b :: vI a :: st) E u = Rn m_L_law 1035 [l0, l1, l2, l3] (vI (w32 (a + b)) :: st) E u) ∧
  (∀ (l0 l1 l2 l3 : am_V) (i : Int) (st : List am_V) (E : am_E) (u : am_M) (h0 : 0 ≤ i) (h1 : i < (E.2.2.1 : Int)), Rn m_L_law 1035 [l0, l1, l2, l3] (vI i :: vB true :: st) E u = Rn m_L_law 1036 [l0, l1, l2, l3] (vI (E.2.2.2 i.toNat) :: st) E u) ∧
  (∀ (l0 l1 l2 l3 : am_V) (a0 : Int) (a1 : Int) (a2 : Int) (a3 : Int) (a4 : Int) (E : am_E) (u : am_M) (hE : SE E), Rn m_L_law 1036 [l0, l1, l2, l3] [vI a4, vI a3, vI a2, vI a1, vI a0, vR (some 0)] E u = bdI (Rn m_A_breaks 0 [vR (some 0), vI a0, vI a1, vI a2, vI a3, vI a4, vB false, vB false, vB false, vB false, vB false, vB false] [] E u) (KI m_L_law 1039 [l0, l1, l2, l3] [])) ∧
  (∀ (l0 l1 l3 : am_V) (a : Option Nat) (st : List am_V) (E : am_E) (u : am_M), Rn m_L_law 1039 [l0, l1, vR a, l3] st E u = Rn m_L_law 1040 [l0, l1, vR a, l3] (vR a :: st) E u) ∧
  (∀ (l1 l2 l3 : am_V) (st : List am_V) (E : am_E) (u : am_M), Rn m_L_law 1040 [vB true, l1, l2, l3] st E u = Rn m_L_law 1041 [vB true, l1, l2, l3] (vB true :: st) E u) ∧
  (∀ (l0 l1 l2 : am_V) (a : Int) (st : List am_V) (E : am_E) (u : am_M), Rn m_L_law 1041 [l0, l1, l2, vI a] st E u = Rn m_L_law 1042 [l0, l1, l2, vI a] (vI a :: st) E u) ∧
  (∀ (l0 l1 l2 l3 : am_V) (st : List am_V) (E : am_E) (u : am_M), Rn m_L_law 1042 [l0, l1, l2, l3] st E u = Rn m_L_law 1043 [l0, l1, l2, l3] (vI 1 :: st) E u) ∧
  (∀ (l0 l1 l2 l3 : am_V) (a b : Int) (st : List am_V) (E : am_E) (u : am_M), Rn m_L_law 1043 [l0, l1, l2, l3] (vI b :: vI a :: st) E u = Rn m_L_law 1044 [l0, l1, l2, l3] (vI (w32 (a + b)) :: st) E u) ∧
  (∀ (l0 l1 l2 l3 : am_V) (i : Int) (st : List am_V) (E : am_E) (u : am_M) (h0 : 0 ≤ i) (h1 : i < (E.2.2.1 : Int)), Rn m_L_law 1044 [l0, l1, l2, l3] (vI i :: vB true :: st) E u = Rn m_L_law 1045 [l0, l1, l2, l3] (vI (E.2.2.2 i.toNat) :: st) E u) ∧
  (∀ (l1 l2 l3 : am_V) (st : List am_V) (E : am_E) (u : am_M), Rn m_L_law 1045 [vB true, l1, l2, l3] st E u = Rn m_L_law 1046 [vB true, l1, l2, l3] (vB true :: st) E u) ∧
  (∀ (l0 l1 l2 : am_V) (a : Int) (st : List am_V) (E : am_E) (u : am_M), Rn m_L_law 1046 [l0, l1, l2, vI a] st E u = Rn m_L_law 1047 [l0, l1, l2, vI a] (vI a :: st) E u) ∧
  (∀ (l0 l1 l2 l3 : am_V) (st : List am_V) (E : am_E) (u : am_M), Rn m_L_law 1047 [l0, l1, l2, l3] st E u = Rn m_L_law 1048 [l0, l1, l2, l3] (vI 2 :: st) E u) ∧
  (∀ (l0 l1 l2 l3 : am_V) (a b : Int) (st : List am_V) (E : am_E) (u : am_M), Rn m_L_law 1048 [l0, l1, l2, l3] (vI b :: vI a :: st) E u = Rn m_L_law 1049 [l0, l1, l2, l3] (vI (w32 (a + b)) :: st) E u) ∧
  (∀ (l0 l1 l2 l3 : am_V) (i : Int) (st : List am_V) (E : am_E) (u : am_M) (h0 : 0 ≤ i) (h1 : i < (E.2.2.1 : Int)), Rn m_L_law 1049 [l0, l1, l2, l3] (vI i :: vB true :: st) E u = Rn m_L_law 1050 [l0, l1, l2, l3] (vI (E.2.2.2 i.toNat) :: st) E u) ∧
  (∀ (l1 l2 l3 : am_V) (st : List am_V) (E : am_E) (u : am_M), Rn m_L_law 1050 [vB true, l1, l2, l3] st E u = Rn m_L_law 1051 [vB true, l1, l2, l3] (vB true :: st) E u) ∧
  (∀ (l0 l1 l2 : am_V) (a : Int) (st : List am_V) (E : am_E) (u : am_M), Rn m_L_law 1051 [l0, l1, l2, vI a] st E u = Rn m_L_law 1052 [l0, l1, l2, vI a] (vI a :: st) E u) ∧
  (∀ (l0 l1 l2 l3 : am_V) (st : List am_V) (E : am_E) (u : am_M), Rn m_L_law 1052 [l0, l1, l2, l3] st E u = Rn m_L_law 1053 [l0, l1, l2, l3] (vI 3 :: st) E u) ∧
  (∀ (l0 l1 l2 l3 : am_V) (a b : Int) (st : List am_V) (E : am_E) (u : am_M), Rn m_L_law 1053 [l0, l1, l2, l3] (vI b :: vI a :: st) E u = Rn m_L_law 1054 [l0, l1, l2, l3] (vI (w32 (a + b)) :: st) E u) ∧
  (∀ (l0 l1 l2 l3 : am_V) (i : Int) (st : List am_V) (E : am_E) (u : am_M) (h0 : 0 ≤ i) (h1 : i < (E.2.2.1 : Int)), Rn m_L_law 1054 [l0, l1, l2, l3] (vI i :: vB true :: st) E u = Rn m_L_law 1055 [l0, l1, l2, l3] (vI (E.2.2.2 i.toNat) :: st) E u) ∧
  (∀ (l1 l2 l3 : am_V) (st : List am_V) (E : am_E) (u : am_M), Rn m_L_law 1055 [vB true, l1, l2, l3] st E u = Rn m_L_law 1056 [vB true, l1, l2, l3] (vB true :: st) E u) ∧
  (∀ (l0 l1 l2 : am_V) (a : Int) (st : List am_V) (E : am_E) (u : am_M), Rn m_L_law 1056 [l0, l1, l2, vI a] st E u = Rn m_L_law 1057 [l0, l1, l2, vI a] (vI a :: st) E u) ∧
  (∀ (l0 l1 l2 l3 : am_V) (st : List am_V) (E : am_E) (u : am_M), Rn m_L_law 1057 [l0, l1, l2, l3] st E u = Rn m_L_law 1058 [l0, l1, l2, l3] (vI 4 :: st) E u) ∧
  (∀ (l0 l1 l2 l3 : am_V) (a b : Int) (st : List am_V) (E : am_E) (u : am_M), Rn m_L_law 1058 [l0, l1, l2, l3] (vI b :: vI a :: st) E u = Rn m_L_law 1059 [l0, l1, l2, l3] (vI (w32 (a + b)) :: st) E u) ∧
  (∀ (l0 l1 l2 l3 : am_V) (i : Int) (st : List am_V) (E : am_E) (u : am_M) (h0 : 0 ≤ i) (h1 : i < (E.2.2.1 : Int)), Rn m_L_law 1059 [l0, l1, l2, l3] (vI i :: vB true :: st) E u = Rn m_L_law 1060 [l0, l1, l2, l3] (vI (E.2.2.2 i.toNat) :: st) E u) ∧
  (∀ (l1 l2 l3 : am_V) (st : List am_V) (E : am_E) (u : am_M), Rn m_L_law 1060 [vB true, l1, l2, l3] st E u = Rn m_L_law 1061 [vB true, l1, l2, l3] (vB true :: st) E u) ∧
  (∀ (l0 l1 l2 : am_V) (a : Int) (st : List am_V) (E : am_E) (u : am_M), Rn m_L_law 1061 [l0, l1, l2, vI a] st E u = Rn m_L_law 1062 [l0, l1, l2, vI a] (vI a :: st) E u) ∧
  (∀ (l0 l1 l2 l3 : am_V) (st : List am_V) (E : am_E) (u : am_M), Rn m_L_law 1062 [l0, l1, l2, l3] st E u = Rn m_L_law 1063 [l0, l1, l2, l3] (vI 5 :: st) E u) ∧
  (∀ (l0 l1 l2 l3 : am_V) (a b : Int) (st : List am_V) (E : am_E) (u : am_M), Rn m_L_law 1063 [l0, l1, l2, l3] (vI b :: vI a :: st) E u = Rn m_L_law 1064 [l0, l1, l2, l3] (vI (w32 (a + b)) :: st) E u) ∧
  (∀ (l0 l1 l2 l3 : am_V) (i : Int) (st : List am_V) (E : am_E) (u : am_M) (h0 : 0 ≤ i) (h1 : i < (E.2.2.1 : Int)), Rn m_L_law 1064 [l0, l1, l2, l3] (vI i :: vB true :: st) E u = Rn m_L_law 1065 [l0, l1, l2, l3] (vI (E.2.2.2 i.toNat) :: st) E u) ∧
  (∀ (l0 l1 l2 l3 : am_V) (a0 : Int) (a1 : Int) (a2 : Int) (a3 : Int) (a4 : Int) (r0 : am_V) (E : am_E) (u : am_M) (hE : SE E), Rn m_L_law 1065 [l0, l1, l2, l3] [vI a4, vI a3, vI a2, vI a1, vI a0, vR (some 149), r0] E u = bdI (Rn m_M_breaks 0 [vR (some 149), vI a0, vI a1, vI a2, vI a3, vI a4, vB false, vB false, vB false, vB false, vB false, vB false] [] E u) (KI m_L_law 1068 [l0, l1, l2, l3] [r0])) ∧
  (∀ (l0 l1 l2 l3 : am_V) (a b : Int) (st : List am_V) (E : am_E) (u : am_M), Rn m_L_law 1068 [l0, l1, l2, l3] (vI b :: vI a :: st) E u = if a = b then Rn m_L_law 1449 [l0, l1, l2, l3] st E u else Rn m_L_law 1071 [l0, l1, l2, l3] st E u) ∧
  (∀ (l0 l1 l2 l3 : am_V) (st : List am_V) (E : am_E) (u : am_M), Rn m_L_law 1071 [l0, l1, l2, l3] st E u = Rn m_L_law 1072 [l0, l1, l2, l3] (vI 0 :: st) E u) ∧
  (∀ (l0 l1 l2 l3 : am_V) (b : Bool) (E : am_E) (u : am_M), Rn m_L_law 1072 [l0, l1, l2, l3] [vI (bI b)] E u = some (some (vI (bI b)), E, u)) ∧
  (∀ (l0 l1 l2 l3 : am_V) (E : am_E) (u : am_M), Rn m_L_law 1072 [l0, l1, l2, l3] [vI 1] E u = some (some (vI 1), E, u)) ∧
  (∀ (l0 l1 l2 l3 : am_V) (E : am_E) (u : am_M), Rn m_L_law 1072 [l0, l1, l2, l3] [vI 0] E u = some (some (vI 0), E, u)) :=
  ⟨fun l0 l2 l3 a st E u => q_go (by decide +kernel : am_Pg 208 1010 = some (.aload_n 1, 1, [], 0)) rfl,
  fun l1 l2 l3 st E u => q_go (by decide +kernel : am_Pg 208 1011 = some (.aload_n 0, 1, [], 0)) rfl,
  fun l0 l1 l2 a st E u => q_go (by decide +kernel : am_Pg 208 1012 = some (.iload_n 3, 1, [], 0)) rfl,
  fun l0 l1 l2 l3 st E u => q_go (by decide +kernel : am_Pg 208 1013 = some (.iconst 1, 1, [], 0)) rfl,
  fun l0 l1 l2 l3 a b st E u => q_go (by decide +kernel : am_Pg 208 1014 = some (.iadd, 1, [], 0)) rfl,
  fun l0 l1 l2 l3 i st E u h0 h1 => q_isc (by decide +kernel : am_Pg 208 1015 = some (.iaload, 1, [], 0)) h0 h1,
  fun l1 l2 l3 st E u => q_go (by decide +kernel : am_Pg 208 1016 = some (.aload_n 0, 1, [], 0)) rfl,
  fun l0 l1 l2 a st E u => q_go (by decide +kernel : am_Pg 208 1017 = some (.iload_n 3, 1, [], 0)) rfl,
  fun l0 l1 l2 l3 st E u => q_go (by decide +kernel : am_Pg 208 1018 = some (.iconst 2, 1, [], 0)) rfl,
  fun l0 l1 l2 l3 a b st E u => q_go (by decide +kernel : am_Pg 208 1019 = some (.iadd, 1, [], 0)) rfl,
  fun l0 l1 l2 l3 i st E u h0 h1 => q_isc (by decide +kernel : am_Pg 208 1020 = some (.iaload, 1, [], 0)) h0 h1,
  fun l1 l2 l3 st E u => q_go (by decide +kernel : am_Pg 208 1021 = some (.aload_n 0, 1, [], 0)) rfl,
  fun l0 l1 l2 a st E u => q_go (by decide +kernel : am_Pg 208 1022 = some (.iload_n 3, 1, [], 0)) rfl,
  fun l0 l1 l2 l3 st E u => q_go (by decide +kernel : am_Pg 208 1023 = some (.iconst 3, 1, [], 0)) rfl,
  fun l0 l1 l2 l3 a b st E u => q_go (by decide +kernel : am_Pg 208 1024 = some (.iadd, 1, [], 0)) rfl,
  fun l0 l1 l2 l3 i st E u h0 h1 => q_isc (by decide +kernel : am_Pg 208 1025 = some (.iaload, 1, [], 0)) h0 h1,
  fun l1 l2 l3 st E u => q_go (by decide +kernel : am_Pg 208 1026 = some (.aload_n 0, 1, [], 0)) rfl,
  fun l0 l1 l2 a st E u => q_go (by decide +kernel : am_Pg 208 1027 = some (.iload_n 3, 1, [], 0)) rfl,
  fun l0 l1 l2 l3 st E u => q_go (by decide +kernel : am_Pg 208 1028 = some (.iconst 4, 1, [], 0)) rfl,
  fun l0 l1 l2 l3 a b st E u => q_go (by decide +kernel : am_Pg 208 1029 = some (.iadd, 1, [], 0)) rfl,
  fun l0 l1 l2 l3 i st E u h0 h1 => q_isc (by decide +kernel : am_Pg 208 1030 = some (.iaload, 1, [], 0)) h0 h1,
  fun l1 l2 l3 st E u => q_go (by decide +kernel : am_Pg 208 1031 = some (.aload_n 0, 1, [], 0)) rfl,
  fun l0 l1 l2 a st E u => q_go (by decide +kernel : am_Pg 208 1032 = some (.iload_n 3, 1, [], 0)) rfl,
  fun l0 l1 l2 l3 st E u => q_go (by decide +kernel : am_Pg 208 1033 = some (.iconst 5, 1, [], 0)) rfl,
  fun l0 l1 l2 l3 a b st E u => q_go (by decide +kernel : am_Pg 208 1034 = some (.iadd, 1, [], 0)) rfl,
  fun l0 l1 l2 l3 i st E u h0 h1 => q_isc (by decide +kernel : am_Pg 208 1035 = some (.iaload, 1, [], 0)) h0 h1,
  fun l0 l1 l2 l3 a0 a1 a2 a3 a4  E u hE => q_cI (by decide +kernel : am_Pg 208 1036 = some (.invokevirtual 129, 3, [3, 174, 6, 4, 8, 0], 0)) (am_call_V (a := [vI a0, vI a1, vI a2, vI a3, vI a4]) (st' := []) (Nat.le_of_ble_eq_true rfl) rfl (SE_k4 hE)) (by decide +kernel : am_Lm m_A_breaks = 12) (Nat.le_of_ble_eq_true rfl) rfl (by decide +kernel),
  fun l0 l1 l3 a st E u => q_go (by decide +kernel : am_Pg 208 1039 = some (.aload_n 2, 1, [], 0)) rfl,
  fun l1 l2 l3 st E u => q_go (by decide +kernel : am_Pg 208 1040 = some (.aload_n 0, 1, [], 0)) rfl,
  fun l0 l1 l2 a st E u => q_go (by decide +kernel : am_Pg 208 1041 = some (.iload_n 3, 1, [], 0)) rfl,
  fun l0 l1 l2 l3 st E u => q_go (by decide +kernel : am_Pg 208 1042 = some (.iconst 1, 1, [], 0)) rfl,
  fun l0 l1 l2 l3 a b st E u => q_go (by decide +kernel : am_Pg 208 1043 = some (.iadd, 1, [], 0)) rfl,
  fun l0 l1 l2 l3 i st E u h0 h1 => q_isc (by decide +kernel : am_Pg 208 1044 = some (.iaload, 1, [], 0)) h0 h1,
  fun l1 l2 l3 st E u => q_go (by decide +kernel : am_Pg 208 1045 = some (.aload_n 0, 1, [], 0)) rfl,
  fun l0 l1 l2 a st E u => q_go (by decide +kernel : am_Pg 208 1046 = some (.iload_n 3, 1, [], 0)) rfl,
  fun l0 l1 l2 l3 st E u => q_go (by decide +kernel : am_Pg 208 1047 = some (.iconst 2, 1, [], 0)) rfl,
  fun l0 l1 l2 l3 a b st E u => q_go (by decide +kernel : am_Pg 208 1048 = some (.iadd, 1, [], 0)) rfl,
  fun l0 l1 l2 l3 i st E u h0 h1 => q_isc (by decide +kernel : am_Pg 208 1049 = some (.iaload, 1, [], 0)) h0 h1,
  fun l1 l2 l3 st E u => q_go (by decide +kernel : am_Pg 208 1050 = some (.aload_n 0, 1, [], 0)) rfl,
  fun l0 l1 l2 a st E u => q_go (by decide +kernel : am_Pg 208 1051 = some (.iload_n 3, 1, [], 0)) rfl,
  fun l0 l1 l2 l3 st E u => q_go (by decide +kernel : am_Pg 208 1052 = some (.iconst 3, 1, [], 0)) rfl,
  fun l0 l1 l2 l3 a b st E u => q_go (by decide +kernel : am_Pg 208 1053 = some (.iadd, 1, [], 0)) rfl,
  fun l0 l1 l2 l3 i st E u h0 h1 => q_isc (by decide +kernel : am_Pg 208 1054 = some (.iaload, 1, [], 0)) h0 h1,
  fun l1 l2 l3 st E u => q_go (by decide +kernel : am_Pg 208 1055 = some (.aload_n 0, 1, [], 0)) rfl,
  fun l0 l1 l2 a st E u => q_go (by decide +kernel : am_Pg 208 1056 = some (.iload_n 3, 1, [], 0)) rfl,
  fun l0 l1 l2 l3 st E u => q_go (by decide +kernel : am_Pg 208 1057 = some (.iconst 4, 1, [], 0)) rfl,
  fun l0 l1 l2 l3 a b st E u => q_go (by decide +kernel : am_Pg 208 1058 = some (.iadd, 1, [], 0)) rfl,
  fun l0 l1 l2 l3 i st E u h0 h1 => q_isc (by decide +kernel : am_Pg 208 1059 = some (.iaload, 1, [], 0)) h0 h1,
  fun l1 l2 l3 st E u => q_go (by decide +kernel : am_Pg 208 1060 = some (.aload_n 0, 1, [], 0)) rfl,
  fun l0 l1 l2 a st E u => q_go (by decide +kernel : am_Pg 208 1061 = some (.iload_n 3, 1, [], 0)) rfl,
  fun l0 l1 l2 l3 st E u => q_go (by decide +kernel : am_Pg 208 1062 = some (.iconst 5, 1, [], 0)) rfl,
  fun l0 l1 l2 l3 a b st E u => q_go (by decide +kernel : am_Pg 208 1063 = some (.iadd, 1, [], 0)) rfl,
  fun l0 l1 l2 l3 i st E u h0 h1 => q_isc (by decide +kernel : am_Pg 208 1064 = some (.iaload, 1, [], 0)) h0 h1,
  fun l0 l1 l2 l3 a0 a1 a2 a3 a4 r0 E u hE => q_cI (by decide +kernel : am_Pg 208 1065 = some (.invokevirtual 133, 3, [3, 175, 6, 5, 17, 0], 0)) (am_call_V (a := [vI a0, vI a1, vI a2, vI a3, vI a4]) (st' := [r0]) (Nat.le_of_ble_eq_true rfl) rfl (SE_k5 hE)) (by decide +kernel : am_Lm m_M_breaks = 12) (Nat.le_of_ble_eq_true rfl) rfl (by decide +kernel),
  fun l0 l1 l2 l3 a b st E u => q_icmp_eq (tgt := 1449) (by decide +kernel : am_Pg 208 1068 = some (.if_icmp .eq 381, 3, [], 0)) (by decide),
  fun l0 l1 l2 l3 st E u => q_go (by decide +kernel : am_Pg 208 1071 = some (.iconst 0, 1, [], 0)) rfl,
  fun l0 l1 l2 l3 b E u => by cases b <;> exact q_ret (by decide +kernel : am_Pg 208 1072 = some (.ireturn, 1, [1], 0)) rfl,
  fun l0 l1 l2 l3 E u => q_ret (by decide +kernel : am_Pg 208 1072 = some (.ireturn, 1, [1], 0)) rfl,
  fun l0 l1 l2 l3 E u => q_ret (by decide +kernel : am_Pg 208 1072 = some (.ireturn, 1, [1], 0)) rfl⟩
theorem x_L_law_1073 :
  (∀ (l0 l2 l3 : am_V) (a : Option Nat) (st : List am_V) (E : am_E) (u : am_M), Rn m_L_law 1073 [l0, vR a, l2, l3] st E u = Rn m_L_law 1074 [l0, vR a, l2, l3] (vR a :: st) E u) ∧
  (∀ (l0 l1 l2 l3 : am_V) (E : am_E) (u : am_M) (hE : SE E), Rn m_L_law 1074 [l0, l1, l2, l3] [vR (some 0)] E u = bdI (Rn m_A_image 0 [vR (some 0)] [] E u) (KI m_L_law 1077 [l0, l1, l2, l3] [])) ∧
  (∀ (l0 l1 l3 : am_V) (a : Option Nat) (st : List am_V) (E : am_E) (u : am_M), Rn m_L_law 1077 [l0, l1, vR a, l3] st E u = Rn m_L_law 1078 [l0, l1, vR a, l3] (vR a :: st) E u) ∧
  (∀ (l0 l1 l2 l3 : am_V) (r0 : am_V) (E : am_E) (u : am_M) (hE : SE E), Rn m_L_law 1078 [l0, l1, l2, l3] [vR (some 149), r0] E u = bdI (Rn m_M_image 0 [vR (some 149), vB false] [] E u) (KI m_L_law 1081 [l0, l1, l2, l3] [r0])) ∧
  (∀ (l0 l1 l2 l3 : am_V) (a b : Int) (st : List am_V) (E : am_E) (u : am_M), Rn m_L_law 1081 [l0, l1, l2, l3] (vI b :: vI a :: st) E u = if a = b then Rn m_L_law 1449 [l0, l1, l2, l3] st E u else Rn m_L_law 1084 [l0, l1, l2, l3] st E u) ∧
  (∀ (l0 l1 l2 l3 : am_V) (st : List am_V) (E : am_E) (u : am_M), Rn m_L_law 1084 [l0, l1, l2, l3] st E u = Rn m_L_law 1085 [l0, l1, l2, l3] (vI 0 :: st) E u) ∧
  (∀ (l0 l1 l2 l3 : am_V) (b : Bool) (E : am_E) (u : am_M), Rn m_L_law 1085 [l0, l1, l2, l3] [vI (bI b)] E u = some (some (vI (bI b)), E, u)) ∧
  (∀ (l0 l1 l2 l3 : am_V) (E : am_E) (u : am_M), Rn m_L_law 1085 [l0, l1, l2, l3] [vI 1] E u = some (some (vI 1), E, u)) ∧
  (∀ (l0 l1 l2 l3 : am_V) (E : am_E) (u : am_M), Rn m_L_law 1085 [l0, l1, l2, l3] [vI 0] E u = some (some (vI 0), E, u)) :=
  ⟨fun l0 l2 l3 a st E u => q_go (by decide +kernel : am_Pg 208 1073 = some (.aload_n 1, 1, [], 0)) rfl,
  fun l0 l1 l2 l3   E u hE => q_cI (by decide +kernel : am_Pg 208 1074 = some (.invokevirtual 134, 3, [3, 177, 1, 4, 8, 0], 0)) (am_call_V (a := []) (st' := []) (Nat.le_of_ble_eq_true rfl) rfl (SE_k4 hE)) (by decide +kernel : am_Lm m_A_image = 1) (Nat.le_of_ble_eq_true rfl) rfl (by decide +kernel),
  fun l0 l1 l3 a st E u => q_go (by decide +kernel : am_Pg 208 1077 = some (.aload_n 2, 1, [], 0)) rfl,
  fun l0 l1 l2 l3  r0 E u hE => q_cI (by decide +kernel : am_Pg 208 1078 = some (.invokevirtual 137, 3, [3, 178, 1, 5, 17, 0], 0)) (am_call_V (a := []) (st' := [r0]) (Nat.le_of_ble_eq_true rfl) rfl (SE_k5 hE)) (by decide +kernel : am_Lm m_M_image = 2) (Nat.le_of_ble_eq_true rfl) rfl (by decide +kernel),
  fun l0 l1 l2 l3 a b st E u => q_icmp_eq (tgt := 1449) (by decide +kernel : am_Pg 208 1081 = some (.if_icmp .eq 368, 3, [], 0)) (by decide),
  fun l0 l1 l2 l3 st E u => q_go (by decide +kernel : am_Pg 208 1084 = some (.iconst 0, 1, [], 0)) rfl,
  fun l0 l1 l2 l3 b E u => by cases b <;> exact q_ret (by decide +kernel : am_Pg 208 1085 = some (.ireturn, 1, [1], 0)) rfl,
  fun l0 l1 l2 l3 E u => q_ret (by decide +kernel : am_Pg 208 1085 = some (.ireturn, 1, [1], 0)) rfl,
  fun l0 l1 l2 l3 E u => q_ret (by decide +kernel : am_Pg 208 1085 = some (.ireturn, 1, [1], 0)) rfl⟩
theorem x_L_law_1086 :
  (∀ (l0 l2 l3 : am_V) (a : Option Nat) (st : List am_V) (E : am_E) (u : am_M), Rn m_L_law 1086 [l0, vR a, l2, l3] st E u = Rn m_L_law 1087 [l0, vR a, l2, l3] (vR a :: st) E u) ∧
  (∀ (l0 l1 l2 l3 : am_V) (E : am_E) (u : am_M) (hE : SE E), Rn m_L_law 1087 [l0, l1, l2, l3] [vR (some 0)] E u = bdI (Rn m_A_restore 0 [vR (some 0)] [] E u) (KI m_L_law 1090 [l0, l1, l2, l3] [])) ∧
  (∀ (l0 l1 l3 : am_V) (a : Option Nat) (st : List am_V) (E : am_E) (u : am_M), Rn m_L_law 1090 [l0, l1, vR a, l3] st E u = Rn m_L_law 1091 [l0, l1, vR a, l3] (vR a :: st) E u) ∧
  (∀ (l0 l1 l2 l3 : am_V) (r0 : am_V) (E : am_E) (u : am_M) (hE : SE E), Rn m_L_law 1091 [l0, l1, l2, l3] [vR (some 149), r0] E u = bdI (Rn m_M_restore 0 [vR (some 149), vB false] [] E u) (KI m_L_law 1094 [l0, l1, l2, l3] [r0])) ∧
  (∀ (l0 l1 l2 l3 : am_V) (a b : Int) (st : List am_V) (E : am_E) (u : am_M), Rn m_L_law 1094 [l0, l1, l2, l3] (vI b :: vI a :: st) E u = if a = b then Rn m_L_law 1449 [l0, l1, l2, l3] st E u else Rn m_L_law 1097 [l0, l1, l2, l3] st E u) ∧
  (∀ (l0 l1 l2 l3 : am_V) (st : List am_V) (E : am_E) (u : am_M), Rn m_L_law 1097 [l0, l1, l2, l3] st E u = Rn m_L_law 1098 [l0, l1, l2, l3] (vI 0 :: st) E u) ∧
  (∀ (l0 l1 l2 l3 : am_V) (b : Bool) (E : am_E) (u : am_M), Rn m_L_law 1098 [l0, l1, l2, l3] [vI (bI b)] E u = some (some (vI (bI b)), E, u)) ∧
  (∀ (l0 l1 l2 l3 : am_V) (E : am_E) (u : am_M), Rn m_L_law 1098 [l0, l1, l2, l3] [vI 1] E u = some (some (vI 1), E, u)) ∧
  (∀ (l0 l1 l2 l3 : am_V) (E : am_E) (u : am_M), Rn m_L_law 1098 [l0, l1, l2, l3] [vI 0] E u = some (some (vI 0), E, u)) :=
  ⟨fun l0 l2 l3 a st E u => q_go (by decide +kernel : am_Pg 208 1086 = some (.aload_n 1, 1, [], 0)) rfl,
  fun l0 l1 l2 l3   E u hE => q_cI (by decide +kernel : am_Pg 208 1087 = some (.invokevirtual 138, 3, [3, 179, 1, 4, 8, 0], 0)) (am_call_V (a := []) (st' := []) (Nat.le_of_ble_eq_true rfl) rfl (SE_k4 hE)) (by decide +kernel : am_Lm m_A_restore = 1) (Nat.le_of_ble_eq_true rfl) rfl (by decide +kernel),
  fun l0 l1 l3 a st E u => q_go (by decide +kernel : am_Pg 208 1090 = some (.aload_n 2, 1, [], 0)) rfl,
  fun l0 l1 l2 l3  r0 E u hE => q_cI (by decide +kernel : am_Pg 208 1091 = some (.invokevirtual 141, 3, [3, 180, 1, 5, 17, 0], 0)) (am_call_V (a := []) (st' := [r0]) (Nat.le_of_ble_eq_true rfl) rfl (SE_k5 hE)) (by decide +kernel : am_Lm m_M_restore = 2) (Nat.le_of_ble_eq_true rfl) rfl (by decide +kernel),
  fun l0 l1 l2 l3 a b st E u => q_icmp_eq (tgt := 1449) (by decide +kernel : am_Pg 208 1094 = some (.if_icmp .eq 355, 3, [], 0)) (by decide),
  fun l0 l1 l2 l3 st E u => q_go (by decide +kernel : am_Pg 208 1097 = some (.iconst 0, 1, [], 0)) rfl,
  fun l0 l1 l2 l3 b E u => by cases b <;> exact q_ret (by decide +kernel : am_Pg 208 1098 = some (.ireturn, 1, [1], 0)) rfl,
  fun l0 l1 l2 l3 E u => q_ret (by decide +kernel : am_Pg 208 1098 = some (.ireturn, 1, [1], 0)) rfl,
  fun l0 l1 l2 l3 E u => q_ret (by decide +kernel : am_Pg 208 1098 = some (.ireturn, 1, [1], 0)) rfl⟩
theorem x_L_law_1099 :
  (∀ (l0 l2 l3 : am_V) (a : Option Nat) (st : List am_V) (E : am_E) (u : am_M), Rn m_L_law 1099 [l0, vR a, l2, l3] st E u = Rn m_L_law 1100 [l0, vR a, l2, l3] (vR a :: st) E u) ∧
  (∀ (l1 l2 l3 : am_V) (st : List am_V) (E : am_E) (u : am_M), Rn m_L_law 1100 [vB true, l1, l2, l3] st E u = Rn m_L_law 1101 [vB true, l1, l2, l3] (vB true :: st) E u) ∧
  (∀ (l0 l1 l2 : am_V) (a : Int) (st : List am_V) (E : am_E) (u : am_M), Rn m_L_law 1101 [l0, l1, l2, vI a] st E u = Rn m_L_law 1102 [l0, l1, l2, vI a] (vI a :: st) E u) ∧
  (∀ (l0 l1 l2 l3 : am_V) (st : List am_V) (E : am_E) (u : am_M), Rn m_L_law 1102 [l0, l1, l2, l3] st E u = Rn m_L_law 1103 [l0, l1, l2, l3] (vI 1 :: st) E u) ∧
  (∀ (l0 l1 l2 l3 : am_V) (a b : Int) (st : List am_V) (E : am_E) (u : am_M), Rn m_L_law 1103 [l0, l1, l2, l3] (vI b :: vI a :: st) E u = Rn m_L_law 1104 [l0, l1, l2, l3] (vI (w32 (a + b)) :: st) E u) ∧
  (∀ (l0 l1 l2 l3 : am_V) (i : Int) (st : List am_V) (E : am_E) (u : am_M) (h0 : 0 ≤ i) (h1 : i < (E.2.2.1 : Int)), Rn m_L_law 1104 [l0, l1, l2, l3] (vI i :: vB true :: st) E u = Rn m_L_law 1105 [l0, l1, l2, l3] (vI (E.2.2.2 i.toNat) :: st) E u) ∧
  (∀ (l1 l2 l3 : am_V) (st : List am_V) (E : am_E) (u : am_M), Rn m_L_law 1105 [vB true, l1, l2, l3] st E u = Rn m_L_law 1106 [vB true, l1, l2, l3] (vB true :: st) E u) ∧
  (∀ (l0 l1 l2 : am_V) (a : Int) (st : List am_V) (E : am_E) (u : am_M), Rn m_L_law 1106 [l0, l1, l2, vI a] st E u = Rn m_L_law 1107 [l0, l1, l2, vI a] (vI a :: st) E u) ∧
  (∀ (l0 l1 l2 l3 : am_V) (st : List am_V) (E : am_E) (u : am_M), Rn m_L_law 1107 [l0, l1, l2, l3] st E u = Rn m_L_law 1108 [l0, l1, l2, l3] (vI 2 :: st) E u) ∧
  (∀ (l0 l1 l2 l3 : am_V) (a b : Int) (st : List am_V) (E : am_E) (u : am_M), Rn m_L_law 1108 [l0, l1, l2, l3] (vI b :: vI a :: st) E u = Rn m_L_law 1109 [l0, l1, l2, l3] (vI (w32 (a + b)) :: st) E u) ∧
  (∀ (l0 l1 l2 l3 : am_V) (i : Int) (st : List am_V) (E : am_E) (u : am_M) (h0 : 0 ≤ i) (h1 : i < (E.2.2.1 : Int)), Rn m_L_law 1109 [l0, l1, l2, l3] (vI i :: vB true :: st) E u = Rn m_L_law 1110 [l0, l1, l2, l3] (vI (E.2.2.2 i.toNat) :: st) E u) ∧
  (∀ (l1 l2 l3 : am_V) (st : List am_V) (E : am_E) (u : am_M), Rn m_L_law 1110 [vB true, l1, l2, l3] st E u = Rn m_L_law 1111 [vB true, l1, l2, l3] (vB true :: st) E u) ∧
  (∀ (l0 l1 l2 : am_V) (a : Int) (st : List am_V) (E : am_E) (u : am_M), Rn m_L_law 1111 [l0, l1, l2, vI a] st E u = Rn m_L_law 1112 [l0, l1, l2, vI a] (vI a :: st) E u) ∧
  (∀ (l0 l1 l2 l3 : am_V) (st : List am_V) (E : am_E) (u : am_M), Rn m_L_law 1112 [l0, l1, l2, l3] st E u = Rn m_L_law 1113 [l0, l1, l2, l3] (vI 3 :: st) E u) ∧
  (∀ (l0 l1 l2 l3 : am_V) (a b : Int) (st : List am_V) (E : am_E) (u : am_M), Rn m_L_law 1113 [l0, l1, l2, l3] (vI b :: vI a :: st) E u = Rn m_L_law 1114 [l0, l1, l2, l3] (vI (w32 (a + b)) :: st) E u) ∧
  (∀ (l0 l1 l2 l3 : am_V) (i : Int) (st : List am_V) (E : am_E) (u : am_M) (h0 : 0 ≤ i) (h1 : i < (E.2.2.1 : Int)), Rn m_L_law 1114 [l0, l1, l2, l3] (vI i :: vB true :: st) E u = Rn m_L_law 1115 [l0, l1, l2, l3] (vI (E.2.2.2 i.toNat) :: st) E u) ∧
  (∀ (l1 l2 l3 : am_V) (st : List am_V) (E : am_E) (u : am_M), Rn m_L_law 1115 [vB true, l1, l2, l3] st E u = Rn m_L_law 1116 [vB true, l1, l2, l3] (vB true :: st) E u) ∧
  (∀ (l0 l1 l2 : am_V) (a : Int) (st : List am_V) (E : am_E) (u : am_M), Rn m_L_law 1116 [l0, l1, l2, vI a] st E u = Rn m_L_law 1117 [l0, l1, l2, vI a] (vI a :: st) E u) ∧
  (∀ (l0 l1 l2 l3 : am_V) (st : List am_V) (E : am_E) (u : am_M), Rn m_L_law 1117 [l0, l1, l2, l3] st E u = Rn m_L_law 1118 [l0, l1, l2, l3] (vI 4 :: st) E u) ∧
  (∀ (l0 l1 l2 l3 : am_V) (a b : Int) (st : List am_V) (E : am_E) (u : am_M), Rn m_L_law 1118 [l0, l1, l2, l3] (vI b :: vI a :: st) E u = Rn m_L_law 1119 [l0, l1, l2, l3] (vI (w32 (a + b)) :: st) E u) ∧
  (∀ (l0 l1 l2 l3 : am_V) (i : Int) (st : List am_V) (E : am_E) (u : am_M) (h0 : 0 ≤ i) (h1 : i < (E.2.2.1 : Int)), Rn m_L_law 1119 [l0, l1, l2, l3] (vI i :: vB true :: st) E u = Rn m_L_law 1120 [l0, l1, l2, l3] (vI (E.2.2.2 i.toNat) :: st) E u) ∧
  (∀ (l1 l2 l3 : am_V) (st : List am_V) (E : am_E) (u : am_M), Rn m_L_law 1120 [vB true, l1, l2, l3] st E u = Rn m_L_law 1121 [vB true, l1, l2, l3] (vB true :: st) E u) ∧
  (∀ (l0 l1 l2 : am_V) (a : Int) (st : List am_V) (E : am_E) (u : am_M), Rn m_L_law 1121 [l0, l1, l2, vI a] st E u = Rn m_L_law 1122 [l0, l1, l2, vI a] (vI a :: st) E u) ∧
  (∀ (l0 l1 l2 l3 : am_V) (st : List am_V) (E : am_E) (u : am_M), Rn m_L_law 1122 [l0, l1, l2, l3] st E u = Rn m_L_law 1123 [l0, l1, l2, l3] (vI 5 :: st) E u) ∧
  (∀ (l0 l1 l2 l3 : am_V) (a b : Int) (st : List am_V) (E : am_E) (u : am_M), Rn m_L_law 1123 [l0, l1, l2, l3] (vI b :: vI a :: st) E u = Rn m_L_law 1124 [l0, l1, l2, l3] (vI (w32 (a + b)) :: st) E u) ∧
  (∀ (l0 l1 l2 l3 : am_V) (i : Int) (st : List am_V) (E : am_E) (u : am_M) (h0 : 0 ≤ i) (h1 : i < (E.2.2.1 : Int)), Rn m_L_law 1124 [l0, l1, l2, l3] (vI i :: vB true :: st) E u = Rn m_L_law 1125 [l0, l1, l2, l3] (vI (E.2.2.2 i.toNat) :: st) E u) ∧
  (∀ (l1 l2 l3 : am_V) (st : List am_V) (E : am_E) (u : am_M), Rn m_L_law 1125 [vB true, l1, l2, l3] st E u = Rn m_L_law 1126 [vB true, l1, l2, l3] (vB true :: st) E u) ∧
  (∀ (l0 l1 l2 : am_V) (a : Int) (st : List am_V) (E : am_E) (u : am_M), Rn m_L_law 1126 [l0, l1, l2, vI a] st E u = Rn m_L_law 1127 [l0, l1, l2, vI a] (vI a :: st) E u) ∧
  (∀ (l0 l1 l2 l3 : am_V) (st : List am_V) (E : am_E) (u : am_M), Rn m_L_law 1127 [l0, l1, l2, l3] st E u = Rn m_L_law 1129 [l0, l1, l2, l3] (vI 6 :: st) E u) ∧
  (∀ (l0 l1 l2 l3 : am_V) (a b : Int) (st : List am_V) (E : am_E) (u : am_M), Rn m_L_law 1129 [l0, l1, l2, l3] (vI b :: vI a :: st) E u = Rn m_L_law 1130 [l0, l1, l2, l3] (vI (w32 (a + b)) :: st) E u) ∧
  (∀ (l0 l1 l2 l3 : am_V) (i : Int) (st : List am_V) (E : am_E) (u : am_M) (h0 : 0 ≤ i) (h1 : i < (E.2.2.1 : Int)), Rn m_L_law 1130 [l0, l1, l2, l3] (vI i :: vB true :: st) E u = Rn m_L_law 1131 [l0, l1, l2, l3] (vI (E.2.2.2 i.toNat) :: st) E u) ∧
  (∀ (l0 l1 l2 l3 : am_V) (a0 : Int) (a1 : Int) (a2 : Int) (a3 : Int) (a4 : Int) (a5 : Int) (E : am_E) (u : am_M) (hE : SE E), Rn m_L_law 1131 [l0, l1, l2, l3] [vI a5, vI a4, vI a3, vI a2, vI a1, vI a0, vR (some 0)] E u = bdI (Rn m_A_felt 0 [vR (some 0), vI a0, vI a1, vI a2, vI a3, vI a4, vI a5, vB false, vB false, vB false, vB false] [] E u) (KI m_L_law 1134 [l0, l1, l2, l3] [])) ∧
  (∀ (l0 l1 l3 : am_V) (a : Option Nat) (st : List am_V) (E : am_E) (u : am_M), Rn m_L_law 1134 [l0, l1, vR a, l3] st E u = Rn m_L_law 1135 [l0, l1, vR a, l3] (vR a :: st) E u) ∧
  (∀ (l1 l2 l3 : am_V) (st : List am_V) (E : am_E) (u : am_M), Rn m_L_law 1135 [vB true, l1, l2, l3] st E u = Rn m_L_law 1136 [vB true, l1, l2, l3] (vB true :: st) E u) ∧
  (∀ (l0 l1 l2 : am_V) (a : Int) (st : List am_V) (E : am_E) (u : am_M), Rn m_L_law 1136 [l0, l1, l2, vI a] st E u = Rn m_L_law 1137 [l0, l1, l2, vI a] (vI a :: st) E u) ∧
  (∀ (l0 l1 l2 l3 : am_V) (st : List am_V) (E : am_E) (u : am_M), Rn m_L_law 1137 [l0, l1, l2, l3] st E u = Rn m_L_law 1138 [l0, l1, l2, l3] (vI 1 :: st) E u) ∧
  (∀ (l0 l1 l2 l3 : am_V) (a b : Int) (st : List am_V) (E : am_E) (u : am_M), Rn m_L_law 1138 [l0, l1, l2, l3] (vI b :: vI a :: st) E u = Rn m_L_law 1139 [l0, l1, l2, l3] (vI (w32 (a + b)) :: st) E u) ∧
  (∀ (l0 l1 l2 l3 : am_V) (i : Int) (st : List am_V) (E : am_E) (u : am_M) (h0 : 0 ≤ i) (h1 : i < (E.2.2.1 : Int)), Rn m_L_law 1139 [l0, l1, l2, l3] (vI i :: vB true :: st) E u = Rn m_L_law 1140 [l0, l1, l2, l3] (vI (E.2.2.2 i.toNat) :: st) E u) ∧
  (∀ (l1 l2 l3 : am_V) (st : List am_V) (E : am_E) (u : am_M), Rn m_L_law 1140 [vB true, l1, l2, l3] st E u = Rn m_L_law 1141 [vB true, l1, l2, l3] (vB true :: st) E u) ∧
  (∀ (l0 l1 l2 : am_V) (a : Int) (st : List am_V) (E : am_E) (u : am_M), Rn m_L_law 1141 [l0, l1, l2, vI a] st E u = Rn m_L_law 1142 [l0, l1, l2, vI a] (vI a :: st) E u) ∧
  (∀ (l0 l1 l2 l3 : am_V) (st : List am_V) (E : am_E) (u : am_M), Rn m_L_law 1142 [l0, l1, l2, l3] st E u = Rn m_L_law 1143 [l0, l1, l2, l3] (vI 2 :: st) E u) ∧
  (∀ (l0 l1 l2 l3 : am_V) (a b : Int) (st : List am_V) (E : am_E) (u : am_M), Rn m_L_law 1143 [l0, l1, l2, l3] (vI b :: vI a :: st) E u = Rn m_L_law 1144 [l0, l1, l2, l3] (vI (w32 (a + b)) :: st) E u) ∧
  (∀ (l0 l1 l2 l3 : am_V) (i : Int) (st : List am_V) (E : am_E) (u : am_M) (h0 : 0 ≤ i) (h1 : i < (E.2.2.1 : Int)), Rn m_L_law 1144 [l0, l1, l2, l3] (vI i :: vB true :: st) E u = Rn m_L_law 1145 [l0, l1, l2, l3] (vI (E.2.2.2 i.toNat) :: st) E u) ∧
  (∀ (l1 l2 l3 : am_V) (st : List am_V) (E : am_E) (u : am_M), Rn m_L_law 1145 [vB true, l1, l2, l3] st E u = Rn m_L_law 1146 [vB true, l1, l2, l3] (vB true :: st) E u) ∧
  (∀ (l0 l1 l2 : am_V) (a : Int) (st : List am_V) (E : am_E) (u : am_M), Rn m_L_law 1146 [l0, l1, l2, vI a] st E u = Rn m_L_law 1147 [l0, l1, l2, vI a] (vI a :: st) E u) ∧
  (∀ (l0 l1 l2 l3 : am_V) (st : List am_V) (E : am_E) (u : am_M), Rn m_L_law 1147 [l0, l1, l2, l3] st E u = Rn m_L_law 1148 [l0, l1, l2, l3] (vI 3 :: st) E u) ∧
  (∀ (l0 l1 l2 l3 : am_V) (a b : Int) (st : List am_V) (E : am_E) (u : am_M), Rn m_L_law 1148 [l0, l1, l2, l3] (vI b :: vI a :: st) E u = Rn m_L_law 1149 [l0, l1, l2, l3] (vI (w32 (a + b)) :: st) E u) ∧
  (∀ (l0 l1 l2 l3 : am_V) (i : Int) (st : List am_V) (E : am_E) (u : am_M) (h0 : 0 ≤ i) (h1 : i < (E.2.2.1 : Int)), Rn m_L_law 1149 [l0, l1, l2, l3] (vI i :: vB true :: st) E u = Rn m_L_law 1150 [l0, l1, l2, l3] (vI (E.2.2.2 i.toNat) :: st) E u) ∧
  (∀ (l1 l2 l3 : am_V) (st : List am_V) (E : am_E) (u : am_M), Rn m_L_law 1150 [vB true, l1, l2, l3] st E u = Rn m_L_law 1151 [vB true, l1, l2, l3] (vB true :: st) E u) ∧
  (∀ (l0 l1 l2 : am_V) (a : Int) (st : List am_V) (E : am_E) (u : am_M), Rn m_L_law 1151 [l0, l1, l2, vI a] st E u = Rn m_L_law 1152 [l0, l1, l2, vI a] (vI a :: st) E u) ∧
  (∀ (l0 l1 l2 l3 : am_V) (st : List am_V) (E : am_E) (u : am_M), Rn m_L_law 1152 [l0, l1, l2, l3] st E u = Rn m_L_law 1153 [l0, l1, l2, l3] (vI 4 :: st) E u) ∧
  (∀ (l0 l1 l2 l3 : am_V) (a b : Int) (st : List am_V) (E : am_E) (u : am_M), Rn m_L_law 1153 [l0, l1, l2, l3] (vI b :: vI a :: st) E u = Rn m_L_law 1154 [l0, l1, l2, l3] (vI (w32 (a + b)) :: st) E u) ∧
  (∀ (l0 l1 l2 l3 : am_V) (i : Int) (st : List am_V) (E : am_E) (u : am_M) (h0 : 0 ≤ i) (h1 : i < (E.2.2.1 : Int)), Rn m_L_law 1154 [l0, l1, l2, l3] (vI i :: vB true :: st) E u = Rn m_L_law 1155 [l0, l1, l2, l3] (vI (E.2.2.2 i.toNat) :: st) E u) ∧
  (∀ (l1 l2 l3 : am_V) (st : List am_V) (E : am_E) (u : am_M), Rn m_L_law 1155 [vB true, l1, l2, l3] st E u = Rn m_L_law 1156 [vB true, l1, l2, l3] (vB true :: st) E u) ∧
  (∀ (l0 l1 l2 : am_V) (a : Int) (st : List am_V) (E : am_E) (u : am_M), Rn m_L_law 1156 [l0, l1, l2, vI a] st E u = Rn m_L_law 1157 [l0, l1, l2, vI a] (vI a :: st) E u) ∧
  (∀ (l0 l1 l2 l3 : am_V) (st : List am_V) (E : am_E) (u : am_M), Rn m_L_law 1157 [l0, l1, l2, l3] st E u = Rn m_L_law 1158 [l0, l1, l2, l3] (vI 5 :: st) E u) ∧
  (∀ (l0 l1 l2 l3 : am_V) (a b : Int) (st : List am_V) (E : am_E) (u : am_M), Rn m_L_law 1158 [l0, l1, l2, l3] (vI b :: vI a :: st) E u = Rn m_L_law 1159 [l0, l1, l2, l3] (vI (w32 (a + b)) :: st) E u) ∧
  (∀ (l0 l1 l2 l3 : am_V) (i : Int) (st : List am_V) (E : am_E) (u : am_M) (h0 : 0 ≤ i) (h1 : i < (E.2.2.1 : Int)), Rn m_L_law 1159 [l0, l1, l2, l3] (vI i :: vB true :: st) E u = Rn m_L_law 1160 [l0, l1, l2, l3] (vI (E.2.2.2 i.toNat) :: st) E u) ∧
  (∀ (l1 l2 l3 : am_V) (st : List am_V) (E : am_E) (u : am_M), Rn m_L_law 1160 [vB true, l1, l2, l3] st E u = Rn m_L_law 1161 [vB true, l1, l2, l3] (vB true :: st) E u) ∧
  (∀ (l0 l1 l2 : am_V) (a : Int) (st : List am_V) (E : am_E) (u : am_M), Rn m_L_law 1161 [l0, l1, l2, vI a] st E u = Rn m_L_law 1162 [l0, l1, l2, vI a] (vI a :: st) E u) ∧
  (∀ (l0 l1 l2 l3 : am_V) (st : List am_V) (E : am_E) (u : am_M), Rn m_L_law 1162 [l0, l1, l2, l3] st E u = Rn m_L_law 1164 [l0, l1, l2, l3] (vI 6 :: st) E u) ∧
  (∀ (l0 l1 l2 l3 : am_V) (a b : Int) (st : List am_V) (E : am_E) (u : am_M), Rn m_L_law 1164 [l0, l1, l2, l3] (vI b :: vI a :: st) E u = Rn m_L_law 1165 [l0, l1, l2, l3] (vI (w32 (a + b)) :: st) E u) ∧
  (∀ (l0 l1 l2 l3 : am_V) (i : Int) (st : List am_V) (E : am_E) (u : am_M) (h0 : 0 ≤ i) (h1 : i < (E.2.2.1 : Int)), Rn m_L_law 1165 [l0, l1, l2, l3] (vI i :: vB true :: st) E u = Rn m_L_law 1166 [l0, l1, l2, l3] (vI (E.2.2.2 i.toNat) :: st) E u) ∧
  (∀ (l0 l1 l2 l3 : am_V) (a0 : Int) (a1 : Int) (a2 : Int) (a3 : Int) (a4 : Int) (a5 : Int) (r0 : am_V) (E : am_E) (u : am_M) (hE : SE E), Rn m_L_law 1166 [l0, l1, l2, l3] [vI a5, vI a4, vI a3, vI a2, vI a1, vI a0, vR (some 149), r0] E u = bdI (Rn m_M_felt 0 [vR (some 149), vI a0, vI a1, vI a2, vI a3, vI a4, vI a5, vB false, vB false, vB false] [] E u) (KI m_L_law 1169 [l0, l1, l2, l3] [r0])) ∧
  (∀ (l0 l1 l2 l3 : am_V) (a b : Int) (st : List am_V) (E : am_E) (u : am_M), Rn m_L_law 1169 [l0, l1, l2, l3] (vI b :: vI a :: st) E u = if a = b then Rn m_L_law 1449 [l0, l1, l2, l3] st E u else Rn m_L_law 1172 [l0, l1, l2, l3] st E u) ∧
  (∀ (l0 l1 l2 l3 : am_V) (st : List am_V) (E : am_E) (u : am_M), Rn m_L_law 1172 [l0, l1, l2, l3] st E u = Rn m_L_law 1173 [l0, l1, l2, l3] (vI 0 :: st) E u) ∧
  (∀ (l0 l1 l2 l3 : am_V) (b : Bool) (E : am_E) (u : am_M), Rn m_L_law 1173 [l0, l1, l2, l3] [vI (bI b)] E u = some (some (vI (bI b)), E, u)) ∧
  (∀ (l0 l1 l2 l3 : am_V) (E : am_E) (u : am_M), Rn m_L_law 1173 [l0, l1, l2, l3] [vI 1] E u = some (some (vI 1), E, u)) ∧
  (∀ (l0 l1 l2 l3 : am_V) (E : am_E) (u : am_M), Rn m_L_law 1173 [l0, l1, l2, l3] [vI 0] E u = some (some (vI 0), E, u)) :=
  ⟨fun l0 l2 l3 a st E u => q_go (by decide +kernel : am_Pg 208 1099 = some (.aload_n 1, 1, [], 0)) rfl,
  fun l1 l2 l3 st E u => q_go (by decide +kernel : am_Pg 208 1100 = some (.aload_n 0, 1, [], 0)) rfl,
  fun l0 l1 l2 a st E u => q_go (by decide +kernel : am_Pg 208 1101 = some (.iload_n 3, 1, [], 0)) rfl,
  fun l0 l1 l2 l3 st E u => q_go (by decide +kernel : am_Pg 208 1102 = some (.iconst 1, 1, [], 0)) rfl,
  fun l0 l1 l2 l3 a b st E u => q_go (by decide +kernel : am_Pg 208 1103 = some (.iadd, 1, [], 0)) rfl,
  fun l0 l1 l2 l3 i st E u h0 h1 => q_isc (by decide +kernel : am_Pg 208 1104 = some (.iaload, 1, [], 0)) h0 h1,
  fun l1 l2 l3 st E u => q_go (by decide +kernel : am_Pg 208 1105 = some (.aload_n 0, 1, [], 0)) rfl,
  fun l0 l1 l2 a st E u => q_go (by decide +kernel : am_Pg 208 1106 = some (.iload_n 3, 1, [], 0)) rfl,
  fun l0 l1 l2 l3 st E u => q_go (by decide +kernel : am_Pg 208 1107 = some (.iconst 2, 1, [], 0)) rfl,
  fun l0 l1 l2 l3 a b st E u => q_go (by decide +kernel : am_Pg 208 1108 = some (.iadd, 1, [], 0)) rfl,
  fun l0 l1 l2 l3 i st E u h0 h1 => q_isc (by decide +kernel : am_Pg 208 1109 = some (.iaload, 1, [], 0)) h0 h1,
  fun l1 l2 l3 st E u => q_go (by decide +kernel : am_Pg 208 1110 = some (.aload_n 0, 1, [], 0)) rfl,
  fun l0 l1 l2 a st E u => q_go (by decide +kernel : am_Pg 208 1111 = some (.iload_n 3, 1, [], 0)) rfl,
  fun l0 l1 l2 l3 st E u => q_go (by decide +kernel : am_Pg 208 1112 = some (.iconst 3, 1, [], 0)) rfl,
  fun l0 l1 l2 l3 a b st E u => q_go (by decide +kernel : am_Pg 208 1113 = some (.iadd, 1, [], 0)) rfl,
  fun l0 l1 l2 l3 i st E u h0 h1 => q_isc (by decide +kernel : am_Pg 208 1114 = some (.iaload, 1, [], 0)) h0 h1,
  fun l1 l2 l3 st E u => q_go (by decide +kernel : am_Pg 208 1115 = some (.aload_n 0, 1, [], 0)) rfl,
  fun l0 l1 l2 a st E u => q_go (by decide +kernel : am_Pg 208 1116 = some (.iload_n 3, 1, [], 0)) rfl,
  fun l0 l1 l2 l3 st E u => q_go (by decide +kernel : am_Pg 208 1117 = some (.iconst 4, 1, [], 0)) rfl,
  fun l0 l1 l2 l3 a b st E u => q_go (by decide +kernel : am_Pg 208 1118 = some (.iadd, 1, [], 0)) rfl,
  fun l0 l1 l2 l3 i st E u h0 h1 => q_isc (by decide +kernel : am_Pg 208 1119 = some (.iaload, 1, [], 0)) h0 h1,
  fun l1 l2 l3 st E u => q_go (by decide +kernel : am_Pg 208 1120 = some (.aload_n 0, 1, [], 0)) rfl,
  fun l0 l1 l2 a st E u => q_go (by decide +kernel : am_Pg 208 1121 = some (.iload_n 3, 1, [], 0)) rfl,
  fun l0 l1 l2 l3 st E u => q_go (by decide +kernel : am_Pg 208 1122 = some (.iconst 5, 1, [], 0)) rfl,
  fun l0 l1 l2 l3 a b st E u => q_go (by decide +kernel : am_Pg 208 1123 = some (.iadd, 1, [], 0)) rfl,
  fun l0 l1 l2 l3 i st E u h0 h1 => q_isc (by decide +kernel : am_Pg 208 1124 = some (.iaload, 1, [], 0)) h0 h1,
  fun l1 l2 l3 st E u => q_go (by decide +kernel : am_Pg 208 1125 = some (.aload_n 0, 1, [], 0)) rfl,
  fun l0 l1 l2 a st E u => q_go (by decide +kernel : am_Pg 208 1126 = some (.iload_n 3, 1, [], 0)) rfl,
  fun l0 l1 l2 l3 st E u => q_go (by decide +kernel : am_Pg 208 1127 = some (.bipush 6, 2, [], 0)) rfl,
  fun l0 l1 l2 l3 a b st E u => q_go (by decide +kernel : am_Pg 208 1129 = some (.iadd, 1, [], 0)) rfl,
  fun l0 l1 l2 l3 i st E u h0 h1 => q_isc (by decide +kernel : am_Pg 208 1130 = some (.iaload, 1, [], 0)) h0 h1,
  fun l0 l1 l2 l3 a0 a1 a2 a3 a4 a5  E u hE => q_cI (by decide +kernel : am_Pg 208 1131 = some (.invokevirtual 142, 3, [3, 187, 7, 4, 8, 0], 0)) (am_call_V (a := [vI a0, vI a1, vI a2, vI a3, vI a4, vI a5]) (st' := []) (Nat.le_of_ble_eq_true rfl) rfl (SE_k4 hE)) (by decide +kernel : am_Lm m_A_felt = 11) (Nat.le_of_ble_eq_true rfl) rfl (by decide +kernel),
  fun l0 l1 l3 a st E u => q_go (by decide +kernel : am_Pg 208 1134 = some (.aload_n 2, 1, [], 0)) rfl,
  fun l1 l2 l3 st E u => q_go (by decide +kernel : am_Pg 208 1135 = some (.aload_n 0, 1, [], 0)) rfl,
  fun l0 l1 l2 a st E u => q_go (by decide +kernel : am_Pg 208 1136 = some (.iload_n 3, 1, [], 0)) rfl,
  fun l0 l1 l2 l3 st E u => q_go (by decide +kernel : am_Pg 208 1137 = some (.iconst 1, 1, [], 0)) rfl,
  fun l0 l1 l2 l3 a b st E u => q_go (by decide +kernel : am_Pg 208 1138 = some (.iadd, 1, [], 0)) rfl,
  fun l0 l1 l2 l3 i st E u h0 h1 => q_isc (by decide +kernel : am_Pg 208 1139 = some (.iaload, 1, [], 0)) h0 h1,
  fun l1 l2 l3 st E u => q_go (by decide +kernel : am_Pg 208 1140 = some (.aload_n 0, 1, [], 0)) rfl,
  fun l0 l1 l2 a st E u => q_go (by decide +kernel : am_Pg 208 1141 = some (.iload_n 3, 1, [], 0)) rfl,
  fun l0 l1 l2 l3 st E u => q_go (by decide +kernel : am_Pg 208 1142 = some (.iconst 2, 1, [], 0)) rfl,
  fun l0 l1 l2 l3 a b st E u => q_go (by decide +kernel : am_Pg 208 1143 = some (.iadd, 1, [], 0)) rfl,
  fun l0 l1 l2 l3 i st E u h0 h1 => q_isc (by decide +kernel : am_Pg 208 1144 = some (.iaload, 1, [], 0)) h0 h1,
  fun l1 l2 l3 st E u => q_go (by decide +kernel : am_Pg 208 1145 = some (.aload_n 0, 1, [], 0)) rfl,
  fun l0 l1 l2 a st E u => q_go (by decide +kernel : am_Pg 208 1146 = some (.iload_n 3, 1, [], 0)) rfl,
  fun l0 l1 l2 l3 st E u => q_go (by decide +kernel : am_Pg 208 1147 = some (.iconst 3, 1, [], 0)) rfl,
  fun l0 l1 l2 l3 a b st E u => q_go (by decide +kernel : am_Pg 208 1148 = some (.iadd, 1, [], 0)) rfl,
  fun l0 l1 l2 l3 i st E u h0 h1 => q_isc (by decide +kernel : am_Pg 208 1149 = some (.iaload, 1, [], 0)) h0 h1,
  fun l1 l2 l3 st E u => q_go (by decide +kernel : am_Pg 208 1150 = some (.aload_n 0, 1, [], 0)) rfl,
  fun l0 l1 l2 a st E u => q_go (by decide +kernel : am_Pg 208 1151 = some (.iload_n 3, 1, [], 0)) rfl,
  fun l0 l1 l2 l3 st E u => q_go (by decide +kernel : am_Pg 208 1152 = some (.iconst 4, 1, [], 0)) rfl,
  fun l0 l1 l2 l3 a b st E u => q_go (by decide +kernel : am_Pg 208 1153 = some (.iadd, 1, [], 0)) rfl,
  fun l0 l1 l2 l3 i st E u h0 h1 => q_isc (by decide +kernel : am_Pg 208 1154 = some (.iaload, 1, [], 0)) h0 h1,
  fun l1 l2 l3 st E u => q_go (by decide +kernel : am_Pg 208 1155 = some (.aload_n 0, 1, [], 0)) rfl,
  fun l0 l1 l2 a st E u => q_go (by decide +kernel : am_Pg 208 1156 = some (.iload_n 3, 1, [], 0)) rfl,
  fun l0 l1 l2 l3 st E u => q_go (by decide +kernel : am_Pg 208 1157 = some (.iconst 5, 1, [], 0)) rfl,
  fun l0 l1 l2 l3 a b st E u => q_go (by decide +kernel : am_Pg 208 1158 = some (.iadd, 1, [], 0)) rfl,
  fun l0 l1 l2 l3 i st E u h0 h1 => q_isc (by decide +kernel : am_Pg 208 1159 = some (.iaload, 1, [], 0)) h0 h1,
  fun l1 l2 l3 st E u => q_go (by decide +kernel : am_Pg 208 1160 = some (.aload_n 0, 1, [], 0)) rfl,
  fun l0 l1 l2 a st E u => q_go (by decide +kernel : am_Pg 208 1161 = some (.iload_n 3, 1, [], 0)) rfl,
  fun l0 l1 l2 l3 st E u => q_go (by decide +kernel : am_Pg 208 1162 = some (.bipush 6, 2, [], 0)) rfl,
  fun l0 l1 l2 l3 a b st E u => q_go (by decide +kernel : am_Pg 208 1164 = some (.iadd, 1, [], 0)) rfl,
  fun l0 l1 l2 l3 i st E u h0 h1 => q_isc (by decide +kernel : am_Pg 208 1165 = some (.iaload, 1, [], 0)) h0 h1,
  fun l0 l1 l2 l3 a0 a1 a2 a3 a4 a5 r0 E u hE => q_cI (by decide +kernel : am_Pg 208 1166 = some (.invokevirtual 146, 3, [3, 192, 7, 5, 17, 0], 0)) (am_call_V (a := [vI a0, vI a1, vI a2, vI a3, vI a4, vI a5]) (st' := [r0]) (Nat.le_of_ble_eq_true rfl) rfl (SE_k5 hE)) (by decide +kernel : am_Lm m_M_felt = 10) (Nat.le_of_ble_eq_true rfl) rfl (by decide +kernel),
  fun l0 l1 l2 l3 a b st E u => q_icmp_eq (tgt := 1449) (by decide +kernel : am_Pg 208 1169 = some (.if_icmp .eq 280, 3, [], 0)) (by decide),
  fun l0 l1 l2 l3 st E u => q_go (by decide +kernel : am_Pg 208 1172 = some (.iconst 0, 1, [], 0)) rfl,
  fun l0 l1 l2 l3 b E u => by cases b <;> exact q_ret (by decide +kernel : am_Pg 208 1173 = some (.ireturn, 1, [1], 0)) rfl,
  fun l0 l1 l2 l3 E u => q_ret (by decide +kernel : am_Pg 208 1173 = some (.ireturn, 1, [1], 0)) rfl,
  fun l0 l1 l2 l3 E u => q_ret (by decide +kernel : am_Pg 208 1173 = some (.ireturn, 1, [1], 0)) rfl⟩
theorem x_L_law_1174 :
  (∀ (l0 l2 l3 : am_V) (a : Option Nat) (st : List am_V) (E : am_E) (u : am_M), Rn m_L_law 1174 [l0, vR a, l2, l3] st E u = Rn m_L_law 1175 [l0, vR a, l2, l3] (vR a :: st) E u) ∧
  (∀ (l1 l2 l3 : am_V) (st : List am_V) (E : am_E) (u : am_M), Rn m_L_law 1175 [vB true, l1, l2, l3] st E u = Rn m_L_law 1176 [vB true, l1, l2, l3] (vB true :: st) E u) ∧
  (∀ (l0 l1 l2 : am_V) (a : Int) (st : List am_V) (E : am_E) (u : am_M), Rn m_L_law 1176 [l0, l1, l2, vI a] st E u = Rn m_L_law 1177 [l0, l1, l2, vI a] (vI a :: st) E u) ∧
  (∀ (l0 l1 l2 l3 : am_V) (st : List am_V) (E : am_E) (u : am_M), Rn m_L_law 1177 [l0, l1, l2, l3] st E u = Rn m_L_law 1178 [l0, l1, l2, l3] (vI 1 :: st) E u) ∧
  (∀ (l0 l1 l2 l3 : am_V) (a b : Int) (st : List am_V) (E : am_E) (u : am_M), Rn m_L_law 1178 [l0, l1, l2, l3] (vI b :: vI a :: st) E u = Rn m_L_law 1179 [l0, l1, l2, l3] (vI (w32 (a + b)) :: st) E u) ∧
  (∀ (l0 l1 l2 l3 : am_V) (i : Int) (st : List am_V) (E : am_E) (u : am_M) (h0 : 0 ≤ i) (h1 : i < (E.2.2.1 : Int)), Rn m_L_law 1179 [l0, l1, l2, l3] (vI i :: vB true :: st) E u = Rn m_L_law 1180 [l0, l1, l2, l3] (vI (E.2.2.2 i.toNat) :: st) E u) ∧
  (∀ (l1 l2 l3 : am_V) (st : List am_V) (E : am_E) (u : am_M), Rn m_L_law 1180 [vB true, l1, l2, l3] st E u = Rn m_L_law 1181 [vB true, l1, l2, l3] (vB true :: st) E u) ∧
  (∀ (l0 l1 l2 : am_V) (a : Int) (st : List am_V) (E : am_E) (u : am_M), Rn m_L_law 1181 [l0, l1, l2, vI a] st E u = Rn m_L_law 1182 [l0, l1, l2, vI a] (vI a :: st) E u) ∧
  (∀ (l0 l1 l2 l3 : am_V) (st : List am_V) (E : am_E) (u : am_M), Rn m_L_law 1182 [l0, l1, l2, l3] st E u = Rn m_L_law 1183 [l0, l1, l2, l3] (vI 2 :: st) E u) ∧
  (∀ (l0 l1 l2 l3 : am_V) (a b : Int) (st : List am_V) (E : am_E) (u : am_M), Rn m_L_law 1183 [l0, l1, l2, l3] (vI b :: vI a :: st) E u = Rn m_L_law 1184 [l0, l1, l2, l3] (vI (w32 (a + b)) :: st) E u) ∧
  (∀ (l0 l1 l2 l3 : am_V) (i : Int) (st : List am_V) (E : am_E) (u : am_M) (h0 : 0 ≤ i) (h1 : i < (E.2.2.1 : Int)), Rn m_L_law 1184 [l0, l1, l2, l3] (vI i :: vB true :: st) E u = Rn m_L_law 1185 [l0, l1, l2, l3] (vI (E.2.2.2 i.toNat) :: st) E u) ∧
  (∀ (l1 l2 l3 : am_V) (st : List am_V) (E : am_E) (u : am_M), Rn m_L_law 1185 [vB true, l1, l2, l3] st E u = Rn m_L_law 1186 [vB true, l1, l2, l3] (vB true :: st) E u) ∧
  (∀ (l0 l1 l2 : am_V) (a : Int) (st : List am_V) (E : am_E) (u : am_M), Rn m_L_law 1186 [l0, l1, l2, vI a] st E u = Rn m_L_law 1187 [l0, l1, l2, vI a] (vI a :: st) E u) ∧
  (∀ (l0 l1 l2 l3 : am_V) (st : List am_V) (E : am_E) (u : am_M), Rn m_L_law 1187 [l0, l1, l2, l3] st E u = Rn m_L_law 1188 [l0, l1, l2, l3] (vI 3 :: st) E u) ∧
  (∀ (l0 l1 l2 l3 : am_V) (a b : Int) (st : List am_V) (E : am_E) (u : am_M), Rn m_L_law 1188 [l0, l1, l2, l3] (vI b :: vI a :: st) E u = Rn m_L_law 1189 [l0, l1, l2, l3] (vI (w32 (a + b)) :: st) E u) ∧
  (∀ (l0 l1 l2 l3 : am_V) (i : Int) (st : List am_V) (E : am_E) (u : am_M) (h0 : 0 ≤ i) (h1 : i < (E.2.2.1 : Int)), Rn m_L_law 1189 [l0, l1, l2, l3] (vI i :: vB true :: st) E u = Rn m_L_law 1190 [l0, l1, l2, l3] (vI (E.2.2.2 i.toNat) :: st) E u) ∧
  (∀ (l1 l2 l3 : am_V) (st : List am_V) (E : am_E) (u : am_M), Rn m_L_law 1190 [vB true, l1, l2, l3] st E u = Rn m_L_law 1191 [vB true, l1, l2, l3] (vB true :: st) E u) ∧
  (∀ (l0 l1 l2 : am_V) (a : Int) (st : List am_V) (E : am_E) (u : am_M), Rn m_L_law 1191 [l0, l1, l2, vI a] st E u = Rn m_L_law 1192 [l0, l1, l2, vI a] (vI a :: st) E u) ∧
  (∀ (l0 l1 l2 l3 : am_V) (st : List am_V) (E : am_E) (u : am_M), Rn m_L_law 1192 [l0, l1, l2, l3] st E u = Rn m_L_law 1193 [l0, l1, l2, l3] (vI 4 :: st) E u) ∧
  (∀ (l0 l1 l2 l3 : am_V) (a b : Int) (st : List am_V) (E : am_E) (u : am_M), Rn m_L_law 1193 [l0, l1, l2, l3] (vI b :: vI a :: st) E u = Rn m_L_law 1194 [l0, l1, l2, l3] (vI (w32 (a + b)) :: st) E u) ∧
  (∀ (l0 l1 l2 l3 : am_V) (i : Int) (st : List am_V) (E : am_E) (u : am_M) (h0 : 0 ≤ i) (h1 : i < (E.2.2.1 : Int)), Rn m_L_law 1194 [l0, l1, l2, l3] (vI i :: vB true :: st) E u = Rn m_L_law 1195 [l0, l1, l2, l3] (vI (E.2.2.2 i.toNat) :: st) E u) ∧
  (∀ (l1 l2 l3 : am_V) (st : List am_V) (E : am_E) (u : am_M), Rn m_L_law 1195 [vB true, l1, l2, l3] st E u = Rn m_L_law 1196 [vB true, l1, l2, l3] (vB true :: st) E u) ∧
  (∀ (l0 l1 l2 : am_V) (a : Int) (st : List am_V) (E : am_E) (u : am_M), Rn m_L_law 1196 [l0, l1, l2, vI a] st E u = Rn m_L_law 1197 [l0, l1, l2, vI a] (vI a :: st) E u) ∧
  (∀ (l0 l1 l2 l3 : am_V) (st : List am_V) (E : am_E) (u : am_M), Rn m_L_law 1197 [l0, l1, l2, l3] st E u = Rn m_L_law 1198 [l0, l1, l2, l3] (vI 5 :: st) E u) ∧
  (∀ (l0 l1 l2 l3 : am_V) (a b : Int) (st : List am_V) (E : am_E) (u : am_M), Rn m_L_law 1198 [l0, l1, l2, l3] (vI b :: vI a :: st) E u = Rn m_L_law 1199 [l0, l1, l2, l3] (vI (w32 (a + b)) :: st) E u) ∧
  (∀ (l0 l1 l2 l3 : am_V) (i : Int) (st : List am_V) (E : am_E) (u : am_M) (h0 : 0 ≤ i) (h1 : i < (E.2.2.1 : Int)), Rn m_L_law 1199 [l0, l1, l2, l3] (vI i :: vB true :: st) E u = Rn m_L_law 1200 [l0, l1, l2, l3] (vI (E.2.2.2 i.toNat) :: st) E u) ∧
  (∀ (l0 l1 l2 l3 : am_V) (a0 : Int) (a1 : Int) (a2 : Int) (a3 : Int) (a4 : Int) (E : am_E) (u : am_M) (hE : SE E), Rn m_L_law 1200 [l0, l1, l2, l3] [vI a4, vI a3, vI a2, vI a1, vI a0, vR (some 0)] E u = bdI (Rn m_A_film 0 [vR (some 0), vI a0, vI a1, vI a2, vI a3, vI a4, vB false, vB false, vB false] [] E u) (KI m_L_law 1203 [l0, l1, l2, l3] [])) ∧
  (∀ (l0 l1 l3 : am_V) (a : Option Nat) (st : List am_V) (E : am_E) (u : am_M), Rn m_L_law 1203 [l0, l1, vR a, l3] st E u = Rn m_L_law 1204 [l0, l1, vR a, l3] (vR a :: st) E u) ∧
  (∀ (l1 l2 l3 : am_V) (st : List am_V) (E : am_E) (u : am_M), Rn m_L_law 1204 [vB true, l1, l2, l3] st E u = Rn m_L_law 1205 [vB true, l1, l2, l3] (vB true :: st) E u) ∧
  (∀ (l0 l1 l2 : am_V) (a : Int) (st : List am_V) (E : am_E) (u : am_M), Rn m_L_law 1205 [l0, l1, l2, vI a] st E u = Rn m_L_law 1206 [l0, l1, l2, vI a] (vI a :: st) E u) ∧
  (∀ (l0 l1 l2 l3 : am_V) (st : List am_V) (E : am_E) (u : am_M), Rn m_L_law 1206 [l0, l1, l2, l3] st E u = Rn m_L_law 1207 [l0, l1, l2, l3] (vI 1 :: st) E u) ∧
  (∀ (l0 l1 l2 l3 : am_V) (a b : Int) (st : List am_V) (E : am_E) (u : am_M), Rn m_L_law 1207 [l0, l1, l2, l3] (vI b :: vI a :: st) E u = Rn m_L_law 1208 [l0, l1, l2, l3] (vI (w32 (a + b)) :: st) E u) ∧
  (∀ (l0 l1 l2 l3 : am_V) (i : Int) (st : List am_V) (E : am_E) (u : am_M) (h0 : 0 ≤ i) (h1 : i < (E.2.2.1 : Int)), Rn m_L_law 1208 [l0, l1, l2, l3] (vI i :: vB true :: st) E u = Rn m_L_law 1209 [l0, l1, l2, l3] (vI (E.2.2.2 i.toNat) :: st) E u) ∧
  (∀ (l1 l2 l3 : am_V) (st : List am_V) (E : am_E) (u : am_M), Rn m_L_law 1209 [vB true, l1, l2, l3] st E u = Rn m_L_law 1210 [vB true, l1, l2, l3] (vB true :: st) E u) ∧
  (∀ (l0 l1 l2 : am_V) (a : Int) (st : List am_V) (E : am_E) (u : am_M), Rn m_L_law 1210 [l0, l1, l2, vI a] st E u = Rn m_L_law 1211 [l0, l1, l2, vI a] (vI a :: st) E u) ∧
  (∀ (l0 l1 l2 l3 : am_V) (st : List am_V) (E : am_E) (u : am_M), Rn m_L_law 1211 [l0, l1, l2, l3] st E u = Rn m_L_law 1212 [l0, l1, l2, l3] (vI 2 :: st) E u) ∧
  (∀ (l0 l1 l2 l3 : am_V) (a b : Int) (st : List am_V) (E : am_E) (u : am_M), Rn m_L_law 1212 [l0, l1, l2, l3] (vI b :: vI a :: st) E u = Rn m_L_law 1213 [l0, l1, l2, l3] (vI (w32 (a + b)) :: st) E u) ∧
  (∀ (l0 l1 l2 l3 : am_V) (i : Int) (st : List am_V) (E : am_E) (u : am_M) (h0 : 0 ≤ i) (h1 : i < (E.2.2.1 : Int)), Rn m_L_law 1213 [l0, l1, l2, l3] (vI i :: vB true :: st) E u = Rn m_L_law 1214 [l0, l1, l2, l3] (vI (E.2.2.2 i.toNat) :: st) E u) ∧
  (∀ (l1 l2 l3 : am_V) (st : List am_V) (E : am_E) (u : am_M), Rn m_L_law 1214 [vB true, l1, l2, l3] st E u = Rn m_L_law 1215 [vB true, l1, l2, l3] (vB true :: st) E u) ∧
  (∀ (l0 l1 l2 : am_V) (a : Int) (st : List am_V) (E : am_E) (u : am_M), Rn m_L_law 1215 [l0, l1, l2, vI a] st E u = Rn m_L_law 1216 [l0, l1, l2, vI a] (vI a :: st) E u) ∧
  (∀ (l0 l1 l2 l3 : am_V) (st : List am_V) (E : am_E) (u : am_M), Rn m_L_law 1216 [l0, l1, l2, l3] st E u = Rn m_L_law 1217 [l0, l1, l2, l3] (vI 3 :: st) E u) ∧
  (∀ (l0 l1 l2 l3 : am_V) (a b : Int) (st : List am_V) (E : am_E) (u : am_M), Rn m_L_law 1217 [l0, l1, l2, l3] (vI b :: vI a :: st) E u = Rn m_L_law 1218 [l0, l1, l2, l3] (vI (w32 (a + b)) :: st) E u) ∧
  (∀ (l0 l1 l2 l3 : am_V) (i : Int) (st : List am_V) (E : am_E) (u : am_M) (h0 : 0 ≤ i) (h1 : i < (E.2.2.1 : Int)), Rn m_L_law 1218 [l0, l1, l2, l3] (vI i :: vB true :: st) E u = Rn m_L_law 1219 [l0, l1, l2, l3] (vI (E.2.2.2 i.toNat) :: st) E u) ∧
  (∀ (l1 l2 l3 : am_V) (st : List am_V) (E : am_E) (u : am_M), Rn m_L_law 1219 [vB true, l1, l2, l3] st E u = Rn m_L_law 1220 [vB true, l1, l2, l3] (vB true :: st) E u) ∧
  (∀ (l0 l1 l2 : am_V) (a : Int) (st : List am_V) (E : am_E) (u : am_M), Rn m_L_law 1220 [l0, l1, l2, vI a] st E u = Rn m_L_law 1221 [l0, l1, l2, vI a] (vI a :: st) E u) ∧
  (∀ (l0 l1 l2 l3 : am_V) (st : List am_V) (E : am_E) (u : am_M), Rn m_L_law 1221 [l0, l1, l2, l3] st E u = Rn m_L_law 1222 [l0, l1, l2, l3] (vI 4 :: st) E u) ∧
  (∀ (l0 l1 l2 l3 : am_V) (a b : Int) (st : List am_V) (E : am_E) (u : am_M), Rn m_L_law 1222 [l0, l1, l2, l3] (vI b :: vI a :: st) E u = Rn m_L_law 1223 [l0, l1, l2, l3] (vI (w32 (a + b)) :: st) E u) ∧
  (∀ (l0 l1 l2 l3 : am_V) (i : Int) (st : List am_V) (E : am_E) (u : am_M) (h0 : 0 ≤ i) (h1 : i < (E.2.2.1 : Int)), Rn m_L_law 1223 [l0, l1, l2, l3] (vI i :: vB true :: st) E u = Rn m_L_law 1224 [l0, l1, l2, l3] (vI (E.2.2.2 i.toNat) :: st) E u) ∧
  (∀ (l1 l2 l3 : am_V) (st : List am_V) (E : am_E) (u : am_M), Rn m_L_law 1224 [vB true, l1, l2, l3] st E u = Rn m_L_law 1225 [vB true, l1, l2, l3] (vB true :: st) E u) ∧
  (∀ (l0 l1 l2 : am_V) (a : Int) (st : List am_V) (E : am_E) (u : am_M), Rn m_L_law 1225 [l0, l1, l2, vI a] st E u = Rn m_L_law 1226 [l0, l1, l2, vI a] (vI a :: st) E u) ∧
  (∀ (l0 l1 l2 l3 : am_V) (st : List am_V) (E : am_E) (u : am_M), Rn m_L_law 1226 [l0, l1, l2, l3] st E u = Rn m_L_law 1227 [l0, l1, l2, l3] (vI 5 :: st) E u) ∧
  (∀ (l0 l1 l2 l3 : am_V) (a b : Int) (st : List am_V) (E : am_E) (u : am_M), Rn m_L_law 1227 [l0, l1, l2, l3] (vI b :: vI a :: st) E u = Rn m_L_law 1228 [l0, l1, l2, l3] (vI (w32 (a + b)) :: st) E u) ∧
  (∀ (l0 l1 l2 l3 : am_V) (i : Int) (st : List am_V) (E : am_E) (u : am_M) (h0 : 0 ≤ i) (h1 : i < (E.2.2.1 : Int)), Rn m_L_law 1228 [l0, l1, l2, l3] (vI i :: vB true :: st) E u = Rn m_L_law 1229 [l0, l1, l2, l3] (vI (E.2.2.2 i.toNat) :: st) E u) ∧
  (∀ (l0 l1 l2 l3 : am_V) (a0 : Int) (a1 : Int) (a2 : Int) (a3 : Int) (a4 : Int) (r0 : am_V) (E : am_E) (u : am_M) (hE : SE E), Rn m_L_law 1229 [l0, l1, l2, l3] [vI a4, vI a3, vI a2, vI a1, vI a0, vR (some 149), r0] E u = bdI (Rn m_M_film 0 [vR (some 149), vI a0, vI a1, vI a2, vI a3, vI a4, vB false, vB false] [] E u) (KI m_L_law 1232 [l0, l1, l2, l3] [r0])) ∧
  (∀ (l0 l1 l2 l3 : am_V) (a b : Int) (st : List am_V) (E : am_E) (u : am_M), Rn m_L_law 1232 [l0, l1, l2, l3] (vI b :: vI a :: st) E u = if a = b then Rn m_L_law 1449 [l0, l1, l2, l3] st E u else Rn m_L_law 1235 [l0, l1, l2, l3] st E u) ∧
  (∀ (l0 l1 l2 l3 : am_V) (st : List am_V) (E : am_E) (u : am_M), Rn m_L_law 1235 [l0, l1, l2, l3] st E u = Rn m_L_law 1236 [l0, l1, l2, l3] (vI 0 :: st) E u) ∧
  (∀ (l0 l1 l2 l3 : am_V) (b : Bool) (E : am_E) (u : am_M), Rn m_L_law 1236 [l0, l1, l2, l3] [vI (bI b)] E u = some (some (vI (bI b)), E, u)) ∧
  (∀ (l0 l1 l2 l3 : am_V) (E : am_E) (u : am_M), Rn m_L_law 1236 [l0, l1, l2, l3] [vI 1] E u = some (some (vI 1), E, u)) ∧
  (∀ (l0 l1 l2 l3 : am_V) (E : am_E) (u : am_M), Rn m_L_law 1236 [l0, l1, l2, l3] [vI 0] E u = some (some (vI 0), E, u)) :=
  ⟨fun l0 l2 l3 a st E u => q_go (by decide +kernel : am_Pg 208 1174 = some (.aload_n 1, 1, [], 0)) rfl,
  fun l1 l2 l3 st E u => q_go (by decide +kernel : am_Pg 208 1175 = some (.aload_n 0, 1, [], 0)) rfl,
  fun l0 l1 l2 a st E u => q_go (by decide +kernel : am_Pg 208 1176 = some (.iload_n 3, 1, [], 0)) rfl,
  fun l0 l1 l2 l3 st E u => q_go (by decide +kernel : am_Pg 208 1177 = some (.iconst 1, 1, [], 0)) rfl,
  fun l0 l1 l2 l3 a b st E u => q_go (by decide +kernel : am_Pg 208 1178 = some (.iadd, 1, [], 0)) rfl,
  fun l0 l1 l2 l3 i st E u h0 h1 => q_isc (by decide +kernel : am_Pg 208 1179 = some (.iaload, 1, [], 0)) h0 h1,
  fun l1 l2 l3 st E u => q_go (by decide +kernel : am_Pg 208 1180 = some (.aload_n 0, 1, [], 0)) rfl,
  fun l0 l1 l2 a st E u => q_go (by decide +kernel : am_Pg 208 1181 = some (.iload_n 3, 1, [], 0)) rfl,
  fun l0 l1 l2 l3 st E u => q_go (by decide +kernel : am_Pg 208 1182 = some (.iconst 2, 1, [], 0)) rfl,
  fun l0 l1 l2 l3 a b st E u => q_go (by decide +kernel : am_Pg 208 1183 = some (.iadd, 1, [], 0)) rfl,
  fun l0 l1 l2 l3 i st E u h0 h1 => q_isc (by decide +kernel : am_Pg 208 1184 = some (.iaload, 1, [], 0)) h0 h1,
  fun l1 l2 l3 st E u => q_go (by decide +kernel : am_Pg 208 1185 = some (.aload_n 0, 1, [], 0)) rfl,
  fun l0 l1 l2 a st E u => q_go (by decide +kernel : am_Pg 208 1186 = some (.iload_n 3, 1, [], 0)) rfl,
  fun l0 l1 l2 l3 st E u => q_go (by decide +kernel : am_Pg 208 1187 = some (.iconst 3, 1, [], 0)) rfl,
  fun l0 l1 l2 l3 a b st E u => q_go (by decide +kernel : am_Pg 208 1188 = some (.iadd, 1, [], 0)) rfl,
  fun l0 l1 l2 l3 i st E u h0 h1 => q_isc (by decide +kernel : am_Pg 208 1189 = some (.iaload, 1, [], 0)) h0 h1,
  fun l1 l2 l3 st E u => q_go (by decide +kernel : am_Pg 208 1190 = some (.aload_n 0, 1, [], 0)) rfl,
  fun l0 l1 l2 a st E u => q_go (by decide +kernel : am_Pg 208 1191 = some (.iload_n 3, 1, [], 0)) rfl,
  fun l0 l1 l2 l3 st E u => q_go (by decide +kernel : am_Pg 208 1192 = some (.iconst 4, 1, [], 0)) rfl,
  fun l0 l1 l2 l3 a b st E u => q_go (by decide +kernel : am_Pg 208 1193 = some (.iadd, 1, [], 0)) rfl,
  fun l0 l1 l2 l3 i st E u h0 h1 => q_isc (by decide +kernel : am_Pg 208 1194 = some (.iaload, 1, [], 0)) h0 h1,
  fun l1 l2 l3 st E u => q_go (by decide +kernel : am_Pg 208 1195 = some (.aload_n 0, 1, [], 0)) rfl,
  fun l0 l1 l2 a st E u => q_go (by decide +kernel : am_Pg 208 1196 = some (.iload_n 3, 1, [], 0)) rfl,
  fun l0 l1 l2 l3 st E u => q_go (by decide +kernel : am_Pg 208 1197 = some (.iconst 5, 1, [], 0)) rfl,
  fun l0 l1 l2 l3 a b st E u => q_go (by decide +kernel : am_Pg 208 1198 = some (.iadd, 1, [], 0)) rfl,
  fun l0 l1 l2 l3 i st E u h0 h1 => q_isc (by decide +kernel : am_Pg 208 1199 = some (.iaload, 1, [], 0)) h0 h1,
  fun l0 l1 l2 l3 a0 a1 a2 a3 a4  E u hE => q_cI (by decide +kernel : am_Pg 208 1200 = some (.invokevirtual 147, 3, [3, 195, 6, 4, 8, 0], 0)) (am_call_V (a := [vI a0, vI a1, vI a2, vI a3, vI a4]) (st' := []) (Nat.le_of_ble_eq_true rfl) rfl (SE_k4 hE)) (by decide +kernel : am_Lm m_A_film = 9) (Nat.le_of_ble_eq_true rfl) rfl (by decide +kernel),
  fun l0 l1 l3 a st E u => q_go (by decide +kernel : am_Pg 208 1203 = some (.aload_n 2, 1, [], 0)) rfl,
  fun l1 l2 l3 st E u => q_go (by decide +kernel : am_Pg 208 1204 = some (.aload_n 0, 1, [], 0)) rfl,
  fun l0 l1 l2 a st E u => q_go (by decide +kernel : am_Pg 208 1205 = some (.iload_n 3, 1, [], 0)) rfl,
  fun l0 l1 l2 l3 st E u => q_go (by decide +kernel : am_Pg 208 1206 = some (.iconst 1, 1, [], 0)) rfl,
  fun l0 l1 l2 l3 a b st E u => q_go (by decide +kernel : am_Pg 208 1207 = some (.iadd, 1, [], 0)) rfl,
  fun l0 l1 l2 l3 i st E u h0 h1 => q_isc (by decide +kernel : am_Pg 208 1208 = some (.iaload, 1, [], 0)) h0 h1,
  fun l1 l2 l3 st E u => q_go (by decide +kernel : am_Pg 208 1209 = some (.aload_n 0, 1, [], 0)) rfl,
  fun l0 l1 l2 a st E u => q_go (by decide +kernel : am_Pg 208 1210 = some (.iload_n 3, 1, [], 0)) rfl,
  fun l0 l1 l2 l3 st E u => q_go (by decide +kernel : am_Pg 208 1211 = some (.iconst 2, 1, [], 0)) rfl,
  fun l0 l1 l2 l3 a b st E u => q_go (by decide +kernel : am_Pg 208 1212 = some (.iadd, 1, [], 0)) rfl,
  fun l0 l1 l2 l3 i st E u h0 h1 => q_isc (by decide +kernel : am_Pg 208 1213 = some (.iaload, 1, [], 0)) h0 h1,
  fun l1 l2 l3 st E u => q_go (by decide +kernel : am_Pg 208 1214 = some (.aload_n 0, 1, [], 0)) rfl,
  fun l0 l1 l2 a st E u => q_go (by decide +kernel : am_Pg 208 1215 = some (.iload_n 3, 1, [], 0)) rfl,
  fun l0 l1 l2 l3 st E u => q_go (by decide +kernel : am_Pg 208 1216 = some (.iconst 3, 1, [], 0)) rfl,
  fun l0 l1 l2 l3 a b st E u => q_go (by decide +kernel : am_Pg 208 1217 = some (.iadd, 1, [], 0)) rfl,
  fun l0 l1 l2 l3 i st E u h0 h1 => q_isc (by decide +kernel : am_Pg 208 1218 = some (.iaload, 1, [], 0)) h0 h1,
  fun l1 l2 l3 st E u => q_go (by decide +kernel : am_Pg 208 1219 = some (.aload_n 0, 1, [], 0)) rfl,
  fun l0 l1 l2 a st E u => q_go (by decide +kernel : am_Pg 208 1220 = some (.iload_n 3, 1, [], 0)) rfl,
  fun l0 l1 l2 l3 st E u => q_go (by decide +kernel : am_Pg 208 1221 = some (.iconst 4, 1, [], 0)) rfl,
  fun l0 l1 l2 l3 a b st E u => q_go (by decide +kernel : am_Pg 208 1222 = some (.iadd, 1, [], 0)) rfl,
  fun l0 l1 l2 l3 i st E u h0 h1 => q_isc (by decide +kernel : am_Pg 208 1223 = some (.iaload, 1, [], 0)) h0 h1,
  fun l1 l2 l3 st E u => q_go (by decide +kernel : am_Pg 208 1224 = some (.aload_n 0, 1, [], 0)) rfl,
  fun l0 l1 l2 a st E u => q_go (by decide +kernel : am_Pg 208 1225 = some (.iload_n 3, 1, [], 0)) rfl,
  fun l0 l1 l2 l3 st E u => q_go (by decide +kernel : am_Pg 208 1226 = some (.iconst 5, 1, [], 0)) rfl,
  fun l0 l1 l2 l3 a b st E u => q_go (by decide +kernel : am_Pg 208 1227 = some (.iadd, 1, [], 0)) rfl,
  fun l0 l1 l2 l3 i st E u h0 h1 => q_isc (by decide +kernel : am_Pg 208 1228 = some (.iaload, 1, [], 0)) h0 h1,
  fun l0 l1 l2 l3 a0 a1 a2 a3 a4 r0 E u hE => q_cI (by decide +kernel : am_Pg 208 1229 = some (.invokevirtual 150, 3, [3, 196, 6, 5, 17, 0], 0)) (am_call_V (a := [vI a0, vI a1, vI a2, vI a3, vI a4]) (st' := [r0]) (Nat.le_of_ble_eq_true rfl) rfl (SE_k5 hE)) (by decide +kernel : am_Lm m_M_film = 8) (Nat.le_of_ble_eq_true rfl) rfl (by decide +kernel),
  fun l0 l1 l2 l3 a b st E u => q_icmp_eq (tgt := 1449) (by decide +kernel : am_Pg 208 1232 = some (.if_icmp .eq 217, 3, [], 0)) (by decide),
  fun l0 l1 l2 l3 st E u => q_go (by decide +kernel : am_Pg 208 1235 = some (.iconst 0, 1, [], 0)) rfl,
  fun l0 l1 l2 l3 b E u => by cases b <;> exact q_ret (by decide +kernel : am_Pg 208 1236 = some (.ireturn, 1, [1], 0)) rfl,
  fun l0 l1 l2 l3 E u => q_ret (by decide +kernel : am_Pg 208 1236 = some (.ireturn, 1, [1], 0)) rfl,
  fun l0 l1 l2 l3 E u => q_ret (by decide +kernel : am_Pg 208 1236 = some (.ireturn, 1, [1], 0)) rfl⟩
theorem x_L_law_1237 :
  (∀ (l0 l2 l3 : am_V) (a : Option Nat) (st : List am_V) (E : am_E) (u : am_M), Rn m_L_law 1237 [l0, vR a, l2, l3] st E u = Rn m_L_law 1238 [l0, vR a, l2, l3] (vR a :: st) E u) ∧
  (∀ (l1 l2 l3 : am_V) (st : List am_V) (E : am_E) (u : am_M), Rn m_L_law 1238 [vB true, l1, l2, l3] st E u = Rn m_L_law 1239 [vB true, l1, l2, l3] (vB true :: st) E u) ∧
  (∀ (l0 l1 l2 : am_V) (a : Int) (st : List am_V) (E : am_E) (u : am_M), Rn m_L_law 1239 [l0, l1, l2, vI a] st E u = Rn m_L_law 1240 [l0, l1, l2, vI a] (vI a :: st) E u) ∧
  (∀ (l0 l1 l2 l3 : am_V) (st : List am_V) (E : am_E) (u : am_M), Rn m_L_law 1240 [l0, l1, l2, l3] st E u = Rn m_L_law 1241 [l0, l1, l2, l3] (vI 1 :: st) E u) ∧
  (∀ (l0 l1 l2 l3 : am_V) (a b : Int) (st : List am_V) (E : am_E) (u : am_M), Rn m_L_law 1241 [l0, l1, l2, l3] (vI b :: vI a :: st) E u = Rn m_L_law 1242 [l0, l1, l2, l3] (vI (w32 (a + b)) :: st) E u) ∧
  (∀ (l0 l1 l2 l3 : am_V) (i : Int) (st : List am_V) (E : am_E) (u : am_M) (h0 : 0 ≤ i) (h1 : i < (E.2.2.1 : Int)), Rn m_L_law 1242 [l0, l1, l2, l3] (vI i :: vB true :: st) E u = Rn m_L_law 1243 [l0, l1, l2, l3] (vI (E.2.2.2 i.toNat) :: st) E u) ∧
  (∀ (l1 l2 l3 : am_V) (st : List am_V) (E : am_E) (u : am_M), Rn m_L_law 1243 [vB true, l1, l2, l3] st E u = Rn m_L_law 1244 [vB true, l1, l2, l3] (vB true :: st) E u) ∧
  (∀ (l0 l1 l2 : am_V) (a : Int) (st : List am_V) (E : am_E) (u : am_M), Rn m_L_law 1244 [l0, l1, l2, vI a] st E u = Rn m_L_law 1245 [l0, l1, l2, vI a] (vI a :: st) E u) ∧
  (∀ (l0 l1 l2 l3 : am_V) (st : List am_V) (E : am_E) (u : am_M), Rn m_L_law 1245 [l0, l1, l2, l3] st E u = Rn m_L_law 1246 [l0, l1, l2, l3] (vI 2 :: st) E u) ∧
  (∀ (l0 l1 l2 l3 : am_V) (a b : Int) (st : List am_V) (E : am_E) (u : am_M), Rn m_L_law 1246 [l0, l1, l2, l3] (vI b :: vI a :: st) E u = Rn m_L_law 1247 [l0, l1, l2, l3] (vI (w32 (a + b)) :: st) E u) ∧
  (∀ (l0 l1 l2 l3 : am_V) (i : Int) (st : List am_V) (E : am_E) (u : am_M) (h0 : 0 ≤ i) (h1 : i < (E.2.2.1 : Int)), Rn m_L_law 1247 [l0, l1, l2, l3] (vI i :: vB true :: st) E u = Rn m_L_law 1248 [l0, l1, l2, l3] (vI (E.2.2.2 i.toNat) :: st) E u) ∧
  (∀ (l1 l2 l3 : am_V) (st : List am_V) (E : am_E) (u : am_M), Rn m_L_law 1248 [vB true, l1, l2, l3] st E u = Rn m_L_law 1249 [vB true, l1, l2, l3] (vB true :: st) E u) ∧
  (∀ (l0 l1 l2 : am_V) (a : Int) (st : List am_V) (E : am_E) (u : am_M), Rn m_L_law 1249 [l0, l1, l2, vI a] st E u = Rn m_L_law 1250 [l0, l1, l2, vI a] (vI a :: st) E u) ∧
  (∀ (l0 l1 l2 l3 : am_V) (st : List am_V) (E : am_E) (u : am_M), Rn m_L_law 1250 [l0, l1, l2, l3] st E u = Rn m_L_law 1251 [l0, l1, l2, l3] (vI 3 :: st) E u) ∧
  (∀ (l0 l1 l2 l3 : am_V) (a b : Int) (st : List am_V) (E : am_E) (u : am_M), Rn m_L_law 1251 [l0, l1, l2, l3] (vI b :: vI a :: st) E u = Rn m_L_law 1252 [l0, l1, l2, l3] (vI (w32 (a + b)) :: st) E u) ∧
  (∀ (l0 l1 l2 l3 : am_V) (i : Int) (st : List am_V) (E : am_E) (u : am_M) (h0 : 0 ≤ i) (h1 : i < (E.2.2.1 : Int)), Rn m_L_law 1252 [l0, l1, l2, l3] (vI i :: vB true :: st) E u = Rn m_L_law 1253 [l0, l1, l2, l3] (vI (E.2.2.2 i.toNat) :: st) E u) ∧
  (∀ (l0 l1 l2 l3 : am_V) (a0 : Int) (a1 : Int) (a2 : Int) (E : am_E) (u : am_M) (hE : SE E), Rn m_L_law 1253 [l0, l1, l2, l3] [vI a2, vI a1, vI a0, vR (some 0)] E u = bdI (Rn m_A_sheet 0 [vR (some 0), vI a0, vI a1, vI a2, vB false] [] E u) (KI m_L_law 1256 [l0, l1, l2, l3] [])) ∧
  (∀ (l0 l1 l3 : am_V) (a : Option Nat) (st : List am_V) (E : am_E) (u : am_M), Rn m_L_law 1256 [l0, l1, vR a, l3] st E u = Rn m_L_law 1257 [l0, l1, vR a, l3] (vR a :: st) E u) ∧
  (∀ (l1 l2 l3 : am_V) (st : List am_V) (E : am_E) (u : am_M), Rn m_L_law 1257 [vB true, l1, l2, l3] st E u = Rn m_L_law 1258 [vB true, l1, l2, l3] (vB true :: st) E u) ∧
  (∀ (l0 l1 l2 : am_V) (a : Int) (st : List am_V) (E : am_E) (u : am_M), Rn m_L_law 1258 [l0, l1, l2, vI a] st E u = Rn m_L_law 1259 [l0, l1, l2, vI a] (vI a :: st) E u) ∧
  (∀ (l0 l1 l2 l3 : am_V) (st : List am_V) (E : am_E) (u : am_M), Rn m_L_law 1259 [l0, l1, l2, l3] st E u = Rn m_L_law 1260 [l0, l1, l2, l3] (vI 1 :: st) E u) ∧
  (∀ (l0 l1 l2 l3 : am_V) (a b : Int) (st : List am_V) (E : am_E) (u : am_M), Rn m_L_law 1260 [l0, l1, l2, l3] (vI b :: vI a :: st) E u = Rn m_L_law 1261 [l0, l1, l2, l3] (vI (w32 (a + b)) :: st) E u) ∧
  (∀ (l0 l1 l2 l3 : am_V) (i : Int) (st : List am_V) (E : am_E) (u : am_M) (h0 : 0 ≤ i) (h1 : i < (E.2.2.1 : Int)), Rn m_L_law 1261 [l0, l1, l2, l3] (vI i :: vB true :: st) E u = Rn m_L_law 1262 [l0, l1, l2, l3] (vI (E.2.2.2 i.toNat) :: st) E u) ∧
  (∀ (l1 l2 l3 : am_V) (st : List am_V) (E : am_E) (u : am_M), Rn m_L_law 1262 [vB true, l1, l2, l3] st E u = Rn m_L_law 1263 [vB true, l1, l2, l3] (vB true :: st) E u) ∧
  (∀ (l0 l1 l2 : am_V) (a : Int) (st : List am_V) (E : am_E) (u : am_M), Rn m_L_law 1263 [l0, l1, l2, vI a] st E u = Rn m_L_law 1264 [l0, l1, l2, vI a] (vI a :: st) E u) ∧
  (∀ (l0 l1 l2 l3 : am_V) (st : List am_V) (E : am_E) (u : am_M), Rn m_L_law 1264 [l0, l1, l2, l3] st E u = Rn m_L_law 1265 [l0, l1, l2, l3] (vI 2 :: st) E u) ∧
  (∀ (l0 l1 l2 l3 : am_V) (a b : Int) (st : List am_V) (E : am_E) (u : am_M), Rn m_L_law 1265 [l0, l1, l2, l3] (vI b :: vI a :: st) E u = Rn m_L_law 1266 [l0, l1, l2, l3] (vI (w32 (a + b)) :: st) E u) ∧
  (∀ (l0 l1 l2 l3 : am_V) (i : Int) (st : List am_V) (E : am_E) (u : am_M) (h0 : 0 ≤ i) (h1 : i < (E.2.2.1 : Int)), Rn m_L_law 1266 [l0, l1, l2, l3] (vI i :: vB true :: st) E u = Rn m_L_law 1267 [l0, l1, l2, l3] (vI (E.2.2.2 i.toNat) :: st) E u) ∧
  (∀ (l1 l2 l3 : am_V) (st : List am_V) (E : am_E) (u : am_M), Rn m_L_law 1267 [vB true, l1, l2, l3] st E u = Rn m_L_law 1268 [vB true, l1, l2, l3] (vB true :: st) E u) ∧
  (∀ (l0 l1 l2 : am_V) (a : Int) (st : List am_V) (E : am_E) (u : am_M), Rn m_L_law 1268 [l0, l1, l2, vI a] st E u = Rn m_L_law 1269 [l0, l1, l2, vI a] (vI a :: st) E u) ∧
  (∀ (l0 l1 l2 l3 : am_V) (st : List am_V) (E : am_E) (u : am_M), Rn m_L_law 1269 [l0, l1, l2, l3] st E u = Rn m_L_law 1270 [l0, l1, l2, l3] (vI 3 :: st) E u) ∧
  (∀ (l0 l1 l2 l3 : am_V) (a b : Int) (st : List am_V) (E : am_E) (u : am_M), Rn m_L_law 1270 [l0, l1, l2, l3] (vI b :: vI a :: st) E u = Rn m_L_law 1271 [l0, l1, l2, l3] (vI (w32 (a + b)) :: st) E u) ∧
  (∀ (l0 l1 l2 l3 : am_V) (i : Int) (st : List am_V) (E : am_E) (u : am_M) (h0 : 0 ≤ i) (h1 : i < (E.2.2.1 : Int)), Rn m_L_law 1271 [l0, l1, l2, l3] (vI i :: vB true :: st) E u = Rn m_L_law 1272 [l0, l1, l2, l3] (vI (E.2.2.2 i.toNat) :: st) E u) ∧
  (∀ (l0 l1 l2 l3 : am_V) (a0 : Int) (a1 : Int) (a2 : Int) (r0 : am_V) (E : am_E) (u : am_M) (hE : SE E), Rn m_L_law 1272 [l0, l1, l2, l3] [vI a2, vI a1, vI a0, vR (some 149), r0] E u = bdI (Rn m_M_sheet 0 [vR (some 149), vI a0, vI a1, vI a2, vB false] [] E u) (KI m_L_law 1275 [l0, l1, l2, l3] [r0])) ∧
  (∀ (l0 l1 l2 l3 : am_V) (a b : Int) (st : List am_V) (E : am_E) (u : am_M), Rn m_L_law 1275 [l0, l1, l2, l3] (vI b :: vI a :: st) E u = if a = b then Rn m_L_law 1449 [l0, l1, l2, l3] st E u else Rn m_L_law 1278 [l0, l1, l2, l3] st E u) ∧
  (∀ (l0 l1 l2 l3 : am_V) (st : List am_V) (E : am_E) (u : am_M), Rn m_L_law 1278 [l0, l1, l2, l3] st E u = Rn m_L_law 1279 [l0, l1, l2, l3] (vI 0 :: st) E u) ∧
  (∀ (l0 l1 l2 l3 : am_V) (b : Bool) (E : am_E) (u : am_M), Rn m_L_law 1279 [l0, l1, l2, l3] [vI (bI b)] E u = some (some (vI (bI b)), E, u)) ∧
  (∀ (l0 l1 l2 l3 : am_V) (E : am_E) (u : am_M), Rn m_L_law 1279 [l0, l1, l2, l3] [vI 1] E u = some (some (vI 1), E, u)) ∧
  (∀ (l0 l1 l2 l3 : am_V) (E : am_E) (u : am_M), Rn m_L_law 1279 [l0, l1, l2, l3] [vI 0] E u = some (some (vI 0), E, u)) :=
  ⟨fun l0 l2 l3 a st E u => q_go (by decide +kernel : am_Pg 208 1237 = some (.aload_n 1, 1, [], 0)) rfl,
  fun l1 l2 l3 st E u => q_go (by decide +kernel : am_Pg 208 1238 = some (.aload_n 0, 1, [], 0)) rfl,
  fun l0 l1 l2 a st E u => q_go (by decide +kernel : am_Pg 208 1239 = some (.iload_n 3, 1, [], 0)) rfl,
  fun l0 l1 l2 l3 st E u => q_go (by decide +kernel : am_Pg 208 1240 = some (.iconst 1, 1, [], 0)) rfl,
  fun l0 l1 l2 l3 a b st E u => q_go (by decide +kernel : am_Pg 208 1241 = some (.iadd, 1, [], 0)) rfl,
  fun l0 l1 l2 l3 i st E u h0 h1 => q_isc (by decide +kernel : am_Pg 208 1242 = some (.iaload, 1, [], 0)) h0 h1,
  fun l1 l2 l3 st E u => q_go (by decide +kernel : am_Pg 208 1243 = some (.aload_n 0, 1, [], 0)) rfl,
  fun l0 l1 l2 a st E u => q_go (by decide +kernel : am_Pg 208 1244 = some (.iload_n 3, 1, [], 0)) rfl,
  fun l0 l1 l2 l3 st E u => q_go (by decide +kernel : am_Pg 208 1245 = some (.iconst 2, 1, [], 0)) rfl,
  fun l0 l1 l2 l3 a b st E u => q_go (by decide +kernel : am_Pg 208 1246 = some (.iadd, 1, [], 0)) rfl,
  fun l0 l1 l2 l3 i st E u h0 h1 => q_isc (by decide +kernel : am_Pg 208 1247 = some (.iaload, 1, [], 0)) h0 h1,
  fun l1 l2 l3 st E u => q_go (by decide +kernel : am_Pg 208 1248 = some (.aload_n 0, 1, [], 0)) rfl,
  fun l0 l1 l2 a st E u => q_go (by decide +kernel : am_Pg 208 1249 = some (.iload_n 3, 1, [], 0)) rfl,
  fun l0 l1 l2 l3 st E u => q_go (by decide +kernel : am_Pg 208 1250 = some (.iconst 3, 1, [], 0)) rfl,
  fun l0 l1 l2 l3 a b st E u => q_go (by decide +kernel : am_Pg 208 1251 = some (.iadd, 1, [], 0)) rfl,
  fun l0 l1 l2 l3 i st E u h0 h1 => q_isc (by decide +kernel : am_Pg 208 1252 = some (.iaload, 1, [], 0)) h0 h1,
  fun l0 l1 l2 l3 a0 a1 a2  E u hE => q_cI (by decide +kernel : am_Pg 208 1253 = some (.invokevirtual 151, 3, [3, 199, 4, 4, 8, 0], 0)) (am_call_V (a := [vI a0, vI a1, vI a2]) (st' := []) (Nat.le_of_ble_eq_true rfl) rfl (SE_k4 hE)) (by decide +kernel : am_Lm m_A_sheet = 5) (Nat.le_of_ble_eq_true rfl) rfl (by decide +kernel),
  fun l0 l1 l3 a st E u => q_go (by decide +kernel : am_Pg 208 1256 = some (.aload_n 2, 1, [], 0)) rfl,
  fun l1 l2 l3 st E u => q_go (by decide +kernel : am_Pg 208 1257 = some (.aload_n 0, 1, [], 0)) rfl,
  fun l0 l1 l2 a st E u => q_go (by decide +kernel : am_Pg 208 1258 = some (.iload_n 3, 1, [], 0)) rfl,
  fun l0 l1 l2 l3 st E u => q_go (by decide +kernel : am_Pg 208 1259 = some (.iconst 1, 1, [], 0)) rfl,
  fun l0 l1 l2 l3 a b st E u => q_go (by decide +kernel : am_Pg 208 1260 = some (.iadd, 1, [], 0)) rfl,
  fun l0 l1 l2 l3 i st E u h0 h1 => q_isc (by decide +kernel : am_Pg 208 1261 = some (.iaload, 1, [], 0)) h0 h1,
  fun l1 l2 l3 st E u => q_go (by decide +kernel : am_Pg 208 1262 = some (.aload_n 0, 1, [], 0)) rfl,
  fun l0 l1 l2 a st E u => q_go (by decide +kernel : am_Pg 208 1263 = some (.iload_n 3, 1, [], 0)) rfl,
  fun l0 l1 l2 l3 st E u => q_go (by decide +kernel : am_Pg 208 1264 = some (.iconst 2, 1, [], 0)) rfl,
  fun l0 l1 l2 l3 a b st E u => q_go (by decide +kernel : am_Pg 208 1265 = some (.iadd, 1, [], 0)) rfl,
  fun l0 l1 l2 l3 i st E u h0 h1 => q_isc (by decide +kernel : am_Pg 208 1266 = some (.iaload, 1, [], 0)) h0 h1,
  fun l1 l2 l3 st E u => q_go (by decide +kernel : am_Pg 208 1267 = some (.aload_n 0, 1, [], 0)) rfl,
  fun l0 l1 l2 a st E u => q_go (by decide +kernel : am_Pg 208 1268 = some (.iload_n 3, 1, [], 0)) rfl,
  fun l0 l1 l2 l3 st E u => q_go (by decide +kernel : am_Pg 208 1269 = some (.iconst 3, 1, [], 0)) rfl,
  fun l0 l1 l2 l3 a b st E u => q_go (by decide +kernel : am_Pg 208 1270 = some (.iadd, 1, [], 0)) rfl,
  fun l0 l1 l2 l3 i st E u h0 h1 => q_isc (by decide +kernel : am_Pg 208 1271 = some (.iaload, 1, [], 0)) h0 h1,
  fun l0 l1 l2 l3 a0 a1 a2 r0 E u hE => q_cI (by decide +kernel : am_Pg 208 1272 = some (.invokevirtual 154, 3, [3, 200, 4, 5, 17, 0], 0)) (am_call_V (a := [vI a0, vI a1, vI a2]) (st' := [r0]) (Nat.le_of_ble_eq_true rfl) rfl (SE_k5 hE)) (by decide +kernel : am_Lm m_M_sheet = 5) (Nat.le_of_ble_eq_true rfl) rfl (by decide +kernel),
  fun l0 l1 l2 l3 a b st E u => q_icmp_eq (tgt := 1449) (by decide +kernel : am_Pg 208 1275 = some (.if_icmp .eq 174, 3, [], 0)) (by decide),
  fun l0 l1 l2 l3 st E u => q_go (by decide +kernel : am_Pg 208 1278 = some (.iconst 0, 1, [], 0)) rfl,
  fun l0 l1 l2 l3 b E u => by cases b <;> exact q_ret (by decide +kernel : am_Pg 208 1279 = some (.ireturn, 1, [1], 0)) rfl,
  fun l0 l1 l2 l3 E u => q_ret (by decide +kernel : am_Pg 208 1279 = some (.ireturn, 1, [1], 0)) rfl,
  fun l0 l1 l2 l3 E u => q_ret (by decide +kernel : am_Pg 208 1279 = some (.ireturn, 1, [1], 0)) rfl⟩
theorem x_L_law_1280 :
  (∀ (l0 l2 l3 : am_V) (a : Option Nat) (st : List am_V) (E : am_E) (u : am_M), Rn m_L_law 1280 [l0, vR a, l2, l3] st E u = Rn m_L_law 1281 [l0, vR a, l2, l3] (vR a :: st) E u) ∧
  (∀ (l1 l2 l3 : am_V) (st : List am_V) (E : am_E) (u : am_M), Rn m_L_law 1281 [vB true, l1, l2, l3] st E u = Rn m_L_law 1282 [vB true, l1, l2, l3] (vB true :: st) E u) ∧
  (∀ (l0 l1 l2 : am_V) (a : Int) (st : List am_V) (E : am_E) (u : am_M), Rn m_L_law 1282 [l0, l1, l2, vI a] st E u = Rn m_L_law 1283 [l0, l1, l2, vI a] (vI a :: st) E u) ∧
  (∀ (l0 l1 l2 l3 : am_V) (st : List am_V) (E : am_E) (u : am_M), Rn m_L_law 1283 [l0, l1, l2, l3] st E u = Rn m_L_law 1284 [l0, l1, l2, l3] (vI 1 :: st) E u) ∧
  (∀ (l0 l1 l2 l3 : am_V) (a b : Int) (st : List am_V) (E : am_E) (u : am_M), Rn m_L_law 1284 [l0, l1, l2, l3] (vI b :: vI a :: st) E u = Rn m_L_law 1285 [l0, l1, l2, l3] (vI (w32 (a + b)) :: st) E u) ∧
  (∀ (l0 l1 l2 l3 : am_V) (i : Int) (st : List am_V) (E : am_E) (u : am_M) (h0 : 0 ≤ i) (h1 : i < (E.2.2.1 : Int)), Rn m_L_law 1285 [l0, l1, l2, l3] (vI i :: vB true :: st) E u = Rn m_L_law 1286 [l0, l1, l2, l3] (vI (E.2.2.2 i.toNat) :: st) E u) ∧
  (∀ (l0 l1 l2 l3 : am_V) (a0 : Int) (E : am_E) (u : am_M) (hE : SE E), Rn m_L_law 1286 [l0, l1, l2, l3] [vI a0, vR (some 0)] E u = bdI (Rn m_A_drop 0 [vR (some 0), vI a0, vB false] [] E u) (KI m_L_law 1289 [l0, l1, l2, l3] [])) ∧
  (∀ (l0 l1 l3 : am_V) (a : Option Nat) (st : List am_V) (E : am_E) (u : am_M), Rn m_L_law 1289 [l0, l1, vR a, l3] st E u = Rn m_L_law 1290 [l0, l1, vR a, l3] (vR a :: st) E u) ∧
  (∀ (l1 l2 l3 : am_V) (st : List am_V) (E : am_E) (u : am_M), Rn m_L_law 1290 [vB true, l1, l2, l3] st E u = Rn m_L_law 1291 [vB true, l1, l2, l3] (vB true :: st) E u) ∧
  (∀ (l0 l1 l2 : am_V) (a : Int) (st : List am_V) (E : am_E) (u : am_M), Rn m_L_law 1291 [l0, l1, l2, vI a] st E u = Rn m_L_law 1292 [l0, l1, l2, vI a] (vI a :: st) E u) ∧
  (∀ (l0 l1 l2 l3 : am_V) (st : List am_V) (E : am_E) (u : am_M), Rn m_L_law 1292 [l0, l1, l2, l3] st E u = Rn m_L_law 1293 [l0, l1, l2, l3] (vI 1 :: st) E u) ∧
  (∀ (l0 l1 l2 l3 : am_V) (a b : Int) (st : List am_V) (E : am_E) (u : am_M), Rn m_L_law 1293 [l0, l1, l2, l3] (vI b :: vI a :: st) E u = Rn m_L_law 1294 [l0, l1, l2, l3] (vI (w32 (a + b)) :: st) E u) ∧
  (∀ (l0 l1 l2 l3 : am_V) (i : Int) (st : List am_V) (E : am_E) (u : am_M) (h0 : 0 ≤ i) (h1 : i < (E.2.2.1 : Int)), Rn m_L_law 1294 [l0, l1, l2, l3] (vI i :: vB true :: st) E u = Rn m_L_law 1295 [l0, l1, l2, l3] (vI (E.2.2.2 i.toNat) :: st) E u) ∧
  (∀ (l0 l1 l2 l3 : am_V) (a0 : Int) (r0 : am_V) (E : am_E) (u : am_M) (hE : SE E), Rn m_L_law 1295 [l0, l1, l2, l3] [vI a0, vR (some 149), r0] E u = bdI (Rn m_M_drop 0 [vR (some 149), vI a0] [] E u) (KI m_L_law 1298 [l0, l1, l2, l3] [r0])) ∧
  (∀ (l0 l1 l2 l3 : am_V) (a b : Int) (st : List am_V) (E : am_E) (u : am_M), Rn m_L_law 1298 [l0, l1, l2, l3] (vI b :: vI a :: st) E u = if a = b then Rn m_L_law 1449 [l0, l1, l2, l3] st E u else Rn m_L_law 1301 [l0, l1, l2, l3] st E u) ∧
  (∀ (l0 l1 l2 l3 : am_V) (st : List am_V) (E : am_E) (u : am_M), Rn m_L_law 1301 [l0, l1, l2, l3] st E u = Rn m_L_law 1302 [l0, l1, l2, l3] (vI 0 :: st) E u) ∧
  (∀ (l0 l1 l2 l3 : am_V) (b : Bool) (E : am_E) (u : am_M), Rn m_L_law 1302 [l0, l1, l2, l3] [vI (bI b)] E u = some (some (vI (bI b)), E, u)) ∧
  (∀ (l0 l1 l2 l3 : am_V) (E : am_E) (u : am_M), Rn m_L_law 1302 [l0, l1, l2, l3] [vI 1] E u = some (some (vI 1), E, u)) ∧
  (∀ (l0 l1 l2 l3 : am_V) (E : am_E) (u : am_M), Rn m_L_law 1302 [l0, l1, l2, l3] [vI 0] E u = some (some (vI 0), E, u)) :=
  ⟨fun l0 l2 l3 a st E u => q_go (by decide +kernel : am_Pg 208 1280 = some (.aload_n 1, 1, [], 0)) rfl,
  fun l1 l2 l3 st E u => q_go (by decide +kernel : am_Pg 208 1281 = some (.aload_n 0, 1, [], 0)) rfl,
  fun l0 l1 l2 a st E u => q_go (by decide +kernel : am_Pg 208 1282 = some (.iload_n 3, 1, [], 0)) rfl,
  fun l0 l1 l2 l3 st E u => q_go (by decide +kernel : am_Pg 208 1283 = some (.iconst 1, 1, [], 0)) rfl,
  fun l0 l1 l2 l3 a b st E u => q_go (by decide +kernel : am_Pg 208 1284 = some (.iadd, 1, [], 0)) rfl,
  fun l0 l1 l2 l3 i st E u h0 h1 => q_isc (by decide +kernel : am_Pg 208 1285 = some (.iaload, 1, [], 0)) h0 h1,
  fun l0 l1 l2 l3 a0  E u hE => q_cI (by decide +kernel : am_Pg 208 1286 = some (.invokevirtual 155, 3, [3, 201, 2, 4, 8, 0], 0)) (am_call_V (a := [vI a0]) (st' := []) (Nat.le_of_ble_eq_true rfl) rfl (SE_k4 hE)) (by decide +kernel : am_Lm m_A_drop = 3) (Nat.le_of_ble_eq_true rfl) rfl (by decide +kernel),
  fun l0 l1 l3 a st E u => q_go (by decide +kernel : am_Pg 208 1289 = some (.aload_n 2, 1, [], 0)) rfl,
  fun l1 l2 l3 st E u => q_go (by decide +kernel : am_Pg 208 1290 = some (.aload_n 0, 1, [], 0)) rfl,
  fun l0 l1 l2 a st E u => q_go (by decide +kernel : am_Pg 208 1291 = some (.iload_n 3, 1, [], 0)) rfl,
  fun l0 l1 l2 l3 st E u => q_go (by decide +kernel : am_Pg 208 1292 = some (.iconst 1, 1, [], 0)) rfl,
  fun l0 l1 l2 l3 a b st E u => q_go (by decide +kernel : am_Pg 208 1293 = some (.iadd, 1, [], 0)) rfl,
  fun l0 l1 l2 l3 i st E u h0 h1 => q_isc (by decide +kernel : am_Pg 208 1294 = some (.iaload, 1, [], 0)) h0 h1,
  fun l0 l1 l2 l3 a0 r0 E u hE => q_cI (by decide +kernel : am_Pg 208 1295 = some (.invokevirtual 158, 3, [3, 202, 2, 5, 17, 0], 0)) (am_call_V (a := [vI a0]) (st' := [r0]) (Nat.le_of_ble_eq_true rfl) rfl (SE_k5 hE)) (by decide +kernel : am_Lm m_M_drop = 2) (Nat.le_of_ble_eq_true rfl) rfl (by decide +kernel),
  fun l0 l1 l2 l3 a b st E u => q_icmp_eq (tgt := 1449) (by decide +kernel : am_Pg 208 1298 = some (.if_icmp .eq 151, 3, [], 0)) (by decide),
  fun l0 l1 l2 l3 st E u => q_go (by decide +kernel : am_Pg 208 1301 = some (.iconst 0, 1, [], 0)) rfl,
  fun l0 l1 l2 l3 b E u => by cases b <;> exact q_ret (by decide +kernel : am_Pg 208 1302 = some (.ireturn, 1, [1], 0)) rfl,
  fun l0 l1 l2 l3 E u => q_ret (by decide +kernel : am_Pg 208 1302 = some (.ireturn, 1, [1], 0)) rfl,
  fun l0 l1 l2 l3 E u => q_ret (by decide +kernel : am_Pg 208 1302 = some (.ireturn, 1, [1], 0)) rfl⟩
theorem x_L_law_1303 :
  (∀ (l0 l2 l3 : am_V) (a : Option Nat) (st : List am_V) (E : am_E) (u : am_M), Rn m_L_law 1303 [l0, vR a, l2, l3] st E u = Rn m_L_law 1304 [l0, vR a, l2, l3] (vR a :: st) E u) ∧
  (∀ (l1 l2 l3 : am_V) (st : List am_V) (E : am_E) (u : am_M), Rn m_L_law 1304 [vB true, l1, l2, l3] st E u = Rn m_L_law 1305 [vB true, l1, l2, l3] (vB true :: st) E u) ∧
  (∀ (l0 l1 l2 : am_V) (a : Int) (st : List am_V) (E : am_E) (u : am_M), Rn m_L_law 1305 [l0, l1, l2, vI a] st E u = Rn m_L_law 1306 [l0, l1, l2, vI a] (vI a :: st) E u) ∧
  (∀ (l0 l1 l2 l3 : am_V) (st : List am_V) (E : am_E) (u : am_M), Rn m_L_law 1306 [l0, l1, l2, l3] st E u = Rn m_L_law 1307 [l0, l1, l2, l3] (vI 1 :: st) E u) ∧
  (∀ (l0 l1 l2 l3 : am_V) (a b : Int) (st : List am_V) (E : am_E) (u : am_M), Rn m_L_law 1307 [l0, l1, l2, l3] (vI b :: vI a :: st) E u = Rn m_L_law 1308 [l0, l1, l2, l3] (vI (w32 (a + b)) :: st) E u) ∧
  (∀ (l0 l1 l2 l3 : am_V) (i : Int) (st : List am_V) (E : am_E) (u : am_M) (h0 : 0 ≤ i) (h1 : i < (E.2.2.1 : Int)), Rn m_L_law 1308 [l0, l1, l2, l3] (vI i :: vB true :: st) E u = Rn m_L_law 1309 [l0, l1, l2, l3] (vI (E.2.2.2 i.toNat) :: st) E u) ∧
  (∀ (l1 l2 l3 : am_V) (st : List am_V) (E : am_E) (u : am_M), Rn m_L_law 1309 [vB true, l1, l2, l3] st E u = Rn m_L_law 1310 [vB true, l1, l2, l3] (vB true :: st) E u) ∧
  (∀ (l0 l1 l2 : am_V) (a : Int) (st : List am_V) (E : am_E) (u : am_M), Rn m_L_law 1310 [l0, l1, l2, vI a] st E u = Rn m_L_law 1311 [l0, l1, l2, vI a] (vI a :: st) E u) ∧
  (∀ (l0 l1 l2 l3 : am_V) (st : List am_V) (E : am_E) (u : am_M), Rn m_L_law 1311 [l0, l1, l2, l3] st E u = Rn m_L_law 1312 [l0, l1, l2, l3] (vI 2 :: st) E u) ∧
  (∀ (l0 l1 l2 l3 : am_V) (a b : Int) (st : List am_V) (E : am_E) (u : am_M), Rn m_L_law 1312 [l0, l1, l2, l3] (vI b :: vI a :: st) E u = Rn m_L_law 1313 [l0, l1, l2, l3] (vI (w32 (a + b)) :: st) E u) ∧
  (∀ (l0 l1 l2 l3 : am_V) (i : Int) (st : List am_V) (E : am_E) (u : am_M) (h0 : 0 ≤ i) (h1 : i < (E.2.2.1 : Int)), Rn m_L_law 1313 [l0, l1, l2, l3] (vI i :: vB true :: st) E u = Rn m_L_law 1314 [l0, l1, l2, l3] (vI (E.2.2.2 i.toNat) :: st) E u) ∧
  (∀ (l1 l2 l3 : am_V) (st : List am_V) (E : am_E) (u : am_M), Rn m_L_law 1314 [vB true, l1, l2, l3] st E u = Rn m_L_law 1315 [vB true, l1, l2, l3] (vB true :: st) E u) ∧
  (∀ (l0 l1 l2 : am_V) (a : Int) (st : List am_V) (E : am_E) (u : am_M), Rn m_L_law 1315 [l0, l1, l2, vI a] st E u = Rn m_L_law 1316 [l0, l1, l2, vI a] (vI a :: st) E u) ∧
  (∀ (l0 l1 l2 l3 : am_V) (st : List am_V) (E : am_E) (u : am_M), Rn m_L_law 1316 [l0, l1, l2, l3] st E u = Rn m_L_law 1317 [l0, l1, l2, l3] (vI 3 :: st) E u) ∧
  (∀ (l0 l1 l2 l3 : am_V) (a b : Int) (st : List am_V) (E : am_E) (u : am_M), Rn m_L_law 1317 [l0, l1, l2, l3] (vI b :: vI a :: st) E u = Rn m_L_law 1318 [l0, l1, l2, l3] (vI (w32 (a + b)) :: st) E u) ∧
  (∀ (l0 l1 l2 l3 : am_V) (i : Int) (st : List am_V) (E : am_E) (u : am_M) (h0 : 0 ≤ i) (h1 : i < (E.2.2.1 : Int)), Rn m_L_law 1318 [l0, l1, l2, l3] (vI i :: vB true :: st) E u = Rn m_L_law 1319 [l0, l1, l2, l3] (vI (E.2.2.2 i.toNat) :: st) E u) ∧
  (∀ (l1 l2 l3 : am_V) (st : List am_V) (E : am_E) (u : am_M), Rn m_L_law 1319 [vB true, l1, l2, l3] st E u = Rn m_L_law 1320 [vB true, l1, l2, l3] (vB true :: st) E u) ∧
  (∀ (l0 l1 l2 : am_V) (a : Int) (st : List am_V) (E : am_E) (u : am_M), Rn m_L_law 1320 [l0, l1, l2, vI a] st E u = Rn m_L_law 1321 [l0, l1, l2, vI a] (vI a :: st) E u) ∧
  (∀ (l0 l1 l2 l3 : am_V) (st : List am_V) (E : am_E) (u : am_M), Rn m_L_law 1321 [l0, l1, l2, l3] st E u = Rn m_L_law 1322 [l0, l1, l2, l3] (vI 4 :: st) E u) ∧
  (∀ (l0 l1 l2 l3 : am_V) (a b : Int) (st : List am_V) (E : am_E) (u : am_M), Rn m_L_law 1322 [l0, l1, l2, l3] (vI b :: vI a :: st) E u = Rn m_L_law 1323 [l0, l1, l2, l3] (vI (w32 (a + b)) :: st) E u) ∧
  (∀ (l0 l1 l2 l3 : am_V) (i : Int) (st : List am_V) (E : am_E) (u : am_M) (h0 : 0 ≤ i) (h1 : i < (E.2.2.1 : Int)), Rn m_L_law 1323 [l0, l1, l2, l3] (vI i :: vB true :: st) E u = Rn m_L_law 1324 [l0, l1, l2, l3] (vI (E.2.2.2 i.toNat) :: st) E u) ∧
  (∀ (l0 l1 l2 l3 : am_V) (a : Int) (st : List am_V) (E : am_E) (u : am_M), Rn m_L_law 1324 [l0, l1, l2, l3] (vI a :: st) E u = Rn m_L_law 1325 [l0, l1, l2, l3] (vL (a) :: st) E u) ∧
  (∀ (l0 l1 l2 l3 : am_V) (st : List am_V) (E : am_E) (u : am_M), Rn m_L_law 1325 [l0, l1, l2, l3] st E u = Rn m_L_law 1327 [l0, l1, l2, l3] (vI 32 :: st) E u) ∧
  (∀ (l0 l1 l2 l3 : am_V) (a b : Int) (st : List am_V) (E : am_E) (u : am_M), Rn m_L_law 1327 [l0, l1, l2, l3] (vI b :: vL a :: st) E u = Rn m_L_law 1328 [l0, l1, l2, l3] (vL (l_shl a b) :: st) E u) ∧
  (∀ (l1 l2 l3 : am_V) (st : List am_V) (E : am_E) (u : am_M), Rn m_L_law 1328 [vB true, l1, l2, l3] st E u = Rn m_L_law 1329 [vB true, l1, l2, l3] (vB true :: st) E u) ∧
  (∀ (l0 l1 l2 : am_V) (a : Int) (st : List am_V) (E : am_E) (u : am_M), Rn m_L_law 1329 [l0, l1, l2, vI a] st E u = Rn m_L_law 1330 [l0, l1, l2, vI a] (vI a :: st) E u) ∧
  (∀ (l0 l1 l2 l3 : am_V) (st : List am_V) (E : am_E) (u : am_M), Rn m_L_law 1330 [l0, l1, l2, l3] st E u = Rn m_L_law 1331 [l0, l1, l2, l3] (vI 5 :: st) E u) ∧
  (∀ (l0 l1 l2 l3 : am_V) (a b : Int) (st : List am_V) (E : am_E) (u : am_M), Rn m_L_law 1331 [l0, l1, l2, l3] (vI b :: vI a :: st) E u = Rn m_L_law 1332 [l0, l1, l2, l3] (vI (w32 (a + b)) :: st) E u) ∧
  (∀ (l0 l1 l2 l3 : am_V) (i : Int) (st : List am_V) (E : am_E) (u : am_M) (h0 : 0 ≤ i) (h1 : i < (E.2.2.1 : Int)), Rn m_L_law 1332 [l0, l1, l2, l3] (vI i :: vB true :: st) E u = Rn m_L_law 1333 [l0, l1, l2, l3] (vI (E.2.2.2 i.toNat) :: st) E u) ∧
  (∀ (l0 l1 l2 l3 : am_V) (a : Int) (st : List am_V) (E : am_E) (u : am_M), Rn m_L_law 1333 [l0, l1, l2, l3] (vI a :: st) E u = Rn m_L_law 1334 [l0, l1, l2, l3] (vL (a) :: st) E u) ∧
  (∀ (l0 l1 l2 l3 : am_V) (st : List am_V) (E : am_E) (u : am_M), Rn m_L_law 1334 [l0, l1, l2, l3] st E u = Rn m_L_law 1337 [l0, l1, l2, l3] (vL 4294967295 :: st) E u) ∧
  (∀ (l0 l1 l2 l3 : am_V) (a b : Int) (st : List am_V) (E : am_E) (u : am_M), Rn m_L_law 1337 [l0, l1, l2, l3] (vL b :: vL a :: st) E u = Rn m_L_law 1338 [l0, l1, l2, l3] (vL (l_and a b) :: st) E u) ∧
  (∀ (l0 l1 l2 l3 : am_V) (a b : Int) (st : List am_V) (E : am_E) (u : am_M), Rn m_L_law 1338 [l0, l1, l2, l3] (vL b :: vL a :: st) E u = Rn m_L_law 1339 [l0, l1, l2, l3] (vL (l_or a b) :: st) E u) ∧
  (∀ (l0 l1 l2 l3 : am_V) (a0 : Int) (a1 : Int) (a2 : Int) (a3 : Int) (E : am_E) (u : am_M) (hE : SE E), Rn m_L_law 1339 [l0, l1, l2, l3] [vL a3, vI a2, vI a1, vI a0, vR (some 0)] E u = bdI (Rn m_A_item 0 [vR (some 0), vI a0, vI a1, vI a2, vL a3, vB false, vB false, vB false] [] E u) (KI m_L_law 1342 [l0, l1, l2, l3] [])) ∧
  (∀ (l0 l1 l3 : am_V) (a : Option Nat) (st : List am_V) (E : am_E) (u : am_M), Rn m_L_law 1342 [l0, l1, vR a, l3] st E u = Rn m_L_law 1343 [l0, l1, vR a, l3] (vR a :: st) E u) ∧
  (∀ (l1 l2 l3 : am_V) (st : List am_V) (E : am_E) (u : am_M), Rn m_L_law 1343 [vB true, l1, l2, l3] st E u = Rn m_L_law 1344 [vB true, l1, l2, l3] (vB true :: st) E u) ∧
  (∀ (l0 l1 l2 : am_V) (a : Int) (st : List am_V) (E : am_E) (u : am_M), Rn m_L_law 1344 [l0, l1, l2, vI a] st E u = Rn m_L_law 1345 [l0, l1, l2, vI a] (vI a :: st) E u) ∧
  (∀ (l0 l1 l2 l3 : am_V) (st : List am_V) (E : am_E) (u : am_M), Rn m_L_law 1345 [l0, l1, l2, l3] st E u = Rn m_L_law 1346 [l0, l1, l2, l3] (vI 1 :: st) E u) ∧
  (∀ (l0 l1 l2 l3 : am_V) (a b : Int) (st : List am_V) (E : am_E) (u : am_M), Rn m_L_law 1346 [l0, l1, l2, l3] (vI b :: vI a :: st) E u = Rn m_L_law 1347 [l0, l1, l2, l3] (vI (w32 (a + b)) :: st) E u) ∧
  (∀ (l0 l1 l2 l3 : am_V) (i : Int) (st : List am_V) (E : am_E) (u : am_M) (h0 : 0 ≤ i) (h1 : i < (E.2.2.1 : Int)), Rn m_L_law 1347 [l0, l1, l2, l3] (vI i :: vB true :: st) E u = Rn m_L_law 1348 [l0, l1, l2, l3] (vI (E.2.2.2 i.toNat) :: st) E u) ∧
  (∀ (l1 l2 l3 : am_V) (st : List am_V) (E : am_E) (u : am_M), Rn m_L_law 1348 [vB true, l1, l2, l3] st E u = Rn m_L_law 1349 [vB true, l1, l2, l3] (vB true :: st) E u) ∧
  (∀ (l0 l1 l2 : am_V) (a : Int) (st : List am_V) (E : am_E) (u : am_M), Rn m_L_law 1349 [l0, l1, l2, vI a] st E u = Rn m_L_law 1350 [l0, l1, l2, vI a] (vI a :: st) E u) ∧
  (∀ (l0 l1 l2 l3 : am_V) (st : List am_V) (E : am_E) (u : am_M), Rn m_L_law 1350 [l0, l1, l2, l3] st E u = Rn m_L_law 1351 [l0, l1, l2, l3] (vI 2 :: st) E u) ∧
  (∀ (l0 l1 l2 l3 : am_V) (a b : Int) (st : List am_V) (E : am_E) (u : am_M), Rn m_L_law 1351 [l0, l1, l2, l3] (vI b :: vI a :: st) E u = Rn m_L_law 1352 [l0, l1, l2, l3] (vI (w32 (a + b)) :: st) E u) ∧
  (∀ (l0 l1 l2 l3 : am_V) (i : Int) (st : List am_V) (E : am_E) (u : am_M) (h0 : 0 ≤ i) (h1 : i < (E.2.2.1 : Int)), Rn m_L_law 1352 [l0, l1, l2, l3] (vI i :: vB true :: st) E u = Rn m_L_law 1353 [l0, l1, l2, l3] (vI (E.2.2.2 i.toNat) :: st) E u) ∧
  (∀ (l1 l2 l3 : am_V) (st : List am_V) (E : am_E) (u : am_M), Rn m_L_law 1353 [vB true, l1, l2, l3] st E u = Rn m_L_law 1354 [vB true, l1, l2, l3] (vB true :: st) E u) ∧
  (∀ (l0 l1 l2 : am_V) (a : Int) (st : List am_V) (E : am_E) (u : am_M), Rn m_L_law 1354 [l0, l1, l2, vI a] st E u = Rn m_L_law 1355 [l0, l1, l2, vI a] (vI a :: st) E u) ∧
  (∀ (l0 l1 l2 l3 : am_V) (st : List am_V) (E : am_E) (u : am_M), Rn m_L_law 1355 [l0, l1, l2, l3] st E u = Rn m_L_law 1356 [l0, l1, l2, l3] (vI 3 :: st) E u) ∧
  (∀ (l0 l1 l2 l3 : am_V) (a b : Int) (st : List am_V) (E : am_E) (u : am_M), Rn m_L_law 1356 [l0, l1, l2, l3] (vI b :: vI a :: st) E u = Rn m_L_law 1357 [l0, l1, l2, l3] (vI (w32 (a + b)) :: st) E u) ∧
  (∀ (l0 l1 l2 l3 : am_V) (i : Int) (st : List am_V) (E : am_E) (u : am_M) (h0 : 0 ≤ i) (h1 : i < (E.2.2.1 : Int)), Rn m_L_law 1357 [l0, l1, l2, l3] (vI i :: vB true :: st) E u = Rn m_L_law 1358 [l0, l1, l2, l3] (vI (E.2.2.2 i.toNat) :: st) E u) ∧
  (∀ (l1 l2 l3 : am_V) (st : List am_V) (E : am_E) (u : am_M), Rn m_L_law 1358 [vB true, l1, l2, l3] st E u = Rn m_L_law 1359 [vB true, l1, l2, l3] (vB true :: st) E u) ∧
  (∀ (l0 l1 l2 : am_V) (a : Int) (st : List am_V) (E : am_E) (u : am_M), Rn m_L_law 1359 [l0, l1, l2, vI a] st E u = Rn m_L_law 1360 [l0, l1, l2, vI a] (vI a :: st) E u) ∧
  (∀ (l0 l1 l2 l3 : am_V) (st : List am_V) (E : am_E) (u : am_M), Rn m_L_law 1360 [l0, l1, l2, l3] st E u = Rn m_L_law 1361 [l0, l1, l2, l3] (vI 4 :: st) E u) ∧
  (∀ (l0 l1 l2 l3 : am_V) (a b : Int) (st : List am_V) (E : am_E) (u : am_M), Rn m_L_law 1361 [l0, l1, l2, l3] (vI b :: vI a :: st) E u = Rn m_L_law 1362 [l0, l1, l2, l3] (vI (w32 (a + b)) :: st) E u) ∧
  (∀ (l0 l1 l2 l3 : am_V) (i : Int) (st : List am_V) (E : am_E) (u : am_M) (h0 : 0 ≤ i) (h1 : i < (E.2.2.1 : Int)), Rn m_L_law 1362 [l0, l1, l2, l3] (vI i :: vB true :: st) E u = Rn m_L_law 1363 [l0, l1, l2, l3] (vI (E.2.2.2 i.toNat) :: st) E u) ∧
  (∀ (l0 l1 l2 l3 : am_V) (a : Int) (st : List am_V) (E : am_E) (u : am_M), Rn m_L_law 1363 [l0, l1, l2, l3] (vI a :: st) E u = Rn m_L_law 1364 [l0, l1, l2, l3] (vL (a) :: st) E u) ∧
  (∀ (l0 l1 l2 l3 : am_V) (st : List am_V) (E : am_E) (u : am_M), Rn m_L_law 1364 [l0, l1, l2, l3] st E u = Rn m_L_law 1366 [l0, l1, l2, l3] (vI 32 :: st) E u) ∧
  (∀ (l0 l1 l2 l3 : am_V) (a b : Int) (st : List am_V) (E : am_E) (u : am_M), Rn m_L_law 1366 [l0, l1, l2, l3] (vI b :: vL a :: st) E u = Rn m_L_law 1367 [l0, l1, l2, l3] (vL (l_shl a b) :: st) E u) ∧
  (∀ (l1 l2 l3 : am_V) (st : List am_V) (E : am_E) (u : am_M), Rn m_L_law 1367 [vB true, l1, l2, l3] st E u = Rn m_L_law 1368 [vB true, l1, l2, l3] (vB true :: st) E u) ∧
  (∀ (l0 l1 l2 : am_V) (a : Int) (st : List am_V) (E : am_E) (u : am_M), Rn m_L_law 1368 [l0, l1, l2, vI a] st E u = Rn m_L_law 1369 [l0, l1, l2, vI a] (vI a :: st) E u) ∧
  (∀ (l0 l1 l2 l3 : am_V) (st : List am_V) (E : am_E) (u : am_M), Rn m_L_law 1369 [l0, l1, l2, l3] st E u = Rn m_L_law 1370 [l0, l1, l2, l3] (vI 5 :: st) E u) ∧
  (∀ (l0 l1 l2 l3 : am_V) (a b : Int) (st : List am_V) (E : am_E) (u : am_M), Rn m_L_law 1370 [l0, l1, l2, l3] (vI b :: vI a :: st) E u = Rn m_L_law 1371 [l0, l1, l2, l3] (vI (w32 (a + b)) :: st) E u) ∧
  (∀ (l0 l1 l2 l3 : am_V) (i : Int) (st : List am_V) (E : am_E) (u : am_M) (h0 : 0 ≤ i) (h1 : i < (E.2.2.1 : Int)), Rn m_L_law 1371 [l0, l1, l2, l3] (vI i :: vB true :: st) E u = Rn m_L_law 1372 [l0, l1, l2, l3] (vI (E.2.2.2 i.toNat) :: st) E u) ∧
  (∀ (l0 l1 l2 l3 : am_V) (a : Int) (st : List am_V) (E : am_E) (u : am_M), Rn m_L_law 1372 [l0, l1, l2, l3] (vI a :: st) E u = Rn m_L_law 1373 [l0, l1, l2, l3] (vL (a) :: st) E u) ∧
  (∀ (l0 l1 l2 l3 : am_V) (st : List am_V) (E : am_E) (u : am_M), Rn m_L_law 1373 [l0, l1, l2, l3] st E u = Rn m_L_law 1376 [l0, l1, l2, l3] (vL 4294967295 :: st) E u) ∧
  (∀ (l0 l1 l2 l3 : am_V) (a b : Int) (st : List am_V) (E : am_E) (u : am_M), Rn m_L_law 1376 [l0, l1, l2, l3] (vL b :: vL a :: st) E u = Rn m_L_law 1377 [l0, l1, l2, l3] (vL (l_and a b) :: st) E u) ∧
  (∀ (l0 l1 l2 l3 : am_V) (a b : Int) (st : List am_V) (E : am_E) (u : am_M), Rn m_L_law 1377 [l0, l1, l2, l3] (vL b :: vL a :: st) E u = Rn m_L_law 1378 [l0, l1, l2, l3] (vL (l_or a b) :: st) E u) ∧
  (∀ (l0 l1 l2 l3 : am_V) (a0 : Int) (a1 : Int) (a2 : Int) (a3 : Int) (r0 : am_V) (E : am_E) (u : am_M) (hE : SE E), Rn m_L_law 1378 [l0, l1, l2, l3] [vL a3, vI a2, vI a1, vI a0, vR (some 149), r0] E u = bdI (Rn m_M_item 0 [vR (some 149), vI a0, vI a1, vI a2, vL a3, vB false, vB false] [] E u) (KI m_L_law 1381 [l0, l1, l2, l3] [r0])) ∧
  (∀ (l0 l1 l2 l3 : am_V) (a b : Int) (st : List am_V) (E : am_E) (u : am_M), Rn m_L_law 1381 [l0, l1, l2, l3] (vI b :: vI a :: st) E u = if a = b then Rn m_L_law 1449 [l0, l1, l2, l3] st E u else Rn m_L_law 1384 [l0, l1, l2, l3] st E u) ∧
  (∀ (l0 l1 l2 l3 : am_V) (st : List am_V) (E : am_E) (u : am_M), Rn m_L_law 1384 [l0, l1, l2, l3] st E u = Rn m_L_law 1385 [l0, l1, l2, l3] (vI 0 :: st) E u) ∧
  (∀ (l0 l1 l2 l3 : am_V) (b : Bool) (E : am_E) (u : am_M), Rn m_L_law 1385 [l0, l1, l2, l3] [vI (bI b)] E u = some (some (vI (bI b)), E, u)) ∧
  (∀ (l0 l1 l2 l3 : am_V) (E : am_E) (u : am_M), Rn m_L_law 1385 [l0, l1, l2, l3] [vI 1] E u = some (some (vI 1), E, u)) ∧
  (∀ (l0 l1 l2 l3 : am_V) (E : am_E) (u : am_M), Rn m_L_law 1385 [l0, l1, l2, l3] [vI 0] E u = some (some (vI 0), E, u)) :=
  ⟨fun l0 l2 l3 a st E u => q_go (by decide +kernel : am_Pg 208 1303 = some (.aload_n 1, 1, [], 0)) rfl,
  fun l1 l2 l3 st E u => q_go (by decide +kernel : am_Pg 208 1304 = some (.aload_n 0, 1, [], 0)) rfl,
  fun l0 l1 l2 a st E u => q_go (by decide +kernel : am_Pg 208 1305 = some (.iload_n 3, 1, [], 0)) rfl,
  fun l0 l1 l2 l3 st E u => q_go (by decide +kernel : am_Pg 208 1306 = some (.iconst 1, 1, [], 0)) rfl,
  fun l0 l1 l2 l3 a b st E u => q_go (by decide +kernel : am_Pg 208 1307 = some (.iadd, 1, [], 0)) rfl,
  fun l0 l1 l2 l3 i st E u h0 h1 => q_isc (by decide +kernel : am_Pg 208 1308 = some (.iaload, 1, [], 0)) h0 h1,
  fun l1 l2 l3 st E u => q_go (by decide +kernel : am_Pg 208 1309 = some (.aload_n 0, 1, [], 0)) rfl,
  fun l0 l1 l2 a st E u => q_go (by decide +kernel : am_Pg 208 1310 = some (.iload_n 3, 1, [], 0)) rfl,
  fun l0 l1 l2 l3 st E u => q_go (by decide +kernel : am_Pg 208 1311 = some (.iconst 2, 1, [], 0)) rfl,
  fun l0 l1 l2 l3 a b st E u => q_go (by decide +kernel : am_Pg 208 1312 = some (.iadd, 1, [], 0)) rfl,
  fun l0 l1 l2 l3 i st E u h0 h1 => q_isc (by decide +kernel : am_Pg 208 1313 = some (.iaload, 1, [], 0)) h0 h1,
  fun l1 l2 l3 st E u => q_go (by decide +kernel : am_Pg 208 1314 = some (.aload_n 0, 1, [], 0)) rfl,
  fun l0 l1 l2 a st E u => q_go (by decide +kernel : am_Pg 208 1315 = some (.iload_n 3, 1, [], 0)) rfl,
  fun l0 l1 l2 l3 st E u => q_go (by decide +kernel : am_Pg 208 1316 = some (.iconst 3, 1, [], 0)) rfl,
  fun l0 l1 l2 l3 a b st E u => q_go (by decide +kernel : am_Pg 208 1317 = some (.iadd, 1, [], 0)) rfl,
  fun l0 l1 l2 l3 i st E u h0 h1 => q_isc (by decide +kernel : am_Pg 208 1318 = some (.iaload, 1, [], 0)) h0 h1,
  fun l1 l2 l3 st E u => q_go (by decide +kernel : am_Pg 208 1319 = some (.aload_n 0, 1, [], 0)) rfl,
  fun l0 l1 l2 a st E u => q_go (by decide +kernel : am_Pg 208 1320 = some (.iload_n 3, 1, [], 0)) rfl,
  fun l0 l1 l2 l3 st E u => q_go (by decide +kernel : am_Pg 208 1321 = some (.iconst 4, 1, [], 0)) rfl,
  fun l0 l1 l2 l3 a b st E u => q_go (by decide +kernel : am_Pg 208 1322 = some (.iadd, 1, [], 0)) rfl,
  fun l0 l1 l2 l3 i st E u h0 h1 => q_isc (by decide +kernel : am_Pg 208 1323 = some (.iaload, 1, [], 0)) h0 h1,
  fun l0 l1 l2 l3 a st E u => q_go (by decide +kernel : am_Pg 208 1324 = some (.i2l, 1, [], 0)) rfl,
  fun l0 l1 l2 l3 st E u => q_go (by decide +kernel : am_Pg 208 1325 = some (.bipush 32, 2, [], 0)) rfl,
  fun l0 l1 l2 l3 a b st E u => q_go (by decide +kernel : am_Pg 208 1327 = some (.lshl, 1, [], 0)) rfl,
  fun l1 l2 l3 st E u => q_go (by decide +kernel : am_Pg 208 1328 = some (.aload_n 0, 1, [], 0)) rfl,
  fun l0 l1 l2 a st E u => q_go (by decide +kernel : am_Pg 208 1329 = some (.iload_n 3, 1, [], 0)) rfl,
  fun l0 l1 l2 l3 st E u => q_go (by decide +kernel : am_Pg 208 1330 = some (.iconst 5, 1, [], 0)) rfl,
  fun l0 l1 l2 l3 a b st E u => q_go (by decide +kernel : am_Pg 208 1331 = some (.iadd, 1, [], 0)) rfl,
  fun l0 l1 l2 l3 i st E u h0 h1 => q_isc (by decide +kernel : am_Pg 208 1332 = some (.iaload, 1, [], 0)) h0 h1,
  fun l0 l1 l2 l3 a st E u => q_go (by decide +kernel : am_Pg 208 1333 = some (.i2l, 1, [], 0)) rfl,
  fun l0 l1 l2 l3 st E u => q_go (by decide +kernel : am_Pg 208 1334 = some (.ldc2_w 159, 3, [], 4294967295)) rfl,
  fun l0 l1 l2 l3 a b st E u => q_go (by decide +kernel : am_Pg 208 1337 = some (.land, 1, [], 0)) rfl,
  fun l0 l1 l2 l3 a b st E u => q_go (by decide +kernel : am_Pg 208 1338 = some (.lor, 1, [], 0)) rfl,
  fun l0 l1 l2 l3 a0 a1 a2 a3  E u hE => q_cI (by decide +kernel : am_Pg 208 1339 = some (.invokevirtual 161, 3, [3, 203, 5, 4, 8, 0], 0)) (am_call_V (a := [vI a0, vI a1, vI a2, vL a3]) (st' := []) (Nat.le_of_ble_eq_true rfl) rfl (SE_k4 hE)) (by decide +kernel : am_Lm m_A_item = 8) (Nat.le_of_ble_eq_true rfl) rfl (by decide +kernel),
  fun l0 l1 l3 a st E u => q_go (by decide +kernel : am_Pg 208 1342 = some (.aload_n 2, 1, [], 0)) rfl,
  fun l1 l2 l3 st E u => q_go (by decide +kernel : am_Pg 208 1343 = some (.aload_n 0, 1, [], 0)) rfl,
  fun l0 l1 l2 a st E u => q_go (by decide +kernel : am_Pg 208 1344 = some (.iload_n 3, 1, [], 0)) rfl,
  fun l0 l1 l2 l3 st E u => q_go (by decide +kernel : am_Pg 208 1345 = some (.iconst 1, 1, [], 0)) rfl,
  fun l0 l1 l2 l3 a b st E u => q_go (by decide +kernel : am_Pg 208 1346 = some (.iadd, 1, [], 0)) rfl,
  fun l0 l1 l2 l3 i st E u h0 h1 => q_isc (by decide +kernel : am_Pg 208 1347 = some (.iaload, 1, [], 0)) h0 h1,
  fun l1 l2 l3 st E u => q_go (by decide +kernel : am_Pg 208 1348 = some (.aload_n 0, 1, [], 0)) rfl,
  fun l0 l1 l2 a st E u => q_go (by decide +kernel : am_Pg 208 1349 = some (.iload_n 3, 1, [], 0)) rfl,
  fun l0 l1 l2 l3 st E u => q_go (by decide +kernel : am_Pg 208 1350 = some (.iconst 2, 1, [], 0)) rfl,
  fun l0 l1 l2 l3 a b st E u => q_go (by decide +kernel : am_Pg 208 1351 = some (.iadd, 1, [], 0)) rfl,
  fun l0 l1 l2 l3 i st E u h0 h1 => q_isc (by decide +kernel : am_Pg 208 1352 = some (.iaload, 1, [], 0)) h0 h1,
  fun l1 l2 l3 st E u => q_go (by decide +kernel : am_Pg 208 1353 = some (.aload_n 0, 1, [], 0)) rfl,
  fun l0 l1 l2 a st E u => q_go (by decide +kernel : am_Pg 208 1354 = some (.iload_n 3, 1, [], 0)) rfl,
  fun l0 l1 l2 l3 st E u => q_go (by decide +kernel : am_Pg 208 1355 = some (.iconst 3, 1, [], 0)) rfl,
  fun l0 l1 l2 l3 a b st E u => q_go (by decide +kernel : am_Pg 208 1356 = some (.iadd, 1, [], 0)) rfl,
  fun l0 l1 l2 l3 i st E u h0 h1 => q_isc (by decide +kernel : am_Pg 208 1357 = some (.iaload, 1, [], 0)) h0 h1,
  fun l1 l2 l3 st E u => q_go (by decide +kernel : am_Pg 208 1358 = some (.aload_n 0, 1, [], 0)) rfl,
  fun l0 l1 l2 a st E u => q_go (by decide +kernel : am_Pg 208 1359 = some (.iload_n 3, 1, [], 0)) rfl,
  fun l0 l1 l2 l3 st E u => q_go (by decide +kernel : am_Pg 208 1360 = some (.iconst 4, 1, [], 0)) rfl,
  fun l0 l1 l2 l3 a b st E u => q_go (by decide +kernel : am_Pg 208 1361 = some (.iadd, 1, [], 0)) rfl,
  fun l0 l1 l2 l3 i st E u h0 h1 => q_isc (by decide +kernel : am_Pg 208 1362 = some (.iaload, 1, [], 0)) h0 h1,
  fun l0 l1 l2 l3 a st E u => q_go (by decide +kernel : am_Pg 208 1363 = some (.i2l, 1, [], 0)) rfl,
  fun l0 l1 l2 l3 st E u => q_go (by decide +kernel : am_Pg 208 1364 = some (.bipush 32, 2, [], 0)) rfl,
  fun l0 l1 l2 l3 a b st E u => q_go (by decide +kernel : am_Pg 208 1366 = some (.lshl, 1, [], 0)) rfl,
  fun l1 l2 l3 st E u => q_go (by decide +kernel : am_Pg 208 1367 = some (.aload_n 0, 1, [], 0)) rfl,
  fun l0 l1 l2 a st E u => q_go (by decide +kernel : am_Pg 208 1368 = some (.iload_n 3, 1, [], 0)) rfl,
  fun l0 l1 l2 l3 st E u => q_go (by decide +kernel : am_Pg 208 1369 = some (.iconst 5, 1, [], 0)) rfl,
  fun l0 l1 l2 l3 a b st E u => q_go (by decide +kernel : am_Pg 208 1370 = some (.iadd, 1, [], 0)) rfl,
  fun l0 l1 l2 l3 i st E u h0 h1 => q_isc (by decide +kernel : am_Pg 208 1371 = some (.iaload, 1, [], 0)) h0 h1,
  fun l0 l1 l2 l3 a st E u => q_go (by decide +kernel : am_Pg 208 1372 = some (.i2l, 1, [], 0)) rfl,
  fun l0 l1 l2 l3 st E u => q_go (by decide +kernel : am_Pg 208 1373 = some (.ldc2_w 159, 3, [], 4294967295)) rfl,
  fun l0 l1 l2 l3 a b st E u => q_go (by decide +kernel : am_Pg 208 1376 = some (.land, 1, [], 0)) rfl,
  fun l0 l1 l2 l3 a b st E u => q_go (by decide +kernel : am_Pg 208 1377 = some (.lor, 1, [], 0)) rfl,
  fun l0 l1 l2 l3 a0 a1 a2 a3 r0 E u hE => q_cI (by decide +kernel : am_Pg 208 1378 = some (.invokevirtual 165, 3, [3, 204, 5, 5, 17, 0], 0)) (am_call_V (a := [vI a0, vI a1, vI a2, vL a3]) (st' := [r0]) (Nat.le_of_ble_eq_true rfl) rfl (SE_k5 hE)) (by decide +kernel : am_Lm m_M_item = 7) (Nat.le_of_ble_eq_true rfl) rfl (by decide +kernel),
  fun l0 l1 l2 l3 a b st E u => q_icmp_eq (tgt := 1449) (by decide +kernel : am_Pg 208 1381 = some (.if_icmp .eq 68, 3, [], 0)) (by decide),
  fun l0 l1 l2 l3 st E u => q_go (by decide +kernel : am_Pg 208 1384 = some (.iconst 0, 1, [], 0)) rfl,
  fun l0 l1 l2 l3 b E u => by cases b <;> exact q_ret (by decide +kernel : am_Pg 208 1385 = some (.ireturn, 1, [1], 0)) rfl,
  fun l0 l1 l2 l3 E u => q_ret (by decide +kernel : am_Pg 208 1385 = some (.ireturn, 1, [1], 0)) rfl,
  fun l0 l1 l2 l3 E u => q_ret (by decide +kernel : am_Pg 208 1385 = some (.ireturn, 1, [1], 0)) rfl⟩
theorem x_L_law_1386 :
  (∀ (l0 l2 l3 : am_V) (a : Option Nat) (st : List am_V) (E : am_E) (u : am_M), Rn m_L_law 1386 [l0, vR a, l2, l3] st E u = Rn m_L_law 1387 [l0, vR a, l2, l3] (vR a :: st) E u) ∧
  (∀ (l1 l2 l3 : am_V) (st : List am_V) (E : am_E) (u : am_M), Rn m_L_law 1387 [vB true, l1, l2, l3] st E u = Rn m_L_law 1388 [vB true, l1, l2, l3] (vB true :: st) E u) ∧
  (∀ (l0 l1 l2 : am_V) (a : Int) (st : List am_V) (E : am_E) (u : am_M), Rn m_L_law 1388 [l0, l1, l2, vI a] st E u = Rn m_L_law 1389 [l0, l1, l2, vI a] (vI a :: st) E u) ∧
  (∀ (l0 l1 l2 l3 : am_V) (st : List am_V) (E : am_E) (u : am_M), Rn m_L_law 1389 [l0, l1, l2, l3] st E u = Rn m_L_law 1390 [l0, l1, l2, l3] (vI 1 :: st) E u) ∧
  (∀ (l0 l1 l2 l3 : am_V) (a b : Int) (st : List am_V) (E : am_E) (u : am_M), Rn m_L_law 1390 [l0, l1, l2, l3] (vI b :: vI a :: st) E u = Rn m_L_law 1391 [l0, l1, l2, l3] (vI (w32 (a + b)) :: st) E u) ∧
  (∀ (l0 l1 l2 l3 : am_V) (i : Int) (st : List am_V) (E : am_E) (u : am_M) (h0 : 0 ≤ i) (h1 : i < (E.2.2.1 : Int)), Rn m_L_law 1391 [l0, l1, l2, l3] (vI i :: vB true :: st) E u = Rn m_L_law 1392 [l0, l1, l2, l3] (vI (E.2.2.2 i.toNat) :: st) E u) ∧
  (∀ (l1 l2 l3 : am_V) (st : List am_V) (E : am_E) (u : am_M), Rn m_L_law 1392 [vB true, l1, l2, l3] st E u = Rn m_L_law 1393 [vB true, l1, l2, l3] (vB true :: st) E u) ∧
  (∀ (l0 l1 l2 : am_V) (a : Int) (st : List am_V) (E : am_E) (u : am_M), Rn m_L_law 1393 [l0, l1, l2, vI a] st E u = Rn m_L_law 1394 [l0, l1, l2, vI a] (vI a :: st) E u) ∧
  (∀ (l0 l1 l2 l3 : am_V) (st : List am_V) (E : am_E) (u : am_M), Rn m_L_law 1394 [l0, l1, l2, l3] st E u = Rn m_L_law 1395 [l0, l1, l2, l3] (vI 2 :: st) E u) ∧
  (∀ (l0 l1 l2 l3 : am_V) (a b : Int) (st : List am_V) (E : am_E) (u : am_M), Rn m_L_law 1395 [l0, l1, l2, l3] (vI b :: vI a :: st) E u = Rn m_L_law 1396 [l0, l1, l2, l3] (vI (w32 (a + b)) :: st) E u) ∧
  (∀ (l0 l1 l2 l3 : am_V) (i : Int) (st : List am_V) (E : am_E) (u : am_M) (h0 : 0 ≤ i) (h1 : i < (E.2.2.1 : Int)), Rn m_L_law 1396 [l0, l1, l2, l3] (vI i :: vB true :: st) E u = Rn m_L_law 1397 [l0, l1, l2, l3] (vI (E.2.2.2 i.toNat) :: st) E u) ∧
  (∀ (l1 l2 l3 : am_V) (st : List am_V) (E : am_E) (u : am_M), Rn m_L_law 1397 [vB true, l1, l2, l3] st E u = Rn m_L_law 1398 [vB true, l1, l2, l3] (vB true :: st) E u) ∧
  (∀ (l0 l1 l2 : am_V) (a : Int) (st : List am_V) (E : am_E) (u : am_M), Rn m_L_law 1398 [l0, l1, l2, vI a] st E u = Rn m_L_law 1399 [l0, l1, l2, vI a] (vI a :: st) E u) ∧
  (∀ (l0 l1 l2 l3 : am_V) (st : List am_V) (E : am_E) (u : am_M), Rn m_L_law 1399 [l0, l1, l2, l3] st E u = Rn m_L_law 1400 [l0, l1, l2, l3] (vI 3 :: st) E u) ∧
  (∀ (l0 l1 l2 l3 : am_V) (a b : Int) (st : List am_V) (E : am_E) (u : am_M), Rn m_L_law 1400 [l0, l1, l2, l3] (vI b :: vI a :: st) E u = Rn m_L_law 1401 [l0, l1, l2, l3] (vI (w32 (a + b)) :: st) E u) ∧
  (∀ (l0 l1 l2 l3 : am_V) (i : Int) (st : List am_V) (E : am_E) (u : am_M) (h0 : 0 ≤ i) (h1 : i < (E.2.2.1 : Int)), Rn m_L_law 1401 [l0, l1, l2, l3] (vI i :: vB true :: st) E u = Rn m_L_law 1402 [l0, l1, l2, l3] (vI (E.2.2.2 i.toNat) :: st) E u) ∧
  (∀ (l1 l2 l3 : am_V) (st : List am_V) (E : am_E) (u : am_M), Rn m_L_law 1402 [vB true, l1, l2, l3] st E u = Rn m_L_law 1403 [vB true, l1, l2, l3] (vB true :: st) E u) ∧
  (∀ (l0 l1 l2 : am_V) (a : Int) (st : List am_V) (E : am_E) (u : am_M), Rn m_L_law 1403 [l0, l1, l2, vI a] st E u = Rn m_L_law 1404 [l0, l1, l2, vI a] (vI a :: st) E u) ∧
  (∀ (l0 l1 l2 l3 : am_V) (st : List am_V) (E : am_E) (u : am_M), Rn m_L_law 1404 [l0, l1, l2, l3] st E u = Rn m_L_law 1405 [l0, l1, l2, l3] (vI 4 :: st) E u) ∧
  (∀ (l0 l1 l2 l3 : am_V) (a b : Int) (st : List am_V) (E : am_E) (u : am_M), Rn m_L_law 1405 [l0, l1, l2, l3] (vI b :: vI a :: st) E u = Rn m_L_law 1406 [l0, l1, l2, l3] (vI (w32 (a + b)) :: st) E u) ∧
  (∀ (l0 l1 l2 l3 : am_V) (i : Int) (st : List am_V) (E : am_E) (u : am_M) (h0 : 0 ≤ i) (h1 : i < (E.2.2.1 : Int)), Rn m_L_law 1406 [l0, l1, l2, l3] (vI i :: vB true :: st) E u = Rn m_L_law 1407 [l0, l1, l2, l3] (vI (E.2.2.2 i.toNat) :: st) E u) ∧
  (∀ (l1 l2 l3 : am_V) (st : List am_V) (E : am_E) (u : am_M), Rn m_L_law 1407 [vB true, l1, l2, l3] st E u = Rn m_L_law 1408 [vB true, l1, l2, l3] (vB true :: st) E u) ∧
  (∀ (l0 l1 l2 : am_V) (a : Int) (st : List am_V) (E : am_E) (u : am_M), Rn m_L_law 1408 [l0, l1, l2, vI a] st E u = Rn m_L_law 1409 [l0, l1, l2, vI a] (vI a :: st) E u) ∧
  (∀ (l0 l1 l2 l3 : am_V) (st : List am_V) (E : am_E) (u : am_M), Rn m_L_law 1409 [l0, l1, l2, l3] st E u = Rn m_L_law 1410 [l0, l1, l2, l3] (vI 5 :: st) E u) ∧
  (∀ (l0 l1 l2 l3 : am_V) (a b : Int) (st : List am_V) (E : am_E) (u : am_M), Rn m_L_law 1410 [l0, l1, l2, l3] (vI b :: vI a :: st) E u = Rn m_L_law 1411 [l0, l1, l2, l3] (vI (w32 (a + b)) :: st) E u) ∧
  (∀ (l0 l1 l2 l3 : am_V) (i : Int) (st : List am_V) (E : am_E) (u : am_M) (h0 : 0 ≤ i) (h1 : i < (E.2.2.1 : Int)), Rn m_L_law 1411 [l0, l1, l2, l3] (vI i :: vB true :: st) E u = Rn m_L_law 1412 [l0, l1, l2, l3] (vI (E.2.2.2 i.toNat) :: st) E u) ∧
  (∀ (l0 l1 l2 l3 : am_V) (a0 : Int) (a1 : Int) (a2 : Int) (a3 : Int) (a4 : Int) (E : am_E) (u : am_M) (hE : SE E), Rn m_L_law 1412 [l0, l1, l2, l3] [vI a4, vI a3, vI a2, vI a1, vI a0, vR (some 0)] E u = bdI (Rn m_A_copy 0 [vR (some 0), vI a0, vI a1, vI a2, vI a3, vI a4, vB false, vB false] [] E u) (KI m_L_law 1415 [l0, l1, l2, l3] [])) ∧
  (∀ (l0 l1 l3 : am_V) (a : Option Nat) (st : List am_V) (E : am_E) (u : am_M), Rn m_L_law 1415 [l0, l1, vR a, l3] st E u = Rn m_L_law 1416 [l0, l1, vR a, l3] (vR a :: st) E u) ∧
  (∀ (l1 l2 l3 : am_V) (st : List am_V) (E : am_E) (u : am_M), Rn m_L_law 1416 [vB true, l1, l2, l3] st E u = Rn m_L_law 1417 [vB true, l1, l2, l3] (vB true :: st) E u) ∧
  (∀ (l0 l1 l2 : am_V) (a : Int) (st : List am_V) (E : am_E) (u : am_M), Rn m_L_law 1417 [l0, l1, l2, vI a] st E u = Rn m_L_law 1418 [l0, l1, l2, vI a] (vI a :: st) E u) ∧
  (∀ (l0 l1 l2 l3 : am_V) (st : List am_V) (E : am_E) (u : am_M), Rn m_L_law 1418 [l0, l1, l2, l3] st E u = Rn m_L_law 1419 [l0, l1, l2, l3] (vI 1 :: st) E u) ∧
  (∀ (l0 l1 l2 l3 : am_V) (a b : Int) (st : List am_V) (E : am_E) (u : am_M), Rn m_L_law 1419 [l0, l1, l2, l3] (vI b :: vI a :: st) E u = Rn m_L_law 1420 [l0, l1, l2, l3] (vI (w32 (a + b)) :: st) E u) ∧
  (∀ (l0 l1 l2 l3 : am_V) (i : Int) (st : List am_V) (E : am_E) (u : am_M) (h0 : 0 ≤ i) (h1 : i < (E.2.2.1 : Int)), Rn m_L_law 1420 [l0, l1, l2, l3] (vI i :: vB true :: st) E u = Rn m_L_law 1421 [l0, l1, l2, l3] (vI (E.2.2.2 i.toNat) :: st) E u) ∧
  (∀ (l1 l2 l3 : am_V) (st : List am_V) (E : am_E) (u : am_M), Rn m_L_law 1421 [vB true, l1, l2, l3] st E u = Rn m_L_law 1422 [vB true, l1, l2, l3] (vB true :: st) E u) ∧
  (∀ (l0 l1 l2 : am_V) (a : Int) (st : List am_V) (E : am_E) (u : am_M), Rn m_L_law 1422 [l0, l1, l2, vI a] st E u = Rn m_L_law 1423 [l0, l1, l2, vI a] (vI a :: st) E u) ∧
  (∀ (l0 l1 l2 l3 : am_V) (st : List am_V) (E : am_E) (u : am_M), Rn m_L_law 1423 [l0, l1, l2, l3] st E u = Rn m_L_law 1424 [l0, l1, l2, l3] (vI 2 :: st) E u) ∧
  (∀ (l0 l1 l2 l3 : am_V) (a b : Int) (st : List am_V) (E : am_E) (u : am_M), Rn m_L_law 1424 [l0, l1, l2, l3] (vI b :: vI a :: st) E u = Rn m_L_law 1425 [l0, l1, l2, l3] (vI (w32 (a + b)) :: st) E u) ∧
  (∀ (l0 l1 l2 l3 : am_V) (i : Int) (st : List am_V) (E : am_E) (u : am_M) (h0 : 0 ≤ i) (h1 : i < (E.2.2.1 : Int)), Rn m_L_law 1425 [l0, l1, l2, l3] (vI i :: vB true :: st) E u = Rn m_L_law 1426 [l0, l1, l2, l3] (vI (E.2.2.2 i.toNat) :: st) E u) ∧
  (∀ (l1 l2 l3 : am_V) (st : List am_V) (E : am_E) (u : am_M), Rn m_L_law 1426 [vB true, l1, l2, l3] st E u = Rn m_L_law 1427 [vB true, l1, l2, l3] (vB true :: st) E u) ∧
  (∀ (l0 l1 l2 : am_V) (a : Int) (st : List am_V) (E : am_E) (u : am_M), Rn m_L_law 1427 [l0, l1, l2, vI a] st E u = Rn m_L_law 1428 [l0, l1, l2, vI a] (vI a :: st) E u) ∧
  (∀ (l0 l1 l2 l3 : am_V) (st : List am_V) (E : am_E) (u : am_M), Rn m_L_law 1428 [l0, l1, l2, l3] st E u = Rn m_L_law 1429 [l0, l1, l2, l3] (vI 3 :: st) E u) ∧
  (∀ (l0 l1 l2 l3 : am_V) (a b : Int) (st : List am_V) (E : am_E) (u : am_M), Rn m_L_law 1429 [l0, l1, l2, l3] (vI b :: vI a :: st) E u = Rn m_L_law 1430 [l0, l1, l2, l3] (vI (w32 (a + b)) :: st) E u) ∧
  (∀ (l0 l1 l2 l3 : am_V) (i : Int) (st : List am_V) (E : am_E) (u : am_M) (h0 : 0 ≤ i) (h1 : i < (E.2.2.1 : Int)), Rn m_L_law 1430 [l0, l1, l2, l3] (vI i :: vB true :: st) E u = Rn m_L_law 1431 [l0, l1, l2, l3] (vI (E.2.2.2 i.toNat) :: st) E u) ∧
  (∀ (l1 l2 l3 : am_V) (st : List am_V) (E : am_E) (u : am_M), Rn m_L_law 1431 [vB true, l1, l2, l3] st E u = Rn m_L_law 1432 [vB true, l1, l2, l3] (vB true :: st) E u) ∧
  (∀ (l0 l1 l2 : am_V) (a : Int) (st : List am_V) (E : am_E) (u : am_M), Rn m_L_law 1432 [l0, l1, l2, vI a] st E u = Rn m_L_law 1433 [l0, l1, l2, vI a] (vI a :: st) E u) ∧
  (∀ (l0 l1 l2 l3 : am_V) (st : List am_V) (E : am_E) (u : am_M), Rn m_L_law 1433 [l0, l1, l2, l3] st E u = Rn m_L_law 1434 [l0, l1, l2, l3] (vI 4 :: st) E u) ∧
  (∀ (l0 l1 l2 l3 : am_V) (a b : Int) (st : List am_V) (E : am_E) (u : am_M), Rn m_L_law 1434 [l0, l1, l2, l3] (vI b :: vI a :: st) E u = Rn m_L_law 1435 [l0, l1, l2, l3] (vI (w32 (a + b)) :: st) E u) ∧
  (∀ (l0 l1 l2 l3 : am_V) (i : Int) (st : List am_V) (E : am_E) (u : am_M) (h0 : 0 ≤ i) (h1 : i < (E.2.2.1 : Int)), Rn m_L_law 1435 [l0, l1, l2, l3] (vI i :: vB true :: st) E u = Rn m_L_law 1436 [l0, l1, l2, l3] (vI (E.2.2.2 i.toNat) :: st) E u) ∧
  (∀ (l1 l2 l3 : am_V) (st : List am_V) (E : am_E) (u : am_M), Rn m_L_law 1436 [vB true, l1, l2, l3] st E u = Rn m_L_law 1437 [vB true, l1, l2, l3] (vB true :: st) E u) ∧
  (∀ (l0 l1 l2 : am_V) (a : Int) (st : List am_V) (E : am_E) (u : am_M), Rn m_L_law 1437 [l0, l1, l2, vI a] st E u = Rn m_L_law 1438 [l0, l1, l2, vI a] (vI a :: st) E u) ∧
  (∀ (l0 l1 l2 l3 : am_V) (st : List am_V) (E : am_E) (u : am_M), Rn m_L_law 1438 [l0, l1, l2, l3] st E u = Rn m_L_law 1439 [l0, l1, l2, l3] (vI 5 :: st) E u) ∧
  (∀ (l0 l1 l2 l3 : am_V) (a b : Int) (st : List am_V) (E : am_E) (u : am_M), Rn m_L_law 1439 [l0, l1, l2, l3] (vI b :: vI a :: st) E u = Rn m_L_law 1440 [l0, l1, l2, l3] (vI (w32 (a + b)) :: st) E u) ∧
  (∀ (l0 l1 l2 l3 : am_V) (i : Int) (st : List am_V) (E : am_E) (u : am_M) (h0 : 0 ≤ i) (h1 : i < (E.2.2.1 : Int)), Rn m_L_law 1440 [l0, l1, l2, l3] (vI i :: vB true :: st) E u = Rn m_L_law 1441 [l0, l1, l2, l3] (vI (E.2.2.2 i.toNat) :: st) E u) ∧
  (∀ (l0 l1 l2 l3 : am_V) (a0 : Int) (a1 : Int) (a2 : Int) (a3 : Int) (a4 : Int) (r0 : am_V) (E : am_E) (u : am_M) (hE : SE E), Rn m_L_law 1441 [l0, l1, l2, l3] [vI a4, vI a3, vI a2, vI a1, vI a0, vR (some 149), r0] E u = bdI (Rn m_M_copy 0 [vR (some 149), vI a0, vI a1, vI a2, vI a3, vI a4, vB false, vB false] [] E u) (KI m_L_law 1444 [l0, l1, l2, l3] [r0])) ∧
  (∀ (l0 l1 l2 l3 : am_V) (a b : Int) (st : List am_V) (E : am_E) (u : am_M), Rn m_L_law 1444 [l0, l1, l2, l3] (vI b :: vI a :: st) E u = if a = b then Rn m_L_law 1449 [l0, l1, l2, l3] st E u else Rn m_L_law 1447 [l0, l1, l2, l3] st E u) ∧
  (∀ (l0 l1 l2 l3 : am_V) (st : List am_V) (E : am_E) (u : am_M), Rn m_L_law 1447 [l0, l1, l2, l3] st E u = Rn m_L_law 1448 [l0, l1, l2, l3] (vI 0 :: st) E u) ∧
  (∀ (l0 l1 l2 l3 : am_V) (b : Bool) (E : am_E) (u : am_M), Rn m_L_law 1448 [l0, l1, l2, l3] [vI (bI b)] E u = some (some (vI (bI b)), E, u)) ∧
  (∀ (l0 l1 l2 l3 : am_V) (E : am_E) (u : am_M), Rn m_L_law 1448 [l0, l1, l2, l3] [vI 1] E u = some (some (vI 1), E, u)) ∧
  (∀ (l0 l1 l2 l3 : am_V) (E : am_E) (u : am_M), Rn m_L_law 1448 [l0, l1, l2, l3] [vI 0] E u = some (some (vI 0), E, u)) :=
  ⟨fun l0 l2 l3 a st E u => q_go (by decide +kernel : am_Pg 208 1386 = some (.aload_n 1, 1, [], 0)) rfl,
  fun l1 l2 l3 st E u => q_go (by decide +kernel : am_Pg 208 1387 = some (.aload_n 0, 1, [], 0)) rfl,
  fun l0 l1 l2 a st E u => q_go (by decide +kernel : am_Pg 208 1388 = some (.iload_n 3, 1, [], 0)) rfl,
  fun l0 l1 l2 l3 st E u => q_go (by decide +kernel : am_Pg 208 1389 = some (.iconst 1, 1, [], 0)) rfl,
  fun l0 l1 l2 l3 a b st E u => q_go (by decide +kernel : am_Pg 208 1390 = some (.iadd, 1, [], 0)) rfl,
  fun l0 l1 l2 l3 i st E u h0 h1 => q_isc (by decide +kernel : am_Pg 208 1391 = some (.iaload, 1, [], 0)) h0 h1,
  fun l1 l2 l3 st E u => q_go (by decide +kernel : am_Pg 208 1392 = some (.aload_n 0, 1, [], 0)) rfl,
  fun l0 l1 l2 a st E u => q_go (by decide +kernel : am_Pg 208 1393 = some (.iload_n 3, 1, [], 0)) rfl,
  fun l0 l1 l2 l3 st E u => q_go (by decide +kernel : am_Pg 208 1394 = some (.iconst 2, 1, [], 0)) rfl,
  fun l0 l1 l2 l3 a b st E u => q_go (by decide +kernel : am_Pg 208 1395 = some (.iadd, 1, [], 0)) rfl,
  fun l0 l1 l2 l3 i st E u h0 h1 => q_isc (by decide +kernel : am_Pg 208 1396 = some (.iaload, 1, [], 0)) h0 h1,
  fun l1 l2 l3 st E u => q_go (by decide +kernel : am_Pg 208 1397 = some (.aload_n 0, 1, [], 0)) rfl,
  fun l0 l1 l2 a st E u => q_go (by decide +kernel : am_Pg 208 1398 = some (.iload_n 3, 1, [], 0)) rfl,
  fun l0 l1 l2 l3 st E u => q_go (by decide +kernel : am_Pg 208 1399 = some (.iconst 3, 1, [], 0)) rfl,
  fun l0 l1 l2 l3 a b st E u => q_go (by decide +kernel : am_Pg 208 1400 = some (.iadd, 1, [], 0)) rfl,
  fun l0 l1 l2 l3 i st E u h0 h1 => q_isc (by decide +kernel : am_Pg 208 1401 = some (.iaload, 1, [], 0)) h0 h1,
  fun l1 l2 l3 st E u => q_go (by decide +kernel : am_Pg 208 1402 = some (.aload_n 0, 1, [], 0)) rfl,
  fun l0 l1 l2 a st E u => q_go (by decide +kernel : am_Pg 208 1403 = some (.iload_n 3, 1, [], 0)) rfl,
  fun l0 l1 l2 l3 st E u => q_go (by decide +kernel : am_Pg 208 1404 = some (.iconst 4, 1, [], 0)) rfl,
  fun l0 l1 l2 l3 a b st E u => q_go (by decide +kernel : am_Pg 208 1405 = some (.iadd, 1, [], 0)) rfl,
  fun l0 l1 l2 l3 i st E u h0 h1 => q_isc (by decide +kernel : am_Pg 208 1406 = some (.iaload, 1, [], 0)) h0 h1,
  fun l1 l2 l3 st E u => q_go (by decide +kernel : am_Pg 208 1407 = some (.aload_n 0, 1, [], 0)) rfl,
  fun l0 l1 l2 a st E u => q_go (by decide +kernel : am_Pg 208 1408 = some (.iload_n 3, 1, [], 0)) rfl,
  fun l0 l1 l2 l3 st E u => q_go (by decide +kernel : am_Pg 208 1409 = some (.iconst 5, 1, [], 0)) rfl,
  fun l0 l1 l2 l3 a b st E u => q_go (by decide +kernel : am_Pg 208 1410 = some (.iadd, 1, [], 0)) rfl,
  fun l0 l1 l2 l3 i st E u h0 h1 => q_isc (by decide +kernel : am_Pg 208 1411 = some (.iaload, 1, [], 0)) h0 h1,
  fun l0 l1 l2 l3 a0 a1 a2 a3 a4  E u hE => q_cI (by decide +kernel : am_Pg 208 1412 = some (.invokevirtual 166, 3, [3, 206, 6, 4, 8, 0], 0)) (am_call_V (a := [vI a0, vI a1, vI a2, vI a3, vI a4]) (st' := []) (Nat.le_of_ble_eq_true rfl) rfl (SE_k4 hE)) (by decide +kernel : am_Lm m_A_copy = 8) (Nat.le_of_ble_eq_true rfl) rfl (by decide +kernel),
  fun l0 l1 l3 a st E u => q_go (by decide +kernel : am_Pg 208 1415 = some (.aload_n 2, 1, [], 0)) rfl,
  fun l1 l2 l3 st E u => q_go (by decide +kernel : am_Pg 208 1416 = some (.aload_n 0, 1, [], 0)) rfl,
  fun l0 l1 l2 a st E u => q_go (by decide +kernel : am_Pg 208 1417 = some (.iload_n 3, 1, [], 0)) rfl,
  fun l0 l1 l2 l3 st E u => q_go (by decide +kernel : am_Pg 208 1418 = some (.iconst 1, 1, [], 0)) rfl,
  fun l0 l1 l2 l3 a b st E u => q_go (by decide +kernel : am_Pg 208 1419 = some (.iadd, 1, [], 0)) rfl,
  fun l0 l1 l2 l3 i st E u h0 h1 => q_isc (by decide +kernel : am_Pg 208 1420 = some (.iaload, 1, [], 0)) h0 h1,
  fun l1 l2 l3 st E u => q_go (by decide +kernel : am_Pg 208 1421 = some (.aload_n 0, 1, [], 0)) rfl,
  fun l0 l1 l2 a st E u => q_go (by decide +kernel : am_Pg 208 1422 = some (.iload_n 3, 1, [], 0)) rfl,
  fun l0 l1 l2 l3 st E u => q_go (by decide +kernel : am_Pg 208 1423 = some (.iconst 2, 1, [], 0)) rfl,
  fun l0 l1 l2 l3 a b st E u => q_go (by decide +kernel : am_Pg 208 1424 = some (.iadd, 1, [], 0)) rfl,
  fun l0 l1 l2 l3 i st E u h0 h1 => q_isc (by decide +kernel : am_Pg 208 1425 = some (.iaload, 1, [], 0)) h0 h1,
  fun l1 l2 l3 st E u => q_go (by decide +kernel : am_Pg 208 1426 = some (.aload_n 0, 1, [], 0)) rfl,
  fun l0 l1 l2 a st E u => q_go (by decide +kernel : am_Pg 208 1427 = some (.iload_n 3, 1, [], 0)) rfl,
  fun l0 l1 l2 l3 st E u => q_go (by decide +kernel : am_Pg 208 1428 = some (.iconst 3, 1, [], 0)) rfl,
  fun l0 l1 l2 l3 a b st E u => q_go (by decide +kernel : am_Pg 208 1429 = some (.iadd, 1, [], 0)) rfl,
  fun l0 l1 l2 l3 i st E u h0 h1 => q_isc (by decide +kernel : am_Pg 208 1430 = some (.iaload, 1, [], 0)) h0 h1,
  fun l1 l2 l3 st E u => q_go (by decide +kernel : am_Pg 208 1431 = some (.aload_n 0, 1, [], 0)) rfl,
  fun l0 l1 l2 a st E u => q_go (by decide +kernel : am_Pg 208 1432 = some (.iload_n 3, 1, [], 0)) rfl,
  fun l0 l1 l2 l3 st E u => q_go (by decide +kernel : am_Pg 208 1433 = some (.iconst 4, 1, [], 0)) rfl,
  fun l0 l1 l2 l3 a b st E u => q_go (by decide +kernel : am_Pg 208 1434 = some (.iadd, 1, [], 0)) rfl,
  fun l0 l1 l2 l3 i st E u h0 h1 => q_isc (by decide +kernel : am_Pg 208 1435 = some (.iaload, 1, [], 0)) h0 h1,
  fun l1 l2 l3 st E u => q_go (by decide +kernel : am_Pg 208 1436 = some (.aload_n 0, 1, [], 0)) rfl,
  fun l0 l1 l2 a st E u => q_go (by decide +kernel : am_Pg 208 1437 = some (.iload_n 3, 1, [], 0)) rfl,
  fun l0 l1 l2 l3 st E u => q_go (by decide +kernel : am_Pg 208 1438 = some (.iconst 5, 1, [], 0)) rfl,
  fun l0 l1 l2 l3 a b st E u => q_go (by decide +kernel : am_Pg 208 1439 = some (.iadd, 1, [], 0)) rfl,
  fun l0 l1 l2 l3 i st E u h0 h1 => q_isc (by decide +kernel : am_Pg 208 1440 = some (.iaload, 1, [], 0)) h0 h1,
  fun l0 l1 l2 l3 a0 a1 a2 a3 a4 r0 E u hE => q_cI (by decide +kernel : am_Pg 208 1441 = some (.invokevirtual 169, 3, [3, 207, 6, 5, 17, 0], 0)) (am_call_V (a := [vI a0, vI a1, vI a2, vI a3, vI a4]) (st' := [r0]) (Nat.le_of_ble_eq_true rfl) rfl (SE_k5 hE)) (by decide +kernel : am_Lm m_M_copy = 8) (Nat.le_of_ble_eq_true rfl) rfl (by decide +kernel),
  fun l0 l1 l2 l3 a b st E u => q_icmp_eq (tgt := 1449) (by decide +kernel : am_Pg 208 1444 = some (.if_icmp .eq 5, 3, [], 0)) (by decide),
  fun l0 l1 l2 l3 st E u => q_go (by decide +kernel : am_Pg 208 1447 = some (.iconst 0, 1, [], 0)) rfl,
  fun l0 l1 l2 l3 b E u => by cases b <;> exact q_ret (by decide +kernel : am_Pg 208 1448 = some (.ireturn, 1, [1], 0)) rfl,
  fun l0 l1 l2 l3 E u => q_ret (by decide +kernel : am_Pg 208 1448 = some (.ireturn, 1, [1], 0)) rfl,
  fun l0 l1 l2 l3 E u => q_ret (by decide +kernel : am_Pg 208 1448 = some (.ireturn, 1, [1], 0)) rfl⟩
theorem x_L_law_1449 :
  (∀ (l0 l1 l2 : am_V) (a : Int) (st : List am_V) (E : am_E) (u : am_M), Rn m_L_law 1449 [l0, l1, l2, vI a] st E u = Rn m_L_law 1452 [l0, l1, am_fx l2, vI (w32 (a + 7))] st E u) ∧
  (∀ (l0 l1 l2 l3 : am_V) (st : List am_V) (E : am_E) (u : am_M), Rn m_L_law 1452 [l0, l1, l2, l3] st E u = Rn m_L_law 18 [l0, l1, l2, l3] st E u) ∧
  (∀ (l0 l1 l2 l3 : am_V) (st : List am_V) (E : am_E) (u : am_M), Rn m_L_law 1455 [l0, l1, l2, l3] st E u = Rn m_L_law 1456 [l0, l1, l2, l3] (vI 1 :: st) E u) ∧
  (∀ (l0 l1 l2 l3 : am_V) (b : Bool) (E : am_E) (u : am_M), Rn m_L_law 1456 [l0, l1, l2, l3] [vI (bI b)] E u = some (some (vI (bI b)), E, u)) ∧
  (∀ (l0 l1 l2 l3 : am_V) (E : am_E) (u : am_M), Rn m_L_law 1456 [l0, l1, l2, l3] [vI 1] E u = some (some (vI 1), E, u)) ∧
  (∀ (l0 l1 l2 l3 : am_V) (E : am_E) (u : am_M), Rn m_L_law 1456 [l0, l1, l2, l3] [vI 0] E u = some (some (vI 0), E, u)) :=
  ⟨fun l0 l1 l2 a st E u => q_go (by decide +kernel : am_Pg 208 1449 = some (.iinc 3 7, 3, [], 0)) rfl,
  fun l0 l1 l2 l3 st E u => q_go (by decide +kernel : am_Pg 208 1452 = some (.goto (-1434), 3, [], 0)) rfl,
  fun l0 l1 l2 l3 st E u => q_go (by decide +kernel : am_Pg 208 1455 = some (.iconst 1, 1, [], 0)) rfl,
  fun l0 l1 l2 l3 b E u => by cases b <;> exact q_ret (by decide +kernel : am_Pg 208 1456 = some (.ireturn, 1, [1], 0)) rfl,
  fun l0 l1 l2 l3 E u => q_ret (by decide +kernel : am_Pg 208 1456 = some (.ireturn, 1, [1], 0)) rfl,
  fun l0 l1 l2 l3 E u => q_ret (by decide +kernel : am_Pg 208 1456 = some (.ireturn, 1, [1], 0)) rfl⟩
theorem g_C_init_68 : ∀ (l0 : am_V) (k : Nat) (st : List am_V) (E : am_E) (u : am_M) (hk : E.1[k]? = some (0, 14)), Rn m_C_init 68 [l0] (vR (some k) :: st) E u = Rn m_C_init 71 [l0] (vR (E.2.1 k 9) :: st) E u :=
  fun l0 k st E u hk => q_gfR (by decide +kernel : am_Pg 1 68 = some (.getfield 25, 3, [0, 14, 9, 0], 0)) hk rfl rfl
theorem g_P_init_17 : ∀ (l0 l1 : am_V) (k : Nat) (st : List am_V) (E : am_E) (u : am_M) (hk : E.1[k]? = some (1, 3)), Rn m_P_init 17 [l0, l1] (vR (some k) :: st) E u = Rn m_P_init 20 [l0, l1] (vR (E.2.1 k 0) :: st) E u :=
  fun l0 l1 k st E u hk => q_gfR (by decide +kernel : am_Pg 2 17 = some (.getfield 11, 3, [1, 3, 0, 0], 0)) hk rfl rfl
theorem g_P_init_25 : ∀ (l0 l1 : am_V) (k : Nat) (st : List am_V) (E : am_E) (u : am_M) (hk : E.1[k]? = some (1, 3)), Rn m_P_init 25 [l0, l1] (vR (some k) :: st) E u = Rn m_P_init 28 [l0, l1] (vR (E.2.1 k 0) :: st) E u :=
  fun l0 l1 k st E u hk => q_gfR (by decide +kernel : am_Pg 2 25 = some (.getfield 11, 3, [1, 3, 0, 0], 0)) hk rfl rfl
theorem g_A_init_82 : ∀ (l0 l1 : am_V) (k : Nat) (st : List am_V) (E : am_E) (u : am_M) (hk : E.1[k]? = some (4, 8)), Rn m_A_init 82 [l0, l1] (vR (some k) :: st) E u = Rn m_A_init 85 [l0, l1] (vR (E.2.1 k 6) :: st) E u :=
  fun l0 l1 k st E u hk => q_gfR (by decide +kernel : am_Pg 5 82 = some (.getfield 41, 3, [4, 8, 6, 0], 0)) hk rfl rfl
theorem g_A_init_90 : ∀ (l0 l1 : am_V) (k : Nat) (st : List am_V) (E : am_E) (u : am_M) (hk : E.1[k]? = some (4, 8)), Rn m_A_init 90 [l0, l1] (vR (some k) :: st) E u = Rn m_A_init 93 [l0, l1] (vR (E.2.1 k 6) :: st) E u :=
  fun l0 l1 k st E u hk => q_gfR (by decide +kernel : am_Pg 5 90 = some (.getfield 41, 3, [4, 8, 6, 0], 0)) hk rfl rfl
theorem g_M_init_99 : ∀ (l0 l1 : am_V) (k : Nat) (st : List am_V) (E : am_E) (u : am_M) (hk : E.1[k]? = some (5, 17)), Rn m_M_init 99 [l0, l1] (vR (some k) :: st) E u = Rn m_M_init 102 [l0, l1] (vR (E.2.1 k 0) :: st) E u :=
  fun l0 l1 k st E u hk => q_gfR (by decide +kernel : am_Pg 7 99 = some (.getfield 7, 3, [5, 17, 0, 0], 0)) hk rfl rfl
theorem g_M_init_113 : ∀ (l0 l1 : am_V) (k : Nat) (st : List am_V) (E : am_E) (u : am_M) (hk : E.1[k]? = some (5, 17)), Rn m_M_init 113 [l0, l1] (vR (some k) :: st) E u = Rn m_M_init 116 [l0, l1] (vR (E.2.1 k 13) :: st) E u :=
  fun l0 l1 k st E u hk => q_gfR (by decide +kernel : am_Pg 7 113 = some (.getfield 31, 3, [5, 17, 13, 0], 0)) hk rfl rfl

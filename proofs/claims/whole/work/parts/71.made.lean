/-! What the constructors leave. -/
variable {E : am_E} {u : am_M} {k : Nat} {n : am_Row} {T : List Int}
theorem gA {α : Type} {l m : List α} {i : Nat} {x : α} (h : l[i]? = some x) : (l ++ m)[i]? = some x := by rw [List.getElem?_append_left (List.getElem?_eq_some_iff.mp h).1]; exact h
theorem gN {α : Type} {l : List α} {i : Nat} {x : α} (h : l.length = i) : (l ++ [x])[i]? = some x := by subst h; simp
theorem gP {α : Type} {l m : List α} {i : Nat} (h : i < l.length) : (l ++ m)[i]? = l[i]? := List.getElem?_append_left h
theorem ln_1 {α : Type} {l : List α} {x : α} : (l ++ [x]).length = l.length + 1 := by simp
/-- all that was there is there -/
def GR (b : Nat) (E E' : am_E) (u u' : am_M) : Prop := E'.2.2 = E.2.2 ∧ ∀ i, i < b → E'.1[i]? = E.1[i]? ∧ E'.2.1 i = E.2.1 i ∧ u' i = u i
theorem GR.tr {b : Nat} {E1 E2 E3 : am_E} {u1 u2 u3 : am_M} (h : GR b E1 E2 u1 u2) (h' : GR b E2 E3 u2 u3) : GR b E1 E3 u1 u3 := ⟨h'.1.trans h.1, fun i hi => ⟨((h'.2 i hi).1).trans (h.2 i hi).1, ((h'.2 i hi).2.1).trans (h.2 i hi).2.1, ((h'.2 i hi).2.2).trans (h.2 i hi).2.2⟩⟩
theorem GR.le {b c : Nat} {E1 E2 : am_E} {u1 u2 : am_M} (h : GR b E1 E2 u1 u2) (hc : c ≤ b) : GR c E1 E2 u1 u2 := ⟨h.1, fun i hi => h.2 i (by omega)⟩
def n_1 : am_Row := s_up (s_fresh (fun _ => 0) 5 5) 5 1
def cuE (E : am_E) (k : Nat) : Prop := E.1[k]? = some (0, 14) ∧ E.1[k + 1]? = some (10, 7) ∧ E.1[k + 2]? = some (10, 7) ∧ E.1[k + 3]? = some (10, 7) ∧ E.1[k + 4]? = some (10, 6) ∧ E.1[k + 5]? = some (10, 6) ∧ E.1[k + 6]? = some (10, 6) ∧ E.2.1 k 8 = some (k + 1) ∧ E.2.1 k 9 = some (k + 2) ∧ E.2.1 k 10 = some (k + 3) ∧ E.2.1 k 11 = some (k + 4) ∧ E.2.1 k 12 = some (k + 5) ∧ E.2.1 k 13 = some (k + 6)
theorem cuE_up {E' : am_E} {u' : am_M} {b : Nat} (h : cuE E k) (hk : k + 7 ≤ b) (g : GR b E E' u u') : cuE E' k := by
  unfold cuE at h ⊢
  rw [(g.2 k (by omega)).1, (g.2 (k + 1) (by omega)).1, (g.2 (k + 2) (by omega)).1, (g.2 (k + 3) (by omega)).1, (g.2 (k + 4) (by omega)).1, (g.2 (k + 5) (by omega)).1, (g.2 (k + 6) (by omega)).1, (g.2 k (by omega)).2.1]
  exact h
/-- an array more, and a field that leads to it -/
def aA (E : am_E) (k j t m : Nat) : am_E := (E.1 ++ [(t, m)], am_rp (am_zq E.2.1 E.1.length) k j (some E.1.length), E.2.2)
theorem aA_len {j t m : Nat} : (aA E k j t m).1.length = E.1.length + 1 := by simp [aA]
theorem aA_g {j t m i : Nat} {x : Nat × Nat} (h : E.1[i]? = some x) : (aA E k j t m).1[i]? = some x := gA h
theorem aA_n {j t m : Nat} : (aA E k j t m).1[E.1.length]? = some (t, m) := by simp [aA]
theorem aA_p {j t m i : Nat} (h : i < E.1.length) : (aA E k j t m).1[i]? = E.1[i]? := gP h
theorem aA_r {j t m : Nat} : (aA E k j t m).2.1 k j = some E.1.length := by simp [aA, am_rp]
theorem aA_o {j j' t m : Nat} (h : j' ≠ j) (hk : k < E.1.length) : (aA E k j t m).2.1 k j' = E.2.1 k j' := by
  simp only [aA, am_rp, am_zq]
  rw [if_neg (by omega), if_neg (by omega)]
theorem aA_i {j t m i : Nat} (h : i ≠ k) (hi : i < E.1.length) : (aA E k j t m).2.1 i = E.2.1 i := by
  funext x
  simp only [aA, am_rp, am_zq]
  rw [if_neg (by omega), if_neg (by omega)]
theorem aA_s {j t m : Nat} : (aA E k j t m).2.2 = E.2.2 := rfl
theorem C_alloc (hk : E.1[k]? = some (0, 14)) : Rn m_C_init 19 [vR (some k)] [] E u = Rn m_C_init 27 [vR (some k)] [] (aA E k 8 10 7) (am_zr u E.1.length) := by
  have h7 : (0 : Int) ≤ 7 ∧ (7 : Int) ≤ 10000 := by omega
  have hk' : (E.1 ++ [(10, (7 : Int).toNat)])[k]? = some (0, 14) := gA hk
  simp (disch := assumption) only [x_C_init]
  rfl

/-! The tape: letters, blanks, digits, numbers; the class reads them. -/
variable {E : am_E} {u : am_M} {k : Nat} {n : am_Row} {T : List Int}
theorem up_up {u : am_M} {k j : Nat} {v w : Int} : am_up (am_up u k j v) k j w = am_up u k j w := by
  funext a b
  unfold am_up
  by_cases h : a = k ∧ b = j
  · rw [if_pos h, if_pos h]
  · rw [if_neg h, if_neg h, if_neg h]
theorem up_self {u : am_M} {k j : Nat} {v : Int} (h : u k j = v) : am_up u k j v = u := by
  funext a b
  unfold am_up
  by_cases e : a = k ∧ b = j
  · rw [if_pos e, e.1, e.2, h]
  · rw [if_neg e]
/-- a letter; -1 behind the last -/
def s_ch (T : List Int) (i : Nat) : Int := (T[i]?).getD (-1)
theorem s_ch_in (hT : OKt T) {i : Nat} (h : i < T.length) : T[i]? = some (s_ch T i) ∧ 32 ≤ s_ch T i ∧ s_ch T i ≤ 126 := by
  have e : T[i]? = some T[i] := List.getElem?_eq_getElem h
  have e2 : s_ch T i = T[i] := by unfold s_ch; rw [e]; rfl
  rw [e2]
  exact ⟨e, hT.2 i _ e⟩
theorem s_ch_end {i : Nat} (h : T.length ≤ i) : s_ch T i = -1 := by
  unfold s_ch
  rw [List.getElem?_eq_none h]
  rfl
theorem s_ch_r (hT : OKt T) (i : Nat) : s_ch T i = -1 ∨ (32 ≤ s_ch T i ∧ s_ch T i ≤ 126) := by
  by_cases h : i < T.length
  · exact Or.inr (s_ch_in hT h).2
  · exact Or.inl (s_ch_end (by omega))
theorem s_ch_lt (hT : OKt T) {i : Nat} (h : s_ch T i ≠ -1) : i < T.length := by
  by_cases e : i < T.length
  · exact e
  · exact absurd (s_ch_end (by omega)) h
/-- behind blanks -/
def s_skf (T : List Int) : Nat → Nat → Nat
  | 0, i => i
  | f + 1, i => if s_ch T i = 32 then s_skf T f (i + 1) else i
def s_sk (T : List Int) (i : Nat) : Nat := s_skf T (T.length - i) i
theorem s_sk_32 (hT : OKt T) {i : Nat} (h : s_ch T i = 32) : s_sk T i = s_sk T (i + 1) := by
  have hl := s_ch_lt hT (i := i) (by omega)
  unfold s_sk
  rw [show T.length - i = (T.length - (i + 1)) + 1 by omega]
  simp only [s_skf]
  rw [if_pos h]
theorem s_sk_no {i : Nat} (h : s_ch T i ≠ 32) : s_sk T i = i := by
  unfold s_sk
  cases T.length - i with
  | zero => rfl
  | succ f => simp only [s_skf]; rw [if_neg h]
theorem s_skf_le : ∀ f i : Nat, i ≤ s_skf T f i ∧ s_skf T f i ≤ i + f := by
  intro f
  induction f with
  | zero => intro i; exact ⟨Nat.le_refl _, Nat.le_refl _⟩
  | succ f ih =>
    intro i
    simp only [s_skf]
    have := ih (i + 1)
    split <;> omega
theorem s_sk_le {i : Nat} (h : i ≤ T.length) : i ≤ s_sk T i ∧ s_sk T i ≤ T.length := by
  have := s_skf_le (T := T) (T.length - i) i
  unfold s_sk
  omega
/-- the class's tape, at a place -/
def TP (u : am_M) (T : List Int) (q : Nat) : Prop := CSt u T ∧ u 138 2 = (q : Int)
theorem TP.up (h : TP u T k) (q : Nat) : TP (am_up u 138 2 (q : Int)) T q := ⟨⟨by rw [up_nj (by omega)]; exact h.1.1, fun i c hc => by rw [up_fn (by omega)]; exact h.1.2 i c hc⟩, up_eq⟩
theorem TP_FR {v : am_M} {q : Nat} (h : TP u T q) (f : FR 8 u v) : TP v T q := ⟨CSt_congr (by rw [f 138 (by omega)]) (f 139 (by omega)) h.1, by rw [f 138 (by omega)]; exact h.2⟩
theorem c_letter (hE : SE E) (hT : OKt T) {q : Nat} (h : TP u T q) (hq : q < T.length) : Rn m_A_look 0 [vR (some 139), vI (q : Int)] [] E u = some (some (vI (s_ch T q)), E, u) := by
  obtain ⟨ta, tk⟩ := al_t hE
  rw [r_look tk ta, if_pos (by have := hT.1; omega), Int.toNat_natCast, h.1.2 q _ (s_ch_in hT hq).1]
theorem c_next (hE : SE E) (hT : OKt T) : ∀ (d q : Nat) (u : am_M) (b : am_V), q + d = T.length → TP u T q → Rn m_T_next 0 [vR (some 138), b] [] E u = some (some (vI (s_ch T (s_sk T q))), E, am_up u 138 2 ((s_sk T q : Nat) : Int)) := by
  intro d
  induction d with
  | zero =>
    intro q u b hq h
    have e : q = T.length := by omega
    have ec := s_ch_end (T := T) (i := q) (by omega)
    have es : s_sk T q = q := s_sk_no (by rw [ec]; decide)
    have h1 := h.1.1
    have h2 := h.2
    rw [es, ec, up_self h2, h_T_next_0]
    have lt : ¬ (q : Int) < (T.length : Int) := by omega
    simp (disch := assumption) only [↓reduceIte, Int.reduceEq, Int.reduceLT, bdI_s, bdV_s, bdR_s, bdL_s, fx_I, fx_R, fx_B, fx_L, x_T_next, h2, h1, lt]
  | succ d ih =>
    intro q u b hq h
    have hlt : q < T.length := by omega
    have h1 := h.1.1
    have h2 := h.2
    have lk := c_letter hE hT h hlt
    have lt : (q : Int) < (T.length : Int) := by omega
    have l120 := hT.1
    have h7 : q < 1000000 := by omega
    rw [h_T_next_0]
    by_cases e : s_ch T q = 32
    · have e' := ih (q + 1) (am_up u 138 2 ((q + 1 : Nat) : Int)) (vI 32) (by omega) (h.up (q + 1))
      rw [up_up] at e'
      rw [s_sk_32 hT e, ← e']
      simp (disch := assumption) only [↓reduceIte, Int.reduceEq, Int.reduceLT, bdI_s, bdV_s, bdR_s, bdL_s, fx_I, fx_R, fx_B, fx_L, x_T_next, h2, h1, lt, lk, e, w_suc h7]
    · rw [s_sk_no e, up_self h2]
      simp (disch := assumption) only [↓reduceIte, Int.reduceEq, Int.reduceLT, bdI_s, bdV_s, bdR_s, bdL_s, fx_I, fx_R, fx_B, fx_L, x_T_next, h2, h1, lt, lk, e]
theorem c_nx (hE : SE E) (hT : OKt T) {q : Nat} (h : TP u T q) (hq : q ≤ T.length) : Rn m_T_next 0 [vR (some 138), vB false] [] E u = some (some (vI (s_ch T (s_sk T q))), E, am_up u 138 2 ((s_sk T q : Nat) : Int)) := c_next hE hT (T.length - q) q u (vB false) (by omega) h
/-- a digit that may stand there -/
abbrev s_dg (T : List Int) (lo hi : Int) (q : Nat) : Prop := lo ≤ s_ch T q - 48 ∧ s_ch T q - 48 ≤ hi
theorem w_m48 (hT : OKt T) (q : Nat) : w32 (s_ch T q - 48) = s_ch T q - 48 := by
  rcases s_ch_r hT q with h | h
  · rw [h]; decide
  · exact w32_of (by omega) (by omega)
theorem c_digT (hE : SE E) (hT : OKt T) {q : Nat} (h : TP u T q) (hq : q ≤ T.length) {lo hi : Int} (hd : s_dg T lo hi (s_sk T q)) : Rn m_T_digit 0 [vR (some 138), vI lo, vI hi, vB false] [] E u = some (some (vI (s_ch T (s_sk T q) - 48)), E, am_up u 138 2 ((s_sk T q + 1 : Nat) : Int)) := by
  have nx := c_nx hE hT h hq
  have sl := s_sk_le hq
  have l120 := hT.1
  have h7 : s_sk T q < 1000000 := by omega
  have w := w_m48 hT (s_sk T q)
  have i1 := r_isInT (E := E) (u := am_up u 138 2 ((s_sk T q : Nat) : Int)) hd
  simp (disch := assumption) only [↓reduceIte, Int.reduceEq, Int.reduceLT, bdI_s, bdV_s, bdR_s, bdL_s, fx_I, fx_R, fx_B, fx_L, x_T_digit, nx, w, i1, up_eq, w_suc h7, up_up]
theorem c_digF (hE : SE E) (hT : OKt T) {q : Nat} (h : TP u T q) (hq : q ≤ T.length) {lo hi : Int} (hd : ¬ s_dg T lo hi (s_sk T q)) : Rn m_T_digit 0 [vR (some 138), vI lo, vI hi, vB false] [] E u = some (some (vI (-4)), E, am_up u 138 2 ((s_sk T q : Nat) : Int)) := by
  have nx := c_nx hE hT h hq
  have w := w_m48 hT (s_sk T q)
  have i1 := r_isInF (E := E) (u := am_up u 138 2 ((s_sk T q : Nat) : Int)) hd
  simp (disch := assumption) only [↓reduceIte, Int.reduceEq, Int.reduceLT, bdI_s, bdV_s, bdR_s, bdL_s, fx_I, fx_R, fx_B, fx_L, x_T_digit, nx, w, i1]
theorem c_pastT (hE : SE E) (hT : OKt T) {q : Nat} (h : TP u T q) (hq : q ≤ T.length) {c : Int} (hd : s_ch T (s_sk T q) = c) : Rn m_T_goesPast 0 [vR (some 138), vI c] [] E u = some (some (vI 1), E, am_up u 138 2 ((s_sk T q + 1 : Nat) : Int)) := by
  have nx := c_nx hE hT h hq
  have sl := s_sk_le hq
  have l120 := hT.1
  have h7 : s_sk T q < 1000000 := by omega
  simp (disch := assumption) only [↓reduceIte, Int.reduceEq, Int.reduceLT, bdI_s, bdV_s, bdR_s, bdL_s, fx_I, fx_R, fx_B, fx_L, x_T_goesPast, nx, hd, up_eq, w_suc h7, up_up]
theorem c_pastF (hE : SE E) (hT : OKt T) {q : Nat} (h : TP u T q) (hq : q ≤ T.length) {c : Int} (hd : ¬ s_ch T (s_sk T q) = c) : Rn m_T_goesPast 0 [vR (some 138), vI c] [] E u = some (some (vI 0), E, am_up u 138 2 ((s_sk T q : Nat) : Int)) := by
  have nx := c_nx hE hT h hq
  simp (disch := assumption) only [↓reduceIte, Int.reduceEq, Int.reduceLT, bdI_s, bdV_s, bdR_s, bdL_s, fx_I, fx_R, fx_B, fx_L, x_T_goesPast, nx, hd]
theorem c_lh (hE : SE E) (hT : OKt T) {q : Nat} (h : TP u T q) (hq : q ≤ T.length) : Rn m_T_letterHere 0 [vR (some 138)] [] E u = some (some (vI (s_ch T q)), E, u) := by
  have h1 := h.1.1
  have h2 := h.2
  by_cases hlt : q < T.length
  · have lk := c_letter hE hT h hlt
    have lt : (q : Int) < (T.length : Int) := by omega
    simp (disch := assumption) only [↓reduceIte, Int.reduceEq, Int.reduceLT, bdI_s, bdV_s, bdR_s, bdL_s, fx_I, fx_R, fx_B, fx_L, x_T_letterHere, h2, h1, lt, lk]
  · have lt : ¬ (q : Int) < (T.length : Int) := by omega
    rw [s_ch_end (by omega)]
    simp (disch := assumption) only [↓reduceIte, Int.reduceEq, Int.reduceLT, bdI_s, bdV_s, bdR_s, bdL_s, fx_I, fx_R, fx_B, fx_L, x_T_letterHere, h2, h1, lt]
/-- a number of one or two digits: its value, where it ends -/
def s_is (T : List Int) (q : Nat) : Prop := 48 ≤ s_ch T q ∧ s_ch T q ≤ 57
theorem c_numN (hE : SE E) (hT : OKt T) {q : Nat} (h : TP u T q) (hq : q ≤ T.length) (hd : ¬ s_is T (s_sk T q)) : Rn m_T_number 0 [vR (some 138), vI 1, vI 12, vB false, vB false, vB false] [] E u = some (some (vI (-4)), E, am_up u 138 2 ((s_sk T q : Nat) : Int)) := by
  have nx := c_nx hE hT h hq
  have i1 := r_isInF (E := E) (u := am_up u 138 2 ((s_sk T q : Nat) : Int)) hd
  simp (disch := assumption) only [↓reduceIte, Int.reduceEq, Int.reduceLT, bdI_s, bdV_s, bdR_s, bdL_s, fx_I, fx_R, fx_B, fx_L, x_T_number, nx, i1]
theorem n_2 {a b : Int} (ha : 48 ≤ a ∧ a ≤ 57) (hb : 48 ≤ b ∧ b ≤ 57) : w32 (w32 (w32 ((a - 48) * 10) + b) - 48) = (a - 48) * 10 + b - 48 := by
  have e1 : w32 ((a - 48) * 10) = (a - 48) * 10 := w32_of (by omega) (by omega)
  rw [e1]
  clear e1
  have e2 : w32 ((a - 48) * 10 + b) = (a - 48) * 10 + b := w32_of (by omega) (by omega)
  rw [e2]
  clear e2
  exact w32_of (by omega) (by omega)
theorem n_1 {a : Int} (ha : 48 ≤ a ∧ a ≤ 57) : w32 (w32 (w32 (0 * 10) + a) - 48) = a - 48 := by
  have e1 : w32 (0 * 10) = 0 := by decide
  rw [e1, Int.zero_add]
  clear e1
  have e2 : w32 a = a := w32_of (by omega) (by omega)
  rw [e2]
  clear e2
  exact w32_of (by omega) (by omega)
/-- behind the digits -/
theorem c_numE (hE : SE E) {v s : Int} (x : am_V) (hx : am_fx x = x) : Rn m_T_number 79 [vR (some 138), vI 1, vI 12, vI s, vI v, x] [] E u = if 1 ≤ v ∧ v ≤ 12 then some (some (vI v), E, u) else some (some (vI (-4)), E, am_up u 138 2 s) := by
  by_cases h : 1 ≤ v ∧ v ≤ 12
  · rw [if_pos h]
    have i1 := r_isInT (E := E) (u := u) h
    simp (disch := assumption) only [↓reduceIte, Int.reduceEq, Int.reduceLT, bdI_s, bdV_s, bdR_s, bdL_s, fx_I, fx_R, fx_B, fx_L, x_T_number, i1]
  · rw [if_neg h]
    have i1 := r_isInF (E := E) (u := u) h
    simp (disch := assumption) only [↓reduceIte, Int.reduceEq, Int.reduceLT, bdI_s, bdV_s, bdR_s, bdL_s, fx_I, fx_R, fx_B, fx_L, x_T_number, i1]
theorem c_numL (hE : SE E) (hT : OKt T) {q : Nat} (h : TP u T q) (hq : q < T.length) (hd : s_is T q) {s v v' : Int} {i : Nat} (hi : i < 2) (wv : w32 (w32 (w32 (v * 10) + s_ch T q) - 48) = v') : Rn m_T_number 28 [vR (some 138), vI 1, vI 12, vI s, vI v, vI (i : Int)] [] E u = Rn m_T_number 28 [vR (some 138), vI 1, vI 12, vI s, vI v', vI ((i + 1 : Nat) : Int)] [] E (am_up u 138 2 ((q + 1 : Nat) : Int)) := by
  have lh := c_lh hE hT h (by omega)
  have h2 := h.2
  have i1 := r_isInT (E := E) (u := u) hd
  have l120 := hT.1
  have h7 : q < 1000000 := by omega
  have h8 : i < 1000000 := by omega
  have lt : (i : Int) < 2 := by omega
  rw [h_T_number_28]
  simp (disch := assumption) only [↓reduceIte, Int.reduceEq, Int.reduceLT, bdI_s, bdV_s, bdR_s, bdL_s, fx_I, fx_R, fx_B, fx_L, x_T_number, lt, lh, i1, wv, h2, w_suc h7, w_suc h8]
theorem c_numX (hE : SE E) (hT : OKt T) {q : Nat} (h : TP u T q) (hq : q ≤ T.length) {s v : Int} {i : Nat} (hd : i = 2 ∨ ¬ s_is T q) : Rn m_T_number 28 [vR (some 138), vI 1, vI 12, vI s, vI v, vI (i : Int)] [] E u = if 1 ≤ v ∧ v ≤ 12 then some (some (vI v), E, u) else some (some (vI (-4)), E, am_up u 138 2 s) := by
  rw [← c_numE hE (vI (i : Int)) rfl, h_T_number_28]
  by_cases h2 : i < 2
  · have lh := c_lh hE hT h hq
    have i1 := r_isInF (E := E) (u := u) (hd.resolve_left (by omega))
    have lt : (i : Int) < 2 := by omega
    simp (disch := assumption) only [↓reduceIte, Int.reduceEq, Int.reduceLT, bdI_s, bdV_s, bdR_s, bdL_s, fx_I, fx_R, fx_B, fx_L, x_T_number, lt, lh, i1]
  · have lt : ¬ (i : Int) < 2 := by omega
    simp (disch := assumption) only [↓reduceIte, Int.reduceEq, Int.reduceLT, bdI_s, bdV_s, bdR_s, bdL_s, fx_I, fx_R, fx_B, fx_L, x_T_number, lt]
/-- a number's value and its end; -1 -/
noncomputable def s_nv (T : List Int) (b : Nat) : Int × Nat := @ite _ (s_is T b) (Classical.propDecidable _) (@ite _ (s_is T (b + 1)) (Classical.propDecidable _) ((s_ch T b - 48) * 10 + s_ch T (b + 1) - 48, b + 2) (s_ch T b - 48, b + 1)) (-1, b)
theorem c_num (hE : SE E) (hT : OKt T) {q : Nat} (h : TP u T q) (hq : q ≤ T.length) : Rn m_T_number 0 [vR (some 138), vI 1, vI 12, vB false, vB false, vB false] [] E u = if 1 ≤ (s_nv T (s_sk T q)).1 ∧ (s_nv T (s_sk T q)).1 ≤ 12 then some (some (vI (s_nv T (s_sk T q)).1), E, am_up u 138 2 (((s_nv T (s_sk T q)).2 : Nat) : Int)) else some (some (vI (-4)), E, am_up u 138 2 ((s_sk T q : Nat) : Int)) := by
  have sl := s_sk_le hq
  by_cases hd : s_is T (s_sk T q)
  · have lt : s_sk T q < T.length := s_ch_lt hT (by have := hd.1; omega)
    have nx := c_nx hE hT h hq
    have i1 := r_isInT (E := E) (u := am_up u 138 2 ((s_sk T q : Nat) : Int)) hd
    have go : Rn m_T_number 0 [vR (some 138), vI 1, vI 12, vB false, vB false, vB false] [] E u = Rn m_T_number 28 [vR (some 138), vI 1, vI 12, vI ((s_sk T q : Nat) : Int), vI 0, vI ((0 : Nat) : Int)] [] E (am_up u 138 2 ((s_sk T q : Nat) : Int)) := by
      simp (disch := assumption) only [↓reduceIte, Int.reduceEq, Int.reduceLT, bdI_s, bdV_s, bdR_s, bdL_s, fx_I, fx_R, fx_B, fx_L, x_T_number, nx, i1, up_eq]
      rfl
    have h1 := h.up (s_sk T q)
    have s1 := c_numL (i := 0) (s := ((s_sk T q : Nat) : Int)) (v := 0) hE hT h1 lt hd (by omega) (n_1 hd)
    rw [up_up] at s1
    have h2 := h.up (s_sk T q + 1)
    rw [go, s1]
    by_cases hd2 : s_is T (s_sk T q + 1)
    · have lt2 : s_sk T q + 1 < T.length := s_ch_lt hT (by have := hd2.1; omega)
      have s2 := c_numL (i := 1) (s := ((s_sk T q : Nat) : Int)) (v := s_ch T (s_sk T q) - 48) hE hT h2 lt2 hd2 (by omega) (n_2 hd hd2)
      rw [up_up] at s2
      have h3 := h.up (s_sk T q + 1 + 1)
      have e : s_nv T (s_sk T q) = ((s_ch T (s_sk T q) - 48) * 10 + s_ch T (s_sk T q + 1) - 48, s_sk T q + 2) := by unfold s_nv; rw [if_pos hd, if_pos hd2]
      rw [s2, c_numX hE hT h3 (by omega) (Or.inl rfl), up_up, e]
    · have e : s_nv T (s_sk T q) = (s_ch T (s_sk T q) - 48, s_sk T q + 1) := by unfold s_nv; rw [if_pos hd, if_neg hd2]
      rw [c_numX hE hT h2 (by omega) (Or.inr hd2), up_up, e]
  · have e : s_nv T (s_sk T q) = (-1, s_sk T q) := by unfold s_nv; rw [if_neg hd]
    rw [c_numN hE hT h hq hd, e, if_neg (by intro z; have : (1 : Int) ≤ -1 := z.1; omega)]

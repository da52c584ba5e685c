/-! What the constructors leave. -/
variable {E : am_E} {u : am_M} {k b : Nat}
theorem gA {α : Type} {l m : List α} {i : Nat} {x : α} (h : l[i]? = some x) : (l ++ m)[i]? = some x := by rw [List.getElem?_append_left (List.getElem?_eq_some_iff.mp h).1]; exact h
theorem gC {α : Type} {l m : List α} {i : Nat} {x : α} (h : l.length = i) : (l ++ x :: m)[i]? = some x := by subst h; simp
def cuL : List (Nat × Nat) := [(10, 7), (10, 7), (10, 7), (10, 6), (10, 6), (10, 6)]
def n_I : am_Row := s_fresh (fun x => if x = 5 then 1 else 0) 5 5
theorem RC_1 (h0 : u k 0 = 5) (h1 : u k 1 = 5) (h2 : u k 2 = 0) (h3 : u k 3 = 0) (h4 : u k 4 = 0) (h5 : u k 5 = 1) (h6 : u k 6 = 0) (h7 : u k 7 = 0) (hf : ∀ x : Nat, x < 7 → u (k + 2) x = -4) : RC u k n_I := by
  have e2 : n_I 2 = 0 := rfl
  have e3 : n_I 3 = 0 := rfl
  refine ⟨h0, h1, h2, h3, h4, h5, ?_, ?_, fun q q0 q1 => ?_, fun q q0 q1 => ?_, fun t t0 t1 => ?_⟩
  · rw [h6]
    have : (0 : Nat) = bits (fun t => decide ((t : Int) < n_I 3) && decide (s_X n_I t = 1)) 6 := bits_ext fun i => by
      rw [e3]
      simp
      intro _ h; omega
    rw [← this]; rfl
  · rw [h7]
    have : (0 : Nat) = bits (fun c' => decide (s_H n_I c' = 1)) 49 := bits_ext fun i => by
      by_cases hi : i < 49
      · have : s_H n_I (i : Int) = 0 := by
          unfold s_H n_I s_fresh
          rw [if_neg (by omega), if_neg (by omega), if_neg (by omega), if_pos (by omega)]
        simp [this]
      · simp [hi]
    rw [← this]; rfl
  · rw [e2] at q1; omega
  · exact hf _ (by omega)
  · rw [e3] at t1; omega
/-- all that was there is there -/
def GR (b : Nat) (E E' : am_E) (u u' : am_M) : Prop := E'.2.2 = E.2.2 ∧ ∀ i, i < b → E'.2.1 i = E.2.1 i ∧ u' i = u i
theorem GR.tr {b c : Nat} {E1 E2 E3 : am_E} {u1 u2 u3 : am_M} (h : GR b E1 E2 u1 u2) (h' : GR c E2 E3 u2 u3) (hc : b ≤ c) : GR b E1 E3 u1 u3 := ⟨h'.1.trans h.1, fun i hi => ⟨((h'.2 i (by omega)).1).trans (h.2 i hi).1, ((h'.2 i (by omega)).2).trans (h.2 i hi).2⟩⟩
def cuE (E : am_E) (k : Nat) : Prop := E.2.1 k 8 = some (k + 1) ∧ E.2.1 k 9 = some (k + 2) ∧ E.2.1 k 10 = some (k + 3) ∧ E.2.1 k 11 = some (k + 4) ∧ E.2.1 k 12 = some (k + 5) ∧ E.2.1 k 13 = some (k + 6)
theorem cuE_c {E' : am_E} (h : cuE E k) (e : E'.2.1 k = E.2.1 k) : cuE E' k := by
  unfold cuE at h ⊢
  rw [e]
  exact h
theorem zr_ne {i : Nat} (h : i ≠ b) : am_zr u b i = u i := by funext x; unfold am_zr; rw [if_neg h]
theorem zr_eq {x : Nat} : am_zr u b b x = 0 := by unfold am_zr; rw [if_pos rfl]
/-- an array more, and a field that leads to it -/
def aA (E : am_E) (k j t m : Nat) : am_E := (E.1 ++ [(t, m)], am_rp (am_zq E.2.1 E.1.length) k j (some E.1.length), E.2.2)
def aP (E E' : am_E) (k j t m b : Nat) : Prop := E'.1 = E.1 ++ [(t, m)] ∧ E'.1.length = b + 1 ∧ E'.2.2 = E.2.2 ∧ E'.2.1 k j = some b ∧ (∀ x, x ≠ j → E'.2.1 k x = E.2.1 k x) ∧ ∀ i, i < b → i ≠ k → E'.2.1 i = E.2.1 i
theorem aP_aA {j t m : Nat} (hl : E.1.length = b) (hk : k < b) : aP E (aA E k j t m) k j t m b := by
  subst hl
  refine ⟨rfl, by simp [aA], rfl, by simp [aA, am_rp], fun x hx => ?_, fun i hi hik => ?_⟩
  · simp only [aA, am_rp, am_zq]
    rw [if_neg (by omega), if_neg (by omega)]
  · funext x
    simp only [aA, am_rp, am_zq]
    rw [if_neg (by omega), if_neg (by omega)]
theorem rp_ne {r : Nat → Nat → Option Nat} {k' j : Nat} {v : Option Nat} (h : k' ≠ k) : am_rp r k j v k' = r k' := by funext x; unfold am_rp; rw [if_neg (by omega)]
theorem rp_nj {r : Nat → Nat → Option Nat} {k' j j' : Nat} {v : Option Nat} (h : j' ≠ j) : am_rp r k j v k' j' = r k' j' := by unfold am_rp; rw [if_neg (by omega)]
theorem rp_eq {r : Nat → Nat → Option Nat} {j : Nat} {v : Option Nat} : am_rp r k j v k j = v := by unfold am_rp; rw [if_pos ⟨rfl, rfl⟩]
theorem zq_ne {r : Nat → Nat → Option Nat} {k' : Nat} (h : k' ≠ k) : am_zq r k k' = r k' := by funext x; unfold am_zq; rw [if_neg h]

theorem C_8 (hk : E.1[k]? = some (0, 14)) (hl : E.1.length = b) (hb : k < b) : ∃ E', Rn m_C_init 19 [vR (some k)] [] E u = Rn m_C_init 27 [vR (some k)] [] E' (am_zr u b) ∧ aP E E' k 8 10 7 b := by
  refine ⟨aA E k 8 10 7, ?_, aP_aA hl hb⟩
  subst hl
  rw [x_C_init.2.2.2.2.2.2.2.2.2.2.2.1, x_C_init.2.2.2.2.2.2.2.2.2.2.2.2.1, x_C_init.2.2.2.2.2.2.2.2.2.2.2.2.2.1 _ _ _ _ _ (show (0 : Int) ≤ 7 ∧ (7 : Int) ≤ 10000 by omega), x_C_init.2.2.2.2.2.2.2.2.2.2.2.2.2.2.1 _ _ _ _ _ _ (gA hk)]
  rfl
theorem C_9 (hk : E.1[k]? = some (0, 14)) (hl : E.1.length = b) (hb : k < b) : ∃ E', Rn m_C_init 27 [vR (some k)] [] E u = Rn m_C_init 35 [vR (some k)] [] E' (am_zr u b) ∧ aP E E' k 9 10 7 b := by
  refine ⟨aA E k 9 10 7, ?_, aP_aA hl hb⟩
  subst hl
  rw [x_C_init.2.2.2.2.2.2.2.2.2.2.2.2.2.2.2.1, x_C_init.2.2.2.2.2.2.2.2.2.2.2.2.2.2.2.2.1, x_C_init.2.2.2.2.2.2.2.2.2.2.2.2.2.2.2.2.2.1 _ _ _ _ _ (show (0 : Int) ≤ 7 ∧ (7 : Int) ≤ 10000 by omega), x_C_init.2.2.2.2.2.2.2.2.2.2.2.2.2.2.2.2.2.2.1 _ _ _ _ _ _ (gA hk)]
  rfl
theorem C_10 (hk : E.1[k]? = some (0, 14)) (hl : E.1.length = b) (hb : k < b) : ∃ E', Rn m_C_init 35 [vR (some k)] [] E u = Rn m_C_init 43 [vR (some k)] [] E' (am_zr u b) ∧ aP E E' k 10 10 7 b := by
  refine ⟨aA E k 10 10 7, ?_, aP_aA hl hb⟩
  subst hl
  rw [x_C_init.2.2.2.2.2.2.2.2.2.2.2.2.2.2.2.2.2.2.2.1, x_C_init.2.2.2.2.2.2.2.2.2.2.2.2.2.2.2.2.2.2.2.2.1, x_C_init.2.2.2.2.2.2.2.2.2.2.2.2.2.2.2.2.2.2.2.2.2.1 _ _ _ _ _ (show (0 : Int) ≤ 7 ∧ (7 : Int) ≤ 10000 by omega), x_C_init.2.2.2.2.2.2.2.2.2.2.2.2.2.2.2.2.2.2.2.2.2.2.1 _ _ _ _ _ _ (gA hk)]
  rfl
theorem C_11 (hk : E.1[k]? = some (0, 14)) (hl : E.1.length = b) (hb : k < b) : ∃ E', Rn m_C_init 43 [vR (some k)] [] E u = Rn m_C_init 51 [vR (some k)] [] E' (am_zr u b) ∧ aP E E' k 11 10 6 b := by
  refine ⟨aA E k 11 10 6, ?_, aP_aA hl hb⟩
  subst hl
  rw [x_C_init.2.2.2.2.2.2.2.2.2.2.2.2.2.2.2.2.2.2.2.2.2.2.2.1, x_C_init.2.2.2.2.2.2.2.2.2.2.2.2.2.2.2.2.2.2.2.2.2.2.2.2.1, x_C_init.2.2.2.2.2.2.2.2.2.2.2.2.2.2.2.2.2.2.2.2.2.2.2.2.2.1 _ _ _ _ _ (show (0 : Int) ≤ 6 ∧ (6 : Int) ≤ 10000 by omega), x_C_init.2.2.2.2.2.2.2.2.2.2.2.2.2.2.2.2.2.2.2.2.2.2.2.2.2.2.1 _ _ _ _ _ _ (gA hk)]
  rfl
theorem C_12 (hk : E.1[k]? = some (0, 14)) (hl : E.1.length = b) (hb : k < b) : ∃ E', Rn m_C_init 51 [vR (some k)] [] E u = Rn m_C_init 59 [vR (some k)] [] E' (am_zr u b) ∧ aP E E' k 12 10 6 b := by
  refine ⟨aA E k 12 10 6, ?_, aP_aA hl hb⟩
  subst hl
  rw [x_C_init.2.2.2.2.2.2.2.2.2.2.2.2.2.2.2.2.2.2.2.2.2.2.2.2.2.2.2.1, x_C_init.2.2.2.2.2.2.2.2.2.2.2.2.2.2.2.2.2.2.2.2.2.2.2.2.2.2.2.2.1, x_C_init.2.2.2.2.2.2.2.2.2.2.2.2.2.2.2.2.2.2.2.2.2.2.2.2.2.2.2.2.2.1 _ _ _ _ _ (show (0 : Int) ≤ 6 ∧ (6 : Int) ≤ 10000 by omega), x_C_init.2.2.2.2.2.2.2.2.2.2.2.2.2.2.2.2.2.2.2.2.2.2.2.2.2.2.2.2.2.2.1 _ _ _ _ _ _ (gA hk)]
  rfl
theorem C_13 (hk : E.1[k]? = some (0, 14)) (hl : E.1.length = b) (hb : k < b) : ∃ E', Rn m_C_init 59 [vR (some k)] [] E u = Rn m_C_init 67 [vR (some k)] [] E' (am_zr u b) ∧ aP E E' k 13 10 6 b := by
  refine ⟨aA E k 13 10 6, ?_, aP_aA hl hb⟩
  subst hl
  rw [x_C_init.2.2.2.2.2.2.2.2.2.2.2.2.2.2.2.2.2.2.2.2.2.2.2.2.2.2.2.2.2.2.2.1, x_C_init.2.2.2.2.2.2.2.2.2.2.2.2.2.2.2.2.2.2.2.2.2.2.2.2.2.2.2.2.2.2.2.2.1, x_C_init.2.2.2.2.2.2.2.2.2.2.2.2.2.2.2.2.2.2.2.2.2.2.2.2.2.2.2.2.2.2.2.2.2.1 _ _ _ _ _ (show (0 : Int) ≤ 6 ∧ (6 : Int) ≤ 10000 by omega), x_C_init.2.2.2.2.2.2.2.2.2.2.2.2.2.2.2.2.2.2.2.2.2.2.2.2.2.2.2.2.2.2.2.2.2.2.1 _ _ _ _ _ _ (gA hk)]
  rfl
theorem C_made (hk : E.1[k]? = some (0, 14)) (hl : E.1.length = k + 1) (hz : ∀ j, u k j = 0) : ∃ E' u', Rn m_C_init 0 [vR (some k)] [] E u = some (none, E', u') ∧ E'.1 = E.1 ++ cuL ∧ GR k E E' u u' ∧ cuE E' k ∧ RC u' k n_I := by
  have e0 : Rn m_C_init 0 [vR (some k)] [] E u = Rn m_C_init 19 [vR (some k)] [] E (am_up (am_up (am_up u k 0 5) k 1 5) k 5 1) := by
    rw [x_C_init.1, x_C_init.2.1, x_C_init.2.2.1, x_C_init.2.2.2.1, x_C_init.2.2.2.2.1 _ _ _ _ _ _ hk, x_C_init.2.2.2.2.2.1, x_C_init.2.2.2.2.2.2.1, x_C_init.2.2.2.2.2.2.2.1 _ _ _ _ _ _ hk, x_C_init.2.2.2.2.2.2.2.2.1, x_C_init.2.2.2.2.2.2.2.2.2.1, x_C_init.2.2.2.2.2.2.2.2.2.2.1 _ _ _ _ _ _ hk]
  generalize hv : am_up (am_up (am_up u k 0 5) k 1 5) k 5 1 = v at e0
  obtain ⟨E1, e1, a1, l1, t1, r1, s1, q1⟩ := C_8 (u := v) hk hl (by omega)
  have k1 : E1.1[k]? = some (0, 14) := by rw [a1]; exact gA hk
  obtain ⟨E2, e2, a2, l2, t2, r2, s2, q2⟩ := C_9 (u := am_zr v (k + 1)) k1 l1 (by omega)
  have k2 : E2.1[k]? = some (0, 14) := by rw [a2]; exact gA k1
  obtain ⟨E3, e3, a3, l3, t3, r3, s3, q3⟩ := C_10 (u := am_zr (am_zr v (k + 1)) (k + 1 + 1)) k2 l2 (by omega)
  have k3 : E3.1[k]? = some (0, 14) := by rw [a3]; exact gA k2
  obtain ⟨E4, e4, a4, l4, t4, r4, s4, q4⟩ := C_11 (u := am_zr (am_zr (am_zr v (k + 1)) (k + 1 + 1)) (k + 1 + 1 + 1)) k3 l3 (by omega)
  have k4 : E4.1[k]? = some (0, 14) := by rw [a4]; exact gA k3
  obtain ⟨E5, e5, a5, l5, t5, r5, s5, q5⟩ := C_12 (u := am_zr (am_zr (am_zr (am_zr v (k + 1)) (k + 1 + 1)) (k + 1 + 1 + 1)) (k + 1 + 1 + 1 + 1)) k4 l4 (by omega)
  have k5 : E5.1[k]? = some (0, 14) := by rw [a5]; exact gA k4
  obtain ⟨E6, e6, a6, l6, t6, r6, s6, q6⟩ := C_13 (u := am_zr (am_zr (am_zr (am_zr (am_zr v (k + 1)) (k + 1 + 1)) (k + 1 + 1 + 1)) (k + 1 + 1 + 1 + 1)) (k + 1 + 1 + 1 + 1 + 1)) k5 l5 (by omega)
  have k6 : E6.1[k]? = some (0, 14) := by rw [a6]; exact gA k5
  generalize hw : am_zr (am_zr (am_zr (am_zr (am_zr (am_zr v (k + 1)) (k + 1 + 1)) (k + 1 + 1 + 1)) (k + 1 + 1 + 1 + 1)) (k + 1 + 1 + 1 + 1 + 1)) (k + 1 + 1 + 1 + 1 + 1 + 1) = w at e6
  have eA : E6.1 = E.1 ++ cuL := by
    rw [a6, a5, a4, a3, a2, a1]
    simp only [List.append_assoc]
    rfl
  have h9 : E6.2.1 k 9 = some (k + 2) := by rw [s6 9 (by omega), s5 9 (by omega), s4 9 (by omega), s3 9 (by omega), r2]
  have n2 : E6.1[k + 2]? = some (10, 7) := by
    rw [a6]; refine gA ?_
    rw [a5]; refine gA ?_
    rw [a4]; refine gA ?_
    rw [a3]; refine gA ?_
    rw [a2]; exact gC l1
  have hwv : ∀ i, i ≤ k → w i = v i := fun i hi => by
    rw [← hw, zr_ne (by omega), zr_ne (by omega), zr_ne (by omega), zr_ne (by omega), zr_ne (by omega), zr_ne (by omega)]
  refine ⟨E6, aS w (k + 2) (s_fil (w (k + 2)) (fun _ => -4) 0 7), ?_, eA, ⟨?_, fun i hi => ⟨?_, ?_⟩⟩, ⟨?_, h9, ?_, ?_, ?_, r6⟩, ?_⟩
  · rw [e0, e1, e2, e3, e4, e5, e6, x_C_init.2.2.2.2.2.2.2.2.2.2.2.2.2.2.2.2.2.2.2.2.2.2.2.2.2.2.2.2.2.2.2.2.2.2.2.1, x_C_init.2.2.2.2.2.2.2.2.2.2.2.2.2.2.2.2.2.2.2.2.2.2.2.2.2.2.2.2.2.2.2.2.2.2.2.2.1 _ _ _ _ _ _ k6 h9, x_C_init.2.2.2.2.2.2.2.2.2.2.2.2.2.2.2.2.2.2.2.2.2.2.2.2.2.2.2.2.2.2.2.2.2.2.2.2.2.1, x_C_init.2.2.2.2.2.2.2.2.2.2.2.2.2.2.2.2.2.2.2.2.2.2.2.2.2.2.2.2.2.2.2.2.2.2.2.2.2.2.1, j_fillI (m := 7) (kn_of n2) (al_of n2) (by omega), bdV_s, x_C_init.2.2.2.2.2.2.2.2.2.2.2.2.2.2.2.2.2.2.2.2.2.2.2.2.2.2.2.2.2.2.2.2.2.2.2.2.2.2.2]
  · rw [t6, t5, t4, t3, t2, t1]
  · rw [q6 i (by omega) (by omega), q5 i (by omega) (by omega), q4 i (by omega) (by omega), q3 i (by omega) (by omega), q2 i (by omega) (by omega), q1 i (by omega) (by omega)]
  · rw [aS_ne _ _ (by omega), hwv i (by omega), ← hv, up_fn (by omega), up_fn (by omega), up_fn (by omega)]
  · rw [s6 8 (by omega), s5 8 (by omega), s4 8 (by omega), s3 8 (by omega), s2 8 (by omega), r1]
  · rw [s6 10 (by omega), s5 10 (by omega), s4 10 (by omega), r3]
  · rw [s6 11 (by omega), s5 11 (by omega), r4]
  · rw [s6 12 (by omega), r5]
  · have g : ∀ x, aS w (k + 2) (s_fil (w (k + 2)) (fun _ => -4) 0 7) k x = am_up (am_up (am_up u k 0 5) k 1 5) k 5 1 k x := fun x => by
      rw [aS_ne _ _ (by omega), hwv k (by omega), hv]
    refine RC_1 ?_ ?_ ?_ ?_ ?_ ?_ ?_ ?_ fun x hx => ?_
    · rw [g, up_nj (by omega), up_nj (by omega), up_eq]
    · rw [g, up_nj (by omega), up_eq]
    · rw [g, up_nj (by omega), up_nj (by omega), up_nj (by omega), hz]
    · rw [g, up_nj (by omega), up_nj (by omega), up_nj (by omega), hz]
    · rw [g, up_nj (by omega), up_nj (by omega), up_nj (by omega), hz]
    · rw [g, up_eq]
    · rw [g, up_nj (by omega), up_nj (by omega), up_nj (by omega), hz]
    · rw [g, up_nj (by omega), up_nj (by omega), up_nj (by omega), hz]
    · rw [aS_eq, s_fil_in (by omega)]
theorem T_0 (hk : E.1[k]? = some (3, 3)) (hl : E.1.length = b) (hb : k < b) : ∃ E', Rn m_T_init 4 [vR (some k)] [] E u = Rn m_T_init 12 [vR (some k)] [] E' (am_zr u b) ∧ aP E E' k 0 10 120 b := by
  refine ⟨aA E k 0 10 120, ?_, aP_aA hl hb⟩
  subst hl
  rw [x_T_init.2.2.1, x_T_init.2.2.2.1, x_T_init.2.2.2.2.1 _ _ _ _ _ (show (0 : Int) ≤ 120 ∧ (120 : Int) ≤ 10000 by omega), x_T_init.2.2.2.2.2.1 _ _ _ _ _ _ (gA hk)]
  rfl
theorem S_0 (hk : E.1[k]? = some (2, 4)) (hl : E.1.length = b) (hb : k < b) : ∃ E', Rn m_S_init 4 [vR (some k)] [] E u = Rn m_S_init 12 [vR (some k)] [] E' (am_zr u b) ∧ aP E E' k 0 11 24 b := by
  refine ⟨aA E k 0 11 24, ?_, aP_aA hl hb⟩
  subst hl
  rw [x_S_init.2.2.1, x_S_init.2.2.2.1, x_S_init.2.2.2.2.1 _ _ _ _ _ (show (0 : Int) ≤ 24 ∧ (24 : Int) ≤ 10000 by omega), x_S_init.2.2.2.2.2.1 _ _ _ _ _ _ (gA hk)]
  rfl
theorem P_0 {l1 : am_V} (hk : E.1[k]? = some (1, 3)) (hl : E.1.length = b) (hb : k < b) : ∃ E', Rn m_P_init 4 [vR (some k), l1] [] E u = Rn m_P_init 13 [vR (some k), l1] [] E' (am_zr u b) ∧ aP E E' k 0 12 8 b := by
  refine ⟨aA E k 0 12 8, ?_, aP_aA hl hb⟩
  subst hl
  rw [x_P_init.2.2.1, x_P_init.2.2.2.1, x_P_init.2.2.2.2.1 _ _ _ _ _ _ (show (0 : Int) ≤ 8 ∧ (8 : Int) ≤ 10000 by omega), x_P_init.2.2.2.2.2.1 _ _ _ _ _ _ _ (gA hk)]
  rfl
theorem T_made (hk : E.1[k]? = some (3, 3)) (hl : E.1.length = k + 1) (hz : ∀ j, u k j = 0) : ∃ E' u', Rn m_T_init 0 [vR (some k)] [] E u = some (none, E', u') ∧ E'.1 = E.1 ++ [(10, 120)] ∧ GR k E E' u u' ∧ E'.2.1 k 0 = some (k + 1) ∧ ∀ j, u' k j = 0 := by
  obtain ⟨E1, e1, a1, l1, t1, r1, s1, q1⟩ := T_0 (u := u) hk hl (by omega)
  refine ⟨E1, am_zr u (k + 1), ?_, a1, ⟨t1, fun i hi => ⟨q1 i (by omega) (by omega), zr_ne (by omega)⟩⟩, r1, fun j => by rw [zr_ne (by omega), hz]⟩
  rw [x_T_init.1, x_T_init.2.1, e1, x_T_init.2.2.2.2.2.2]
theorem S_made (hk : E.1[k]? = some (2, 4)) (hl : E.1.length = k + 1) (hz : ∀ j, u k j = 0) : ∃ E' u', Rn m_S_init 0 [vR (some k)] [] E u = some (none, E', u') ∧ E'.1 = E.1 ++ [(11, 24)] ∧ GR k E E' u u' ∧ E'.2.1 k 0 = some (k + 1) ∧ u' k 1 = 1 ∧ u' k 3 = 0 ∧ ∀ j, u' (k + 1) j = 0 := by
  obtain ⟨E1, e1, a1, l1, t1, r1, s1, q1⟩ := S_0 (u := u) hk hl (by omega)
  have k1 : E1.1[k]? = some (2, 4) := by rw [a1]; exact gA hk
  refine ⟨E1, am_up (am_zr u (k + 1)) k 1 1, ?_, a1, ⟨t1, fun i hi => ⟨q1 i (by omega) (by omega), by rw [up_fn (by omega), zr_ne (by omega)]⟩⟩, r1, up_eq, by rw [up_nj (by omega), zr_ne (by omega), hz], fun j => by rw [up_ne (by omega), zr_eq]⟩
  rw [x_S_init.1, x_S_init.2.1, e1, x_S_init.2.2.2.2.2.2.1, x_S_init.2.2.2.2.2.2.2.1, x_S_init.2.2.2.2.2.2.2.2.1 _ _ _ _ _ _ k1 (Or.inr rfl), x_S_init.2.2.2.2.2.2.2.2.2]
def rep : Nat → List (Nat × Nat)
  | 0 => []
  | i + 1 => rep i ++ (0, 14) :: cuL
theorem rep_len : ∀ i, (rep i).length = 7 * i
  | 0 => rfl
  | i + 1 => by rw [rep, List.length_append, rep_len i]; show 7 * i + 7 = _; omega
theorem P_loop (hk : E.1[k]? = some (1, 3)) (hl : E.1.length = k + 1) (hz : ∀ j, u k j = 0) : ∀ i : Nat, i ≤ 8 → ∃ E' u', Rn m_P_init 0 [vR (some k), vB false] [] E u = Rn m_P_init 15 [vR (some k), vI (i : Int)] [] E' u' ∧ E'.1 = E.1 ++ (12, 8) :: rep i ∧ GR k E E' u u' ∧ E'.2.1 k 0 = some (k + 1) ∧ (∀ m, m < i → E'.2.1 (k + 1) m = some (k + 2 + 7 * m)) ∧ (∀ m, m < i → cuE E' (k + 2 + 7 * m)) ∧ ∀ j, u' k j = 0 := by
  intro i
  induction i with
  | zero =>
    intro _
    obtain ⟨E1, e1, a1, l1, t1, r1, s1, q1⟩ := P_0 (u := u) (l1 := vB false) hk hl (by omega)
    refine ⟨E1, am_zr u (k + 1), ?_, a1, ⟨t1, fun i hi => ⟨q1 i (by omega) (by omega), zr_ne (by omega)⟩⟩, r1, fun m hm => by omega, fun m hm => by omega, fun j => by rw [zr_ne (by omega), hz]⟩
    rw [x_P_init.1, x_P_init.2.1, e1, x_P_init.2.2.2.2.2.2.1, x_P_init.2.2.2.2.2.2.2.1, fx_R]
    rfl
  | succ i ih =>
    intro hi
    obtain ⟨E1, u1, e1, a1, g1, r1, f1, c1, z1⟩ := ih (by omega)
    have L1 : E1.1.length = k + 2 + 7 * i := by rw [a1, List.length_append, List.length_cons, rep_len, hl]; omega
    have k1 : E1.1[k]? = some (1, 3) := by rw [a1]; exact gA hk
    have y1 : E1.1[k + 1]? = some (12, 8) := by rw [a1]; exact gC hl
    let E2 : am_E := (E1.1 ++ [(0, 14)], am_zq E1.2.1 E1.1.length, E1.2.2)
    have k2 : E2.1[E1.1.length]? = some (0, 14) := gC rfl
    obtain ⟨E3, u3, e3, a3, g3, c3, R3⟩ := C_made (E := E2) (u := am_zr u1 E1.1.length) k2 (by show (E1.1 ++ [(0, 14)]).length = _; simp) (fun j => zr_eq)
    have k3 : E3.1[k]? = some (1, 3) := by rw [a3]; exact gA (gA k1)
    have y3 : E3.1[k + 1]? = some (12, 8) := by rw [a3]; exact gA (gA y1)
    have w3 : E3.1[E1.1.length]? = some (0, 14) := by rw [a3]; exact gA k2
    have p3 : ∀ j, j < E1.1.length → E3.2.1 j = E1.2.1 j ∧ u3 j = u1 j := fun j hj => ⟨((g3.2 j hj).1).trans (zq_ne (by omega)), ((g3.2 j hj).2).trans (zr_ne (by omega))⟩
    refine ⟨(E3.1, am_rp E3.2.1 (k + 1) ((i : Int)).toNat (some E1.1.length), E3.2.2), u3, ?_, ?_, ⟨g3.1.trans g1.1, fun j hj => ⟨?_, ?_⟩⟩, ?_, fun m hm => ?_, fun m hm => ?_, fun j => ?_⟩
    · rw [e1, h_P_init_15, x_P_init.2.2.2.2.2.2.2.2.1, g_P_init_17 _ _ _ _ _ _ k1, r1, x_P_init.2.2.2.2.2.2.2.2.2.2.1 _ _ _ _ _ _ (kn_of y1), x_P_init.2.2.2.2.2.2.2.2.2.2.2.1, if_pos (by rw [al_of y1]; omega), x_P_init.2.2.2.2.2.2.2.2.2.2.2.2.1, g_P_init_25 _ _ _ _ _ _ k1, r1, x_P_init.2.2.2.2.2.2.2.2.2.2.2.2.2.2.1, x_P_init.2.2.2.2.2.2.2.2.2.2.2.2.2.2.2.1, x_P_init.2.2.2.2.2.2.2.2.2.2.2.2.2.2.2.2.2.1, x_P_init.2.2.2.2.2.2.2.2.2.2.2.2.2.2.2.2.2.2.1 _ _ _ _ _ _ _ _ k2]
      rw [e3, bdV_s, x_P_init.2.2.2.2.2.2.2.2.2.2.2.2.2.2.2.2.2.2.2.1 _ _ (k + 1) _ (i : Int) _ _ _ (by omega) (by rw [al_of y3]; omega) (kn_of w3), x_P_init.2.2.2.2.2.2.2.2.2.2.2.2.2.2.2.2.2.2.2.2.1, fx_R, w_suc (by omega), x_P_init.2.2.2.2.2.2.2.2.2.2.2.2.2.2.2.2.2.2.2.2.2.1]
    · show E3.1 = _
      rw [a3]
      show (E1.1 ++ [(0, 14)]) ++ cuL = _
      rw [a1, rep]
      simp
    · show am_rp E3.2.1 (k + 1) _ _ j = _
      rw [rp_ne (by omega), (p3 j (by omega)).1, (g1.2 j hj).1]
    · rw [(p3 j (by omega)).2, (g1.2 j hj).2]
    · show am_rp E3.2.1 (k + 1) _ _ k 0 = _
      rw [rp_ne (by omega), (p3 k (by omega)).1, r1]
    · show am_rp E3.2.1 (k + 1) _ _ (k + 1) m = _
      rw [Int.toNat_natCast]
      by_cases h : m = i
      · rw [h, rp_eq, L1]
      · rw [rp_nj h, (p3 (k + 1) (by omega)).1, f1 m (by omega)]
    · by_cases h : m = i
      · rw [h, ← L1]
        exact cuE_c c3 (rp_ne (by omega))
      · refine cuE_c (c1 m (by omega)) ?_
        show am_rp E3.2.1 (k + 1) _ _ _ = _
        rw [rp_ne (by omega), (p3 _ (by omega)).1]
    · rw [(p3 k (by omega)).2, z1]
theorem P_made (hk : E.1[k]? = some (1, 3)) (hl : E.1.length = k + 1) (hz : ∀ j, u k j = 0) : ∃ E' u', Rn m_P_init 0 [vR (some k), vB false] [] E u = some (none, E', u') ∧ E'.1 = E.1 ++ (12, 8) :: rep 8 ∧ GR k E E' u u' ∧ E'.2.1 k 0 = some (k + 1) ∧ (∀ m, m < 8 → E'.2.1 (k + 1) m = some (k + 2 + 7 * m)) ∧ (∀ m, m < 8 → cuE E' (k + 2 + 7 * m)) ∧ ∀ j, u' k j = 0 := by
  obtain ⟨E1, u1, e1, a1, g1, r1, f1, c1, z1⟩ := P_loop hk hl hz 8 (by omega)
  have k1 : E1.1[k]? = some (1, 3) := by rw [a1]; exact gA hk
  have y1 : E1.1[k + 1]? = some (12, 8) := by rw [a1]; exact gC hl
  refine ⟨E1, u1, ?_, a1, g1, r1, f1, c1, z1⟩
  rw [e1, h_P_init_15, x_P_init.2.2.2.2.2.2.2.2.1, g_P_init_17 _ _ _ _ _ _ k1, r1, x_P_init.2.2.2.2.2.2.2.2.2.2.1 _ _ _ _ _ _ (kn_of y1), x_P_init.2.2.2.2.2.2.2.2.2.2.2.1, if_neg (by rw [al_of y1]; omega), x_P_init.2.2.2.2.2.2.2.2.2.2.2.2.2.2.2.2.2.2.2.2.2.2]

/-! The reference reads a whole text. -/
variable {E : am_E} {u : am_M} {k : Nat} {n : am_Row} {T : List Int}
theorem sk_sk (hT : OKt T) {q : Nat} (hq : q ≤ T.length) : s_sk T (s_sk T q) = s_sk T q := by
  have key : ∀ d q : Nat, q + d = T.length → s_sk T (s_sk T q) = s_sk T q := by
    intro d
    induction d with
    | zero =>
      intro q hq
      have e : s_sk T q = q := s_sk_no (by rw [s_ch_end (by omega)]; decide)
      rw [e, e]
    | succ d ihd =>
      intro q hq
      by_cases e : s_ch T q = 32
      · rw [s_sk_32 hT e]; exact ihd (q + 1) (by omega)
      · rw [s_sk_no e, s_sk_no e]
  exact key (T.length - q) q (by omega)
theorem zs_in {q f : Int} : am_up (am_up u 149 3 q) 149 4 f = ZS u q f (u 152) (u 153) := by
  have e1 : aS u 152 (u 152) = u := aS_self u 152
  unfold ZS
  rw [e1, aS_self u 153]
theorem h0_0 {c : Int} (h : c = -1 ∨ (32 ≤ c ∧ c ≤ 126)) : (s_h0 c = 0) ↔ c = -1 := by
  unfold s_h0
  split <;> omega
/-- where it stands behind the things -/
def m_upto (E : am_E) (u : am_M) (z : Bool × Nat × am_Row) (w : am_Z) : Prop := ∃ r' o', w = Rn m_M_read 152 [vR (some 149), vI 49] [] E (ZS u ((z.2.1 : Nat) : Int) (bI (!z.1)) r' o') ∧ (z.1 = true → PR z.2.2 r' o' ∧ Vn z.2.2)
theorem m_atX (hE : SE E) {q : Nat} {r o : am_Row} : Rn m_M_read 96 [vR (some 149), vI 49] [] E (ZS u (q : Int) 1 r o) = Rn m_M_read 152 [vR (some 149), vI 49] [] E (ZS u (q : Int) 1 r o) := by
  have z1 : ¬ (1 : Int) = 0 := by decide
  have z0 : (1 : Int) = 0 ∨ (1 : Int) = 1 := Or.inr rfl
  rw [h_M_read_96]
  simp (disch := assumption) only [↓reduceIte, Int.reduceEq, Int.reduceLT, bdI_s, bdV_s, fx_I, fx_R, fx_B, x_M_read_0, zr_4, z1, zs_4]
theorem m_allR (hE : SE E) (hT : OKt T) (hS : MSt u T) : ∀ (f q : Nat) (n r o : am_Row), q ≤ T.length → T.length < q + f → Vn n → PR n r o → m_upto E u (p_all T f q n) (Rn m_M_read 96 [vR (some 149), vI 49] [] E (ZS u (q : Int) 0 r o)) := by
  intro f
  have l120 := hT.1
  induction f with
  | zero => intro q n r o a b; omega
  | succ f ih =>
    intro q n r o hq hf hV hP
    have sl := s_sk_le hq
    have hh := m_here (u := u) (f := 0) (r := r) (o := o) hE hT hS hq
    have hh2 := m_here (u := u) (f := 0) (r := r) (o := o) hE hT hS sl.2
    rw [sk_sk hT hq] at hh2
    have rr := s_ch_r hT (s_sk T q)
    have z0 : (1 : Int) = 0 ∨ (1 : Int) = 1 := Or.inr rfl
    have z00 : (0 : Int) = 0 ∨ (0 : Int) = 1 := Or.inl rfl
    simp only [p_all]
    by_cases e1 : s_ch T (s_sk T q) = -1
    · rw [if_pos e1]
      have k0 : s_h0 (-1) = 0 := by decide
      rw [e1, k0] at hh hh2
      refine ⟨r, o, ?_, fun _ => ⟨hP, hV⟩⟩
      rw [h_M_read_96]
      show _ = Rn m_M_read 152 [vR (some 149), vI 49] [] E (ZS u ((s_sk T q : Nat) : Int) 0 r o)
      simp (disch := assumption) only [↓reduceIte, Int.reduceEq, Int.reduceLT, bdI_s, bdV_s, bdR_s, bdL_s, fx_I, fx_R, fx_B, fx_L, x_M_read_0, zr_4, hh, hh2, zs_4]
    rw [if_neg e1]
    by_cases e2 : s_ch T (s_sk T q) = 59
    case neg =>
      rw [if_pos e2]
      have k1 := h0_no e2 (by decide)
      have k2 : ¬ s_h0 (s_ch T (s_sk T q)) = 0 := fun z => e1 ((h0_0 rr).mp z)
      refine ⟨r, o, ?_, fun z => by cases z⟩
      rw [h_M_read_96]
      show _ = Rn m_M_read 152 [vR (some 149), vI 49] [] E (ZS u ((s_sk T q : Nat) : Int) 1 r o)
      simp (disch := assumption) only [↓reduceIte, Int.reduceEq, Int.reduceLT, bdI_s, bdV_s, bdR_s, bdL_s, fx_I, fx_R, fx_B, fx_L, x_M_read_0, zr_4, hh, k1, hh2, k2, zs_4]
    rw [if_neg (fun z => z e2)]
    have k59 : s_h0 59 = 59 := by decide
    rw [e2, k59] at hh
    obtain ⟨a1, a2⟩ := sk_next hT hq e1
    have h6 : s_sk T q < 1000000 := by omega
    have ok := p_thing_ok (n := n) hV hT a2
    obtain ⟨r', o', x1, x2⟩ := m_readThing (u := u) hE hT hS hV hP a2
    generalize p_thing T n (s_sk T q + 1) = C at *
    cases hz : C.1 with
    | false =>
      rw [if_neg (by decide)]
      rw [hz] at x1
      refine ⟨r', o', ?_, fun z => by rw [hz] at z; cases z⟩
      rw [hz]
      show _ = Rn m_M_read 152 [vR (some 149), vI 49] [] E (ZS u ((C.2.1 : Nat) : Int) 1 r' o')
      rw [← m_atX hE, h_M_read_96]
      have x1' : Rn m_M_readThing 0 [vR (some 149), vB false, vB false] [] E (ZS u ((s_sk T q + 1 : Nat) : Int) 0 r o) = some (none, E, ZS u ((C.2.1 : Nat) : Int) 1 r' o') := x1
      simp (disch := assumption) only [↓reduceIte, Int.reduceEq, Int.reduceLT, bdI_s, bdV_s, bdR_s, bdL_s, fx_I, fx_R, fx_B, fx_L, x_M_read_0, zr_4, hh, zr_3, w_suc h6, zs_3, x1']
    | true =>
      rw [if_pos rfl]
      rw [hz] at x1
      have x1' : Rn m_M_readThing 0 [vR (some 149), vB false, vB false] [] E (ZS u ((s_sk T q + 1 : Nat) : Int) 0 r o) = some (none, E, ZS u ((C.2.1 : Nat) : Int) 0 r' o') := x1
      obtain ⟨ok1, ok2, ok3⟩ := ok
      obtain ⟨v1, -, v3⟩ := ok3 hz
      obtain ⟨r2, o2, y1, y2⟩ := ih C.2.1 C.2.2 r' o' ok1 (by omega) v1 (x2 hz)
      refine ⟨r2, o2, ?_, y2⟩
      rw [← y1, h_M_read_96]
      simp (disch := assumption) only [↓reduceIte, Int.reduceEq, Int.reduceLT, bdI_s, bdV_s, bdR_s, bdL_s, fx_I, fx_R, fx_B, fx_L, x_M_read_0, zr_4, hh, zr_3, w_suc h6, zs_3, x1']

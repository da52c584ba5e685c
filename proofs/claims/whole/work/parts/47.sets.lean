/-! Calls: the fewest threads to be cut. -/
variable {E : am_E} {u : am_M} {k : Nat} {n : am_Row}
def s_sub (S M : Nat) : Bool := decide (S ^^^ (S &&& M) = 0)
theorem s_sub_tb {S M : Nat} (h : s_sub S M = true) {i : Nat} (hi : S.testBit i = true) : M.testBit i = true := by
  have h0 : S ^^^ (S &&& M) = 0 := of_decide_eq_true h
  have := congrArg (fun x => Nat.testBit x i) h0
  simp only [Nat.testBit_xor, Nat.testBit_and, Nat.zero_testBit, hi] at this
  cases hM : M.testBit i with
  | true => rfl
  | false => rw [hM] at this; cases this
def s_unc (n : am_Row) : Nat := bits (s_open n) (n 3).toNat
theorem s_unc_lt (hV : Vn n) : s_unc n < 2 ^ (n 3).toNat ∧ s_unc n < 64 := by
  have h3 := hV.2.2.2.1
  have h := bits_lt (s_open n) (n 3).toNat
  exact ⟨h, Nat.lt_of_lt_of_le h (pow_le64 (by omega))⟩
theorem s_unc_sub (hV : Vn n) {M : Nat} (hM : M < 2 ^ (n 3).toNat) {S : Nat} (h : s_sub S M = true) : ∀ i, S.testBit i = true → (i : Int) < n 3 := by
  intro i hi
  have h3 := hV.2.2.2.1
  have := s_sub_tb h hi
  by_cases hlt : i < (n 3).toNat
  · omega
  · rw [Nat.testBit_lt_two_pow (Nat.lt_of_lt_of_le hM (Nat.pow_le_pow_right (by decide) (by omega)))] at this
    cases this
theorem s_pc_m : ∀ m : Nat, m < 7 → ∀ S : Nat, S < 64 → S < 2 ^ m → s_pc S ≤ m := by decide +kernel
/-- the least of the sets that are good, as they rise -/
def s_cb (M : Nat) (ok : Nat → Bool) : Nat → Int
  | 0 => -4
  | S + 1 => if s_sub S M = true ∧ (s_cb M ok S = -4 ∨ s_pc S < s_pc (s_cb M ok S).toNat) ∧ ok S = true then (S : Int) else s_cb M ok S
theorem s_cb_spec (M : Nat) (ok : Nat → Bool) : ∀ N, (s_cb M ok N = -4 ∧ ∀ S, S < N → ¬ (s_sub S M = true ∧ ok S = true)) ∨ (∃ B, B < N ∧ s_cb M ok N = (B : Int) ∧ s_sub B M = true ∧ ok B = true ∧ ∀ S, S < N → s_sub S M = true → ok S = true → s_pc B < s_pc S ∨ (s_pc B = s_pc S ∧ B ≤ S)) := by
  intro N
  induction N with
  | zero => exact Or.inl ⟨rfl, fun S hS => by omega⟩
  | succ N ih =>
    simp only [s_cb]
    by_cases hc : s_sub N M = true ∧ (s_cb M ok N = -4 ∨ s_pc N < s_pc (s_cb M ok N).toNat) ∧ ok N = true
    · rw [if_pos hc]
      refine Or.inr ⟨N, by omega, rfl, hc.1, hc.2.2, fun S hS h1 h2 => ?_⟩
      by_cases e : S = N
      · subst e; exact Or.inr ⟨rfl, Nat.le_refl _⟩
      · rcases ih with ⟨-, a⟩ | ⟨B, -, eB, -, -, a⟩
        · exact absurd ⟨h1, h2⟩ (a S (by omega))
        · rcases hc.2.1 with z | z
          · rw [eB] at z; omega
          · rw [eB, Int.toNat_natCast] at z
            rcases a S (by omega) h1 h2 with b | b
            · exact Or.inl (by omega)
            · exact Or.inl (by omega)
    · rw [if_neg hc]
      rcases ih with ⟨e, a⟩ | ⟨B, hB, eB, b1, b2, a⟩
      · refine Or.inl ⟨e, fun S hS h => ?_⟩
        by_cases eS : S = N
        · subst eS; exact hc ⟨h.1, Or.inl e, h.2⟩
        · exact a S (by omega) h
      · refine Or.inr ⟨B, by omega, eB, b1, b2, fun S hS h1 h2 => ?_⟩
        by_cases eS : S = N
        · subst eS
          by_cases hlt : s_pc S < s_pc B
          · exact absurd ⟨h1, Or.inr (by rw [eB, Int.toNat_natCast]; exact hlt), h2⟩ hc
          · by_cases he : s_pc B = s_pc S
            · exact Or.inr ⟨he, by omega⟩
            · exact Or.inl (by omega)
        · exact a S (by omega) h1 h2
def s_cok (n : am_Row) (p cell : Int) (S : Nat) : Bool := decide (s_when (s_cuts n S) p cell < 61)
def s_cans (w b : Int) : Int := if b = -4 then -4 else if w = 0 then (s_pc b.toNat : Nat) else b
theorem i_sub {S M : Nat} (hS : S < 64) (hM : M < 64) : i_and (S : Int) (i_xor (M : Int) (-1)) = ((S ^^^ (S &&& M) : Nat) : Int) := i_andn (by omega) (by omega)
theorem c_cutsT {S : am_S} (hE : SE E) (hS : OKS S) {p cell w : Int} (hp : 0 ≤ p ∧ p < S.1 2) (hc : 0 ≤ cell ∧ cell < s_cells S.1) (hw : 0 ≤ w ∧ w ≤ 1) (hu : CS E u S) : ∃ u', Rn m_A_cuts 0 [vR (some 0), vI p, vI cell, vI w, vB false, vB false, vB false] [] E u = some (some (vI (s_cans w (s_cb (s_unc S.1) (s_cok S.1 p cell) (s_unc S.1 + 1)))), E, u') ∧ FR 8 u u' := by
  have cu1 := cuB_1
  have cu8 := cuB_8
  have hV := hS.1.1
  have h3 := hV.2.2.2.1
  have d1 := hS.1.2.1
  obtain ⟨m, hm⟩ : ∃ m : Nat, S.1 3 = (m : Int) := ⟨(S.1 3).toNat, by omega⟩
  obtain ⟨M2, M64⟩ := s_unc_lt hV
  have hsub := fun (T : Nat) (h : s_sub T (s_unc S.1) = true) => s_unc_sub hV M2 h
  have hun := c_uncutSet (hu.cu hS)
  have eun : s_uncut S.1 = ((s_unc S.1 : Nat) : Int) := rfl
  rw [eun] at hun
  rw [hm, Int.toNat_natCast] at M2
  have spec := s_cb_spec (s_unc S.1) (s_cok S.1 p cell) (s_unc S.1 + 1)
  generalize hb : s_cb (s_unc S.1) (s_cok S.1 p cell) (s_unc S.1 + 1) = b at *
  generalize s_unc S.1 = M at *
  have outer : ∀ (d j : Nat), j + d = m + 1 → (∀ T, T ≤ M → s_sub T M = true → s_cok S.1 p cell T = true → j ≤ s_pc T) → ∀ (v : am_M) (x : am_V), FR 8 u v → ∃ u', Rn m_A_cuts 45 [vR (some 0), vI p, vI cell, vI w, vI (M : Int), vI (j : Int), x] [] E v = some (some (vI (s_cans w b)), E, u') ∧ FR 8 u u' := by
    intro d
    induction d with
    | zero =>
      intro j hj hno v x fv
      have hcu : CU E v 1 S.1 := (CS_congr (fun i _ hi => fv i (by omega)) hu).cu hS
      have hu3 := hcu.2.2.1.2.2.2.1
      refine ⟨v, ?_, fv⟩
      have eb : b = -4 := by
        rcases spec with ⟨e, -⟩ | ⟨B, hB, e, b1, b2, -⟩
        · exact e
        · have := hno B (by omega) b1 b2
          have := s_pc_m m (by omega) B (by omega) (by omega)
          omega
      rw [eb, h_A_cuts_45]
      simp (disch := first | assumption | omega) only [↓reduceIte, Int.reduceEq, Int.reduceLT, bdI_s, bdV_s, bdR_s, bdL_s, fx_I, fx_R, fx_B, fx_L, w32_of, x_A_cuts, hu3, hm, show (m : Int) < (j : Int) by omega]
      rfl
    | succ d ihd =>
      intro j hj hno v x fv
      have inner : ∀ (e s : Nat), s + e = M + 1 → (∀ T, T < s → s_sub T M = true → s_cok S.1 p cell T = true → j < s_pc T) → ∀ (v : am_M), FR 8 u v → ∃ u', Rn m_A_cuts 60 [vR (some 0), vI p, vI cell, vI w, vI (M : Int), vI (j : Int), vI (s : Int)] [] E v = some (some (vI (s_cans w b)), E, u') ∧ FR 8 u u' := by
        intro e
        induction e with
        | zero =>
          intro s hs hno2 v fv
          obtain ⟨u', e', f'⟩ := ihd (j + 1) (by omega) (fun T hT h1 h2 => by have := hno2 T (by omega) h1 h2; omega) v (vI (s : Int)) fv
          refine ⟨u', ?_, f'⟩
          rw [← e', h_A_cuts_60]
          simp (disch := first | assumption | omega) only [↓reduceIte, Int.reduceEq, Int.reduceLT, bdI_s, bdV_s, bdR_s, bdL_s, fx_I, fx_R, fx_B, fx_L, w32_of, x_A_cuts, show (M : Int) < (s : Int) by omega]
          rfl
        | succ e ihe =>
          intro s hs hno2 v fv
          have hcu : CU E v 1 S.1 := (CS_congr (fun i _ hi => fv i (by omega)) hu).cu hS
          have is := i_sub (S := s) (M := M) (by omega) M64
          have hcast : ((s + 1 : Nat) : Int) = (s : Int) + 1 := by omega
          cases hsb : s_sub s M with
          | false =>
            have nz : ¬ ((s ^^^ (s &&& M) : Nat) : Int) = 0 := by
              have := of_decide_eq_false hsb
              omega
            obtain ⟨u', e', f'⟩ := ihe (s + 1) (by omega) (fun T hT h1 h2 => by
              by_cases eT : T = s
              · subst eT; rw [hsb] at h1; cases h1
              · exact hno2 T (by omega) h1 h2) v fv
            refine ⟨u', ?_, f'⟩
            rw [← e', h_A_cuts_60, hcast]
            simp (disch := first | assumption | omega) only [↓reduceIte, Int.reduceEq, Int.reduceLT, bdI_s, bdV_s, bdR_s, bdL_s, fx_I, fx_R, fx_B, fx_L, w32_of, x_A_cuts, show ¬ (M : Int) < (s : Int) by omega, is, nz]
          | true =>
            have zz : ((s ^^^ (s &&& M) : Nat) : Int) = 0 := by
              have := of_decide_eq_true hsb
              omega
            have pcs := j_bitI (E := E) (u := v) (x := s) (by omega)
            by_cases hk : s_pc s = j
            · obtain ⟨v1, e1, h1, f1⟩ := c_becomesCut (u := v) (k := 8) (j := 1) hE cuB_8 cuB_1 (by omega) hcu.2.2.1 hV (S := s) (hsub s hsb) (by omega)
              have c2 : (s_cuts S.1 s) 2 = S.1 2 := s_cuts_ne (by omega)
              have c4 : (s_cuts S.1 s) 4 = S.1 4 := s_cuts_ne (by omega)
              obtain ⟨v2, e2, f2⟩ := c_soonestW h1 hp.1 (by rw [c2]; exact hp.2) hc.1 61 (by omega) (by rw [c4]; omega)
              rw [show ((61 : Nat) : Int) - 1 = 60 by omega] at e2
              have win := s_when_in (s_cuts S.1 s) p cell
              by_cases hok : s_when (s_cuts S.1 s) p cell < 61
              · have okT : s_cok S.1 p cell s = true := decide_eq_true hok
                rw [if_pos (show s_when (s_cuts S.1 s) p cell < ((61 : Nat) : Int) by omega)] at e2
                have eb : b = (s : Int) := by
                  rcases spec with ⟨-, a⟩ | ⟨B, hB, eB, b1, b2, a⟩
                  · exact absurd ⟨hsb, okT⟩ (a s (by omega))
                  · have q1 := hno B (by omega) b1 b2
                    have q2 := a s (by omega) hsb okT
                    by_cases hlt : B < s
                    · have := hno2 B hlt b1 b2; omega
                    · rw [eB]; omega
                refine ⟨v2, ?_, (fv.tr f1).tr f2⟩
                have ean : s_cans w b = if w = 0 then (j : Int) else (s : Int) := by
                  unfold s_cans
                  rw [if_neg (by omega), eb, Int.toNat_natCast, hk]
                rw [ean, h_A_cuts_60]
                by_cases hw0 : w = 0
                · simp (disch := first | assumption | omega) only [↓reduceIte, Int.reduceEq, Int.reduceLT, bdI_s, bdV_s, bdR_s, bdL_s, fx_I, fx_R, fx_B, fx_L, w32_of, x_A_cuts, show ¬ (M : Int) < (s : Int) by omega, is, zz, pcs, hk, e1, e2, show ¬ s_when (s_cuts S.1 s) p cell = -4 by omega, hw0]
                · simp (disch := first | assumption | omega) only [↓reduceIte, Int.reduceEq, Int.reduceLT, bdI_s, bdV_s, bdR_s, bdL_s, fx_I, fx_R, fx_B, fx_L, w32_of, x_A_cuts, show ¬ (M : Int) < (s : Int) by omega, is, zz, pcs, hk, e1, e2, show ¬ s_when (s_cuts S.1 s) p cell = -4 by omega, hw0]
              · rw [if_neg (show ¬ s_when (s_cuts S.1 s) p cell < ((61 : Nat) : Int) by omega)] at e2
                obtain ⟨u', e', f'⟩ := ihe (s + 1) (by omega) (fun T hT h1 h2 => by
                  by_cases eT : T = s
                  · subst eT; exact absurd (of_decide_eq_true h2) hok
                  · exact hno2 T (by omega) h1 h2) v2 ((fv.tr f1).tr f2)
                refine ⟨u', ?_, f'⟩
                rw [← e', h_A_cuts_60, hcast]
                simp (disch := first | assumption | omega) only [↓reduceIte, Int.reduceEq, Int.reduceLT, bdI_s, bdV_s, bdR_s, bdL_s, fx_I, fx_R, fx_B, fx_L, w32_of, x_A_cuts, show ¬ (M : Int) < (s : Int) by omega, is, zz, pcs, hk, e1, e2]
            · obtain ⟨u', e', f'⟩ := ihe (s + 1) (by omega) (fun T hT h1 h2 => by
                by_cases eT : T = s
                · subst eT
                  have := hno T (by omega) h1 h2
                  omega
                · exact hno2 T (by omega) h1 h2) v fv
              refine ⟨u', ?_, f'⟩
              rw [← e', h_A_cuts_60, hcast]
              simp (disch := first | assumption | omega) only [↓reduceIte, Int.reduceEq, Int.reduceLT, bdI_s, bdV_s, bdR_s, bdL_s, fx_I, fx_R, fx_B, fx_L, w32_of, x_A_cuts, show ¬ (M : Int) < (s : Int) by omega, is, zz, pcs, show ¬ ((s_pc s : Nat) : Int) = (j : Int) by omega]
      have hcu : CU E v 1 S.1 := (CS_congr (fun i _ hi => fv i (by omega)) hu).cu hS
      have hu3 := hcu.2.2.1.2.2.2.1
      obtain ⟨u', e', f'⟩ := inner (M + 1) 0 (by omega) (fun T hT => by omega) v fv
      refine ⟨u', ?_, f'⟩
      rw [← e', h_A_cuts_45]
      simp (disch := first | assumption | omega) only [↓reduceIte, Int.reduceEq, Int.reduceLT, bdI_s, bdV_s, bdR_s, bdL_s, fx_I, fx_R, fx_B, fx_L, w32_of, x_A_cuts, hu3, hm, show ¬ (m : Int) < (j : Int) by omega]
      rfl
  obtain ⟨u', e, f⟩ := outer (m + 1) 0 (by omega) (fun T _ _ _ => Nat.zero_le _) u (vB false) FR.rf
  refine ⟨u', ?_, f⟩
  rw [← e]
  simp (disch := first | assumption | omega) only [↓reduceIte, Int.reduceEq, Int.reduceLT, bdI_s, bdV_s, bdR_s, bdL_s, fx_I, fx_R, fx_B, fx_L, w32_of, x_A_cuts, c_isPinT (hu.cu hS), c_isCellT (hu.cu hS), r_isInT, hun]
  rfl
theorem m_cutsT {S : am_S} (hE : SE E) (hS : OKS S) {p cell w : Int} (hp : 0 ≤ p ∧ p < S.1 2) (hc : 0 ≤ cell ∧ cell < s_cells S.1) (hw : 0 ≤ w ∧ w ≤ 1) (hu : MS E u S) : Rn m_M_cuts 0 [vR (some 149), vI p, vI cell, vI w, vB false, vB false, vB false] [] E u = some (some (vI (s_cans w (s_cb (s_unc S.1) (s_cok S.1 p cell) (s_unc S.1 + 1)))), E, u_as u S.1) := by
  have hV := hS.1.1
  have h3 := hV.2.2.2.1
  have d1 := hS.1.2.1
  have hn := hu.2.1
  have al := (al_m hE).1
  have e3 : (3 : Int).toNat = 3 := rfl
  have hm' := u_as_mu (hu.mu hS)
  obtain ⟨m, hm⟩ : ∃ m : Nat, S.1 3 = (m : Int) := ⟨(S.1 3).toNat, by omega⟩
  obtain ⟨M2, M64⟩ := s_unc_lt hV
  have hsub := fun (T : Nat) (h : s_sub T (s_unc S.1) = true) => s_unc_sub hV M2 h
  have eun : s_unc S.1 = bits (s_open S.1) m := by unfold s_unc; rw [hm, Int.toNat_natCast]
  rw [hm, Int.toNat_natCast] at M2
  have spec := fun N => s_cb_spec (s_unc S.1) (s_cok S.1 p cell) N
  have e1 := m_asides' hE hu.2.1
  let f1 : Nat → am_Z := fun t => Rn m_M_cuts 34 [vR (some 149), vI p, vI cell, vI w, vI (bits (s_open S.1) t : Nat), vI (t : Int), vB false] [] E u
  have start : Rn m_M_cuts 0 [vR (some 149), vI p, vI cell, vI w, vB false, vB false, vB false] [] E u = f1 0 := by
    simp (disch := first | assumption | omega) only [↓reduceIte, Int.reduceEq, Int.reduceLT, bdI_s, bdV_s, bdR_s, bdL_s, fx_I, fx_R, fx_B, fx_L, w32_of, x_M_cuts, m_isPinT (hu.mu hS), m_isCellT (hu.mu hS), m_inT]
    rfl
  have step1 : ∀ t, t < m → f1 t = f1 (t + 1) := by
    intro t ht
    have px := m_X (u := u) hE hn (t := (t : Int)) (by omega) (by omega)
    simp only [f1]
    rw [h_M_cuts_34]
    by_cases ex : s_X S.1 (t : Int) = 0
    · rw [← bits_yes (show t < 31 by omega) (show s_open S.1 t = true from decide_eq_true ex)]
      simp (disch := first | assumption | omega) only [↓reduceIte, Int.reduceEq, Int.reduceLT, bdI_s, bdV_s, bdR_s, bdL_s, fx_I, fx_R, fx_B, fx_L, w32_of, x_M_cuts, hn, e3, hm, show (t : Int) < (m : Int) by omega, px, ex]
      rfl
    · rw [bits_no (show s_open S.1 t = false from decide_eq_false ex)]
      simp (disch := first | assumption | omega) only [↓reduceIte, Int.reduceEq, Int.reduceLT, bdI_s, bdV_s, bdR_s, bdL_s, fx_I, fx_R, fx_B, fx_L, w32_of, x_M_cuts, hn, e3, hm, show (t : Int) < (m : Int) by omega, px, ex, bits_or0]
      rfl
  have loop : ∀ (d s : Nat), s + d = s_unc S.1 + 1 → Rn m_M_cuts 85 [vR (some 149), vI p, vI cell, vI w, vI (s_unc S.1 : Int), vI (s_cb (s_unc S.1) (s_cok S.1 p cell) s), vI (s : Int)] [] E (u_as u S.1) = some (some (vI (s_cans w (s_cb (s_unc S.1) (s_cok S.1 p cell) (s_unc S.1 + 1)))), E, u_as u S.1) := by
    intro d
    induction d with
    | zero =>
      intro s hs
      have : s = s_unc S.1 + 1 := by omega
      subst this
      rw [h_M_cuts_85]
      unfold s_cans
      rcases spec (s_unc S.1 + 1) with ⟨e, -⟩ | ⟨B, hB, eB, -⟩
      · rw [e, if_pos rfl]
        by_cases hw1 : w = 1
        · simp (disch := first | assumption | omega) only [↓reduceIte, Int.reduceEq, Int.reduceLT, bdI_s, bdV_s, bdR_s, bdL_s, fx_I, fx_R, fx_B, fx_L, w32_of, x_M_cuts, show ((s_unc S.1 : Nat) : Int) < ((s_unc S.1 + 1 : Nat) : Int) by omega, hw1]
        · simp (disch := first | assumption | omega) only [↓reduceIte, Int.reduceEq, Int.reduceLT, bdI_s, bdV_s, bdR_s, bdL_s, fx_I, fx_R, fx_B, fx_L, w32_of, x_M_cuts, show ((s_unc S.1 : Nat) : Int) < ((s_unc S.1 + 1 : Nat) : Int) by omega, hw1]
      · rw [eB, if_neg (by omega), Int.toNat_natCast]
        have mn := m_many (E := E) (u := u_as u S.1) (x := B) (by omega)
        by_cases hw1 : w = 1
        · rw [if_neg (by omega)]
          simp (disch := first | assumption | omega) only [↓reduceIte, Int.reduceEq, Int.reduceLT, bdI_s, bdV_s, bdR_s, bdL_s, fx_I, fx_R, fx_B, fx_L, w32_of, x_M_cuts, show ((s_unc S.1 : Nat) : Int) < ((s_unc S.1 + 1 : Nat) : Int) by omega, hw1]
        · rw [if_pos (by omega)]
          simp (disch := first | assumption | omega) only [↓reduceIte, Int.reduceEq, Int.reduceLT, bdI_s, bdV_s, bdR_s, bdL_s, fx_I, fx_R, fx_B, fx_L, w32_of, x_M_cuts, show ((s_unc S.1 : Nat) : Int) < ((s_unc S.1 + 1 : Nat) : Int) by omega, hw1, show ¬ (B : Int) = -4 by omega, mn]
    | succ d ih =>
      intro s hs
      have e' := ih (s + 1) (by omega)
      have is := i_sub (S := s) (M := s_unc S.1) (by omega) M64
      have hcast : ((s + 1 : Nat) : Int) = (s : Int) + 1 := by omega
      have lt : ¬ ((s_unc S.1 : Nat) : Int) < (s : Int) := by omega
      rw [← e', h_M_cuts_85, hcast]
      simp only [s_cb]
      cases hsb : s_sub s (s_unc S.1) with
      | false =>
        have nz : ¬ ((s ^^^ (s &&& s_unc S.1) : Nat) : Int) = 0 := by
          have := of_decide_eq_false hsb
          omega
        rw [if_neg (fun z => by cases z.1)]
        simp (disch := first | assumption | omega) only [↓reduceIte, Int.reduceEq, Int.reduceLT, bdI_s, bdV_s, bdR_s, bdL_s, fx_I, fx_R, fx_B, fx_L, w32_of, x_M_cuts, lt, is, nz]
      | true =>
        have zz : ((s ^^^ (s &&& s_unc S.1) : Nat) : Int) = 0 := by
          have := of_decide_eq_true hsb
          omega
        have mns := m_many (E := E) (u := u_as u S.1) (x := s) (by omega)
        have ca := m_cutsAll hm' (S := s) (by omega)
        have tV := Vn_cuts hV s
        have tZ := Zn_cuts hS.1.2.2.2 (show S.1 3 ≤ 6 by omega) s
        have c2 : (s_cuts S.1 s) 2 = S.1 2 := s_cuts_ne (by omega)
        have c4 : (s_cuts S.1 s) 4 = S.1 4 := s_cuts_ne (by omega)
        have wo := m_whenOn (u := sN (u_as u S.1) (s_cuts S.1 s)) (n := S.1) (c := cell) (hm'.to tV) tZ hS.1.2.2.2 (fun j hj => by rw [sN_ne _ _ (by omega)]; exact u_as_155 j hj) hp.1 (by rw [c2]; exact hp.2) (by rw [c4]; omega)
        rw [sN_sN, u_as_back hu.2.1] at wo
        rcases spec s with ⟨eb, -⟩ | ⟨B, hB, eB, -⟩
        · rw [eb]
          by_cases hok : s_when (s_cuts S.1 s) p cell < 61
          · rw [if_pos ⟨rfl, Or.inl rfl, decide_eq_true hok⟩]
            simp (disch := first | assumption | omega) only [↓reduceIte, Int.reduceEq, Int.reduceLT, bdI_s, bdV_s, bdR_s, bdL_s, fx_I, fx_R, fx_B, fx_L, w32_of, x_M_cuts, lt, is, zz, ca, wo, hok]
          · rw [if_neg (fun z => hok (of_decide_eq_true z.2.2))]
            simp (disch := first | assumption | omega) only [↓reduceIte, Int.reduceEq, Int.reduceLT, bdI_s, bdV_s, bdR_s, bdL_s, fx_I, fx_R, fx_B, fx_L, w32_of, x_M_cuts, lt, is, zz, ca, wo, hok]
        · rw [eB, Int.toNat_natCast]
          have mnB := m_many (E := E) (u := u_as u S.1) (x := B) (by omega)
          by_cases hlt : s_pc s < s_pc B
          · by_cases hok : s_when (s_cuts S.1 s) p cell < 61
            · rw [if_pos ⟨rfl, Or.inr hlt, decide_eq_true hok⟩]
              simp (disch := first | assumption | omega) only [↓reduceIte, Int.reduceEq, Int.reduceLT, bdI_s, bdV_s, bdR_s, bdL_s, fx_I, fx_R, fx_B, fx_L, w32_of, x_M_cuts, lt, is, zz, show ¬ (B : Int) = -4 by omega, mns, mnB, show ((s_pc s : Nat) : Int) < ((s_pc B : Nat) : Int) by omega, ca, wo, hok]
            · rw [if_neg (fun z => hok (of_decide_eq_true z.2.2))]
              simp (disch := first | assumption | omega) only [↓reduceIte, Int.reduceEq, Int.reduceLT, bdI_s, bdV_s, bdR_s, bdL_s, fx_I, fx_R, fx_B, fx_L, w32_of, x_M_cuts, lt, is, zz, show ¬ (B : Int) = -4 by omega, mns, mnB, show ((s_pc s : Nat) : Int) < ((s_pc B : Nat) : Int) by omega, ca, wo, hok]
          · rw [if_neg (fun z => by rcases z.2.1 with q | q; omega; exact hlt q)]
            simp (disch := first | assumption | omega) only [↓reduceIte, Int.reduceEq, Int.reduceLT, bdI_s, bdV_s, bdR_s, bdL_s, fx_I, fx_R, fx_B, fx_L, w32_of, x_M_cuts, lt, is, zz, show ¬ (B : Int) = -4 by omega, mns, mnB, show ¬ ((s_pc s : Nat) : Int) < ((s_pc B : Nat) : Int) by omega]
  have lo := loop (s_unc S.1 + 1) 0 (by omega)
  rw [start, q_loop f1 m step1]
  simp only [f1]
  rw [← eun, ← lo, h_M_cuts_34]
  simp (disch := first | assumption | omega) only [↓reduceIte, Int.reduceEq, Int.reduceLT, bdI_s, bdV_s, bdR_s, bdL_s, fx_I, fx_R, fx_B, fx_L, w32_of, x_M_cuts, hn, e3, hm, show ¬ (m : Int) < (m : Int) by omega, e1]
  rfl
theorem k_cuts {S : am_S} (hE : SE E) (hS : OKS S) (p c w : Int) : BOTH E S (fun u => Rn m_A_cuts 0 [vR (some 0), vI p, vI c, vI w, vB false, vB false, vB false] [] E u) (fun u => Rn m_M_cuts 0 [vR (some 149), vI p, vI c, vI w, vB false, vB false, vB false] [] E u) := by
  have cu1 := cuB_1
  by_cases hp : 0 ≤ p ∧ p < S.1 2
  case neg => exact ⟨-1, S, hS, CA_id fun u hu => by simp (disch := first | assumption | omega) only [↓reduceIte, Int.reduceEq, Int.reduceLT, bdI_s, bdV_s, bdR_s, bdL_s, fx_I, fx_R, fx_B, fx_L, w32_of, x_A_cuts, c_isPinF (hu.cu hS)], MA_id fun u hu => by simp (disch := first | assumption | omega) only [↓reduceIte, Int.reduceEq, Int.reduceLT, bdI_s, bdV_s, bdR_s, bdL_s, fx_I, fx_R, fx_B, fx_L, w32_of, x_M_cuts, m_isPinF (hu.mu hS)]⟩
  by_cases hc : 0 ≤ c ∧ c < s_cells S.1
  case neg => exact ⟨-1, S, hS, CA_id fun u hu => by simp (disch := first | assumption | omega) only [↓reduceIte, Int.reduceEq, Int.reduceLT, bdI_s, bdV_s, bdR_s, bdL_s, fx_I, fx_R, fx_B, fx_L, w32_of, x_A_cuts, c_isPinT (hu.cu hS), c_isCellF (hu.cu hS)], MA_id fun u hu => by simp (disch := first | assumption | omega) only [↓reduceIte, Int.reduceEq, Int.reduceLT, bdI_s, bdV_s, bdR_s, bdL_s, fx_I, fx_R, fx_B, fx_L, w32_of, x_M_cuts, m_isPinT (hu.mu hS), m_isCellF (hu.mu hS)]⟩
  by_cases hw : 0 ≤ w ∧ w ≤ 1
  case neg => exact ⟨-1, S, hS, CA_id fun u hu => by simp (disch := first | assumption | omega) only [↓reduceIte, Int.reduceEq, Int.reduceLT, bdI_s, bdV_s, bdR_s, bdL_s, fx_I, fx_R, fx_B, fx_L, w32_of, x_A_cuts, c_isPinT (hu.cu hS), c_isCellT (hu.cu hS), r_isInF], MA_id fun u hu => by simp (disch := first | assumption | omega) only [↓reduceIte, Int.reduceEq, Int.reduceLT, bdI_s, bdV_s, bdR_s, bdL_s, fx_I, fx_R, fx_B, fx_L, w32_of, x_M_cuts, m_isPinT (hu.mu hS), m_isCellT (hu.mu hS), m_inF]⟩
  exact ⟨_, S, hS, CA_tr fun u hu => c_cutsT hE hS hp hc hw hu, MA_tr fun u hu => ⟨u_as u S.1, m_cutsT hE hS hp hc hw hu, fun i hi => u_as_ne hi⟩⟩

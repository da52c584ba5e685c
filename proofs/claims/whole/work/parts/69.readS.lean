/-! Both sides read a text. -/
variable {E : am_E} {u : am_M} {k : Nat} {n : am_Row} {T : List Int}
theorem c_tellsS (hE : SE E) (hT : OKt T) (h : CSt u T) (n : am_Row) : c_told E u (p_tells T n) (Rn m_T_tells 0 [vR (some 138), vR (some 8), vB false, vB false, vB false] [] E u) T := by
  have tp : TP (am_up u 138 2 ((0 : Nat) : Int)) T 0 := ⟨⟨by rw [up_nj (by omega)]; exact h.1, fun i c hc => by rw [up_fn (by omega)]; exact h.2 i c hc⟩, up_eq⟩
  have hz : am_up u 138 2 0 = am_up u 138 2 ((0 : Nat) : Int) := rfl
  obtain ⟨u', a, b, c, d, e, f⟩ := c_tells hE hT tp n
  refine ⟨u', ?_, b, fun i i0 i1 => by rw [c i i0 i1, up_fn i1], fun j hj => by rw [d j hj, up_nj hj], by rw [e, up_fn (by omega)], f⟩
  rw [← a, ← hz]
  simp (disch := assumption) only [↓reduceIte, Int.reduceEq, Int.reduceLT, bdI_s, bdV_s, bdR_s, bdL_s, fx_I, fx_R, fx_B, fx_L, x_T_tells, up_up]
theorem tp_nil {P : Prop} {i : Nat} {c : Int} (hc : ([] : List Int)[i]? = some c) : P := by simp at hc
def S_typed (S : am_S) : am_S := (S.1, S.2.1, S.2.2.1, [], S.2.2.2.2)
theorem OKt_nil : OKt [] := ⟨by show 0 ≤ 120; omega, fun i c hc => tp_nil hc⟩
theorem OKS_typed {S : am_S} (h : OKS S) : OKS (S_typed S) := ⟨h.1, h.2.1, h.2.2.1, OKt_nil, h.2.2.2.2⟩
theorem CS_typed {S : am_S} {u' : am_M} (h : CS E u S) (f : ∀ i, (i < 8 ∨ 15 ≤ i) → i ≠ 138 → u' i = u i) : CS E (am_up u' 138 1 0) (S_typed S) := by
  obtain ⟨a, b, c, d, e, g⟩ := h
  have f' : ∀ i, (i < 8 ∨ 15 ≤ i) → i ≠ 138 → (am_up u' 138 1 0) i = u i := fun i i0 i1 => by rw [up_fn i1, f i i0 i1]
  exact ⟨a, RC_congr (fun z z0 z1 => f' z (by omega) (by omega)) b, HR_congr (fun z z0 z1 => f' z (by omega) (by omega)) c, CSi_congr (by rw [f' 0 (by omega) (by omega)]) (fun i i0 i1 => f' i (by omega) (by omega)) d, ⟨up_eq, fun i c hc => tp_nil hc⟩, CSs_congr (fun i i0 i1 => f' i (by omega) (by omega)) g⟩
theorem MS_typed {S : am_S} {q f : Int} {r o : am_Row} (h : MS E u S) : MS E (am_up (ZS u q f r o) 149 2 0) (S_typed S) := by
  obtain ⟨a, b, c, d, e, g⟩ := h
  have f9 : ∀ j, j ≠ 2 → j ≠ 3 → j ≠ 4 → (am_up (ZS u q f r o) 149 2 0) 149 j = u 149 j := fun j j2 j3 j4 => by rw [up_nj j2, zr_9 j3 j4]
  have fi : ∀ i, i ≠ 149 → i ≠ 152 → i ≠ 153 → (am_up (ZS u q f r o) 149 2 0) i = u i := fun i i0 i1 i2 => by rw [up_fn i0, zr_i i0 i1 i2]
  exact ⟨a, by rw [fi 150 (by omega) (by omega) (by omega)]; exact b, HM_congr (f9 8 (by omega) (by omega) (by omega)) (fi 154 (by omega) (by omega) (by omega)) c, MSi_congr (f9 12 (by omega) (by omega) (by omega)) (f9 11 (by omega) (by omega) (by omega)) (fi 156 (by omega) (by omega) (by omega)) d, ⟨up_eq, fun i c hc => tp_nil hc⟩, MSs_congr (fi 157 (by omega) (by omega) (by omega)) (fi 158 (by omega) (by omega) (by omega)) (fi 159 (by omega) (by omega) (by omega)) g⟩
theorem k_read {S : am_S} (hE : SE E) (hS : OKS S) : BOTH E S (fun u => Rn m_A_read 0 [vR (some 0), vB false, vB false] [] E u) (fun u => Rn m_M_read 0 [vR (some 149), vB false] [] E u) := by
  have hT := hS.2.2.2.1
  have cu8 := cuB_8
  have z1 : ¬ (1 : Int) = 0 := by decide
  have kp := kept_tells hT S.1
  cases hz : (p_tells S.2.2.2.1 S.1).1 with
  | false =>
    refine ⟨w32 (-20 - (((p_tells S.2.2.2.1 S.1).2.1 : Nat) : Int)), S_typed S, OKS_typed hS, fun u hu => ?_, fun u hu => ?_⟩
    · obtain ⟨u', a, b, c, d, e, f⟩ := c_tellsS hE hT hu.2.2.2.2.1 S.1
      rw [hz, bI_f] at a
      have b2 := b.2
      refine ⟨am_up u' 138 1 0, ?_, CS_typed hu c, fun i hi => by rw [up_fn (by omega), c i (by omega) (by omega)]⟩
      simp (disch := assumption) only [↓reduceIte, Int.reduceEq, Int.reduceLT, bdI_s, bdV_s, bdR_s, bdL_s, fx_I, fx_R, fx_B, fx_L, x_A_read, a, b2]
    · obtain ⟨r', o', a, b⟩ := m_tells (u := u) hE hT hu.2.2.2.2.1 S.1
      rw [hz] at a
      have a' : Rn m_M_read 0 [vR (some 149), vB false] [] E u = Rn m_M_read 152 [vR (some 149), vI 49] [] E (ZS u (((p_tells S.2.2.2.1 S.1).2.1 : Nat) : Int) 1 r' o') := a
      refine ⟨am_up (ZS u (((p_tells S.2.2.2.1 S.1).2.1 : Nat) : Int) 1 r' o') 149 2 0, ?_, MS_typed hu, fun i hi => by rw [up_fn (by omega), zr_i (by omega) (by omega) (by omega)]⟩
      show Rn m_M_read 0 [vR (some 149), vB false] [] E u = some (some (vI (w32 (-20 - (((p_tells S.2.2.2.1 S.1).2.1 : Nat) : Int)))), E, am_up (ZS u (((p_tells S.2.2.2.1 S.1).2.1 : Nat) : Int) 1 r' o') 149 2 0)
      have g4 : (am_up (ZS u (((p_tells S.2.2.2.1 S.1).2.1 : Nat) : Int) 1 r' o') 149 2 0) 149 4 = 1 := by rw [up_nj (by omega), zr_4]
      have g3 : (am_up (ZS u (((p_tells S.2.2.2.1 S.1).2.1 : Nat) : Int) 1 r' o') 149 2 0) 149 3 = (((p_tells S.2.2.2.1 S.1).2.1 : Nat) : Int) := by rw [up_nj (by omega), zr_3]
      rw [a']
      simp (disch := assumption) only [↓reduceIte, Int.reduceEq, Int.reduceLT, bdI_s, bdV_s, bdR_s, bdL_s, fx_I, fx_R, fx_B, fx_L, x_M_read_0, x_M_read_1, g4, z1, g3]
  | true =>
    obtain ⟨kp, zV⟩ := kp hz
    generalize hZ : p_tells S.2.2.2.1 S.1 = z at *
    have z4 : z.2.2 4 = 0 := kp.1.1
    have z5 : z.2.2 5 = S.1 5 := kp.1.2.1
    have zW : Wn z.2.2 := ⟨zV, by rw [z4]; decide, by rw [z5]; exact hS.1.2.2.1, fun j hj => by
      rw [kp.2.1 j hj]
      unfold s_fresh
      rw [if_neg (by omega), if_neg (by omega), if_neg (by omega), if_neg (by omega)]
      exact hS.1.2.2.2 j hj⟩
    refine ⟨z.2.2 2, (z.2.2, [], (S_typed S).2.2), OKS_now (OKS_typed hS) zW (WH_nil _) (by show 0 ≤ 8; omega), fun u hu => ?_, fun u hu => ?_⟩
    · obtain ⟨u', a, b, c, d, e, f⟩ := c_tellsS hE hT hu.2.2.2.2.1 S.1
      rw [hZ] at a b f
      rw [hz, bI_t] at a
      have tc := f hz
      have w1 := CS_typed hu c
      have h15 : (am_up u' 138 1 0) 1 5 = S.1 5 := by rw [up_fn (by omega), c 1 (by omega) (by omega)]; exact hu.2.1.2.2.2.2.2.1
      have w2 : CS E (am_up (am_up u' 138 1 0) 8 5 (S.1 5)) (S_typed S) := CS_congr (fun i _ hi => up_fn (by omega)) w1
      have rc : RC (am_up (am_up u' 138 1 0) 8 5 (S.1 5)) 8 z.2.2 := by
        have t := RC_day (v := S.1 5) (RC_congr (u' := am_up u' 138 1 0) (fun y y0 y1 => up_fn (by omega)) tc.1.2.2.1) (Or.inr rfl)
        have e : s_up (s_up z.2.2 5 (u' 8 5)) 5 (S.1 5) = z.2.2 := by
          funext x
          unfold s_up
          by_cases x5 : x = 5
          · rw [if_pos x5, x5, z5]
          · rw [if_neg x5, if_neg x5]
        rw [e] at t
        exact t
      obtain ⟨u3, e3, c3, f3⟩ := c_becomes hE cuB_1 cuB_8 (by omega) rc zV
      have h2 : (am_up u3 15 2 0) 1 2 = z.2.2 2 := by rw [up_fn (by omega)]; exact c3.2.2.1.2.2.1
      refine ⟨am_up u3 15 2 0, ?_, CS_forget w2 c3.2.2.1 f3, (LO.tr (v := am_up (am_up u' 138 1 0) 8 5 (S.1 5)) (fun i hi => by rw [up_fn (by omega), up_fn (by omega), c i (by omega) (by omega)]) (LO_forget f3))⟩
      simp (disch := assumption) only [↓reduceIte, Int.reduceEq, Int.reduceLT, bdI_s, bdV_s, bdR_s, bdL_s, fx_I, fx_R, fx_B, fx_L, x_A_read, a, z1, h15, e3, p_forgets hE paB_15, h2]
    · obtain ⟨r', o', a, b⟩ := m_tells (u := u) hE hT hu.2.2.2.2.1 S.1
      rw [hZ, hz] at a
      rw [hZ] at b
      obtain ⟨pr, -⟩ := b hz
      have a' : Rn m_M_read 0 [vR (some 149), vB false] [] E u = Rn m_M_read 152 [vR (some 149), vI 49] [] E (ZS u ((z.2.1 : Nat) : Int) 0 r' o') := a
      have g4 : (am_up (ZS u ((z.2.1 : Nat) : Int) 0 r' o') 149 2 0) 149 4 = 0 := by rw [up_nj (by omega), zr_4]
      have w1 : MS E (am_up (ZS u ((z.2.1 : Nat) : Int) 0 r' o') 149 2 0) (S_typed S) := MS_typed hu
      have st := m_setsR (u := am_up (ZS u ((z.2.1 : Nat) : Int) 0 r' o') 149 2 0) (n := S.1) (z := z.2.2) (r := r') (o := o') hE pr zV kp w1.2.1 (by rw [up_fn (by omega), zr_r]) (by rw [up_fn (by omega), zr_o])
      refine ⟨AS (am_up (ZS u ((z.2.1 : Nat) : Int) 0 r' o') 149 2 0) z.2.2, ?_, MS_forget w1 _, fun i hi => by rw [as_i (by omega) (by omega), up_fn (by omega), zr_i (by omega) (by omega) (by omega)]⟩
      show Rn m_M_read 0 [vR (some 149), vB false] [] E u = _
      rw [a', ← st]
      simp (disch := assumption) only [↓reduceIte, Int.reduceEq, Int.reduceLT, bdI_s, bdV_s, bdR_s, bdL_s, fx_I, fx_R, fx_B, fx_L, x_M_read_0, x_M_read_1, g4]

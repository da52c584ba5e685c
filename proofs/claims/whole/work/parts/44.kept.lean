/-! Calls: undo, seed, images; what is asked of now. -/
variable {E : am_E} {u : am_M} {k : Nat} {n : am_Row}
theorem ls_end {α : Type} (l : List α) : l = [] ∨ ∃ a b, l = a ++ [b] := by
  induction l with
  | nil => exact Or.inl rfl
  | cons x l ih =>
    right
    rcases ih with ih | ⟨a, b, ih⟩
    · exact ⟨[], x, by rw [ih]; rfl⟩
    · exact ⟨x :: a, b, by rw [ih]; rfl⟩
theorem HN_pre {a o : Nat} {H : List am_Row} {r : am_Row} (h : HN u a o (H ++ [r])) : HN u a o H := fun i q hq x hx => h i q (by rw [List.getElem?_append_left (List.getElem?_eq_some_iff.mp hq).1]; exact hq) x hx
theorem k_undo {S : am_S} (hE : SE E) (hS : OKS S) : BOTH E S (fun u => Rn m_A_undo 0 [vR (some 0)] [] E u) (fun u => Rn m_M_undo 0 [vR (some 149), vB false, vB false] [] E u) := by
  have cu1 := cuB_1
  have p15 := paB_15
  obtain ⟨n, H, R⟩ := S
  rcases ls_end H with rfl | ⟨H0, r, rfl⟩
  · refine ⟨-4, (n, [], R), hS, CA_id fun u hu => ?_, MA_id fun u hu => ?_⟩
    · simp (disch := first | assumption | omega) only [↓reduceIte, Int.reduceEq, Int.reduceLT, bdI_s, bdV_s, bdR_s, bdL_s, fx_I, fx_R, fx_B, fx_L, w32_of, x_A_undo, p_givesNone hE hu.2.2.1]
    · exact m_undoNone hE (by have := hu.2.2.1.1; exact this)
  · obtain ⟨hr, hs⟩ := hS.2.1.1 H0.length r (by show (H0 ++ [r])[H0.length]? = some r; rw [List.getElem?_append_right (by omega), Nat.sub_self]; rfl)
    have hl : H0.length ≤ 8 := by
      have := hS.2.1.2
      simp at this
      omega
    have hW : WH r H0 := fun i q hq => by
      obtain ⟨a, b⟩ := hS.2.1.1 i q (by show (H0 ++ [r])[i]? = some q; rw [List.getElem?_append_left (List.getElem?_eq_some_iff.mp hq).1]; exact hq)
      exact ⟨a, hs.sy.tr b⟩
    refine ⟨(H0.length : Int), (r, H0, R), OKS_now hS hr hW hl, fun u hu => ?_, fun u hu => ?_⟩
    · obtain ⟨u1, e1, h1, r1, f1⟩ := p_givesBack (u := u) hE hu.2.2.1 hr.1
      refine ⟨u1, ?_, CS_now hu (f1 0 (by omega) (by omega)) (fun i i0 i1 => f1 i (by omega) (by omega)) r1 h1, fun i hi => f1 i (by omega) (by omega)⟩
      have e2 : u1 15 2 = (H0.length : Int) := h1.1
      simp (disch := first | assumption | omega) only [↓reduceIte, Int.reduceEq, Int.reduceLT, bdI_s, bdV_s, bdR_s, bdL_s, fx_I, fx_R, fx_B, fx_L, w32_of, x_A_undo, e1, e2]
    · have hm := hu.2.2.1
      refine ⟨_, m_undo hE hu.2.1 hm hs, MS_now hu (fun i i0 i1 i2 => by rw [aS_ne _ _ (by omega), up_fn (by omega)]) (fun j hj => by rw [aS_ne _ _ (by omega), up_nj hj]) (aS_eq _ _ _) ⟨by rw [aS_ne _ _ (by omega), up_eq], hl, HN_congr (by rw [aS_ne _ _ (by omega), up_fn (by omega)]) (HN_pre hm.2.2)⟩, (HI_up (by omega)).tr (HI_aS (by omega))⟩
theorem k_seed {S : am_S} (hE : SE E) (hS : OKS S) {v : Int} (hv : v ≤ 2147483647) : BOTH E S (fun u => Rn m_A_seed 0 [vR (some 0), vI v, vB false] [] E u) (fun u => Rn m_M_seed 0 [vR (some 149), vI v, vB false] [] E u) := by
  have cu1 := cuB_1
  have e5 : (5 : Int).toNat = 5 := rfl
  by_cases h : v < 0
  · exact ⟨-1, S, hS, CA_id fun u hu => by simp (disch := first | assumption | omega) only [↓reduceIte, Int.reduceEq, Int.reduceLT, bdI_s, bdV_s, bdR_s, bdL_s, fx_I, fx_R, fx_B, fx_L, w32_of, x_A_seed, h], MA_id fun u hu => by simp (disch := first | assumption | omega) only [↓reduceIte, Int.reduceEq, Int.reduceLT, bdI_s, bdV_s, bdR_s, bdL_s, fx_I, fx_R, fx_B, fx_L, w32_of, x_M_seed, h]⟩
  have hV := Vn_draw hS.1.1 v
  have hW : Wn (s_up S.1 5 v) := ⟨hV, by rw [su_ne (by omega)]; exact hS.1.2.1, by rw [su_eq]; omega, Zn_up hS.1.2.2.2 (by omega)⟩
  have hH : WH (s_up S.1 5 v) S.2.1 := fun i r hr => by
    obtain ⟨a, b⟩ := hS.2.1.1 i r hr
    exact ⟨a, (s_same_up un_5).tr b⟩
  refine ⟨S.1 5, (s_up S.1 5 v, S.2.1, S.2.2), OKS_now hS hW hH hS.2.1.2, fun u hu => ?_, fun u hu => ?_⟩
  · have hu5 := hu.2.1.2.2.2.2.2.1
    refine ⟨am_up u 1 5 v, ?_, CS_now hu (up_fn (by omega)) (fun i i0 i1 => up_fn (by omega)) (RC_day hu.2.1 (Or.inr rfl)) (HR_congr (fun z z0 z1 => up_fn (by omega)) hu.2.2.1), LO_up (by omega)⟩
    simp (disch := first | assumption | omega) only [↓reduceIte, Int.reduceEq, Int.reduceLT, bdI_s, bdV_s, bdR_s, bdL_s, fx_I, fx_R, fx_B, fx_L, w32_of, x_A_seed, h, hu5]
  · have al := (al_m hE).1
    have hn := hu.2.1
    refine ⟨sN u (s_up S.1 5 v), ?_, MS_now hu (fun i i0 i1 i2 => sN_ne _ _ (by omega)) (fun j hj => by rw [sN_ne _ _ (by omega)]) (sN_150 _ _) (HM_congr (by rw [sN_ne _ _ (by omega)]) (sN_ne _ _ (by omega)) hu.2.2.1), HI_sN⟩
    simp (disch := first | assumption | omega) only [↓reduceIte, Int.reduceEq, Int.reduceLT, bdI_s, bdV_s, bdR_s, bdL_s, fx_I, fx_R, fx_B, fx_L, w32_of, x_M_seed, h, hn, e5, sN_up]
theorem k_image {S : am_S} (hE : SE E) (hS : OKS S) : BOTH E S (fun u => Rn m_A_image 0 [vR (some 0)] [] E u) (fun u => Rn m_M_image 0 [vR (some 149), vB false] [] E u) := by
  have cu1 := cuB_1
  have cu73 := cuB_73
  have p15 := paB_15
  have p80 := paB_80
  obtain ⟨n, H, o, T, F⟩ := S
  have hOK : OKS (n, H, some (n, H), T, F) := ⟨hS.1, hS.2.1, fun m J hmJ => by cases hmJ; exact ⟨hS.1, hS.2.1.1, hS.2.1.2⟩, hS.2.2.2⟩
  refine ⟨1, (n, H, some (n, H), T, F), hOK, fun u hu => ?_, fun u hu => ?_⟩
  · obtain ⟨a, b, c, d, e, f⟩ := hu
    obtain ⟨u1, e1, h1, f1⟩ := c_becomes (u := u) (k := 73) (j := 1) hE cuB_73 cuB_1 (by omega) b hS.1.1
    have c1 : HR u1 15 H := HR_congr (fun z z0 z1 => f1 z (by omega)) c
    obtain ⟨u2, e2, h2, f2⟩ := p_becomes (u := u1) (p := 80) (q := 15) hE paB_80 paB_15 (by omega) c1 (fun i r hr => (hS.2.1.1 i r hr).1.1)
    have g : ∀ i, i ≠ 0 → (i < 73 ∨ 138 ≤ i) → am_up u2 0 7 1 i = u i := fun i i0 hi => by rw [up_fn (by omega), f2 i (by omega), f1 i (by omega)]
    refine ⟨am_up u2 0 7 1, ?_, ⟨a, RC_congr (fun z z0 z1 => g z (by omega) (by omega)) b, HR_congr (fun z z0 z1 => g z (by omega) (by omega)) c, Or.inr ⟨n, H, rfl, up_eq, RC_congr (fun z z0 z1 => by rw [up_fn (by omega), f2 z (by omega)]) h1.2.2.1, HR_congr (fun z z0 z1 => up_fn (by omega)) h2⟩, CSt_congr (by rw [g 138 (by omega) (by omega)]) (g 139 (by omega) (by omega)) e, CSs_congr (fun i i0 i1 => g i (by omega) (by omega)) f⟩, fun i hi => g i (by omega) (by omega)⟩
    have z1 : (1 : Int) = 0 ∨ (1 : Int) = 1 := Or.inr rfl
    simp (disch := first | assumption | omega) only [↓reduceIte, Int.reduceEq, Int.reduceLT, bdI_s, bdV_s, bdR_s, bdL_s, fx_I, fx_R, fx_B, fx_L, w32_of, x_A_image, e1, e2]
  · obtain ⟨a, b, c, d, e, f⟩ := hu
    obtain ⟨u1, e1, g1, g2, g3, g4, g5, g6⟩ := m_image (u := u) hE b
    refine ⟨u1, e1, ⟨a, by rw [g5 150 (by omega) (by omega)]; exact b, HM_congr (g6 8 (by omega) (by omega)) (g5 154 (by omega) (by omega)) c, Or.inr ⟨n, H, rfl, g4, g1, by rw [g3]; exact c.1, fun i r hr x hx => ?_⟩, MSt_congr (g6 2 (by omega) (by omega)) (g5 151 (by omega) (by omega)) e, MSs_congr (g5 157 (by omega) (by omega)) (g5 158 (by omega) (by omega)) (g5 159 (by omega) (by omega)) f⟩, fun i hi => g5 i (by omega) (by omega)⟩
    have hi : i < H.length := (List.getElem?_eq_some_iff.mp hr).1
    have h8 : H.length ≤ 8 := hS.2.1.2
    rw [show 100 + 71 * i + x = 100 + (0 + 71 * i + x) by omega, g2 _ (by omega)]
    exact c.2.2 i r hr x hx
theorem k_restore {S : am_S} (hE : SE E) (hS : OKS S) : BOTH E S (fun u => Rn m_A_restore 0 [vR (some 0)] [] E u) (fun u => Rn m_M_restore 0 [vR (some 149), vB false] [] E u) := by
  have cu1 := cuB_1
  have cu73 := cuB_73
  have p15 := paB_15
  have p80 := paB_80
  obtain ⟨n, H, o, T, F⟩ := S
  cases o with
  | none =>
    refine ⟨-4, (n, H, none, T, F), hS, CA_id fun u hu => ?_, MA_id fun u hu => ?_⟩
    · rcases hu.2.2.2.1 with ⟨-, q⟩ | ⟨m, J, q, -⟩
      · simp (disch := first | assumption | omega) only [↓reduceIte, Int.reduceEq, Int.reduceLT, bdI_s, bdV_s, bdR_s, bdL_s, fx_I, fx_R, fx_B, fx_L, w32_of, x_A_restore, q]
      · cases q
    · rcases hu.2.2.2.1 with ⟨-, q⟩ | ⟨m, J, q, -⟩
      · exact m_restoreNone hE q
      · cases q
  | some mJ =>
    obtain ⟨m, J⟩ := mJ
    obtain ⟨wm, wJ, l8⟩ := hS.2.2.1 m J rfl
    refine ⟨1, (m, J, some (m, J), T, F), ⟨wm, ⟨wJ, l8⟩, hS.2.2⟩, fun u hu => ?_, fun u hu => ?_⟩
    · obtain ⟨a, b, c, d, e, f⟩ := hu
      rcases d with ⟨q, -⟩ | ⟨m', J', q, d7, dR, dH⟩
      · cases q
      cases q
      obtain ⟨u1, e1, h1, f1⟩ := c_becomes (u := u) (k := 1) (j := 73) hE cuB_1 cuB_73 (by omega) dR wm.1
      have c1 : HR u1 80 J := HR_congr (fun z z0 z1 => f1 z (by omega)) dH
      obtain ⟨u2, e2, h2, f2⟩ := p_becomes (u := u1) (p := 15) (q := 80) hE paB_15 paB_80 (by omega) c1 (fun i r hr => (wJ i r hr).1.1)
      have g : ∀ i, (i = 0 ∨ 73 ≤ i) → u2 i = u i := fun i hi => by rw [f2 i (by omega), f1 i (by omega)]
      refine ⟨u2, ?_, ⟨a, RC_congr (fun z z0 z1 => f2 z (by omega)) h1.2.2.1, h2, CSi_congr (by rw [g 0 (by omega)]) (fun i i0 i1 => g i (by omega)) (Or.inr ⟨m, J, rfl, d7, dR, dH⟩), CSt_congr (by rw [g 138 (by omega)]) (g 139 (by omega)) e, CSs_congr (fun i i0 i1 => g i (by omega)) f⟩, fun i hi => g i (by omega)⟩
      simp (disch := first | assumption | omega) only [↓reduceIte, Int.reduceEq, Int.reduceLT, bdI_s, bdV_s, bdR_s, bdL_s, fx_I, fx_R, fx_B, fx_L, w32_of, x_A_restore, d7, e1, e2]
    · obtain ⟨a, b, c, d, e, f⟩ := hu
      rcases d with ⟨q, -⟩ | ⟨m', J', q, d12, dr, d11, dH⟩
      · cases q
      cases q
      obtain ⟨u1, e1, g1, g2, g3, g4, g5⟩ := m_restore (u := u) hE d12 (by rw [b]; exact hS.1.2.2.2) wm.2.2.2 dr
      refine ⟨u1, e1, ⟨a, g1, ⟨by rw [g3]; exact d11, l8, fun i r hr x hx => ?_⟩, MSi_congr (g5 12 (by omega)) (g5 11 (by omega)) (g4 156 (by omega) (by omega) (by omega)) (Or.inr ⟨m, J, rfl, d12, dr, d11, dH⟩), MSt_congr (g5 2 (by omega)) (g4 151 (by omega) (by omega) (by omega)) e, MSs_congr (g4 157 (by omega) (by omega) (by omega)) (g4 158 (by omega) (by omega) (by omega)) (g4 159 (by omega) (by omega) (by omega)) f⟩, fun i hi => g4 i (by omega) (by omega) (by omega)⟩
      have hi : i < J.length := (List.getElem?_eq_some_iff.mp hr).1
      rw [g2 _ (by omega), show 100 + (0 + 71 * i + x) = 100 + 71 * i + x by omega]
      exact dH i r hr x hx
theorem c_waysOut (h : CU E u k n) {p : Int} (p0 : 0 ≤ p) (p1 : p < n 2) (hp : s_C n p = -4) : Rn m_C_waysOf 0 [vR (some k), vI p, vB false, vB false] [] E u = some (some (vI 0), E, u) := by
  have h' := h
  obtain ⟨hE, hk, hR, hV⟩ := h
  have h2 := hV.2.2.1
  have q2 := (hR.2.2.2.2.2.2.2.2.1 p p0 p1).2.1
  have hb : ∀ v : Int, Rn m_C_beside 0 [vR (some k), vI (-4), vI v, vB false] [] E u = some (some (vI (-4)), E, u) := fun v => by
    have q := c_isCellF h' (p := -4) (by omega)
    simp (disch := first | assumption | omega) only [↓reduceIte, Int.reduceEq, Int.reduceLT, bdI_s, bdV_s, bdR_s, bdL_s, fx_I, fx_R, fx_B, fx_L, w32_of, x_C_beside, q]
  have hm := c_mayGo h' p0 p1 (c := -4) (Or.inl rfl)
  have em : s_mayGo n p (-4) = false := rfl
  rw [em, bI_f] at hm
  have lk : Rn m_A_look 0 [vR (some (k + 2)), vI p] [] E u = some (some (vI (-4)), E, u) := by
    rw [r_look7 hE hk (j := 2) (by decide) p0 (by omega), q2, hp]
  let f : Nat → am_Z := fun i => Rn m_C_waysOf 4 [vR (some k), vI p, vI 0, vI (i : Int)] [] E u
  have start : Rn m_C_waysOf 0 [vR (some k), vI p, vB false, vB false] [] E u = f 0 := by
    simp (disch := first | assumption | omega) only [↓reduceIte, Int.reduceEq, Int.reduceLT, bdI_s, bdV_s, bdR_s, bdL_s, fx_I, fx_R, fx_B, fx_L, w32_of, x_C_waysOf]
    rfl
  have step : ∀ i, i < 4 → f i = f (i + 1) := by
    intro i hi
    simp only [f]
    rw [h_C_waysOf_4]
    simp (disch := first | assumption | omega) only [↓reduceIte, Int.reduceEq, Int.reduceLT, bdI_s, bdV_s, bdR_s, bdL_s, fx_I, fx_R, fx_B, fx_L, w32_of, x_C_waysOf, show (i : Int) < 4 by omega, lk, hb, hm]
    rfl
  rw [start, q_loop f 4 step]
  simp only [f]
  rw [h_C_waysOf_4]
  simp (disch := first | assumption | omega) only [↓reduceIte, Int.reduceEq, Int.reduceLT, bdI_s, bdV_s, bdR_s, bdL_s, fx_I, fx_R, fx_B, fx_L, w32_of, x_C_waysOf, show ¬ ((4 : Nat) : Int) < 4 by omega]
theorem k_of {S : am_S} (hE : SE E) (hS : OKS S) (p w : Int) : BOTH E S (fun u => Rn m_A_of 0 [vR (some 0), vI p, vI w] [] E u) (fun u => Rn m_M_of 0 [vR (some 149), vI p, vI w] [] E u) := by
  have cu1 := cuB_1
  have hV := hS.1.1
  have h2 := hV.2.2.1
  by_cases hp : 0 ≤ p ∧ p < S.1 2
  case neg => exact ⟨-1, S, hS, CA_id fun u hu => by simp (disch := first | assumption | omega) only [↓reduceIte, Int.reduceEq, Int.reduceLT, bdI_s, bdV_s, bdR_s, bdL_s, fx_I, fx_R, fx_B, fx_L, w32_of, x_A_of, c_isPinF (hu.cu hS)], MA_id fun u hu => by simp (disch := first | assumption | omega) only [↓reduceIte, Int.reduceEq, Int.reduceLT, bdI_s, bdV_s, bdR_s, bdL_s, fx_I, fx_R, fx_B, fx_L, w32_of, x_M_of, m_isPinF (hu.mu hS)]⟩
  by_cases hw : 0 ≤ w ∧ w ≤ 3
  case neg => exact ⟨-1, S, hS, CA_id fun u hu => by simp (disch := first | assumption | omega) only [↓reduceIte, Int.reduceEq, Int.reduceLT, bdI_s, bdV_s, bdR_s, bdL_s, fx_I, fx_R, fx_B, fx_L, w32_of, x_A_of, c_isPinT (hu.cu hS), show ¬ w = 0 by omega, show ¬ w = 1 by omega, show ¬ w = 2 by omega, show ¬ w = 3 by omega], MA_id fun u hu => by simp (disch := first | assumption | omega) only [↓reduceIte, Int.reduceEq, Int.reduceLT, bdI_s, bdV_s, bdR_s, bdL_s, fx_I, fx_R, fx_B, fx_L, w32_of, x_M_of, m_isPinT (hu.mu hS), m_inF]⟩
  have e : w = 0 ∨ w = 1 ∨ w = 2 ∨ w = 3 := by omega
  rcases e with rfl | rfl | rfl | rfl
  · refine ⟨s_K S.1 p, S, hS, CA_id fun u hu => ?_, MA_id fun u hu => ?_⟩
    · have lk := r_look7 (u := u) hE cuB_1 (j := 1) (by decide) hp.1 (show p < 7 by omega)
      rw [(hu.2.1.2.2.2.2.2.2.2.2.1 p hp.1 hp.2).1] at lk
      simp (disch := first | assumption | omega) only [↓reduceIte, Int.reduceEq, Int.reduceLT, bdI_s, bdV_s, bdR_s, bdL_s, fx_I, fx_R, fx_B, fx_L, w32_of, x_A_of, c_isPinT (hu.cu hS), lk]
    · have q := m_K hE hu.2.1 hp.1 (show p < 7 by omega)
      simp (disch := first | assumption | omega) only [↓reduceIte, Int.reduceEq, Int.reduceLT, bdI_s, bdV_s, bdR_s, bdL_s, fx_I, fx_R, fx_B, fx_L, w32_of, x_M_of, m_isPinT (hu.mu hS), m_inT, q]
  · refine ⟨s_C S.1 p, S, hS, CA_id fun u hu => ?_, MA_id fun u hu => ?_⟩
    · have lk := r_look7 (u := u) hE cuB_1 (j := 2) (by decide) hp.1 (show p < 7 by omega)
      rw [(hu.2.1.2.2.2.2.2.2.2.2.1 p hp.1 hp.2).2.1] at lk
      simp (disch := first | assumption | omega) only [↓reduceIte, Int.reduceEq, Int.reduceLT, bdI_s, bdV_s, bdR_s, bdL_s, fx_I, fx_R, fx_B, fx_L, w32_of, x_A_of, c_isPinT (hu.cu hS), lk]
    · have q := m_Cc hE hu.2.1 hp.1 (show p < 7 by omega)
      simp (disch := first | assumption | omega) only [↓reduceIte, Int.reduceEq, Int.reduceLT, bdI_s, bdV_s, bdR_s, bdL_s, fx_I, fx_R, fx_B, fx_L, w32_of, x_M_of, m_isPinT (hu.mu hS), m_inT, q]
  · refine ⟨s_V S.1 p, S, hS, CA_id fun u hu => ?_, MA_id fun u hu => ?_⟩
    · have lk := r_look7 (u := u) hE cuB_1 (j := 3) (by decide) hp.1 (show p < 7 by omega)
      rw [(hu.2.1.2.2.2.2.2.2.2.2.1 p hp.1 hp.2).2.2] at lk
      simp (disch := first | assumption | omega) only [↓reduceIte, Int.reduceEq, Int.reduceLT, bdI_s, bdV_s, bdR_s, bdL_s, fx_I, fx_R, fx_B, fx_L, w32_of, x_A_of, c_isPinT (hu.cu hS), lk]
    · have q := m_V hE hu.2.1 hp.1 (show p < 7 by omega)
      simp (disch := first | assumption | omega) only [↓reduceIte, Int.reduceEq, Int.reduceLT, bdI_s, bdV_s, bdR_s, bdL_s, fx_I, fx_R, fx_B, fx_L, w32_of, x_M_of, m_isPinT (hu.mu hS), m_inT, q]
  · refine ⟨s_ways S.1 p, S, hS, CA_id fun u hu => ?_, MA_id fun u hu => ?_⟩
    · have q : Rn m_C_waysOf 0 [vR (some 1), vI p, vB false, vB false] [] E u = some (some (vI (s_ways S.1 p)), E, u) := by
        by_cases ho : s_C S.1 p = -4
        · rw [c_waysOut (hu.cu hS) hp.1 hp.2 ho]
          unfold s_ways
          rw [if_pos ho]
        · exact c_waysOf (hu.cu hS) hp.1 hp.2 ho
      simp (disch := first | assumption | omega) only [↓reduceIte, Int.reduceEq, Int.reduceLT, bdI_s, bdV_s, bdR_s, bdL_s, fx_I, fx_R, fx_B, fx_L, w32_of, x_A_of, c_isPinT (hu.cu hS), q]
    · simp (disch := first | assumption | omega) only [↓reduceIte, Int.reduceEq, Int.reduceLT, bdI_s, bdV_s, bdR_s, bdL_s, fx_I, fx_R, fx_B, fx_L, w32_of, x_M_of, m_isPinT (hu.mu hS), m_inT, m_waysOf (hu.mu hS)]
theorem k_at {S : am_S} (hE : SE E) (hS : OKS S) (t w : Int) : BOTH E S (fun u => Rn m_A_at 0 [vR (some 0), vI t, vI w] [] E u) (fun u => Rn m_M_at 0 [vR (some 149), vI t, vI w] [] E u) := by
  have cu1 := cuB_1
  have hV := hS.1.1
  have h3 := hV.2.2.2.1
  by_cases hp : 0 ≤ t ∧ t < S.1 3
  case neg => exact ⟨-1, S, hS, CA_id fun u hu => by simp (disch := first | assumption | omega) only [↓reduceIte, Int.reduceEq, Int.reduceLT, bdI_s, bdV_s, bdR_s, bdL_s, fx_I, fx_R, fx_B, fx_L, w32_of, x_A_at, c_isThreadF (hu.cu hS)], MA_id fun u hu => by simp (disch := first | assumption | omega) only [↓reduceIte, Int.reduceEq, Int.reduceLT, bdI_s, bdV_s, bdR_s, bdL_s, fx_I, fx_R, fx_B, fx_L, w32_of, x_M_at, m_isThreadF (hu.mu hS)]⟩
  by_cases hw : 0 ≤ w ∧ w ≤ 4
  case neg => exact ⟨-1, S, hS, CA_id fun u hu => by simp (disch := first | assumption | omega) only [↓reduceIte, Int.reduceEq, Int.reduceLT, bdI_s, bdV_s, bdR_s, bdL_s, fx_I, fx_R, fx_B, fx_L, w32_of, x_A_at, c_isThreadT (hu.cu hS), show ¬ w = 0 by omega, show ¬ w = 1 by omega, show ¬ w = 2 by omega, show ¬ w = 3 by omega, show ¬ w = 4 by omega], MA_id fun u hu => by simp (disch := first | assumption | omega) only [↓reduceIte, Int.reduceEq, Int.reduceLT, bdI_s, bdV_s, bdR_s, bdL_s, fx_I, fx_R, fx_B, fx_L, w32_of, x_M_at, m_isThreadT (hu.mu hS), m_inF]⟩
  have e : w = 0 ∨ w = 1 ∨ w = 2 ∨ w = 3 ∨ w = 4 := by omega
  rcases e with rfl | rfl | rfl | rfl | rfl
  · refine ⟨s_A S.1 t, S, hS, CA_id fun u hu => ?_, MA_id fun u hu => ?_⟩
    · have lk := r_look6 (u := u) hE cuB_1 (j := 4) (by decide) hp.1 (show t < 6 by omega)
      rw [(hu.2.1.2.2.2.2.2.2.2.2.2.2 t hp.1 hp.2).1] at lk
      simp (disch := first | assumption | omega) only [↓reduceIte, Int.reduceEq, Int.reduceLT, bdI_s, bdV_s, bdR_s, bdL_s, fx_I, fx_R, fx_B, fx_L, w32_of, x_A_at, c_isThreadT (hu.cu hS), lk]
    · have q := m_A hE hu.2.1 hp.1 (show t < 6 by omega)
      simp (disch := first | assumption | omega) only [↓reduceIte, Int.reduceEq, Int.reduceLT, bdI_s, bdV_s, bdR_s, bdL_s, fx_I, fx_R, fx_B, fx_L, w32_of, x_M_at, m_isThreadT (hu.mu hS), m_inT, q]
  · refine ⟨s_B S.1 t, S, hS, CA_id fun u hu => ?_, MA_id fun u hu => ?_⟩
    · have lk := r_look6 (u := u) hE cuB_1 (j := 5) (by decide) hp.1 (show t < 6 by omega)
      rw [(hu.2.1.2.2.2.2.2.2.2.2.2.2 t hp.1 hp.2).2.1] at lk
      simp (disch := first | assumption | omega) only [↓reduceIte, Int.reduceEq, Int.reduceLT, bdI_s, bdV_s, bdR_s, bdL_s, fx_I, fx_R, fx_B, fx_L, w32_of, x_A_at, c_isThreadT (hu.cu hS), lk]
    · have q := m_B hE hu.2.1 hp.1 (show t < 6 by omega)
      simp (disch := first | assumption | omega) only [↓reduceIte, Int.reduceEq, Int.reduceLT, bdI_s, bdV_s, bdR_s, bdL_s, fx_I, fx_R, fx_B, fx_L, w32_of, x_M_at, m_isThreadT (hu.mu hS), m_inT, q]
  · refine ⟨s_L S.1 t, S, hS, CA_id fun u hu => ?_, MA_id fun u hu => ?_⟩
    · have lk := r_look6 (u := u) hE cuB_1 (j := 6) (by decide) hp.1 (show t < 6 by omega)
      rw [(hu.2.1.2.2.2.2.2.2.2.2.2.2 t hp.1 hp.2).2.2] at lk
      simp (disch := first | assumption | omega) only [↓reduceIte, Int.reduceEq, Int.reduceLT, bdI_s, bdV_s, bdR_s, bdL_s, fx_I, fx_R, fx_B, fx_L, w32_of, x_A_at, c_isThreadT (hu.cu hS), lk]
    · have q := m_Ln hE hu.2.1 hp.1 (show t < 6 by omega)
      simp (disch := first | assumption | omega) only [↓reduceIte, Int.reduceEq, Int.reduceLT, bdI_s, bdV_s, bdR_s, bdL_s, fx_I, fx_R, fx_B, fx_L, w32_of, x_M_at, m_isThreadT (hu.mu hS), m_inT, q]
  · refine ⟨s_X S.1 t, S, hS, CA_id fun u hu => ?_, MA_id fun u hu => ?_⟩
    · have q := c_isCut (hu.cu hS) hp.1 hp.2
      rcases (Vn_thr hV hp.1 hp.2).2.2.2.2 with x | x <;> rw [x] at q ⊢
      · rw [decide_eq_false (by omega), bI_f] at q
        simp (disch := first | assumption | omega) only [↓reduceIte, Int.reduceEq, Int.reduceLT, bdI_s, bdV_s, bdR_s, bdL_s, fx_I, fx_R, fx_B, fx_L, w32_of, x_A_at, c_isThreadT (hu.cu hS), q]
      · rw [decide_eq_true rfl, bI_t] at q
        simp (disch := first | assumption | omega) only [↓reduceIte, Int.reduceEq, Int.reduceLT, bdI_s, bdV_s, bdR_s, bdL_s, fx_I, fx_R, fx_B, fx_L, w32_of, x_A_at, c_isThreadT (hu.cu hS), q]
    · have q := m_X hE hu.2.1 hp.1 (show t < 6 by omega)
      simp (disch := first | assumption | omega) only [↓reduceIte, Int.reduceEq, Int.reduceLT, bdI_s, bdV_s, bdR_s, bdL_s, fx_I, fx_R, fx_B, fx_L, w32_of, x_M_at, m_isThreadT (hu.mu hS), m_inT, q]
  · refine ⟨bI (s_holds S.1 t), S, hS, CA_id fun u hu => ?_, MA_id fun u hu => ?_⟩
    · have q := c_holds (hu.cu hS) hp.1 hp.2
      cases hh : s_holds S.1 t <;> rw [hh] at q
      · rw [bI_f] at q ⊢
        simp (disch := first | assumption | omega) only [↓reduceIte, Int.reduceEq, Int.reduceLT, bdI_s, bdV_s, bdR_s, bdL_s, fx_I, fx_R, fx_B, fx_L, w32_of, x_A_at, c_isThreadT (hu.cu hS), q]
      · rw [bI_t] at q ⊢
        simp (disch := first | assumption | omega) only [↓reduceIte, Int.reduceEq, Int.reduceLT, bdI_s, bdV_s, bdR_s, bdL_s, fx_I, fx_R, fx_B, fx_L, w32_of, x_A_at, c_isThreadT (hu.cu hS), q]
    · have q := m_holds (hu.mu hS) hp.1 hp.2
      cases hh : s_holds S.1 t <;> rw [hh] at q
      · rw [bI_f] at q ⊢
        simp (disch := first | assumption | omega) only [↓reduceIte, Int.reduceEq, Int.reduceLT, bdI_s, bdV_s, bdR_s, bdL_s, fx_I, fx_R, fx_B, fx_L, w32_of, x_M_at, m_isThreadT (hu.mu hS), m_inT, q]
      · rw [bI_t] at q ⊢
        simp (disch := first | assumption | omega) only [↓reduceIte, Int.reduceEq, Int.reduceLT, bdI_s, bdV_s, bdR_s, bdL_s, fx_I, fx_R, fx_B, fx_L, w32_of, x_M_at, m_isThreadT (hu.mu hS), m_inT, q]
theorem k_cell {S : am_S} (hE : SE E) (hS : OKS S) (c : Int) : BOTH E S (fun u => Rn m_A_cell 0 [vR (some 0), vI c] [] E u) (fun u => Rn m_M_cell 0 [vR (some 149), vI c] [] E u) := by
  have cu1 := cuB_1
  have hV := hS.1.1
  have hcl := s_cells_of hV
  by_cases hc : 0 ≤ c ∧ c < s_cells S.1
  case neg => exact ⟨-1, S, hS, CA_id fun u hu => by simp (disch := first | assumption | omega) only [↓reduceIte, Int.reduceEq, Int.reduceLT, bdI_s, bdV_s, bdR_s, bdL_s, fx_I, fx_R, fx_B, fx_L, w32_of, x_A_cell, c_isCellF (hu.cu hS)], MA_id fun u hu => by simp (disch := first | assumption | omega) only [↓reduceIte, Int.reduceEq, Int.reduceLT, bdI_s, bdV_s, bdR_s, bdL_s, fx_I, fx_R, fx_B, fx_L, w32_of, x_M_cell, m_isCellF (hu.mu hS)]⟩
  by_cases hh : s_H S.1 c = 1
  · refine ⟨100, S, hS, CA_id fun u hu => ?_, MA_id fun u hu => ?_⟩
    · have ht := c_thingOn (hu.cu hS) hc.1 hc.2
      rw [if_pos hh] at ht
      simp (disch := first | assumption | omega) only [↓reduceIte, Int.reduceEq, Int.reduceLT, bdI_s, bdV_s, bdR_s, bdL_s, fx_I, fx_R, fx_B, fx_L, w32_of, x_A_cell, c_isCellT (hu.cu hS), ht]
    · have hq := m_isHole hE hu.2.1 hc.1 (show c < 49 by omega)
      rw [decide_eq_true hh, bI_t] at hq
      simp (disch := first | assumption | omega) only [↓reduceIte, Int.reduceEq, Int.reduceLT, bdI_s, bdV_s, bdR_s, bdL_s, fx_I, fx_R, fx_B, fx_L, w32_of, x_M_cell, m_isCellT (hu.mu hS), hq]
  · refine ⟨s_pinOn S.1 c, S, hS, CA_id fun u hu => ?_, MA_id fun u hu => ?_⟩
    · have ht := c_thingOn (hu.cu hS) hc.1 hc.2
      rw [if_neg hh] at ht
      simp (disch := first | assumption | omega) only [↓reduceIte, Int.reduceEq, Int.reduceLT, bdI_s, bdV_s, bdR_s, bdL_s, fx_I, fx_R, fx_B, fx_L, w32_of, x_A_cell, c_isCellT (hu.cu hS), ht]
    · have hq := m_isHole hE hu.2.1 hc.1 (show c < 49 by omega)
      rw [decide_eq_false hh, bI_f] at hq
      simp (disch := first | assumption | omega) only [↓reduceIte, Int.reduceEq, Int.reduceLT, bdI_s, bdV_s, bdR_s, bdL_s, fx_I, fx_R, fx_B, fx_L, w32_of, x_M_cell, m_isCellT (hu.mu hS), hq, m_pinOn (hu.mu hS)]
theorem k_count {S : am_S} (hE : SE E) (hS : OKS S) (w : Int) : BOTH E S (fun u => Rn m_A_count 0 [vR (some 0), vI w] [] E u) (fun u => Rn m_M_count 0 [vR (some 149), vI w] [] E u) := by
  have cu1 := cuB_1
  have p15 := paB_15
  have e2 : (2 : Int).toNat = 2 := rfl
  have e3 : (3 : Int).toNat = 3 := rfl
  have e4 : (4 : Int).toNat = 4 := rfl
  by_cases hw : 0 ≤ w ∧ w ≤ 8
  case neg => exact ⟨-1, S, hS, CA_id fun u hu => by simp (disch := first | assumption | omega) only [↓reduceIte, Int.reduceEq, Int.reduceLT, bdI_s, bdV_s, bdR_s, bdL_s, fx_I, fx_R, fx_B, fx_L, w32_of, x_A_count, show ¬ w = 0 by omega, show ¬ w = 1 by omega, show ¬ w = 2 by omega, show ¬ w = 3 by omega, show ¬ w = 4 by omega, show ¬ w = 5 by omega, show ¬ w = 6 by omega, show ¬ w = 7 by omega, show ¬ w = 8 by omega], MA_id fun u hu => by simp (disch := first | assumption | omega) only [↓reduceIte, Int.reduceEq, Int.reduceLT, bdI_s, bdV_s, bdR_s, bdL_s, fx_I, fx_R, fx_B, fx_L, w32_of, x_M_count, show ¬ w = 0 by omega, show ¬ w = 1 by omega, show ¬ w = 2 by omega, show ¬ w = 3 by omega, show ¬ w = 4 by omega, show ¬ w = 5 by omega, show ¬ w = 6 by omega, show ¬ w = 7 by omega, show ¬ w = 8 by omega]⟩
  have e : w = 0 ∨ w = 1 ∨ w = 2 ∨ w = 3 ∨ w = 4 ∨ w = 5 ∨ w = 6 ∨ w = 7 ∨ w = 8 := by omega
  have al := (al_m hE).1
  rcases e with rfl | rfl | rfl | rfl | rfl | rfl | rfl | rfl | rfl
  · exact ⟨S.1 0, S, hS, CA_id fun u hu => by simp (disch := first | assumption | omega) only [↓reduceIte, Int.reduceEq, Int.reduceLT, bdI_s, bdV_s, bdR_s, bdL_s, fx_I, fx_R, fx_B, fx_L, w32_of, x_A_count, hu.2.1.1], MA_id fun u hu => by simp (disch := first | assumption | omega) only [↓reduceIte, Int.reduceEq, Int.reduceLT, bdI_s, bdV_s, bdR_s, bdL_s, fx_I, fx_R, fx_B, fx_L, w32_of, x_M_count, hu.2.1, Int.toNat_zero]⟩
  · exact ⟨S.1 1, S, hS, CA_id fun u hu => by simp (disch := first | assumption | omega) only [↓reduceIte, Int.reduceEq, Int.reduceLT, bdI_s, bdV_s, bdR_s, bdL_s, fx_I, fx_R, fx_B, fx_L, w32_of, x_A_count, hu.2.1.2.1], MA_id fun u hu => by simp (disch := first | assumption | omega) only [↓reduceIte, Int.reduceEq, Int.reduceLT, bdI_s, bdV_s, bdR_s, bdL_s, fx_I, fx_R, fx_B, fx_L, w32_of, x_M_count, hu.2.1, Int.toNat_one]⟩
  · exact ⟨S.1 2, S, hS, CA_id fun u hu => by simp (disch := first | assumption | omega) only [↓reduceIte, Int.reduceEq, Int.reduceLT, bdI_s, bdV_s, bdR_s, bdL_s, fx_I, fx_R, fx_B, fx_L, w32_of, x_A_count, hu.2.1.2.2.1], MA_id fun u hu => by simp (disch := first | assumption | omega) only [↓reduceIte, Int.reduceEq, Int.reduceLT, bdI_s, bdV_s, bdR_s, bdL_s, fx_I, fx_R, fx_B, fx_L, w32_of, x_M_count, hu.2.1, e2]⟩
  · exact ⟨S.1 3, S, hS, CA_id fun u hu => by simp (disch := first | assumption | omega) only [↓reduceIte, Int.reduceEq, Int.reduceLT, bdI_s, bdV_s, bdR_s, bdL_s, fx_I, fx_R, fx_B, fx_L, w32_of, x_A_count, hu.2.1.2.2.2.1], MA_id fun u hu => by simp (disch := first | assumption | omega) only [↓reduceIte, Int.reduceEq, Int.reduceLT, bdI_s, bdV_s, bdR_s, bdL_s, fx_I, fx_R, fx_B, fx_L, w32_of, x_M_count, hu.2.1, e3]⟩
  · exact ⟨S.1 4, S, hS, CA_id fun u hu => by simp (disch := first | assumption | omega) only [↓reduceIte, Int.reduceEq, Int.reduceLT, bdI_s, bdV_s, bdR_s, bdL_s, fx_I, fx_R, fx_B, fx_L, w32_of, x_A_count, hu.2.1.2.2.2.2.1], MA_id fun u hu => by simp (disch := first | assumption | omega) only [↓reduceIte, Int.reduceEq, Int.reduceLT, bdI_s, bdV_s, bdR_s, bdL_s, fx_I, fx_R, fx_B, fx_L, w32_of, x_M_count, hu.2.1, e4]⟩
  · exact ⟨s_count S.1, S, hS, CA_id fun u hu => by simp (disch := first | assumption | omega) only [↓reduceIte, Int.reduceEq, Int.reduceLT, bdI_s, bdV_s, bdR_s, bdL_s, fx_I, fx_R, fx_B, fx_L, w32_of, x_A_count, c_holeCount (hu.cu hS)], MA_id fun u hu => by simp (disch := first | assumption | omega) only [↓reduceIte, Int.reduceEq, Int.reduceLT, bdI_s, bdV_s, bdR_s, bdL_s, fx_I, fx_R, fx_B, fx_L, w32_of, x_M_count, m_holesNow (hu.mu hS)]⟩
  · exact ⟨s_outs S.1, S, hS, CA_id fun u hu => by simp (disch := first | assumption | omega) only [↓reduceIte, Int.reduceEq, Int.reduceLT, bdI_s, bdV_s, bdR_s, bdL_s, fx_I, fx_R, fx_B, fx_L, w32_of, x_A_count, c_outSet (hu.cu hS)], MA_id fun u hu => by simp (disch := first | assumption | omega) only [↓reduceIte, Int.reduceEq, Int.reduceLT, bdI_s, bdV_s, bdR_s, bdL_s, fx_I, fx_R, fx_B, fx_L, w32_of, x_M_count, m_outs (hu.mu hS)]⟩
  · exact ⟨s_held S.1, S, hS, CA_id fun u hu => by simp (disch := first | assumption | omega) only [↓reduceIte, Int.reduceEq, Int.reduceLT, bdI_s, bdV_s, bdR_s, bdL_s, fx_I, fx_R, fx_B, fx_L, w32_of, x_A_count, c_holdSet (hu.cu hS)], MA_id fun u hu => by simp (disch := first | assumption | omega) only [↓reduceIte, Int.reduceEq, Int.reduceLT, bdI_s, bdV_s, bdR_s, bdL_s, fx_I, fx_R, fx_B, fx_L, w32_of, x_M_count, m_held (hu.mu hS)]⟩
  · exact ⟨(S.2.1.length : Int), S, hS, CA_id fun u hu => by simp (disch := first | assumption | omega) only [↓reduceIte, Int.reduceEq, Int.reduceLT, bdI_s, bdV_s, bdR_s, bdL_s, fx_I, fx_R, fx_B, fx_L, w32_of, x_A_count, hu.2.2.1.1], MA_id fun u hu => by simp (disch := first | assumption | omega) only [↓reduceIte, Int.reduceEq, Int.reduceLT, bdI_s, bdV_s, bdR_s, bdL_s, fx_I, fx_R, fx_B, fx_L, w32_of, x_M_count, hu.2.2.1.1]⟩
theorem k_type {S : am_S} (hE : SE E) (hS : OKS S) (c : Int) : BOTH E S (fun u => Rn m_A_type 0 [vR (some 0), vI c] [] E u) (fun u => Rn m_M_type 0 [vR (some 149), vI c] [] E u) := by
  obtain ⟨n, H, o, T, F⟩ := S
  have hT : T.length ≤ 120 ∧ _ := hS.2.2.2.1
  by_cases hc : 32 ≤ c ∧ c ≤ 126
  case neg => exact ⟨-1, _, hS, CA_id fun u hu => by simp (disch := first | assumption | omega) only [↓reduceIte, Int.reduceEq, Int.reduceLT, bdI_s, bdV_s, bdR_s, bdL_s, fx_I, fx_R, fx_B, fx_L, w32_of, x_A_type, r_isInF], MA_id fun u hu => by simp (disch := first | assumption | omega) only [↓reduceIte, Int.reduceEq, Int.reduceLT, bdI_s, bdV_s, bdR_s, bdL_s, fx_I, fx_R, fx_B, fx_L, w32_of, x_M_type, m_inF]⟩
  by_cases hf : T.length = 120
  · refine ⟨-3, _, hS, CA_id fun u hu => ?_, MA_id fun u hu => ?_⟩
    · have h1 : u 138 1 = 120 := by have := hu.2.2.2.2.1.1; rw [this]; show (T.length : Int) = 120; omega
      simp (disch := first | assumption | omega) only [↓reduceIte, Int.reduceEq, Int.reduceLT, bdI_s, bdV_s, bdR_s, bdL_s, fx_I, fx_R, fx_B, fx_L, w32_of, x_A_type, r_isInT, x_T_takesOn, h1]
    · have h1 : u 149 2 = 120 := by have := hu.2.2.2.2.1.1; rw [this]; show (T.length : Int) = 120; omega
      simp (disch := first | assumption | omega) only [↓reduceIte, Int.reduceEq, Int.reduceLT, bdI_s, bdV_s, bdR_s, bdL_s, fx_I, fx_R, fx_B, fx_L, w32_of, x_M_type, m_inT, h1]
  have app : ∀ {f : am_Row} {g : Int → Prop}, (∀ (i : Nat) (d : Int), T[i]? = some d → f i = d) → f T.length = c → ∀ (i : Nat) (d : Int), (T ++ [c])[i]? = some d → f i = d := by
    intro f _ h1 h2 i d hd
    by_cases hi : i < T.length
    · rw [List.getElem?_append_left hi] at hd
      exact h1 i d hd
    · have hi2 : i = T.length := by
        have := (List.getElem?_eq_some_iff.mp hd).1
        simp at this
        omega
      subst hi2
      rw [List.getElem?_append_right (by omega), Nat.sub_self] at hd
      cases hd
      exact h2
  refine ⟨(T.length : Int) + 1, (n, H, o, T ++ [c], F), ⟨hS.1, hS.2.1, hS.2.2.1, ⟨by simp; omega, fun i d hd => ?_⟩, hS.2.2.2.2⟩, fun u hu => ?_, fun u hu => ?_⟩
  · by_cases hi : i < T.length
    · rw [List.getElem?_append_left hi] at hd
      exact hT.2 i d hd
    · have hi2 : i = T.length := by
        have := (List.getElem?_eq_some_iff.mp hd).1
        simp at this
        omega
      subst hi2
      rw [List.getElem?_append_right (by omega), Nat.sub_self] at hd
      cases hd
      exact hc
  · obtain ⟨a, b, c', d, e, f⟩ := hu
    have h1 : u 138 1 = (T.length : Int) := e.1
    obtain ⟨ta, tk⟩ := al_t hE
    have ly : Rn m_A_lay 0 [vR (some 139), vI (T.length : Int), vI c] [] E u = some (none, E, am_up u 139 T.length c) := by
      rw [r_lay tk ta, if_pos (by omega), Int.toNat_natCast]
    have g : ∀ i, i ≠ 138 → i ≠ 139 → am_up (am_up u 139 T.length c) 138 1 ((T.length : Int) + 1) i = u i := fun i i0 i1 => by rw [up_fn i0, up_fn i1]
    refine ⟨am_up (am_up u 139 T.length c) 138 1 ((T.length : Int) + 1), ?_, ⟨a, RC_congr (fun z z0 z1 => g z (by omega) (by omega)) b, HR_congr (fun z z0 z1 => g z (by omega) (by omega)) c', CSi_congr (by rw [g 0 (by omega) (by omega)]) (fun i i0 i1 => g i (by omega) (by omega)) d, ⟨by rw [up_eq]; simp, ?_⟩, CSs_congr (fun i i0 i1 => g i (by omega) (by omega)) f⟩, fun i hi => g i (by omega) (by omega)⟩
    · have h2 : (am_up u 139 T.length c) 138 1 = (T.length : Int) := by rw [up_fn (by omega)]; exact h1
      simp (disch := first | assumption | omega) only [↓reduceIte, Int.reduceEq, Int.reduceLT, bdI_s, bdV_s, bdR_s, bdL_s, fx_I, fx_R, fx_B, fx_L, w32_of, x_A_type, r_isInT, x_T_takesOn, h1, show (T.length : Int) < 120 by omega, ly, h2, up_eq]
    · rw [up_fn (by omega)]
      exact app (g := fun _ => True) (fun i d' hd => by
        have hi : i < T.length := (List.getElem?_eq_some_iff.mp hd).1
        rw [up_nj (by omega)]
        exact e.2 i d' hd) up_eq
  · obtain ⟨a, b, c', d, e, f⟩ := hu
    have h1 : u 149 2 = (T.length : Int) := e.1
    obtain ⟨l0, l1, l2, l3, l4, l5, l6, l7, l8, l9, l10⟩ := al_m hE
    have g : ∀ i, i ≠ 149 → i ≠ 151 → am_up (am_up u 151 T.length c) 149 2 ((T.length : Int) + 1) i = u i := fun i i0 i1 => by rw [up_fn i0, up_fn i1]
    have g9 : ∀ j, j ≠ 2 → am_up (am_up u 151 T.length c) 149 2 ((T.length : Int) + 1) 149 j = u 149 j := fun j hj => by rw [up_nj hj, up_fn (by omega)]
    refine ⟨am_up (am_up u 151 T.length c) 149 2 ((T.length : Int) + 1), ?_, ⟨a, by rw [g 150 (by omega) (by omega)]; exact b, HM_congr (g9 8 (by omega)) (g 154 (by omega) (by omega)) c', MSi_congr (g9 12 (by omega)) (g9 11 (by omega)) (g 156 (by omega) (by omega)) d, ⟨by rw [up_eq]; simp, ?_⟩, MSs_congr (g 157 (by omega) (by omega)) (g 158 (by omega) (by omega)) (g 159 (by omega) (by omega)) f⟩, fun i hi => g i (by omega) (by omega)⟩
    · have h2 : (am_up u 151 T.length c) 149 2 = (T.length : Int) := by rw [up_fn (by omega)]; exact h1
      simp (disch := first | assumption | omega) only [↓reduceIte, Int.reduceEq, Int.reduceLT, bdI_s, bdV_s, bdR_s, bdL_s, fx_I, fx_R, fx_B, fx_L, w32_of, x_M_type, m_inT, h1, show ¬ (T.length : Int) = 120 by omega, Int.toNat_natCast, h2, up_eq]
    · rw [up_fn (by omega)]
      exact app (g := fun _ => True) (fun i d' hd => by
        have hi : i < T.length := (List.getElem?_eq_some_iff.mp hd).1
        rw [up_nj (by omega)]
        exact e.2 i d' hd) up_eq

/-! The state that both sides hold; tests answered. -/
variable {E : am_E} {u : am_M} {k : Nat} {n : am_Row}
theorem r_isInT {a b c : Int} (h : b ≤ a ∧ a ≤ c) : Rn m_A_isIn 0 [vI a, vI b, vI c] [] E u = some (some (vI 1), E, u) := by rw [r_isIn, decide_eq_true h]; rfl
theorem r_isInF {a b c : Int} (h : ¬ (b ≤ a ∧ a ≤ c)) : Rn m_A_isIn 0 [vI a, vI b, vI c] [] E u = some (some (vI 0), E, u) := by rw [r_isIn, decide_eq_false h]; rfl
theorem m_inT {a b c : Int} (h : b ≤ a ∧ a ≤ c) : Rn m_M_in 0 [vL a, vB false, vL b, vB false, vL c, vB false] [] E u = some (some (vI 1), E, u) := by rw [m_in, decide_eq_true h]; rfl
theorem m_inF {a b c : Int} (h : ¬ (b ≤ a ∧ a ≤ c)) : Rn m_M_in 0 [vL a, vB false, vL b, vB false, vL c, vB false] [] E u = some (some (vI 0), E, u) := by rw [m_in, decide_eq_false h]; rfl
theorem c_isPinT (h : CU E u k n) {p : Int} (hp : 0 ≤ p ∧ p < n 2) : Rn m_C_isPin 0 [vR (some k), vI p] [] E u = some (some (vI 1), E, u) := by rw [c_isPin h, decide_eq_true hp]; rfl
theorem c_isPinF (h : CU E u k n) {p : Int} (hp : ¬ (0 ≤ p ∧ p < n 2)) : Rn m_C_isPin 0 [vR (some k), vI p] [] E u = some (some (vI 0), E, u) := by rw [c_isPin h, decide_eq_false hp]; rfl
theorem c_isThreadT (h : CU E u k n) {p : Int} (hp : 0 ≤ p ∧ p < n 3) : Rn m_C_isThread 0 [vR (some k), vI p] [] E u = some (some (vI 1), E, u) := by rw [c_isThread h, decide_eq_true hp]; rfl
theorem c_isThreadF (h : CU E u k n) {p : Int} (hp : ¬ (0 ≤ p ∧ p < n 3)) : Rn m_C_isThread 0 [vR (some k), vI p] [] E u = some (some (vI 0), E, u) := by rw [c_isThread h, decide_eq_false hp]; rfl
theorem c_isCellT (h : CU E u k n) {p : Int} (hp : 0 ≤ p ∧ p < s_cells n) : Rn m_C_isCell 0 [vR (some k), vI p] [] E u = some (some (vI 1), E, u) := by rw [c_isCell h, decide_eq_true hp]; rfl
theorem c_isCellF (h : CU E u k n) {p : Int} (hp : ¬ (0 ≤ p ∧ p < s_cells n)) : Rn m_C_isCell 0 [vR (some k), vI p] [] E u = some (some (vI 0), E, u) := by rw [c_isCell h, decide_eq_false hp]; rfl
theorem m_isPinT (h : MU E u n) {p : Int} (hp : 0 ≤ p ∧ p < n 2) : Rn m_M_isPin 0 [vR (some 149), vI p] [] E u = some (some (vI 1), E, u) := by rw [m_isPin h, decide_eq_true hp]; rfl
theorem m_isPinF (h : MU E u n) {p : Int} (hp : ¬ (0 ≤ p ∧ p < n 2)) : Rn m_M_isPin 0 [vR (some 149), vI p] [] E u = some (some (vI 0), E, u) := by rw [m_isPin h, decide_eq_false hp]; rfl
theorem m_isThreadT (h : MU E u n) {p : Int} (hp : 0 ≤ p ∧ p < n 3) : Rn m_M_isThread 0 [vR (some 149), vI p] [] E u = some (some (vI 1), E, u) := by rw [m_isThread h, decide_eq_true hp]; rfl
theorem m_isThreadF (h : MU E u n) {p : Int} (hp : ¬ (0 ≤ p ∧ p < n 3)) : Rn m_M_isThread 0 [vR (some 149), vI p] [] E u = some (some (vI 0), E, u) := by rw [m_isThread h, decide_eq_false hp]; rfl
theorem m_isCellT (h : MU E u n) {p : Int} (hp : 0 ≤ p ∧ p < s_cells n) : Rn m_M_isCell 0 [vR (some 149), vI p] [] E u = some (some (vI 1), E, u) := by rw [m_isCell h, decide_eq_true hp]; rfl
theorem m_isCellF (h : MU E u n) {p : Int} (hp : ¬ (0 ≤ p ∧ p < s_cells n)) : Rn m_M_isCell 0 [vR (some 149), vI p] [] E u = some (some (vI 0), E, u) := by rw [m_isCell h, decide_eq_false hp]; rfl
theorem r_areTwoPinsT (hE : SE E) (h : CU E u 1 n) {p q : Int} (hp : 0 ≤ p ∧ p < n 2) (hq : 0 ≤ q ∧ q < n 2) (hpq : ¬ p = q) : Rn m_A_areTwoPins 0 [vR (some 0), vI p, vI q] [] E u = some (some (vI 1), E, u) := by
  simp (disch := first | assumption | omega) only [↓reduceIte, Int.reduceEq, Int.reduceLT, bdI_s, bdV_s, bdR_s, bdL_s, fx_I, fx_R, fx_B, fx_L, w32_of, x_A_areTwoPins, c_isPinT h, hpq]
theorem r_areTwoPinsF (hE : SE E) (h : CU E u 1 n) {p q : Int} (hn : ¬ ((0 ≤ p ∧ p < n 2) ∧ (0 ≤ q ∧ q < n 2) ∧ ¬ p = q)) : Rn m_A_areTwoPins 0 [vR (some 0), vI p, vI q] [] E u = some (some (vI 0), E, u) := by
  by_cases hp : 0 ≤ p ∧ p < n 2
  · by_cases hq : 0 ≤ q ∧ q < n 2
    · have hpq : p = q := by omega
      simp (disch := first | assumption | omega) only [↓reduceIte, Int.reduceEq, Int.reduceLT, bdI_s, bdV_s, bdR_s, bdL_s, fx_I, fx_R, fx_B, fx_L, w32_of, x_A_areTwoPins, c_isPinT h, hpq]
    · simp (disch := first | assumption | omega) only [↓reduceIte, Int.reduceEq, Int.reduceLT, bdI_s, bdV_s, bdR_s, bdL_s, fx_I, fx_R, fx_B, fx_L, w32_of, x_A_areTwoPins, c_isPinT h, c_isPinF h]
  · simp (disch := first | assumption | omega) only [↓reduceIte, Int.reduceEq, Int.reduceLT, bdI_s, bdV_s, bdR_s, bdL_s, fx_I, fx_R, fx_B, fx_L, w32_of, x_A_areTwoPins, c_isPinF h]
/-- rows that an object may hold -/
def Wn (n : am_Row) : Prop := Vn n ∧ n 4 ≤ 9999 ∧ (0 ≤ n 5 ∧ n 5 ≤ 2147483647) ∧ Zn n
def WH (n : am_Row) (H : List am_Row) : Prop := ∀ (i : Nat) (r : am_Row), H[i]? = some r → Wn r ∧ s_same n r
/-- the row, the past, the image, the tape, the sheets (lane, or -1; how many; the items) -/
abbrev am_S : Type := am_Row × List am_Row × Option (am_Row × List am_Row) × List Int × (Nat → Int × Int × (Nat → Int))
def OKi (o : Option (am_Row × List am_Row)) : Prop := ∀ m J, o = some (m, J) → Wn m ∧ WH m J ∧ J.length ≤ 8
def OKt (T : List Int) : Prop := T.length ≤ 120 ∧ ∀ (i : Nat) (c : Int), T[i]? = some c → 32 ≤ c ∧ c ≤ 126
def OKs (F : Nat → Int × Int × (Nat → Int)) : Prop := ∀ s : Nat, s < 4 → (-1 ≤ (F s).1 ∧ (F s).1 ≤ 3) ∧ (0 ≤ (F s).2.1 ∧ (F s).2.1 ≤ 24)
def OKS (S : am_S) : Prop := Wn S.1 ∧ (WH S.1 S.2.1 ∧ S.2.1.length ≤ 8) ∧ OKi S.2.2.1 ∧ OKt S.2.2.2.1 ∧ OKs S.2.2.2.2
def CSi (u : am_M) (o : Option (am_Row × List am_Row)) : Prop := (o = none ∧ u 0 7 = 0) ∨ ∃ m J, o = some (m, J) ∧ u 0 7 = 1 ∧ RC u 73 m ∧ HR u 80 J
def CSt (u : am_M) (T : List Int) : Prop := u 138 1 = (T.length : Int) ∧ ∀ (i : Nat) (c : Int), T[i]? = some c → u 139 i = c
def CSs (u : am_M) (F : Nat → Int × Int × (Nat → Int)) : Prop := ∀ s : Nat, s < 4 → u (141 + 2 * s) 1 = bI (decide ((F s).1 < 0)) ∧ (0 ≤ (F s).1 → u (141 + 2 * s) 2 = (F s).1) ∧ u (141 + 2 * s) 3 = (F s).2.1 ∧ ∀ i, i < 24 → u (142 + 2 * s) i = (F s).2.2 i
/-- the class holds it -/
def CS (E : am_E) (u : am_M) (S : am_S) : Prop := SE E ∧ RC u 1 S.1 ∧ HR u 15 S.2.1 ∧ CSi u S.2.2.1 ∧ CSt u S.2.2.2.1 ∧ CSs u S.2.2.2.2
def MSi (u : am_M) (o : Option (am_Row × List am_Row)) : Prop := (o = none ∧ u 149 12 = 0) ∨ ∃ m J, o = some (m, J) ∧ u 149 12 = 1 ∧ (∀ j, j < 100 → u 156 j = m j) ∧ u 149 11 = (J.length : Int) ∧ HN u 156 100 J
def MSt (u : am_M) (T : List Int) : Prop := u 149 2 = (T.length : Int) ∧ ∀ (i : Nat) (c : Int), T[i]? = some c → u 151 i = c
def MSs (u : am_M) (F : Nat → Int × Int × (Nat → Int)) : Prop := ∀ s : Nat, s < 4 → u 157 s = (F s).1 ∧ u 158 s = (F s).2.1 ∧ ∀ i, i < 24 → u 159 (24 * s + i) = (F s).2.2 i
/-- the reference holds it -/
def MS (E : am_E) (u : am_M) (S : am_S) : Prop := SE E ∧ u 150 = S.1 ∧ HM u S.2.1 ∧ MSi u S.2.2.1 ∧ MSt u S.2.2.2.1 ∧ MSs u S.2.2.2.2
theorem CSi_congr {u' : am_M} {o : Option (am_Row × List am_Row)} (h0 : u' 0 7 = u 0 7) (h : ∀ i, 73 ≤ i → i < 138 → u' i = u i) (hi : CSi u o) : CSi u' o := by
  rcases hi with ⟨a, b⟩ | ⟨m, J, a, b, c, d⟩
  · exact Or.inl ⟨a, by rw [h0]; exact b⟩
  · exact Or.inr ⟨m, J, a, by rw [h0]; exact b, RC_congr (fun z z0 z1 => h z (by omega) (by omega)) c, HR_congr (fun z z0 z1 => h z (by omega) (by omega)) d⟩
theorem CSt_congr {u' : am_M} {T : List Int} (h : u' 138 1 = u 138 1) (h2 : u' 139 = u 139) (hi : CSt u T) : CSt u' T := ⟨by rw [h]; exact hi.1, fun i c hc => by rw [h2]; exact hi.2 i c hc⟩
theorem CSs_congr {u' : am_M} {F : Nat → Int × Int × (Nat → Int)} (h : ∀ i, 141 ≤ i → i < 149 → u' i = u i) (hi : CSs u F) : CSs u' F := fun s hs => by
  obtain ⟨a, b, c, d⟩ := hi s hs
  rw [h (141 + 2 * s) (by omega) (by omega), h (142 + 2 * s) (by omega) (by omega)]
  exact ⟨a, b, c, d⟩
theorem CS_congr {u' : am_M} {S : am_S} (h : ∀ i, i < 149 → (i < 8 ∨ 15 ≤ i) → u' i = u i) (hS : CS E u S) : CS E u' S := by
  obtain ⟨a, b, c, d, e, f⟩ := hS
  exact ⟨a, RC_congr (fun z z0 z1 => h z (by omega) (by omega)) b, HR_congr (fun z z0 z1 => h z (by omega) (by omega)) c, CSi_congr (by rw [h 0 (by omega) (by omega)]) (fun i i0 i1 => h i (by omega) (by omega)) d, CSt_congr (by rw [h 138 (by omega) (by omega)]) (h 139 (by omega) (by omega)) e, CSs_congr (fun i i0 i1 => h i (by omega) (by omega)) f⟩
theorem HN_congr {u' : am_M} {a o : Nat} {H : List am_Row} (h : u' a = u a) (hH : HN u a o H) : HN u' a o H := fun i r hr x hx => by rw [h]; exact hH i r hr x hx
theorem MSi_congr {u' : am_M} {o : Option (am_Row × List am_Row)} (h0 : u' 149 12 = u 149 12) (h1 : u' 149 11 = u 149 11) (h : u' 156 = u 156) (hi : MSi u o) : MSi u' o := by
  rcases hi with ⟨a, b⟩ | ⟨m, J, a, b, c, d, e⟩
  · exact Or.inl ⟨a, by rw [h0]; exact b⟩
  · exact Or.inr ⟨m, J, a, by rw [h0]; exact b, by rw [h]; exact c, by rw [h1]; exact d, HN_congr h e⟩
theorem MSt_congr {u' : am_M} {T : List Int} (h : u' 149 2 = u 149 2) (h2 : u' 151 = u 151) (hi : MSt u T) : MSt u' T := ⟨by rw [h]; exact hi.1, fun i c hc => by rw [h2]; exact hi.2 i c hc⟩
theorem MSs_congr {u' : am_M} {F : Nat → Int × Int × (Nat → Int)} (h7 : u' 157 = u 157) (h8 : u' 158 = u 158) (h9 : u' 159 = u 159) (hi : MSs u F) : MSs u' F := fun s hs => by
  rw [h7, h8, h9]
  exact hi s hs
theorem HM_congr {u' : am_M} {H : List am_Row} (h : u' 149 8 = u 149 8) (h2 : u' 154 = u 154) (hH : HM u H) : HM u' H := ⟨by rw [h]; exact hH.1, hH.2.1, HN_congr h2 hH.2.2⟩
theorem MS_congr {u' : am_M} {S : am_S} (h : ∀ i, 150 ≤ i → i ≠ 152 → i ≠ 153 → i ≠ 155 → u' i = u i) (h9 : ∀ j, j ≠ 3 → j ≠ 4 → u' 149 j = u 149 j) (hS : MS E u S) : MS E u' S := by
  obtain ⟨a, b, c, d, e, f⟩ := hS
  exact ⟨a, by rw [h 150 (by omega) (by omega) (by omega) (by omega)]; exact b, HM_congr (h9 8 (by omega) (by omega)) (h 154 (by omega) (by omega) (by omega) (by omega)) c, MSi_congr (h9 12 (by omega) (by omega)) (h9 11 (by omega) (by omega)) (h 156 (by omega) (by omega) (by omega) (by omega)) d, MSt_congr (h9 2 (by omega) (by omega)) (h 151 (by omega) (by omega) (by omega) (by omega)) e, MSs_congr (h 157 (by omega) (by omega) (by omega) (by omega)) (h 158 (by omega) (by omega) (by omega) (by omega)) (h 159 (by omega) (by omega) (by omega) (by omega)) f⟩
/-- the class writes below 149 alone, the reference from there on -/
def LO (u u' : am_M) : Prop := ∀ i : Nat, 149 ≤ i → u' i = u i
def HI (u u' : am_M) : Prop := ∀ i : Nat, i < 149 → u' i = u i
theorem LO.rf : LO u u := fun _ _ => rfl
theorem HI.rf : HI u u := fun _ _ => rfl
theorem LO.tr {v w : am_M} (h : LO u v) (h' : LO v w) : LO u w := fun i hi => (h' i hi).trans (h i hi)
theorem HI.tr {v w : am_M} (h : HI u v) (h' : HI v w) : HI u w := fun i hi => (h' i hi).trans (h i hi)
theorem LO_FR {v : am_M} (h : FR k u v) (hk : k + 7 ≤ 149) : LO u v := fun i hi => h i (by omega)
theorem LO_FP {p : Nat} {v : am_M} (h : FP p u v) (hk : p + 58 ≤ 149) : LO u v := fun i hi => h i (by omega)
theorem LO_up {j x : Nat} {v : Int} (h : j < 149) : LO u (am_up u j x v) := fun i hi => up_fn (by omega)
theorem HI_up {j x : Nat} {v : Int} (h : 149 ≤ j) : HI u (am_up u j x v) := fun i hi => up_fn (by omega)
theorem HI_aS {j : Nat} {a : am_Row} (h : 149 ≤ j) : HI u (aS u j a) := fun i hi => aS_ne _ _ (by omega)
theorem HI_sN {a : am_Row} : HI u (sN u a) := fun i hi => sN_ne _ _ (by omega)
/-- a call, on each side: the answer v, the state that becomes S' -/
def CA (E : am_E) (S S' : am_S) (v : Int) (f : am_M → am_Z) : Prop := ∀ u, CS E u S → ∃ u', f u = some (some (vI v), E, u') ∧ CS E u' S' ∧ LO u u'
def MA (E : am_E) (S S' : am_S) (v : Int) (f : am_M → am_Z) : Prop := ∀ u, MS E u S → ∃ u', f u = some (some (vI v), E, u') ∧ MS E u' S' ∧ HI u u'
theorem CS.cu {S : am_S} (h : CS E u S) (hS : OKS S) : CU E u 1 S.1 := ⟨h.1, cuB_1, h.2.1, hS.1.1⟩
theorem MS.mu {S : am_S} (h : MS E u S) (hS : OKS S) : MU E u S.1 := ⟨h.1, h.2.1, hS.1.1⟩
/-- what a call is: the same answer on both sides, and a state that both hold -/
def BOTH (E : am_E) (S : am_S) (f g : am_M → am_Z) : Prop := ∃ v S', OKS S' ∧ CA E S S' v f ∧ MA E S S' v g
theorem BOTH.run {S : am_S} {f g : am_M → am_Z} (h : BOTH E S f g) (hc : CS E u S) (hm : MS E u S) : ∃ v S' u1 u2, f u = some (some (vI v), E, u1) ∧ g u1 = some (some (vI v), E, u2) ∧ OKS S' ∧ CS E u2 S' ∧ MS E u2 S' := by
  obtain ⟨v, S', hS', hC, hM⟩ := h
  obtain ⟨u1, e1, c1, l1⟩ := hC u hc
  have hm1 : MS E u1 S := MS_congr (fun i i0 _ _ _ => l1 i (by omega)) (fun j _ _ => by rw [l1 149 (by omega)]) hm
  obtain ⟨u2, e2, m2, i2⟩ := hM u1 hm1
  exact ⟨v, S', u1, u2, e1, e2, hS', CS_congr (fun i hi _ => i2 i hi) c1, m2⟩
/-- an answer that changes nothing -/
theorem CA_id {S : am_S} {v : Int} {f : am_M → am_Z} (h : ∀ u, CS E u S → f u = some (some (vI v), E, u)) : CA E S S v f := fun u hu => ⟨u, h u hu, hu, LO.rf⟩
theorem MA_id {S : am_S} {v : Int} {f : am_M → am_Z} (h : ∀ u, MS E u S → f u = some (some (vI v), E, u)) : MA E S S v f := fun u hu => ⟨u, h u hu, hu, HI.rf⟩
/-- what is foretold is tried on the trial, on the row laid aside -/
theorem CA_tr {S : am_S} {v : Int} {f : am_M → am_Z} (h : ∀ u, CS E u S → ∃ u', f u = some (some (vI v), E, u') ∧ FR 8 u u') : CA E S S v f := fun u hu => by
  obtain ⟨u', e, f1⟩ := h u hu
  exact ⟨u', e, CS_congr (fun i _ hi => f1 i (by omega)) hu, LO_FR f1 (by omega)⟩
theorem MA_tr {S : am_S} {v : Int} {f : am_M → am_Z} (h : ∀ u, MS E u S → ∃ u', f u = some (some (vI v), E, u') ∧ ∀ i, i ≠ 155 → u' i = u i) : MA E S S v f := fun u hu => by
  obtain ⟨u', e, f1⟩ := h u hu
  exact ⟨u', e, MS_congr (fun i _ _ _ hi => f1 i hi) (fun j _ _ => by rw [f1 149 (by omega)]) hu, fun i hi => f1 i (by omega)⟩

/-! Whole runs. -/
variable {p : Program} {l : Launch} {e : Env} {R : Room} {s : State} {m : MethodId} {args : Array Value} {below : List Frame} {meth : Method} {c : Code} {Q : State → Prop}
def am_allgood : Prop := ∀ M pc ins len x v0, am_Pg M pc = some (ins, len, x, v0) → am_good M pc ins len x v0
theorem am_allxk (hg : am_allgood) : ∀ M pc ins len x v0, am_Pg M pc = some (ins, len, x, v0) → am_xk am_nF ins x := fun M pc ins len x v0 h => am_xk_of (hg M pc ins len x v0 h).2.2
theorem am_sim (hgood : am_allgood) {M : Nat} (IHM : ∀ M', M' < M → am_Met M') {D : va_G} {tt : am_TT} {A : Nat → Prop} {H0 : Heap} {b : Nat} {X : Nat × (Nat → Int)} (C0 : am_Cx p R s m args meth c M D tt A H0 b X) :
    ∀ (f pc : Nat) (ls st : List am_V) (E : am_E) (u : am_M) (r : Option am_V) (E' : am_E) (u' : am_M), am_run am_Ft am_Pg am_Lm f M pc ls st E u = some (r, E', u') → am_OK am_Ft am_nF E u → (∀ v ∈ ls, am_ok E.1.length v) → (∀ v ∈ st, am_ok E.1.length v) → E.2.2 = X →
    ∀ (ad : Nat → Nat) (H : Heap) (locs : List Loc) (lsS : Array Slot) (cells slots : Nat), am_LH ad b lsS (am_Lm M) ls → va_P D am_cls (am_ws ad tt E u) H → va_D A (am_ws ad tt E u) → va_S A H0 H locs → cells + (E'.1.length - E.1.length) ≤ R.cells → slots + (am_szs E' - am_szs E) ≤ R.slots →
    (∀ (ad' : Nat → Nat) (H' : Heap) (locs' : List Loc) (pc' : Nat) (ins : Instr) (len : Nat) (x : List Nat) (v0 : Int) (ls' st' : List am_V) (lsS' : Array Slot), am_good M pc' ins len x v0 → am_step am_Ft ins x v0 pc' len ls' st' E' u' = some (.inr (.inl r)) → (∀ k, k < E.1.length → ad' k = ad k) → va_P D am_cls (am_ws ad' tt E' u') H' → va_D A (am_ws ad' tt E' u') → va_S A H0 H' locs' → am_OK am_Ft am_nF E' u' →
      W p l e R s m args below meth c H' locs' (cells + (E'.1.length - E.1.length)) (slots + (am_szs E' - am_szs E)) Q (F0 m pc' lsS' (st'.map (am_cv ad' b)))) →
    W p l e R s m args below meth c H locs cells slots Q (F0 m pc lsS (st.map (am_cv ad b))) := by
  intro f
  induction f with
  | zero => intro pc ls st E u r E' u' h; simp [am_run] at h
  | succ f ih =>
    intro pc ls st E u r E' u' h hO hl hs hXE ad H locs lsS cells slots hL hP hD hS hcl hsl hret
    simp only [am_run] at h
    cases hp : am_Pg M pc with
    | none => rw [hp] at h; cases h
    | some q =>
      obtain ⟨ins, len, x, v0⟩ := q
      rw [hp] at h
      dsimp only at h
      have hg := hgood _ _ _ _ _ _ hp
      cases hst : am_step am_Ft ins x v0 pc len ls st E u with
      | none => rw [hst] at h; cases h
      | some o =>
        have hk := am_step_ok (am_xk_of hg.2.2) hO hl hs hst
        rw [hst] at h
        rcases o with ⟨pc1, ls1, st1, E1, u1⟩ | r1 | ⟨M1, a, st1⟩
        · obtain ⟨k1, k2, k3, k4⟩ := hk
          dsimp only at h
          obtain ⟨-, -, z3⟩ := am_run_ok (am_allxk hgood) f _ _ _ _ _ _ _ _ _ h k1 k2 k3
          have n1 := k4.1
          have n2 := z3.1
          have n3 := k4.2.1
          have n4 := z3.2.1
          refine am_sim_step C0 hg hO hl hs hXE hst hL hP hD hS (by omega) (by omega) (fun ad1 H1 locs1 lsS1 a1 a2 a3 a4 a5 => ?_)
          refine ih _ _ _ _ _ _ _ _ h k1 k2 k3 (k4.2.2.2.trans hXE) ad1 H1 locs1 lsS1 _ _ a2 a3 a4 a5 (by omega) (by omega) (fun ad2 H2 locs2 pc2 ins2 len2 x2 w2 ls2 st2 lsS2 b1 b2 b3 b4 b5 b6 b7 => ?_)
          have := hret ad2 H2 locs2 pc2 ins2 len2 x2 w2 ls2 st2 lsS2 b1 b2 (fun k hk => (b3 k (Nat.lt_of_lt_of_le hk n1)).trans (a1 k hk)) b4 b5 b6 b7
          rw [show cells + (E1.1.length - E.1.length) + (E'.1.length - E1.1.length) = cells + (E'.1.length - E.1.length) by omega, show slots + (am_szs E1 - am_szs E) + (am_szs E' - am_szs E1) = slots + (am_szs E' - am_szs E) by omega]
          exact this
        · dsimp only at h
          cases h
          exact W.widen (by omega) (by omega) (hret ad H locs pc ins len x v0 ls st lsS hg hst (fun _ _ => rfl) hP hD hS hO)
        · dsimp only at h
          split at h
          case isFalse => cases h
          rename_i hlen
          cases hc : am_run am_Ft am_Pg am_Lm f M1 0 (am_ent (am_Lm M1) a) [] E u with
          | none => rw [hc] at h; cases h
          | some y =>
            obtain ⟨r1, E1, u1⟩ := y
            rw [hc] at h
            dsimp only at h
            obtain ⟨k1, k2⟩ := hk
            obtain ⟨z1, z2, z3⟩ := am_run_ok (am_allxk hgood) f _ _ _ _ _ _ _ _ _ hc hO (am_entOK k1) (fun _ hw => by cases hw)
            have hst1 : ∀ v ∈ r1.toList ++ st1, am_ok E1.1.length v := fun v hv => by
              rcases List.mem_append.mp hv with hv | hv
              · exact z2 v (by simpa using hv)
              · exact am_ok_mono z3.1 (k2 v hv)
            have hls1 : ∀ v ∈ ls, am_ok E1.1.length v := fun v hv => am_ok_mono z3.1 (hl v hv)
            obtain ⟨-, -, y3⟩ := am_run_ok (am_allxk hgood) f _ _ _ _ _ _ _ _ _ h z1 hls1 hst1
            have n1 := z3.1
            have n2 := y3.1
            have n3 := z3.2.1
            have n4 := y3.2.1
            obtain ⟨hlt, hcall⟩ := am_sim_call (p := p) (l := l) (e := e) (below := below) (Q := Q) C0 hg hO hs hXE hst
            refine hcall (IHM M1 hlt) hlen hc hL hP hD hS (by omega) (by omega) (fun ad1 H1 locs1 a1 a3 a4 a5 => ?_)
            refine ih _ _ _ _ _ _ _ _ h z1 hls1 hst1 (z3.2.2.2.trans hXE) ad1 H1 locs1 lsS _ _ (hL.re hl a1) a3 a4 a5 (by omega) (by omega) (fun ad2 H2 locs2 pc2 ins2 len2 x2 w2 ls2 st2 lsS2 b1 b2 b3 b4 b5 b6 b7 => ?_)
            have := hret ad2 H2 locs2 pc2 ins2 len2 x2 w2 ls2 st2 lsS2 b1 b2 (fun k hk => (b3 k (Nat.lt_of_lt_of_le hk n1)).trans (a1 k hk)) b4 b5 b6 b7
            rw [show cells + (E1.1.length - E.1.length) + (E'.1.length - E1.1.length) = cells + (E'.1.length - E.1.length) by omega, show slots + (am_szs E1 - am_szs E) + (am_szs E' - am_szs E1) = slots + (am_szs E' - am_szs E) by omega]
            exact this
theorem am_sl_len (ad : Nat → Nat) (b : Nat) : ∀ a : List am_V, (lg_sl (a.map (am_cv ad b))).length = (am_sl a).length := by
  intro a
  induction a with
  | nil => rfl
  | cons v a ih =>
    simp only [lg_sl, am_sl, List.map_cons, List.flatMap_cons, List.length_append] at ih ⊢
    rw [ih, am_cv_cat]
    cases am_isL v <;> simp
theorem am_sl_args (ad : Nat → Nat) (b : Nat) : ∀ (a : List am_V) (k i : Nat) (v : am_V), (am_sl a)[i]? = some v → v ≠ vB false → (k + i, am_cv ad b v) ∈ lv_args k (a.map (am_cv ad b)) := by
  intro a
  induction a with
  | nil => intro k i v h; simp [am_sl] at h
  | cons w a ih =>
    intro k i v h hv
    have e : am_sl (w :: a) = (if am_isL w = true then [w, vB false] else [w]) ++ am_sl a := rfl
    rw [e] at h
    show (k + i, am_cv ad b v) ∈ (k, am_cv ad b w) :: lv_args (if (am_cv ad b w).category = 2 then k + 2 else k + 1) (a.map (am_cv ad b))
    rw [am_cv_cat]
    cases hL : am_isL w with
    | true =>
      rw [hL] at h
      simp only [if_true] at h ⊢
      match i with
      | 0 =>
        have : w = v := by simpa using h
        subst this
        exact List.mem_cons_self
      | 1 =>
        have : v = vB false := by simpa using h.symm
        exact absurd this hv
      | i + 2 =>
        have h2 : (am_sl a)[i]? = some v := by simpa using h
        refine List.mem_cons_of_mem _ ?_
        have := ih (k + 2) i v h2 hv
        rw [show k + (i + 2) = k + 2 + i by omega]
        exact this
    | false =>
      rw [hL] at h
      simp only [Bool.false_eq_true, if_false] at h ⊢
      match i with
      | 0 =>
        have : w = v := by simpa using h
        subst this
        exact List.mem_cons_self
      | i + 1 =>
        have h2 : (am_sl a)[i]? = some v := by simpa using h
        refine List.mem_cons_of_mem _ ?_
        have := ih (k + 1) i v h2 hv
        rw [show k + (i + 1) = k + 1 + i by omega]
        exact this
theorem am_entry {ad : Nat → Nat} {b n : Nat} {a : List am_V} (h : (am_sl a).length ≤ n) : am_LH ad b ((lg_sl (a.map (am_cv ad b)) ++ List.replicate (n - (lg_sl (a.map (am_cv ad b))).length) Slot.unset).toArray) n (am_ent n a) := by
  have h1 := lv_entry (a.map (am_cv ad b)) (n := n) (by rw [am_sl_len]; exact h)
  refine am_LH.to (by unfold am_ent; simp; omega) h1 (fun i v hi hv => ?_)
  unfold am_ent at hi
  by_cases hl : i < (am_sl a).length
  · rw [List.getElem?_append_left hl] at hi
    have := am_sl_args ad b a 0 i v hi hv
    rw [Nat.zero_add] at this
    exact this
  · rw [List.getElem?_append_right (by omega)] at hi
    exact absurd (List.mem_replicate.mp (List.mem_of_getElem? hi)).2 hv
set_option maxHeartbeats 2000000 in
theorem am_met (hgood : am_allgood) (hplain : ∀ M, M < am_NM → plainName (am_Y M).cls = true) (hcode : ∀ M, am_NM ≤ M → ∀ pc, am_Pg M pc = none) : ∀ M, am_Met M := by
  intro M
  induction M using Nat.strongRecOn with
  | ind M IHM =>
  intro l D tt ad b sz f a E u r E' u' hlen hrun hO ha
  have hM : M < am_NM := by
    rcases Nat.lt_or_ge M am_NM with h | h
    · exact h
    · cases f with
      | zero => simp [am_run] at hrun
      | succ f => simp [am_run, hcode M h 0] at hrun
  refine Met.ofW (cc := am_By M) (maxL := am_Lm M) (ret := am_Re M) (hplain M hM) rfl ?_
  intro p e s m args below meth c s₁ B hml hv
  obtain ⟨rfl, hsz, hP, hK, hD0, hX, hbl, had, hnst, hao⟩ := hv
  subst hsz
  have htG : ∀ w ∈ lw_good, w.before (a.map (am_cv ad b)).toArray s = true := fun w hw => atoms_spec (ws := am_ws0 M) B.pre w (List.mem_cons_of_mem _ hw)
  have C0 : am_Cx p (headSpec (am_ws0 M) (am_rm M (E'.1.length - E.1.length) (am_szs E' - am_szs E))).room s m (a.map (am_cv ad b)).toArray meth c M D tt (va_A (am_ws ad tt E u) s.heap.size) s.heap b E.2.2 :=
    ⟨B.exec, B.bytes, hml, findClass_of_methodNamed B.named, fun w hw hg => htG w (am_in hw hg), hnst, hao, (name_of_methodNamed B.named B.method).1, Nat.le_refl _, Nat.le_refl _, hK, fun q h => Or.inr h, hX, hbl, fun z => by
      rcases z with ⟨k, e, z⟩ | z
      · obtain ⟨z1, z2⟩ := am_ws_lt z
        exact had k z1 z2.symm
      · omega⟩
  rw [lg_entry_eq]
  refine am_sim hgood IHM C0 f 0 (am_ent (am_Lm M) a) [] E u r E' u' hrun hO (am_entOK ha) (fun _ hw => by cases hw) rfl ad s.heap [] _ 0 0 (am_entry hlen) hP hD0.self va_S.rf ?_ ?_ ?_
  · show 0 + (E'.1.length - E.1.length) ≤ E'.1.length - E.1.length
    omega
  · show 0 + (am_szs E' - am_szs E) ≤ am_szs E' - am_szs E
    omega
  intro ad' H' locs' pc' ins len x v0 ls' st' lsS' hg hst hag hP' hD' hS' hO'
  rw [Nat.zero_add, Nat.zero_add]
  have hx := B.exec
  have hb := B.bytes
  have hr := B.returns
  have hlocks := B.notSynchronized
  obtain ⟨hdg, -, hgx⟩ := hg
  have HQ : ∀ t : State, t.heap = H' → s.WarmedH t.vm → am_Qcc D tt ad b s.heap.size E u r E' u' (a.map (am_cv ad b)).toArray s (.returned (r.map (am_cv ad' b))) t := fun t ht hW => ⟨⟨ad', hag, rfl, by rw [ht]; exact hP', hD'⟩, hS'.F ht⟩
  cases ins <;> simp only [am_step] at hst
  all_goals (first | (cases hst; done) | skip)
  case ireturn =>
    simp only [am_xg, Bool.and_eq_true, Bool.or_eq_true, decide_eq_true_eq] at hgx
    obtain ⟨e1, e2⟩ := hgx
    subst e1
    split at hst
    · split at hst
      · split at hst
        · rename_i a1 hx1 h01
          cases hst
          rcases e2 with ⟨-, e2⟩ | ⟨e2, -⟩
          · exact W.zret (ty := .boolean) (v := Int32.ofInt a1) hx hb (hr.trans e2) (by rcases h01 with rfl | rfl <;> rfl) (fun t ht hW => HQ t ht hW) hS'.2.2 hdg
          · exact absurd hx1 e2
        · cases hst
      · rename_i a1 hx1
        cases hst
        rcases e2 with ⟨e2, -⟩ | ⟨-, e2⟩
        · exact absurd e2 hx1
        · exact W.iret (v := Int32.ofInt a1) hx hb (hr.trans e2) (fun t ht hW => HQ t ht hW) hS'.2.2 hdg
    · cases hst
  case lreturn =>
    simp only [am_xg, Bool.and_eq_true, decide_eq_true_eq] at hgx
    obtain ⟨e1, e2⟩ := hgx
    subst e1
    split at hst
    · rename_i a1
      cases hst
      exact W.lret (v := Int64.ofInt a1) hx hb (hr.trans e2) (fun t ht hW => HQ t ht hW) hS'.2.2 hdg
    · cases hst
  case areturn =>
    simp only [am_xg, Bool.and_eq_true, Bool.or_eq_true, decide_eq_true_eq] at hgx
    obtain ⟨e1, e2⟩ := hgx
    subst e1
    split at hst
    · rename_i o
      cases hst
      have hrt : ∃ rt, am_Re M = some rt ∧ ((∃ n, rt = .object n) ∨ ∃ t, rt = .array t) := by
        rcases e2 with e2 | e2
        · exact ⟨_, e2, Or.inl ⟨_, rfl⟩⟩
        · exact ⟨_, e2, Or.inl ⟨_, rfl⟩⟩
      obtain ⟨rt, h1, h2⟩ := hrt
      exact W.aret (v := am_cv ad' b (vR o)) hx hb (hr.trans h1) h2 (by cases o with
        | none => exact Or.inl rfl
        | some k => exact Or.inr ⟨_, rfl⟩) (fun t ht hW => HQ t ht hW) hS'.2.2 hdg
    · cases hst
  case return_ =>
    simp only [am_xg, Bool.and_eq_true, decide_eq_true_eq] at hgx
    obtain ⟨e1, e2⟩ := hgx
    subst e1
    split at hst
    · cases hst
      exact W.vret hx hb (hr.trans e2) (fun t ht hW => HQ t ht hW) hS'.2.2 hdg
    · cases hst
  all_goals (repeat' split at hst)
  all_goals (first | (cases hst; done) | skip)
  all_goals (first | (obtain ⟨w, -, h, -⟩ := am_load_eq hst; cases h; done) | (rcases am_br_eq hst with ⟨-, h⟩ | ⟨-, h⟩ <;> (first | (cases h; done) | (obtain ⟨_, _, h⟩ := am_jp_eq h; cases h; done))) | (obtain ⟨_, _, h⟩ := am_jp_eq hst; cases h; done) | (obtain ⟨_, _, _, h⟩ := am_call_eq hst; cases h; done))

/-! One instruction of our machine that goes on in the same method is one of the Java machine. -/
variable {p : Program} {l : Launch} {e : Env} {R : Room} {s : State} {m : MethodId} {args : Array Value} {below : List Frame} {meth : Method} {c : Code} {Q : State → Prop}
/-- the fixed facts of a method's walk -/
def am_Cx (p : Program) (R : Room) (s : State) (m : MethodId) (args : Array Value) (meth : Method) (c : Code) (M : Nat) (D : va_G) (tt : am_TT) (A : Nat → Prop) (H0 : Heap) (b : Nat) (X : Nat × (Nat → Int)) : Prop :=
  p.tables.exec = Jvm.exec ∧ c.code = am_By M ∧ c.maxLocals = am_Lm M ∧ s.vm.findClass (am_own M) = some m.cls ∧ (∀ w ∈ lw_tbl, goodWord w = true → w.before args s = true) ∧ (∀ w ∈ lw_tbl, am_isN w = true → va_Nw w s) ∧ (va_AO (am_Cn 0) s ∧ va_AO (am_Cn 2) s) ∧ meth.name = (am_Y M).name ∧ am_fr M ≤ R.frames ∧ am_lo M ≤ R.locals ∧
  va_K D am_cls (am_tys tt) s ∧ (∀ q : Nat, H0.size ≤ q → A q) ∧ va_X b X.1 (fun j => Int32.ofInt (X.2 j)) s H0 ∧ b < H0.size ∧ ¬ A b
/-- two answers by a condition -/
theorem am_wi {H : Heap} {locs : List Loc} {cells slots : Nat} {g : JFrame} {P P' : Prop} (hP : P ↔ P') {b : Bool} (hb : b = true ↔ P') (t : b = true → W p l e R s m args below meth c H locs cells slots Q g) : P → W p l e R s m args below meth c H locs cells slots Q g := fun h => t (hb.mpr (hP.mp h))
theorem am_wn {H : Heap} {locs : List Loc} {cells slots : Nat} {g : JFrame} {P P' : Prop} (hP : P ↔ P') {b : Bool} (hb : b = true ↔ P') (t : b = false → W p l e R s m args below meth c H locs cells slots Q g) : ¬ P → W p l e R s m args below meth c H locs cells slots Q g := fun h => t (Bool.eq_false_iff.mpr fun z => h (hP.mpr (hb.mp z)))
theorem am_map_re {ad ad' : Nat → Nat} {b n : Nat} {st : List am_V} (ho : ∀ v ∈ st, am_ok n v) (ha : ∀ k, k < n → ad' k = ad k) : st.map (am_cv ad' b) = st.map (am_cv ad b) := by
  apply List.map_congr_left
  intro v hv
  have := ho v hv
  rcases v with i | i | (_ | k) | c <;> first | rfl | (show Value.ref (ad' k) = .ref (ad k); rw [ha k this])
set_option maxHeartbeats 4000000 in
theorem am_sim_step {M : Nat} {D : va_G} {tt : am_TT} {A : Nat → Prop} {H0 : Heap} {b : Nat} {X : Nat × (Nat → Int)} (C0 : am_Cx p R s m args meth c M D tt A H0 b X)
    {pc : Nat} {ins : Instr} {len : Nat} {x : List Nat} {v0 : Int} {ls st : List am_V} {E : am_E} {u : am_M} {pc' : Nat} {ls' st' : List am_V} {E' : am_E} {u' : am_M} (hg : am_good M pc ins len x v0)
    (hO : am_OK am_Ft am_nF E u) (hl : ∀ v ∈ ls, am_ok E.1.length v) (hs : ∀ v ∈ st, am_ok E.1.length v) (hXE : E.2.2 = X) (h : am_step am_Ft ins x v0 pc len ls st E u = some (.inl (pc', ls', st', E', u')))
    {ad : Nat → Nat} {H : Heap} {locs : List Loc} {lsS : Array Slot} {cells slots : Nat} (hL : am_LH ad b lsS (am_Lm M) ls) (hP : va_P D am_cls (am_ws ad tt E u) H) (hD : va_D A (am_ws ad tt E u)) (hS : va_S A H0 H locs)
    (hcl : cells + (E'.1.length - E.1.length) ≤ R.cells) (hsl : slots + (am_szs E' - am_szs E) ≤ R.slots)
    (K : ∀ (ad' : Nat → Nat) (H' : Heap) (locs' : List Loc) (lsS' : Array Slot), (∀ k, k < E.1.length → ad' k = ad k) → am_LH ad' b lsS' (am_Lm M) ls' → va_P D am_cls (am_ws ad' tt E' u') H' → va_D A (am_ws ad' tt E' u') → va_S A H0 H' locs' →
      W p l e R s m args below meth c H' locs' (cells + (E'.1.length - E.1.length)) (slots + (am_szs E' - am_szs E)) Q (F0 m pc' lsS' (st'.map (am_cv ad' b)))) :
    W p l e R s m args below meth c H locs cells slots Q (F0 m pc lsS (st.map (am_cv ad b))) := by
  obtain ⟨hx, hb, hml, hown, hts, hnst, hao, hnm, hfr, hlo, hK, hA, hX, hbl, hbA⟩ := C0
  obtain ⟨hdg, hw, hgx⟩ := hg
  have htG : ∀ w ∈ lw_good, w.before args s = true := fun w h => hts w (List.mem_filter.mp h).1 (List.mem_filter.mp h).2
  have NX : ∀ {ls1 st1 : List am_V} {lsS1 : Array Slot}, am_nx pc len ls1 st1 E u = some (.inl (pc', ls', st', E', u')) → am_LH ad b lsS1 (am_Lm M) ls1 → W p l e R s m args below meth c H locs cells slots Q (F0 m (pc + len) lsS1 (st1.map (am_cv ad b))) := by
    intro ls1 st1 lsS1 h1 h2
    have h3 := Sum.inl.inj (am_nx_eq h1)
    cases h3
    have k := K ad H locs lsS1 (fun _ _ => rfl) h2 hP hD hS
    rw [Nat.sub_self, Nat.sub_self, Nat.add_zero, Nat.add_zero] at k
    exact k
  have JP : ∀ {off : Int} {st1 : List am_V} {t : Nat}, am_jp pc off ls st1 E u = some (.inl (pc', ls', st', E', u')) → (pc : Int) + off = (t : Int) → W p l e R s m args below meth c H locs cells slots Q (F0 m t lsS (st1.map (am_cv ad b))) := by
    intro off st1 t h1 ht
    obtain ⟨t', ht', h1⟩ := am_jp_eq h1
    have h3 := Sum.inl.inj h1
    cases h3
    have : t = pc' := by omega
    subst this
    have k := K ad H locs lsS (fun _ _ => rfl) hL hP hD hS
    rw [Nat.sub_self, Nat.sub_self, Nat.add_zero, Nat.add_zero] at k
    exact k
  -- a cell of the world written: the same addresses
  have UP : ∀ {st1 : List am_V} {E1 : am_E} {u1 : am_M} {k : Nat} {q : Nat × Nat} {ce : va_E}, am_nx pc len ls st1 E1 u1 = some (.inl (pc', ls', st', E', u')) → E.1[k]? = some q → E1.1 = E.1 → (∀ k', k' ≠ k → ∀ j, u1 k' j = u k' j) → (∀ k', k' ≠ k → ∀ j, E1.2.1 k' j = E.2.1 k' j) → am_cell ad tt E1 u1 k q = ce →
      ∀ (H1 : Heap) (locs1 : List Loc), va_P D am_cls ((am_ws ad tt E u).set k (ad k, ce)) H1 → va_D A ((am_ws ad tt E u).set k (ad k, ce)) → va_S A H0 H1 locs1 → W p l e R s m args below meth c H1 locs1 cells slots Q (F0 m (pc + len) lsS (st1.map (am_cv ad b))) := by
    intro st1 E1 u1 k q ce h1 h2 h3 h4 h5 h6 H1 locs1 g1 g2 g3
    have h7 := Sum.inl.inj (am_nx_eq h1)
    cases h7
    rw [am_ws_set h2 h3 h4 h5 h6] at g1 g2
    have k := K ad H1 locs1 lsS (fun _ _ => rfl) hL g1 g2 g3
    have e1 : E'.1.length - E.1.length = 0 := by rw [h3, Nat.sub_self]
    have e2 : am_szs E' - am_szs E = 0 := by unfold am_szs; rw [h3, Nat.sub_self]
    rw [e1, e2, Nat.add_zero, Nat.add_zero] at k
    exact k
  have LD : ∀ {i : Nat} {w : am_V}, ls[i]? = some w → w ≠ vB false → lsS[i]? = some (.val (am_cv ad b w)) := fun h1 h2 => hL.2.2.2 _ _ h1 h2
  cases ins <;> simp only [am_step] at h
  all_goals (first | (cases h; done) | skip)
  case aconst_null =>
    have e1 : len = 1 := by simpa [am_xg] using hgx
    subst e1
    exact lv_null hx hb hdg (NX h hL)
  case iconst i =>
    have e1 : len = 1 := by simpa [am_xg] using hgx
    subst e1
    exact lv_iconst hx hb hdg rfl (by rw [← cv_w32]; exact NX h hL)
  case bipush i =>
    have e1 : len = 2 := by simpa [am_xg] using hgx
    subst e1
    exact lv_bipush hx hb hdg rfl (by rw [← Int32.ofInt_int8ToInt]; exact NX h hL)
  case sipush i =>
    have e1 : len = 3 := by simpa [am_xg] using hgx
    subst e1
    exact lv_sipush hx hb hdg rfl (by rw [← Int32.ofInt_int16ToInt]; exact NX h hL)
  case lconst i =>
    have e1 : len = 1 := by simpa [am_xg] using hgx
    subst e1
    exact lv_lconst hx hb hdg rfl (by rw [← Int64.ofInt_eq_ofNat]; exact NX h hL)
  case ldc i =>
    have e1 : len = 2 := by simpa [am_xg] using hgx
    subst e1
    exact lv_ldc hx hb hown (hts _ (hw _ List.mem_cons_self) rfl) hdg (by rw [← cv_w32]; exact NX h hL)
  case ldc_w i =>
    have e1 : len = 3 := by simpa [am_xg] using hgx
    subst e1
    exact lv_ldcw hx hb hown (hts _ (hw _ List.mem_cons_self) rfl) hdg (by rw [← cv_w32]; exact NX h hL)
  case ldc2_w i =>
    have e1 : len = 3 := by simpa [am_xg] using hgx
    subst e1
    exact lv_ldc2 hx hb hown (hts _ (hw _ List.mem_cons_self) rfl) hdg (by rw [← cv_w64]; exact NX h hL)
  case iload i =>
    have e1 : len = 2 := by simpa [am_xg] using hgx
    subst e1
    obtain ⟨w, h1, h2, h3⟩ := am_load_eq h
    obtain ⟨i', rfl⟩ : ∃ i', w = vI i' := by rcases h3 with ⟨z, q⟩ | ⟨z, q⟩ | ⟨z, q⟩ <;> first | exact q | (exact absurd z (by decide))
    exact lv_iload hx hb hdg (LD h1 (by intro z; cases z)) (NX h2 hL)
  case iload_n i =>
    have e1 : len = 1 := by simpa [am_xg] using hgx
    subst e1
    obtain ⟨w, h1, h2, h3⟩ := am_load_eq h
    obtain ⟨i', rfl⟩ : ∃ i', w = vI i' := by rcases h3 with ⟨z, q⟩ | ⟨z, q⟩ | ⟨z, q⟩ <;> first | exact q | (exact absurd z (by decide))
    exact lv_iload_n hx hb hdg rfl (LD h1 (by intro z; cases z)) (NX h2 hL)
  case lload i =>
    have e1 : len = 2 := by simpa [am_xg] using hgx
    subst e1
    obtain ⟨w, h1, h2, h3⟩ := am_load_eq h
    obtain ⟨i', rfl⟩ : ∃ i', w = vL i' := by rcases h3 with ⟨z, q⟩ | ⟨z, q⟩ | ⟨z, q⟩ <;> first | exact q | (exact absurd z (by decide))
    exact lv_lload hx hb hdg (LD h1 (by intro z; cases z)) (NX h2 hL)
  case lload_n i =>
    have e1 : len = 1 := by simpa [am_xg] using hgx
    subst e1
    obtain ⟨w, h1, h2, h3⟩ := am_load_eq h
    obtain ⟨i', rfl⟩ : ∃ i', w = vL i' := by rcases h3 with ⟨z, q⟩ | ⟨z, q⟩ | ⟨z, q⟩ <;> first | exact q | (exact absurd z (by decide))
    exact lv_lload_n hx hb hdg rfl (LD h1 (by intro z; cases z)) (NX h2 hL)
  case aload i =>
    have e1 : len = 2 := by simpa [am_xg] using hgx
    subst e1
    obtain ⟨w, h1, h2, h3⟩ := am_load_eq h
    rcases h3 with ⟨z, q⟩ | ⟨z, q⟩ | ⟨z, ⟨q, rfl⟩ | rfl⟩
    · exact absurd z (by decide)
    · exact absurd z (by decide)
    · cases q with
      | none => exact lv_aloadN hx hb hdg (LD h1 (by intro z; cases z)) (NX h2 hL)
      | some q => exact lv_aload hx hb hdg (LD h1 (by intro z; cases z)) (NX h2 hL)
    · exact lv_aload hx hb hdg (LD h1 (by intro z; cases z)) (NX h2 hL)
  case aload_n i =>
    have e1 : len = 1 := by simpa [am_xg] using hgx
    subst e1
    obtain ⟨w, h1, h2, h3⟩ := am_load_eq h
    rcases h3 with ⟨z, q⟩ | ⟨z, q⟩ | ⟨z, ⟨q, rfl⟩ | rfl⟩
    · exact absurd z (by decide)
    · exact absurd z (by decide)
    · cases q with
      | none => exact lv_aload_nN hx hb hdg rfl (LD h1 (by intro z; cases z)) (NX h2 hL)
      | some q => exact lv_aload_n hx hb hdg rfl (LD h1 (by intro z; cases z)) (NX h2 hL)
    · exact lv_aload_n hx hb hdg rfl (LD h1 (by intro z; cases z)) (NX h2 hL)
  case istore i =>
    have e1 : len = 2 := by simpa [am_xg] using hgx
    subst e1
    split at h
    · split at h
      · rename_i hi
        rw [hL.1] at hi
        exact lv_istore hx hb hdg hL.has hi rfl (fun ls1 h1 => NX h (hL.st1 hi rfl h1))
      · cases h
    · cases h
  case istore_n i =>
    have e1 : len = 1 := by simpa [am_xg] using hgx
    subst e1
    split at h
    · split at h
      · rename_i hi
        rw [hL.1] at hi
        exact lv_istore_n hx hb hdg rfl hL.has hi rfl (fun ls1 h1 => NX h (hL.st1 hi rfl h1))
      · cases h
    · cases h
  case lstore i =>
    have e1 : len = 2 := by simpa [am_xg] using hgx
    subst e1
    split at h
    · split at h
      · rename_i hi
        rw [hL.1] at hi
        exact lv_lstore hx hb hdg hL.has hi rfl (fun ls1 h1 => NX h (hL.st2 hi rfl h1))
      · cases h
    · cases h
  case lstore_n i =>
    have e1 : len = 1 := by simpa [am_xg] using hgx
    subst e1
    split at h
    · split at h
      · rename_i hi
        rw [hL.1] at hi
        exact lv_lstore_n hx hb hdg rfl hL.has hi rfl (fun ls1 h1 => NX h (hL.st2 hi rfl h1))
      · cases h
    · cases h
  case astore i =>
    have e1 : len = 2 := by simpa [am_xg] using hgx
    subst e1
    split at h
    · rename_i v st1
      split at h
      · rename_i hi
        obtain ⟨hi, hv⟩ := hi
        rw [hL.1] at hi
        rcases v with q | q | (_ | q) | (_ | _)
        · cases hv
        · cases hv
        · exact lv_astoreN hx hb hdg hL.has hi rfl (fun ls1 h1 => NX h (hL.st1 hi rfl h1))
        · exact lv_astore hx hb hdg hL.has hi rfl (fun ls1 h1 => NX h (hL.st1 hi rfl h1))
        · cases hv
        · exact lv_astore hx hb hdg hL.has hi rfl (fun ls1 h1 => NX h (hL.st1 hi rfl h1))
      · cases h
    · cases h
  case astore_n i =>
    have e1 : len = 1 := by simpa [am_xg] using hgx
    subst e1
    split at h
    · rename_i v st1
      split at h
      · rename_i hi
        obtain ⟨hi, hv⟩ := hi
        rw [hL.1] at hi
        rcases v with q | q | (_ | q) | (_ | _)
        · cases hv
        · cases hv
        · exact lv_astore_nN hx hb hdg rfl hL.has hi rfl (fun ls1 h1 => NX h (hL.st1 hi rfl h1))
        · exact lv_astore_n hx hb hdg rfl hL.has hi rfl (fun ls1 h1 => NX h (hL.st1 hi rfl h1))
        · cases hv
        · exact lv_astore_n hx hb hdg rfl hL.has hi rfl (fun ls1 h1 => NX h (hL.st1 hi rfl h1))
      · cases h
    · cases h
  case iinc i n =>
    have e1 : len = 3 := by simpa [am_xg] using hgx
    subst e1
    split at h
    · rename_i i1 hi
      have hlt : i < am_Lm M := by rw [← hL.1]; exact (List.getElem?_eq_some_iff.mp hi).1
      obtain ⟨k, hk⟩ := List.getElem?_of_mem (am_ll_mem.mpr ⟨_, hi, (by intro z; cases z), rfl⟩ : ((i, am_cv ad b (vI i1)) : Nat × Value) ∈ am_ll ad b ls)
      refine lv_iinc (v := Int32.ofInt (w32 (i1 + n))) hx hb hdg hL.has hk (cv_add i1 n) hlt rfl (fun ls1 h1 => NX h (hL.st1 hlt rfl h1))
    · cases h
  case dup =>
    have e1 : len = 1 := by simpa [am_xg] using hgx
    subst e1
    split at h
    · split at h
      · cases h
      · rename_i hv
        exact lv_dup hx hb hdg (am_cv_1 hv) (NX h hL)
    · cases h
  case pop =>
    have e1 : len = 1 := by simpa [am_xg] using hgx
    subst e1
    split at h
    · split at h
      · cases h
      · rename_i hv
        exact lv_pop hx hb hdg (am_cv_1 hv) (NX h hL)
    · cases h
  case dup2 =>
    have e1 : len = 1 := by simpa [am_xg] using hgx
    subst e1
    split at h
    · split at h
      · cases h
      · rename_i hv
        exact lv_dup2_11 hx hb hdg (am_cv_1 fun z => hv (Or.inl z)) (am_cv_1 fun z => hv (Or.inr z)) (NX h hL)
    · cases h
  case iadd =>
    have e1 : len = 1 := by simpa [am_xg] using hgx
    subst e1
    split at h
    · exact lv_iadd hx hb hdg (by rw [cv_add]; exact NX h hL)
    · cases h
  case isub =>
    have e1 : len = 1 := by simpa [am_xg] using hgx
    subst e1
    split at h
    · exact lv_isub hx hb hdg (by rw [cv_sub]; exact NX h hL)
    · cases h
  case imul =>
    have e1 : len = 1 := by simpa [am_xg] using hgx
    subst e1
    split at h
    · exact lv_imul hx hb hdg (by rw [cv_mul]; exact NX h hL)
    · cases h
  case ladd =>
    have e1 : len = 1 := by simpa [am_xg] using hgx
    subst e1
    split at h
    · exact lv_ladd hx hb hdg (by rw [cv_ladd]; exact NX h hL)
    · cases h
  case lsub =>
    have e1 : len = 1 := by simpa [am_xg] using hgx
    subst e1
    split at h
    · exact lv_lsub hx hb hdg (by rw [cv_lsub]; exact NX h hL)
    · cases h
  case lmul =>
    have e1 : len = 1 := by simpa [am_xg] using hgx
    subst e1
    split at h
    · exact lv_lmul hx hb hdg (by rw [cv_lmul]; exact NX h hL)
    · cases h
  case iand =>
    have e1 : len = 1 := by simpa [am_xg] using hgx
    subst e1
    split at h
    · rename_i b1 a1 st1
      have e2 := Int32.ofInt_toInt (Int32.ofInt a1 &&& Int32.ofInt b1)
      refine lv_iand hx hb hdg ?_
      rw [← e2]
      exact NX h hL
    · cases h
  case ior =>
    have e1 : len = 1 := by simpa [am_xg] using hgx
    subst e1
    split at h
    · rename_i b1 a1 st1
      have e2 := Int32.ofInt_toInt (Int32.ofInt a1 ||| Int32.ofInt b1)
      refine lv_ior hx hb hdg ?_
      rw [← e2]
      exact NX h hL
    · cases h
  case ixor =>
    have e1 : len = 1 := by simpa [am_xg] using hgx
    subst e1
    split at h
    · rename_i b1 a1 st1
      have e2 := Int32.ofInt_toInt (Int32.ofInt a1 ^^^ Int32.ofInt b1)
      refine lv_ixor hx hb hdg ?_
      rw [← e2]
      exact NX h hL
    · cases h
  case ishl =>
    have e1 : len = 1 := by simpa [am_xg] using hgx
    subst e1
    split at h
    · rename_i b1 a1 st1
      have e2 := Int32.ofInt_toInt (Int32.ofInt a1 <<< (Int32.ofInt b1 &&& 31))
      refine lv_ishl hx hb hdg ?_
      rw [← e2]
      exact NX h hL
    · cases h
  case ishr =>
    have e1 : len = 1 := by simpa [am_xg] using hgx
    subst e1
    split at h
    · rename_i b1 a1 st1
      have e2 := Int32.ofInt_toInt (Int32.ofInt a1 >>> (Int32.ofInt b1 &&& 31))
      refine lv_ishr hx hb hdg ?_
      rw [← e2]
      exact NX h hL
    · cases h
  case iushr =>
    have e1 : len = 1 := by simpa [am_xg] using hgx
    subst e1
    split at h
    · exact lv_iushr hx hb hdg (Int32.ofInt_toInt _).symm (NX h hL)
    · cases h
  case land =>
    have e1 : len = 1 := by simpa [am_xg] using hgx
    subst e1
    split at h
    · rename_i b1 a1 st1
      have e2 := Int64.ofInt_toInt (Int64.ofInt a1 &&& Int64.ofInt b1)
      refine lv_land hx hb hdg ?_
      rw [← e2]
      exact NX h hL
    · cases h
  case lor =>
    have e1 : len = 1 := by simpa [am_xg] using hgx
    subst e1
    split at h
    · rename_i b1 a1 st1
      have e2 := Int64.ofInt_toInt (Int64.ofInt a1 ||| Int64.ofInt b1)
      refine lv_lor hx hb hdg ?_
      rw [← e2]
      exact NX h hL
    · cases h
  case lxor =>
    have e1 : len = 1 := by simpa [am_xg] using hgx
    subst e1
    split at h
    · rename_i b1 a1 st1
      have e2 := Int64.ofInt_toInt (Int64.ofInt a1 ^^^ Int64.ofInt b1)
      refine lv_lxor hx hb hdg ?_
      rw [← e2]
      exact NX h hL
    · cases h
  case lshl =>
    have e1 : len = 1 := by simpa [am_xg] using hgx
    subst e1
    split at h
    · exact lv_lshl hx hb hdg (Int64.ofInt_toInt _).symm (NX h hL)
    · cases h
  case lshr =>
    have e1 : len = 1 := by simpa [am_xg] using hgx
    subst e1
    split at h
    · exact lv_lshr hx hb hdg (Int64.ofInt_toInt _).symm (NX h hL)
    · cases h
  case lushr =>
    have e1 : len = 1 := by simpa [am_xg] using hgx
    subst e1
    split at h
    · exact lv_lushr hx hb hdg (Int64.ofInt_toInt _).symm (NX h hL)
    · cases h
  case idiv =>
    have e1 : len = 1 := by simpa [am_xg] using hgx
    subst e1
    split at h
    · split at h
      · cases h
      · rename_i hne
        simp only [List.forall_mem_cons] at hs
        refine lv_idiv hx hb hdg (fun z => hne ((cv_eq hs.1 in32_0).mp (z.trans cv_0))) ?_
        rw [cv_div hs.2.1 hs.1]
        exact NX h hL
    · cases h
  case irem =>
    have e1 : len = 1 := by simpa [am_xg] using hgx
    subst e1
    split at h
    · split at h
      · cases h
      · rename_i hne
        simp only [List.forall_mem_cons] at hs
        refine lv_irem hx hb hdg (fun z => hne ((cv_eq hs.1 in32_0).mp (z.trans cv_0))) ?_
        rw [cv_rem hs.2.1 hs.1]
        exact NX h hL
    · cases h
  case ineg =>
    have e1 : len = 1 := by simpa [am_xg] using hgx
    subst e1
    split at h
    · exact lv_ineg hx hb hdg (by rw [cv_neg]; exact NX h hL)
    · cases h
  case lcmp =>
    have e1 : len = 1 := by simpa [am_xg] using hgx
    subst e1
    split at h
    · simp only [List.forall_mem_cons] at hs
      refine W.lcmp hx hb hdg ?_
      rw [cv_lcmp hs.2.1 hs.1]
      exact NX h hL
    · cases h
  case i2l =>
    have e1 : len = 1 := by simpa [am_xg] using hgx
    subst e1
    split at h
    · simp only [List.forall_mem_cons] at hs
      exact lv_i2l hx hb hdg (cv_i2l hs.1) (NX h hL)
    · cases h
  case l2i =>
    have e1 : len = 1 := by simpa [am_xg] using hgx
    subst e1
    split at h
    · simp only [List.forall_mem_cons] at hs
      exact lv_l2i hx hb hdg (cv_l2i hs.1) (NX h hL)
    · cases h
  case i2b =>
    have e1 : len = 1 := by simpa [am_xg] using hgx
    subst e1
    split at h
    · simp only [List.forall_mem_cons] at hs
      exact lv_i2b hx hb hdg (cv_i2b hs.1) (NX h hL)
    · cases h
  case i2s =>
    have e1 : len = 1 := by simpa [am_xg] using hgx
    subst e1
    split at h
    · simp only [List.forall_mem_cons] at hs
      exact lv_i2s hx hb hdg (cv_i2s hs.1) (NX h hL)
    · cases h
  case ifCond cnd off =>
    simp only [am_xg, Bool.and_eq_true, decide_eq_true_eq] at hgx
    obtain ⟨e1, ho⟩ := hgx
    subst e1
    obtain ⟨tgt, ht⟩ : ∃ t : Nat, (pc : Int) + off = (t : Int) := ⟨_, (Int.toNat_of_nonneg ho).symm⟩
    split at h
    · rename_i a1 st1
      simp only [List.forall_mem_cons] at hs
      have T : am_c1 cnd a1 = true → W p l e R s m args below meth c H locs cells slots Q (F0 m tgt lsS (st1.map (am_cv ad b))) := fun z => by
        rcases am_br_eq h with ⟨_, h⟩ | ⟨z2, _⟩
        · exact JP h ht
        · rw [z] at z2; cases z2
      have N : am_c1 cnd a1 = false → W p l e R s m args below meth c H locs cells slots Q (F0 m (pc + 3) lsS (st1.map (am_cv ad b))) := fun z => by
        rcases am_br_eq h with ⟨z2, _⟩ | ⟨_, h⟩
        · rw [z] at z2; cases z2
        · exact NX h hL
      have ha := hs.1
      cases cnd
      · exact lv_if_eq hx hb hdg ht (am_wi (cv_eq ha in32_0) (by simp [am_c1]) T) (am_wn (cv_eq ha in32_0) (by simp [am_c1]) N)
      · exact lv_if_ne hx hb hdg ht (am_wi (not_congr (cv_eq ha in32_0)) (by simp [am_c1]) T) (fun z => N (by have := (cv_eq ha in32_0).mp z; simp [am_c1, this]))
      · exact lv_if_lt hx hb hdg ht (am_wi (cv_lt ha in32_0) (by simp [am_c1]) T) (am_wn (cv_lt ha in32_0) (by simp [am_c1]) N)
      · exact lv_if_ge hx hb hdg ht (am_wi (cv_le in32_0 ha) (by simp [am_c1]) T) (am_wn (cv_le in32_0 ha) (by simp [am_c1]) N)
      · exact lv_if_gt hx hb hdg ht (am_wi (cv_lt in32_0 ha) (by simp [am_c1]) T) (am_wn (cv_lt in32_0 ha) (by simp [am_c1]) N)
      · exact lv_if_le hx hb hdg ht (am_wi (cv_le ha in32_0) (by simp [am_c1]) T) (am_wn (cv_le ha in32_0) (by simp [am_c1]) N)
    · cases h
  case if_icmp cnd off =>
    simp only [am_xg, Bool.and_eq_true, decide_eq_true_eq] at hgx
    obtain ⟨e1, ho⟩ := hgx
    subst e1
    obtain ⟨tgt, ht⟩ : ∃ t : Nat, (pc : Int) + off = (t : Int) := ⟨_, (Int.toNat_of_nonneg ho).symm⟩
    split at h
    · rename_i b1 a1 st1
      simp only [List.forall_mem_cons] at hs
      have T : am_c2 cnd a1 b1 = true → W p l e R s m args below meth c H locs cells slots Q (F0 m tgt lsS (st1.map (am_cv ad b))) := fun z => by
        rcases am_br_eq h with ⟨_, h⟩ | ⟨z2, _⟩
        · exact JP h ht
        · rw [z] at z2; cases z2
      have N : am_c2 cnd a1 b1 = false → W p l e R s m args below meth c H locs cells slots Q (F0 m (pc + 3) lsS (st1.map (am_cv ad b))) := fun z => by
        rcases am_br_eq h with ⟨z2, _⟩ | ⟨_, h⟩
        · rw [z] at z2; cases z2
        · exact NX h hL
      have hb1 := hs.1
      have ha := hs.2.1
      cases cnd
      · exact lv_icmp_eq hx hb hdg ht (am_wi (cv_eq ha hb1) (by simp [am_c2]) T) (am_wn (cv_eq ha hb1) (by simp [am_c2]) N)
      · exact lv_icmp_ne hx hb hdg ht (am_wi (not_congr (cv_eq ha hb1)) (by simp [am_c2]) T) (fun z => N (by have := (cv_eq ha hb1).mp z; simp [am_c2, this]))
      · exact lv_icmp_lt hx hb hdg ht (am_wi (cv_lt ha hb1) (by simp [am_c2]) T) (am_wn (cv_lt ha hb1) (by simp [am_c2]) N)
      · exact lv_icmp_ge hx hb hdg ht (am_wi (cv_le hb1 ha) (by simp [am_c2]) T) (am_wn (cv_le hb1 ha) (by simp [am_c2]) N)
      · exact lv_icmp_gt hx hb hdg ht (am_wi (cv_lt hb1 ha) (by simp [am_c2]) T) (am_wn (cv_lt hb1 ha) (by simp [am_c2]) N)
      · exact lv_icmp_le hx hb hdg ht (am_wi (cv_le ha hb1) (by simp [am_c2]) T) (am_wn (cv_le ha hb1) (by simp [am_c2]) N)
    · cases h
  case goto off =>
    simp only [am_xg, Bool.and_eq_true, decide_eq_true_eq] at hgx
    obtain ⟨e1, ho⟩ := hgx
    subst e1
    obtain ⟨tgt, ht⟩ : ∃ t : Nat, (pc : Int) + off = (t : Int) := ⟨_, (Int.toNat_of_nonneg ho).symm⟩
    exact lv_goto hx hb hdg ht (JP h ht)
  case ifnull off =>
    simp only [am_xg, Bool.and_eq_true, decide_eq_true_eq] at hgx
    obtain ⟨e1, ho⟩ := hgx
    subst e1
    obtain ⟨tgt, ht⟩ : ∃ t : Nat, (pc : Int) + off = (t : Int) := ⟨_, (Int.toNat_of_nonneg ho).symm⟩
    split at h
    · exact lv_ifnullN hx hb hdg ht (JP h ht)
    · exact lv_ifnull hx hb hdg (NX h hL)
    · cases h
  case ifnonnull off =>
    simp only [am_xg, Bool.and_eq_true, decide_eq_true_eq] at hgx
    obtain ⟨e1, ho⟩ := hgx
    subst e1
    obtain ⟨tgt, ht⟩ : ∃ t : Nat, (pc : Int) + off = (t : Int) := ⟨_, (Int.toNat_of_nonneg ho).symm⟩
    split at h
    · exact lv_ifnonnullN hx hb hdg (NX h hL)
    · exact lv_ifnonnull hx hb hdg ht (JP h ht)
    · cases h
  case tableswitch d lo hi offs =>
    split at h
    · rename_i a1 st1
      simp only [List.forall_mem_cons] at hs
      rcases am_br_eq h with ⟨z, h⟩ | ⟨z, h⟩
      · obtain ⟨t, ht, -⟩ := am_jp_eq h
        exact lv_tableOut hx hb hdg (by rw [cv_int hs.1]; exact of_decide_eq_true z) ht (JP h ht)
      · split at h
        · rename_i off ho
          obtain ⟨t, ht, -⟩ := am_jp_eq h
          have z := of_decide_eq_false z
          exact lv_tableIn hx hb hdg (by rw [cv_int hs.1]; exact fun q => z (Or.inl q)) (by rw [cv_int hs.1]; exact fun q => z (Or.inr q)) (by rw [cv_int hs.1]; exact ho) ht (JP h ht)
        · cases h
    · cases h
  case lookupswitch d ps =>
    split at h
    · rename_i a1 st1
      simp only [List.forall_mem_cons] at hs
      split at h
      · rename_i hp
        obtain ⟨t, ht, -⟩ := am_jp_eq h
        exact lv_lookup hx hb hdg hp (by rw [cv_int hs.1]) ht (JP h ht)
      · cases h
    · cases h
  case getfield i =>
    split at h
    · split at h
      · rename_i k st1 ci N j r hk
        obtain ⟨nest, rfl⟩ : ∃ nest, r = [nest] := by
          rcases r with _ | ⟨a, _ | ⟨_, _⟩⟩
          · simp [am_xg] at hgx
          · exact ⟨a, rfl⟩
          · simp [am_xg] at hgx
        simp only [am_xg, Bool.and_eq_true, decide_eq_true_eq] at hgx
        obtain ⟨⟨⟨e1, hc⟩, hN⟩, hj⟩ := hgx
        subst e1; subst hN
        have he := am_ws_get (ad := ad) (tt := tt) (u := u) hk
        rw [am_cell_o hc] at he
        have hf := am_fld hc hj
        have fin : W p l e R s m args below meth c H locs cells slots Q (F0 m (pc + 3) lsS (am_fv ad (am_Ft ci j) (u k j) (E.2.1 k j) :: st1.map (am_cv ad b))) := by
          split at h
          · rename_i e; rw [e]; exact NX h hL
          · rename_i e; rw [e]; have := NX h hL; rw [List.map_cons, am_cv_R] at this; exact this
          · rename_i e1 e2; have : am_fv ad (am_Ft ci j) (u k j) (E.2.1 k j) = .int (Int32.ofInt (u k j)) := by
              unfold am_fv; split
              · rename_i q; exact absurd q e1
              · rename_i q; exact absurd q e2
              · rfl
            rw [this]; exact NX h hL
        cases nest with
        | zero => exact va_get hx hb htG (am_uwsG ci hc) hown hK hP k he (am_cls_get hc) j hj (hts _ (hw _ List.mem_cons_self) rfl) (fun _ q => by rw [hf.2.1] at q; exact q) (am_fs_get hj) hdg fin
        | succ n => exact va_getN hx hb htG (am_uwsG ci hc) hown hK hP k he (am_cls_get hc) j hj (va_Nw.use rfl (hnst _ (hw _ List.mem_cons_self) rfl)) (fun _ q => by rw [hf.2.1] at q; exact q) (am_fs_get hj) hdg fin
      · cases h
    · cases h
  case putfield i =>
    split at h
    · split at h
      · rename_i v k st1 ci N j r hk
        obtain ⟨nest, rfl⟩ : ∃ nest, r = [nest] := by
          rcases r with _ | ⟨a, _ | ⟨_, _⟩⟩
          · simp [am_xg] at hgx
          · exact ⟨a, rfl⟩
          · simp [am_xg] at hgx
        simp only [am_xg, Bool.and_eq_true, decide_eq_true_eq] at hgx
        obtain ⟨⟨⟨⟨e1, hc⟩, hN⟩, hj⟩, hfin⟩ := hgx
        subst e1; subst hN
        have he := am_ws_get (ad := ad) (tt := tt) (u := u) hk
        rw [am_cell_o hc] at he
        have hf := am_fld hc hj
        have fin : narrow (am_fty ci j) (am_cv ad b v) = am_cv ad b v ∧ fits (am_fty ci j) (am_cv ad b v) = true ∧ ∀ (H1 : Heap) (locs1 : List Loc), va_P D am_cls ((am_ws ad tt E u).set k (ad k, .inr (ci, ((List.range (am_nF ci)).map fun j => am_fv ad (am_Ft ci j) (u k j) (E.2.1 k j)).set j (am_cv ad b v)))) H1 → va_D A ((am_ws ad tt E u).set k (ad k, .inr (ci, ((List.range (am_nF ci)).map fun j => am_fv ad (am_Ft ci j) (u k j) (E.2.1 k j)).set j (am_cv ad b v)))) → va_S A H0 H1 locs1 → W p l e R s m args below meth c H1 locs1 cells slots Q (F0 m (pc + 3) lsS (st1.map (am_cv ad b))) := by
          have ci_up : ∀ {a : Int}, am_fv ad (am_Ft ci j) a (E.2.1 k j) = am_cv ad b v → am_nx pc 3 ls st1 E (am_up u k j a) = some (.inl (pc', ls', st', E', u')) → ∀ (H1 : Heap) (locs1 : List Loc), va_P D am_cls ((am_ws ad tt E u).set k (ad k, .inr (ci, ((List.range (am_nF ci)).map fun j => am_fv ad (am_Ft ci j) (u k j) (E.2.1 k j)).set j (am_cv ad b v)))) H1 → va_D A ((am_ws ad tt E u).set k (ad k, .inr (ci, ((List.range (am_nF ci)).map fun j => am_fv ad (am_Ft ci j) (u k j) (E.2.1 k j)).set j (am_cv ad b v)))) → va_S A H0 H1 locs1 → W p l e R s m args below meth c H1 locs1 cells slots Q (F0 m (pc + 3) lsS (st1.map (am_cv ad b))) := by
            intro a ha h1
            refine UP h1 hk rfl (fun k' hk' j' => by simp [am_up, hk']) (fun _ _ _ => rfl) ?_
            rw [am_cell_o hc]
            rw [am_fs_set (E' := E) (u' := am_up u k j a) (by simp only [am_up, and_self, if_true]; exact ha.symm) (fun i hi => by simp [am_up, hi]) (fun _ _ => rfl)]
          rcases hf.2.2 with ⟨t0, t1⟩ | ⟨t0, t1⟩ | ⟨t0, t1⟩ | ⟨t0, t1⟩ <;> rw [t0] at h <;> (try dsimp only at h)
          · split at h <;> rename_i h9
            all_goals (try (cases h; done))
            all_goals (try (cases h9; done))
            rw [t1]
            exact ⟨rfl, rfl, ci_up (by rw [t0]; rfl) h⟩
          · split at h <;> rename_i h9
            all_goals (try (cases h; done))
            all_goals (try (cases h9; done))
            rw [t1]
            exact ⟨rfl, rfl, ci_up (by rw [t0]; rfl) h⟩
          · rcases v with q | q | o | q <;> try (cases h; done)
            refine ⟨by rcases t1 with ⟨n, t1⟩ | ⟨n, t1⟩ <;> rw [t1] <;> cases o <;> rfl, by rcases t1 with ⟨n, t1⟩ | ⟨n, t1⟩ <;> rw [t1] <;> cases o <;> rfl, UP h hk rfl (fun _ _ _ => rfl) (fun k' hk' j' => by simp [am_rp, hk']) ?_⟩
            rw [am_cell_o hc]
            rw [am_fs_set (E' := (E.1, am_rp E.2.1 k j o, E.2.2)) (u' := u) (by rw [t0]; simp only [am_rp, and_self, if_true]; exact am_cv_R ad b o) (fun _ _ => rfl) (fun i hi => by simp [am_rp, hi])]
          · split at h <;> rename_i h9
            all_goals (try (cases h; done))
            all_goals (try (cases h9; done))
            split at h
            · rename_i a _ q
              rw [t1]
              refine ⟨by rcases q with rfl | rfl <;> rfl, by rcases q with rfl | rfl <;> rfl, ci_up (by rw [t0]; rfl) h⟩
            · cases h
        have hfs : j < ((List.range (am_nF ci)).map fun j => am_fv ad (am_Ft ci j) (u k j) (E.2.1 k j)).length := by simpa using hj
        cases hff : ((am_Tn ci) j).2.2.2 with
        | false =>
          cases nest with
          | zero => exact va_put hx hb htG (am_uwsG ci hc) (am_fty ci) (fun k hk => (am_fld hc hk).1) (am_names ci hc) hown hK hP hD hS k he (am_cls_get hc) j hj (hts _ (hw _ List.mem_cons_self) rfl) (fun _ q => by rw [hf.2.1] at q; exact q) hff hf.1 fin.1 fin.2.1 hfs hdg fin.2.2
          | succ n => exact va_putN hx hb htG (am_uwsG ci hc) (am_fty ci) (fun k hk => (am_fld hc hk).1) (am_names ci hc) hown hK hP hD hS k he (am_cls_get hc) j hj (va_Nw.use rfl (hnst _ (hw _ List.mem_cons_self) rfl)) (fun _ q => by rw [hf.2.1] at q; exact q) hff hf.1 fin.1 fin.2.1 hfs hdg fin.2.2
        | true =>
          rw [hff] at hfin
          simp only [Bool.not_true, Bool.false_or, Bool.and_eq_true, decide_eq_true_eq] at hfin
          obtain ⟨⟨⟨f1, f2⟩, f3⟩, f4⟩ := hfin
          subst f1
          exact va_putF hx hb htG (am_uwsG ci hc) (am_fty ci) (fun k hk => (am_fld hc hk).1) (am_names ci hc) hown hK hP hD hS k he (am_cls_get hc) j hj (hts _ (hw _ List.mem_cons_self) rfl) (fun _ q => by rw [hf.2.1] at q; exact q) hff (hnm.trans f4) f3 hf.1 fin.1 fin.2.1 hfs hdg fin.2.2
      · cases h
    · cases h
  case iaload =>
    have e1 : len = 1 := by simpa [am_xg] using hgx
    subst e1
    split at h
    · split at h
      · rename_i q
        simp only [List.forall_mem_cons] at hs
        obtain ⟨n, hk, hn⟩ := am_len_pos q.1 q.2
        have he := am_ws_get (ad := ad) (tt := tt) (u := u) hk
        refine va_iald hx hb hK hP _ 0 he rfl (cv_in hs.1 q.1 hn) hdg ?_
        rw [cv_nat hs.1 q.1]
        exact NX h hL
      · cases h
    · split at h
      · rename_i q
        simp only [List.forall_mem_cons] at hs
        refine va_sld hx hb hX hbl hbA hS (cv_in hs.1 q.1 (by rw [← hXE]; exact q.2)) hdg ?_
        rw [cv_nat hs.1 q.1, ← hXE]
        exact NX h hL
      · cases h
    · cases h
  case laload =>
    have e1 : len = 1 := by simpa [am_xg] using hgx
    subst e1
    split at h
    · split at h
      · rename_i q
        simp only [List.forall_mem_cons] at hs
        obtain ⟨n, hk, hn⟩ := am_len_pos q.1 q.2
        have he := am_ws_get (ad := ad) (tt := tt) (u := u) hk
        refine va_lald hx hb hK hP _ 1 he rfl (cv_in hs.1 q.1 hn) hdg ?_
        rw [cv_nat hs.1 q.1]
        exact NX h hL
      · cases h
    · cases h
  case aaload =>
    have e1 : len = 1 := by simpa [am_xg] using hgx
    subst e1
    split at h
    · split at h
      · rename_i q
        simp only [List.forall_mem_cons] at hs
        rcases q.2 with z | z
        · obtain ⟨n, hk, hn⟩ := am_len_pos q.1 z
          have he := am_ws_get (ad := ad) (tt := tt) (u := u) hk
          refine va_aldq hx hb hK hP _ 2 he rfl (cv_in hs.1 q.1 hn) hdg ?_
          rw [cv_nat hs.1 q.1]
          have := NX h hL
          rw [List.map_cons, am_cv_R] at this
          exact this
        · obtain ⟨n, hk, hn⟩ := am_len_pos q.1 z
          have he := am_ws_get (ad := ad) (tt := tt) (u := u) hk
          refine va_aldq hx hb hK hP _ 3 he rfl (cv_in hs.1 q.1 hn) hdg ?_
          rw [cv_nat hs.1 q.1]
          have := NX h hL
          rw [List.map_cons, am_cv_R] at this
          exact this
      · cases h
    · cases h
  case iastore =>
    have e1 : len = 1 := by simpa [am_xg] using hgx
    subst e1
    split at h
    · split at h
      · rename_i v i k st1 q
        simp only [List.forall_mem_cons] at hs
        obtain ⟨n, hk, hn⟩ := am_len_pos q.1 q.2
        have he := am_ws_get (ad := ad) (tt := tt) (u := u) hk
        refine va_iast hx hb hK hP hD hS _ 0 he rfl (cv_in hs.2.1 q.1 hn) hdg ?_
        refine UP h hk rfl (fun k' hk' j' => by simp [am_up, hk']) (fun _ _ _ => rfl) ?_
        show (Sum.inl (tt.1, n, Sum.inl fun j => Int32.ofInt (am_up u k i.toNat v k j)) : va_E) = _
        rw [cv_nat hs.2.1 q.1]
        congr 4
        funext j
        by_cases hj : j = i.toNat <;> simp [am_up, upd, hj]
      · cases h
    · cases h
  case lastore =>
    have e1 : len = 1 := by simpa [am_xg] using hgx
    subst e1
    split at h
    · split at h
      · rename_i v i k st1 q
        simp only [List.forall_mem_cons] at hs
        obtain ⟨n, hk, hn⟩ := am_len_pos q.1 q.2
        have he := am_ws_get (ad := ad) (tt := tt) (u := u) hk
        refine va_last hx hb hK hP hD hS _ 1 he rfl (cv_in hs.2.1 q.1 hn) hdg ?_
        refine UP h hk rfl (fun k' hk' j' => by simp [am_up, hk']) (fun _ _ _ => rfl) ?_
        show (Sum.inl (tt.2.1, n, Sum.inr (Sum.inl fun j => Int64.ofInt (am_up u k i.toNat v k j))) : va_E) = _
        rw [cv_nat hs.2.1 q.1]
        congr 5
        funext j
        by_cases hj : j = i.toNat <;> simp [am_up, vp_updL, hj]
      · cases h
    · cases h
  case aastore =>
    have e1 : len = 1 := by simpa [am_xg] using hgx
    subst e1
    split at h
    · split at h
      · rename_i v i k st1 q
        simp only [List.forall_mem_cons] at hs
        rcases q.2 with z | z
        · obtain ⟨n, hk, hn⟩ := am_len_pos q.1 z.1
          obtain ⟨N, hv⟩ := am_kn_eq z.2 (by decide)
          have he := am_ws_get (ad := ad) (tt := tt) (u := u) hk
          have hve := am_ws_get (ad := ad) (tt := tt) (u := u) hv
          rw [am_cell_o (by decide)] at hve
          refine va_astq hx hb hK hP hD hS _ 2 _ 0 he rfl hve (am_cls_get (by decide)) (cv_in hs.2.1 q.1 hn) hdg ?_
          refine UP h hk rfl (fun _ _ _ => rfl) (fun k' hk' j' => by simp [am_rp, hk']) ?_
          show (Sum.inl (tt.2.2.1, n, Sum.inr (Sum.inr (Sum.inr (Sum.inr fun j => (am_rp E.2.1 k i.toNat (some v) k j).map ad)))) : va_E) = _
          rw [cv_nat hs.2.1 q.1]
          congr 7
          funext j
          by_cases hj : j = i.toNat <;> simp [am_rp, va_up, hj]
        · obtain ⟨n, hk, hn⟩ := am_len_pos q.1 z.1
          obtain ⟨N, hv⟩ := am_kn_eq z.2 (by decide)
          have he := am_ws_get (ad := ad) (tt := tt) (u := u) hk
          have hve := am_ws_get (ad := ad) (tt := tt) (u := u) hv
          rw [am_cell_o (by decide)] at hve
          refine va_astq hx hb hK hP hD hS _ 3 _ 2 he rfl hve (am_cls_get (by decide)) (cv_in hs.2.1 q.1 hn) hdg ?_
          refine UP h hk rfl (fun _ _ _ => rfl) (fun k' hk' j' => by simp [am_rp, hk']) ?_
          show (Sum.inl (tt.2.2.2, n, Sum.inr (Sum.inr (Sum.inr (Sum.inr fun j => (am_rp E.2.1 k i.toNat (some v) k j).map ad)))) : va_E) = _
          rw [cv_nat hs.2.1 q.1]
          congr 7
          funext j
          by_cases hj : j = i.toNat <;> simp [am_rp, va_up, hj]
      · cases h
    · cases h
  case arraylength =>
    have e1 : len = 1 := by simpa [am_xg] using hgx
    subst e1
    split at h
    · rename_i k st1
      split at h
      · rename_i n hn
        unfold am_size at hn
        cases hk : E.1[k]? with
        | none => rw [hk] at hn; cases hn
        | some q =>
          obtain ⟨t, N⟩ := q
          rw [hk] at hn
          dsimp only at hn
          split at hn
          · rename_i ht
            cases hn
            have he := am_ws_get (ad := ad) (tt := tt) (u := u) hk
            have k2 := NX h hL
            rw [List.map_cons] at k2
            have e2 : Int32.ofNat n = Int32.ofInt (n : Int) := Int32.ofInt_eq_ofNat.symm
            rcases hO.2.2.2.1 k _ hk with z | z
            · exact absurd z.1 (by dsimp only; omega)
            · have ht4 : t = 10 ∨ t = 11 ∨ t = 12 ∨ t = 13 := by have z1 := z.1; have z2 := z.2.1; dsimp only at z1 z2; omega
              rcases ht4 with rfl | rfl | rfl | rfl
              · exact va_alen hx hb hK hP _ 0 he rfl e2 hdg k2
              · exact va_alen hx hb hK hP _ 1 he rfl e2 hdg k2
              · exact va_alen hx hb hK hP _ 2 he rfl e2 hdg k2
              · exact va_alen hx hb hK hP _ 3 he rfl e2 hdg k2
          · cases hn
      · cases h
    · have k2 := NX h hL
      rw [List.map_cons] at k2
      refine va_slen hx hb hX hbl hbA hS hdg ?_
      rw [← hXE, ← Int32.ofInt_eq_ofNat]
      exact k2
    · cases h
  case new i =>
    split at h
    · rename_i ci N r
      obtain rfl : r = [] := by
        rcases r with _ | ⟨a, r⟩
        · rfl
        · simp [am_xg] at hgx
      simp only [am_xg, Bool.and_eq_true, decide_eq_true_eq] at hgx
      obtain ⟨⟨e1, hc⟩, hN⟩ := hgx
      subst e1; subst hN
      have hw3 := List.forall_mem_cons.mp hw
      have hw4 := List.forall_mem_cons.mp hw3.2
      have h7 := Sum.inl.inj (am_nx_eq h)
      cases h7
      have z1 : (E.1 ++ [(ci, am_nF ci)]).length - E.1.length = 1 := by simp
      have z2 : am_szs (E.1 ++ [(ci, am_nF ci)], am_zq E.2.1 E.1.length, E.2.2) - am_szs E = am_nF ci := by simp [am_szs]
      dsimp only at hcl hsl K
      rw [z1] at hcl
      rw [z2] at hsl
      rw [z1, z2] at K
    
      refine va_new (fs := (List.range (am_nF ci)).map fun j => am_fv ad (am_Ft ci j) 0 none) hx hb htG (am_uwsG ci hc) (am_fty ci) (fun k hk => (am_fld hc hk).1) hown (hts _ hw3.1 rfl) (hts _ hw4.1 rfl) (hts _ (hw4.2 _ List.mem_cons_self) rfl) hK hP hD hS hA (am_cls_get hc) (fun j hj => ?_) hcl hsl hdg (fun qa H1 g1 g2 g3 => ?_)
      · unfold vp_V
        rw [List.getD_eq_getElem?_getD, List.getElem?_map, List.getElem?_range hj]
        show defaultValue (am_fty ci j) = am_fv ad (am_Ft ci j) 0 none
        rcases (am_fld hc hj).2.2 with ⟨t0, t1⟩ | ⟨t0, t1⟩ | ⟨t0, ⟨n, t1⟩ | ⟨n, t1⟩⟩ | ⟨t0, t1⟩ <;> rw [t0, t1] <;> rfl
      · have ha : ∀ i, i < E.1.length → va_up ad E.1.length qa i = ad i := fun i hi => va_up_ne _ _ (Nat.ne_of_lt hi)
        rw [am_ws_push (q := (ci, am_nF ci)) hO.2.2.1 ha (va_up_self ad E.1.length qa) (by rw [am_cell_o hc]; congr 2; apply List.map_congr_left; intro j _; simp [am_zr, am_zq, am_fv])] at g1 g2
        have k := K (va_up ad E.1.length qa) H1 locs lsS ha (hL.re hl ha) g1 g2 g3
        rw [List.map_cons] at k
        rw [am_map_re hs ha] at k
        have e5 : am_cv (va_up ad E.1.length qa) b (vR (some E.1.length)) = .ref qa := by show Value.ref (va_up ad E.1.length qa E.1.length) = _; rw [va_up_self]
        rw [e5] at k
        exact k
    · cases h
  case newarray t =>
    have e1 : len = 2 := by simpa [am_xg] using hgx
    subst e1
    split at h
    · split at h
      · rename_i n st1 q
        have hN : (Int32.ofInt n).toNatClampNeg = n.toNat := cv_nat (hs _ List.mem_cons_self) q.1
        have h7 := Sum.inl.inj (am_nx_eq h)
        cases h7
        have z1 : (E.1 ++ [(10, n.toNat)]).length - E.1.length = 1 := by simp
        have z2 : am_szs (E.1 ++ [(10, n.toNat)], am_zq E.2.1 E.1.length, E.2.2) - am_szs E = n.toNat := by simp [am_szs]
        dsimp only at hcl hsl K
        rw [z1] at hcl
        rw [z2] at hsl
        rw [z1, z2] at K
        refine va_newa (a0 := (n.toNat, .inl fun _ => 0)) hx hb (hts _ (hw _ List.mem_cons_self) rfl) rfl hK hP hD hS hA (fun cA => rfl) (fun z => absurd ((cv_lt (hs _ List.mem_cons_self) in32_0).mp z) (by omega)) hN (Nat.le_trans (Nat.mul_le_mul (show n.toNat ≤ 10000 by omega) (show componentBytes _ ≤ 8 by decide)) (by decide)) hcl hsl hdg (fun qa cA H1 hK1 g1 g2 g3 => ?_)
        have ec := am_RA_inj hK1 (t0 := 0) rfl hK
        subst ec
        have hs := (List.forall_mem_cons.mp hs).2
        have ha : ∀ i, i < E.1.length → va_up ad E.1.length qa i = ad i := fun i hi => va_up_ne _ _ (Nat.ne_of_lt hi)
        rw [am_ws_push (q := (10, n.toNat)) hO.2.2.1 ha (va_up_self ad E.1.length qa) (by simp [am_cell, am_zr])] at g1 g2
        have k := K (va_up ad E.1.length qa) H1 locs lsS ha (hL.re hl ha) g1 g2 g3
        rw [List.map_cons] at k
        rw [am_map_re hs ha] at k
        have e5 : am_cv (va_up ad E.1.length qa) b (vR (some E.1.length)) = .ref qa := by show Value.ref (va_up ad E.1.length qa E.1.length) = _; rw [va_up_self]
        rw [e5] at k
        exact k
      · cases h
    · split at h
      · rename_i n st1 q
        have hN : (Int32.ofInt n).toNatClampNeg = n.toNat := cv_nat (hs _ List.mem_cons_self) q.1
        have h7 := Sum.inl.inj (am_nx_eq h)
        cases h7
        have z1 : (E.1 ++ [(11, n.toNat)]).length - E.1.length = 1 := by simp
        have z2 : am_szs (E.1 ++ [(11, n.toNat)], am_zq E.2.1 E.1.length, E.2.2) - am_szs E = n.toNat := by simp [am_szs]
        dsimp only at hcl hsl K
        rw [z1] at hcl
        rw [z2] at hsl
        rw [z1, z2] at K
        refine va_newa (a0 := (n.toNat, .inr (.inl fun _ => 0))) hx hb (hts _ (hw _ List.mem_cons_self) rfl) rfl hK hP hD hS hA (fun cA => rfl) (fun z => absurd ((cv_lt (hs _ List.mem_cons_self) in32_0).mp z) (by omega)) hN (Nat.le_trans (Nat.mul_le_mul (show n.toNat ≤ 10000 by omega) (show componentBytes _ ≤ 8 by decide)) (by decide)) hcl hsl hdg (fun qa cA H1 hK1 g1 g2 g3 => ?_)
        have ec := am_RA_inj hK1 (t0 := 1) rfl hK
        subst ec
        have hs := (List.forall_mem_cons.mp hs).2
        have ha : ∀ i, i < E.1.length → va_up ad E.1.length qa i = ad i := fun i hi => va_up_ne _ _ (Nat.ne_of_lt hi)
        rw [am_ws_push (q := (11, n.toNat)) hO.2.2.1 ha (va_up_self ad E.1.length qa) (by simp [am_cell, am_zr])] at g1 g2
        have k := K (va_up ad E.1.length qa) H1 locs lsS ha (hL.re hl ha) g1 g2 g3
        rw [List.map_cons] at k
        rw [am_map_re hs ha] at k
        have e5 : am_cv (va_up ad E.1.length qa) b (vR (some E.1.length)) = .ref qa := by show Value.ref (va_up ad E.1.length qa E.1.length) = _; rw [va_up_self]
        rw [e5] at k
        exact k
      · cases h
    · cases h
  case anewarray i =>
    split at h
    · rename_i n st1 t r
      have hr : r = [] ∧ (t = 12 ∨ t = 13) ∧ len = 3 := by
        unfold am_xg at hgx
        dsimp only at hgx
        split at hgx
        · rename_i hh; cases hh; exact ⟨rfl, Or.inl rfl, of_decide_eq_true hgx⟩
        · rename_i hh; cases hh; exact ⟨rfl, Or.inr rfl, of_decide_eq_true hgx⟩
        · cases hgx
      obtain ⟨rfl, ht, e1⟩ := hr
      subst e1
      split at h
      · rename_i q
        have hN : (Int32.ofInt n).toNatClampNeg = n.toNat := cv_nat (hs _ List.mem_cons_self) q.1
        rcases ht with rfl | rfl
        · have hw3 := List.forall_mem_cons.mp hw
          have h7 := Sum.inl.inj (am_nx_eq h)
          cases h7
          have z1 : (E.1 ++ [(12, n.toNat)]).length - E.1.length = 1 := by simp
          have z2 : am_szs (E.1 ++ [(12, n.toNat)], am_zq E.2.1 E.1.length, E.2.2) - am_szs E = n.toNat := by simp [am_szs]
          dsimp only at hcl hsl K
          rw [z1] at hcl
          rw [z2] at hsl
          rw [z1, z2] at K
          refine va_newq hx hb hown (hts _ hw3.1 rfl) hao.1 hK hP hD hS hA (fun z => absurd ((cv_lt (hs _ List.mem_cons_self) in32_0).mp z) (by omega)) hN (by omega) hcl hsl hdg (fun qa cA H1 hK1 g1 g2 g3 => ?_)
          have ec := am_RA_inj hK1 (t0 := 2) rfl hK
          subst ec
          have hs := (List.forall_mem_cons.mp hs).2
          have ha : ∀ i, i < E.1.length → va_up ad E.1.length qa i = ad i := fun i hi => va_up_ne _ _ (Nat.ne_of_lt hi)
          rw [am_ws_push (q := (12, n.toNat)) hO.2.2.1 ha (va_up_self ad E.1.length qa) (by simp [am_cell, am_zq])] at g1 g2
          have k := K (va_up ad E.1.length qa) H1 locs lsS ha (hL.re hl ha) g1 g2 g3
          rw [List.map_cons] at k
          rw [am_map_re hs ha] at k
          have e5 : am_cv (va_up ad E.1.length qa) b (vR (some E.1.length)) = .ref qa := by show Value.ref (va_up ad E.1.length qa E.1.length) = _; rw [va_up_self]
          rw [e5] at k
          exact k
        · have hw3 := List.forall_mem_cons.mp hw
          have h7 := Sum.inl.inj (am_nx_eq h)
          cases h7
          have z1 : (E.1 ++ [(13, n.toNat)]).length - E.1.length = 1 := by simp
          have z2 : am_szs (E.1 ++ [(13, n.toNat)], am_zq E.2.1 E.1.length, E.2.2) - am_szs E = n.toNat := by simp [am_szs]
          dsimp only at hcl hsl K
          rw [z1] at hcl
          rw [z2] at hsl
          rw [z1, z2] at K
          refine va_newq hx hb hown (hts _ hw3.1 rfl) hao.2 hK hP hD hS hA (fun z => absurd ((cv_lt (hs _ List.mem_cons_self) in32_0).mp z) (by omega)) hN (by omega) hcl hsl hdg (fun qa cA H1 hK1 g1 g2 g3 => ?_)
          have ec := am_RA_inj hK1 (t0 := 3) rfl hK
          subst ec
          have hs := (List.forall_mem_cons.mp hs).2
          have ha : ∀ i, i < E.1.length → va_up ad E.1.length qa i = ad i := fun i hi => va_up_ne _ _ (Nat.ne_of_lt hi)
          rw [am_ws_push (q := (13, n.toNat)) hO.2.2.1 ha (va_up_self ad E.1.length qa) (by simp [am_cell, am_zq])] at g1 g2
          have k := K (va_up ad E.1.length qa) H1 locs lsS ha (hL.re hl ha) g1 g2 g3
          rw [List.map_cons] at k
          rw [am_map_re hs ha] at k
          have e5 : am_cv (va_up ad E.1.length qa) b (vR (some E.1.length)) = .ref qa := by show Value.ref (va_up ad E.1.length qa E.1.length) = _; rw [va_up_self]
          rw [e5] at k
          exact k
      · cases h
    · cases h
  case invokespecial i =>
    split at h
    · rename_i r
      split at h
      · rename_i a st1
        split at h
        · rename_i hq
          obtain ⟨rfl, e1, h1, h2⟩ : r = [] ∧ len = 3 ∧ 1 ≤ am_fr M ∧ 20 ≤ am_lo M := by
            rcases r with _ | ⟨a, r⟩
            · have hgx : (decide (len = 3) && decide (1 ≤ am_fr M) && decide (20 ≤ am_lo M)) = true := hgx
              simp only [Bool.and_eq_true, decide_eq_true_eq] at hgx
              exact ⟨rfl, hgx.1.1, hgx.1.2, hgx.2⟩
            · simp [am_xg] at hgx
          subst e1
          have hw3 := List.forall_mem_cons.mp hw
          have hw4 := List.forall_mem_cons.mp hw3.2
          have hcat := am_cats ad b st1
          refine W.objInit hx hb hown (hts _ hw3.1 rfl) (hts _ hw4.1 rfl) (hts _ (hw4.2 _ List.mem_cons_self) rfl) rfl (by rw [hml]; exact hL.2.1) rfl hdg (by omega) ?_ ?_
          · show 2 * 0 + _ + 12 ≤ _
            omega
          · exact NX h hL
        · cases h
      · cases h
    · obtain ⟨-, -, -, h⟩ := am_call_eq h
      cases h
    · cases h
  case invokevirtual i =>
    split at h
    · obtain ⟨-, -, -, h⟩ := am_call_eq h
      cases h
    · cases h
  case invokestatic i =>
    split at h
    · rename_i r
      split at h
      · rename_i n j bb i1 aa st1
        split at h
        · rename_i q
          obtain ⟨rfl, e1, h1, h2⟩ : r = [] ∧ len = 3 ∧ 1 ≤ am_fr M ∧ 26 ≤ am_lo M := by
            rcases r with _ | ⟨a, r⟩
            · have hgx : (decide (len = 3) && decide (1 ≤ am_fr M) && decide (26 ≤ am_lo M)) = true := hgx
              simp only [Bool.and_eq_true, decide_eq_true_eq] at hgx
              exact ⟨rfl, hgx.1.1, hgx.1.2, hgx.2⟩
            · simp [am_xg] at hgx
          subst e1
          have hw3 := List.forall_mem_cons.mp hw
          have hw4 := List.forall_mem_cons.mp hw3.2
          have hw5 := List.forall_mem_cons.mp hw4.2
          have hcat := am_cats ad b st1
          have hlen := q.2.2.2.2
          simp only [List.forall_mem_cons] at hs
          have nn : ∀ z : Int, in32 z → 0 ≤ z → ¬ Int32.ofInt z < 0 := fun z hz h0 q => absurd ((cv_lt hz in32_0).mp q) (by omega)
          rcases q.2.2.2.1 with z | z
          · obtain ⟨na, hka⟩ := am_kn_eq z.1 (by decide)
            obtain ⟨nb, hkb⟩ := am_kn_eq z.2.1 (by decide)
            have l1 := z.2.2.1
            have l2 := z.2.2.2
            unfold am_len at l1 l2
            rw [hka] at l1
            rw [hkb] at l2
            simp only [if_true] at l1 l2
            have hea := am_ws_get (ad := ad) (tt := tt) (u := u) hka
            have heb := am_ws_get (ad := ad) (tt := tt) (u := u) hkb
            refine va_copyi hx hb (hml.trans hL.2.1.symm) hown (hts _ hw3.1 rfl) (hts _ hw4.1 rfl) (hts _ hw5.1 rfl) (hts _ (hw5.2 _ List.mem_cons_self) rfl) hK hP hD hS _ _ 0 0 hea heb rfl rfl rfl (nn _ hs.2.2.2.1 q.2.1) (nn _ hs.2.1 q.2.2.1) (nn _ hs.1 q.1) (by rw [cv_nat hs.2.2.2.1 q.2.1, cv_nat hs.1 q.1]; omega) (by rw [cv_nat hs.2.1 q.2.2.1, cv_nat hs.1 q.1]; omega) (fun _ _ => rfl) (by omega) (by show _ + (7 + 11) ≤ _; omega) hdg ?_
            refine UP h hkb rfl (fun k' hk' j' => by simp [am_cp, hk']) (fun _ _ _ => rfl) ?_
            rw [cv_nat hs.2.2.2.1 q.2.1, cv_nat hs.1 q.1, cv_nat hs.2.1 q.2.2.1]
            show (Sum.inl (tt.1, nb, Sum.inl fun j_1 => Int32.ofInt (am_cp u aa i1.toNat bb j.toNat n.toNat bb j_1)) : va_E) = _
            congr 4
            funext k'
            simp only [am_cp, va_cpy, true_and]
            split <;> rfl
          · obtain ⟨na, hka⟩ := am_kn_eq z.1 (by decide)
            obtain ⟨nb, hkb⟩ := am_kn_eq z.2.1 (by decide)
            have l1 := z.2.2.1
            have l2 := z.2.2.2
            unfold am_len at l1 l2
            rw [hka] at l1
            rw [hkb] at l2
            simp only [if_true] at l1 l2
            have hea := am_ws_get (ad := ad) (tt := tt) (u := u) hka
            have heb := am_ws_get (ad := ad) (tt := tt) (u := u) hkb
            refine va_copyl hx hb (hml.trans hL.2.1.symm) hown (hts _ hw3.1 rfl) (hts _ hw4.1 rfl) (hts _ hw5.1 rfl) (hts _ (hw5.2 _ List.mem_cons_self) rfl) hK hP hD hS _ _ 1 1 hea heb rfl rfl rfl (nn _ hs.2.2.2.1 q.2.1) (nn _ hs.2.1 q.2.2.1) (nn _ hs.1 q.1) (by rw [cv_nat hs.2.2.2.1 q.2.1, cv_nat hs.1 q.1]; omega) (by rw [cv_nat hs.2.1 q.2.2.1, cv_nat hs.1 q.1]; omega) (fun _ _ => rfl) (by omega) (by show _ + (7 + 11) ≤ _; omega) hdg ?_
            refine UP h hkb rfl (fun k' hk' j' => by simp [am_cp, hk']) (fun _ _ _ => rfl) ?_
            rw [cv_nat hs.2.2.2.1 q.2.1, cv_nat hs.1 q.1, cv_nat hs.2.1 q.2.2.1]
            show (Sum.inl (tt.2.1, nb, Sum.inr (Sum.inl fun j_1 => Int64.ofInt (am_cp u aa i1.toNat bb j.toNat n.toNat bb j_1))) : va_E) = _
            congr 5
            funext k'
            simp only [am_cp, va_cpy, true_and]
            split <;> rfl
        · cases h
      · cases h
    · obtain ⟨-, -, -, h⟩ := am_call_eq h
      cases h
    · rename_i r
      split at h
      · rename_i b1 a1 st1
        split at h
        · rename_i hq
          obtain ⟨rfl, e1, h1, h2⟩ : r = [] ∧ len = 3 ∧ 1 ≤ am_fr M ∧ 21 ≤ am_lo M := by
            rcases r with _ | ⟨a, r⟩
            · have hgx : (decide (len = 3) && decide (1 ≤ am_fr M) && decide (21 ≤ am_lo M)) = true := hgx
              simp only [Bool.and_eq_true, decide_eq_true_eq] at hgx
              exact ⟨rfl, hgx.1.1, hgx.1.2, hgx.2⟩
            · simp [am_xg] at hgx
          subst e1
          have hw3 := List.forall_mem_cons.mp hw
          have hw4 := List.forall_mem_cons.mp hw3.2
          have hw5 := List.forall_mem_cons.mp hw4.2
          have hcat := am_cats ad b st1
          simp only [List.forall_mem_cons] at hs
          refine va_mmax hx hb (hml.trans hL.2.1.symm) hown (hts _ hw3.1 rfl) (hts _ hw4.1 rfl) (hts _ hw5.1 rfl) (hts _ (hw5.2 _ List.mem_cons_self) rfl) (by omega) (by omega) (by omega) (by omega) hdg ?_
          have k2 := NX h hL
          have e3 : (if Int32.ofInt a1 < Int32.ofInt b1 then Int32.ofInt b1 else Int32.ofInt a1) = Int32.ofInt (if a1 < b1 then b1 else a1) := by
            by_cases hab : a1 < b1
            · rw [if_pos hab, if_pos (by first | exact (cv_lt hs.2.1 hs.1).mpr hab | exact (cv_lt hs.1 hs.2.1).mpr hab)]
            · rw [if_neg hab, if_neg (fun z => hab (by first | exact (cv_lt hs.2.1 hs.1).mp z | exact (cv_lt hs.1 hs.2.1).mp z))]
          rw [e3]
          exact k2
        · cases h
      · cases h
    · rename_i r
      split at h
      · rename_i b1 a1 st1
        split at h
        · rename_i hq
          obtain ⟨rfl, e1, h1, h2⟩ : r = [] ∧ len = 3 ∧ 1 ≤ am_fr M ∧ 21 ≤ am_lo M := by
            rcases r with _ | ⟨a, r⟩
            · have hgx : (decide (len = 3) && decide (1 ≤ am_fr M) && decide (21 ≤ am_lo M)) = true := hgx
              simp only [Bool.and_eq_true, decide_eq_true_eq] at hgx
              exact ⟨rfl, hgx.1.1, hgx.1.2, hgx.2⟩
            · simp [am_xg] at hgx
          subst e1
          have hw3 := List.forall_mem_cons.mp hw
          have hw4 := List.forall_mem_cons.mp hw3.2
          have hw5 := List.forall_mem_cons.mp hw4.2
          have hcat := am_cats ad b st1
          simp only [List.forall_mem_cons] at hs
          refine va_mmin hx hb (hml.trans hL.2.1.symm) hown (hts _ hw3.1 rfl) (hts _ hw4.1 rfl) (hts _ hw5.1 rfl) (hts _ (hw5.2 _ List.mem_cons_self) rfl) (by omega) (by omega) (by omega) (by omega) hdg ?_
          have k2 := NX h hL
          have e3 : (if Int32.ofInt b1 < Int32.ofInt a1 then Int32.ofInt b1 else Int32.ofInt a1) = Int32.ofInt (if b1 < a1 then b1 else a1) := by
            by_cases hab : b1 < a1
            · rw [if_pos hab, if_pos (by first | exact (cv_lt hs.2.1 hs.1).mpr hab | exact (cv_lt hs.1 hs.2.1).mpr hab)]
            · rw [if_neg hab, if_neg (fun z => hab (by first | exact (cv_lt hs.2.1 hs.1).mp z | exact (cv_lt hs.1 hs.2.1).mp z))]
          rw [e3]
          exact k2
        · cases h
      · cases h
    · cases h
  case ireturn =>
    repeat' split at h
    all_goals cases h
  case lreturn =>
    repeat' split at h
    all_goals cases h
  case areturn =>
    repeat' split at h
    all_goals cases h
  case return_ =>
    repeat' split at h
    all_goals cases h

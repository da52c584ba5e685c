/-! From the law's entry to a run of our machine. The first rows are the skeleton's. -/
def R_law : String := "PinAtlasLaw"
def lw_P (b : Addr) (xs : List Int32) (args : Array Value) (s : State) : Prop := args = #[.ref b] ∧ s.IntsAt b xs ∧ xs.length ≤ 448 ∧ (Jvm.Cond.and given_1 narrow_1).before args s = true
def lw_Q (_ : Array Value) (s : State) (o : Outcome) (t : State) : Prop := o = .returned (some (.int 1)) ∧ Framed s o t [] 600000 7302250
def lw_Z (below : List Frame) (a : Array Value) (s : State) : State → Prop := fun t => ∃ o, t.status = .running ∧ Ended t below o ∧ lw_Q a s o t
/-- the law's own end, with 1 on the stack, nothing written that was there before, its room as the claim has it -/
theorem lw_ret {p : Program} {l : Launch} {e : Env} {s : State} {m : MethodId} {below : List Frame} {meth : Method} {c : Code} {b : Nat} (hx : p.tables.exec = Jvm.exec) (hb : c.code = code) (hr : meth.sig.returnType = ret) (hlocks : meth.locks = false) {pc : Nat} {H : Heap} {ls : Array Slot} (hdg : decode code pc = .ok (.ireturn, 1)) : W p l e room_1 s m #[Value.ref b] below meth c H [] 600000 7302250 (lw_Z below #[Value.ref b] s) (F0 m pc ls [.int 1]) := by
  intro T hT X
  obtain ⟨fs, hret, hrun, hended, hW, hframe⟩ := X.leave (v := some (.int 1)) (hlocks := hlocks) (fun h => by rw [hr] at h; cases h)
  have hmeth' : T.vm.method? m = some meth := X.method'
  refine ⟨T.setFrames fs, ?_, .returned (some (.int 1)), hrun, hended, rfl, ⟨_, rfl⟩, hW, hframe⟩
  jvm_step X.here [X.here.top, hx, hb, hdg, hmeth', hr, ret, narrow_b1]
  (try refine ⟨rfl, ?_⟩); (try refine ⟨rfl, ?_⟩)
  first | (intro acts; rw [hret _ acts rfl rfl rfl]) | rw [hret _ _ rfl rfl rfl]
  exact Steps.refl _
/-- what holds at the law's entry: the machine, the code, the tables' words (any of lw_tbl by 'hts w (by decide +kernel)'), the script of L ints xs at the cell b, what the Statement gives of the start (any of its parts by flat_of_before) -/
def lw_At (p : Program) (s : State) (m : MethodId) (meth : Method) (c : Code) (b L : Nat) (xs : Nat → Int32) : Prop :=
  p.tables.exec = Jvm.exec ∧ c.code = code ∧ meth.sig.returnType = ret ∧ c.maxLocals = 4 ∧ s.vm.findClass R_law = some m.cls ∧ (∀ w ∈ lw_tbl, w.before #[Value.ref b] s = true) ∧ va_X b L xs s s.heap ∧ b < s.heap.size ∧ meth.locks = false ∧ (Jvm.Cond.and given_1 narrow_1).before #[Value.ref b] s = true

def am_E0 (L : Nat) (xs : Nat → Int) : am_E := ([], fun _ _ => none, L, xs)
def am_u0 : am_M := fun _ _ => 0
def am_lawOK : Prop := ∀ (L : Nat) (xs : Nat → Int), L ≤ 448 → (∀ j, in32 (xs j)) → ∃ (E' : am_E) (u' : am_M), am_R am_Ft am_Pg am_Lm 208 0 [vB true, vB false, vB false, vB false] [] (am_E0 L xs) am_u0 = some (some (vI 1), E', u') ∧ E'.1.length ≤ 600000 ∧ am_szs E' ≤ 7302250
theorem am_OK0 {L : Nat} {xs : Nat → Int} (hL : L ≤ 448) (hx : ∀ j, in32 (xs j)) : am_OK am_Ft am_nF (am_E0 L xs) am_u0 := by
  refine ⟨fun _ _ => by unfold am_u0 in64; omega, fun _ _ _ => by unfold am_u0 in32; omega, fun _ _ _ h => (by cases h), fun k q h => ?_, by show L < _; omega, hx⟩
  have : ([] : List (Nat × Nat))[k]? = some q := h
  simp at this
set_option maxHeartbeats 2000000 in
set_option maxRecDepth 10000 in
theorem am_begin (hlaw : am_lawOK) {p : Program} {e : Env} {s : State} {m : MethodId} {below : List Frame} {meth : Method} {c : Code} (l : Launch) {b L : Nat} {xs : Nat → Int32} (hL : L ≤ 448) (C0 : lw_At p s m meth c b L xs) (hnm : meth.name = "law") : W p l e room_1 s m #[Value.ref b] below meth c s.heap [] 0 0 (lw_Z below #[Value.ref b] s) (entryFrame m ([Value.ref b] : List Value).toArray 4) := by
  obtain ⟨hx, hb, hr, hml, hown, hts, hX, hbl, hlocks, hgv⟩ := C0
  have hxs : ∀ j, in32 ((fun j => (xs j).toInt) j) := fun j => i_in (xs j)
  obtain ⟨E', u', hrun, hn, hsz⟩ := hlaw L (fun j => (xs j).toInt) hL hxs
  obtain ⟨f, hrun⟩ := am_R_some.mp hrun
  -- the classes as the tables have them
  have HK : ∀ ci, ∃ (cC : ClassId) (iS : Nat → Nat), ci ≤ 5 → u_Kn s (am_Cn ci) (am_Tn ci) (am_nF ci) cC iS := by
    intro ci
    by_cases h : ci ≤ 5
    · have hi : Cond.instantiable (am_Cn ci) (am_nF ci) ∈ lw_tbl := by
        have : ∀ ci, ci < 6 → Cond.instantiable (am_Cn ci) (am_nF ci) ∈ lw_tbl := by decide +kernel
        exact this ci (by omega)
      obtain ⟨cC, iS, hk⟩ := u_known hts (am_uws ci h) (hts _ hi)
      exact ⟨cC, iS, fun _ => hk⟩
    · exact ⟨0, fun _ => 0, fun q => absurd q h⟩
  obtain ⟨dC, hdC⟩ : ∃ dC : Nat → ClassId, ∀ ci, ∃ iS : Nat → Nat, ci ≤ 5 → u_Kn s (am_Cn ci) (am_Tn ci) (am_nF ci) (dC ci) iS := ⟨fun ci => Classical.choose (HK ci), fun ci => Classical.choose_spec (HK ci)⟩
  obtain ⟨dI, hdI⟩ : ∃ dI : Nat → Nat → Nat, ∀ ci, ci ≤ 5 → u_Kn s (am_Cn ci) (am_Tn ci) (am_nF ci) (dC ci) (dI ci) := ⟨fun ci => Classical.choose (hdC ci), fun ci => Classical.choose_spec (hdC ci)⟩
  -- the classes of arrays
  have HA : ∀ ty, Cond.arrayClass ty ∈ lw_tbl → (∀ C, ty ≠ .object C) → ∃ cA : ClassId, ArrOfT s cA ty ∧ va_RA s cA ty := by
    intro ty h hty
    obtain ⟨cA, kA, comp, h1, h2, h3⟩ := Cond.arrayClass_spec (hts _ h)
    refine ⟨cA, fun n z => ⟨fun k h => (by cases h), kA, h2, comp, h3⟩, ?_⟩
    cases ty <;> first | exact h1 | exact absurd rfl (hty _)
  have HO : ∀ C, Cond.arrayOver (.object C) ∈ lw_tbl → ∃ cA : ClassId, ArrOfT s cA (.object C) ∧ va_RA s cA (.object C) := by
    intro C h
    obtain ⟨comp, cA, kA, h1, -, h3, h4, h5⟩ := Cond.arrayOver_spec (hts _ h)
    exact ⟨cA, fun n z => ⟨fun k h => (by cases h), kA, h3, comp, h4⟩, kA, comp, h3, h4, h1, h5⟩
  obtain ⟨tI, hI⟩ := HA .int (by decide +kernel) (fun _ h => by cases h)
  obtain ⟨tL, hLo⟩ := HA .long (by decide +kernel) (fun _ h => by cases h)
  obtain ⟨tC, hC⟩ := HO (am_Cn 0) (by decide +kernel)
  obtain ⟨tS, hSh⟩ := HO (am_Cn 2) (by decide +kernel)
  have hK : va_K (dC, dI) am_cls (am_tys (tI, tL, tC, tS)) s := by
    refine ⟨fun ci q hq => ?_, fun k q hq => ?_⟩
    · have hl : ci < am_cls.length := (List.getElem?_eq_some_iff.mp hq).1
      have hl : ci ≤ 5 := by have : am_cls.length = 6 := rfl; omega
      rw [am_cls_get hl] at hq
      cases hq
      exact hdI ci hl
    · match k, hq with
      | 0, hq => cases hq; exact hI
      | 1, hq => cases hq; exact hLo
      | 2, hq => cases hq; exact hC
      | 3, hq => cases hq; exact hSh
      | k + 4, hq => simp [am_tys] at hq
  have hX2 : va_X b L (fun j => Int32.ofInt ((fun j => (xs j).toInt) j)) s s.heap := by
    have : (fun j => Int32.ofInt ((fun j => (xs j).toInt) j)) = xs := funext fun j => Int32.ofInt_toInt (xs j)
    rw [this]
    exact hX
  have Cx : am_Cx p room_1 s m #[Value.ref b] meth c 208 (dC, dI) (tI, tL, tC, tS) (fun q : Nat => s.heap.size ≤ q) s.heap b (L, fun j => (xs j).toInt) :=
    ⟨hx, hb, hml, hown, fun w hw _ => hts w hw, fun w hw hn => va_Nw.of (by cases w <;> first | rfl | (cases hn; done)) (hts w hw), ⟨va_AO.of (hts _ (by decide +kernel)), va_AO.of (hts _ (by decide +kernel))⟩, hnm, by decide +kernel, by decide +kernel, hK, fun _ h => h, hX2, hbl, Nat.not_le.mpr hbl⟩
  rw [lg_entry_eq]
  have hent := am_entry (ad := fun _ => 0) (b := b) (n := 4) (a := [vB true]) (by decide)
  refine am_sim am_good_all (M := 208) (fun M' _ => am_mets M') Cx f 0 [vB true, vB false, vB false, vB false] [] (am_E0 L fun j => (xs j).toInt) am_u0 (some (vI 1)) E' u' hrun (am_OK0 hL hxs) (fun v hv => ?_) (fun _ hw => by cases hw) rfl (fun _ => 0) s.heap [] _ 0 0 hent ?_ ?_ va_S.rf ?_ ?_ ?_
  · simp only [List.mem_cons, List.not_mem_nil, or_false] at hv
    rcases hv with rfl | rfl | rfl | rfl <;> trivial
  · intro k q h
    have : ([] : va_W)[k]? = some q := h
    simp at this
  · refine ⟨fun i j p q h => ?_, fun k q h => ?_⟩
    · have : ([] : va_W)[i]? = some p := h
      simp at this
    · have : ([] : va_W)[k]? = some q := h
      simp at this
  · show 0 + (E'.1.length - 0) ≤ 600000
    omega
  · show 0 + (am_szs E' - 0) ≤ 7302250
    omega
  · intro ad' H' locs' pc' ins len x v0 ls' st' lsS' hg hst hag hP' hD' hS' hO'
    obtain ⟨hdg, -, hgx⟩ := hg
    have h1 : 0 + (E'.1.length - (am_E0 L fun j => (xs j).toInt).1.length) ≤ 600000 := by
      show 0 + (E'.1.length - 0) ≤ 600000
      omega
    have h2 : 0 + (am_szs E' - am_szs (am_E0 L fun j => (xs j).toInt)) ≤ 7302250 := by
      show 0 + (am_szs E' - 0) ≤ 7302250
      omega
    refine va_forget (fun q hq => hS'.2.2 q hq) ?_
    refine W.widen h1 h2 ?_
    cases ins <;> simp only [am_step] at hst
    all_goals (first | (cases hst; done) | skip)
    case ireturn =>
      simp only [am_xg, Bool.and_eq_true, Bool.or_eq_true, decide_eq_true_eq] at hgx
      obtain ⟨e1, -⟩ := hgx
      subst e1
      split at hst
      · split at hst
        · split at hst
          · cases hst; exact lw_ret hx hb hr hlocks hdg
          · cases hst
        · cases hst; exact lw_ret hx hb hr hlocks hdg
      · cases hst
    all_goals (repeat' split at hst)
    all_goals (first | (cases hst; done) | skip)
    all_goals (first | (obtain ⟨w, -, h, -⟩ := am_load_eq hst; cases h; done) | (rcases am_br_eq hst with ⟨-, h⟩ | ⟨-, h⟩ <;> (first | (cases h; done) | (obtain ⟨_, _, h⟩ := am_jp_eq h; cases h; done))) | (obtain ⟨_, _, h⟩ := am_jp_eq hst; cases h; done) | (obtain ⟨_, _, _, h⟩ := am_call_eq hst; cases h; done))

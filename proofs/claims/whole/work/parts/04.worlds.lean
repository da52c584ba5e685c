/-! What a row of the tables must say, and the worlds: the cells behind a machine of our own. -/
def am_own (M : Nat) : String := (am_Y M).cls
def am_pr (y : MethodName) : Option Nat := (parseMethodDescriptor y.desc).map fun d => d.parameters.length
/-- the words that an instruction needs -/
def am_wd (own : String) (ins : Instr) (x : List Nat) (v0 : Int) : List Jvm.Cond := match ins with
  | .ldc i => [.constant own i (Int32.ofInt v0)]
  | .ldc_w i => [.constant own i (Int32.ofInt v0)]
  | .ldc2_w i => [.constantLong own i (Int64.ofInt v0)]
  | .getfield i => (match x with
    | [ci, _, j, 0] => [.fieldLink own i (am_Cn ci) ((am_Tn ci) j).2.1 ((am_Tn ci) j).2.2.1]
    | [ci, _, j, _] => [.fieldLinkNest own i (am_Cn ci) ((am_Tn ci) j).2.1 ((am_Tn ci) j).2.2.1 "PinAtlas"]
    | _ => [])
  | .putfield i => (match x with
    | [ci, _, j, 0] => [.fieldLink own i (am_Cn ci) ((am_Tn ci) j).2.1 ((am_Tn ci) j).2.2.1]
    | [ci, _, j, _] => [.fieldLinkNest own i (am_Cn ci) ((am_Tn ci) j).2.1 ((am_Tn ci) j).2.2.1 "PinAtlas"]
    | _ => [])
  | .new i => (match x with
    | [ci, N] => [.classLink own i (am_Cn ci), .instantiable (am_Cn ci) N, .initialized (am_Cn ci)]
    | _ => [])
  | .newarray t => [.arrayClass (newarray.typeOf t)]
  | .anewarray i => (match x with
    | [12] => [.classLink own i (am_Cn 0), .arrayOver (.object (am_Cn 0))]
    | [13] => [.classLink own i (am_Cn 2), .arrayOver (.object (am_Cn 2))]
    | _ => [])
  | .invokespecial i => (match x with
    | [0] => [.methodLink own i Lib.objectInit, .instanceMethod Lib.objectInit, .code Lib.objectInit ⟨#[0xb1]⟩ 1 none]
    | [3, M, _, _, _, 0] => [.methodLink own i (am_Y M), .instanceMethod (am_Y M), .initialized (am_own M), .code (am_Y M) (am_By M) (am_Lm M) (am_Re M)]
    | [3, M, _, _, _, _] => [.methodLinkNest own i (am_Y M) "PinAtlas", .instanceMethod (am_Y M), .initialized (am_own M), .code (am_Y M) (am_By M) (am_Lm M) (am_Re M)]
    | _ => [])
  | .invokevirtual i => (match x with
    | [3, M, _, _, _, 0] => [.methodLink own i (am_Y M), .instanceMethod (am_Y M), .selects (am_own M) (am_Y M) (am_Y M), .initialized (am_own M), .code (am_Y M) (am_By M) (am_Lm M) (am_Re M)]
    | [3, M, _, _, _, _] => [.methodLinkNest own i (am_Y M) "PinAtlas", .instanceMethod (am_Y M), .selects (am_own M) (am_Y M) (am_Y M), .initialized (am_own M), .code (am_Y M) (am_By M) (am_Lm M) (am_Re M)]
    | _ => [])
  | .invokestatic i => (match x with
    | [1] => [.methodLink own i arraycopyName, .native arraycopyName, .static arraycopyName, .initialized "java/lang/System"]
    | [4] => [.methodLink own i Lib.Math.max.name, .static Lib.Math.max.name, .initialized "java/lang/Math", .code Lib.Math.max.name Lib.Math.max.code 2 (some .int)]
    | [5] => [.methodLink own i Lib.Math.min.name, .static Lib.Math.min.name, .initialized "java/lang/Math", .code Lib.Math.min.name Lib.Math.min.code 2 (some .int)]
    | [2, M, _, 0] => [.methodLink own i (am_Y M), .static (am_Y M), .initialized (am_own M), .code (am_Y M) (am_By M) (am_Lm M) (am_Re M)]
    | [2, M, _, _] => [.methodLinkNest own i (am_Y M) "PinAtlas", .static (am_Y M), .initialized (am_own M), .code (am_Y M) (am_By M) (am_Lm M) (am_Re M)]
    | _ => [])
  | _ => []
def am_cok (M M' n : Nat) : Bool := decide (M' < M) && decide (am_fr M' + 1 ≤ am_fr M) && decide (8 + (am_Lm M' + 11) + am_lo M' ≤ am_lo M) && decide (am_pr (am_Y M') = some n) && decide (am_own M' ≠ "java/lang/invoke/MethodHandle") && decide (am_own M' ≠ "java/lang/invoke/VarHandle")
/-- what else a row must say -/
def am_xg (M pc : Nat) (ins : Instr) (len : Nat) (x : List Nat) : Bool := match ins with
  | .bipush _ | .iload _ | .lload _ | .aload _ | .istore _ | .lstore _ | .astore _ | .ldc _ | .newarray _ => decide (len = 2)
  | .sipush _ | .ldc_w _ | .ldc2_w _ | .iinc _ _ => decide (len = 3)
  | .ifCond _ o | .if_icmp _ o | .ifnull o | .ifnonnull o | .goto o => decide (len = 3) && decide (0 ≤ (pc : Int) + o)
  | .tableswitch d _ _ _ => decide (0 ≤ (pc : Int) + d)
  | .lookupswitch _ ps => (ps.toList.zip (ps.toList.drop 1)).all (fun (a, next) => a.1 < next.1)
  | .getfield _ => (match x with
    | [ci, N, j, _] => decide (len = 3) && decide (ci ≤ 5) && decide (N = am_nF ci) && decide (j < N)
    | _ => false)
  | .putfield _ => (match x with
    | [ci, N, j, nest] => decide (len = 3) && decide (ci ≤ 5) && decide (N = am_nF ci) && decide (j < N) && (!((am_Tn ci) j).2.2.2 || (decide (nest = 0) && decide (am_Cn ci = am_own M) && decide ((am_Tn ci j).1 = am_own M) && decide ((am_Y M).name = "<init>")))
    | _ => false)
  | .new _ => (match x with
    | [ci, N] => decide (len = 3) && decide (ci ≤ 5) && decide (N = am_nF ci)
    | _ => false)
  | .anewarray _ => (match x with
    | [12] => decide (len = 3)
    | [13] => decide (len = 3)
    | _ => false)
  | .invokespecial _ => (match x with
    | [0] => decide (len = 3) && decide (1 ≤ am_fr M) && decide (20 ≤ am_lo M)
    | [3, M', n, ci, N, _] => decide (len = 3) && decide (1 ≤ n) && am_cok M M' (n - 1) && decide (ci ≤ 5) && decide (N = am_nF ci) && decide (am_own M' = am_Cn ci) && decide ((am_Y M').name = "<init>") && decide (am_Re M' = none)
    | _ => false)
  | .invokevirtual _ => (match x with
    | [3, M', n, ci, N, _] => decide (len = 3) && decide (1 ≤ n) && am_cok M M' (n - 1) && decide (ci ≤ 5) && decide (N = am_nF ci) && decide (am_own M' = am_Cn ci)
    | _ => false)
  | .invokestatic _ => (match x with
    | [1] => decide (len = 3) && decide (1 ≤ am_fr M) && decide (26 ≤ am_lo M)
    | [4] => decide (len = 3) && decide (1 ≤ am_fr M) && decide (21 ≤ am_lo M)
    | [5] => decide (len = 3) && decide (1 ≤ am_fr M) && decide (21 ≤ am_lo M)
    | [2, M', n, _] => decide (len = 3) && am_cok M M' n
    | _ => false)
  | .ireturn => decide (len = 1) && ((decide (x = [1]) && decide (am_Re M = some .boolean)) || (decide (x ≠ [1]) && decide (am_Re M = some .int)))
  | .lreturn => decide (len = 1) && decide (am_Re M = some .long)
  | .areturn => decide (len = 1) && (decide (am_Re M = some (.object (am_Cn 0))) || decide (am_Re M = some (.object (am_Cn 2))))
  | .return_ => decide (len = 1) && decide (am_Re M = none)
  | _ => decide (len = 1)
def am_good (M pc : Nat) (ins : Instr) (len : Nat) (x : List Nat) (v0 : Int) : Prop :=
  decode (am_By M) pc = .ok (ins, len) ∧ (∀ w ∈ am_wd (am_own M) ins x v0, w ∈ lw_tbl) ∧ am_xg M pc ins len x = true
/-- a value, a local, a cell as the machine has them -/
def am_cv (ad : Nat → Nat) (b : Nat) (v : am_V) : Value := match v with
  | .inl i => .int (Int32.ofInt i)
  | .inr (.inl i) => .long (Int64.ofInt i)
  | .inr (.inr (.inl none)) => .null
  | .inr (.inr (.inl (some k))) => .ref (ad k)
  | .inr (.inr (.inr _)) => .ref b
theorem am_cv_cat (ad : Nat → Nat) (b : Nat) (v : am_V) : (am_cv ad b v).category = if am_isL v = true then 2 else 1 := by
  rcases v with i | i | (_ | k) | c <;> rfl
theorem am_cv_1 {ad : Nat → Nat} {b : Nat} {v : am_V} (h : ¬ am_isL v = true) : (am_cv ad b v).category = 1 := by rw [am_cv_cat, if_neg h]
def am_LH (ad : Nat → Nat) (b : Nat) (ls : Array Slot) (nL : Nat) (l : List am_V) : Prop :=
  l.length = nL ∧ ls.size = nL ∧ lv_wf ls ∧ ∀ (i : Nat) (v : am_V), l[i]? = some v → v ≠ vB false → ls[i]? = some (.val (am_cv ad b v))
def am_ll (ad : Nat → Nat) (b : Nat) (l : List am_V) : List (Nat × Value) := (List.range l.length).filterMap fun i => match l[i]? with
  | some v => if v = vB false then none else some (i, am_cv ad b v)
  | none => none
theorem am_ll_mem {ad : Nat → Nat} {b : Nat} {l : List am_V} {q : Nat × Value} : q ∈ am_ll ad b l ↔ ∃ v, l[q.1]? = some v ∧ v ≠ vB false ∧ q.2 = am_cv ad b v := by
  unfold am_ll
  rw [List.mem_filterMap]
  constructor
  · intro h0
    obtain ⟨i, -, h⟩ := h0
    cases hi : l[i]? with
    | none => rw [hi] at h; cases h
    | some v =>
      rw [hi] at h
      dsimp only at h
      split at h
      · cases h
      · rename_i hv
        cases h
        exact ⟨v, hi, hv, rfl⟩
  · intro ⟨v, h1, h2, h3⟩
    refine ⟨q.1, List.mem_range.mpr (List.getElem?_eq_some_iff.mp h1).1, ?_⟩
    rw [h1]
    dsimp only
    rw [if_neg h2, ← h3]
theorem am_LH.has {ad : Nat → Nat} {b : Nat} {ls : Array Slot} {nL : Nat} {l : List am_V} (h : am_LH ad b ls nL l) : lv_has ls nL (am_ll ad b l) := by
  refine ⟨h.2.1, h.2.2.1, fun q hq => ?_⟩
  obtain ⟨v, h1, h2, h3⟩ := am_ll_mem.mp hq
  rw [h3]
  exact h.2.2.2 _ _ h1 h2
theorem am_LH.to {ad : Nat → Nat} {b : Nat} {ls : Array Slot} {nL : Nat} {l : List am_V} {lv : List (Nat × Value)} (hl : l.length = nL) (h : lv_has ls nL lv) (hm : ∀ i v, l[i]? = some v → v ≠ vB false → (i, am_cv ad b v) ∈ lv) : am_LH ad b ls nL l :=
  ⟨hl, h.1, h.2.1, fun i v h1 h2 => h.2.2 _ (hm i v h1 h2)⟩
theorem am_LH.re {ad ad' : Nat → Nat} {b : Nat} {ls : Array Slot} {nL n : Nat} {l : List am_V} (h : am_LH ad b ls nL l) (ho : ∀ v ∈ l, am_ok n v) (ha : ∀ k, k < n → ad' k = ad k) : am_LH ad' b ls nL l := by
  refine ⟨h.1, h.2.1, h.2.2.1, fun i v h1 h2 => ?_⟩
  rw [h.2.2.2 i v h1 h2]
  have := ho v (List.mem_of_getElem? h1)
  rcases v with i | i | (_ | k) | c <;> first | rfl | (show some (Slot.val (Value.ref (ad k))) = some (.val (.ref (ad' k))); rw [ha k this])
theorem am_st_len : ∀ (l : List am_V) (i : Nat) (v : am_V), (am_st l i v).length = l.length := by
  intro l
  induction l with
  | nil => intro i v; simp [am_st]
  | cons a l ih =>
    intro i v
    match i, l with
    | 0, l => cases l <;> simp [am_st]
    | 1, [] => simp [am_st]
    | 1, b :: l => simp [am_st]
    | i + 2, l =>
      have : am_st (a :: l) (i + 1 + 1) v = a :: am_st l (i + 1) v := by cases l <;> simp [am_st]
      rw [this]; simp [ih]
theorem am_st_get : ∀ (l : List am_V) (i : Nat) (v : am_V) (j : Nat), i < l.length → (am_st l i v)[j]? = if j = i then some v else if j + 1 = i then (l[j]?).map am_fx else l[j]? := by
  intro l
  induction l with
  | nil => intro i v j h; simp at h
  | cons a l ih =>
    intro i v j h
    match i, l, j with
    | 0, l, 0 => cases l <;> simp [am_st]
    | 0, l, j + 1 => cases l <;> simp [am_st]
    | 1, [], j => simp at h
    | 1, b :: l, 0 => simp [am_st]
    | 1, b :: l, 1 => simp [am_st]
    | 1, b :: l, j + 2 => simp [am_st]
    | i + 2, l, j =>
      have e : am_st (a :: l) (i + 1 + 1) v = a :: am_st l (i + 1) v := by cases l <;> simp [am_st]
      rw [e]
      have h' : i + 1 < l.length := by simp only [List.length_cons] at h; omega
      cases j with
      | zero => simp
      | succ j =>
        have := ih (i + 1) v j h'
        simp only [List.getElem?_cons_succ]
        rw [this]
        simp only [Nat.add_right_cancel_iff]
theorem am_fx_of {v w : am_V} (h : am_fx v = w) (hw : w ≠ vB false) : v = w ∧ am_isL v = false := by
  rcases v with i | i | (_ | k) | c <;> first | exact ⟨h, rfl⟩ | exact absurd h.symm hw
theorem am_LH.st1 {ad : Nat → Nat} {b : Nat} {ls ls' : Array Slot} {nL i : Nat} {l : List am_V} {v : am_V} {w : Value} (h : am_LH ad b ls nL l) (hi : i < nL) (hw : am_cv ad b v = w)
    (h' : lv_has ls' nL ((i, w) :: (am_ll ad b l).filter (fun q => !(q.1 == i) && !(q.1 + 1 == i && q.2.category == 2)))) : am_LH ad b ls' nL (am_st l i v) := by
  subst hw
  refine am_LH.to (by rw [am_st_len]; exact h.1) h' (fun j u h1 h2 => ?_)
  rw [am_st_get l i v j (by rw [h.1]; exact hi)] at h1
  by_cases e1 : j = i
  · subst e1
    rw [if_pos rfl] at h1
    cases h1
    exact List.mem_cons_self
  · rw [if_neg e1] at h1
    refine List.mem_cons_of_mem _ (List.mem_filter.mpr ?_)
    by_cases e2 : j + 1 = i
    · rw [if_pos e2] at h1
      cases hj : l[j]? with
      | none => rw [hj] at h1; cases h1
      | some z =>
        rw [hj] at h1
        obtain ⟨rfl, hz⟩ := am_fx_of (Option.some.inj h1) h2
        refine ⟨am_ll_mem.mpr ⟨z, hj, h2, rfl⟩, ?_⟩
        simp [e1, am_cv_cat, hz]
    · rw [if_neg e2] at h1
      exact ⟨am_ll_mem.mpr ⟨u, h1, h2, rfl⟩, by simp [e1, e2]⟩
theorem am_LH.st2 {ad : Nat → Nat} {b : Nat} {ls ls' : Array Slot} {nL i : Nat} {l : List am_V} {v : am_V} {w : Value} (h : am_LH ad b ls nL l) (hi : i + 1 < nL) (hw : am_cv ad b v = w)
    (h' : lv_has ls' nL ((i, w) :: (am_ll ad b l).filter (fun q => !(q.1 == i) && (!(q.1 == i + 1) && !(q.1 + 1 == i && q.2.category == 2))))) : am_LH ad b ls' nL (am_st2 l i v) := by
  subst hw
  refine am_LH.to (by unfold am_st2; rw [List.length_set, am_st_len]; exact h.1) h' (fun j u h1 h2 => ?_)
  unfold am_st2 at h1
  by_cases e0 : j = i + 1
  · subst e0
    rw [List.getElem?_set_self (by rw [am_st_len, h.1]; exact hi)] at h1
    exact absurd (Option.some.inj h1).symm h2
  rw [List.getElem?_set_ne (fun z => e0 z.symm), am_st_get l i v j (by rw [h.1]; omega)] at h1
  by_cases e1 : j = i
  · subst e1
    rw [if_pos rfl] at h1
    cases h1
    exact List.mem_cons_self
  · rw [if_neg e1] at h1
    refine List.mem_cons_of_mem _ (List.mem_filter.mpr ?_)
    by_cases e2 : j + 1 = i
    · rw [if_pos e2] at h1
      cases hj : l[j]? with
      | none => rw [hj] at h1; cases h1
      | some z =>
        rw [hj] at h1
        obtain ⟨rfl, hz⟩ := am_fx_of (Option.some.inj h1) h2
        refine ⟨am_ll_mem.mpr ⟨z, hj, h2, rfl⟩, ?_⟩
        simp [e0, e1, am_cv_cat, hz]
    · rw [if_neg e2] at h1
      exact ⟨am_ll_mem.mpr ⟨u, h1, h2, rfl⟩, by simp [e0, e1, e2]⟩
abbrev am_TT : Type := ClassId × ClassId × ClassId × ClassId
def am_tys (t : am_TT) : List (ClassId × FieldType) := [(t.1, .int), (t.2.1, .long), (t.2.2.1, .object (am_Cn 0)), (t.2.2.2, .object (am_Cn 2))]
def am_cls : List vw_C := (List.range 6).map fun i => (am_Cn i, am_Tn i, am_nF i)
theorem am_cls_get {ci : Nat} (h : ci ≤ 5) : am_cls[ci]? = some (am_Cn ci, am_Tn ci, am_nF ci) := by
  unfold am_cls
  rw [List.getElem?_map, List.getElem?_range (by omega)]
  rfl
def am_fv (ad : Nat → Nat) (t : Nat) (x : Int) (o : Option Nat) : Value := match t with
  | 1 => .long (Int64.ofInt x)
  | 2 => va_rf (o.map ad)
  | _ => .int (Int32.ofInt x)
def am_cell (ad : Nat → Nat) (tt : am_TT) (E : am_E) (u : am_M) (k : Nat) (q : Nat × Nat) : va_E :=
  if q.1 = 10 then .inl (tt.1, q.2, .inl fun j => Int32.ofInt (u k j))
  else if q.1 = 11 then .inl (tt.2.1, q.2, .inr (.inl fun j => Int64.ofInt (u k j)))
  else if q.1 = 12 then .inl (tt.2.2.1, q.2, .inr (.inr (.inr (.inr fun j => (E.2.1 k j).map ad))))
  else if q.1 = 13 then .inl (tt.2.2.2, q.2, .inr (.inr (.inr (.inr fun j => (E.2.1 k j).map ad))))
  else .inr (q.1, (List.range q.2).map fun j => am_fv ad (am_Ft q.1 j) (u k j) (E.2.1 k j))
def am_ws (ad : Nat → Nat) (tt : am_TT) (E : am_E) (u : am_M) : va_W := (List.range E.1.length).map fun k => (ad k, am_cell ad tt E u k (E.1.getD k (0, 0)))
theorem am_ws_get {ad : Nat → Nat} {tt : am_TT} {E : am_E} {u : am_M} {k : Nat} {q : Nat × Nat} (h : E.1[k]? = some q) : (am_ws ad tt E u)[k]? = some (ad k, am_cell ad tt E u k q) := by
  unfold am_ws
  rw [List.getElem?_map, List.getElem?_range (List.getElem?_eq_some_iff.mp h).1]
  simp [h]
theorem am_ws_len {ad : Nat → Nat} {tt : am_TT} {E : am_E} {u : am_M} : (am_ws ad tt E u).length = E.1.length := by simp [am_ws]
theorem am_ws_lt {ad : Nat → Nat} {tt : am_TT} {E : am_E} {u : am_M} {k : Nat} {z : Nat × va_E} (h : (am_ws ad tt E u)[k]? = some z) : k < E.1.length ∧ z.1 = ad k := by
  have hl := (List.getElem?_eq_some_iff.mp h).1
  rw [am_ws_len] at hl
  unfold am_ws at h
  rw [List.getElem?_map, List.getElem?_range hl] at h
  cases h
  exact ⟨hl, rfl⟩
theorem am_ws_set {ad : Nat → Nat} {tt : am_TT} {E E' : am_E} {u u' : am_M} {k : Nat} {q : Nat × Nat} (h : E.1[k]? = some q) (hE : E'.1 = E.1) (hu : ∀ k', k' ≠ k → ∀ j, u' k' j = u k' j) (hr : ∀ k', k' ≠ k → ∀ j, E'.2.1 k' j = E.2.1 k' j) {ce : va_E} (hc : am_cell ad tt E' u' k q = ce) :
    (am_ws ad tt E u).set k (ad k, ce) = am_ws ad tt E' u' := by
  subst hc
  have hk := (List.getElem?_eq_some_iff.mp h).1
  apply List.ext_getElem?
  intro i
  by_cases hi : i = k
  · subst hi
    rw [List.getElem?_set_self (by rw [am_ws_len]; exact hk), am_ws_get (E := E') (by rw [hE]; exact h)]
  · rw [List.getElem?_set_ne (fun z => hi z.symm)]
    unfold am_ws
    rw [List.getElem?_map, List.getElem?_map, hE]
    by_cases hl : i < E.1.length
    · rw [List.getElem?_range hl]
      simp only [Option.map_some, am_cell, hu i hi, hr i hi]
    · rw [List.getElem?_eq_none (by simp; omega)]
      rfl
theorem am_cell_re {ad ad' : Nat → Nat} {tt : am_TT} {E E' : am_E} {u u' : am_M} {k n : Nat} {q : Nat × Nat} (ha : ∀ i, i < n → ad' i = ad i) (hr : ∀ j i, E.2.1 k j = some i → i < n) (h1 : ∀ j, u' k j = u k j) (h2 : ∀ j, E'.2.1 k j = E.2.1 k j) : am_cell ad' tt E' u' k q = am_cell ad tt E u k q := by
  have hm : ∀ j, (E'.2.1 k j).map ad' = (E.2.1 k j).map ad := by
    intro j
    rw [h2 j]
    cases hj : E.2.1 k j with
    | none => rfl
    | some i => simp [ha i (hr j i hj)]
  unfold am_cell
  simp only [h1, hm]
  have : ∀ t j, am_fv ad' t (u k j) (E'.2.1 k j) = am_fv ad t (u k j) (E.2.1 k j) := by
    intro t j
    unfold am_fv
    split
    · rfl
    · rw [hm]
    · rfl
  simp only [this]
theorem am_ws_push {ad ad' : Nat → Nat} {tt : am_TT} {E : am_E} {u : am_M} {q : Nat × Nat} {a : Nat} (hr : ∀ k j i : Nat, E.2.1 k j = some i → i < E.1.length) (ha : ∀ i, i < E.1.length → ad' i = ad i) (hn : ad' E.1.length = a) {ce : va_E}
    (hc : am_cell ad' tt (E.1 ++ [q], am_zq E.2.1 E.1.length, E.2.2) (am_zr u E.1.length) E.1.length q = ce) :
    am_ws ad tt E u ++ [(a, ce)] = am_ws ad' tt (E.1 ++ [q], am_zq E.2.1 E.1.length, E.2.2) (am_zr u E.1.length) := by
  subst hc; subst hn
  apply List.ext_getElem?
  intro i
  by_cases hi : i < E.1.length
  · rw [List.getElem?_append_left (by rw [am_ws_len]; exact hi)]
    obtain ⟨z, hz⟩ : ∃ z, E.1[i]? = some z := ⟨_, List.getElem?_eq_getElem hi⟩
    rw [am_ws_get hz, am_ws_get (q := z) (by show (E.1 ++ [q])[i]? = _; rw [List.getElem?_append_left hi]; exact hz)]
    rw [ha i hi, am_cell_re (E := E) (u := u) ha (fun j i => hr _ j i) (fun j => by simp [am_zr, Nat.ne_of_lt hi]) (fun j => by simp [am_zq, Nat.ne_of_lt hi])]
  · by_cases hj : i = E.1.length
    · subst hj
      rw [List.getElem?_append_right (by rw [am_ws_len]; exact Nat.le_refl _), am_ws_len, Nat.sub_self]
      rw [am_ws_get (q := q) (by show (E.1 ++ [q])[_]? = _; simp)]
      rfl
    · rw [List.getElem?_eq_none (by simp [am_ws_len]; omega), List.getElem?_eq_none (by rw [am_ws_len]; simp; omega)]

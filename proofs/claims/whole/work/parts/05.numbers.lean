/-! The machine's numbers and ours; the classes' tables, decided. -/
theorem cv_w32 (i : Int) : Int32.ofInt (w32 i) = Int32.ofInt i := by
  apply Int32.toInt_inj.mp
  rw [Int32.toInt_ofInt, Int32.toInt_ofInt]
  show (w32 i).bmod 4294967296 = i.bmod 4294967296
  simp only [w32, Int.bmod_def]
  omega
theorem cv_w64 (i : Int) : Int64.ofInt (w64 i) = Int64.ofInt i := by
  apply Int64.toInt_inj.mp
  rw [Int64.toInt_ofInt, Int64.toInt_ofInt]
  show (w64 i).bmod 18446744073709551616 = i.bmod 18446744073709551616
  simp only [w64, Int.bmod_def]
  omega
theorem cv_int {a : Int} (h : in32 a) : (Int32.ofInt a).toInt = a := by
  unfold in32 at h
  exact Int32.toInt_ofInt_of_le (by omega) (by omega)
theorem cv_long {a : Int} (h : in64 a) : (Int64.ofInt a).toInt = a := by
  unfold in64 at h
  exact Int64.toInt_ofInt_of_le (by omega) (by omega)
theorem cv_add (a b : Int) : Int32.ofInt a + Int32.ofInt b = Int32.ofInt (w32 (a + b)) := by rw [cv_w32, Int32.ofInt_add]
theorem cv_sub (a b : Int) : Int32.ofInt a - Int32.ofInt b = Int32.ofInt (w32 (a - b)) := by rw [cv_w32, Int32.ofInt_sub]
theorem cv_mul (a b : Int) : Int32.ofInt a * Int32.ofInt b = Int32.ofInt (w32 (a * b)) := by rw [cv_w32, Int32.ofInt_mul]
theorem cv_neg (a : Int) : -Int32.ofInt a = Int32.ofInt (w32 (-a)) := by rw [cv_w32, Int32.ofInt_neg]
theorem cv_div {a b : Int} (ha : in32 a) (hb : in32 b) : Int32.ofInt a / Int32.ofInt b = Int32.ofInt (w32 (a.tdiv b)) := by
  apply Int32.toInt_inj.mp
  rw [Int32.toInt_div, cv_int ha, cv_int hb, cv_w32, Int32.toInt_ofInt]
theorem cv_rem {a b : Int} (ha : in32 a) (hb : in32 b) : Int32.ofInt a - Int32.ofInt a / Int32.ofInt b * Int32.ofInt b = Int32.ofInt (w32 (a.tmod b)) := by
  rw [cv_div ha hb, cv_w32, cv_w32, ← Int32.ofInt_mul, ← Int32.ofInt_sub]
  congr 1
  rw [Int.tmod_def, Int.mul_comm]
theorem cv_ladd (a b : Int) : Int64.ofInt a + Int64.ofInt b = Int64.ofInt (w64 (a + b)) := by rw [cv_w64, Int64.ofInt_add]
theorem cv_lsub (a b : Int) : Int64.ofInt a - Int64.ofInt b = Int64.ofInt (w64 (a - b)) := by rw [cv_w64, Int64.ofInt_sub]
theorem cv_lmul (a b : Int) : Int64.ofInt a * Int64.ofInt b = Int64.ofInt (w64 (a * b)) := by rw [cv_w64, Int64.ofInt_mul]
theorem cv_i2l {a : Int} (h : in32 a) : (Int32.ofInt a).toInt64 = Int64.ofInt a := by
  apply Int64.toInt_inj.mp
  rw [Int32.toInt_toInt64, cv_int h, cv_long (in32_64 h)]
theorem cv_l2i {a : Int} (h : in64 a) : (Int64.ofInt a).toInt32 = Int32.ofInt (w32 a) := by
  apply Int32.toInt_inj.mp
  rw [Int64.toInt_toInt32, cv_long h, cv_w32, Int32.toInt_ofInt]
theorem cv_i2b {a : Int} (h : in32 a) : (Int32.ofInt a).toInt8.toInt32 = Int32.ofInt (w8 a) := by
  apply Int32.toInt_inj.mp
  rw [Int8.toInt_toInt32, Int32.toInt_toInt8, cv_int h, cv_int (w8_in a)]
  simp only [w8, Int.bmod_def]
  omega
theorem cv_i2s {a : Int} (h : in32 a) : (Int32.ofInt a).toInt16.toInt32 = Int32.ofInt (w16 a) := by
  apply Int32.toInt_inj.mp
  rw [Int16.toInt_toInt32, Int32.toInt_toInt16, cv_int h, cv_int (w16_in a)]
  simp only [w16, Int.bmod_def]
  omega
theorem cv_lt {a b : Int} (ha : in32 a) (hb : in32 b) : Int32.ofInt a < Int32.ofInt b ↔ a < b := by rw [Int32.lt_iff_toInt_lt, cv_int ha, cv_int hb]
theorem cv_le {a b : Int} (ha : in32 a) (hb : in32 b) : Int32.ofInt a ≤ Int32.ofInt b ↔ a ≤ b := by rw [Int32.le_iff_toInt_le, cv_int ha, cv_int hb]
theorem cv_eq {a b : Int} (ha : in32 a) (hb : in32 b) : Int32.ofInt a = Int32.ofInt b ↔ a = b := by rw [← Int32.toInt_inj, cv_int ha, cv_int hb]
theorem cv_0 : (0 : Int32) = Int32.ofInt 0 := rfl
theorem in32_0 : in32 0 := by unfold in32; omega
theorem cv_lcmp {a b : Int} (ha : in64 a) (hb : in64 b) : lg_cmp (Int64.ofInt a) (Int64.ofInt b) = Int32.ofInt (l_cmp a b) := by
  have h1 : Int64.ofInt a > Int64.ofInt b ↔ b < a := by
    show Int64.ofInt b < Int64.ofInt a ↔ _
    rw [Int64.lt_iff_toInt_lt, cv_long ha, cv_long hb]
  have h2 : Int64.ofInt a = Int64.ofInt b ↔ a = b := by rw [← Int64.toInt_inj, cv_long ha, cv_long hb]
  unfold lg_cmp l_cmp
  by_cases e1 : b < a
  · rw [if_pos (h1.mpr e1), if_neg (by omega), if_neg (by omega)]; rfl
  · rw [if_neg (fun z => e1 (h1.mp z))]
    by_cases e2 : a = b
    · rw [if_pos (h2.mpr e2), if_neg (by omega), if_pos e2]; rfl
    · rw [if_neg (fun z => e2 (h2.mp z)), if_pos (by omega)]; rfl
theorem cv_nat {a : Int} (h : in32 a) (h0 : 0 ≤ a) : (Int32.ofInt a).toNatClampNeg = a.toNat := by
  unfold in32 at h
  exact Int32.toNatClampNeg_ofInt_of_le (by omega) (by omega)
theorem cv_in {a : Int} {n : Nat} (h : in32 a) (h0 : 0 ≤ a) (hn : a < n) : vp_in (Int32.ofInt a) n := by
  rw [vp_in_iff, cv_int h]
  exact ⟨h0, hn⟩
def am_fty (ci j : Nat) : FieldType := (parseFieldDescriptor ((am_Tn ci) j).2.2.1).getD .int
def am_cks (ci : Nat) : Bool := (List.range (am_nF ci)).all fun j => decide (parseFieldDescriptor ((am_Tn ci) j).2.2.1 = some (am_fty ci j)) && decide (((am_Tn ci) j).1 = am_Cn ci) &&
  (match am_Ft ci j, am_fty ci j with
    | 0, .int => true
    | 1, .long => true
    | 2, .object _ => true
    | 2, .array _ => true
    | 3, .boolean => true
    | _, _ => false)
theorem am_cks_all : ∀ ci, ci ≤ 5 → am_cks ci = true := by
  intro ci h
  have : ∀ ci ∈ List.range 6, am_cks ci = true := by decide +kernel
  exact this ci (List.mem_range.mpr (by omega))
theorem am_fld {ci j : Nat} (h : ci ≤ 5) (hj : j < am_nF ci) : parseFieldDescriptor ((am_Tn ci) j).2.2.1 = some (am_fty ci j) ∧ ((am_Tn ci) j).1 = am_Cn ci ∧ ((am_Ft ci j = 0 ∧ am_fty ci j = .int) ∨ (am_Ft ci j = 1 ∧ am_fty ci j = .long) ∨ (am_Ft ci j = 2 ∧ ((∃ n, am_fty ci j = .object n) ∨ ∃ t, am_fty ci j = .array t)) ∨ (am_Ft ci j = 3 ∧ am_fty ci j = .boolean)) := by
  have h1 := List.all_eq_true.mp (am_cks_all ci h) j (List.mem_range.mpr hj)
  simp only [Bool.and_eq_true, decide_eq_true_eq] at h1
  refine ⟨h1.1.1, h1.1.2, ?_⟩
  have h2 := h1.2
  split at h2
  · rename_i e1 e2; exact Or.inl ⟨e1, e2⟩
  · rename_i e1 e2; exact Or.inr (Or.inl ⟨e1, e2⟩)
  · rename_i n e1 e2; exact Or.inr (Or.inr (Or.inl ⟨e1, Or.inl ⟨n, e2⟩⟩))
  · rename_i n e1 e2; exact Or.inr (Or.inr (Or.inl ⟨e1, Or.inr ⟨n, e2⟩⟩))
  · rename_i e1 e2; exact Or.inr (Or.inr (Or.inr ⟨e1, e2⟩))
  · cases h2
theorem am_names : ∀ ci, ci ≤ 5 → ∀ a, a < am_nF ci → ∀ b, b < am_nF ci → a ≠ b → ((am_Tn ci) a).2.1 ≠ ((am_Tn ci) b).2.1 := by
  have : ∀ ci, ci < 6 → ∀ a, a < am_nF ci → ∀ b, b < am_nF ci → a ≠ b → ((am_Tn ci) a).2.1 ≠ ((am_Tn ci) b).2.1 := by decide +kernel
  exact fun ci h => this ci (by omega)
theorem am_uws : ∀ ci, ci ≤ 5 → ∀ w ∈ u_ws (am_Cn ci) (am_Tn ci) (am_nF ci), w ∈ lw_tbl := by
  have : ∀ ci, ci < 6 → ∀ w ∈ u_ws (am_Cn ci) (am_Tn ci) (am_nF ci), w ∈ lw_tbl := by decide +kernel
  exact fun ci h => this ci (by omega)
/-- the words that any callee may be told, and the others -/
def lw_good : List Jvm.Cond := lw_tbl.filter goodWord
def am_isN (w : Jvm.Cond) : Bool := match w with
  | .fieldLinkNest .. => true
  | .methodLinkNest .. => true
  | _ => false
theorem am_uwsG : ∀ ci, ci ≤ 5 → ∀ w ∈ u_ws (am_Cn ci) (am_Tn ci) (am_nF ci), w ∈ lw_good := by
  have : ∀ ci, ci < 6 → ∀ w ∈ u_ws (am_Cn ci) (am_Tn ci) (am_nF ci), goodWord w = true := by decide +kernel
  exact fun ci h w hw => List.mem_filter.mpr ⟨am_uws ci h w hw, this ci (by omega) w hw⟩
theorem am_cell_o {ad : Nat → Nat} {tt : am_TT} {E : am_E} {u : am_M} {k ci N : Nat} (h : ci ≤ 5) : am_cell ad tt E u k (ci, N) = .inr (ci, (List.range N).map fun j => am_fv ad (am_Ft ci j) (u k j) (E.2.1 k j)) := by
  unfold am_cell
  dsimp only
  rw [if_neg (by omega), if_neg (by omega), if_neg (by omega), if_neg (by omega)]
theorem am_fs_get {ad : Nat → Nat} {E : am_E} {u : am_M} {k ci N j : Nat} (h : j < N) : ((List.range N).map fun j => am_fv ad (am_Ft ci j) (u k j) (E.2.1 k j))[j]? = some (am_fv ad (am_Ft ci j) (u k j) (E.2.1 k j)) := by
  rw [List.getElem?_map, List.getElem?_range h]; rfl
theorem am_fs_set {ad : Nat → Nat} {E E' : am_E} {u u' : am_M} {k ci N j : Nat} {v : Value} (hv : v = am_fv ad (am_Ft ci j) (u' k j) (E'.2.1 k j)) (hu : ∀ i, i ≠ j → u' k i = u k i) (hr : ∀ i, i ≠ j → E'.2.1 k i = E.2.1 k i) :
    ((List.range N).map fun j => am_fv ad (am_Ft ci j) (u k j) (E.2.1 k j)).set j v = (List.range N).map fun j => am_fv ad (am_Ft ci j) (u' k j) (E'.2.1 k j) := by
  subst hv
  apply List.ext_getElem?
  intro i
  by_cases hi : i = j
  · subst hi
    by_cases hl : i < N
    · rw [List.getElem?_set_self (by simpa using hl), am_fs_get hl]
    · rw [List.getElem?_eq_none (by simp; omega), List.getElem?_eq_none (by simp; omega)]
  · rw [List.getElem?_set_ne (fun z => hi z.symm)]
    by_cases hl : i < N
    · rw [am_fs_get hl, am_fs_get hl, hu i hi, hr i hi]
    · rw [List.getElem?_eq_none (by simp; omega), List.getElem?_eq_none (by simp; omega)]
theorem am_cv_R (ad : Nat → Nat) (b : Nat) (o : Option Nat) : am_cv ad b (vR o) = va_rf (o.map ad) := by cases o <;> rfl
theorem am_cats (ad : Nat → Nat) (b : Nat) : ∀ st : List am_V, ((st.map (am_cv ad b)).map fun v => v.category).sum ≤ 2 * st.length := by
  intro st
  induction st with
  | nil => simp
  | cons a l ih =>
    have : (am_cv ad b a).category ≤ 2 := by rw [am_cv_cat]; split <;> omega
    simp only [List.map_cons, List.sum_cons, List.length_cons]
    omega
theorem am_RA_inj {s : State} {D : va_G} {tt : am_TT} {cA : ClassId} {ty : FieldType} {t0 : Nat} {c0 : ClassId} (hK : va_K D am_cls (am_tys tt ++ [(cA, ty)]) s) (h0 : (am_tys tt)[t0]? = some (c0, ty)) (hk : va_K D am_cls (am_tys tt) s) : cA = c0 := by
  have h1 := (hK.2 4 (cA, ty) rfl).2
  have h2 := (hk.2 t0 _ h0).2
  cases ty with
  | object C =>
    obtain ⟨_, _, _, _, _, e1⟩ := h1
    obtain ⟨_, _, _, _, _, e2⟩ := h2
    exact Option.some.inj (e1.symm.trans e2)
  | _ => exact Option.some.inj (Eq.trans (Eq.symm h1) h2)

/-! What a run keeps: numbers in their ranges, references within the cells, sizes. -/
def in32 (i : Int) : Prop := -2147483648 ≤ i ∧ i ≤ 2147483647
def in64 (i : Int) : Prop := -9223372036854775808 ≤ i ∧ i ≤ 9223372036854775807
theorem in32_64 {i : Int} (h : in32 i) : in64 i := by unfold in32 at h; unfold in64; omega
theorem w32_in (i : Int) : in32 (w32 i) := by unfold w32 in32; omega
theorem w64_in (i : Int) : in64 (w64 i) := by unfold w64 in64; omega
theorem w8_in (i : Int) : in32 (w8 i) := by unfold w8 in32; omega
theorem w16_in (i : Int) : in32 (w16 i) := by unfold w16 in32; omega
theorem w32_id {i : Int} (h : in32 i) : w32 i = i := by unfold in32 at h; unfold w32; omega
theorem w64_id {i : Int} (h : in64 i) : w64 i = i := by unfold in64 at h; unfold w64; omega
theorem i_in (x : Int32) : in32 x.toInt := ⟨by have := x.le_toInt; omega, by have := x.toInt_lt; omega⟩
theorem l_in (x : Int64) : in64 x.toInt := ⟨by have := x.le_toInt; omega, by have := x.toInt_lt; omega⟩
theorem b_in (x : Int8) : in32 x.toInt := ⟨by have := x.le_toInt; omega, by have := x.toInt_lt; omega⟩
theorem s_in (x : Int16) : in32 x.toInt := ⟨by have := x.le_toInt; omega, by have := x.toInt_lt; omega⟩
theorem l_cmp_in (a b : Int) : in32 (l_cmp a b) := by unfold l_cmp in32; split <;> (try split) <;> omega
def am_ok (n : Nat) (v : am_V) : Prop := match v with
  | .inl i => in32 i
  | .inr (.inl i) => in64 i
  | .inr (.inr (.inl (some k))) => k < n
  | _ => True
theorem am_ok_I {n : Nat} {i : Int} : am_ok n (.inl i) = in32 i := rfl
theorem am_ok_L {n : Nat} {i : Int} : am_ok n (.inr (.inl i)) = in64 i := rfl
theorem am_ok_R {n k : Nat} : am_ok n (.inr (.inr (.inl (some k)))) = (k < n) := rfl
theorem am_ok_N {n : Nat} : am_ok n (.inr (.inr (.inl none))) = True := rfl
theorem am_ok_B {n : Nat} {b : Bool} : am_ok n (.inr (.inr (.inr b))) = True := rfl
theorem am_ok_mono {n n' : Nat} (h : n ≤ n') {v : am_V} (hv : am_ok n v) : am_ok n' v := by
  rcases v with i | i | (_ | k) | b
  · exact hv
  · exact hv
  · trivial
  · exact Nat.lt_of_lt_of_le hv h
  · trivial
/-- a slot's type -/
def am_ty (F : am_F) (E : am_E) (k j : Nat) : Nat := match E.1[k]? with
  | none => 0
  | some (t, _) => if t = 11 then 1 else if 10 ≤ t then 0 else F t j
def am_szs (E : am_E) : Nat := (E.1.map (fun q => q.2)).sum
def am_kd (nF : Nat → Nat) (q : Nat × Nat) : Prop := (q.1 ≤ 5 ∧ q.2 = nF q.1) ∨ (10 ≤ q.1 ∧ q.1 ≤ 13 ∧ q.2 ≤ 10000)
def am_OK (F : am_F) (nF : Nat → Nat) (E : am_E) (u : am_M) : Prop :=
  (∀ k j : Nat, in64 (u k j)) ∧ (∀ k j : Nat, am_ty F E k j ≠ 1 → in32 (u k j)) ∧ (∀ k j i : Nat, E.2.1 k j = some i → i < E.1.length) ∧ (∀ (k : Nat) (q : Nat × Nat), E.1[k]? = some q → am_kd nF q) ∧ E.2.2.1 < 2147483648 ∧ ∀ j : Nat, in32 (E.2.2.2 j)
def am_le (E E' : am_E) : Prop := E.1.length ≤ E'.1.length ∧ am_szs E ≤ am_szs E' ∧ (∀ (k : Nat) (q : Nat × Nat), E.1[k]? = some q → E'.1[k]? = some q) ∧ E'.2.2 = E.2.2
theorem am_le_rfl (E : am_E) : am_le E E := ⟨Nat.le_refl _, Nat.le_refl _, fun _ _ h => h, rfl⟩
theorem am_le_tr {E E' E2 : am_E} (h : am_le E E') (h' : am_le E' E2) : am_le E E2 := ⟨Nat.le_trans h.1 h'.1, Nat.le_trans h.2.1 h'.2.1, fun k q hk => h'.2.2.1 k q (h.2.2.1 k q hk), h'.2.2.2.trans h.2.2.2⟩
/-- what the tables' row of an instruction must be, for a step to keep it so -/
def am_xk (nF : Nat → Nat) (ins : Instr) (x : List Nat) : Prop := match ins with
  | .new _ => ∃ ci N r, x = ci :: N :: r ∧ ci ≤ 5 ∧ N = nF ci
  | .anewarray _ => ∃ t r, x = t :: r ∧ (t = 12 ∨ t = 13)
  | .getfield _ => ∀ ci N j r, x = ci :: N :: j :: r → ci ≤ 5
  | .putfield _ => ∀ ci N j r, x = ci :: N :: j :: r → ci ≤ 5
  | _ => True
def am_okO (F : am_F) (nF : Nat → Nat) (E0 : am_E) (o : am_N ⊕ Option am_V ⊕ (Nat × List am_V × List am_V)) : Prop := match o with
  | .inl (_, ls, st, E, u) => am_OK F nF E u ∧ (∀ v ∈ ls, am_ok E.1.length v) ∧ (∀ v ∈ st, am_ok E.1.length v) ∧ am_le E0 E
  | .inr (.inl r) => ∀ v, r = some v → am_ok E0.1.length v
  | .inr (.inr (_, a, st')) => (∀ v ∈ a, am_ok E0.1.length v) ∧ ∀ v ∈ st', am_ok E0.1.length v
theorem am_fx_ok {n : Nat} {v : am_V} (h : am_ok n v) : am_ok n (am_fx v) := by
  rcases v with i | i | (_ | k) | b <;> first | exact h | trivial
theorem am_st_ok {n : Nat} : ∀ {ls : List am_V} {i : Nat} {v : am_V}, (∀ w ∈ ls, am_ok n w) → am_ok n v → ∀ w ∈ am_st ls i v, am_ok n w := by
  intro ls
  induction ls with
  | nil => intro i v h hv w hw; simp [am_st] at hw
  | cons a l ih =>
    intro i v h hv w hw
    have ha := h a List.mem_cons_self
    have hl : ∀ w ∈ l, am_ok n w := fun w hw => h w (List.mem_cons_of_mem _ hw)
    cases i with
    | zero =>
      have hw : w ∈ v :: l := by cases l <;> simpa [am_st] using hw
      rw [List.mem_cons] at hw
      rcases hw with rfl | hw
      · exact hv
      · exact hl w hw
    | succ i =>
      cases i with
      | zero =>
        cases l with
        | nil =>
          simp [am_st] at hw
          rw [hw]; exact ha
        | cons b l =>
          have hw : w ∈ am_fx a :: v :: l := hw
          simp only [List.mem_cons] at hw
          rcases hw with rfl | rfl | hw
          · exact am_fx_ok ha
          · exact hv
          · exact hl w (List.mem_cons_of_mem _ hw)
      | succ i =>
        have : am_st (a :: l) (i + 1 + 1) v = a :: am_st l (i + 1) v := by
          cases l <;> simp [am_st]
        rw [this, List.mem_cons] at hw
        rcases hw with rfl | hw
        · exact ha
        · exact ih hl hv w hw
theorem am_get_ok {n : Nat} {ls : List am_V} {i : Nat} {v : am_V} (h : ∀ w ∈ ls, am_ok n w) (hv : ls[i]? = some v) : am_ok n v := h v (List.mem_of_getElem? hv)
theorem am_up_OK {F : am_F} {nF : Nat → Nat} {E : am_E} {u : am_M} {k j : Nat} {v : Int} (h : am_OK F nF E u) (h1 : in64 v) (h2 : am_ty F E k j ≠ 1 → in32 v) : am_OK F nF E (am_up u k j v) := by
  obtain ⟨a, b, c⟩ := h
  refine ⟨fun k' j' => ?_, fun k' j' ht => ?_, c⟩
  · unfold am_up; split
    · exact h1
    · exact a k' j'
  · unfold am_up; split
    · rename_i q; obtain ⟨rfl, rfl⟩ := q; exact h2 ht
    · exact b k' j' ht
theorem am_rp_OK {F : am_F} {nF : Nat → Nat} {E : am_E} {u : am_M} {k j : Nat} {o : Option Nat} (h : am_OK F nF E u) (h1 : ∀ i, o = some i → i < E.1.length) : am_OK F nF (E.1, am_rp E.2.1 k j o, E.2.2) u := by
  obtain ⟨a, b, c, d⟩ := h
  refine ⟨a, b, fun k' j' i hi => ?_, d⟩
  simp only [am_rp] at hi
  split at hi
  · exact h1 i hi
  · exact c k' j' i hi
theorem am_cp_OK {F : am_F} {nF : Nat → Nat} {E : am_E} {u : am_M} {a i b j n : Nat} (h : am_OK F nF E u) (h2 : ∀ j', am_ty F E b j' ≠ 1 → ∀ i', in32 (u a i')) : am_OK F nF E (am_cp u a i b j n) := by
  obtain ⟨p, q, c⟩ := h
  refine ⟨fun k' j' => ?_, fun k' j' ht => ?_, c⟩
  · unfold am_cp; split
    · exact p _ _
    · exact p _ _
  · unfold am_cp; split
    · rename_i z; obtain ⟨rfl, -⟩ := z; exact h2 _ ht _
    · exact q k' j' ht
theorem am_new_OK {F : am_F} {nF : Nat → Nat} {E : am_E} {u : am_M} {q : Nat × Nat} (h : am_OK F nF E u) (hq : am_kd nF q) : am_OK F nF (E.1 ++ [q], am_zq E.2.1 E.1.length, E.2.2) (am_zr u E.1.length) := by
  obtain ⟨a, b, c, d, e⟩ := h
  refine ⟨fun k j => ?_, fun k j ht => ?_, fun k j i hi => ?_, fun k z hz => ?_, e⟩
  · unfold am_zr; split
    · unfold in64; omega
    · exact a k j
  · unfold am_zr; split
    · unfold in32; omega
    · rename_i hk
      refine b k j ?_
      unfold am_ty at ht ⊢
      by_cases hl : k < E.1.length
      · simpa [List.getElem?_append_left hl] using ht
      · rw [List.getElem?_eq_none (by omega)]; simp
  · simp only [am_zq] at hi
    simp only [List.length_append, List.length_cons, List.length_nil]
    split at hi
    · cases hi
    · have := c k j i hi; omega
  · by_cases hl : k < E.1.length
    · rw [List.getElem?_append_left hl] at hz; exact d k z hz
    · rw [List.getElem?_append_right (by omega)] at hz
      have : z = q := by
        cases hk : k - E.1.length with
        | zero => rw [hk] at hz; simpa using hz.symm
        | succ m => rw [hk] at hz; simp at hz
      rw [this]; exact hq
theorem am_new_le {E : am_E} {q : Nat × Nat} {r : Nat → Nat → Option Nat} : am_le E (E.1 ++ [q], r, E.2.2) := by
  refine ⟨by simp, ?_, fun k z hz => ?_, rfl⟩
  · simp [am_szs]
  · have hl := (List.getElem?_eq_some_iff.mp hz).1
    show (E.1 ++ [q])[k]? = some z
    rw [List.getElem?_append_left hl]; exact hz
theorem am_len_pos {t : Nat} {E : am_E} {k : Nat} {i : Int} (h0 : 0 ≤ i) (h : i < am_len t E k) : ∃ n : Nat, E.1[k]? = some (t, n) ∧ i < n := by
  unfold am_len at h
  cases hk : E.1[k]? with
  | none => rw [hk] at h; dsimp only at h; omega
  | some q =>
    obtain ⟨t', n⟩ := q
    rw [hk] at h
    dsimp only at h
    split at h
    · rename_i ht; subst ht; exact ⟨n, rfl, h⟩
    · omega
theorem am_nx_eq {pc len : Nat} {ls st : List am_V} {E : am_E} {u : am_M} {o : am_N ⊕ Option am_V ⊕ (Nat × List am_V × List am_V)} (h : am_nx pc len ls st E u = some o) : o = .inl (pc + len, ls, st, E, u) := (Option.some.inj h).symm
theorem am_jp_eq {pc : Nat} {off : Int} {ls st : List am_V} {E : am_E} {u : am_M} {o : am_N ⊕ Option am_V ⊕ (Nat × List am_V × List am_V)} (h : am_jp pc off ls st E u = some o) : ∃ t : Nat, (pc : Int) + off = (t : Int) ∧ o = .inl (t, ls, st, E, u) := by
  unfold am_jp at h
  split at h
  · exact ⟨_, by omega, (Option.some.inj h).symm⟩
  · cases h
theorem am_load_eq {v : Option am_V} {t : Nat} {k : am_V → am_O} {o : am_N ⊕ Option am_V ⊕ (Nat × List am_V × List am_V)} (h : am_load v t k = some o) : ∃ w, v = some w ∧ k w = some o ∧ ((t = 0 ∧ ∃ i, w = vI i) ∨ (t = 1 ∧ ∃ i, w = vL i) ∨ (t = 2 ∧ ((∃ q, w = vR q) ∨ w = vB true))) := by
  unfold am_load at h
  split at h
  · exact ⟨_, rfl, h, Or.inl ⟨rfl, _, rfl⟩⟩
  · exact ⟨_, rfl, h, Or.inr (Or.inl ⟨rfl, _, rfl⟩)⟩
  · exact ⟨_, rfl, h, Or.inr (Or.inr ⟨rfl, Or.inl ⟨_, rfl⟩⟩)⟩
  · exact ⟨_, rfl, h, Or.inr (Or.inr ⟨rfl, Or.inr rfl⟩)⟩
  · cases h
theorem am_call_eq {M n : Nat} {st : List am_V} {v : am_V → List am_V → Bool} {o : am_N ⊕ Option am_V ⊕ (Nat × List am_V × List am_V)} (h : am_call M n st v = some o) :
    (st.drop n).length ≤ 4 ∧ n ≤ st.length ∧ v ((st.take n).getLast?.getD (vB false)) st = true ∧ o = .inr (.inr (M, (st.take n).reverse, st.drop n)) := by
  unfold am_call at h
  split at h
  · rename_i q; exact ⟨q.1, q.2.1, q.2.2, (Option.some.inj h).symm⟩
  · cases h
theorem am_br_eq {b : Bool} {x y : am_O} {o : am_N ⊕ Option am_V ⊕ (Nat × List am_V × List am_V)} (h : am_br b x y = some o) : (b = true ∧ x = some o) ∨ (b = false ∧ y = some o) := by
  unfold am_br at h
  cases b
  · exact Or.inr ⟨rfl, h⟩
  · exact Or.inl ⟨rfl, h⟩
theorem am_ref_ok {F : am_F} {nF : Nat → Nat} {E : am_E} {u : am_M} (h : am_OK F nF E u) {k j : Nat} : am_ok E.1.length (vR (E.2.1 k j)) := by
  cases hq : E.2.1 k j with
  | none => trivial
  | some i => exact h.2.2.1 k j i hq
theorem am_refs {n : Nat} {o : Option Nat} (h : am_ok n (vR o)) : ∀ i, o = some i → i < n := fun i e => by subst e; exact h
theorem am_ty_f {F : am_F} {E : am_E} {k j ci N : Nat} (h : E.1[k]? = some (ci, N)) (hc : ci ≤ 5) : am_ty F E k j = F ci j := by
  unfold am_ty; rw [h]; dsimp only; rw [if_neg (by omega), if_neg (by omega)]
theorem am_ty_10 {F : am_F} {E : am_E} {k j N : Nat} (h : E.1[k]? = some (10, N)) : am_ty F E k j = 0 := by
  unfold am_ty; rw [h]; rfl
theorem am_ty_11 {F : am_F} {E : am_E} {k j N : Nat} (h : E.1[k]? = some (11, N)) : am_ty F E k j = 1 := by
  unfold am_ty; rw [h]; rfl
theorem am_kn_eq {E : am_E} {k t : Nat} (h : am_kn E k = t) (ht : t ≠ 99) : ∃ N : Nat, E.1[k]? = some (t, N) := by
  unfold am_kn at h
  cases hk : E.1[k]? with
  | none => rw [hk] at h; exact absurd h.symm ht
  | some q => obtain ⟨t', N⟩ := q; rw [hk] at h; dsimp only at h; subst h; exact ⟨N, rfl⟩
theorem am_size_le {F : am_F} {nF : Nat → Nat} {E : am_E} {u : am_M} (hO : am_OK F nF E u) {k n : Nat} (h : am_size E k = some n) : n ≤ 10000 := by
  unfold am_size at h
  cases hk : E.1[k]? with
  | none => rw [hk] at h; cases h
  | some q =>
    obtain ⟨t, N⟩ := q
    rw [hk] at h
    dsimp only at h
    split at h
    · cases h
      rcases hO.2.2.2.1 k _ hk with z | z
      · dsimp only at z; omega
      · exact z.2.2
    · cases h
theorem am_isL_no {v : am_V} {n : Nat} (_ : ¬ am_isL v = true) (h : am_ok n v) : am_ok n v := h
theorem am_len_ge {t : Nat} {E : am_E} {k : Nat} {i n : Int} (h0 : 0 ≤ i) (hn : 0 < n) (h : i + n ≤ am_len t E k) : ∃ N : Nat, E.1[k]? = some (t, N) ∧ i + n ≤ N := by
  obtain ⟨N, h1, h2⟩ := am_len_pos (t := t) (E := E) (k := k) (i := i + n - 1) (by omega) (by omega)
  exact ⟨N, h1, by omega⟩
set_option maxHeartbeats 4000000 in
theorem am_step_ok {F : am_F} {nF : Nat → Nat} {ins : Instr} {x : List Nat} {v0 : Int} {pc len : Nat} {ls st : List am_V} {E : am_E} {u : am_M} {o : am_N ⊕ Option am_V ⊕ (Nat × List am_V × List am_V)}
    (hx : am_xk nF ins x) (hO : am_OK F nF E u) (hl : ∀ v ∈ ls, am_ok E.1.length v) (hs : ∀ v ∈ st, am_ok E.1.length v) (h : am_step F ins x v0 pc len ls st E u = some o) : am_okO F nF E o := by
  have N : ∀ {ls' st' : List am_V}, am_nx pc len ls' st' E u = some o → (∀ v ∈ ls', am_ok E.1.length v) → (∀ v ∈ st', am_ok E.1.length v) → am_okO F nF E o := by
    intro ls' st' h3 h1 h2
    rw [am_nx_eq h3]
    exact ⟨hO, h1, h2, am_le_rfl E⟩
  have J : ∀ {st' : List am_V} {off : Int}, (∀ v ∈ st', am_ok E.1.length v) → am_jp pc off ls st' E u = some o → am_okO F nF E o := by
    intro st' off h2 h3
    obtain ⟨t, -, rfl⟩ := am_jp_eq h3
    exact ⟨hO, hl, h2, am_le_rfl E⟩
  have LD : ∀ {i t : Nat}, am_load ls[i]? t (fun v => am_nx pc len ls (v :: st) E u) = some o → am_okO F nF E o := by
    intro i t h3
    obtain ⟨w, hw, h4, -⟩ := am_load_eq h3
    exact N h4 hl (List.forall_mem_cons.mpr ⟨am_get_ok hl hw, hs⟩)
  have CL : ∀ {M n : Nat} {f : am_V → List am_V → Bool}, am_call M n st f = some o → am_okO F nF E o := by
    intro M n f h3
    obtain ⟨-, -, -, rfl⟩ := am_call_eq h3
    exact ⟨fun v hv => hs v (List.mem_of_mem_take (List.mem_reverse.mp hv)), fun v hv => hs v (List.mem_of_mem_drop hv)⟩
  have BR : ∀ {b : Bool} {y z : am_O}, am_br b y z = some o → (y = some o → am_okO F nF E o) → (z = some o → am_okO F nF E o) → am_okO F nF E o := fun h1 h2 h3 => (am_br_eq h1).elim (fun q => h2 q.2) (fun q => h3 q.2)
  have FC : ∀ {P : Prop} {a b : am_V} {l : List am_V}, (∀ v ∈ a :: l, am_ok E.1.length v) → (am_ok E.1.length a → (∀ v ∈ l, am_ok E.1.length v) → P) → P := fun h k => k (h _ List.mem_cons_self) (fun w hw => h w (List.mem_cons_of_mem _ hw))
  cases ins <;> simp only [am_step] at h
  all_goals (first | (cases h; done) | (exact LD h) | (exact J hs h) | skip)
  case getfield =>
    split at h
    · split at h
      · rename_i hk
        have hc := hx _ _ _ _ rfl
        simp only [List.forall_mem_cons] at hs
        split at h
        · exact N h hl (List.forall_mem_cons.mpr ⟨hO.1 _ _, hs.2⟩)
        · exact N h hl (List.forall_mem_cons.mpr ⟨am_ref_ok hO, hs.2⟩)
        · rename_i h1 h2
          exact N h hl (List.forall_mem_cons.mpr ⟨hO.2.1 _ _ (by rw [am_ty_f hk hc]; exact h1), hs.2⟩)
      · cases h
    · cases h
  case putfield =>
    split at h
    · split at h
      · rename_i hk
        have hc := hx _ _ _ _ rfl
        simp only [List.forall_mem_cons] at hs
        split at h
        · rw [am_nx_eq h]; exact ⟨am_up_OK hO (in32_64 hs.1) (fun _ => hs.1), hl, hs.2.2, am_le_rfl E⟩
        · rename_i hf
          rw [am_nx_eq h]; exact ⟨am_up_OK hO hs.1 (fun z => absurd (by rw [am_ty_f hk hc]; exact hf) z), hl, hs.2.2, am_le_rfl E⟩
        · rw [am_nx_eq h]; exact ⟨am_rp_OK hO (am_refs hs.1), hl, hs.2.2, am_le_rfl E⟩
        · split at h
          · rw [am_nx_eq h]; exact ⟨am_up_OK hO (in32_64 hs.1) (fun _ => hs.1), hl, hs.2.2, am_le_rfl E⟩
          · cases h
        · cases h
      · cases h
    · cases h
  case iaload =>
    split at h
    · split at h
      · rename_i q
        simp only [List.forall_mem_cons] at hs
        exact N h hl (List.forall_mem_cons.mpr ⟨hO.2.1 _ _ (by obtain ⟨n, e, -⟩ := am_len_pos q.1 q.2; rw [am_ty_10 e]; decide), hs.2.2⟩)
      · cases h
    · split at h
      · simp only [List.forall_mem_cons] at hs
        exact N h hl (List.forall_mem_cons.mpr ⟨hO.2.2.2.2.2 _, hs.2.2⟩)
      · cases h
    · cases h
  case laload =>
    split at h
    · split at h
      · simp only [List.forall_mem_cons] at hs
        exact N h hl (List.forall_mem_cons.mpr ⟨hO.1 _ _, hs.2.2⟩)
      · cases h
    · cases h
  case aaload =>
    split at h
    · split at h
      · simp only [List.forall_mem_cons] at hs
        exact N h hl (List.forall_mem_cons.mpr ⟨am_ref_ok hO, hs.2.2⟩)
      · cases h
    · cases h
  case iastore =>
    split at h
    · split at h
      · simp only [List.forall_mem_cons] at hs
        rw [am_nx_eq h]; exact ⟨am_up_OK hO (in32_64 hs.1) (fun _ => hs.1), hl, hs.2.2.2, am_le_rfl E⟩
      · cases h
    · cases h
  case lastore =>
    split at h
    · split at h
      · rename_i q
        simp only [List.forall_mem_cons] at hs
        rw [am_nx_eq h]; exact ⟨am_up_OK hO hs.1 (fun z => absurd (by obtain ⟨n, e, -⟩ := am_len_pos q.1 q.2; exact am_ty_11 e) z), hl, hs.2.2.2, am_le_rfl E⟩
      · cases h
    · cases h
  case aastore =>
    split at h
    · split at h
      · simp only [List.forall_mem_cons] at hs
        rw [am_nx_eq h]; exact ⟨am_rp_OK hO (am_refs hs.1), hl, hs.2.2.2, am_le_rfl E⟩
      · cases h
    · cases h
  case arraylength =>
    split at h
    · split at h
      · rename_i n e
        simp only [List.forall_mem_cons] at hs
        refine N h hl (List.forall_mem_cons.mpr ⟨?_, hs.2⟩)
        have := am_size_le hO e
        show in32 (n : Int)
        unfold in32; omega
      · cases h
    · simp only [List.forall_mem_cons] at hs
      refine N h hl (List.forall_mem_cons.mpr ⟨?_, hs.2⟩)
      have := hO.2.2.2.2.1
      show in32 (E.2.2.1 : Int)
      unfold in32; omega
    · cases h
  case new =>
    obtain ⟨ci, N', r, rfl, h1, h2⟩ := hx
    dsimp only at h
    rw [am_nx_eq h]
    exact ⟨am_new_OK hO (Or.inl ⟨h1, h2⟩), fun v hv => am_ok_mono (by simp) (hl v hv), List.forall_mem_cons.mpr ⟨by simp [am_ok], fun v hv => am_ok_mono (by simp) (hs v hv)⟩, am_new_le⟩
  case newarray =>
    split at h
    · split at h
      · rename_i q
        simp only [List.forall_mem_cons] at hs
        rw [am_nx_eq h]
        exact ⟨am_new_OK hO (Or.inr ⟨by dsimp only; omega, by dsimp only; omega, by dsimp only; omega⟩), fun v hv => am_ok_mono (by simp) (hl v hv), List.forall_mem_cons.mpr ⟨by simp [am_ok], fun v hv => am_ok_mono (by simp) (hs.2 v hv)⟩, am_new_le⟩
      · cases h
    · split at h
      · rename_i q
        simp only [List.forall_mem_cons] at hs
        rw [am_nx_eq h]
        exact ⟨am_new_OK hO (Or.inr ⟨by dsimp only; omega, by dsimp only; omega, by dsimp only; omega⟩), fun v hv => am_ok_mono (by simp) (hl v hv), List.forall_mem_cons.mpr ⟨by simp [am_ok], fun v hv => am_ok_mono (by simp) (hs.2 v hv)⟩, am_new_le⟩
      · cases h
    · cases h
  case anewarray =>
    obtain ⟨t, r, rfl, ht⟩ := hx
    split at h
    · rename_i n st' t' r' he
      cases he
      split at h
      · rename_i q
        simp only [List.forall_mem_cons] at hs
        rw [am_nx_eq h]
        exact ⟨am_new_OK hO (Or.inr ⟨by dsimp only; omega, by dsimp only; omega, by dsimp only; omega⟩), fun v hv => am_ok_mono (by simp) (hl v hv), List.forall_mem_cons.mpr ⟨by simp [am_ok], fun v hv => am_ok_mono (by simp) (hs.2 v hv)⟩, am_new_le⟩
      · cases h
    · cases h
  case invokestatic =>
    split at h
    · split at h
      · split at h
        · rename_i q
          simp only [List.forall_mem_cons] at hs
          rw [am_nx_eq h]
          refine ⟨am_cp_OK hO (fun j' hj i' => ?_), hl, hs.2.2.2.2.2, am_le_rfl E⟩
          rcases q.2.2.2.1 with z | z
          · obtain ⟨n, e⟩ := am_kn_eq z.1 (by decide)
            exact hO.2.1 _ _ (by rw [am_ty_10 e]; decide)
          · obtain ⟨n, e⟩ := am_kn_eq z.2.1 (by decide)
            exact absurd (am_ty_11 e) hj
        · cases h
      · cases h
    · exact CL h
    · split at h
      · split at h
        · simp only [List.forall_mem_cons] at hs
          exact N h hl (List.forall_mem_cons.mpr ⟨by split; exact hs.1; exact hs.2.1, hs.2.2⟩)
        · cases h
      · cases h
    · split at h
      · split at h
        · simp only [List.forall_mem_cons] at hs
          exact N h hl (List.forall_mem_cons.mpr ⟨by split; exact hs.1; exact hs.2.1, hs.2.2⟩)
        · cases h
      · cases h
    · cases h
  case invokespecial =>
    split at h
    · split at h
      · split at h
        · simp only [List.forall_mem_cons] at hs
          exact N h hl hs.2
        · cases h
      · cases h
    · exact CL h
    · cases h
  case invokevirtual =>
    split at h
    · exact CL h
    · cases h
  case ireturn =>
    split at h
    · simp only [List.forall_mem_cons] at hs
      split at h
      · split at h
        · rw [← Option.some.inj h]; intro v hv; cases hv; exact hs.1
        · cases h
      · rw [← Option.some.inj h]; intro v hv; cases hv; exact hs.1
    · cases h
  case tableswitch =>
    split at h
    · simp only [List.forall_mem_cons] at hs
      rcases am_br_eq h with ⟨-, h⟩ | ⟨-, h⟩
      · exact J hs.2 h
      · split at h
        · exact J hs.2 h
        · cases h
    · cases h
  case iinc =>
    split at h
    · exact N h (am_st_ok (v := vI (w32 _)) hl (w32_in _)) hs
    · cases h
  all_goals (try (exact N h hl (List.forall_mem_cons.mpr ⟨by first | exact trivial | exact w32_in _ | exact w64_in _ | exact b_in _ | exact s_in _ | (rename_i q; show in64 ((q : Nat) : Int); have := q.isLt; unfold in64; omega), hs⟩)))
  all_goals (repeat' split at h)
  all_goals (first | (cases h; done) | skip)
  all_goals (try simp only [List.forall_mem_cons] at hs)
  all_goals (try (exact N h hl (List.forall_mem_cons.mpr ⟨by first | exact w32_in _ | exact w64_in _ | exact i_in _ | exact l_in _ | exact w8_in _ | exact w16_in _ | exact l_cmp_in _ _ | exact in32_64 hs.1, by first | exact hs.2.2 | exact hs.2⟩)))
  all_goals (try (exact J (by first | exact hs.2 | exact hs.2.2) h))
  all_goals (try (exact N h (am_st_ok hl hs.1) hs.2))
  all_goals (try (exact N h hl hs.2))
  all_goals (try (exact N h hl (List.forall_mem_cons.mpr ⟨hs.1, List.forall_mem_cons.mpr ⟨hs.1, hs.2⟩⟩)))
  all_goals (try (exact N h hl (List.forall_mem_cons.mpr ⟨hs.1, List.forall_mem_cons.mpr ⟨hs.2.1, List.forall_mem_cons.mpr ⟨hs.1, List.forall_mem_cons.mpr hs.2⟩⟩⟩)))
  all_goals (try (rw [← Option.some.inj h]; intro v hv; cases hv; exact hs.1))
  all_goals (try (rw [← Option.some.inj h]; intro v hv; cases hv; done))
  all_goals (try (rw [am_nx_eq h]; refine ⟨hO, fun w hw => ?_, hs.2, am_le_rfl E⟩; rcases List.mem_or_eq_of_mem_set hw with hw | hw; (exact am_st_ok hl hs.1 w hw); (rw [hw]; trivial)))
  all_goals (try (refine BR h ?_ ?_ <;> intro h <;> (first | (exact J (by first | exact hs.2 | exact hs.2.2) h) | exact N h hl (by first | exact hs.2 | exact hs.2.2))))
theorem am_entOK {n L : Nat} {a : List am_V} (h : ∀ v ∈ a, am_ok n v) : ∀ v ∈ am_ent L a, am_ok n v := by
  intro v hv
  unfold am_ent at hv
  rcases List.mem_append.mp hv with hv | hv
  · unfold am_sl at hv
    obtain ⟨w, hw, hv⟩ := List.mem_flatMap.mp hv
    split at hv
    · simp only [List.mem_cons, List.not_mem_nil, or_false] at hv
      rcases hv with rfl | rfl
      · exact h _ hw
      · trivial
    · simp only [List.mem_cons, List.not_mem_nil, or_false] at hv
      rw [hv]; exact h _ hw
  · rw [(List.mem_replicate.mp hv).2]; trivial
theorem am_run_ok {F : am_F} {nF : Nat → Nat} {P : am_P} {Lm : Nat → Nat} (hP : ∀ M pc ins len x v0, P M pc = some (ins, len, x, v0) → am_xk nF ins x) : ∀ (f M pc : Nat) (ls st : List am_V) (E : am_E) (u : am_M) (r : Option am_V) (E' : am_E) (u' : am_M),
    am_run F P Lm f M pc ls st E u = some (r, E', u') → am_OK F nF E u → (∀ v ∈ ls, am_ok E.1.length v) → (∀ v ∈ st, am_ok E.1.length v) → am_OK F nF E' u' ∧ (∀ v, r = some v → am_ok E'.1.length v) ∧ am_le E E' := by
  intro f
  induction f with
  | zero => intro M pc ls st E u r E' u' h; simp [am_run] at h
  | succ f ih =>
    intro M pc ls st E u r E' u' h hO hl hs
    simp only [am_run] at h
    cases hp : P M pc with
    | none => rw [hp] at h; cases h
    | some q =>
      obtain ⟨ins, len, x, v0⟩ := q
      rw [hp] at h
      dsimp only at h
      cases hst : am_step F ins x v0 pc len ls st E u with
      | none => rw [hst] at h; cases h
      | some o =>
        have hk := am_step_ok (hP _ _ _ _ _ _ hp) hO hl hs hst
        rw [hst] at h
        rcases o with ⟨pc1, ls1, st1, E1, u1⟩ | r1 | ⟨M1, a, st1⟩
        · obtain ⟨k1, k2, k3, k4⟩ := hk
          obtain ⟨z1, z2, z3⟩ := ih _ _ _ _ _ _ _ _ _ h k1 k2 k3
          exact ⟨z1, z2, am_le_tr k4 z3⟩
        · dsimp only at h
          cases h
          exact ⟨hO, hk, am_le_rfl _⟩
        · dsimp only at h
          split at h
          case isFalse => cases h
          cases hc : am_run F P Lm f M1 0 (am_ent (Lm M1) a) [] E u with
          | none => rw [hc] at h; cases h
          | some y =>
            obtain ⟨r1, E1, u1⟩ := y
            rw [hc] at h
            dsimp only at h
            obtain ⟨k1, k2⟩ := hk
            obtain ⟨z1, z2, z3⟩ := ih _ _ _ _ _ _ _ _ _ hc hO (am_entOK k1) (fun _ hw => by cases hw)
            obtain ⟨y1, y2, y3⟩ := ih _ _ _ _ _ _ _ _ _ h z1 (fun v hv => am_ok_mono z3.1 (hl v hv)) (fun v hv => by
              rcases List.mem_append.mp hv with hv | hv
              · exact z2 v (by simpa using hv)
              · exact am_ok_mono z3.1 (k2 v hv))
            exact ⟨y1, y2, am_le_tr z3 y3⟩

/-! Rules for runs of our machine, an instruction a rule. -/
noncomputable def Rn (M pc : Nat) (ls st : List am_V) (E : am_E) (u : am_M) : am_Z := am_R am_Ft am_Pg am_Lm M pc ls st E u
/-- a truth as an int -/
def bI (b : Bool) : Int := if b = true then 1 else 0
theorem bI_t : bI true = 1 := rfl
theorem bI_f : bI false = 0 := rfl
theorem bI_0 (b : Bool) : (bI b = 0) = (b = false) := by cases b <;> simp [bI]
theorem bI_1 (b : Bool) : (bI b = 1) = (b = true) := by cases b <;> simp [bI]
theorem bI_lt (b : Bool) : (bI b < 0) = False := by cases b <;> simp [bI]
theorem bI_01 (b : Bool) : bI b = 0 ∨ bI b = 1 := by cases b <;> simp [bI]
theorem bI_if (p : Prop) [Decidable p] : (if p then (1 : Int) else 0) = bI (decide p) := by by_cases h : p <;> simp [h, bI]
theorem bI_ifn (p : Prop) [Decidable p] : (if p then (0 : Int) else 1) = bI (decide ¬p) := by by_cases h : p <;> simp [h, bI]
theorem w32_of {i : Int} (h1 : -2147483648 ≤ i) (h2 : i ≤ 2147483647) : w32 i = i := w32_id ⟨h1, h2⟩
theorem w64_of {i : Int} (h1 : -9223372036854775808 ≤ i) (h2 : i ≤ 9223372036854775807) : w64 i = i := w64_id ⟨h1, h2⟩
theorem fx_I (a : Int) : am_fx (vI a) = vI a := rfl
theorem fx_L (a : Int) : am_fx (vL a) = vB false := rfl
theorem fx_R (o : Option Nat) : am_fx (vR o) = vR o := by cases o <;> rfl
theorem fx_B (b : Bool) : am_fx (vB b) = vB b := rfl
/-- behind a call: its int, its long, its reference, nothing -/
def bdI (z : am_Z) (f : Int → am_E → am_M → am_Z) : am_Z := match z with
  | some (some (.inl v), E, u) => f v E u
  | _ => none
def bdL (z : am_Z) (f : Int → am_E → am_M → am_Z) : am_Z := match z with
  | some (some (.inr (.inl v)), E, u) => f v E u
  | _ => none
def bdR (z : am_Z) (f : Option Nat → am_E → am_M → am_Z) : am_Z := match z with
  | some (some (.inr (.inr (.inl v))), E, u) => f v E u
  | _ => none
def bdV (z : am_Z) (f : am_E → am_M → am_Z) : am_Z := match z with
  | some (none, E, u) => f E u
  | _ => none
/-- what is left of a method behind a call -/
noncomputable def KI (M pc : Nat) (ls st : List am_V) : Int → am_E → am_M → am_Z := fun v E u => Rn M pc ls (vI v :: st) E u
noncomputable def KL (M pc : Nat) (ls st : List am_V) : Int → am_E → am_M → am_Z := fun v E u => Rn M pc ls (vL v :: st) E u
noncomputable def KR (M pc : Nat) (ls st : List am_V) : Option Nat → am_E → am_M → am_Z := fun v E u => Rn M pc ls (vR v :: st) E u
noncomputable def KV (M pc : Nat) (ls st : List am_V) : am_E → am_M → am_Z := fun E u => Rn M pc ls st E u
theorem bdI_s (v : Int) (E : am_E) (u : am_M) (M pc : Nat) (ls st : List am_V) : bdI (some (some (vI v), E, u)) (KI M pc ls st) = Rn M pc ls (vI v :: st) E u := rfl
theorem bdL_s (v : Int) (E : am_E) (u : am_M) (M pc : Nat) (ls st : List am_V) : bdL (some (some (vL v), E, u)) (KL M pc ls st) = Rn M pc ls (vL v :: st) E u := rfl
theorem bdR_s (v : Option Nat) (E : am_E) (u : am_M) (M pc : Nat) (ls st : List am_V) : bdR (some (some (vR v), E, u)) (KR M pc ls st) = Rn M pc ls (vR v :: st) E u := rfl
theorem bdV_s (E : am_E) (u : am_M) (M pc : Nat) (ls st : List am_V) : bdV (some (none, E, u)) (KV M pc ls st) = Rn M pc ls st E u := rfl
variable {M pc len : Nat} {ls st : List am_V} {E : am_E} {u : am_M} {x : List Nat} {v0 : Int} {ins : Instr}
theorem q_go {pc' : Nat} {ls' st' : List am_V} {E' : am_E} {u' : am_M} (hp : am_Pg M pc = some (ins, len, x, v0)) (h : am_step am_Ft ins x v0 pc len ls st E u = some (.inl (pc', ls', st', E', u'))) : Rn M pc ls st E u = Rn M pc' ls' st' E' u' := by
  unfold Rn
  rw [am_R_step hp, h]
theorem q_ret {r : Option am_V} (hp : am_Pg M pc = some (ins, len, x, v0)) (h : am_step am_Ft ins x v0 pc len ls st E u = some (.inr (.inl r))) : Rn M pc ls st E u = some (r, E, u) := by
  unfold Rn
  rw [am_R_step hp, h]
theorem q_if {c : Jvm.ClassFile.Cond} {off : Int} {a : Int} {tgt : Nat} (hp : am_Pg M pc = some (.ifCond c off, 3, x, v0)) (ht : (pc : Int) + off = tgt) : Rn M pc ls (vI a :: st) E u = if am_c1 c a = true then Rn M tgt ls st E u else Rn M (pc + 3) ls st E u := by
  unfold Rn
  rw [am_R_step hp]
  simp only [am_step, am_br, am_jp, am_nx, ht]
  by_cases h : am_c1 c a = true
  · rw [if_pos h, if_pos h, if_pos (by omega)]
    simp
  · rw [if_neg h, if_neg h]
theorem q_icmp {c : Jvm.ClassFile.Cond} {off : Int} {a b : Int} {tgt : Nat} (hp : am_Pg M pc = some (.if_icmp c off, 3, x, v0)) (ht : (pc : Int) + off = tgt) : Rn M pc ls (vI b :: vI a :: st) E u = if am_c2 c a b = true then Rn M tgt ls st E u else Rn M (pc + 3) ls st E u := by
  unfold Rn
  rw [am_R_step hp]
  simp only [am_step, am_br, am_jp, am_nx, ht]
  by_cases h : am_c2 c a b = true
  · rw [if_pos h, if_pos h, if_pos (by omega)]
    simp
  · rw [if_neg h, if_neg h]
theorem q_if_eq {off : Int} {a : Int} {tgt : Nat} (hp : am_Pg M pc = some (.ifCond .eq off, 3, x, v0)) (ht : (pc : Int) + off = tgt) : Rn M pc ls (vI a :: st) E u = if a = 0 then Rn M tgt ls st E u else Rn M (pc + 3) ls st E u := by
  rw [q_if hp ht]; simp [am_c1]
theorem q_if_ne {off : Int} {a : Int} {tgt : Nat} (hp : am_Pg M pc = some (.ifCond .ne off, 3, x, v0)) (ht : (pc : Int) + off = tgt) : Rn M pc ls (vI a :: st) E u = if a = 0 then Rn M (pc + 3) ls st E u else Rn M tgt ls st E u := by
  rw [q_if hp ht]; by_cases h : a = 0 <;> simp [am_c1, h]
theorem q_if_lt {off : Int} {a : Int} {tgt : Nat} (hp : am_Pg M pc = some (.ifCond .lt off, 3, x, v0)) (ht : (pc : Int) + off = tgt) : Rn M pc ls (vI a :: st) E u = if a < 0 then Rn M tgt ls st E u else Rn M (pc + 3) ls st E u := by
  rw [q_if hp ht]; simp [am_c1]
theorem q_if_ge {off : Int} {a : Int} {tgt : Nat} (hp : am_Pg M pc = some (.ifCond .ge off, 3, x, v0)) (ht : (pc : Int) + off = tgt) : Rn M pc ls (vI a :: st) E u = if a < 0 then Rn M (pc + 3) ls st E u else Rn M tgt ls st E u := by
  rw [q_if hp ht]; by_cases h : a < 0
  · rw [if_pos h, if_neg (by simp [am_c1]; omega)]
  · rw [if_neg h, if_pos (by simp [am_c1]; omega)]
theorem q_if_gt {off : Int} {a : Int} {tgt : Nat} (hp : am_Pg M pc = some (.ifCond .gt off, 3, x, v0)) (ht : (pc : Int) + off = tgt) : Rn M pc ls (vI a :: st) E u = if 0 < a then Rn M tgt ls st E u else Rn M (pc + 3) ls st E u := by
  rw [q_if hp ht]; simp [am_c1]
theorem q_if_le {off : Int} {a : Int} {tgt : Nat} (hp : am_Pg M pc = some (.ifCond .le off, 3, x, v0)) (ht : (pc : Int) + off = tgt) : Rn M pc ls (vI a :: st) E u = if 0 < a then Rn M (pc + 3) ls st E u else Rn M tgt ls st E u := by
  rw [q_if hp ht]; by_cases h : 0 < a
  · rw [if_pos h, if_neg (by simp [am_c1]; omega)]
  · rw [if_neg h, if_pos (by simp [am_c1]; omega)]
theorem q_icmp_eq {off : Int} {a b : Int} {tgt : Nat} (hp : am_Pg M pc = some (.if_icmp .eq off, 3, x, v0)) (ht : (pc : Int) + off = tgt) : Rn M pc ls (vI b :: vI a :: st) E u = if a = b then Rn M tgt ls st E u else Rn M (pc + 3) ls st E u := by
  rw [q_icmp hp ht]; simp [am_c2]
theorem q_icmp_ne {off : Int} {a b : Int} {tgt : Nat} (hp : am_Pg M pc = some (.if_icmp .ne off, 3, x, v0)) (ht : (pc : Int) + off = tgt) : Rn M pc ls (vI b :: vI a :: st) E u = if a = b then Rn M (pc + 3) ls st E u else Rn M tgt ls st E u := by
  rw [q_icmp hp ht]; by_cases h : a = b <;> simp [am_c2, h]
theorem q_icmp_lt {off : Int} {a b : Int} {tgt : Nat} (hp : am_Pg M pc = some (.if_icmp .lt off, 3, x, v0)) (ht : (pc : Int) + off = tgt) : Rn M pc ls (vI b :: vI a :: st) E u = if a < b then Rn M tgt ls st E u else Rn M (pc + 3) ls st E u := by
  rw [q_icmp hp ht]; simp [am_c2]
theorem q_icmp_ge {off : Int} {a b : Int} {tgt : Nat} (hp : am_Pg M pc = some (.if_icmp .ge off, 3, x, v0)) (ht : (pc : Int) + off = tgt) : Rn M pc ls (vI b :: vI a :: st) E u = if a < b then Rn M (pc + 3) ls st E u else Rn M tgt ls st E u := by
  rw [q_icmp hp ht]; by_cases h : a < b
  · rw [if_pos h, if_neg (by simp [am_c2]; omega)]
  · rw [if_neg h, if_pos (by simp [am_c2]; omega)]
theorem q_icmp_gt {off : Int} {a b : Int} {tgt : Nat} (hp : am_Pg M pc = some (.if_icmp .gt off, 3, x, v0)) (ht : (pc : Int) + off = tgt) : Rn M pc ls (vI b :: vI a :: st) E u = if b < a then Rn M tgt ls st E u else Rn M (pc + 3) ls st E u := by
  rw [q_icmp hp ht]; simp [am_c2]
theorem q_icmp_le {off : Int} {a b : Int} {tgt : Nat} (hp : am_Pg M pc = some (.if_icmp .le off, 3, x, v0)) (ht : (pc : Int) + off = tgt) : Rn M pc ls (vI b :: vI a :: st) E u = if b < a then Rn M (pc + 3) ls st E u else Rn M tgt ls st E u := by
  rw [q_icmp hp ht]; by_cases h : b < a
  · rw [if_pos h, if_neg (by simp [am_c2]; omega)]
  · rw [if_neg h, if_pos (by simp [am_c2]; omega)]
theorem q_gfI {idx ci N j nest k : Nat} (hp : am_Pg M pc = some (.getfield idx, 3, [ci, N, j, nest], v0)) (hk : E.1[k]? = some (ci, N)) (hf : am_Ft ci j = 0 ∨ am_Ft ci j = 3) : Rn M pc ls (vR (some k) :: st) E u = Rn M (pc + 3) ls (vI (u k j) :: st) E u := by
  refine q_go hp ?_
  simp only [am_step, hk, if_true]
  rcases hf with h | h <;> rw [h] <;> rfl
theorem q_gfL {idx ci N j nest k : Nat} (hp : am_Pg M pc = some (.getfield idx, 3, [ci, N, j, nest], v0)) (hk : E.1[k]? = some (ci, N)) (hf : am_Ft ci j = 1) : Rn M pc ls (vR (some k) :: st) E u = Rn M (pc + 3) ls (vL (u k j) :: st) E u := by
  refine q_go hp ?_
  simp only [am_step, hk, if_true]
  rw [hf]; rfl
theorem q_gfR {idx ci N j nest k : Nat} {o : Option Nat} (hp : am_Pg M pc = some (.getfield idx, 3, [ci, N, j, nest], v0)) (hk : E.1[k]? = some (ci, N)) (hf : am_Ft ci j = 2) (ho : E.2.1 k j = o) : Rn M pc ls (vR (some k) :: st) E u = Rn M (pc + 3) ls (vR o :: st) E u := by
  refine q_go hp ?_
  simp only [am_step, hk, if_true]
  rw [hf, ← ho]; rfl
theorem q_pfI {idx ci N j nest k : Nat} {a : Int} (hp : am_Pg M pc = some (.putfield idx, 3, [ci, N, j, nest], v0)) (hk : E.1[k]? = some (ci, N)) (hf : am_Ft ci j = 0) : Rn M pc ls (vI a :: vR (some k) :: st) E u = Rn M (pc + 3) ls st E (am_up u k j a) := by
  refine q_go hp ?_
  simp only [am_step, hk, if_true]
  rw [hf]; rfl
theorem q_pfL {idx ci N j nest k : Nat} {a : Int} (hp : am_Pg M pc = some (.putfield idx, 3, [ci, N, j, nest], v0)) (hk : E.1[k]? = some (ci, N)) (hf : am_Ft ci j = 1) : Rn M pc ls (vL a :: vR (some k) :: st) E u = Rn M (pc + 3) ls st E (am_up u k j a) := by
  refine q_go hp ?_
  simp only [am_step, hk, if_true]
  rw [hf]; rfl
theorem q_pfR {idx ci N j nest k : Nat} {o : Option Nat} (hp : am_Pg M pc = some (.putfield idx, 3, [ci, N, j, nest], v0)) (hk : E.1[k]? = some (ci, N)) (hf : am_Ft ci j = 2) : Rn M pc ls (vR o :: vR (some k) :: st) E u = Rn M (pc + 3) ls st (E.1, am_rp E.2.1 k j o, E.2.2) u := by
  refine q_go hp ?_
  simp only [am_step, hk, if_true]
  rw [hf]; rfl
theorem q_pfZ {idx ci N j nest k : Nat} {a : Int} (hp : am_Pg M pc = some (.putfield idx, 3, [ci, N, j, nest], v0)) (hk : E.1[k]? = some (ci, N)) (hf : am_Ft ci j = 3) (ha : a = 0 ∨ a = 1) : Rn M pc ls (vI a :: vR (some k) :: st) E u = Rn M (pc + 3) ls st E (am_up u k j a) := by
  refine q_go hp ?_
  simp only [am_step, hk, if_true]
  rw [hf]
  show (if a = 0 ∨ a = 1 then _ else _) = _
  rw [if_pos ha]; rfl
theorem q_iald {k : Nat} {i : Int} (hp : am_Pg M pc = some (.iaload, 1, x, v0)) (h0 : 0 ≤ i) (h1 : i < am_len 10 E k) : Rn M pc ls (vI i :: vR (some k) :: st) E u = Rn M (pc + 1) ls (vI (u k i.toNat) :: st) E u := by
  refine q_go hp ?_
  simp only [am_step]
  rw [if_pos ⟨h0, h1⟩]; rfl
theorem q_isc {i : Int} (hp : am_Pg M pc = some (.iaload, 1, x, v0)) (h0 : 0 ≤ i) (h1 : i < (E.2.2.1 : Int)) : Rn M pc ls (vI i :: vB true :: st) E u = Rn M (pc + 1) ls (vI (E.2.2.2 i.toNat) :: st) E u := by
  refine q_go hp ?_
  simp only [am_step]
  rw [if_pos ⟨h0, h1⟩]; rfl
theorem q_lald {k : Nat} {i : Int} (hp : am_Pg M pc = some (.laload, 1, x, v0)) (h0 : 0 ≤ i) (h1 : i < am_len 11 E k) : Rn M pc ls (vI i :: vR (some k) :: st) E u = Rn M (pc + 1) ls (vL (u k i.toNat) :: st) E u := by
  refine q_go hp ?_
  simp only [am_step]
  rw [if_pos ⟨h0, h1⟩]; rfl
theorem q_aald {k : Nat} {i : Int} (hp : am_Pg M pc = some (.aaload, 1, x, v0)) (h0 : 0 ≤ i) (h1 : i < am_len 12 E k ∨ i < am_len 13 E k) : Rn M pc ls (vI i :: vR (some k) :: st) E u = Rn M (pc + 1) ls (vR (E.2.1 k i.toNat) :: st) E u := by
  refine q_go hp ?_
  simp only [am_step]
  rw [if_pos ⟨h0, h1⟩]; rfl
theorem q_iast {k : Nat} {i a : Int} (hp : am_Pg M pc = some (.iastore, 1, x, v0)) (h0 : 0 ≤ i) (h1 : i < am_len 10 E k) : Rn M pc ls (vI a :: vI i :: vR (some k) :: st) E u = Rn M (pc + 1) ls st E (am_up u k i.toNat a) := by
  refine q_go hp ?_
  simp only [am_step]
  rw [if_pos ⟨h0, h1⟩]; rfl
theorem q_last {k : Nat} {i a : Int} (hp : am_Pg M pc = some (.lastore, 1, x, v0)) (h0 : 0 ≤ i) (h1 : i < am_len 11 E k) : Rn M pc ls (vL a :: vI i :: vR (some k) :: st) E u = Rn M (pc + 1) ls st E (am_up u k i.toNat a) := by
  refine q_go hp ?_
  simp only [am_step]
  rw [if_pos ⟨h0, h1⟩]; rfl
theorem q_aast {k v : Nat} {i : Int} (hp : am_Pg M pc = some (.aastore, 1, x, v0)) (h0 : 0 ≤ i) (h1 : (i < am_len 12 E k ∧ am_kn E v = 0) ∨ (i < am_len 13 E k ∧ am_kn E v = 2)) : Rn M pc ls (vR (some v) :: vI i :: vR (some k) :: st) E u = Rn M (pc + 1) ls st (E.1, am_rp E.2.1 k i.toNat (some v), E.2.2) u := by
  refine q_go hp ?_
  simp only [am_step]
  rw [if_pos ⟨h0, h1⟩]; rfl
theorem q_alen {k n : Nat} (hp : am_Pg M pc = some (.arraylength, 1, x, v0)) (h : am_size E k = some n) : Rn M pc ls (vR (some k) :: st) E u = Rn M (pc + 1) ls (vI (n : Int) :: st) E u := by
  refine q_go hp ?_
  simp only [am_step]
  rw [h]; rfl
theorem q_alI {k : Nat} {t : Nat} (hp : am_Pg M pc = some (.arraylength, 1, x, v0)) (h : am_kn E k = t) (ht : 10 ≤ t) (ht2 : t < 99) : Rn M pc ls (vR (some k) :: st) E u = Rn M (pc + 1) ls (vI (am_len t E k) :: st) E u := by
  obtain ⟨n, hn⟩ := am_kn_eq h (by omega)
  rw [q_alen hp (n := n) (by unfold am_size; rw [hn]; dsimp only; rw [if_pos ht])]
  unfold am_len
  rw [hn]
  simp
theorem q_acp {a b : Nat} {i j n : Int} {idx : Nat} {t : Nat} (ht : t = 10 ∨ t = 11) (hp : am_Pg M pc = some (.invokestatic idx, 3, [1], v0)) (hn : 0 ≤ n) (hi : 0 ≤ i) (hj : 0 ≤ j) (ha : am_kn E a = t) (hb : am_kn E b = t) (h1 : i + n ≤ am_len t E a) (h2 : j + n ≤ am_len t E b) (hl : st.length ≤ 4) :
    Rn M pc ls (vI n :: vI j :: vR (some b) :: vI i :: vR (some a) :: st) E u = Rn M (pc + 3) ls st E (am_cp u a i.toNat b j.toNat n.toNat) := by
  refine q_go hp ?_
  simp only [am_step]
  rw [if_pos ⟨hn, hi, hj, by rcases ht with rfl | rfl; exact Or.inl ⟨ha, hb, h1, h2⟩; exact Or.inr ⟨ha, hb, h1, h2⟩, hl⟩]
  rfl
theorem q_div {a b : Int} (hp : am_Pg M pc = some (.idiv, 1, x, v0)) (h : b ≠ 0) : Rn M pc ls (vI b :: vI a :: st) E u = Rn M (pc + 1) ls (vI (w32 (a.tdiv b)) :: st) E u := by
  refine q_go hp ?_
  simp only [am_step]
  rw [if_neg h]; rfl
theorem q_rem {a b : Int} (hp : am_Pg M pc = some (.irem, 1, x, v0)) (h : b ≠ 0) : Rn M pc ls (vI b :: vI a :: st) E u = Rn M (pc + 1) ls (vI (w32 (a.tmod b)) :: st) E u := by
  refine q_go hp ?_
  simp only [am_step]
  rw [if_neg h]; rfl
/-- a call with the arguments as, and rest below them -/
theorem q_call {M' n : Nat} {a st' ent : List am_V} (hp : am_Pg M pc = some (ins, len, x, v0)) (hs : am_step am_Ft ins x v0 pc len ls st E u = some (.inr (.inr (M', a, st')))) (hL : am_Lm M' = n) (hl : (am_sl a).length ≤ n) (he : am_ent n a = ent) :
    Rn M pc ls st E u = (Rn M' 0 ent [] E u).bind fun q => Rn M (pc + len) ls (q.1.toList ++ st') q.2.1 q.2.2 := by
  unfold Rn
  rw [am_R_step hp, hs]
  subst hL; subst he
  dsimp only
  rw [if_pos hl]
theorem am_call_S {M' n : Nat} {a st' : List am_V} {f : am_V → List am_V → Bool} (h1 : st'.length ≤ 4) (hn : a.length = n) (hf : f (((a.reverse ++ st').take n).getLast?.getD (vB false)) (a.reverse ++ st') = true) : am_call M' n (a.reverse ++ st') f = some (.inr (.inr (M', a, st'))) := by
  unfold am_call
  have e1 : (a.reverse ++ st').take n = a.reverse := by rw [List.take_append_of_le_length (by simp; omega), List.take_of_length_le (by simp; omega)]
  have e2 : (a.reverse ++ st').drop n = st' := by rw [List.drop_append_of_le_length (by simp; omega), List.drop_of_length_le (by simp; omega), List.nil_append]
  rw [if_pos ⟨by rw [e2]; exact h1, by simp; omega, hf⟩, e1, e2, List.reverse_reverse]
theorem am_call_V {M' n ci N k : Nat} {a st' : List am_V} (h1 : st'.length ≤ 4) (hn : a.length + 1 = n) (hk : E.1[k]? = some (ci, N)) : am_call M' n (a.reverse ++ vR (some k) :: st') (fun v _ => am_recv E ci N v) = some (.inr (.inr (M', vR (some k) :: a, st'))) := by
  have h := am_call_S (M' := M') (n := n) (a := vR (some k) :: a) (st' := st') (f := fun v _ => am_recv E ci N v) h1 (by simpa using hn) ?_
  · rw [List.reverse_cons, List.append_assoc] at h
    exact h
  · have e1 : ((vR (some k) :: a).reverse ++ st').take n = (vR (some k) :: a).reverse := by rw [List.take_append_of_le_length (by simp; omega), List.take_of_length_le (by simp; omega)]
    rw [e1]
    simp [am_recv, hk]
/-- an answer is of the type that the method's code says -/
def am_rk (r : Option am_V) : Nat := match r with
  | none => 0
  | some (.inl _) => 1
  | some (.inr (.inl _)) => 2
  | some (.inr (.inr (.inl _))) => 3
  | some (.inr (.inr (.inr _))) => 4
def am_rt (M : Nat) : Nat := match am_Re M with
  | none => 0
  | some .int => 1
  | some .boolean => 1
  | some .long => 2
  | _ => 3
theorem am_run_rk : ∀ (f M pc : Nat) (ls st : List am_V) (E : am_E) (u : am_M) (r : Option am_V) (E' : am_E) (u' : am_M), am_run am_Ft am_Pg am_Lm f M pc ls st E u = some (r, E', u') → am_rk r = am_rt M := by
  intro f
  induction f with
  | zero => intro M pc ls st E u r E' u' h; simp [am_run] at h
  | succ f ih =>
    intro M pc ls st E u r E' u' h
    simp only [am_run] at h
    cases hp : am_Pg M pc with
    | none => rw [hp] at h; cases h
    | some q =>
      obtain ⟨ins, len, x, v0⟩ := q
      rw [hp] at h
      dsimp only at h
      have hg := (am_good_all _ _ _ _ _ _ hp).2.2
      cases hst : am_step am_Ft ins x v0 pc len ls st E u with
      | none => rw [hst] at h; cases h
      | some o =>
        rw [hst] at h
        rcases o with ⟨pc1, ls1, st1, E1, u1⟩ | r1 | ⟨M1, a, st1⟩
        · exact ih _ _ _ _ _ _ _ _ _ h
        · dsimp only at h
          cases h
          cases ins <;> simp only [am_step] at hst
          all_goals (first | (cases hst; done) | skip)
          case ireturn =>
            simp only [am_xg, Bool.and_eq_true, Bool.or_eq_true, decide_eq_true_eq] at hg
            have e : am_rt M = 1 := by unfold am_rt; rcases hg.2 with ⟨-, e⟩ | ⟨-, e⟩ <;> rw [e]
            rw [e]
            split at hst
            · split at hst
              · split at hst
                · cases hst; rfl
                · cases hst
              · cases hst; rfl
            · cases hst
          case lreturn =>
            simp only [am_xg, Bool.and_eq_true, decide_eq_true_eq] at hg
            have e : am_rt M = 2 := by unfold am_rt; rw [hg.2]
            rw [e]
            split at hst <;> cases hst
            rfl
          case areturn =>
            simp only [am_xg, Bool.and_eq_true, Bool.or_eq_true, decide_eq_true_eq] at hg
            have e : am_rt M = 3 := by unfold am_rt; rcases hg.2 with e | e <;> rw [e]
            rw [e]
            split at hst <;> cases hst
            rfl
          case return_ =>
            simp only [am_xg, Bool.and_eq_true, decide_eq_true_eq] at hg
            have e : am_rt M = 0 := by unfold am_rt; rw [hg.2]
            rw [e]
            split at hst <;> cases hst
            rfl
          all_goals (repeat' split at hst)
          all_goals (first | (cases hst; done) | skip)
          all_goals (first | (obtain ⟨w, -, h, -⟩ := am_load_eq hst; cases h; done) | (rcases am_br_eq hst with ⟨-, h⟩ | ⟨-, h⟩ <;> (first | (cases h; done) | (obtain ⟨_, _, h⟩ := am_jp_eq h; cases h; done))) | (obtain ⟨_, _, h⟩ := am_jp_eq hst; cases h; done) | (obtain ⟨_, _, _, h⟩ := am_call_eq hst; cases h; done))
        · dsimp only at h
          split at h
          case isFalse => cases h
          split at h
          · cases h
          · exact ih _ _ _ _ _ _ _ _ _ h
theorem Rn_rk {r : Option am_V} {E' : am_E} {u' : am_M} (h : Rn M pc ls st E u = some (r, E', u')) : am_rk r = am_rt M := by
  obtain ⟨f, h⟩ := am_R_some.mp h
  exact am_run_rk f _ _ _ _ _ _ _ _ _ h
theorem q_cI {M' n : Nat} {a st' ent : List am_V} (hp : am_Pg M pc = some (ins, 3, x, v0)) (hs : am_step am_Ft ins x v0 pc 3 ls st E u = some (.inr (.inr (M', a, st')))) (hL : am_Lm M' = n) (hl : (am_sl a).length ≤ n) (he : am_ent n a = ent) (ht : am_rt M' = 1) :
    Rn M pc ls st E u = bdI (Rn M' 0 ent [] E u) (KI M (pc + 3) ls st') := by
  rw [q_call hp hs hL hl he]
  cases hz : Rn M' 0 ent [] E u with
  | none => rfl
  | some q =>
    obtain ⟨r, E', u'⟩ := q
    have := Rn_rk hz
    rw [ht] at this
    rcases r with _ | v | v | v | v <;> first | rfl | (simp [am_rk] at this)
theorem q_cL {M' n : Nat} {a st' ent : List am_V} (hp : am_Pg M pc = some (ins, 3, x, v0)) (hs : am_step am_Ft ins x v0 pc 3 ls st E u = some (.inr (.inr (M', a, st')))) (hL : am_Lm M' = n) (hl : (am_sl a).length ≤ n) (he : am_ent n a = ent) (ht : am_rt M' = 2) :
    Rn M pc ls st E u = bdL (Rn M' 0 ent [] E u) (KL M (pc + 3) ls st') := by
  rw [q_call hp hs hL hl he]
  cases hz : Rn M' 0 ent [] E u with
  | none => rfl
  | some q =>
    obtain ⟨r, E', u'⟩ := q
    have := Rn_rk hz
    rw [ht] at this
    rcases r with _ | v | v | v | v <;> first | rfl | (simp [am_rk] at this)
theorem q_cR {M' n : Nat} {a st' ent : List am_V} (hp : am_Pg M pc = some (ins, 3, x, v0)) (hs : am_step am_Ft ins x v0 pc 3 ls st E u = some (.inr (.inr (M', a, st')))) (hL : am_Lm M' = n) (hl : (am_sl a).length ≤ n) (he : am_ent n a = ent) (ht : am_rt M' = 3) :
    Rn M pc ls st E u = bdR (Rn M' 0 ent [] E u) (KR M (pc + 3) ls st') := by
  rw [q_call hp hs hL hl he]
  cases hz : Rn M' 0 ent [] E u with
  | none => rfl
  | some q =>
    obtain ⟨r, E', u'⟩ := q
    have := Rn_rk hz
    rw [ht] at this
    rcases r with _ | v | v | v | v <;> first | rfl | (simp [am_rk] at this)
theorem q_cV {M' n : Nat} {a st' ent : List am_V} (hp : am_Pg M pc = some (ins, 3, x, v0)) (hs : am_step am_Ft ins x v0 pc 3 ls st E u = some (.inr (.inr (M', a, st')))) (hL : am_Lm M' = n) (hl : (am_sl a).length ≤ n) (he : am_ent n a = ent) (ht : am_rt M' = 0) :
    Rn M pc ls st E u = bdV (Rn M' 0 ent [] E u) (KV M (pc + 3) ls st') := by
  rw [q_call hp hs hL hl he]
  cases hz : Rn M' 0 ent [] E u with
  | none => rfl
  | some q =>
    obtain ⟨r, E', u'⟩ := q
    have := Rn_rk hz
    rw [ht] at this
    rcases r with _ | v | v | v | v <;> first | rfl | (simp [am_rk] at this)
/-- loops: m times the body -/
theorem q_loop (f : Nat → am_Z) (m : Nat) (h : ∀ i, i < m → f i = f (i + 1)) : f 0 = f m := by
  induction m with
  | zero => rfl
  | succ m ih => rw [ih (fun i hi => h i (Nat.lt_succ_of_lt hi)), h m (Nat.lt_succ_self m)]
/-- loops that may end early: from the last round back -/
theorem q_back (f g : Nat → am_Z) (m : Nat) (h0 : f m = g m) (h : ∀ i, i < m → f (i + 1) = g (i + 1) → f i = g i) : ∀ i, i ≤ m → f i = g i := by
  intro i hi
  obtain ⟨d, rfl⟩ : ∃ d, i = m - d := ⟨m - i, by omega⟩
  clear hi
  induction d with
  | zero => exact h0
  | succ d ih =>
    by_cases hd : m - (d + 1) < m
    · by_cases h2 : m - (d + 1) + 1 = m - d
      · exact h _ hd (by rw [h2]; exact ih)
      · rw [show m - (d + 1) = m - d by omega]; exact ih
    · rw [show m - (d + 1) = m - d by omega]; exact ih

/-! Calls, returns, and whole runs: every method of the tables meets what its run says. -/
variable {p : Program} {l : Launch} {e : Env} {R : Room} {s : State} {m : MethodId} {args : Array Value} {below : List Frame} {meth : Method} {c : Code} {Q : State → Prop}
def am_Pcc (D : va_G) (tt : am_TT) (ad : Nat → Nat) (b sz : Nat) (E : am_E) (u : am_M) (U : State) : Prop :=
  U.heap.size = sz ∧ va_P D am_cls (am_ws ad tt E u) U.heap ∧ va_K D am_cls (am_tys tt) U ∧ va_D (fun _ => True) (am_ws ad tt E u) ∧ va_X b E.2.2.1 (fun j => Int32.ofInt (E.2.2.2 j)) U U.heap ∧ b < sz ∧ (∀ k, k < E.1.length → ad k ≠ b) ∧ (∀ w ∈ lw_tbl, am_isN w = true → va_Nw w U) ∧ va_AO (am_Cn 0) U ∧ va_AO (am_Cn 2) U
def am_Qcc (D : va_G) (tt : am_TT) (ad : Nat → Nat) (b sz : Nat) (E : am_E) (u : am_M) (r : Option am_V) (E' : am_E) (u' : am_M) : Array Value → State → Outcome → State → Prop := fun _ st o t =>
  (∃ ad' : Nat → Nat, (∀ k, k < E.1.length → ad' k = ad k) ∧ o = .returned (r.map (am_cv ad' b)) ∧ va_P D am_cls (am_ws ad' tt E' u') t.heap ∧ va_D (va_A (am_ws ad tt E u) sz) (am_ws ad' tt E' u')) ∧ va_F (va_A (am_ws ad tt E u) sz) st t
def am_ws0 (M : Nat) : List Jvm.Cond := .code (am_Y M) (am_By M) (am_Lm M) (am_Re M) :: lw_good
def am_rm (M mc ms : Nat) : Room := { frames := am_fr M, cells := mc, slots := ms, locals := am_lo M }
/-- the contract of a method: what its run says -/
def am_Met (M : Nat) : Prop := ∀ (l : Launch) (D : va_G) (tt : am_TT) (ad : Nat → Nat) (b sz f : Nat) (a : List am_V) (E : am_E) (u : am_M) (r : Option am_V) (E' : am_E) (u' : am_M),
  (am_sl a).length ≤ am_Lm M → am_run am_Ft am_Pg am_Lm f M 0 (am_ent (am_Lm M) a) [] E u = some (r, E', u') → am_OK am_Ft am_nF E u → (∀ v ∈ a, am_ok E.1.length v) →
  Met l (am_Y M) (am_ws0 M) (am_rm M (E'.1.length - E.1.length) (am_szs E' - am_szs E)) (va_Pc (a.map (am_cv ad b)) (am_Pcc D tt ad b sz E u)) (am_Qcc D tt ad b sz E u r E' u') (E'.1.length - E.1.length) (am_szs E' - am_szs E) (va_A (am_ws ad tt E u) sz)
theorem am_blind {D : va_G} {tt : am_TT} {ad : Nat → Nat} {b sz : Nat} {E : am_E} {u : am_M} {av : List Value} : FrameBlind (va_Pc av (am_Pcc D tt ad b sz E u)) := by
  intro a U g mk q
  obtain ⟨q0, q1, q2, q3, q4, q5, q6, q7, q8, q9, q10⟩ := q
  refine ⟨q0, q1, q2, va_K.moved (u := U) (U := U.calling g mk a) (Vm.Alike.refl U.vm) q3, q4, va_X.moved (u := U) (U := U.calling g mk a) (Vm.Alike.refl U.vm) q5, q6, q7, fun w hw hn => ?_, va_AO.moved (u := U) (U := U.calling g mk a) (Vm.Alike.refl U.vm) q9, va_AO.moved (u := U) (U := U.calling g mk a) (Vm.Alike.refl U.vm) q10⟩
  have h := q8 w hw hn
  cases w <;> first | (cases hn; done) | exact va_Nw.same rfl rfl h
theorem am_callg {A : Nat → Prop} {H0 H : Heap} {locs : List Loc} {cells slots mc ms : Nat} {pc : Nat} {ls : Array Slot} {rest st0 : List Value} {a : Array Value} {D : va_G} {tt : am_TT} {ad : Nat → Nat} {b : Nat} {E : am_E} {u : am_M} {r : Option am_V} {E1 : am_E} {u1 : am_M} {free : Addr → Prop}
    (hr : va_Run p l e R s m args below meth c H locs cells slots mc ms (F0 m pc ls st0) rest (am_Qcc D tt ad b H.size E u r E1 u1 a) free) (hS : va_S A H0 H locs) (hA : ∀ q, va_A (am_ws ad tt E u) H.size q → A q) (hf : ∀ q, free q → A q)
    (kk : ∀ (ad' : Nat → Nat) (H1 : Heap) (locs1 : List Loc), (∀ k, k < E.1.length → ad' k = ad k) → va_P D am_cls (am_ws ad' tt E1 u1) H1 → va_D A (am_ws ad' tt E1 u1) → va_S A H0 H1 locs1 → W p l e R s m args below meth c H1 locs1 (cells + mc) (slots + ms) Q (F0 m (pc + 3) ls ((r.map (am_cv ad' b)).toList ++ rest))) :
    W p l e R s m args below meth c H locs cells slots Q (F0 m pc ls st0) := by
  intro T hT X
  obtain ⟨v, st₀, t, T', L, h0, X', hL, e1, e2, ⟨⟨ad', h1, hv, hp, hd⟩, hz, hk⟩, st⟩ := hr T hT X
  cases hv
  rw [h0] at hz hk
  obtain ⟨t2, a1, b1⟩ := kk ad' T'.heap (locs ++ L) h1 (by rw [e1]; exact hp) (hd.weaken (fun k q _ h => hA _ h))
    ⟨Nat.le_trans hS.1 (by rw [e1]; exact hz), fun q h1 h2 => by rw [e1, hk q (Nat.lt_of_lt_of_le h1 hS.1) (fun z => h2 (hA q z))]; exact hS.2.1 q h1 h2, fun q hq => by
      rcases List.mem_append.mp hq with h | h
      · exact hS.2.2 q h
      · exact hf _ (hL q h)⟩ T' rfl X'
  exact ⟨t2, st t2 a1, b1⟩
theorem am_A_in {A : Nat → Prop} {H0 H : Heap} {locs : List Loc} {ws : va_W} (hD : va_D A ws) (hS : va_S A H0 H locs) (hA : ∀ q, H0.size ≤ q → A q) : ∀ q, va_A ws H.size q → A q := by
  intro q h
  rcases h with ⟨k, e, h⟩ | h
  · exact hD.2 k _ h
  · exact hA q (Nat.le_trans hS.1 h)
theorem am_goodIn {ws : List Jvm.Cond} (h : ∀ w ∈ ws, w ∈ lw_good) : GoodIn lw_good ws := fun w hw => ⟨h w hw, good_of_word (List.mem_filter.mp (h w hw)).2⟩
theorem am_in {w : Jvm.Cond} (h : w ∈ lw_tbl) (hg : goodWord w = true) : w ∈ lw_good := List.mem_filter.mpr ⟨h, hg⟩
theorem am_ws0_in {M : Nat} (h : Jvm.Cond.code (am_Y M) (am_By M) (am_Lm M) (am_Re M) ∈ lw_tbl) : ∀ w ∈ am_ws0 M, w ∈ lw_good := by
  intro w hw
  rcases List.mem_cons.mp hw with rfl | hw
  · exact am_in h rfl
  · exact hw
theorem am_cok_of {M M' n : Nat} (h : am_cok M M' n = true) : M' < M ∧ am_fr M' + 1 ≤ am_fr M ∧ 8 + (am_Lm M' + 11) + am_lo M' ≤ am_lo M ∧ am_pr (am_Y M') = some n ∧ (am_Y M').cls ≠ "java/lang/invoke/MethodHandle" ∧ (am_Y M').cls ≠ "java/lang/invoke/VarHandle" := by
  unfold am_cok at h
  simp only [Bool.and_eq_true, decide_eq_true_eq] at h
  exact ⟨h.1.1.1.1.1, h.1.1.1.1.2, h.1.1.1.2, h.1.1.2, h.1.2, h.2⟩
theorem am_recv_of {E : am_E} {ci N n : Nat} {st : List am_V} (hn : 1 ≤ n) (hl : n ≤ st.length) (h : am_recv E ci N ((st.take n).getLast?.getD (vB false)) = true) : ∃ (k : Nat) (as : List am_V), (st.take n).reverse = vR (some k) :: as ∧ as.length = n - 1 ∧ E.1[k]? = some (ci, N) ∧ st = as.reverse ++ vR (some k) :: st.drop n := by
  have hlen : (st.take n).reverse.length = n := by simp; omega
  cases hr : (st.take n).reverse with
  | nil => rw [hr] at hlen; simp at hlen; omega
  | cons v as =>
    have hg : (st.take n).getLast? = some v := by rw [← List.head?_reverse, hr]; rfl
    rw [hg] at h
    rw [hr] at hlen
    have hst : st.take n = as.reverse ++ [v] := by
      have := congrArg List.reverse hr
      rw [List.reverse_reverse, List.reverse_cons] at this
      exact this
    have hst2 : st = as.reverse ++ v :: st.drop n := by
      have := (List.take_append_drop n st).symm
      rw [hst, List.append_assoc] at this
      exact this
    simp only [Option.getD_some] at h
    rcases v with i | i | (_ | k) | b
    · simp [am_recv] at h
    · simp [am_recv] at h
    · simp [am_recv] at h
    · exact ⟨k, as, rfl, by simpa using (by simp at hlen; omega : as.length = n - 1), by simpa [am_recv] using h, hst2⟩
    · simp [am_recv] at h
theorem am_xk_of {M pc : Nat} {ins : Instr} {len : Nat} {x : List Nat} (h : am_xg M pc ins len x = true) : am_xk am_nF ins x := by
  cases ins <;> simp only [am_xk] <;> simp only [am_xg] at h
  case new =>
    split at h
    · simp only [Bool.and_eq_true, decide_eq_true_eq] at h
      exact ⟨_, _, _, rfl, h.1.2, h.2⟩
    · cases h
  case anewarray =>
    split at h
    · exact ⟨_, _, rfl, Or.inl rfl⟩
    · exact ⟨_, _, rfl, Or.inr rfl⟩
    · cases h
  case getfield =>
    split at h
    · simp only [Bool.and_eq_true, decide_eq_true_eq] at h
      intro ci N j r e
      cases e
      exact h.1.1.2
    · cases h
  case putfield =>
    split at h
    · simp only [Bool.and_eq_true, decide_eq_true_eq] at h
      intro ci N j r e
      cases e
      exact h.1.1.1.2
    · cases h
set_option maxHeartbeats 4000000 in
theorem am_sim_call {M : Nat} {D : va_G} {tt : am_TT} {A : Nat → Prop} {H0 : Heap} {b : Nat} {X : Nat × (Nat → Int)} (C0 : am_Cx p R s m args meth c M D tt A H0 b X)
    {pc : Nat} {ins : Instr} {len : Nat} {x : List Nat} {v0 : Int} {ls st : List am_V} {E : am_E} {u : am_M} {M' : Nat} {a st' : List am_V} (hg : am_good M pc ins len x v0)
    (hO : am_OK am_Ft am_nF E u) (hs : ∀ v ∈ st, am_ok E.1.length v) (hXE : E.2.2 = X) (h : am_step am_Ft ins x v0 pc len ls st E u = some (.inr (.inr (M', a, st')))) :
    M' < M ∧ ∀ (_ : am_Met M') {f : Nat} {r : Option am_V} {E1 : am_E} {u1 : am_M} (_ : (am_sl a).length ≤ am_Lm M') (_ : am_run am_Ft am_Pg am_Lm f M' 0 (am_ent (am_Lm M') a) [] E u = some (r, E1, u1))
    {ad : Nat → Nat} {H : Heap} {locs : List Loc} {lsS : Array Slot} {cells slots : Nat} (_ : am_LH ad b lsS (am_Lm M) ls) (_ : va_P D am_cls (am_ws ad tt E u) H) (_ : va_D A (am_ws ad tt E u)) (_ : va_S A H0 H locs)
    (_ : cells + (E1.1.length - E.1.length) ≤ R.cells) (_ : slots + (am_szs E1 - am_szs E) ≤ R.slots)
    (_ : ∀ (ad' : Nat → Nat) (H' : Heap) (locs' : List Loc), (∀ k, k < E.1.length → ad' k = ad k) → va_P D am_cls (am_ws ad' tt E1 u1) H' → va_D A (am_ws ad' tt E1 u1) → va_S A H0 H' locs' →
      W p l e R s m args below meth c H' locs' (cells + (E1.1.length - E.1.length)) (slots + (am_szs E1 - am_szs E)) Q (F0 m (pc + len) lsS ((r.toList ++ st').map (am_cv ad' b)))),
    W p l e R s m args below meth c H locs cells slots Q (F0 m pc lsS (st.map (am_cv ad b))) := by
  obtain ⟨hx, hb, hml, hown, hts, hnst, hao, hnm, hfr, hlo, hK, hA, hX, hbl, hbA⟩ := C0
  obtain ⟨hdg, hw, hgx⟩ := hg
  have htG : ∀ w ∈ lw_good, w.before args s = true := fun w h => hts w (List.mem_filter.mp h).1 (List.mem_filter.mp h).2
  -- what a call needs of the state, for any callee over this world
  have PRE : ∀ {ad : Nat → Nat} {H : Heap} {locs : List Loc} {av : List Value}, va_P D am_cls (am_ws ad tt E u) H → va_D A (am_ws ad tt E u) → va_S A H0 H locs → ∀ U : State, U.heap = H → s.WarmedH U.vm → va_Pc av (am_Pcc D tt ad b H.size E u) av.toArray U := by
    intro ad H locs av hP hD hS U hU hW
    refine ⟨rfl, by rw [hU], by rw [hU]; exact hP, va_K.moved hW.alike hK, hD.weaken (fun _ _ _ _ => trivial), ?_, Nat.lt_of_lt_of_le hbl hS.1, fun k hk z => ?_, fun w hww hn => ?_, va_AO.moved hW.alike hao.1, va_AO.moved hW.alike hao.2⟩
    · rw [hU, hXE]
      exact (va_X.kept hX (hS.2.1 b hbl hbA)).moved hW.alike
    · obtain ⟨q, hq⟩ : ∃ q, E.1[k]? = some q := ⟨_, List.getElem?_eq_getElem hk⟩
      have := hD.2 k _ (am_ws_get (ad := ad) (tt := tt) (u := u) hq)
      exact hbA (by rw [← z]; exact this)
    · have h9 := hnst w hww hn
      cases w <;> first | (cases hn; done) | exact va_Nw.warmF hW h9 | exact va_Nw.warmM hW h9
  have FIN : ∀ {ad : Nat → Nat} {H : Heap} {locs : List Loc} {lsS : Array Slot} {cells slots : Nat} {r : Option am_V} {E1 : am_E} {u1 : am_M} {st2 : List am_V} (hs2 : ∀ v ∈ st2, am_ok E.1.length v)
      (K : ∀ (ad' : Nat → Nat) (H' : Heap) (locs' : List Loc), (∀ k, k < E.1.length → ad' k = ad k) → va_P D am_cls (am_ws ad' tt E1 u1) H' → va_D A (am_ws ad' tt E1 u1) → va_S A H0 H' locs' →
        W p l e R s m args below meth c H' locs' (cells + (E1.1.length - E.1.length)) (slots + (am_szs E1 - am_szs E)) Q (F0 m (pc + 3) lsS ((r.toList ++ st2).map (am_cv ad' b)))),
      ∀ (ad' : Nat → Nat) (H' : Heap) (locs' : List Loc), (∀ k, k < E.1.length → ad' k = ad k) → va_P D am_cls (am_ws ad' tt E1 u1) H' → va_D A (am_ws ad' tt E1 u1) → va_S A H0 H' locs' →
        W p l e R s m args below meth c H' locs' (cells + (E1.1.length - E.1.length)) (slots + (am_szs E1 - am_szs E)) Q (F0 m (pc + 3) lsS ((r.map (am_cv ad' b)).toList ++ st2.map (am_cv ad b))) := by
    intro ad H locs lsS cells slots r E1 u1 st2 hs2 K ad' H' locs' h1 h2 h3 h4
    have k := K ad' H' locs' h1 h2 h3 h4
    rw [List.map_append, am_map_re hs2 h1] at k
    cases r <;> exact k
  have HP : ∀ {M1 n1 : Nat}, am_pr (am_Y M1) = some n1 → (parseMethodDescriptor (am_Y M1).desc).map (fun d => d.parameters.length) = some n1 := fun h => h
  cases ins <;> simp only [am_step] at h
  all_goals (first | (cases h; done) | skip)
  case invokevirtual i =>
    split at h
    · rename_i M1 n ci N r
      obtain ⟨h1, h2, h3, h4⟩ := am_call_eq h
      cases h4
      obtain ⟨nest, rfl⟩ : ∃ nest, r = [nest] := by
        rcases r with _ | ⟨a, _ | ⟨_, _⟩⟩
        · simp [am_xg] at hgx
        · exact ⟨a, rfl⟩
        · simp [am_xg] at hgx
      simp only [am_xg, Bool.and_eq_true, decide_eq_true_eq] at hgx
      obtain ⟨⟨⟨⟨⟨e1, e2⟩, e3⟩, e4⟩, e5⟩, e6⟩ := hgx
      subst e1
      obtain ⟨c1, c2, c3, c4, c5, c6⟩ := am_cok_of e3
      refine ⟨c1, fun hM f r E1 u1 hlen hrun ad H locs lsS cells slots hL hP hD hS hcl hsl K => ?_⟩
      obtain ⟨k, as, q1, q2, q3, q4⟩ := am_recv_of e2 h2 h3
      have hak : ∀ v ∈ (st.take n).reverse, am_ok E.1.length v := fun v hv => hs v (List.mem_of_mem_take (List.mem_reverse.mp hv))
      have hMet := hM l D tt ad b H.size f _ E u r E1 u1 hlen hrun hO hak
      rw [q1] at hMet
      have hst : st.map (am_cv ad b) = (as.map (am_cv ad b)).reverse ++ .ref (ad k) :: (st.drop n).map (am_cv ad b) := by
        conv => lhs; rw [q4]
        rw [List.map_append, List.map_reverse]; rfl
      have hrecv := va_recv hK hP (am_cls_get e4) (by have := am_ws_get (ad := ad) (tt := tt) (u := u) q3; rw [am_cell_o e4] at this; exact this)
      rw [← e6] at hrecv
      have hcat := am_cats ad b (st.drop n)
      have hpre : PreV s H (am_own M') (ad k) (va_Pc ((vR (some k) :: as).map (am_cv ad b)) (am_Pcc D tt ad b H.size E u)) (as.map (am_cv ad b)) := ⟨am_blind, hrecv, PRE hP hD hS⟩
      have hAA := am_A_in hD hS hA
      have hFIN := FIN (ad := ad) (H := H) (locs := locs) (fun v hv => hs v (List.mem_of_mem_drop hv)) K
      cases nest with
      | zero =>
        have hwl := List.forall_mem_cons.mp hw
        have hw2 := List.forall_mem_cons.mp hwl.2
        have hw3 := List.forall_mem_cons.mp hw2.2
        have hw4 := List.forall_mem_cons.mp hw3.2
        have hcode := hw4.2 _ List.mem_cons_self
        refine am_callg (va_runV (As := as.map (am_cv ad b)) (rest := (st.drop n).map (am_cv ad b)) ⟨hx, hb, hml, hown, htG⟩ hMet (cwV (C := am_own M') (index := i) (n - 1) htG (am_goodIn ?_) rfl rfl rfl ⟨rfl, c5, c6, c4⟩ ⟨by show am_fr M' + 1 ≤ _; omega, by show 8 + (am_Lm M' + 11) + am_lo M' ≤ _; omega⟩) hpre rfl (by simpa using q2) hL.2.1 hst ?_ hdg ⟨hcl, hsl⟩) hS hAA hAA hFIN
        · intro w hww
          unfold wsV at hww
          rcases List.mem_append.mp hww with hww | hww
          · simp only [List.mem_cons, List.not_mem_nil, or_false] at hww
            rcases hww with rfl | rfl | rfl | rfl
            · exact am_in hwl.1 rfl
            · exact am_in hw2.1 rfl
            · exact am_in hw3.1 rfl
            · exact am_in hw4.1 rfl
          · exact am_ws0_in hcode w hww
        · show 2 * 0 + _ ≤ 8
          omega
      | succ nst =>
        have hwl := List.forall_mem_cons.mp hw
        have hw2 := List.forall_mem_cons.mp hwl.2
        have hw3 := List.forall_mem_cons.mp hw2.2
        have hw4 := List.forall_mem_cons.mp hw3.2
        have hcode := hw4.2 _ List.mem_cons_self
        refine am_callg (va_runVN (As := as.map (am_cv ad b)) (rest := (st.drop n).map (am_cv ad b)) ⟨hx, hb, hml, hown, htG⟩ hMet ⟨va_cnB (index := i) (n - 1) htG (am_goodIn (am_ws0_in hcode)) rfl rfl rfl (hnst _ hwl.1 rfl) (hts _ hw4.1 rfl) ⟨c5, c6, c4⟩ ⟨by show am_fr M' + 1 ≤ _; omega, by show 8 + (am_Lm M' + 11) + am_lo M' ≤ _; omega⟩, hts _ hw2.1 rfl, hts _ hw3.1 rfl⟩ hpre rfl (by simpa using q2) hL.2.1 hst ?_ hdg ⟨hcl, hsl⟩) hS hAA hAA hFIN
        show 2 * 0 + _ ≤ 8
        omega
    · cases h
  case invokespecial i =>
    split at h
    · split at h
      · split at h <;> cases h
      · cases h
    · rename_i M1 n ci N r
      obtain ⟨h1, h2, h3, h4⟩ := am_call_eq h
      cases h4
      obtain ⟨nest, rfl⟩ : ∃ nest, r = [nest] := by
        rcases r with _ | ⟨a, _ | ⟨_, _⟩⟩
        · simp [am_xg] at hgx
        · exact ⟨a, rfl⟩
        · simp [am_xg] at hgx
      simp only [am_xg, Bool.and_eq_true, decide_eq_true_eq] at hgx
      obtain ⟨⟨⟨⟨⟨⟨⟨e1, e2⟩, e3⟩, e4⟩, e5⟩, e6⟩, e7⟩, e8⟩ := hgx
      subst e1
      obtain ⟨c1, c2, c3, c4, c5, c6⟩ := am_cok_of e3
      refine ⟨c1, fun hM f r E1 u1 hlen hrun ad H locs lsS cells slots hL hP hD hS hcl hsl K => ?_⟩
      obtain ⟨k, as, q1, q2, q3, q4⟩ := am_recv_of e2 h2 h3
      have hak : ∀ v ∈ (st.take n).reverse, am_ok E.1.length v := fun v hv => hs v (List.mem_of_mem_take (List.mem_reverse.mp hv))
      have hMet := hM l D tt ad b H.size f _ E u r E1 u1 hlen hrun hO hak
      rw [q1] at hMet
      have hst : st.map (am_cv ad b) = (as.map (am_cv ad b)).reverse ++ .ref (ad k) :: (st.drop n).map (am_cv ad b) := by
        conv => lhs; rw [q4]
        rw [List.map_append, List.map_reverse]; rfl
      have hcat := am_cats ad b (st.drop n)
      have hpre : PreS s H (va_Pc ((vR (some k) :: as).map (am_cv ad b)) (am_Pcc D tt ad b H.size E u)) (.ref (ad k) :: as.map (am_cv ad b)) := ⟨am_blind, PRE hP hD hS⟩
      have hAA := am_A_in hD hS hA
      have hFIN := FIN (ad := ad) (H := H) (locs := locs) (fun v hv => hs v (List.mem_of_mem_drop hv)) K
      have hw0 : am_ws0 M' = Cond.code (am_Y M') (am_By M') (am_Lm M') none :: lw_good := by unfold am_ws0; rw [e8]
      cases nest with
      | zero =>
        have hwl := List.forall_mem_cons.mp hw
        have hw2 := List.forall_mem_cons.mp hwl.2
        have hw3 := List.forall_mem_cons.mp hw2.2
        have hcode := hw3.2 _ List.mem_cons_self
        refine am_callg (va_runI (As := as.map (am_cv ad b)) (rest := (st.drop n).map (am_cv ad b)) ⟨hx, hb, hml, hown, htG⟩ hMet (cwI (index := i) (n - 1) htG (am_goodIn (am_ws0_in hcode)) hw0 rfl rfl (hts _ hw3.1 rfl) (hts _ hwl.1 rfl) (hts _ hw2.1 rfl) e7 ⟨c5, c6, c4⟩ ⟨by show am_fr M' + 1 ≤ _; omega, by show 8 + (am_Lm M' + 11) + am_lo M' ≤ _; omega⟩) hpre rfl (by simpa using q2) hL.2.1 hst ?_ hdg ⟨hcl, hsl⟩) hS hAA hAA hFIN
        show 2 * 0 + _ ≤ 8
        omega
      | succ nst =>
        have hwl := List.forall_mem_cons.mp hw
        have hw2 := List.forall_mem_cons.mp hwl.2
        have hw3 := List.forall_mem_cons.mp hw2.2
        have hcode := hw3.2 _ List.mem_cons_self
        refine am_callg (va_runIN (As := as.map (am_cv ad b)) (rest := (st.drop n).map (am_cv ad b)) ⟨hx, hb, hml, hown, htG⟩ hMet ⟨va_cnB (index := i) (n - 1) htG (am_goodIn (am_ws0_in hcode)) hw0 rfl rfl (hnst _ hwl.1 rfl) (hts _ hw3.1 rfl) ⟨c5, c6, c4⟩ ⟨by show am_fr M' + 1 ≤ _; omega, by show 8 + (am_Lm M' + 11) + am_lo M' ≤ _; omega⟩, e7, hts _ hw2.1 rfl⟩ hpre rfl (by simpa using q2) hL.2.1 hst ?_ hdg ⟨hcl, hsl⟩) hS hAA hAA hFIN
        show 2 * 0 + _ ≤ 8
        omega
    · cases h
  case invokestatic i =>
    split at h
    · split at h
      · split at h <;> cases h
      · cases h
    · rename_i M1 n r
      obtain ⟨h1, h2, h3, h4⟩ := am_call_eq h
      cases h4
      obtain ⟨nest, rfl⟩ : ∃ nest, r = [nest] := by
        rcases r with _ | ⟨a, _ | ⟨_, _⟩⟩
        · simp [am_xg] at hgx
        · exact ⟨a, rfl⟩
        · simp [am_xg] at hgx
      simp only [am_xg, Bool.and_eq_true, decide_eq_true_eq] at hgx
      obtain ⟨e1, e3⟩ := hgx
      subst e1
      obtain ⟨c1, c2, c3, c4, c5, c6⟩ := am_cok_of e3
      refine ⟨c1, fun hM f r E1 u1 hlen hrun ad H locs lsS cells slots hL hP hD hS hcl hsl K => ?_⟩
      have hak : ∀ v ∈ (st.take n).reverse, am_ok E.1.length v := fun v hv => hs v (List.mem_of_mem_take (List.mem_reverse.mp hv))
      have hMet := hM l D tt ad b H.size f _ E u r E1 u1 hlen hrun hO hak
      have hst : st.map (am_cv ad b) = ((st.take n).reverse.map (am_cv ad b)).reverse ++ (st.drop n).map (am_cv ad b) := by
        rw [List.map_reverse, List.reverse_reverse, ← List.map_append, List.take_append_drop]
      have hcat := am_cats ad b (st.drop n)
      have hpre : PreS s H (va_Pc ((st.take n).reverse.map (am_cv ad b)) (am_Pcc D tt ad b H.size E u)) ((st.take n).reverse.map (am_cv ad b)) := ⟨am_blind, PRE hP hD hS⟩
      have hAA := am_A_in hD hS hA
      have hFIN := FIN (ad := ad) (H := H) (locs := locs) (fun v hv => hs v (List.mem_of_mem_drop hv)) K
      have hlen2 : ((st.take n).reverse.map (am_cv ad b)).length = n := by simp; omega
      cases nest with
      | zero =>
        have hwl := List.forall_mem_cons.mp hw
        have hw2 := List.forall_mem_cons.mp hwl.2
        have hw3 := List.forall_mem_cons.mp hw2.2
        have hcode := hw3.2 _ List.mem_cons_self
        refine am_callg (va_runS (As := (st.take n).reverse.map (am_cv ad b)) (rest := (st.drop n).map (am_cv ad b)) ⟨hx, hb, hml, hown, htG⟩ hMet ⟨callB_of (index := i) n htG (am_goodIn (am_ws0_in hcode)) rfl rfl rfl (hts _ hw3.1 rfl) (hts _ hwl.1 rfl) ⟨c5, c6, c4⟩ ⟨by show am_fr M' + 1 ≤ _; omega, by show 8 + (am_Lm M' + 11) + am_lo M' ≤ _; omega⟩, hts _ hw2.1 rfl⟩ hpre rfl hlen2 hL.2.1 hst ?_ hdg ⟨hcl, hsl⟩) hS hAA hAA hFIN
        show 2 * 0 + _ ≤ 8
        omega
      | succ nst =>
        have hwl := List.forall_mem_cons.mp hw
        have hw2 := List.forall_mem_cons.mp hwl.2
        have hw3 := List.forall_mem_cons.mp hw2.2
        have hcode := hw3.2 _ List.mem_cons_self
        refine am_callg (va_runSN (As := (st.take n).reverse.map (am_cv ad b)) (rest := (st.drop n).map (am_cv ad b)) ⟨hx, hb, hml, hown, htG⟩ hMet ⟨va_cnB (index := i) n htG (am_goodIn (am_ws0_in hcode)) rfl rfl rfl (hnst _ hwl.1 rfl) (hts _ hw3.1 rfl) ⟨c5, c6, c4⟩ ⟨by show am_fr M' + 1 ≤ _; omega, by show 8 + (am_Lm M' + 11) + am_lo M' ≤ _; omega⟩, hts _ hw2.1 rfl, trivial⟩ hpre rfl hlen2 hL.2.1 hst ?_ hdg ⟨hcl, hsl⟩) hS hAA hAA hFIN
        show 2 * 0 + _ ≤ 8
        omega
    · split at h
      · split at h <;> cases h
      · cases h
    · split at h
      · split at h <;> cases h
      · cases h
    · cases h
  case dup => repeat' split at h
              all_goals cases h
  all_goals (repeat' split at h)
  all_goals (first | (cases h; done) | skip)
  all_goals (first | (obtain ⟨w, -, h, -⟩ := am_load_eq h; cases h; done) | (rcases am_br_eq h with ⟨-, h⟩ | ⟨-, h⟩ <;> (first | (cases h; done) | (obtain ⟨_, _, h⟩ := am_jp_eq h; cases h; done))) | (obtain ⟨_, _, h⟩ := am_jp_eq h; cases h; done) | skip)

/-! What a text leaves of the row before. -/
variable {E : am_E} {u : am_M} {k : Nat} {n : am_Row} {T : List Int}
def s_kept (m n : am_Row) : Prop := (n 4 = m 4 ∧ n 5 = m 5 ∧ n 0 = m 0 ∧ n 1 = m 1) ∧ (∀ i : Nat, 100 ≤ i → n i = m i) ∧ (∀ i : Nat, 6 + 3 * n 2 ≤ (i : Int) → i < 27 → n i = m i) ∧ (∀ i : Nat, 27 + 4 * n 3 ≤ (i : Int) → i < 51 → n i = m i)
theorem s_kept.rf : s_kept n n := ⟨⟨rfl, rfl, rfl, rfl⟩, fun _ _ => rfl, fun _ _ _ => rfl, fun _ _ _ => rfl⟩
theorem kept_pin {m : am_Row} (h2 : 0 ≤ n 2) (h3 : 0 ≤ n 3) (h7 : n 2 < 7) {K c v : Int} (h : s_kept m n) : s_kept m (s_addPin n K c v) := by
  obtain ⟨⟨a, b, a0, a1⟩, c1, d, e⟩ := h
  have L : ∀ i : Nat, i ≠ 2 → ¬ (6 + 3 * n 2 ≤ (i : Int) ∧ (i : Int) < 9 + 3 * n 2) → s_addPin n K c v i = n i := fun i i0 i1 => s_addPin_ne h2 i0 i1
  refine ⟨⟨?_, ?_, ?_, ?_⟩, fun i i0 => ?_, fun i i0 i1 => ?_, fun i i0 i1 => ?_⟩
  · rw [L 4 (by omega) (by omega), a]
  · rw [L 5 (by omega) (by omega), b]
  · rw [L 0 (by omega) (by omega), a0]
  · rw [L 1 (by omega) (by omega), a1]
  · rw [L i (by omega) (by omega), c1 i i0]
  · rw [s_addPin_2] at i0
    rw [L i (by omega) (by omega), d i (by omega) i1]
  · rw [L 3 (by omega) (by omega)] at i0
    rw [L i (by omega) (by omega), e i i0 i1]
theorem kept_thr {m : am_Row} (h2 : 0 ≤ n 2) (h3 : 0 ≤ n 3) (h6 : n 3 < 6) {a b l : Int} (h : s_kept m n) : s_kept m (s_addThr n a b l) := by
  obtain ⟨⟨x, y, x0, x1⟩, c1, d, e⟩ := h
  have L : ∀ i : Nat, i ≠ 3 → ¬ (27 + 4 * n 3 ≤ (i : Int) ∧ (i : Int) < 31 + 4 * n 3) → s_addThr n a b l i = n i := fun i i0 i1 => s_addThr_ne h3 i0 i1
  refine ⟨⟨?_, ?_, ?_, ?_⟩, fun i i0 => ?_, fun i i0 i1 => ?_, fun i i0 i1 => ?_⟩
  · rw [L 4 (by omega) (by omega), x]
  · rw [L 5 (by omega) (by omega), y]
  · rw [L 0 (by omega) (by omega), x0]
  · rw [L 1 (by omega) (by omega), x1]
  · rw [L i (by omega) (by omega), c1 i i0]
  · rw [L 2 (by omega) (by omega)] at i0
    rw [L i (by omega) (by omega), d i i0 i1]
  · rw [s_addThr_3] at i0
    rw [L i (by omega) (by omega), e i (by omega) i1]
theorem kept_hole {m : am_Row} {c : Int} (c0 : 0 ≤ c) (c1 : c < 49) {v : Int} (h : s_kept m n) : s_kept m (s_up n (51 + c).toNat v) := by
  obtain ⟨⟨x, y, x0, x1⟩, z, d, e⟩ := h
  have L : ∀ i : Nat, i < 51 ∨ 100 ≤ i → s_up n (51 + c).toNat v i = n i := fun i i0 => su_ne (by omega)
  refine ⟨⟨?_, ?_, ?_, ?_⟩, fun i i0 => ?_, fun i i0 i1 => ?_, fun i i0 i1 => ?_⟩
  · rw [L 4 (by omega), x]
  · rw [L 5 (by omega), y]
  · rw [L 0 (by omega), x0]
  · rw [L 1 (by omega), x1]
  · rw [L i (by omega), z i i0]
  · rw [L 2 (by omega)] at i0
    rw [L i (by omega), d i i0 i1]
  · rw [L 3 (by omega)] at i0
    rw [L i (by omega), e i i0 i1]
theorem kept_thing (hV : Vn n) (hT : OKt T) {m : am_Row} (h : s_kept m n) {q : Nat} (hq : q ≤ T.length) : s_kept m (p_thing T n q).2.2 := by
  have hcl := s_cells_of hV
  have h2 := hV.2.2.1
  have h3 := hV.2.2.2.1
  have lt : ∀ c : Int, s_ch T (s_sk T q) = c → c ≠ -1 → s_sk T q < T.length := fun c h hc => s_ch_lt hT (by rw [h]; exact hc)
  have pin : ∀ K : Int, s_kept m (p_pin T n K (s_sk T q)).2.2 := fun K => by
    unfold p_pin
    split
    · exact h
    split
    · exact h
    split
    · exact kept_pin h2.1 h3.1 (by omega) h
    · exact kept_pin h2.1 h3.1 (by omega) h
  have hole : s_sk T q < T.length → s_kept m (p_hole T n (s_sk T q)).2.2 := fun hl => by
    have ok := p_cell_ok hV hT (q := s_sk T q + 1) hl
    unfold p_hole
    split
    · exact h
    · rename_i h4
      obtain ⟨c1, c2, -⟩ := ok.2.2 h4
      exact kept_hole c1 (by omega) h
  have thr : s_kept m (p_thr T n (s_sk T q)).2.2 := by
    unfold p_thr
    split
    · exact h
    split
    · exact h
    split
    · exact h
    split
    · exact h
    split
    · exact kept_thr h2.1 h3.1 (by omega) h
    · exact h
  unfold p_thing
  split
  · exact pin 0
  split
  · exact pin 1
  split
  · exact pin 2
  split
  · exact pin 3
  split
  · exact pin 4
  split
  · rename_i h; exact hole (lt _ h (by decide))
  split
  · exact thr
  · exact h
theorem kept_all (hT : OKt T) {m : am_Row} : ∀ (f q : Nat) (n : am_Row), q ≤ T.length → Vn n → s_kept m n → s_kept m (p_all T f q n).2.2 := by
  intro f
  induction f with
  | zero => intro q n hq hV h; exact h
  | succ f ih =>
    intro q n hq hV h
    simp only [p_all]
    by_cases e1 : s_ch T (s_sk T q) = -1
    · rw [if_pos e1]; exact h
    rw [if_neg e1]
    by_cases e2 : ¬ s_ch T (s_sk T q) = 59
    · rw [if_pos e2]; exact h
    rw [if_neg e2]
    obtain ⟨a1, a2⟩ := sk_next hT hq e1
    have ok := p_thing_ok (n := n) hV hT a2
    have kp := kept_thing hV hT h a2
    by_cases hz : (p_thing T n (s_sk T q + 1)).1 = true
    · rw [if_pos hz]
      exact ih _ _ ok.1 (ok.2.2 hz).1 kp
    · rw [if_neg hz]
      exact kp
theorem p_allV (hT : OKt T) : ∀ (f q : Nat) (n : am_Row), q ≤ T.length → Vn n → (p_all T f q n).1 = true → Vn (p_all T f q n).2.2 := by
  intro f
  induction f with
  | zero => intro q n hq hV h; exact hV
  | succ f ih =>
    intro q n hq hV h
    simp only [p_all] at h ⊢
    by_cases e1 : s_ch T (s_sk T q) = -1
    · rw [if_pos e1]; exact hV
    rw [if_neg e1] at h ⊢
    by_cases e2 : ¬ s_ch T (s_sk T q) = 59
    · rw [if_pos e2] at h; cases h
    rw [if_neg e2] at h ⊢
    obtain ⟨a1, a2⟩ := sk_next hT hq e1
    have ok := p_thing_ok (n := n) hV hT a2
    by_cases hz : (p_thing T n (s_sk T q + 1)).1 = true
    · rw [if_pos hz] at h ⊢
      exact ih _ _ ok.1 (ok.2.2 hz).1 h
    · rw [if_neg hz] at h
      exact absurd h hz
theorem kept_tells (hT : OKt T) (n : am_Row) (hz : (p_tells T n).1 = true) : s_kept (s_fresh n ((p_tells T n).2.2 0) ((p_tells T n).2.2 1)) (p_tells T n).2.2 ∧ Vn (p_tells T n).2.2 := by
  unfold p_tells at hz ⊢
  by_cases d1 : s_dg T 3 7 (s_sk T 0)
  case neg => rw [if_pos d1] at hz; cases hz
  rw [if_neg (fun z => z d1)] at hz ⊢
  obtain ⟨a1, a2⟩ := sk_next hT (Nat.zero_le _) (dg_ne (by decide) d1)
  by_cases d2 : s_ch T (s_sk T (s_sk T 0 + 1)) = 120
  case neg => rw [if_pos d2] at hz; cases hz
  rw [if_neg (fun z => z d2)] at hz ⊢
  obtain ⟨b1, b2⟩ := sk_next hT a2 (by rw [d2]; decide)
  by_cases d3 : s_dg T 3 7 (s_sk T (s_sk T (s_sk T 0 + 1) + 1))
  case neg => rw [if_pos d3] at hz; cases hz
  rw [if_neg (fun z => z d3)] at hz ⊢
  obtain ⟨c1, c2⟩ := sk_next hT b2 (dg_ne (by decide) d3)
  have vf := Vn_fresh (n := n) d1 d3
  have kp := kept_all hT 120 (s_sk T (s_sk T (s_sk T 0 + 1) + 1) + 1) _ c2 vf s_kept.rf
  have k0 := kp.1.2.2.1
  have k1 := kp.1.2.2.2
  have e0 : s_fresh n (s_ch T (s_sk T 0) - 48) (s_ch T (s_sk T (s_sk T (s_sk T 0 + 1) + 1)) - 48) 0 = s_ch T (s_sk T 0) - 48 := rfl
  have e1 : s_fresh n (s_ch T (s_sk T 0) - 48) (s_ch T (s_sk T (s_sk T (s_sk T 0 + 1) + 1)) - 48) 1 = s_ch T (s_sk T (s_sk T (s_sk T 0 + 1) + 1)) - 48 := rfl
  rw [k0, k1, e0, e1]
  exact ⟨kp, p_allV hT _ _ _ c2 vf hz⟩

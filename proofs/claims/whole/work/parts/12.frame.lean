/-! The cells behind both objects, once they are made: at which of our numbers what lies. -/
abbrev m_J_fillI : Nat := 0
abbrev m_C_init : Nat := 1
abbrev m_P_init : Nat := 2
abbrev m_T_init : Nat := 3
abbrev m_S_init : Nat := 4
abbrev m_A_init : Nat := 5
abbrev m_M_fresh : Nat := 6
abbrev m_M_init : Nat := 7
abbrev m_A_isIn : Nat := 8
abbrev m_C_empties : Nat := 9
abbrev m_P_forgets : Nat := 10
abbrev m_C_cellCount : Nat := 11
abbrev m_A_cushion : Nat := 12
abbrev m_M_in : Nat := 13
abbrev m_M_cells : Nat := 14
abbrev m_M_cushion : Nat := 15
abbrev m_C_isCell : Nat := 16
abbrev m_C_pinOn : Nat := 17
abbrev m_C_thingOn : Nat := 18
abbrev m_A_lay : Nat := 19
abbrev m_C_addPin : Nat := 20
abbrev m_A_pin : Nat := 21
abbrev m_M_isCell : Nat := 22
abbrev m_M_ofPin : Nat := 23
abbrev m_M_cellOf : Nat := 24
abbrev m_M_pinOn : Nat := 25
abbrev m_M_isHole : Nat := 26
abbrev m_M_pinComes : Nat := 27
abbrev m_M_pin : Nat := 28
abbrev m_C_isPin : Nat := 29
abbrev m_A_areTwoPins : Nat := 30
abbrev m_C_addThread : Nat := 31
abbrev m_A_thread : Nat := 32
abbrev m_M_isPin : Nat := 33
abbrev m_M_threadComes : Nat := 34
abbrev m_M_thread : Nat := 35
abbrev m_A_look : Nat := 36
abbrev m_C_beside : Nat := 37
abbrev m_C_isThread : Nat := 38
abbrev m_C_isCut : Nat := 39
abbrev m_C_far : Nat := 40
abbrev m_C_holds : Nat := 41
abbrev m_C_mayGo : Nat := 42
abbrev m_C_waysOf : Nat := 43
abbrev m_A_of : Nat := 44
abbrev m_M_isOut : Nat := 45
abbrev m_M_beside : Nat := 46
abbrev m_M_ofThread : Nat := 47
abbrev m_M_isOf : Nat := 48
abbrev m_M_apart : Nat := 49
abbrev m_M_far : Nat := 50
abbrev m_M_holdsIf : Nat := 51
abbrev m_M_holds : Nat := 52
abbrev m_M_mayGo : Nat := 53
abbrev m_M_waysOf : Nat := 54
abbrev m_M_of : Nat := 55
abbrev m_A_at : Nat := 56
abbrev m_M_isThread : Nat := 57
abbrev m_M_at : Nat := 58
abbrev m_A_cell : Nat := 59
abbrev m_M_cell : Nat := 60
abbrev m_T_takesOn : Nat := 61
abbrev m_A_type : Nat := 62
abbrev m_M_type : Nat := 63
abbrev m_T_next : Nat := 64
abbrev m_T_digit : Nat := 65
abbrev m_T_goesPast : Nat := 66
abbrev m_T_freeCell : Nat := 67
abbrev m_T_courseOf : Nat := 68
abbrev m_T_tellsPin : Nat := 69
abbrev m_C_opens : Nat := 70
abbrev m_T_tellsHole : Nat := 71
abbrev m_T_letterHere : Nat := 72
abbrev m_T_number : Nat := 73
abbrev m_T_tellsThread : Nat := 74
abbrev m_T_tellsThing : Nat := 75
abbrev m_T_tells : Nat := 76
abbrev m_A_layAll : Nat := 77
abbrev m_C_becomes : Nat := 78
abbrev m_A_read : Nat := 79
abbrev m_M_here : Nat := 80
abbrev m_M_must : Nat := 81
abbrev m_M_digit : Nat := 82
abbrev m_M_freeCell : Nat := 83
abbrev m_M_readPin : Nat := 84
abbrev m_M_readHole : Nat := 85
abbrev m_M_number : Nat := 86
abbrev m_M_readThread : Nat := 87
abbrev m_M_readThing : Nat := 88
abbrev m_M_read : Nat := 89
abbrev m_J_bitL : Nat := 90
abbrev m_C_holeCount : Nat := 91
abbrev m_C_outSet : Nat := 92
abbrev m_C_holdSet : Nat := 93
abbrev m_A_count : Nat := 94
abbrev m_M_holesNow : Nat := 95
abbrev m_M_outs : Nat := 96
abbrev m_M_held : Nat := 97
abbrev m_M_count : Nat := 98
abbrev m_P_moment : Nat := 99
abbrev m_P_keeps : Nat := 100
abbrev m_C_gathersDust : Nat := 101
abbrev m_C_sets : Nat := 102
abbrev m_C_sails : Nat := 103
abbrev m_C_nearestHole : Nat := 104
abbrev m_C_nearer : Nat := 105
abbrev m_C_seeks : Nat := 106
abbrev m_C_goesOn : Nat := 107
abbrev m_A_passes : Nat := 108
abbrev m_A_days : Nat := 109
abbrev m_M_notes : Nat := 110
abbrev m_M_sets : Nat := 111
abbrev m_M_sails : Nat := 112
abbrev m_M_nearestHole : Nat := 113
abbrev m_M_isPulled : Nat := 114
abbrev m_M_goesBy : Nat := 115
abbrev m_M_days : Nat := 116
abbrev m_A_out : Nat := 117
abbrev m_M_out : Nat := 118
abbrev m_A_put : Nat := 119
abbrev m_M_put : Nat := 120
abbrev m_A_cut : Nat := 121
abbrev m_M_cut : Nat := 122
abbrev m_A_course : Nat := 123
abbrev m_M_course : Nat := 124
abbrev m_A_drift : Nat := 125
abbrev m_M_drift : Nat := 126
abbrev m_P_givesBack : Nat := 127
abbrev m_A_undo : Nat := 128
abbrev m_M_undo : Nat := 129
abbrev m_A_seed : Nat := 130
abbrev m_M_seed : Nat := 131
abbrev m_C_goesOnFor : Nat := 132
abbrev m_A_ahead : Nat := 133
abbrev m_M_asides : Nat := 134
abbrev m_M_goesOn : Nat := 135
abbrev m_M_backs : Nat := 136
abbrev m_M_ahead : Nat := 137
abbrev m_A_holes : Nat := 138
abbrev m_M_holes : Nat := 139
abbrev m_C_soonest : Nat := 140
abbrev m_A_comes : Nat := 141
abbrev m_M_whenOn : Nat := 142
abbrev m_M_comes : Nat := 143
abbrev m_C_soonestBeside : Nat := 144
abbrev m_A_side : Nat := 145
abbrev m_M_side : Nat := 146
abbrev m_A_bestCell : Nat := 147
abbrev m_A_hole : Nat := 148
abbrev m_M_hole : Nat := 149
abbrev m_C_uncutSet : Nat := 150
abbrev m_J_bitI : Nat := 151
abbrev m_C_becomesCut : Nat := 152
abbrev m_A_cuts : Nat := 153
abbrev m_M_many : Nat := 154
abbrev m_M_cutsAll : Nat := 155
abbrev m_M_cuts : Nat := 156
abbrev m_A_place : Nat := 157
abbrev m_M_place : Nat := 158
abbrev m_A_nearest : Nat := 159
abbrev m_M_nearest : Nat := 160
abbrev m_A_has : Nat := 161
abbrev m_C_spreads : Nat := 162
abbrev m_A_bound : Nat := 163
abbrev m_M_andNext : Nat := 164
abbrev m_M_bound : Nat := 165
abbrev m_A_between : Nat := 166
abbrev m_M_between : Nat := 167
abbrev m_C_aloneSet : Nat := 168
abbrev m_C_tautSet : Nat := 169
abbrev m_A_which : Nat := 170
abbrev m_M_which : Nat := 171
abbrev m_A_power : Nat := 172
abbrev m_A_commonDivisor : Nat := 173
abbrev m_A_breaks : Nat := 174
abbrev m_M_breaks : Nat := 175
abbrev m_P_becomes : Nat := 176
abbrev m_A_image : Nat := 177
abbrev m_M_image : Nat := 178
abbrev m_A_restore : Nat := 179
abbrev m_M_restore : Nat := 180
abbrev m_A_sheetOf : Nat := 181
abbrev m_A_isLane : Nat := 182
abbrev m_S_hasItems : Nat := 183
abbrev m_S_refusal : Nat := 184
abbrev m_S_itemAt : Nat := 185
abbrev m_A_isFelt : Nat := 186
abbrev m_A_felt : Nat := 187
abbrev m_M_isSheet : Nat := 188
abbrev m_M_isLane : Nat := 189
abbrev m_M_why : Nat := 190
abbrev m_M_isSo : Nat := 191
abbrev m_M_felt : Nat := 192
abbrev m_S_narrowed : Nat := 193
abbrev m_S_writes : Nat := 194
abbrev m_A_film : Nat := 195
abbrev m_M_film : Nat := 196
abbrev m_J_fillL : Nat := 197
abbrev m_S_begins : Nat := 198
abbrev m_A_sheet : Nat := 199
abbrev m_M_sheet : Nat := 200
abbrev m_A_drop : Nat := 201
abbrev m_M_drop : Nat := 202
abbrev m_A_item : Nat := 203
abbrev m_M_item : Nat := 204
abbrev m_S_takes : Nat := 205
abbrev m_A_copy : Nat := 206
abbrev m_M_copy : Nat := 207
abbrev m_L_law : Nat := 208
/-- a cushion; a past; a sheet -/
def cuB (k : Nat) : Prop := k = 1 ∨ k = 8 ∨ k = 73 ∨ (∃ i, i < 8 ∧ k = 17 + 7 * i) ∨ ∃ i, i < 8 ∧ k = 82 + 7 * i
def paB (k : Nat) : Prop := k = 15 ∨ k = 80
def shB (k : Nat) : Prop := ∃ s, s < 4 ∧ k = 141 + 2 * s
theorem cuB_1 : cuB 1 := Or.inl rfl
theorem cuB_8 : cuB 8 := Or.inr (Or.inl rfl)
theorem cuB_73 : cuB 73 := Or.inr (Or.inr (Or.inl rfl))
theorem cuB_m {i : Nat} (h : i < 8) : cuB (17 + 7 * i) := Or.inr (Or.inr (Or.inr (Or.inl ⟨i, h, rfl⟩)))
theorem cuB_n {i : Nat} (h : i < 8) : cuB (82 + 7 * i) := Or.inr (Or.inr (Or.inr (Or.inr ⟨i, h, rfl⟩)))
theorem paB_15 : paB 15 := Or.inl rfl
theorem paB_80 : paB 80 := Or.inr rfl
theorem cuB_lt {k : Nat} (h : cuB k) : 1 ≤ k ∧ k + 6 < 138 := by
  rcases h with h | h | h | ⟨i, hi, h⟩ | ⟨i, hi, h⟩ <;> omega
/-- two cushions' cells are apart -/
theorem cuB_ne {k k' : Nat} (h : cuB k) (h' : cuB k') (hn : k ≠ k') : k + 7 ≤ k' ∨ k' + 7 ≤ k := by
  rcases h with h | h | h | ⟨i, hi, h⟩ | ⟨i, hi, h⟩ <;> rcases h' with h' | h' | h' | ⟨j, hj, h'⟩ | ⟨j, hj, h'⟩ <;> omega
def SE_cu (E : am_E) : Prop := ∀ k : Nat, cuB k → E.1[k]? = some (0, 14) ∧ E.1[k + 1]? = some (10, 7) ∧ E.1[k + 2]? = some (10, 7) ∧ E.1[k + 3]? = some (10, 7) ∧ E.1[k + 4]? = some (10, 6) ∧ E.1[k + 5]? = some (10, 6) ∧ E.1[k + 6]? = some (10, 6) ∧ E.2.1 k 8 = some (k + 1) ∧ E.2.1 k 9 = some (k + 2) ∧ E.2.1 k 10 = some (k + 3) ∧ E.2.1 k 11 = some (k + 4) ∧ E.2.1 k 12 = some (k + 5) ∧ E.2.1 k 13 = some (k + 6)
def SE_pa (E : am_E) : Prop := ∀ k : Nat, paB k → E.1[k]? = some (1, 3) ∧ E.1[k + 1]? = some (12, 8) ∧ E.2.1 k 0 = some (k + 1) ∧ ∀ i : Nat, i < 8 → E.2.1 (k + 1) i = some (k + 2 + 7 * i)
def SE_sh (E : am_E) : Prop := ∀ k : Nat, shB k → E.1[k]? = some (2, 4) ∧ E.1[k + 1]? = some (11, 24) ∧ E.2.1 k 0 = some (k + 1)
def SE_ot (E : am_E) : Prop := E.1[138]? = some (3, 3) ∧ E.1[139]? = some (10, 120) ∧ E.2.1 138 0 = some 139 ∧ E.1[0]? = some (4, 8) ∧ E.1[140]? = some (13, 4) ∧ E.2.1 0 0 = some 1 ∧ E.2.1 0 1 = some 8 ∧ E.2.1 0 2 = some 15 ∧ E.2.1 0 3 = some 73 ∧ E.2.1 0 4 = some 80 ∧ E.2.1 0 5 = some 138 ∧ E.2.1 0 6 = some 140 ∧ ∀ s : Nat, s < 4 → E.2.1 140 s = some (141 + 2 * s)
def SE_mo (E : am_E) : Prop := E.1[149]? = some (5, 17) ∧ E.1[150]? = some (10, 100) ∧ E.1[151]? = some (10, 120) ∧ E.1[152]? = some (10, 51) ∧ E.1[153]? = some (10, 49) ∧ E.1[154]? = some (10, 568) ∧ E.1[155]? = some (10, 100) ∧ E.1[156]? = some (10, 668) ∧ E.1[157]? = some (10, 4) ∧ E.1[158]? = some (10, 4) ∧ E.1[159]? = some (11, 96) ∧ E.1[160]? = some (11, 24) ∧ E.2.1 149 0 = some 150 ∧ E.2.1 149 1 = some 151 ∧ E.2.1 149 5 = some 152 ∧ E.2.1 149 6 = some 153 ∧ E.2.1 149 7 = some 154 ∧ E.2.1 149 9 = some 155 ∧ E.2.1 149 10 = some 156 ∧ E.2.1 149 13 = some 157 ∧ E.2.1 149 14 = some 158 ∧ E.2.1 149 15 = some 159 ∧ E.2.1 149 16 = some 160
def SE (E : am_E) : Prop := SE_cu E ∧ SE_pa E ∧ SE_sh E ∧ SE_ot E ∧ SE_mo E
variable {E : am_E}
theorem SE_k0 (h : SE E) {k : Nat} (hk : cuB k) : E.1[k]? = some (0, 14) := (h.1 k hk).1
theorem SE_a1 (h : SE E) {k : Nat} (hk : cuB k) : E.1[k + 1]? = some (10, 7) := (h.1 k hk).2.1
theorem SE_a2 (h : SE E) {k : Nat} (hk : cuB k) : E.1[k + 2]? = some (10, 7) := (h.1 k hk).2.2.1
theorem SE_a3 (h : SE E) {k : Nat} (hk : cuB k) : E.1[k + 3]? = some (10, 7) := (h.1 k hk).2.2.2.1
theorem SE_a4 (h : SE E) {k : Nat} (hk : cuB k) : E.1[k + 4]? = some (10, 6) := (h.1 k hk).2.2.2.2.1
theorem SE_a5 (h : SE E) {k : Nat} (hk : cuB k) : E.1[k + 5]? = some (10, 6) := (h.1 k hk).2.2.2.2.2.1
theorem SE_a6 (h : SE E) {k : Nat} (hk : cuB k) : E.1[k + 6]? = some (10, 6) := (h.1 k hk).2.2.2.2.2.2.1
theorem SE_r0_8 (h : SE E) {k : Nat} (hk : cuB k) : E.2.1 k 8 = some (k + 1) := (h.1 k hk).2.2.2.2.2.2.2.1
theorem SE_r0_9 (h : SE E) {k : Nat} (hk : cuB k) : E.2.1 k 9 = some (k + 2) := (h.1 k hk).2.2.2.2.2.2.2.2.1
theorem SE_r0_10 (h : SE E) {k : Nat} (hk : cuB k) : E.2.1 k 10 = some (k + 3) := (h.1 k hk).2.2.2.2.2.2.2.2.2.1
theorem SE_r0_11 (h : SE E) {k : Nat} (hk : cuB k) : E.2.1 k 11 = some (k + 4) := (h.1 k hk).2.2.2.2.2.2.2.2.2.2.1
theorem SE_r0_12 (h : SE E) {k : Nat} (hk : cuB k) : E.2.1 k 12 = some (k + 5) := (h.1 k hk).2.2.2.2.2.2.2.2.2.2.2.1
theorem SE_r0_13 (h : SE E) {k : Nat} (hk : cuB k) : E.2.1 k 13 = some (k + 6) := (h.1 k hk).2.2.2.2.2.2.2.2.2.2.2.2
theorem SE_k1 (h : SE E) {k : Nat} (hk : paB k) : E.1[k]? = some (1, 3) := (h.2.1 k hk).1
theorem SE_pm (h : SE E) {k : Nat} (hk : paB k) : E.1[k + 1]? = some (12, 8) := (h.2.1 k hk).2.1
theorem SE_r1_0 (h : SE E) {k : Nat} (hk : paB k) : E.2.1 k 0 = some (k + 1) := (h.2.1 k hk).2.2.1
theorem SE_mm (h : SE E) {k : Nat} (hk : paB k) {i : Nat} (hi : i < 8) : E.2.1 (k + 1) i = some (k + 2 + 7 * i) := (h.2.1 k hk).2.2.2 i hi
theorem SE_k2 (h : SE E) {k : Nat} (hk : shB k) : E.1[k]? = some (2, 4) := (h.2.2.1 k hk).1
theorem SE_sr (h : SE E) {k : Nat} (hk : shB k) : E.1[k + 1]? = some (11, 24) := (h.2.2.1 k hk).2.1
theorem SE_r2_0 (h : SE E) {k : Nat} (hk : shB k) : E.2.1 k 0 = some (k + 1) := (h.2.2.1 k hk).2.2
theorem SE_k3 (h : SE E) : E.1[138]? = some (3, 3) := h.2.2.2.1.1
theorem SE_ta (h : SE E) : E.1[139]? = some (10, 120) := h.2.2.2.1.2.1
theorem SE_r3_0 (h : SE E) : E.2.1 138 0 = some 139 := h.2.2.2.1.2.2.1
theorem SE_k4 (h : SE E) : E.1[0]? = some (4, 8) := h.2.2.2.1.2.2.2.1
theorem SE_sa (h : SE E) : E.1[140]? = some (13, 4) := h.2.2.2.1.2.2.2.2.1
theorem SE_r4_0 (h : SE E) : E.2.1 0 0 = some 1 := h.2.2.2.1.2.2.2.2.2.1
theorem SE_r4_1 (h : SE E) : E.2.1 0 1 = some 8 := h.2.2.2.1.2.2.2.2.2.2.1
theorem SE_r4_2 (h : SE E) : E.2.1 0 2 = some 15 := h.2.2.2.1.2.2.2.2.2.2.2.1
theorem SE_r4_3 (h : SE E) : E.2.1 0 3 = some 73 := h.2.2.2.1.2.2.2.2.2.2.2.2.1
theorem SE_r4_4 (h : SE E) : E.2.1 0 4 = some 80 := h.2.2.2.1.2.2.2.2.2.2.2.2.2.1
theorem SE_r4_5 (h : SE E) : E.2.1 0 5 = some 138 := h.2.2.2.1.2.2.2.2.2.2.2.2.2.2.1
theorem SE_r4_6 (h : SE E) : E.2.1 0 6 = some 140 := h.2.2.2.1.2.2.2.2.2.2.2.2.2.2.2.1
theorem SE_ss (h : SE E) {s : Nat} (hs : s < 4) : E.2.1 140 s = some (141 + 2 * s) := h.2.2.2.1.2.2.2.2.2.2.2.2.2.2.2.2 s hs
theorem SE_k5 (h : SE E) : E.1[149]? = some (5, 17) := h.2.2.2.2.1
theorem SE_m150 (h : SE E) : E.1[150]? = some (10, 100) := h.2.2.2.2.2.1
theorem SE_m151 (h : SE E) : E.1[151]? = some (10, 120) := h.2.2.2.2.2.2.1
theorem SE_m152 (h : SE E) : E.1[152]? = some (10, 51) := h.2.2.2.2.2.2.2.1
theorem SE_m153 (h : SE E) : E.1[153]? = some (10, 49) := h.2.2.2.2.2.2.2.2.1
theorem SE_m154 (h : SE E) : E.1[154]? = some (10, 568) := h.2.2.2.2.2.2.2.2.2.1
theorem SE_m155 (h : SE E) : E.1[155]? = some (10, 100) := h.2.2.2.2.2.2.2.2.2.2.1
theorem SE_m156 (h : SE E) : E.1[156]? = some (10, 668) := h.2.2.2.2.2.2.2.2.2.2.2.1
theorem SE_m157 (h : SE E) : E.1[157]? = some (10, 4) := h.2.2.2.2.2.2.2.2.2.2.2.2.1
theorem SE_m158 (h : SE E) : E.1[158]? = some (10, 4) := h.2.2.2.2.2.2.2.2.2.2.2.2.2.1
theorem SE_m159 (h : SE E) : E.1[159]? = some (11, 96) := h.2.2.2.2.2.2.2.2.2.2.2.2.2.2.1
theorem SE_m160 (h : SE E) : E.1[160]? = some (11, 24) := h.2.2.2.2.2.2.2.2.2.2.2.2.2.2.2.1
theorem SE_r5_0 (h : SE E) : E.2.1 149 0 = some 150 := h.2.2.2.2.2.2.2.2.2.2.2.2.2.2.2.2.1
theorem SE_r5_1 (h : SE E) : E.2.1 149 1 = some 151 := h.2.2.2.2.2.2.2.2.2.2.2.2.2.2.2.2.2.1
theorem SE_r5_5 (h : SE E) : E.2.1 149 5 = some 152 := h.2.2.2.2.2.2.2.2.2.2.2.2.2.2.2.2.2.2.1
theorem SE_r5_6 (h : SE E) : E.2.1 149 6 = some 153 := h.2.2.2.2.2.2.2.2.2.2.2.2.2.2.2.2.2.2.2.1
theorem SE_r5_7 (h : SE E) : E.2.1 149 7 = some 154 := h.2.2.2.2.2.2.2.2.2.2.2.2.2.2.2.2.2.2.2.2.1
theorem SE_r5_9 (h : SE E) : E.2.1 149 9 = some 155 := h.2.2.2.2.2.2.2.2.2.2.2.2.2.2.2.2.2.2.2.2.2.1
theorem SE_r5_10 (h : SE E) : E.2.1 149 10 = some 156 := h.2.2.2.2.2.2.2.2.2.2.2.2.2.2.2.2.2.2.2.2.2.2.1
theorem SE_r5_13 (h : SE E) : E.2.1 149 13 = some 157 := h.2.2.2.2.2.2.2.2.2.2.2.2.2.2.2.2.2.2.2.2.2.2.2.1
theorem SE_r5_14 (h : SE E) : E.2.1 149 14 = some 158 := h.2.2.2.2.2.2.2.2.2.2.2.2.2.2.2.2.2.2.2.2.2.2.2.2.1
theorem SE_r5_15 (h : SE E) : E.2.1 149 15 = some 159 := h.2.2.2.2.2.2.2.2.2.2.2.2.2.2.2.2.2.2.2.2.2.2.2.2.2.1
theorem SE_r5_16 (h : SE E) : E.2.1 149 16 = some 160 := h.2.2.2.2.2.2.2.2.2.2.2.2.2.2.2.2.2.2.2.2.2.2.2.2.2.2
theorem al_of {t k n : Nat} (h : E.1[k]? = some (t, n)) : am_len t E k = n := by unfold am_len; rw [h]; dsimp only; rw [if_pos rfl]
theorem kn_of {t k n : Nat} (h : E.1[k]? = some (t, n)) : am_kn E k = t := by unfold am_kn; rw [h]
/-- lengths of the arrays -/
theorem al_c (h : SE E) {k : Nat} (hk : cuB k) : am_len 10 E (k + 1) = 7 ∧ am_len 10 E (k + 2) = 7 ∧ am_len 10 E (k + 3) = 7 ∧ am_len 10 E (k + 4) = 6 ∧ am_len 10 E (k + 5) = 6 ∧ am_len 10 E (k + 6) = 6 := ⟨al_of (SE_a1 h hk), al_of (SE_a2 h hk), al_of (SE_a3 h hk), al_of (SE_a4 h hk), al_of (SE_a5 h hk), al_of (SE_a6 h hk)⟩
theorem kn_c (h : SE E) {k : Nat} (hk : cuB k) : am_kn E (k + 1) = 10 ∧ am_kn E (k + 2) = 10 ∧ am_kn E (k + 3) = 10 ∧ am_kn E (k + 4) = 10 ∧ am_kn E (k + 5) = 10 ∧ am_kn E (k + 6) = 10 := ⟨kn_of (SE_a1 h hk), kn_of (SE_a2 h hk), kn_of (SE_a3 h hk), kn_of (SE_a4 h hk), kn_of (SE_a5 h hk), kn_of (SE_a6 h hk)⟩
theorem al_m (h : SE E) : am_len 10 E 150 = 100 ∧ am_len 10 E 151 = 120 ∧ am_len 10 E 152 = 51 ∧ am_len 10 E 153 = 49 ∧ am_len 10 E 154 = 568 ∧ am_len 10 E 155 = 100 ∧ am_len 10 E 156 = 668 ∧ am_len 10 E 157 = 4 ∧ am_len 10 E 158 = 4 ∧ am_len 11 E 159 = 96 ∧ am_len 11 E 160 = 24 := ⟨al_of (SE_m150 h), al_of (SE_m151 h), al_of (SE_m152 h), al_of (SE_m153 h), al_of (SE_m154 h), al_of (SE_m155 h), al_of (SE_m156 h), al_of (SE_m157 h), al_of (SE_m158 h), al_of (SE_m159 h), al_of (SE_m160 h)⟩
theorem al_t (h : SE E) : am_len 10 E 139 = 120 ∧ am_kn E 139 = 10 := ⟨al_of (SE_ta h), kn_of (SE_ta h)⟩
theorem al_s (h : SE E) : am_len 13 E 140 = 4 ∧ am_kn E 140 = 13 := ⟨al_of (SE_sa h), kn_of (SE_sa h)⟩
theorem al_p (h : SE E) {k : Nat} (hk : paB k) : am_len 12 E (k + 1) = 8 ∧ am_kn E (k + 1) = 12 := ⟨al_of (SE_pm h hk), kn_of (SE_pm h hk)⟩
theorem al_h (h : SE E) {k : Nat} (hk : shB k) : am_len 11 E (k + 1) = 24 ∧ am_kn E (k + 1) = 11 := ⟨al_of (SE_sr h hk), kn_of (SE_sr h hk)⟩

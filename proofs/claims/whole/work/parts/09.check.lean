/-! The tables hold: every row decodes so, and its words stand in lw_tbl. -/
def am_wck (ws : List Jvm.Cond) (ps : List Nat) : Bool := ws.length == ps.length && (ws.zip ps).all fun q => decide (lw_tbl[q.2]? = some q.1)
def am_ck1 (M : Nat) (q : am_Et × List Nat) : Bool := decide (decode (am_By M) q.1.1 = .ok (q.1.2.1, q.1.2.2.1)) && am_xg M q.1.1 q.1.2.1 q.1.2.2.1 q.1.2.2.2.1 && am_wck (am_wd (am_own M) q.1.2.1 q.1.2.2.2.1 q.1.2.2.2.2) q.2
def am_chk (M : Nat) : Bool := (am_kA.getD M []).length == (am_pA.getD M []).length && ((am_kA.getD M []).zip (am_pA.getD M [])).all (am_ck1 M)
theorem am_wck_of : ∀ {ws : List Jvm.Cond} {ps : List Nat}, am_wck ws ps = true → ∀ w ∈ ws, w ∈ lw_tbl := by
  intro ws ps h w hw
  unfold am_wck at h
  simp only [Bool.and_eq_true, beq_iff_eq] at h
  obtain ⟨h1, h2⟩ := h
  obtain ⟨i, hi⟩ := List.getElem?_of_mem hw
  have hl := (List.getElem?_eq_some_iff.mp hi).1
  obtain ⟨p, hp⟩ : ∃ p, ps[i]? = some p := ⟨_, List.getElem?_eq_getElem (by omega)⟩
  have hz : (ws.zip ps)[i]? = some (w, p) := by rw [List.getElem?_zip_eq_some]; exact ⟨hi, hp⟩
  have := List.all_eq_true.mp h2 _ (List.mem_of_getElem? hz)
  exact List.mem_of_getElem? (of_decide_eq_true this)
theorem am_ck1_of {M : Nat} {q : am_Et × List Nat} (h : am_ck1 M q = true) : am_good M q.1.1 q.1.2.1 q.1.2.2.1 q.1.2.2.2.1 q.1.2.2.2.2 := by
  unfold am_ck1 at h
  simp only [Bool.and_eq_true, decide_eq_true_eq] at h
  exact ⟨h.1.1, am_wck_of h.2, h.1.2⟩
theorem am_chk_of {M : Nat} (h : am_chk M = true) {e : am_Et} (he : e ∈ am_kA.getD M []) : am_good M e.1 e.2.1 e.2.2.1 e.2.2.2.1 e.2.2.2.2 := by
  unfold am_chk at h
  simp only [Bool.and_eq_true, beq_iff_eq] at h
  obtain ⟨h1, h2⟩ := h
  obtain ⟨i, hi⟩ := List.getElem?_of_mem he
  have hl := (List.getElem?_eq_some_iff.mp hi).1
  obtain ⟨p, hp⟩ : ∃ p, (am_pA.getD M [])[i]? = some p := ⟨_, List.getElem?_eq_getElem (by omega)⟩
  have hz : ((am_kA.getD M []).zip (am_pA.getD M []))[i]? = some (e, p) := by rw [List.getElem?_zip_eq_some]; exact ⟨hi, hp⟩
  exact am_ck1_of (q := (e, p)) (List.all_eq_true.mp h2 _ (List.mem_of_getElem? hz))
theorem am_ckr0 : (List.range' 0 10).all am_chk = true := by decide +kernel
theorem am_ckr1 : (List.range' 10 10).all am_chk = true := by decide +kernel
theorem am_ckr2 : (List.range' 20 10).all am_chk = true := by decide +kernel
theorem am_ckr3 : (List.range' 30 10).all am_chk = true := by decide +kernel
theorem am_ckr4 : (List.range' 40 10).all am_chk = true := by decide +kernel
theorem am_ckr5 : (List.range' 50 10).all am_chk = true := by decide +kernel
theorem am_ckr6 : (List.range' 60 10).all am_chk = true := by decide +kernel
theorem am_ckr7 : (List.range' 70 10).all am_chk = true := by decide +kernel
theorem am_ckr8 : (List.range' 80 10).all am_chk = true := by decide +kernel
theorem am_ckr9 : (List.range' 90 10).all am_chk = true := by decide +kernel
theorem am_ckr10 : (List.range' 100 10).all am_chk = true := by decide +kernel
theorem am_ckr11 : (List.range' 110 10).all am_chk = true := by decide +kernel
theorem am_ckr12 : (List.range' 120 10).all am_chk = true := by decide +kernel
theorem am_ckr13 : (List.range' 130 10).all am_chk = true := by decide +kernel
theorem am_ckr14 : (List.range' 140 10).all am_chk = true := by decide +kernel
theorem am_ckr15 : (List.range' 150 10).all am_chk = true := by decide +kernel
theorem am_ckr16 : (List.range' 160 10).all am_chk = true := by decide +kernel
theorem am_ckr17 : (List.range' 170 10).all am_chk = true := by decide +kernel
theorem am_ckr18 : (List.range' 180 10).all am_chk = true := by decide +kernel
theorem am_ckr19 : (List.range' 190 10).all am_chk = true := by decide +kernel
theorem am_ckr20 : (List.range' 200 8).all am_chk = true := by decide +kernel
def am_pL0 : List (List Nat) := [[122, 123, 111], [], [124, 125, 111, 126], [], [774, 775, 117], [], [776, 777, 117, 778], [], [], [], [], [], [], [], [], [], [], [], [], [], [], [], [], [], [], [], [], [], [], [], [], [], [], [287, 288, 289, 111, 290], [], [], [], [], [], [], [], [], [], [], [], [836, 837, 838, 117, 839], [], [], [], [], [], [], [], [], [], [], [], [], [], []]
theorem am_ckL0 : (((am_k208.drop 0).take 60).zip am_pL0).all (am_ck1 208) = true := by decide +kernel
def am_pL1 : List (List Nat) := [[306, 307, 308, 111, 309], [], [], [], [], [], [], [], [], [], [], [], [849, 850, 851, 117, 852], [], [], [], [], [], [], [], [], [], [], [], [], [], [], [], [], [], [], [], [329, 330, 331, 111, 332], [], [], [], [], [], [], [], [], [], [], [], [], [], [], [], [], [878, 879, 880, 117, 881], [], [], [], [], [], [], [], [], [], []]
theorem am_ckL1 : (((am_k208.drop 60).take 60).zip am_pL1).all (am_ck1 208) = true := by decide +kernel
def am_pL2 : List (List Nat) := [[], [], [], [], [351, 352, 353, 111, 354], [], [], [], [], [], [], [], [], [], [], [], [891, 892, 893, 117, 894], [], [], [], [], [], [], [], [], [], [], [], [], [], [], [388, 389, 390, 111, 391], [], [], [], [], [], [], [], [], [], [], [], [934, 935, 936, 117, 937], [], [], [], [], [], [], [], [], [], [395, 396, 397, 111, 398], [], [], [], [], [], []]
theorem am_ckL2 : (((am_k208.drop 120).take 60).zip am_pL2).all (am_ck1 208) = true := by decide +kernel
def am_pL3 : List (List Nat) := [[942, 943, 944, 117, 945], [], [], [], [], [], [], [], [], [], [399, 400, 401, 111, 402], [], [], [], [], [], [], [962, 963, 964, 117, 965], [], [], [], [], [408, 409, 410, 111, 411], [], [968, 969, 970, 117, 971], [], [], [], [], [], [], [], [], [], [480, 481, 482, 111, 483], [], [], [], [], [], [], [946, 947, 948, 117, 949], [], [], [], [], [], [], [], [], [], [502, 503, 504, 111, 505], [], [], [], [], [], [], [1010, 1011, 1012, 117, 1013], []]
theorem am_ckL3 : (((am_k208.drop 180).take 60).zip am_pL3).all (am_ck1 208) = true := by decide +kernel
def am_pL4 : List (List Nat) := [[], [], [], [], [], [], [], [], [553, 554, 555, 111, 556], [], [], [], [], [], [], [1039, 1040, 1041, 117, 1042], [], [], [], [], [], [], [], [], [], [], [], [], [], [], [559, 560, 561, 111, 562], [], [], [], [], [], [], [], [], [], [], [], [1043, 1044, 1045, 117, 1046], [], [], [], [], [], [], [], [], [], [565, 566, 567, 111, 568], [], [], [], [], [], [], [1047, 1048, 1049, 117, 1050]]
theorem am_ckL4 : (((am_k208.drop 240).take 60).zip am_pL4).all (am_ck1 208) = true := by decide +kernel
def am_pL5 : List (List Nat) := [[], [], [], [], [], [], [], [], [], [], [], [], [], [], [569, 570, 571, 111, 572], [], [], [], [], [], [], [], [], [], [], [], [1051, 1052, 1053, 117, 1054], [], [], [], [], [], [], [], [], [], [573, 574, 575, 111, 576], [], [], [], [], [], [], [1055, 1056, 1057, 117, 1058], [], [], [], [], [577, 578, 579, 111, 580], [], [1063, 1064, 1065, 117, 1066], [], [], [], [], [], [], [], [], []]
theorem am_ckL5 : (((am_k208.drop 300).take 60).zip am_pL5).all (am_ck1 208) = true := by decide +kernel
def am_pL6 : List (List Nat) := [[585, 586, 587, 111, 588], [], [], [], [], [], [], [1067, 1068, 1069, 117, 1070], [], [], [], [], [], [], [], [], [], [], [], [], [], [], [589, 590, 591, 111, 592], [], [], [], [], [], [], [], [], [], [], [], [1071, 1072, 1073, 117, 1074], [], [], [], [], [], [], [], [], [], [598, 599, 600, 111, 601], [], [], [], [], [], [], [1088, 1089, 1090, 117, 1091], [], [], [], [], [], [], [], []]
theorem am_ckL6 : (((am_k208.drop 360).take 60).zip am_pL6).all (am_ck1 208) = true := by decide +kernel
def am_pL7 : List (List Nat) := [[], [], [], [], [], [], [602, 603, 604, 111, 605], [], [], [], [], [], [], [], [], [], [], [], [1092, 1093, 1094, 117, 1095], [], [], [], [], [], [], [], [], [], [], [], [], [], [], [610, 611, 612, 111, 613], [], [], [], [], [], [], [], [], [], [], [], [1100, 1101, 1102, 117, 1103], [], [], [], [], [], [], [], [], [], [], [], [], [], []]
theorem am_ckL7 : (((am_k208.drop 420).take 60).zip am_pL7).all (am_ck1 208) = true := by decide +kernel
def am_pL8 : List (List Nat) := [[], [], [], [], [], [618, 619, 620, 111, 621], [], [], [], [], [], [], [], [], [], [], [], [], [], [], [], [], [1104, 1105, 1106, 117, 1107], [], [], [], [], [], [], [], [], [], [], [], [], [], [], [], [], [], [], [], [626, 627, 628, 111, 629], [], [], [], [], [], [], [], [], [], [], [], [], [], [], [], [], [1108, 1109, 1110, 117, 1111]]
theorem am_ckL8 : (((am_k208.drop 480).take 60).zip am_pL8).all (am_ck1 208) = true := by decide +kernel
def am_pL9 : List (List Nat) := [[], [], [], [], [], [], [], [], [], [], [], [], [], [], [], [], [], [], [], [645, 646, 647, 111, 648], [], [], [], [], [], [], [], [], [], [], [], [], [], [], [], [], [1119, 1120, 1121, 117, 1122], [], [], [], [], [], [], [], [], [], [], [], [], [], [], [649, 650, 651, 111, 652], [], [], [], [], [], [], [], []]
theorem am_ckL9 : (((am_k208.drop 540).take 60).zip am_pL9).all (am_ck1 208) = true := by decide +kernel
def am_pL10 : List (List Nat) := [[], [], [], [1123, 1124, 1125, 117, 1126], [], [], [], [], [], [], [], [], [], [655, 656, 657, 111, 658], [], [], [], [], [], [], [1127, 1128, 1129, 117, 1130], [], [], [], [], [], [], [], [], [], [], [], [], [], [], [666, 667, 668, 111, 669], [], [], [], [], [], [], [], [], [], [], [], [1135, 1136, 1137, 117, 1138], [], [], [], [], [], [], [], [], [], [671, 672, 673, 111, 674], [], []]
theorem am_ckL10 : (((am_k208.drop 600).take 60).zip am_pL10).all (am_ck1 208) = true := by decide +kernel
def am_pL11 : List (List Nat) := [[], [], [], [], [1139, 1140, 1141, 117, 1142], [], [], [], [], [], [], [], [], [], [], [], [], [], [], [], [], [], [], [], [], [], [], [], [], [], [], [], [], [], [684, 685, 686, 111, 687], [], [], [], [], [], [], [], [], [], [], [], [], [], [], [], [], [], [], [], [], [], [], [], [], []]
theorem am_ckL11 : (((am_k208.drop 660).take 60).zip am_pL11).all (am_ck1 208) = true := by decide +kernel
def am_pL12 : List (List Nat) := [[], [1143, 1144, 1145, 117, 1146], [], [], [], [], [694, 695, 696, 111, 697], [], [1149, 1150, 1151, 117, 1152], [], [], [], [], [702, 703, 704, 111, 705], [], [1153, 1154, 1155, 117, 1156], [], [], [], [], [], [], [], [], [], [], [], [], [], [], [], [], [], [], [], [], [], [], [], [], [], [], [], [], [], [], [], [], [], [], [706, 707, 708, 111, 709], [], [], [], [], [], [], [], [], []]
theorem am_ckL12 : (((am_k208.drop 720).take 60).zip am_pL12).all (am_ck1 208) = true := by decide +kernel
def am_pL13 : List (List Nat) := [[], [], [], [], [], [], [], [], [], [], [], [], [], [], [], [], [], [], [], [], [], [], [1157, 1158, 1159, 117, 1160], [], [], [], [], [], [], [], [], [], [], [], [], [], [], [], [], [], [], [], [], [], [], [], [], [], [], [], [], [], [733, 734, 735, 111, 736], [], [], [], [], [], [], []]
theorem am_ckL13 : (((am_k208.drop 780).take 60).zip am_pL13).all (am_ck1 208) = true := by decide +kernel
def am_pL14 : List (List Nat) := [[], [], [], [], [], [], [], [], [], [], [], [], [], [], [], [], [], [], [], [1176, 1177, 1178, 117, 1179], [], [], [], [], [], [], [], [], [], [], [], [], [], [], [], [], [], [], [], [745, 746, 747, 111, 748], [], [], [], [], [], [], [], [], [], [], [], [], [], [], [], [], [1181, 1182, 1183, 117, 1184], [], [], []]
theorem am_ckL14 : (((am_k208.drop 840).take 60).zip am_pL14).all (am_ck1 208) = true := by decide +kernel
def am_pL15 : List (List Nat) := [[], [], [], [], [], [], [756, 757, 758, 111, 759], [], [], [], [], [], [], [1185, 1186, 1187, 117, 1188], [], [], [], [], [], [], [], [], [], [], [], [], [], [], [], [], [], [], [], [], [], [], [], [], [], [], [], [], [], [], [], [], [], [1197], [], [], [760, 761, 762, 111, 763], [], [], [], [], [], [], [], [], []]
theorem am_ckL15 : (((am_k208.drop 900).take 60).zip am_pL15).all (am_ck1 208) = true := by decide +kernel
def am_pL16 : List (List Nat) := [[], [], [], [], [], [], [], [], [], [], [], [], [], [], [], [], [], [], [], [], [], [1197], [], [], [1189, 1190, 1191, 117, 1192], [], [], [], [], [], [], [], [], [], [], [], [], [], [], [], [], [], [], [], [], [], [], [], [], [], [], [], [], [], [764, 765, 766, 111, 767], [], [], [], [], []]
theorem am_ckL16 : (((am_k208.drop 960).take 60).zip am_pL16).all (am_ck1 208) = true := by decide +kernel
def am_pL17 : List (List Nat) := [[], [], [], [], [], [], [], [], [], [], [], [], [], [], [], [], [], [], [], [], [], [1193, 1194, 1195, 117, 1196], [], [], [], [], [], [], []]
theorem am_ckL17 : (((am_k208.drop 1020).take 60).zip am_pL17).all (am_ck1 208) = true := by decide +kernel
theorem am_ckLp : am_p208 = am_pL0 ++ (am_pL1 ++ (am_pL2 ++ (am_pL3 ++ (am_pL4 ++ (am_pL5 ++ (am_pL6 ++ (am_pL7 ++ (am_pL8 ++ (am_pL9 ++ (am_pL10 ++ (am_pL11 ++ (am_pL12 ++ (am_pL13 ++ (am_pL14 ++ (am_pL15 ++ (am_pL16 ++ (am_pL17))))))))))))))))) := by decide +kernel
theorem am_ckLc (k : List am_Et) (p p1 p2 : List (List Nat)) (m : Nat) (f : am_Et × List Nat → Bool) (hp : p = p1 ++ p2) (hm : p1.length = m) (h1 : ((k.take m).zip p1).all f = true) (h2 : ((k.drop m).zip p2).all f = true) (hk : m ≤ k.length) : (k.zip p).all f = true := by
  subst hp
  have : k = k.take m ++ k.drop m := (List.take_append_drop m k).symm
  rw [this, List.zip_append (by rw [List.length_take]; omega), List.all_append, h1, h2]
  rfl
theorem am_ckL : am_chk 208 = true := by
  have e1 : am_kA.getD 208 [] = am_k208 := by rfl
  have e2 : am_pA.getD 208 [] = am_p208 := by rfl
  unfold am_chk
  rw [e1, e2]
  have hl : (am_k208.length == am_p208.length) = true := by decide +kernel
  have hk : am_k208.length = 1049 := by decide +kernel
  rw [hl, Bool.true_and]
  have hz : ∀ (m : Nat), (am_k208.drop m).length = 1049 - m := fun m => by rw [List.length_drop, hk]
  have a17 : ((am_k208.drop 1020).zip am_pL17).all (am_ck1 208) = true := by
    have := am_ckL17
    rw [List.take_of_length_le (by rw [hz]; omega)] at this
    exact this
  have a16 : ((am_k208.drop 960).zip (am_pL16 ++ (am_pL17))).all (am_ck1 208) = true := am_ckLc _ _ am_pL16 (am_pL17) 60 _ rfl rfl am_ckL16 (by rw [List.drop_drop]; exact a17) (by rw [hz]; omega)
  have a15 : ((am_k208.drop 900).zip (am_pL15 ++ (am_pL16 ++ (am_pL17)))).all (am_ck1 208) = true := am_ckLc _ _ am_pL15 (am_pL16 ++ (am_pL17)) 60 _ rfl rfl am_ckL15 (by rw [List.drop_drop]; exact a16) (by rw [hz]; omega)
  have a14 : ((am_k208.drop 840).zip (am_pL14 ++ (am_pL15 ++ (am_pL16 ++ (am_pL17))))).all (am_ck1 208) = true := am_ckLc _ _ am_pL14 (am_pL15 ++ (am_pL16 ++ (am_pL17))) 60 _ rfl rfl am_ckL14 (by rw [List.drop_drop]; exact a15) (by rw [hz]; omega)
  have a13 : ((am_k208.drop 780).zip (am_pL13 ++ (am_pL14 ++ (am_pL15 ++ (am_pL16 ++ (am_pL17)))))).all (am_ck1 208) = true := am_ckLc _ _ am_pL13 (am_pL14 ++ (am_pL15 ++ (am_pL16 ++ (am_pL17)))) 60 _ rfl rfl am_ckL13 (by rw [List.drop_drop]; exact a14) (by rw [hz]; omega)
  have a12 : ((am_k208.drop 720).zip (am_pL12 ++ (am_pL13 ++ (am_pL14 ++ (am_pL15 ++ (am_pL16 ++ (am_pL17))))))).all (am_ck1 208) = true := am_ckLc _ _ am_pL12 (am_pL13 ++ (am_pL14 ++ (am_pL15 ++ (am_pL16 ++ (am_pL17))))) 60 _ rfl rfl am_ckL12 (by rw [List.drop_drop]; exact a13) (by rw [hz]; omega)
  have a11 : ((am_k208.drop 660).zip (am_pL11 ++ (am_pL12 ++ (am_pL13 ++ (am_pL14 ++ (am_pL15 ++ (am_pL16 ++ (am_pL17)))))))).all (am_ck1 208) = true := am_ckLc _ _ am_pL11 (am_pL12 ++ (am_pL13 ++ (am_pL14 ++ (am_pL15 ++ (am_pL16 ++ (am_pL17)))))) 60 _ rfl rfl am_ckL11 (by rw [List.drop_drop]; exact a12) (by rw [hz]; omega)
  have a10 : ((am_k208.drop 600).zip (am_pL10 ++ (am_pL11 ++ (am_pL12 ++ (am_pL13 ++ (am_pL14 ++ (am_pL15 ++ (am_pL16 ++ (am_pL17))))))))).all (am_ck1 208) = true := am_ckLc _ _ am_pL10 (am_pL11 ++ (am_pL12 ++ (am_pL13 ++ (am_pL14 ++ (am_pL15 ++ (am_pL16 ++ (am_pL17))))))) 60 _ rfl rfl am_ckL10 (by rw [List.drop_drop]; exact a11) (by rw [hz]; omega)
  have a9 : ((am_k208.drop 540).zip (am_pL9 ++ (am_pL10 ++ (am_pL11 ++ (am_pL12 ++ (am_pL13 ++ (am_pL14 ++ (am_pL15 ++ (am_pL16 ++ (am_pL17)))))))))).all (am_ck1 208) = true := am_ckLc _ _ am_pL9 (am_pL10 ++ (am_pL11 ++ (am_pL12 ++ (am_pL13 ++ (am_pL14 ++ (am_pL15 ++ (am_pL16 ++ (am_pL17)))))))) 60 _ rfl rfl am_ckL9 (by rw [List.drop_drop]; exact a10) (by rw [hz]; omega)
  have a8 : ((am_k208.drop 480).zip (am_pL8 ++ (am_pL9 ++ (am_pL10 ++ (am_pL11 ++ (am_pL12 ++ (am_pL13 ++ (am_pL14 ++ (am_pL15 ++ (am_pL16 ++ (am_pL17))))))))))).all (am_ck1 208) = true := am_ckLc _ _ am_pL8 (am_pL9 ++ (am_pL10 ++ (am_pL11 ++ (am_pL12 ++ (am_pL13 ++ (am_pL14 ++ (am_pL15 ++ (am_pL16 ++ (am_pL17))))))))) 60 _ rfl rfl am_ckL8 (by rw [List.drop_drop]; exact a9) (by rw [hz]; omega)
  have a7 : ((am_k208.drop 420).zip (am_pL7 ++ (am_pL8 ++ (am_pL9 ++ (am_pL10 ++ (am_pL11 ++ (am_pL12 ++ (am_pL13 ++ (am_pL14 ++ (am_pL15 ++ (am_pL16 ++ (am_pL17)))))))))))).all (am_ck1 208) = true := am_ckLc _ _ am_pL7 (am_pL8 ++ (am_pL9 ++ (am_pL10 ++ (am_pL11 ++ (am_pL12 ++ (am_pL13 ++ (am_pL14 ++ (am_pL15 ++ (am_pL16 ++ (am_pL17)))))))))) 60 _ rfl rfl am_ckL7 (by rw [List.drop_drop]; exact a8) (by rw [hz]; omega)
  have a6 : ((am_k208.drop 360).zip (am_pL6 ++ (am_pL7 ++ (am_pL8 ++ (am_pL9 ++ (am_pL10 ++ (am_pL11 ++ (am_pL12 ++ (am_pL13 ++ (am_pL14 ++ (am_pL15 ++ (am_pL16 ++ (am_pL17))))))))))))).all (am_ck1 208) = true := am_ckLc _ _ am_pL6 (am_pL7 ++ (am_pL8 ++ (am_pL9 ++ (am_pL10 ++ (am_pL11 ++ (am_pL12 ++ (am_pL13 ++ (am_pL14 ++ (am_pL15 ++ (am_pL16 ++ (am_pL17))))))))))) 60 _ rfl rfl am_ckL6 (by rw [List.drop_drop]; exact a7) (by rw [hz]; omega)
  have a5 : ((am_k208.drop 300).zip (am_pL5 ++ (am_pL6 ++ (am_pL7 ++ (am_pL8 ++ (am_pL9 ++ (am_pL10 ++ (am_pL11 ++ (am_pL12 ++ (am_pL13 ++ (am_pL14 ++ (am_pL15 ++ (am_pL16 ++ (am_pL17)))))))))))))).all (am_ck1 208) = true := am_ckLc _ _ am_pL5 (am_pL6 ++ (am_pL7 ++ (am_pL8 ++ (am_pL9 ++ (am_pL10 ++ (am_pL11 ++ (am_pL12 ++ (am_pL13 ++ (am_pL14 ++ (am_pL15 ++ (am_pL16 ++ (am_pL17)))))))))))) 60 _ rfl rfl am_ckL5 (by rw [List.drop_drop]; exact a6) (by rw [hz]; omega)
  have a4 : ((am_k208.drop 240).zip (am_pL4 ++ (am_pL5 ++ (am_pL6 ++ (am_pL7 ++ (am_pL8 ++ (am_pL9 ++ (am_pL10 ++ (am_pL11 ++ (am_pL12 ++ (am_pL13 ++ (am_pL14 ++ (am_pL15 ++ (am_pL16 ++ (am_pL17))))))))))))))).all (am_ck1 208) = true := am_ckLc _ _ am_pL4 (am_pL5 ++ (am_pL6 ++ (am_pL7 ++ (am_pL8 ++ (am_pL9 ++ (am_pL10 ++ (am_pL11 ++ (am_pL12 ++ (am_pL13 ++ (am_pL14 ++ (am_pL15 ++ (am_pL16 ++ (am_pL17))))))))))))) 60 _ rfl rfl am_ckL4 (by rw [List.drop_drop]; exact a5) (by rw [hz]; omega)
  have a3 : ((am_k208.drop 180).zip (am_pL3 ++ (am_pL4 ++ (am_pL5 ++ (am_pL6 ++ (am_pL7 ++ (am_pL8 ++ (am_pL9 ++ (am_pL10 ++ (am_pL11 ++ (am_pL12 ++ (am_pL13 ++ (am_pL14 ++ (am_pL15 ++ (am_pL16 ++ (am_pL17)))))))))))))))).all (am_ck1 208) = true := am_ckLc _ _ am_pL3 (am_pL4 ++ (am_pL5 ++ (am_pL6 ++ (am_pL7 ++ (am_pL8 ++ (am_pL9 ++ (am_pL10 ++ (am_pL11 ++ (am_pL12 ++ (am_pL13 ++ (am_pL14 ++ (am_pL15 ++ (am_pL16 ++ (am_pL17)))))))))))))) 60 _ rfl rfl am_ckL3 (by rw [List.drop_drop]; exact a4) (by rw [hz]; omega)
  have a2 : ((am_k208.drop 120).zip (am_pL2 ++ (am_pL3 ++ (am_pL4 ++ (am_pL5 ++ (am_pL6 ++ (am_pL7 ++ (am_pL8 ++ (am_pL9 ++ (am_pL10 ++ (am_pL11 ++ (am_pL12 ++ (am_pL13 ++ (am_pL14 ++ (am_pL15 ++ (am_pL16 ++ (am_pL17))))))))))))))))).all (am_ck1 208) = true := am_ckLc _ _ am_pL2 (am_pL3 ++ (am_pL4 ++ (am_pL5 ++ (am_pL6 ++ (am_pL7 ++ (am_pL8 ++ (am_pL9 ++ (am_pL10 ++ (am_pL11 ++ (am_pL12 ++ (am_pL13 ++ (am_pL14 ++ (am_pL15 ++ (am_pL16 ++ (am_pL17))))))))))))))) 60 _ rfl rfl am_ckL2 (by rw [List.drop_drop]; exact a3) (by rw [hz]; omega)
  have a1 : ((am_k208.drop 60).zip (am_pL1 ++ (am_pL2 ++ (am_pL3 ++ (am_pL4 ++ (am_pL5 ++ (am_pL6 ++ (am_pL7 ++ (am_pL8 ++ (am_pL9 ++ (am_pL10 ++ (am_pL11 ++ (am_pL12 ++ (am_pL13 ++ (am_pL14 ++ (am_pL15 ++ (am_pL16 ++ (am_pL17)))))))))))))))))).all (am_ck1 208) = true := am_ckLc _ _ am_pL1 (am_pL2 ++ (am_pL3 ++ (am_pL4 ++ (am_pL5 ++ (am_pL6 ++ (am_pL7 ++ (am_pL8 ++ (am_pL9 ++ (am_pL10 ++ (am_pL11 ++ (am_pL12 ++ (am_pL13 ++ (am_pL14 ++ (am_pL15 ++ (am_pL16 ++ (am_pL17)))))))))))))))) 60 _ rfl rfl am_ckL1 (by rw [List.drop_drop]; exact a2) (by rw [hz]; omega)
  have a0 : ((am_k208.drop 0).zip (am_pL0 ++ (am_pL1 ++ (am_pL2 ++ (am_pL3 ++ (am_pL4 ++ (am_pL5 ++ (am_pL6 ++ (am_pL7 ++ (am_pL8 ++ (am_pL9 ++ (am_pL10 ++ (am_pL11 ++ (am_pL12 ++ (am_pL13 ++ (am_pL14 ++ (am_pL15 ++ (am_pL16 ++ (am_pL17))))))))))))))))))).all (am_ck1 208) = true := am_ckLc _ _ am_pL0 (am_pL1 ++ (am_pL2 ++ (am_pL3 ++ (am_pL4 ++ (am_pL5 ++ (am_pL6 ++ (am_pL7 ++ (am_pL8 ++ (am_pL9 ++ (am_pL10 ++ (am_pL11 ++ (am_pL12 ++ (am_pL13 ++ (am_pL14 ++ (am_pL15 ++ (am_pL16 ++ (am_pL17))))))))))))))))) 60 _ rfl rfl am_ckL0 (by rw [List.drop_drop]; exact a1) (by rw [hz]; omega)
  rw [am_ckLp]
  exact a0
theorem am_ck_all : ∀ M, M < am_NM → am_chk M = true := by
  intro M h
  have h : M < 209 := h
  have R : ∀ {a n : Nat}, (List.range' a n).all am_chk = true → a ≤ M → M < a + n → am_chk M = true := fun h1 h2 h3 => List.all_eq_true.mp h1 M (List.mem_range'_1.mpr ⟨h2, h3⟩)
  by_cases h0 : M < 10
  · exact R am_ckr0 (by omega) (by omega)
  by_cases h1 : M < 20
  · exact R am_ckr1 (by omega) (by omega)
  by_cases h2 : M < 30
  · exact R am_ckr2 (by omega) (by omega)
  by_cases h3 : M < 40
  · exact R am_ckr3 (by omega) (by omega)
  by_cases h4 : M < 50
  · exact R am_ckr4 (by omega) (by omega)
  by_cases h5 : M < 60
  · exact R am_ckr5 (by omega) (by omega)
  by_cases h6 : M < 70
  · exact R am_ckr6 (by omega) (by omega)
  by_cases h7 : M < 80
  · exact R am_ckr7 (by omega) (by omega)
  by_cases h8 : M < 90
  · exact R am_ckr8 (by omega) (by omega)
  by_cases h9 : M < 100
  · exact R am_ckr9 (by omega) (by omega)
  by_cases h10 : M < 110
  · exact R am_ckr10 (by omega) (by omega)
  by_cases h11 : M < 120
  · exact R am_ckr11 (by omega) (by omega)
  by_cases h12 : M < 130
  · exact R am_ckr12 (by omega) (by omega)
  by_cases h13 : M < 140
  · exact R am_ckr13 (by omega) (by omega)
  by_cases h14 : M < 150
  · exact R am_ckr14 (by omega) (by omega)
  by_cases h15 : M < 160
  · exact R am_ckr15 (by omega) (by omega)
  by_cases h16 : M < 170
  · exact R am_ckr16 (by omega) (by omega)
  by_cases h17 : M < 180
  · exact R am_ckr17 (by omega) (by omega)
  by_cases h18 : M < 190
  · exact R am_ckr18 (by omega) (by omega)
  by_cases h19 : M < 200
  · exact R am_ckr19 (by omega) (by omega)
  by_cases h20 : M < 208
  · exact R am_ckr20 (by omega) (by omega)
  have : M = 208 := by omega
  subst this
  exact am_ckL
theorem am_kA_len : am_kA.length = 209 := by decide +kernel
theorem am_none : ∀ M, am_NM ≤ M → ∀ pc, am_Pg M pc = none := by
  intro M h pc
  have h : 209 ≤ M := h
  unfold am_Pg
  rw [List.getD_eq_getElem?_getD, List.getElem?_eq_none (by rw [am_kA_len]; exact h)]
  rfl
theorem am_good_all : am_allgood := by
  intro M pc ins len x v0 h
  have hM : M < am_NM := by
    rcases Nat.lt_or_ge M am_NM with q | q
    · exact q
    · rw [am_none M q pc] at h; cases h
  unfold am_Pg at h
  obtain ⟨e, he, hv⟩ := Option.map_eq_some_iff.mp h
  have h1 := List.mem_of_find?_eq_some he
  have h2 : (e.1 == pc) = true := List.find?_some (p := fun q : am_Et => q.1 == pc) he
  have h3 := am_chk_of (am_ck_all M hM) h1
  rw [hv] at h3
  rw [beq_iff_eq.mp h2] at h3
  exact h3
theorem am_plain : ∀ M, M < am_NM → plainName (am_Y M).cls = true := by
  have : ∀ M ∈ List.range 209, plainName (am_Y M).cls = true := by decide +kernel
  exact fun M h => this M (List.mem_range.mpr h)
theorem am_mets : ∀ M, am_Met M := am_met am_good_all am_plain am_none

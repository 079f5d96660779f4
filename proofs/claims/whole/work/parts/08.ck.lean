/-! ===== the tables are the words of the claim: by program ===== -/
theorem ck_all {α β : Type} {ps : List Nat} {es : List α} {f : Nat → Option β} {w : α → β} (h : ps.map f = es.map (fun e => some (w e))) : ∀ e ∈ es, ∃ p, f p = some (w e) := by
  intro e he
  have h1 : some (w e) ∈ es.map (fun e => some (w e)) := List.mem_map.mpr ⟨e, he, rfl⟩
  rw [← h] at h1
  obtain ⟨p, -, hp⟩ := List.mem_map.mp h1
  exact ⟨p, hp⟩
/-- the words by place -/
def mt_w (p : Nat) : Option Cond := lw_tbl[p]?
theorem mt_w_mem {p : Nat} {w : Cond} (h : mt_w p = some w) : w ∈ lw_tbl := List.mem_of_getElem? h
def mt_mn (y : Nat) : MethodName := mt_y.getD y ⟨"", "", ""⟩
def mt_cd (y : Nat) : ByteArray := mt_code.getD y ⟨#[]⟩
set_option maxRecDepth 100000 in
theorem ck_lay_0 : ([225, 227, 229, 231, 233, 235, 237, 239] : List Nat).map mt_w = (List.range 8).map (fun k => some (u_lay RX0 TX0 k)) := by rfl
set_option maxRecDepth 100000 in
theorem ck_lay_1 : ([119, 121, 123, 125, 127, 129] : List Nat).map mt_w = (List.range 6).map (fun k => some (u_lay RX1 TX1 k)) := by rfl
set_option maxRecDepth 100000 in
theorem ck_lay_2 : ([181, 183, 185, 187, 189, 191, 193, 195, 197, 199, 201, 203, 205] : List Nat).map mt_w = (List.range 13).map (fun k => some (u_lay RX2 TX2 k)) := by rfl
set_option maxRecDepth 100000 in
theorem ck_lay_3 : ([279, 281] : List Nat).map mt_w = (List.range 2).map (fun k => some (u_lay RX3 TX3 k)) := by rfl
set_option maxRecDepth 100000 in
theorem ck_lay_4 : ([340, 342, 344] : List Nat).map mt_w = (List.range 3).map (fun k => some (u_lay RX4 TX4 k)) := by rfl
set_option maxRecDepth 100000 in
theorem ck_lay_5 : ([258, 260, 262, 264, 266, 268] : List Nat).map mt_w = (List.range 6).map (fun k => some (u_lay RX5 TX5 k)) := by rfl
set_option maxRecDepth 100000 in
theorem ck_lay_6 : ([142, 144, 146, 148] : List Nat).map mt_w = (List.range 4).map (fun k => some (u_lay RX6 TX6 k)) := by rfl
set_option maxRecDepth 100000 in
theorem ck_lay_7 : ([306, 308, 310, 312, 314, 316, 318, 320, 322] : List Nat).map mt_w = (List.range 9).map (fun k => some (u_lay RX7 TX7 k)) := by rfl
set_option maxRecDepth 100000 in
theorem ck_lay_8 : ([490, 492, 494, 496, 498, 500] : List Nat).map mt_w = (List.range 6).map (fun k => some (u_lay RX8 TX8 k)) := by rfl
set_option maxRecDepth 100000 in
theorem ck_lay_9 : ([1099, 1101, 1103, 1105, 1107, 1109, 1111, 1113, 1115, 1117, 1119, 1121, 1123, 1125, 1127, 1129, 1131, 1133, 1135, 1137, 1139, 1141, 1143, 1145, 1147, 1149, 1151, 1153, 1155, 1157, 1159, 1161, 1163, 1165, 1167, 1169, 1171, 1173, 1175, 1177, 1179, 1181, 1183, 1185, 1187, 1189, 1191, 1193] : List Nat).map mt_w = (List.range 48).map (fun k => some (u_lay RX9 TX9 k)) := by rfl
theorem sd_lay : ∀ {c : Nat} {q : vw_C}, ma_cls[c]? = some q → ∀ w ∈ u_ws q.1 q.2.1 q.2.2, w ∈ lw_tbl := by
  intro c q h w hw
  have hc : c < 10 := (List.getElem?_eq_some_iff.mp h).1
  obtain ⟨k, hk, rfl⟩ := List.mem_map.mp hw
  rcases (show c = 0 ∨ c = 1 ∨ c = 2 ∨ c = 3 ∨ c = 4 ∨ c = 5 ∨ c = 6 ∨ c = 7 ∨ c = 8 ∨ c = 9 by omega) with rfl | rfl | rfl | rfl | rfl | rfl | rfl | rfl | rfl | rfl
  · cases h; obtain ⟨p, hp⟩ := ck_all ck_lay_0 k hk; exact mt_w_mem hp
  · cases h; obtain ⟨p, hp⟩ := ck_all ck_lay_1 k hk; exact mt_w_mem hp
  · cases h; obtain ⟨p, hp⟩ := ck_all ck_lay_2 k hk; exact mt_w_mem hp
  · cases h; obtain ⟨p, hp⟩ := ck_all ck_lay_3 k hk; exact mt_w_mem hp
  · cases h; obtain ⟨p, hp⟩ := ck_all ck_lay_4 k hk; exact mt_w_mem hp
  · cases h; obtain ⟨p, hp⟩ := ck_all ck_lay_5 k hk; exact mt_w_mem hp
  · cases h; obtain ⟨p, hp⟩ := ck_all ck_lay_6 k hk; exact mt_w_mem hp
  · cases h; obtain ⟨p, hp⟩ := ck_all ck_lay_7 k hk; exact mt_w_mem hp
  · cases h; obtain ⟨p, hp⟩ := ck_all ck_lay_8 k hk; exact mt_w_mem hp
  · cases h; obtain ⟨p, hp⟩ := ck_all ck_lay_9 k hk; exact mt_w_mem hp
theorem ma_f4_mem {k : Nat} : ∀ {l : List (Nat × Nat × Nat × Nat)} {q : Nat × Nat × Nat}, ma_f4 k l = some q → (k, q) ∈ l
  | [], _, h => by cases h
  | e :: r, q, h => by
    unfold ma_f4 at h
    cases hb : Nat.beq e.1 k with
    | true =>
      rw [hb] at h
      cases h
      have := Nat.eq_of_beq_eq_true hb
      subst this
      exact List.mem_cons_self
    | false =>
      rw [hb] at h
      exact List.mem_cons_of_mem _ (ma_f4_mem h)
theorem ma_fk_mem {α : Type} {k : Nat} : ∀ {l : List (Nat × α × Nat)} {q : α × Nat}, ma_fk k l = some q → (k, q) ∈ l
  | [], _, h => by cases h
  | e :: r, q, h => by
    unfold ma_fk at h
    cases hb : Nat.beq e.1 k with
    | true =>
      rw [hb] at h
      cases h
      have := Nat.eq_of_beq_eq_true hb
      subst this
      exact List.mem_cons_self
    | false =>
      rw [hb] at h
      exact List.mem_cons_of_mem _ (ma_fk_mem h)
theorem ma_fn_mem {y pc : Nat} : ∀ {l : List (Nat × Nat × Nat)} {g : Nat}, ma_fn y pc l = some g → (y, pc, g) ∈ l
  | [], _, h => by cases h
  | e :: r, q, h => by
    unfold ma_fn at h
    cases hb : (Nat.beq e.1 y && Nat.beq e.2.1 pc) with
    | true =>
      rw [hb] at h
      cases h
      rw [Bool.and_eq_true] at hb
      have h1 := Nat.eq_of_beq_eq_true hb.1
      have h2 := Nat.eq_of_beq_eq_true hb.2
      subst h1
      subst h2
      exact List.mem_cons_self
    | false =>
      rw [hb] at h
      exact List.mem_cons_of_mem _ (ma_fn_mem h)
theorem ma_find_mem {pc : Nat} : ∀ {l : List (Nat × Instr × Nat)} {q : Instr × Nat}, ma_find pc l = some q → (pc, q) ∈ l
  | [], _, h => by cases h
  | e :: r, q, h => by
    unfold ma_find at h
    cases hb : Nat.beq e.1 pc with
    | true =>
      rw [hb] at h
      cases h
      have := Nat.eq_of_beq_eq_true hb
      subst this
      exact List.mem_cons_self
    | false =>
      rw [hb] at h
      exact List.mem_cons_of_mem _ (ma_find_mem h)
theorem mt_getD_lt {α : Type} {l : List (List α)} {k : Nat} {x : α} (h : x ∈ l.getD k []) : k < l.length := by
  rcases Nat.lt_or_ge k l.length with q | q
  · exact q
  · rw [List.getD_eq_getElem?_getD, List.getElem?_eq_none q] at h
    cases h

/-- a field's link word -/
def mt_fw (own : Nat) (e : Nat × Nat × Nat × Nat) : Cond := bif Nat.beq e.2.1 13 then (bif Nat.beq e.2.2.1 0 then .fieldLink (mt_cn.getD own "") e.1 "java/lang/String" "value" "[B" else .fieldLink (mt_cn.getD own "") e.1 "java/lang/String" "coder" "B") else match ma_cls[e.2.1]? with | some q => .fieldLink (mt_cn.getD own "") e.1 (q.2.1 e.2.2.1).1 (q.2.1 e.2.2.1).2.1 (q.2.1 e.2.2.1).2.2.1 | none => .returned
set_option maxRecDepth 100000 in
theorem ck_fw_0 : ([221, 222, 224, 216, 152, 218, 174, 219, 157, 220, 159, 162, 164, 223, 168] : List Nat).map mt_w = (mt_ft.getD 0 []).map (fun e => some (mt_fw 0 e)) := by rfl
set_option maxRecDepth 100000 in
theorem ck_fw_1 : ([105, 108, 111, 113, 115, 117] : List Nat).map mt_w = (mt_ft.getD 1 []).map (fun e => some (mt_fw 1 e)) := by rfl
set_option maxRecDepth 100000 in
theorem ck_fw_2 : ([151, 158, 161, 167, 172, 177, 178, 179, 180, 155, 165, 112, 106, 109, 175, 116, 118] : List Nat).map mt_w = (mt_ft.getD 2 []).map (fun e => some (mt_fw 2 e)) := by rfl
set_option maxRecDepth 100000 in
theorem ck_fw_3 : ([277, 278, 250, 252, 255] : List Nat).map mt_w = (mt_ft.getD 3 []).map (fun e => some (mt_fw 3 e)) := by rfl
set_option maxRecDepth 100000 in
theorem ck_fw_4 : ([332, 337, 334] : List Nat).map mt_w = (mt_ft.getD 4 []).map (fun e => some (mt_fw 4 e)) := by rfl
set_option maxRecDepth 100000 in
theorem ck_fw_5 : ([257, 249, 256, 253, 251, 254] : List Nat).map mt_w = (mt_ft.getD 5 []).map (fun e => some (mt_fw 5 e)) := by rfl
set_option maxRecDepth 100000 in
theorem ck_fw_6 : ([139, 140, 141, 138] : List Nat).map mt_w = (mt_ft.getD 6 []).map (fun e => some (mt_fw 6 e)) := by rfl
set_option maxRecDepth 100000 in
theorem ck_fw_7 : ([305, 290, 292, 304, 294, 296, 300, 302, 298, 153, 169, 114, 335, 338] : List Nat).map mt_w = (mt_ft.getD 7 []).map (fun e => some (mt_fw 7 e)) := by rfl
set_option maxRecDepth 100000 in
theorem ck_fw_8 : ([484, 485, 486, 487, 488, 489, 173, 248, 171, 156, 160, 163, 166, 170, 154, 176, 291, 293, 295, 297, 303, 333, 339, 301, 107, 299, 336, 217, 110] : List Nat).map mt_w = (mt_ft.getD 8 []).map (fun e => some (mt_fw 8 e)) := by rfl
set_option maxRecDepth 100000 in
theorem ck_fw_9 : ([1055, 1052, 1053, 1054, 1056, 1057, 1058, 1059, 1060, 1061, 1051, 1063, 1062, 1068, 1069, 1073, 1071, 1072, 1070, 1066, 1079, 1080, 1075, 1074, 1076, 1078, 1077, 1067, 1064, 1065, 1081, 1082, 1083, 1089, 1094, 1095, 1096, 1097, 1098, 1084, 1085, 1086, 1087, 1088, 1090, 1091, 1092, 1093] : List Nat).map mt_w = (mt_ft.getD 9 []).map (fun e => some (mt_fw 9 e)) := by rfl
set_option maxRecDepth 100000 in
theorem ck_fw_10 : ([] : List Nat).map mt_w = (mt_ft.getD 10 []).map (fun e => some (mt_fw 10 e)) := by rfl
set_option maxRecDepth 100000 in
theorem ck_fw_11 : ([] : List Nat).map mt_w = (mt_ft.getD 11 []).map (fun e => some (mt_fw 11 e)) := by rfl
set_option maxRecDepth 100000 in
theorem ck_fw_12 : ([] : List Nat).map mt_w = (mt_ft.getD 12 []).map (fun e => some (mt_fw 12 e)) := by rfl
set_option maxRecDepth 100000 in
theorem ck_fw_13 : ([1305, 1306] : List Nat).map mt_w = (mt_ft.getD 13 []).map (fun e => some (mt_fw 13 e)) := by rfl
set_option maxRecDepth 100000 in
theorem ck_fw_14 : ([] : List Nat).map mt_w = (mt_ft.getD 14 []).map (fun e => some (mt_fw 14 e)) := by rfl
set_option maxRecDepth 100000 in
theorem ck_fw_15 : ([] : List Nat).map mt_w = (mt_ft.getD 15 []).map (fun e => some (mt_fw 15 e)) := by rfl
theorem sd_ft {own idx : Nat} {e : Nat × Nat × Nat} (h : ma_f4 idx (mt_ft.getD own []) = some e) : mt_fw own (idx, e) ∈ lw_tbl := by
  have h1 := ma_f4_mem h
  have h2 : own < 16 := mt_getD_lt h1
  rcases (show own = 0 ∨ own = 1 ∨ own = 2 ∨ own = 3 ∨ own = 4 ∨ own = 5 ∨ own = 6 ∨ own = 7 ∨ own = 8 ∨ own = 9 ∨ own = 10 ∨ own = 11 ∨ own = 12 ∨ own = 13 ∨ own = 14 ∨ own = 15 by omega) with rfl | rfl | rfl | rfl | rfl | rfl | rfl | rfl | rfl | rfl | rfl | rfl | rfl | rfl | rfl | rfl
  · obtain ⟨p, hp⟩ := ck_all ck_fw_0 _ h1; exact mt_w_mem hp
  · obtain ⟨p, hp⟩ := ck_all ck_fw_1 _ h1; exact mt_w_mem hp
  · obtain ⟨p, hp⟩ := ck_all ck_fw_2 _ h1; exact mt_w_mem hp
  · obtain ⟨p, hp⟩ := ck_all ck_fw_3 _ h1; exact mt_w_mem hp
  · obtain ⟨p, hp⟩ := ck_all ck_fw_4 _ h1; exact mt_w_mem hp
  · obtain ⟨p, hp⟩ := ck_all ck_fw_5 _ h1; exact mt_w_mem hp
  · obtain ⟨p, hp⟩ := ck_all ck_fw_6 _ h1; exact mt_w_mem hp
  · obtain ⟨p, hp⟩ := ck_all ck_fw_7 _ h1; exact mt_w_mem hp
  · obtain ⟨p, hp⟩ := ck_all ck_fw_8 _ h1; exact mt_w_mem hp
  · obtain ⟨p, hp⟩ := ck_all ck_fw_9 _ h1; exact mt_w_mem hp
  · obtain ⟨p, hp⟩ := ck_all ck_fw_10 _ h1; exact mt_w_mem hp
  · obtain ⟨p, hp⟩ := ck_all ck_fw_11 _ h1; exact mt_w_mem hp
  · obtain ⟨p, hp⟩ := ck_all ck_fw_12 _ h1; exact mt_w_mem hp
  · obtain ⟨p, hp⟩ := ck_all ck_fw_13 _ h1; exact mt_w_mem hp
  · obtain ⟨p, hp⟩ := ck_all ck_fw_14 _ h1; exact mt_w_mem hp
  · obtain ⟨p, hp⟩ := ck_all ck_fw_15 _ h1; exact mt_w_mem hp
def ck_fj (e : Nat × Nat × Nat × Nat) : Bool := Nat.beq e.2.1 13 || (match ma_cls[e.2.1]? with | some q => Nat.blt e.2.2.1 q.2.2 | none => false)
theorem ck_fj_ok : (List.range 16).all (fun own => (mt_ft.getD own []).all ck_fj) = true := by decide +kernel
theorem sd_fj {own idx : Nat} {e : Nat × Nat × Nat} (h : ma_f4 idx (mt_ft.getD own []) = some e) : ck_fj (idx, e) = true := by
  have h1 := ma_f4_mem h
  exact List.all_eq_true.mp (List.all_eq_true.mp ck_fj_ok own (List.mem_range.mpr (mt_getD_lt h1))) _ h1
/-- a call's link word -/
def mt_cw (own : Nat) (e : Nat × Nat × Nat × Nat) : Cond := bif Nat.beq e.2.2.1 6 then .methodLink (mt_cn.getD own "") e.1 Lib.objectInit else bif Nat.beq e.2.2.1 7 then .methodLink (mt_cn.getD own "") e.1 arraycopyName else bif Nat.beq e.2.2.1 8 then .methodLink (mt_cn.getD own "") e.1 Lib.Math.max.name else bif Nat.beq e.2.2.1 9 then .methodLink (mt_cn.getD own "") e.1 Lib.Math.min.name else bif Nat.beq (e.2.2.1 % 2) 0 then .methodLink (mt_cn.getD own "") e.1 (mt_mn e.2.1) else .methodLinkNest (mt_cn.getD own "") e.1 (mt_mn e.2.1) "ThreeAddresses"
set_option maxRecDepth 100000 in
theorem ck_cw_0 : ([213, 215, 844, 847, 860, 861, 862] : List Nat).map mt_w = (mt_ct.getD 0 []).map (fun e => some (mt_cw 0 e)) := by rfl
set_option maxRecDepth 100000 in
theorem ck_cw_1 : ([104, 851, 539, 564, 540] : List Nat).map mt_w = (mt_ct.getD 1 []).map (fun e => some (mt_cw 1 e)) := by rfl
set_option maxRecDepth 100000 in
theorem ck_cw_2 : ([95, 101, 134, 535, 805, 806, 658, 597, 601, 605, 613, 737, 746, 747] : List Nat).map mt_w = (mt_ct.getD 2 []).map (fun e => some (mt_cw 2 e)) := by rfl
set_option maxRecDepth 100000 in
theorem ck_cw_3 : ([276, 404, 408, 451, 452, 480, 456, 464, 460, 468, 472, 476] : List Nat).map mt_w = (mt_ct.getD 3 []).map (fun e => some (mt_cw 3 e)) := by rfl
set_option maxRecDepth 100000 in
theorem ck_cw_4 : ([331, 771, 772] : List Nat).map mt_w = (mt_ct.getD 4 []).map (fun e => some (mt_cw 4 e)) := by rfl
set_option maxRecDepth 100000 in
theorem ck_cw_5 : ([247, 412, 416, 419, 444, 448, 423, 438, 442, 443] : List Nat).map mt_w = (mt_ct.getD 5 []).map (fun e => some (mt_cw 5 e)) := by rfl
set_option maxRecDepth 100000 in
theorem ck_cw_6 : ([137] : List Nat).map mt_w = (mt_ct.getD 6 []).map (fun e => some (mt_cw 6 e)) := by rfl
set_option maxRecDepth 100000 in
theorem ck_cw_7 : ([289, 645, 646, 650, 654, 664, 668, 669, 678] : List Nat).map mt_w = (mt_ct.getD 7 []).map (fun e => some (mt_cw 7 e)) := by rfl
set_option maxRecDepth 100000 in
theorem ck_cw_8 : ([87, 92, 210, 244, 273, 286, 328, 348, 358, 396, 400, 508, 512, 515, 523, 511, 527, 531, 548, 556, 560, 565, 569, 573, 552, 585, 593, 608, 609, 633, 673, 674, 637, 683, 687, 691, 699, 706, 713, 641, 695, 703, 710, 721, 729, 742, 725, 733, 738, 752, 764, 767, 773, 785, 789, 793, 797, 781, 777, 801, 811, 815, 823, 833, 840, 856, 879, 883, 892] : List Nat).map mt_w = (mt_ct.getD 8 []).map (fun e => some (mt_cw 8 e)) := by rfl
set_option maxRecDepth 100000 in
theorem ck_cw_9 : ([902, 899, 905, 912, 921, 929, 930, 938, 954, 946, 950, 967, 987, 995, 991, 999, 1019, 1011, 1022, 1003, 1015, 1030, 1026, 1034, 1038, 983, 1007, 979, 1050, 958, 961, 964, 1202, 1206, 1218, 1222, 1238, 1241, 1249, 1257, 1267, 1274, 1300] : List Nat).map mt_w = (mt_ct.getD 9 []).map (fun e => some (mt_cw 9 e)) := by rfl
set_option maxRecDepth 100000 in
theorem ck_cw_10 : ([84, 1047, 504, 895, 519, 908, 544, 925, 577, 917, 581, 934, 589, 942, 617, 971, 621, 975, 625, 1042, 629, 1198, 679, 1210, 717, 1214, 748, 1226, 756, 1230, 760, 1234, 807, 1245, 819, 1253, 828, 1262, 836, 1270, 852, 1277, 863, 1281, 867, 1285, 871, 1286, 875, 1290, 884, 1294, 888, 1301] : List Nat).map mt_w = (mt_ct.getD 10 []).map (fun e => some (mt_cw 10 e)) := by rfl
set_option maxRecDepth 100000 in
theorem ck_cw_11 : ([] : List Nat).map mt_w = (mt_ct.getD 11 []).map (fun e => some (mt_cw 11 e)) := by rfl
set_option maxRecDepth 100000 in
theorem ck_cw_12 : ([] : List Nat).map mt_w = (mt_ct.getD 12 []).map (fun e => some (mt_cw 12 e)) := by rfl
set_option maxRecDepth 100000 in
theorem ck_cw_13 : ([352, 362, 366, 374] : List Nat).map mt_w = (mt_ct.getD 13 []).map (fun e => some (mt_cw 13 e)) := by rfl
set_option maxRecDepth 100000 in
theorem ck_cw_14 : ([369] : List Nat).map mt_w = (mt_ct.getD 14 []).map (fun e => some (mt_cw 14 e)) := by rfl
set_option maxRecDepth 100000 in
theorem ck_cw_15 : ([] : List Nat).map mt_w = (mt_ct.getD 15 []).map (fun e => some (mt_cw 15 e)) := by rfl
theorem sd_ct {own idx : Nat} {e : Nat × Nat × Nat} (h : ma_f4 idx (mt_ct.getD own []) = some e) : mt_cw own (idx, e) ∈ lw_tbl := by
  have h1 := ma_f4_mem h
  have h2 : own < 16 := mt_getD_lt h1
  rcases (show own = 0 ∨ own = 1 ∨ own = 2 ∨ own = 3 ∨ own = 4 ∨ own = 5 ∨ own = 6 ∨ own = 7 ∨ own = 8 ∨ own = 9 ∨ own = 10 ∨ own = 11 ∨ own = 12 ∨ own = 13 ∨ own = 14 ∨ own = 15 by omega) with rfl | rfl | rfl | rfl | rfl | rfl | rfl | rfl | rfl | rfl | rfl | rfl | rfl | rfl | rfl | rfl
  · obtain ⟨p, hp⟩ := ck_all ck_cw_0 _ h1; exact mt_w_mem hp
  · obtain ⟨p, hp⟩ := ck_all ck_cw_1 _ h1; exact mt_w_mem hp
  · obtain ⟨p, hp⟩ := ck_all ck_cw_2 _ h1; exact mt_w_mem hp
  · obtain ⟨p, hp⟩ := ck_all ck_cw_3 _ h1; exact mt_w_mem hp
  · obtain ⟨p, hp⟩ := ck_all ck_cw_4 _ h1; exact mt_w_mem hp
  · obtain ⟨p, hp⟩ := ck_all ck_cw_5 _ h1; exact mt_w_mem hp
  · obtain ⟨p, hp⟩ := ck_all ck_cw_6 _ h1; exact mt_w_mem hp
  · obtain ⟨p, hp⟩ := ck_all ck_cw_7 _ h1; exact mt_w_mem hp
  · obtain ⟨p, hp⟩ := ck_all ck_cw_8 _ h1; exact mt_w_mem hp
  · obtain ⟨p, hp⟩ := ck_all ck_cw_9 _ h1; exact mt_w_mem hp
  · obtain ⟨p, hp⟩ := ck_all ck_cw_10 _ h1; exact mt_w_mem hp
  · obtain ⟨p, hp⟩ := ck_all ck_cw_11 _ h1; exact mt_w_mem hp
  · obtain ⟨p, hp⟩ := ck_all ck_cw_12 _ h1; exact mt_w_mem hp
  · obtain ⟨p, hp⟩ := ck_all ck_cw_13 _ h1; exact mt_w_mem hp
  · obtain ⟨p, hp⟩ := ck_all ck_cw_14 _ h1; exact mt_w_mem hp
  · obtain ⟨p, hp⟩ := ck_all ck_cw_15 _ h1; exact mt_w_mem hp
set_option maxRecDepth 100000 in
theorem ck_code : ([212, 843, 859, 103, 530, 850, 568, 563, 576, 538, 543, 616, 94, 518, 588, 640, 534, 572, 804, 653, 657, 612, 596, 698, 600, 607, 736, 741, 745, 275, 403, 455, 459, 463, 471, 475, 479, 330, 814, 818, 882, 770, 246, 399, 411, 415, 422, 447, 441, 450, 425, 136, 407, 467, 483, 604, 288, 644, 649, 672, 667, 677, 784, 86, 507, 522, 526, 547, 551, 580, 584, 592, 620, 624, 628, 632, 682, 636, 686, 690, 694, 702, 709, 716, 720, 724, 732, 728, 751, 755, 759, 763, 780, 776, 788, 792, 796, 800, 810, 822, 826, 831, 835, 839, 855, 866, 870, 874, 878, 887, 891, 894, 418, 514, 510, 766, 559, 555, 904, 963, 966, 907, 901, 924, 898, 916, 911, 920, 933, 928, 941, 937, 949, 953, 970, 945, 974, 990, 998, 994, 1002, 986, 1025, 1006, 1014, 1021, 1018, 1033, 1037, 1041, 1029, 1010, 982, 978, 1045, 1049, 960, 957, 1209, 1205, 1201, 1221, 1213, 1225, 1217, 1229, 1233, 1244, 1237, 1248, 1260, 1256, 1269, 1265, 1276, 1273, 1280, 1284, 1240, 1252, 1289, 1293, 1297, 1304, 660, 351, 361, 355, 365, 371, 368, 376] : List Nat).map mt_w = (List.range 192).map (fun y => some (Cond.code (mt_mn y) (mt_cd y) (mt_ml.getD y 0) (mt_ret.getD y none))) := by rfl
set_option maxRecDepth 100000 in
theorem ck_init : ([69, 69, 69, 67, 67, 67, 67, 67, 67, 67, 67, 67, 66, 66, 66, 66, 66, 66, 66, 66, 66, 66, 66, 66, 66, 66, 66, 66, 66, 71, 71, 71, 71, 71, 71, 71, 71, 73, 73, 73, 73, 73, 70, 70, 70, 70, 70, 70, 70, 70, 70, 68, 68, 68, 68, 68, 72, 72, 72, 72, 72, 72, 72, 65, 65, 65, 65, 65, 65, 65, 65, 65, 65, 65, 65, 65, 65, 65, 65, 65, 65, 65, 65, 65, 65, 65, 65, 65, 65, 65, 65, 65, 65, 65, 65, 65, 65, 65, 65, 65, 65, 65, 65, 65, 65, 65, 65, 65, 65, 65, 65, 65, 65, 65, 65, 65, 65, 65, 78, 78, 78, 78, 78, 78, 78, 78, 78, 78, 78, 78, 78, 78, 78, 78, 78, 78, 78, 78, 78, 78, 78, 78, 78, 78, 78, 78, 78, 78, 78, 78, 78, 78, 78, 78, 78, 78, 78, 78, 78, 78, 78, 78, 78, 78, 78, 78, 78, 78, 78, 78, 78, 78, 78, 78, 78, 78, 78, 78, 78, 78, 78, 78, 78, 78, 79, 74, 74, 74, 74, 74, 75, 76] : List Nat).map mt_w = (List.range 192).map (fun y => some (Cond.initialized (mt_mn y).cls)) := by rfl
/-- static ones -/
def mt_sta : List Bool := [false, false, false, false, false, false, false, false, false, false, false, false, false, false, false, false, false, false, false, false, false, false, false, false, false, true, false, false, false, false, false, false, false, false, false, false, false, false, false, false, false, false, false, false, false, false, false, false, false, true, true, false, false, false, false, false, false, false, false, false, false, false, false, false, false, false, false, false, false, false, false, false, false, false, false, false, false, false, false, false, false, false, false, false, false, false, false, false, false, false, false, false, false, false, false, false, false, false, false, false, false, false, true, false, false, false, false, false, false, false, false, true, true, true, true, true, false, false, true, true, true, true, true, false, false, false, false, false, false, false, false, false, false, false, false, false, false, false, false, false, false, false, false, false, false, true, false, false, false, false, false, false, false, false, false, false, true, false, false, false, false, false, false, false, false, false, false, false, false, false, false, false, true, false, true, false, false, false, true, false, false, false, false, false, true, false, false, false, false, true, true, true, true]
set_option maxRecDepth 100000 in
theorem ck_sta : ([211, 841, 857, 102, 528, 848, 566, 561, 574, 536, 542, 614, 93, 516, 586, 638, 532, 570, 802, 651, 655, 610, 594, 696, 599, 606, 734, 739, 743, 274, 401, 454, 458, 462, 470, 474, 478, 329, 812, 816, 880, 768, 245, 397, 409, 413, 421, 446, 440, 449, 424, 135, 405, 465, 481, 602, 287, 642, 648, 671, 665, 675, 782, 85, 505, 520, 525, 545, 550, 578, 582, 590, 618, 622, 626, 630, 680, 635, 685, 689, 693, 701, 708, 715, 718, 723, 731, 727, 749, 754, 757, 761, 779, 775, 787, 791, 795, 799, 808, 820, 825, 829, 834, 837, 853, 864, 868, 872, 876, 885, 889, 893, 417, 513, 509, 765, 558, 554, 903, 962, 965, 906, 900, 923, 896, 914, 909, 918, 932, 926, 940, 935, 948, 952, 969, 943, 972, 989, 997, 993, 1001, 985, 1024, 1005, 1013, 1020, 1017, 1032, 1036, 1040, 1028, 1009, 981, 976, 1043, 1048, 959, 956, 1208, 1204, 1199, 1220, 1211, 1224, 1215, 1227, 1231, 1243, 1235, 1246, 1259, 1254, 1268, 1263, 1275, 1271, 1278, 1282, 1239, 1250, 1287, 1291, 1295, 1302, 659, 349, 359, 353, 363, 370, 367, 375] : List Nat).map mt_w = (List.range 192).map (fun y => some (bif mt_sta.getD y false then Cond.static (mt_mn y) else Cond.instanceMethod (mt_mn y))) := by rfl
def mt_vir : List Nat := [1, 2, 4, 5, 6, 7, 8, 9, 10, 11, 13, 14, 15, 16, 17, 18, 19, 20, 21, 22, 23, 24, 26, 27, 28, 30, 31, 32, 33, 34, 35, 36, 38, 39, 40, 41, 43, 44, 45, 46, 47, 48, 52, 53, 54, 55, 57, 58, 59, 60, 61, 62, 64, 65, 66, 67, 68, 69, 70, 71, 72, 73, 74, 75, 76, 77, 78, 79, 80, 81, 82, 83, 84, 85, 86, 87, 88, 89, 90, 91, 92, 93, 94, 95, 96, 97, 98, 99, 100, 101, 103, 104, 105, 106, 107, 108, 109, 110, 116, 117, 123, 124, 125, 126, 127, 128, 129, 130, 131, 132, 133, 134, 135, 136, 137, 138, 139, 140, 141, 142, 143, 144, 146, 147, 148, 149, 150, 151, 152, 153, 154, 157, 158, 159, 160, 161, 162, 163, 164, 165, 166, 167, 168, 169, 170, 171, 173, 175, 176, 177, 179, 180, 181, 182, 183, 185, 186, 187, 188]
set_option maxRecDepth 100000 in
theorem ck_sel : ([842, 858, 529, 849, 567, 562, 575, 537, 10, 615, 517, 587, 639, 533, 571, 803, 652, 656, 611, 595, 697, 14, 735, 740, 744, 402, 3, 4, 5, 6, 7, 8, 813, 817, 881, 769, 398, 410, 414, 0, 2, 1, 406, 466, 482, 603, 643, 16, 17, 666, 676, 783, 506, 521, 9, 546, 11, 579, 583, 591, 619, 623, 627, 631, 681, 15, 18, 19, 20, 21, 22, 23, 719, 24, 26, 25, 750, 27, 758, 762, 29, 28, 30, 31, 32, 33, 809, 821, 34, 830, 838, 854, 865, 869, 873, 877, 886, 890, 13, 12, 36, 897, 35, 910, 919, 37, 927, 38, 936, 39, 40, 42, 944, 973, 45, 47, 46, 48, 44, 53, 49, 51, 52, 55, 56, 57, 54, 50, 43, 977, 1044, 41, 59, 58, 1200, 60, 1212, 61, 1216, 1228, 1232, 62, 1236, 1247, 63, 1255, 1264, 1272, 1279, 1283, 1251, 1288, 1292, 1296, 1303, 350, 360, 354, 364] : List Nat).map mt_w = mt_vir.map (fun y => some (Cond.selects (mt_mn y).cls (mt_mn y) (mt_mn y))) := by rfl
set_option maxRecDepth 100000 in
theorem ck_own : (List.range 193).map (fun y => mt_cn.getD (mt_own.getD y 0) "") = (List.range 193).map (fun y => (mt_mn y).cls) := by rfl
def mt_ctr : List Nat := [0, 3, 12, 29, 37, 42, 51, 56, 63, 155]
set_option maxRecDepth 100000 in
theorem ck_ctr : mt_ctr.map (fun y => (mt_mn y).name) = mt_ctr.map (fun _ => "<init>") := by rfl
theorem ck_ctr2 : (List.range 193).all (fun y => mt_ini.getD y false == mt_ctr.contains y) = true := by decide +kernel
/-- kinds of calls fit the methods -/
def ck_kd (e : Nat × Nat × Nat × Nat) : Bool := Nat.ble 6 e.2.2.1 || (Nat.blt e.2.1 192 && (bif Nat.blt e.2.2.1 2 then mt_sta.getD e.2.1 false else bif Nat.blt e.2.2.1 4 then mt_vir.contains e.2.1 && !(mt_sta.getD e.2.1 false) && !(mt_ini.getD e.2.1 false) else mt_ini.getD e.2.1 false && !(mt_sta.getD e.2.1 false) && (mt_ret.getD e.2.1 none).isNone) && Nat.ble (bif mt_sta.getD e.2.1 false then 0 else 1) (mt_na.getD e.2.1 0))
theorem ck_kd_ok : (List.range 16).all (fun own => (mt_ct.getD own []).all ck_kd) = true := by decide +kernel
theorem sd_kd {own idx : Nat} {e : Nat × Nat × Nat} (h : ma_f4 idx (mt_ct.getD own []) = some e) : ck_kd (idx, e) = true := by
  have h1 := ma_f4_mem h
  exact List.all_eq_true.mp (List.all_eq_true.mp ck_kd_ok own (List.mem_range.mpr (mt_getD_lt h1))) _ h1
def mt_ds : List (String × Nat) := [("()B", 0), ("()I", 0), ("()V", 0), ("()Z", 0), ("(I)C", 1), ("(I)I", 1), ("(I)Ljava/lang/String;", 1), ("(I)V", 1), ("(I)Z", 1), ("(II)I", 2), ("(II)V", 2), ("(II)Z", 2), ("(III)I", 3), ("(III)V", 3), ("(III)Z", 3), ("(IIII)I", 4), ("(IIII)V", 4), ("(IIIII)I", 5), ("(IIIII)J", 5), ("(IIIIII)V", 6), ("(IIIIIII)I", 7), ("(IILjava/util/function/BiFunction;)I", 3), ("(I[I)I", 2), ("(JJ)J", 2), ("(LThreeAddresses$Order;)V", 1), ("(LThreeAddresses$Post;)V", 1), ("(LThreeAddresses$Post;I)V", 2), ("(LThreeAddresses$Post;III)V", 4), ("(LThreeAddresses$Sheet;)I", 1), ("(LThreeAddresses$Sheet;)Z", 1), ("(LThreeAddresses$Sheet;I)I", 2), ("(LThreeAddresses$Sheet;I)Z", 2), ("(LThreeAddresses$Tape;)V", 1), ("(LThreeAddresses$Text;)I", 1), ("(Ljava/lang/String;)Z", 1), ("(Z)Z", 1), ("([BI)C", 2), ("([I)Z", 1), ("([I[III)V", 4)]
set_option maxRecDepth 100000 in
theorem ck_ds : mt_ds.map (fun q => (parseMethodDescriptor q.1).map (fun d => d.parameters.length)) = mt_ds.map (fun q => some q.2) := by rfl
def mt_dn : List Nat := [2, 25, 25, 2, 19, 24, 5, 11, 10, 8, 8, 5, 2, 2, 5, 1, 7, 7, 10, 12, 12, 15, 5, 15, 19, 12, 2, 5, 5, 32, 33, 8, 8, 8, 8, 8, 8, 2, 10, 10, 11, 3, 2, 7, 2, 2, 2, 2, 34, 8, 6, 2, 2, 7, 7, 22, 2, 27, 26, 2, 1, 5, 29, 2, 9, 12, 12, 12, 9, 9, 5, 12, 5, 1, 5, 12, 9, 10, 9, 5, 5, 5, 5, 5, 9, 9, 9, 14, 12, 15, 5, 9, 31, 28, 28, 28, 28, 30, 12, 9, 9, 18, 9, 1, 1, 5, 12, 12, 17, 15, 9, 11, 14, 8, 8, 8, 8, 8, 14, 9, 9, 8, 8, 8, 9, 16, 12, 9, 14, 12, 5, 5, 11, 15, 5, 12, 5, 8, 8, 2, 2, 2, 8, 8, 7, 5, 7, 7, 3, 3, 35, 8, 5, 1, 5, 2, 12, 20, 13, 1, 12, 9, 9, 5, 9, 12, 5, 7, 9, 12, 9, 9, 23, 18, 38, 1, 1, 5, 8, 12, 12, 17, 15, 9, 5, 1, 4, 0, 3, 10, 36, 21, 37]
set_option maxRecDepth 100000 in
theorem ck_dn : (List.range 193).map (fun y => (mt_mn y).desc) = (List.range 193).map (fun y => (mt_ds.getD (mt_dn.getD y 0) ("", 0)).1) := by rfl
theorem ck_dm : (List.range 193).all (fun y => Nat.beq (mt_na.getD y 0) ((mt_ds.getD (mt_dn.getD y 0) ("", 0)).2 + (bif mt_sta.getD y false then 0 else 1)) && Nat.ble (mt_ml.getD y 0) 40 && Nat.blt (mt_dn.getD y 0) 39) = true := by decide +kernel
theorem ck_pn : (List.range 16).all (fun c => Nat.beq c 12 || (Jvm.plainName (mt_cn.getD c "") && decide (mt_cn.getD c "" ≠ "java/lang/invoke/MethodHandle") && decide (mt_cn.getD c "" ≠ "java/lang/invoke/VarHandle"))) = true := by decide +kernel
theorem ck_po : (List.range 193).all (fun y => !(Nat.beq (mt_own.getD y 0) 12) && Nat.blt (mt_own.getD y 0) 16) = true := by decide +kernel
set_option maxRecDepth 100000 in
theorem ck_kt_8 : ([827] : List Nat).map mt_w = (mt_kt.getD 8 []).map (fun e => some (Cond.constant (mt_cn.getD 8 "") e.1 e.2.1)) := by rfl
set_option maxRecDepth 100000 in
theorem ck_kt_9 : ([1261] : List Nat).map mt_w = (mt_kt.getD 9 []).map (fun e => some (Cond.constant (mt_cn.getD 9 "") e.1 e.2.1)) := by rfl
set_option maxRecDepth 100000 in
theorem ck_kt_11 : ([661, 662, 663] : List Nat).map mt_w = (mt_kt.getD 11 []).map (fun e => some (Cond.constant (mt_cn.getD 11 "") e.1 e.2.1)) := by rfl
theorem sd_kt {own idx : Nat} {e : Int32 × Nat} (h : ma_fk idx (mt_kt.getD own []) = some e) : Cond.constant (mt_cn.getD own "") idx e.1 ∈ lw_tbl := by
  have h1 := ma_fk_mem h
  have h2 : own < 16 := mt_getD_lt h1
  rcases (show own = 0 ∨ own = 1 ∨ own = 2 ∨ own = 3 ∨ own = 4 ∨ own = 5 ∨ own = 6 ∨ own = 7 ∨ own = 8 ∨ own = 9 ∨ own = 10 ∨ own = 11 ∨ own = 12 ∨ own = 13 ∨ own = 14 ∨ own = 15 by omega) with rfl | rfl | rfl | rfl | rfl | rfl | rfl | rfl | rfl | rfl | rfl | rfl | rfl | rfl | rfl | rfl
  · cases h1
  · cases h1
  · cases h1
  · cases h1
  · cases h1
  · cases h1
  · cases h1
  · cases h1
  · obtain ⟨p, hp⟩ := ck_all ck_kt_8 _ h1; exact mt_w_mem hp
  · obtain ⟨p, hp⟩ := ck_all ck_kt_9 _ h1; exact mt_w_mem hp
  · cases h1
  · obtain ⟨p, hp⟩ := ck_all ck_kt_11 _ h1; exact mt_w_mem hp
  · cases h1
  · cases h1
  · cases h1
  · cases h1
set_option maxRecDepth 100000 in
theorem ck_lt_8 : ([832] : List Nat).map mt_w = (mt_lt.getD 8 []).map (fun e => some (Cond.constantLong (mt_cn.getD 8 "") e.1 e.2.1)) := by rfl
set_option maxRecDepth 100000 in
theorem ck_lt_9 : ([1266, 1298, 1299] : List Nat).map mt_w = (mt_lt.getD 9 []).map (fun e => some (Cond.constantLong (mt_cn.getD 9 "") e.1 e.2.1)) := by rfl
theorem sd_lt {own idx : Nat} {e : Int64 × Nat} (h : ma_fk idx (mt_lt.getD own []) = some e) : Cond.constantLong (mt_cn.getD own "") idx e.1 ∈ lw_tbl := by
  have h1 := ma_fk_mem h
  have h2 : own < 16 := mt_getD_lt h1
  rcases (show own = 0 ∨ own = 1 ∨ own = 2 ∨ own = 3 ∨ own = 4 ∨ own = 5 ∨ own = 6 ∨ own = 7 ∨ own = 8 ∨ own = 9 ∨ own = 10 ∨ own = 11 ∨ own = 12 ∨ own = 13 ∨ own = 14 ∨ own = 15 by omega) with rfl | rfl | rfl | rfl | rfl | rfl | rfl | rfl | rfl | rfl | rfl | rfl | rfl | rfl | rfl | rfl
  · cases h1
  · cases h1
  · cases h1
  · cases h1
  · cases h1
  · cases h1
  · cases h1
  · cases h1
  · obtain ⟨p, hp⟩ := ck_all ck_lt_8 _ h1; exact mt_w_mem hp
  · obtain ⟨p, hp⟩ := ck_all ck_lt_9 _ h1; exact mt_w_mem hp
  · cases h1
  · cases h1
  · cases h1
  · cases h1
  · cases h1
  · cases h1
theorem ck_st_ok : (List.range 16).all (fun own => (mt_st.getD own []).all (fun e => Nat.blt e.2.1 13)) = true := by decide +kernel
def mt_np : List ((Nat × Nat × Nat) × Nat × Nat × Nat) := [((0, 7, 27), 132, 0, 0), ((0, 15, 28), 132, 0, 0), ((0, 23, 29), 214, 97, 0), ((0, 42, 30), 214, 100, 67), ((12, 13, 14), 132, 0, 0), ((12, 21, 15), 132, 0, 0), ((12, 29, 16), 96, 97, 0), ((12, 38, 18), 98, 99, 0), ((12, 47, 23), 132, 0, 0), ((12, 56, 24), 132, 0, 0), ((12, 64, 25), 132, 0, 0), ((12, 72, 26), 132, 0, 0), ((12, 90, 17), 96, 100, 67), ((12, 117, 19), 98, 133, 68), ((37, 12, 13), 132, 0, 0), ((42, 8, 31), 132, 0, 0), ((51, 8, 20), 132, 0, 0), ((51, 15, 21), 132, 0, 0), ((51, 23, 22), 132, 0, 0), ((56, 7, 32), 132, 0, 0), ((63, 5, 6), 90, 91, 66), ((63, 16, 7), 208, 209, 69), ((63, 27, 8), 242, 243, 70), ((63, 38, 9), 271, 272, 71), ((63, 53, 10), 284, 285, 72), ((63, 65, 11), 325, 326, 0), ((63, 83, 12), 325, 327, 73), ((155, 13, 41), 132, 0, 0), ((155, 21, 42), 132, 0, 0), ((155, 29, 43), 132, 0, 0), ((155, 37, 44), 132, 0, 0), ((155, 45, 45), 132, 0, 0), ((155, 53, 46), 132, 0, 0), ((155, 61, 47), 132, 0, 0), ((155, 69, 48), 132, 0, 0), ((155, 78, 49), 132, 0, 0), ((155, 87, 50), 132, 0, 0), ((155, 95, 51), 132, 0, 0), ((155, 103, 52), 1196, 0, 0), ((155, 417, 53), 132, 0, 0), ((155, 496, 54), 132, 0, 0), ((155, 504, 55), 1197, 0, 0), ((155, 513, 56), 132, 0, 0), ((155, 521, 57), 132, 0, 0), ((155, 529, 58), 132, 0, 0), ((155, 537, 59), 132, 0, 0), ((155, 545, 60), 132, 0, 0), ((155, 552, 61), 132, 0, 0), ((155, 575, 62), 132, 0, 0), ((155, 584, 63), 132, 0, 0), ((155, 592, 64), 132, 0, 0), ((192, 0, 5), 82, 83, 65), ((192, 8, 40), 1046, 915, 78)]
/-- where objects are made: (class of the method, pool index, class) -/
def mt_n1 : List (Nat × Nat × Nat) := [(0, 18, 1), (2, 22, 1), (2, 28, 6), (8, 9, 2), (8, 16, 0), (8, 23, 5), (8, 30, 3), (8, 39, 7), (8, 46, 4), (10, 7, 8), (10, 10, 9)]
set_option maxRecDepth 100000 in
theorem ck_n1 : ([214, 96, 98, 90, 208, 242, 271, 284, 325, 82, 1046] : List Nat).map mt_w = mt_n1.map (fun e => some (Cond.classLink (mt_cn.getD e.1 "") e.2.1 (mt_cn.getD e.2.2 ""))) := by rfl
set_option maxRecDepth 100000 in
theorem ck_n2 : ([209, 100, 91, 272, 327, 243, 133, 285, 83, 915] : List Nat).map mt_w = (List.range 10).map (fun c => some (Cond.instantiable (mt_cn.getD c "") (mt_rf.getD c []).length)) := by rfl
set_option maxRecDepth 100000 in
theorem ck_n3 : ([69, 67, 66, 71, 73, 70, 68, 72, 65, 78] : List Nat).map mt_w = (List.range 10).map (fun c => some (Cond.initialized (mt_cn.getD c ""))) := by rfl
def mt_n4 : List (Nat × Nat × Nat) := [(0, 18, 1), (2, 22, 1), (2, 28, 6), (8, 46, 4)]
set_option maxRecDepth 100000 in
theorem ck_n4 : ([214, 96, 98, 325] : List Nat).map mt_w = mt_n4.map (fun e => some (Cond.classLink (mt_cn.getD e.1 "") e.2.1 (mt_cn.getD e.2.2 ""))) := by rfl
set_option maxRecDepth 100000 in
theorem ck_n5 : ([97, 97, 99, 326] : List Nat).map mt_w = mt_n4.map (fun e => some (Cond.arrayOver (.object (mt_cn.getD e.2.2 "")))) := by rfl
set_option maxRecDepth 100000 in
theorem ck_n6 : ([132, 1197, 1196] : List Nat).map mt_w = ([.int, .boolean, .char] : List ArrayType).map (fun t => some (Cond.arrayClass (newarray.typeOf t))) := by rfl
/-- of a place where a cell is made -/
def ck_nt (e : Nat × Nat × Nat) : Bool := Nat.ble 5 e.2.2 && Nat.ble (ma_gl e.2.2) 3000 && (match ma_find e.2.1 (mt_prog.getD e.1 []) with
  | some (.new k, _) => mt_n1.contains (mt_own.getD e.1 0, k, ma_gk e.2.2 - 100)
  | some (.anewarray k, _) => mt_n4.contains (mt_own.getD e.1 0, k, ma_gk e.2.2 - 10)
  | some (.newarray t, _) => (match t with | .int => true | .boolean => true | .char => true | _ => false)
  | _ => false)
theorem ck_nt_ok : mt_nt.all ck_nt = true := by decide +kernel
theorem sd_nt {y pc g : Nat} (h : ma_fn y pc mt_nt = some g) : ck_nt (y, pc, g) = true := List.all_eq_true.mp ck_nt_ok _ (ma_fn_mem h)
/-- of the groups -/
def ck_g (g : Nat) : Bool := bif Nat.ble 200 (ma_gk g) then Nat.beq g 2 else bif Nat.ble 100 (ma_gk g) then Nat.blt (ma_gk g) 110 && Nat.beq (mt_rf.getD (ma_gk g - 100) []).length (ma_gl g) && Nat.ble 5 g else bif Nat.ble 10 (ma_gk g) then Nat.blt (ma_gk g) 20 && Nat.ble 5 g else Nat.ble (ma_gk g) 4
theorem ck_g_ok : (List.range 65).all ck_g = true := by decide +kernel
theorem sd_g (g : Nat) : ck_g g = true := by
  rcases Nat.lt_or_ge g 65 with h | h
  · exact List.all_eq_true.mp ck_g_ok g (List.mem_range.mpr h)
  · have h1 : ma_gk g = 0 := by
      unfold ma_gk
      rw [List.getD_eq_getElem?_getD, List.getElem?_eq_none (by show mt_gk.length ≤ g; exact h)]
      rfl
    unfold ck_g
    rw [h1]
    rfl
/-- of the fields -/
def ck_f (c : Nat) : Bool := match ma_cls[c]? with
  | some q => Nat.beq (mt_rf.getD c []).length q.2.2 && (List.range q.2.2).all fun k => decide (ma_rf c k = true → defaultValue ((ma_tys.getD c tyX0) k) = .null) && decide (ma_rf c k = false → defaultValue ((ma_tys.getD c tyX0) k) = .int 0) && decide (ma_ff c k = (q.2.1 k).2.2.2) && (bif ma_rf c k then ((ma_tys.getD c tyX0) k).isReference else bif ma_bf c k then decide ((ma_tys.getD c tyX0) k = .boolean) else decide ((ma_tys.getD c tyX0) k = .int))
  | none => false
theorem ck_f_ok : (List.range 10).all ck_f = true := by decide +kernel
set_option maxRecDepth 100000 in
theorem ck_cn : (List.range 10).map (fun c => some (mt_cn.getD c "")) = (List.range 10).map (fun c => ma_cls[c]?.map (fun q => q.1)) := by rfl
set_option maxRecDepth 100000 in
theorem ck_fo_0 : (List.range 8).map (fun k => (TX0 k).1) = (List.range 8).map (fun _ => RX0) := by rfl
set_option maxRecDepth 100000 in
theorem ck_fo_1 : (List.range 6).map (fun k => (TX1 k).1) = (List.range 6).map (fun _ => RX1) := by rfl
set_option maxRecDepth 100000 in
theorem ck_fo_2 : (List.range 13).map (fun k => (TX2 k).1) = (List.range 13).map (fun _ => RX2) := by rfl
set_option maxRecDepth 100000 in
theorem ck_fo_3 : (List.range 2).map (fun k => (TX3 k).1) = (List.range 2).map (fun _ => RX3) := by rfl
set_option maxRecDepth 100000 in
theorem ck_fo_4 : (List.range 3).map (fun k => (TX4 k).1) = (List.range 3).map (fun _ => RX4) := by rfl
set_option maxRecDepth 100000 in
theorem ck_fo_5 : (List.range 6).map (fun k => (TX5 k).1) = (List.range 6).map (fun _ => RX5) := by rfl
set_option maxRecDepth 100000 in
theorem ck_fo_6 : (List.range 4).map (fun k => (TX6 k).1) = (List.range 4).map (fun _ => RX6) := by rfl
set_option maxRecDepth 100000 in
theorem ck_fo_7 : (List.range 9).map (fun k => (TX7 k).1) = (List.range 9).map (fun _ => RX7) := by rfl
set_option maxRecDepth 100000 in
theorem ck_fo_8 : (List.range 6).map (fun k => (TX8 k).1) = (List.range 6).map (fun _ => RX8) := by rfl
set_option maxRecDepth 100000 in
theorem ck_fo_9 : (List.range 48).map (fun k => (TX9 k).1) = (List.range 48).map (fun _ => RX9) := by rfl
set_option maxRecDepth 100000 in
theorem ck_oi1 : mt_w 88 = some (.instanceMethod Lib.objectInit) := by rfl
set_option maxRecDepth 100000 in
theorem ck_oi2 : mt_w 89 = some (.code Lib.objectInit ⟨#[0xb1]⟩ 1 none) := by rfl
set_option maxRecDepth 100000 in
theorem ck_ac1 : mt_w 846 = some (.native arraycopyName) := by rfl
set_option maxRecDepth 100000 in
theorem ck_ac2 : mt_w 845 = some (.static arraycopyName) := by rfl
set_option maxRecDepth 100000 in
theorem ck_ac3 : mt_w 81 = some (.initialized "java/lang/System") := by rfl
set_option maxRecDepth 100000 in
theorem ck_mx1 : mt_w 704 = some (.static Lib.Math.max.name) := by rfl
set_option maxRecDepth 100000 in
theorem ck_mx2 : mt_w 705 = some (.code Lib.Math.max.name Lib.Math.max.code 2 (some .int)) := by rfl
set_option maxRecDepth 100000 in
theorem ck_mi1 : mt_w 711 = some (.static Lib.Math.min.name) := by rfl
set_option maxRecDepth 100000 in
theorem ck_mi2 : mt_w 712 = some (.code Lib.Math.min.name Lib.Math.min.code 2 (some .int)) := by rfl
set_option maxRecDepth 100000 in
theorem ck_mx3 : mt_w 80 = some (.initialized "java/lang/Math") := by rfl
set_option maxRecDepth 100000 in
theorem ck_gs1 : mt_w 356 = some (.fieldLink "java/lang/String" 38 "java/lang/String" "COMPACT_STRINGS" "Z") := by rfl
set_option maxRecDepth 100000 in
theorem ck_gs2 : mt_w 372 = some (.fieldLink "java/lang/String" 1053 "jdk/internal/util/Preconditions" "SIOOBE_FORMATTER" "Ljava/util/function/BiFunction;") := by rfl

/-! ===== the tables are the words of the claim: by program ===== -/
theorem ck_all {α β : Type} {ps : List Nat} {es : List α} {f : Nat → Option β} {w : α → β} (h : ps.map f = es.map (fun e => some (w e))) : ∀ e ∈ es, ∃ p, f p = some (w e) := by
  intro e he
  have h1 : some (w e) ∈ es.map (fun e => some (w e)) := List.mem_map.mpr ⟨e, he, rfl⟩
  rw [← h] at h1
  obtain ⟨p, -, hp⟩ := List.mem_map.mp h1
  exact ⟨p, hp⟩
/-- the words by place -/
def mt_w (p : Nat) : Option Cond := ([k2_sels lw_privs, tables_1_1, tables_1_2, tables_1_3, tables_1_4, tables_1_5, tables_1_6].getD (p / 1000) [])[p % 1000]?
theorem mt_w_mem {p : Nat} {w : Cond} (h : mt_w p = some w) : w ∈ lw_tbl := by
  have h1 := List.mem_of_getElem? h
  have h2 : ∀ k : Nat, w ∈ [k2_sels lw_privs, tables_1_1, tables_1_2, tables_1_3, tables_1_4, tables_1_5, tables_1_6].getD k [] → w ∈ lw_tbl := by
    intro k hk
    unfold lw_tbl tables_1
    simp only [List.mem_append]
    match k, hk with
    | 0, hk => exact Or.inl hk
    | 1, hk => exact Or.inr (Or.inl hk)
    | 2, hk => exact Or.inr (Or.inr (Or.inl hk))
    | 3, hk => exact Or.inr (Or.inr (Or.inr (Or.inl hk)))
    | 4, hk => exact Or.inr (Or.inr (Or.inr (Or.inr (Or.inl hk))))
    | 5, hk => exact Or.inr (Or.inr (Or.inr (Or.inr (Or.inr (Or.inl hk)))))
    | 6, hk => exact Or.inr (Or.inr (Or.inr (Or.inr (Or.inr (Or.inr hk)))))
    | k + 7, hk => exact absurd hk (by simp)
  exact h2 _ h1
def mt_mn (y : Nat) : MethodName := mt_y.getD y ⟨"", "", ""⟩
def mt_cd (y : Nat) : ByteArray := mt_code.getD y ⟨#[]⟩
set_option maxRecDepth 100000 in
theorem ck_lay_0 : ([1161, 1163, 1165, 1167, 1169, 1171, 1173, 1175] : List Nat).map mt_w = (List.range 8).map (fun k => some (u_lay RX0 TX0 k)) := by rfl
set_option maxRecDepth 100000 in
theorem ck_lay_1 : ([1055, 1057, 1059, 1061, 1063, 1065] : List Nat).map mt_w = (List.range 6).map (fun k => some (u_lay RX1 TX1 k)) := by rfl
set_option maxRecDepth 100000 in
theorem ck_lay_2 : ([1117, 1119, 1121, 1123, 1125, 1127, 1129, 1131, 1133, 1135, 1137, 1139, 1141] : List Nat).map mt_w = (List.range 13).map (fun k => some (u_lay RX2 TX2 k)) := by rfl
set_option maxRecDepth 100000 in
theorem ck_lay_3 : ([1215, 1217] : List Nat).map mt_w = (List.range 2).map (fun k => some (u_lay RX3 TX3 k)) := by rfl
set_option maxRecDepth 100000 in
theorem ck_lay_4 : ([2036, 2038, 2040] : List Nat).map mt_w = (List.range 3).map (fun k => some (u_lay RX4 TX4 k)) := by rfl
set_option maxRecDepth 100000 in
theorem ck_lay_5 : ([1194, 1196, 1198, 1200, 1202, 1204] : List Nat).map mt_w = (List.range 6).map (fun k => some (u_lay RX5 TX5 k)) := by rfl
set_option maxRecDepth 100000 in
theorem ck_lay_6 : ([1078, 1080, 1082, 1084] : List Nat).map mt_w = (List.range 4).map (fun k => some (u_lay RX6 TX6 k)) := by rfl
set_option maxRecDepth 100000 in
theorem ck_lay_7 : ([2002, 2004, 2006, 2008, 2010, 2012, 2014, 2016, 2018] : List Nat).map mt_w = (List.range 9).map (fun k => some (u_lay RX7 TX7 k)) := by rfl
set_option maxRecDepth 100000 in
theorem ck_lay_8 : ([2186, 2188, 2190, 2192, 2194, 2196] : List Nat).map mt_w = (List.range 6).map (fun k => some (u_lay RX8 TX8 k)) := by rfl
set_option maxRecDepth 100000 in
theorem ck_lay_9 : ([5069, 5071, 5073, 5075, 5077, 5079, 5081, 5083, 5085, 5087, 5089, 5091, 5093, 5095, 5097, 5099, 5101, 5103, 5105, 5107, 5109, 5111, 5113, 5115, 5117, 5119, 5121, 5123, 5125, 5127, 5129, 5131, 5133, 5135, 5137, 5139, 5141, 5143, 5145, 5147, 5149, 5151, 5153, 5155, 5157, 5159, 5161, 5163] : List Nat).map mt_w = (List.range 48).map (fun k => some (u_lay RX9 TX9 k)) := by rfl
theorem sd_lay : ∀ {c : Nat} {q : vw_C}, ma_cls[c]? = some q → ∀ w ∈ u_ws q.1 q.2.1 q.2.2, w ∈ lw_tbl := by
  intro c q h w hw
  have hc : c < 10 := (List.getElem?_eq_some_iff.mp h).1
  obtain ⟨k, hk, rfl⟩ := List.mem_map.mp hw
  rcases (show c = 0 ∨ c = 1 ∨ c = 2 ∨ c = 3 ∨ c = 4 ∨ c = 5 ∨ c = 6 ∨ c = 7 ∨ c = 8 ∨ c = 9 by omega) with rfl | rfl | rfl | rfl | rfl | rfl | rfl | rfl | rfl | rfl
  · cases h; obtain ⟨p, hp⟩ := ck_all ck_lay_0 k hk; exact mt_w_mem hp
  · cases h; obtain ⟨p, hp⟩ := ck_all ck_lay_1 k hk; exact mt_w_mem hp
  · cases h; obtain ⟨p, hp⟩ := ck_all ck_lay_2 k hk; exact mt_w_mem hp
  · cases h; obtain ⟨p, hp⟩ := ck_all ck_lay_3 k hk; exact mt_w_mem hp
  · cases h; obtain ⟨p, hp⟩ := ck_all ck_lay_4 k hk; exact mt_w_mem hp
  · cases h; obtain ⟨p, hp⟩ := ck_all ck_lay_5 k hk; exact mt_w_mem hp
  · cases h; obtain ⟨p, hp⟩ := ck_all ck_lay_6 k hk; exact mt_w_mem hp
  · cases h; obtain ⟨p, hp⟩ := ck_all ck_lay_7 k hk; exact mt_w_mem hp
  · cases h; obtain ⟨p, hp⟩ := ck_all ck_lay_8 k hk; exact mt_w_mem hp
  · cases h; obtain ⟨p, hp⟩ := ck_all ck_lay_9 k hk; exact mt_w_mem hp
theorem ma_f4_mem {k : Nat} : ∀ {l : List (Nat × Nat × Nat × Nat)} {q : Nat × Nat × Nat}, ma_f4 k l = some q → (k, q) ∈ l
  | [], _, h => by cases h
  | e :: r, q, h => by
    unfold ma_f4 at h
    cases hb : Nat.beq e.1 k with
    | true =>
      rw [hb] at h
      cases h
      have := Nat.eq_of_beq_eq_true hb
      subst this
      exact List.mem_cons_self
    | false =>
      rw [hb] at h
      exact List.mem_cons_of_mem _ (ma_f4_mem h)
theorem ma_fk_mem {α : Type} {k : Nat} : ∀ {l : List (Nat × α × Nat)} {q : α × Nat}, ma_fk k l = some q → (k, q) ∈ l
  | [], _, h => by cases h
  | e :: r, q, h => by
    unfold ma_fk at h
    cases hb : Nat.beq e.1 k with
    | true =>
      rw [hb] at h
      cases h
      have := Nat.eq_of_beq_eq_true hb
      subst this
      exact List.mem_cons_self
    | false =>
      rw [hb] at h
      exact List.mem_cons_of_mem _ (ma_fk_mem h)
theorem ma_fn_mem {y pc : Nat} : ∀ {l : List (Nat × Nat × Nat)} {g : Nat}, ma_fn y pc l = some g → (y, pc, g) ∈ l
  | [], _, h => by cases h
  | e :: r, q, h => by
    unfold ma_fn at h
    cases hb : (Nat.beq e.1 y && Nat.beq e.2.1 pc) with
    | true =>
      rw [hb] at h
      cases h
      rw [Bool.and_eq_true] at hb
      have h1 := Nat.eq_of_beq_eq_true hb.1
      have h2 := Nat.eq_of_beq_eq_true hb.2
      subst h1
      subst h2
      exact List.mem_cons_self
    | false =>
      rw [hb] at h
      exact List.mem_cons_of_mem _ (ma_fn_mem h)
theorem ma_find_mem {pc : Nat} : ∀ {l : List (Nat × Instr × Nat)} {q : Instr × Nat}, ma_find pc l = some q → (pc, q) ∈ l
  | [], _, h => by cases h
  | e :: r, q, h => by
    unfold ma_find at h
    cases hb : Nat.beq e.1 pc with
    | true =>
      rw [hb] at h
      cases h
      have := Nat.eq_of_beq_eq_true hb
      subst this
      exact List.mem_cons_self
    | false =>
      rw [hb] at h
      exact List.mem_cons_of_mem _ (ma_find_mem h)
theorem mt_getD_lt {α : Type} {l : List (List α)} {k : Nat} {x : α} (h : x ∈ l.getD k []) : k < l.length := by
  rcases Nat.lt_or_ge k l.length with q | q
  · exact q
  · rw [List.getD_eq_getElem?_getD, List.getElem?_eq_none q] at h
    cases h

/-- a field's link word -/
def mt_fw (own : Nat) (e : Nat × Nat × Nat × Nat) : Cond := bif Nat.beq e.2.1 13 then (bif Nat.beq e.2.2.1 0 then .fieldLink (mt_cn.getD own "") e.1 "java/lang/String" "value" "[B" else .fieldLink (mt_cn.getD own "") e.1 "java/lang/String" "coder" "B") else match ma_cls[e.2.1]? with | some q => .fieldLink (mt_cn.getD own "") e.1 (q.2.1 e.2.2.1).1 (q.2.1 e.2.2.1).2.1 (q.2.1 e.2.2.1).2.2.1 | none => .returned
set_option maxRecDepth 100000 in
theorem ck_fw_0 : ([1157, 1158, 1160, 1152, 1088, 1154, 1110, 1155, 1093, 1156, 1095, 1098, 1100, 1159, 1104] : List Nat).map mt_w = (mt_ft.getD 0 []).map (fun e => some (mt_fw 0 e)) := by rfl
set_option maxRecDepth 100000 in
theorem ck_fw_1 : ([1041, 1044, 1047, 1049, 1051, 1053] : List Nat).map mt_w = (mt_ft.getD 1 []).map (fun e => some (mt_fw 1 e)) := by rfl
set_option maxRecDepth 100000 in
theorem ck_fw_2 : ([1087, 1094, 1097, 1103, 1108, 1113, 1114, 1115, 1116, 1091, 1101, 1048, 1042, 1045, 1111, 1052, 1054] : List Nat).map mt_w = (mt_ft.getD 2 []).map (fun e => some (mt_fw 2 e)) := by rfl
set_option maxRecDepth 100000 in
theorem ck_fw_3 : ([1213, 1214, 1186, 1188, 1191] : List Nat).map mt_w = (mt_ft.getD 3 []).map (fun e => some (mt_fw 3 e)) := by rfl
set_option maxRecDepth 100000 in
theorem ck_fw_4 : ([2028, 2033, 2030] : List Nat).map mt_w = (mt_ft.getD 4 []).map (fun e => some (mt_fw 4 e)) := by rfl
set_option maxRecDepth 100000 in
theorem ck_fw_5 : ([1193, 1185, 1192, 1189, 1187, 1190] : List Nat).map mt_w = (mt_ft.getD 5 []).map (fun e => some (mt_fw 5 e)) := by rfl
set_option maxRecDepth 100000 in
theorem ck_fw_6 : ([1075, 1076, 1077, 1074] : List Nat).map mt_w = (mt_ft.getD 6 []).map (fun e => some (mt_fw 6 e)) := by rfl
set_option maxRecDepth 100000 in
theorem ck_fw_7 : ([2001, 1226, 1228, 2000, 1230, 1232, 1236, 1238, 1234, 1089, 1105, 1050, 2031, 2034] : List Nat).map mt_w = (mt_ft.getD 7 []).map (fun e => some (mt_fw 7 e)) := by rfl
set_option maxRecDepth 100000 in
theorem ck_fw_8 : ([2180, 2181, 2182, 2183, 2184, 2185, 1109, 1184, 1107, 1092, 1096, 1099, 1102, 1106, 1090, 1112, 1227, 1229, 1231, 1233, 1239, 2029, 2035, 1237, 1043, 1235, 2032, 1153, 1046] : List Nat).map mt_w = (mt_ft.getD 8 []).map (fun e => some (mt_fw 8 e)) := by rfl
set_option maxRecDepth 100000 in
theorem ck_fw_9 : ([5025, 5022, 5023, 5024, 5026, 5027, 5028, 5029, 5030, 5031, 5021, 5033, 5032, 5038, 5039, 5043, 5041, 5042, 5040, 5036, 5049, 5050, 5045, 5044, 5046, 5048, 5047, 5037, 5034, 5035, 5051, 5052, 5053, 5059, 5064, 5065, 5066, 5067, 5068, 5054, 5055, 5056, 5057, 5058, 5060, 5061, 5062, 5063] : List Nat).map mt_w = (mt_ft.getD 9 []).map (fun e => some (mt_fw 9 e)) := by rfl
set_option maxRecDepth 100000 in
theorem ck_fw_10 : ([] : List Nat).map mt_w = (mt_ft.getD 10 []).map (fun e => some (mt_fw 10 e)) := by rfl
set_option maxRecDepth 100000 in
theorem ck_fw_11 : ([] : List Nat).map mt_w = (mt_ft.getD 11 []).map (fun e => some (mt_fw 11 e)) := by rfl
set_option maxRecDepth 100000 in
theorem ck_fw_12 : ([] : List Nat).map mt_w = (mt_ft.getD 12 []).map (fun e => some (mt_fw 12 e)) := by rfl
set_option maxRecDepth 100000 in
theorem ck_fw_13 : ([6035, 6036] : List Nat).map mt_w = (mt_ft.getD 13 []).map (fun e => some (mt_fw 13 e)) := by rfl
set_option maxRecDepth 100000 in
theorem ck_fw_14 : ([] : List Nat).map mt_w = (mt_ft.getD 14 []).map (fun e => some (mt_fw 14 e)) := by rfl
set_option maxRecDepth 100000 in
theorem ck_fw_15 : ([] : List Nat).map mt_w = (mt_ft.getD 15 []).map (fun e => some (mt_fw 15 e)) := by rfl
theorem sd_ft {own idx : Nat} {e : Nat × Nat × Nat} (h : ma_f4 idx (mt_ft.getD own []) = some e) : mt_fw own (idx, e) ∈ lw_tbl := by
  have h1 := ma_f4_mem h
  have h2 : own < 16 := mt_getD_lt h1
  rcases (show own = 0 ∨ own = 1 ∨ own = 2 ∨ own = 3 ∨ own = 4 ∨ own = 5 ∨ own = 6 ∨ own = 7 ∨ own = 8 ∨ own = 9 ∨ own = 10 ∨ own = 11 ∨ own = 12 ∨ own = 13 ∨ own = 14 ∨ own = 15 by omega) with rfl | rfl | rfl | rfl | rfl | rfl | rfl | rfl | rfl | rfl | rfl | rfl | rfl | rfl | rfl | rfl
  · obtain ⟨p, hp⟩ := ck_all ck_fw_0 _ h1; exact mt_w_mem hp
  · obtain ⟨p, hp⟩ := ck_all ck_fw_1 _ h1; exact mt_w_mem hp
  · obtain ⟨p, hp⟩ := ck_all ck_fw_2 _ h1; exact mt_w_mem hp
  · obtain ⟨p, hp⟩ := ck_all ck_fw_3 _ h1; exact mt_w_mem hp
  · obtain ⟨p, hp⟩ := ck_all ck_fw_4 _ h1; exact mt_w_mem hp
  · obtain ⟨p, hp⟩ := ck_all ck_fw_5 _ h1; exact mt_w_mem hp
  · obtain ⟨p, hp⟩ := ck_all ck_fw_6 _ h1; exact mt_w_mem hp
  · obtain ⟨p, hp⟩ := ck_all ck_fw_7 _ h1; exact mt_w_mem hp
  · obtain ⟨p, hp⟩ := ck_all ck_fw_8 _ h1; exact mt_w_mem hp
  · obtain ⟨p, hp⟩ := ck_all ck_fw_9 _ h1; exact mt_w_mem hp
  · obtain ⟨p, hp⟩ := ck_all ck_fw_10 _ h1; exact mt_w_mem hp
  · obtain ⟨p, hp⟩ := ck_all ck_fw_11 _ h1; exact mt_w_mem hp
  · obtain ⟨p, hp⟩ := ck_all ck_fw_12 _ h1; exact mt_w_mem hp
  · obtain ⟨p, hp⟩ := ck_all ck_fw_13 _ h1; exact mt_w_mem hp
  · obtain ⟨p, hp⟩ := ck_all ck_fw_14 _ h1; exact mt_w_mem hp
  · obtain ⟨p, hp⟩ := ck_all ck_fw_15 _ h1; exact mt_w_mem hp
def ck_fj (e : Nat × Nat × Nat × Nat) : Bool := Nat.beq e.2.1 13 || (match ma_cls[e.2.1]? with | some q => Nat.blt e.2.2.1 q.2.2 | none => false)
theorem ck_fj_ok : (List.range 16).all (fun own => (mt_ft.getD own []).all ck_fj) = true := by decide +kernel
theorem sd_fj {own idx : Nat} {e : Nat × Nat × Nat} (h : ma_f4 idx (mt_ft.getD own []) = some e) : ck_fj (idx, e) = true := by
  have h1 := ma_f4_mem h
  exact List.all_eq_true.mp (List.all_eq_true.mp ck_fj_ok own (List.mem_range.mpr (mt_getD_lt h1))) _ h1
/-- a call's link word -/
def mt_cw (own : Nat) (e : Nat × Nat × Nat × Nat) : Cond := bif Nat.beq e.2.2.1 6 then .methodLink (mt_cn.getD own "") e.1 Lib.objectInit else bif Nat.beq e.2.2.1 7 then .methodLink (mt_cn.getD own "") e.1 arraycopyName else bif Nat.beq e.2.2.1 8 then .methodLink (mt_cn.getD own "") e.1 Lib.Math.max.name else bif Nat.beq e.2.2.1 9 then .methodLink (mt_cn.getD own "") e.1 Lib.Math.min.name else bif Nat.beq (e.2.2.1 % 2) 0 then .methodLink (mt_cn.getD own "") e.1 (mt_mn e.2.1) else .methodLinkNest (mt_cn.getD own "") e.1 (mt_mn e.2.1) "ThreeAddresses"
set_option maxRecDepth 100000 in
theorem ck_cw_0 : ([1149, 1151, 4054, 4057, 4070, 4071, 4072] : List Nat).map mt_w = (mt_ct.getD 0 []).map (fun e => some (mt_cw 0 e)) := by rfl
set_option maxRecDepth 100000 in
theorem ck_cw_1 : ([1040, 4061, 2235, 3020, 2236] : List Nat).map mt_w = (mt_ct.getD 1 []).map (fun e => some (mt_cw 1 e)) := by rfl
set_option maxRecDepth 100000 in
theorem ck_cw_2 : ([1031, 1037, 1070, 2231, 4015, 4016, 3114, 3053, 3057, 3061, 3069, 3193] : List Nat).map mt_w = (mt_ct.getD 2 []).map (fun e => some (mt_cw 2 e)) := by rfl
set_option maxRecDepth 100000 in
theorem ck_cw_3 : ([1212, 2100, 2104, 2147, 2148, 2176, 2152, 2160, 2156, 2164, 2168, 2172] : List Nat).map mt_w = (mt_ct.getD 3 []).map (fun e => some (mt_cw 3 e)) := by rfl
set_option maxRecDepth 100000 in
theorem ck_cw_4 : ([2027, 3221, 3222] : List Nat).map mt_w = (mt_ct.getD 4 []).map (fun e => some (mt_cw 4 e)) := by rfl
set_option maxRecDepth 100000 in
theorem ck_cw_5 : ([1183, 2108, 2112, 2115, 2140, 2144, 2119, 2134, 2138, 2139] : List Nat).map mt_w = (mt_ct.getD 5 []).map (fun e => some (mt_cw 5 e)) := by rfl
set_option maxRecDepth 100000 in
theorem ck_cw_6 : ([1073] : List Nat).map mt_w = (mt_ct.getD 6 []).map (fun e => some (mt_cw 6 e)) := by rfl
set_option maxRecDepth 100000 in
theorem ck_cw_7 : ([1225, 3101, 3102, 3106, 3110, 3120, 3124, 3125, 3134] : List Nat).map mt_w = (mt_ct.getD 7 []).map (fun e => some (mt_cw 7 e)) := by rfl
set_option maxRecDepth 100000 in
theorem ck_cw_8 : ([1023, 1028, 1146, 1180, 1209, 1222, 2024, 2044, 2054, 2092, 2096, 2204, 2208, 2211, 2219, 2207, 2223, 2227, 3004, 3012, 3016, 3021, 3025, 3029, 3008, 3041, 3049, 3064, 3065, 3089, 3129, 3130, 3093, 3139, 3143, 3147, 3155, 3162, 3169, 3097, 3151, 3159, 3166, 3177, 3185, 3194, 3181, 3189, 3202, 3214, 3217, 3223, 3235, 3239, 4003, 4007, 3231, 3227, 4011, 4021, 4025, 4033, 4043, 4050, 4066, 4089, 4093, 4102] : List Nat).map mt_w = (mt_ct.getD 8 []).map (fun e => some (mt_cw 8 e)) := by rfl
set_option maxRecDepth 100000 in
theorem ck_cw_9 : ([4112, 4109, 4115, 4122, 4131, 4139, 4140, 4148, 4164, 4156, 4160, 4177, 4197, 4205, 4201, 4209, 4229, 4221, 4232, 4213, 4225, 5000, 4236, 5004, 5008, 4193, 4217, 4189, 5020, 4168, 4171, 4174, 5172, 5176, 5188, 5192, 5208, 5211, 5219, 5227, 5237, 6004, 6030] : List Nat).map mt_w = (mt_ct.getD 9 []).map (fun e => some (mt_cw 9 e)) := by rfl
set_option maxRecDepth 100000 in
theorem ck_cw_10 : ([1020, 5017, 2200, 4105, 2215, 4118, 3000, 4135, 3033, 4127, 3037, 4144, 3045, 4152, 3073, 4181, 3077, 4185, 3081, 5012, 3085, 5168, 3135, 5180, 3173, 5184, 3198, 5196, 3206, 5200, 3210, 5204, 4017, 5215, 4029, 5223, 4038, 5232, 4046, 6000, 4062, 6007, 4073, 6011, 4077, 6015, 4081, 6016, 4085, 6020, 4094, 6024, 4098, 6031] : List Nat).map mt_w = (mt_ct.getD 10 []).map (fun e => some (mt_cw 10 e)) := by rfl
set_option maxRecDepth 100000 in
theorem ck_cw_11 : ([] : List Nat).map mt_w = (mt_ct.getD 11 []).map (fun e => some (mt_cw 11 e)) := by rfl
set_option maxRecDepth 100000 in
theorem ck_cw_12 : ([] : List Nat).map mt_w = (mt_ct.getD 12 []).map (fun e => some (mt_cw 12 e)) := by rfl
set_option maxRecDepth 100000 in
theorem ck_cw_13 : ([2048, 2058, 2062, 2070] : List Nat).map mt_w = (mt_ct.getD 13 []).map (fun e => some (mt_cw 13 e)) := by rfl
set_option maxRecDepth 100000 in
theorem ck_cw_14 : ([2065] : List Nat).map mt_w = (mt_ct.getD 14 []).map (fun e => some (mt_cw 14 e)) := by rfl
set_option maxRecDepth 100000 in
theorem ck_cw_15 : ([] : List Nat).map mt_w = (mt_ct.getD 15 []).map (fun e => some (mt_cw 15 e)) := by rfl
theorem sd_ct {own idx : Nat} {e : Nat × Nat × Nat} (h : ma_f4 idx (mt_ct.getD own []) = some e) : mt_cw own (idx, e) ∈ lw_tbl := by
  have h1 := ma_f4_mem h
  have h2 : own < 16 := mt_getD_lt h1
  rcases (show own = 0 ∨ own = 1 ∨ own = 2 ∨ own = 3 ∨ own = 4 ∨ own = 5 ∨ own = 6 ∨ own = 7 ∨ own = 8 ∨ own = 9 ∨ own = 10 ∨ own = 11 ∨ own = 12 ∨ own = 13 ∨ own = 14 ∨ own = 15 by omega) with rfl | rfl | rfl | rfl | rfl | rfl | rfl | rfl | rfl | rfl | rfl | rfl | rfl | rfl | rfl | rfl
  · obtain ⟨p, hp⟩ := ck_all ck_cw_0 _ h1; exact mt_w_mem hp
  · obtain ⟨p, hp⟩ := ck_all ck_cw_1 _ h1; exact mt_w_mem hp
  · obtain ⟨p, hp⟩ := ck_all ck_cw_2 _ h1; exact mt_w_mem hp
  · obtain ⟨p, hp⟩ := ck_all ck_cw_3 _ h1; exact mt_w_mem hp
  · obtain ⟨p, hp⟩ := ck_all ck_cw_4 _ h1; exact mt_w_mem hp
  · obtain ⟨p, hp⟩ := ck_all ck_cw_5 _ h1; exact mt_w_mem hp
  · obtain ⟨p, hp⟩ := ck_all ck_cw_6 _ h1; exact mt_w_mem hp
  · obtain ⟨p, hp⟩ := ck_all ck_cw_7 _ h1; exact mt_w_mem hp
  · obtain ⟨p, hp⟩ := ck_all ck_cw_8 _ h1; exact mt_w_mem hp
  · obtain ⟨p, hp⟩ := ck_all ck_cw_9 _ h1; exact mt_w_mem hp
  · obtain ⟨p, hp⟩ := ck_all ck_cw_10 _ h1; exact mt_w_mem hp
  · obtain ⟨p, hp⟩ := ck_all ck_cw_11 _ h1; exact mt_w_mem hp
  · obtain ⟨p, hp⟩ := ck_all ck_cw_12 _ h1; exact mt_w_mem hp
  · obtain ⟨p, hp⟩ := ck_all ck_cw_13 _ h1; exact mt_w_mem hp
  · obtain ⟨p, hp⟩ := ck_all ck_cw_14 _ h1; exact mt_w_mem hp
  · obtain ⟨p, hp⟩ := ck_all ck_cw_15 _ h1; exact mt_w_mem hp
set_option maxRecDepth 100000 in
theorem ck_code : ([1148, 4053, 4069, 1039, 2226, 4060, 3024, 3019, 3032, 2234, 2239, 3072, 1030, 2214, 3044, 3096, 2230, 3028, 4014, 3109, 3113, 3068, 3052, 3154, 3056, 3063, 3192, 3197, 3197, 1211, 2099, 2151, 2155, 2159, 2167, 2171, 2175, 2026, 4024, 4028, 4092, 3220, 1182, 2095, 2107, 2111, 2118, 2143, 2137, 2146, 2121, 1072, 2103, 2163, 2179, 3060, 1224, 3100, 3105, 3128, 3123, 3133, 3234, 1022, 2203, 2218, 2222, 3003, 3007, 3036, 3040, 3048, 3076, 3080, 3084, 3088, 3138, 3092, 3142, 3146, 3150, 3158, 3165, 3172, 3176, 3180, 3188, 3184, 3201, 3205, 3209, 3213, 3230, 3226, 3238, 4002, 4006, 4010, 4020, 4032, 4036, 4041, 4045, 4049, 4065, 4076, 4080, 4084, 4088, 4097, 4101, 4104, 2114, 2210, 2206, 3216, 3015, 3011, 4114, 4173, 4176, 4117, 4111, 4134, 4108, 4126, 4121, 4130, 4143, 4138, 4151, 4147, 4159, 4163, 4180, 4155, 4184, 4200, 4208, 4204, 4212, 4196, 4235, 4216, 4224, 4231, 4228, 5003, 5007, 5011, 4239, 4220, 4192, 4188, 5015, 5019, 4170, 4167, 5179, 5175, 5171, 5191, 5183, 5195, 5187, 5199, 5203, 5214, 5207, 5218, 5230, 5226, 5239, 5235, 6006, 6003, 6010, 6014, 5210, 5222, 6019, 6023, 6027, 6034, 3116, 2047, 2057, 2051, 2061, 2067, 2064, 2072] : List Nat).map mt_w = (List.range 192).map (fun y => some (Cond.code (mt_mn y) (mt_cd y) (mt_ml.getD y 0) (mt_ret.getD y none))) := by rfl
set_option maxRecDepth 100000 in
theorem ck_init : ([1005, 1005, 1005, 1003, 1003, 1003, 1003, 1003, 1003, 1003, 1003, 1003, 1002, 1002, 1002, 1002, 1002, 1002, 1002, 1002, 1002, 1002, 1002, 1002, 1002, 1002, 1002, 1002, 1002, 1007, 1007, 1007, 1007, 1007, 1007, 1007, 1007, 1009, 1009, 1009, 1009, 1009, 1006, 1006, 1006, 1006, 1006, 1006, 1006, 1006, 1006, 1004, 1004, 1004, 1004, 1004, 1008, 1008, 1008, 1008, 1008, 1008, 1008, 1001, 1001, 1001, 1001, 1001, 1001, 1001, 1001, 1001, 1001, 1001, 1001, 1001, 1001, 1001, 1001, 1001, 1001, 1001, 1001, 1001, 1001, 1001, 1001, 1001, 1001, 1001, 1001, 1001, 1001, 1001, 1001, 1001, 1001, 1001, 1001, 1001, 1001, 1001, 1001, 1001, 1001, 1001, 1001, 1001, 1001, 1001, 1001, 1001, 1001, 1001, 1001, 1001, 1001, 1001, 1014, 1014, 1014, 1014, 1014, 1014, 1014, 1014, 1014, 1014, 1014, 1014, 1014, 1014, 1014, 1014, 1014, 1014, 1014, 1014, 1014, 1014, 1014, 1014, 1014, 1014, 1014, 1014, 1014, 1014, 1014, 1014, 1014, 1014, 1014, 1014, 1014, 1014, 1014, 1014, 1014, 1014, 1014, 1014, 1014, 1014, 1014, 1014, 1014, 1014, 1014, 1014, 1014, 1014, 1014, 1014, 1014, 1014, 1014, 1014, 1014, 1014, 1014, 1014, 1014, 1014, 1015, 1010, 1010, 1010, 1010, 1010, 1011, 1012] : List Nat).map mt_w = (List.range 192).map (fun y => some (Cond.initialized (mt_mn y).cls)) := by rfl
/-- static ones -/
def mt_sta : List Bool := [false, false, false, false, false, false, false, false, false, false, false, false, false, false, false, false, false, false, false, false, false, false, false, false, false, true, false, false, false, false, false, false, false, false, false, false, false, false, false, false, false, false, false, false, false, false, false, false, false, true, true, false, false, false, false, false, false, false, false, false, false, false, false, false, false, false, false, false, false, false, false, false, false, false, false, false, false, false, false, false, false, false, false, false, false, false, false, false, false, false, false, false, false, false, false, false, false, false, false, false, false, false, true, false, false, false, false, false, false, false, false, true, true, true, true, true, false, false, true, true, true, true, true, false, false, false, false, false, false, false, false, false, false, false, false, false, false, false, false, false, false, false, false, false, false, true, false, false, false, false, false, false, false, false, false, false, true, false, false, false, false, false, false, false, false, false, false, false, false, false, false, false, true, false, true, false, false, false, true, false, false, false, false, false, true, false, false, false, false, true, true, true, true]
set_option maxRecDepth 100000 in
theorem ck_sta : ([1147, 4051, 4067, 1038, 2224, 4058, 3022, 3017, 3030, 2232, 2238, 3070, 1029, 2212, 3042, 3094, 2228, 3026, 4012, 3107, 3111, 3066, 3050, 3152, 3055, 3062, 3190, 3195, 3195, 1210, 2097, 2150, 2154, 2158, 2166, 2170, 2174, 2025, 4022, 4026, 4090, 3218, 1181, 2093, 2105, 2109, 2117, 2142, 2136, 2145, 2120, 1071, 2101, 2161, 2177, 3058, 1223, 3098, 3104, 3127, 3121, 3131, 3232, 1021, 2201, 2216, 2221, 3001, 3006, 3034, 3038, 3046, 3074, 3078, 3082, 3086, 3136, 3091, 3141, 3145, 3149, 3157, 3164, 3171, 3174, 3179, 3187, 3183, 3199, 3204, 3207, 3211, 3229, 3225, 3237, 4001, 4005, 4009, 4018, 4030, 4035, 4039, 4044, 4047, 4063, 4074, 4078, 4082, 4086, 4095, 4099, 4103, 2113, 2209, 2205, 3215, 3014, 3010, 4113, 4172, 4175, 4116, 4110, 4133, 4106, 4124, 4119, 4128, 4142, 4136, 4150, 4145, 4158, 4162, 4179, 4153, 4182, 4199, 4207, 4203, 4211, 4195, 4234, 4215, 4223, 4230, 4227, 5002, 5006, 5010, 4238, 4219, 4191, 4186, 5013, 5018, 4169, 4166, 5178, 5174, 5169, 5190, 5181, 5194, 5185, 5197, 5201, 5213, 5205, 5216, 5229, 5224, 5238, 5233, 6005, 6001, 6008, 6012, 5209, 5220, 6017, 6021, 6025, 6032, 3115, 2045, 2055, 2049, 2059, 2066, 2063, 2071] : List Nat).map mt_w = (List.range 192).map (fun y => some (bif mt_sta.getD y false then Cond.static (mt_mn y) else Cond.instanceMethod (mt_mn y))) := by rfl
def mt_vir : List Nat := [1, 2, 4, 5, 6, 7, 8, 9, 10, 11, 13, 14, 15, 16, 17, 18, 19, 20, 21, 22, 23, 24, 26, 27, 28, 30, 31, 32, 33, 34, 35, 36, 38, 39, 40, 41, 43, 44, 45, 46, 47, 48, 52, 53, 54, 55, 57, 58, 59, 60, 61, 62, 64, 65, 66, 67, 68, 69, 70, 71, 72, 73, 74, 75, 76, 77, 78, 79, 80, 81, 82, 83, 84, 85, 86, 87, 88, 89, 90, 91, 92, 93, 94, 95, 96, 97, 98, 99, 100, 101, 103, 104, 105, 106, 107, 108, 109, 110, 116, 117, 123, 124, 125, 126, 127, 128, 129, 130, 131, 132, 133, 134, 135, 136, 137, 138, 139, 140, 141, 142, 143, 144, 146, 147, 148, 149, 150, 151, 152, 153, 154, 157, 158, 159, 160, 161, 162, 163, 164, 165, 166, 167, 168, 169, 170, 171, 173, 175, 176, 177, 179, 180, 181, 182, 183, 185, 186, 187, 188]
set_option maxRecDepth 100000 in
theorem ck_sel : ([4052, 4068, 2225, 4059, 3023, 3018, 3031, 2233, 10, 3071, 2213, 3043, 3095, 2229, 3027, 4013, 3108, 3112, 3067, 3051, 3153, 14, 3191, 3196, 3196, 2098, 3, 4, 5, 6, 7, 8, 4023, 4027, 4091, 3219, 2094, 2106, 2110, 0, 2, 1, 2102, 2162, 2178, 3059, 3099, 16, 17, 3122, 3132, 3233, 2202, 2217, 9, 3002, 11, 3035, 3039, 3047, 3075, 3079, 3083, 3087, 3137, 15, 18, 19, 20, 21, 22, 23, 3175, 24, 26, 25, 3200, 27, 3208, 3212, 29, 28, 30, 31, 32, 33, 4019, 4031, 34, 4040, 4048, 4064, 4075, 4079, 4083, 4087, 4096, 4100, 13, 12, 36, 4107, 35, 4120, 4129, 37, 4137, 38, 4146, 39, 40, 42, 4154, 4183, 45, 47, 46, 48, 44, 53, 49, 51, 52, 55, 56, 57, 54, 50, 43, 4187, 5014, 41, 59, 58, 5170, 60, 5182, 61, 5186, 5198, 5202, 62, 5206, 5217, 63, 5225, 5234, 6002, 6009, 6013, 5221, 6018, 6022, 6026, 6033, 2046, 2056, 2050, 2060] : List Nat).map mt_w = mt_vir.map (fun y => some (Cond.selects (mt_mn y).cls (mt_mn y) (mt_mn y))) := by rfl
set_option maxRecDepth 100000 in
theorem ck_own : (List.range 193).map (fun y => mt_cn.getD (mt_own.getD y 0) "") = (List.range 193).map (fun y => (mt_mn y).cls) := by rfl
def mt_ctr : List Nat := [0, 3, 12, 29, 37, 42, 51, 56, 63, 155]
set_option maxRecDepth 100000 in
theorem ck_ctr : mt_ctr.map (fun y => (mt_mn y).name) = mt_ctr.map (fun _ => "<init>") := by rfl
theorem ck_ctr2 : (List.range 193).all (fun y => mt_ini.getD y false == mt_ctr.contains y) = true := by decide +kernel
/-- kinds of calls fit the methods -/
def ck_kd (e : Nat × Nat × Nat × Nat) : Bool := Nat.ble 6 e.2.2.1 || (Nat.blt e.2.1 192 && (bif Nat.blt e.2.2.1 2 then mt_sta.getD e.2.1 false else bif Nat.blt e.2.2.1 4 then mt_vir.contains e.2.1 && !(mt_sta.getD e.2.1 false) && !(mt_ini.getD e.2.1 false) else mt_ini.getD e.2.1 false && !(mt_sta.getD e.2.1 false) && (mt_ret.getD e.2.1 none).isNone) && Nat.ble (bif mt_sta.getD e.2.1 false then 0 else 1) (mt_na.getD e.2.1 0))
theorem ck_kd_ok : (List.range 16).all (fun own => (mt_ct.getD own []).all ck_kd) = true := by decide +kernel
theorem sd_kd {own idx : Nat} {e : Nat × Nat × Nat} (h : ma_f4 idx (mt_ct.getD own []) = some e) : ck_kd (idx, e) = true := by
  have h1 := ma_f4_mem h
  exact List.all_eq_true.mp (List.all_eq_true.mp ck_kd_ok own (List.mem_range.mpr (mt_getD_lt h1))) _ h1
def mt_ds : List (String × Nat) := [("()B", 0), ("()I", 0), ("()V", 0), ("()Z", 0), ("(I)C", 1), ("(I)I", 1), ("(I)Ljava/lang/String;", 1), ("(I)V", 1), ("(I)Z", 1), ("(II)I", 2), ("(II)V", 2), ("(II)Z", 2), ("(III)I", 3), ("(III)V", 3), ("(III)Z", 3), ("(IIII)I", 4), ("(IIII)V", 4), ("(IIIII)I", 5), ("(IIIII)J", 5), ("(IIIIII)V", 6), ("(IIIIIII)I", 7), ("(IILjava/util/function/BiFunction;)I", 3), ("(I[I)I", 2), ("(JJ)J", 2), ("(LThreeAddresses$Order;)V", 1), ("(LThreeAddresses$Post;)V", 1), ("(LThreeAddresses$Post;I)V", 2), ("(LThreeAddresses$Post;III)V", 4), ("(LThreeAddresses$Sheet;)I", 1), ("(LThreeAddresses$Sheet;)Z", 1), ("(LThreeAddresses$Sheet;I)I", 2), ("(LThreeAddresses$Sheet;I)Z", 2), ("(LThreeAddresses$Tape;)V", 1), ("(LThreeAddresses$Text;)I", 1), ("(Ljava/lang/String;)Z", 1), ("(Z)Z", 1), ("([BI)C", 2), ("([I)Z", 1), ("([I[III)V", 4)]
set_option maxRecDepth 100000 in
theorem ck_ds : mt_ds.map (fun q => (parseMethodDescriptor q.1).map (fun d => d.parameters.length)) = mt_ds.map (fun q => some q.2) := by rfl
def mt_dn : List Nat := [2, 25, 25, 2, 19, 24, 5, 11, 10, 8, 8, 5, 2, 2, 5, 1, 7, 7, 10, 12, 12, 15, 5, 15, 19, 12, 2, 5, 5, 32, 33, 8, 8, 8, 8, 8, 8, 2, 10, 10, 11, 3, 2, 7, 2, 2, 2, 2, 34, 8, 6, 2, 2, 7, 7, 22, 2, 27, 26, 2, 1, 5, 29, 2, 9, 12, 12, 12, 9, 9, 5, 12, 5, 1, 5, 12, 9, 10, 9, 5, 5, 5, 5, 5, 9, 9, 9, 14, 12, 15, 5, 9, 31, 28, 28, 28, 28, 30, 12, 9, 9, 18, 9, 1, 1, 5, 12, 12, 17, 15, 9, 11, 14, 8, 8, 8, 8, 8, 14, 9, 9, 8, 8, 8, 9, 16, 12, 9, 14, 12, 5, 5, 11, 15, 5, 12, 5, 8, 8, 2, 2, 2, 8, 8, 7, 5, 7, 7, 3, 3, 35, 8, 5, 1, 5, 2, 12, 20, 13, 1, 12, 9, 9, 5, 9, 12, 5, 7, 9, 12, 9, 9, 23, 18, 38, 1, 1, 5, 8, 12, 12, 17, 15, 9, 5, 1, 4, 0, 3, 10, 36, 21, 37]
set_option maxRecDepth 100000 in
theorem ck_dn : (List.range 193).map (fun y => (mt_mn y).desc) = (List.range 193).map (fun y => (mt_ds.getD (mt_dn.getD y 0) ("", 0)).1) := by rfl
theorem ck_dm : (List.range 193).all (fun y => Nat.beq (mt_na.getD y 0) ((mt_ds.getD (mt_dn.getD y 0) ("", 0)).2 + (bif mt_sta.getD y false then 0 else 1)) && Nat.ble (mt_ml.getD y 0) 40 && Nat.blt (mt_dn.getD y 0) 39) = true := by decide +kernel
theorem ck_pn : (List.range 16).all (fun c => Nat.beq c 12 || (Jvm.plainName (mt_cn.getD c "") && decide (mt_cn.getD c "" ≠ "java/lang/invoke/MethodHandle") && decide (mt_cn.getD c "" ≠ "java/lang/invoke/VarHandle"))) = true := by decide +kernel
theorem ck_po : (List.range 193).all (fun y => !(Nat.beq (mt_own.getD y 0) 12) && Nat.blt (mt_own.getD y 0) 16) = true := by decide +kernel
set_option maxRecDepth 100000 in
theorem ck_kt_8 : ([4037] : List Nat).map mt_w = (mt_kt.getD 8 []).map (fun e => some (Cond.constant (mt_cn.getD 8 "") e.1 e.2.1)) := by rfl
set_option maxRecDepth 100000 in
theorem ck_kt_9 : ([5231] : List Nat).map mt_w = (mt_kt.getD 9 []).map (fun e => some (Cond.constant (mt_cn.getD 9 "") e.1 e.2.1)) := by rfl
set_option maxRecDepth 100000 in
theorem ck_kt_11 : ([3117, 3118, 3119] : List Nat).map mt_w = (mt_kt.getD 11 []).map (fun e => some (Cond.constant (mt_cn.getD 11 "") e.1 e.2.1)) := by rfl
theorem sd_kt {own idx : Nat} {e : Int32 × Nat} (h : ma_fk idx (mt_kt.getD own []) = some e) : Cond.constant (mt_cn.getD own "") idx e.1 ∈ lw_tbl := by
  have h1 := ma_fk_mem h
  have h2 : own < 16 := mt_getD_lt h1
  rcases (show own = 0 ∨ own = 1 ∨ own = 2 ∨ own = 3 ∨ own = 4 ∨ own = 5 ∨ own = 6 ∨ own = 7 ∨ own = 8 ∨ own = 9 ∨ own = 10 ∨ own = 11 ∨ own = 12 ∨ own = 13 ∨ own = 14 ∨ own = 15 by omega) with rfl | rfl | rfl | rfl | rfl | rfl | rfl | rfl | rfl | rfl | rfl | rfl | rfl | rfl | rfl | rfl
  · cases h1
  · cases h1
  · cases h1
  · cases h1
  · cases h1
  · cases h1
  · cases h1
  · cases h1
  · obtain ⟨p, hp⟩ := ck_all ck_kt_8 _ h1; exact mt_w_mem hp
  · obtain ⟨p, hp⟩ := ck_all ck_kt_9 _ h1; exact mt_w_mem hp
  · cases h1
  · obtain ⟨p, hp⟩ := ck_all ck_kt_11 _ h1; exact mt_w_mem hp
  · cases h1
  · cases h1
  · cases h1
  · cases h1
set_option maxRecDepth 100000 in
theorem ck_lt_8 : ([4042] : List Nat).map mt_w = (mt_lt.getD 8 []).map (fun e => some (Cond.constantLong (mt_cn.getD 8 "") e.1 e.2.1)) := by rfl
set_option maxRecDepth 100000 in
theorem ck_lt_9 : ([5236, 6028, 6029] : List Nat).map mt_w = (mt_lt.getD 9 []).map (fun e => some (Cond.constantLong (mt_cn.getD 9 "") e.1 e.2.1)) := by rfl
theorem sd_lt {own idx : Nat} {e : Int64 × Nat} (h : ma_fk idx (mt_lt.getD own []) = some e) : Cond.constantLong (mt_cn.getD own "") idx e.1 ∈ lw_tbl := by
  have h1 := ma_fk_mem h
  have h2 : own < 16 := mt_getD_lt h1
  rcases (show own = 0 ∨ own = 1 ∨ own = 2 ∨ own = 3 ∨ own = 4 ∨ own = 5 ∨ own = 6 ∨ own = 7 ∨ own = 8 ∨ own = 9 ∨ own = 10 ∨ own = 11 ∨ own = 12 ∨ own = 13 ∨ own = 14 ∨ own = 15 by omega) with rfl | rfl | rfl | rfl | rfl | rfl | rfl | rfl | rfl | rfl | rfl | rfl | rfl | rfl | rfl | rfl
  · cases h1
  · cases h1
  · cases h1
  · cases h1
  · cases h1
  · cases h1
  · cases h1
  · cases h1
  · obtain ⟨p, hp⟩ := ck_all ck_lt_8 _ h1; exact mt_w_mem hp
  · obtain ⟨p, hp⟩ := ck_all ck_lt_9 _ h1; exact mt_w_mem hp
  · cases h1
  · cases h1
  · cases h1
  · cases h1
  · cases h1
  · cases h1
theorem ck_st_ok : (List.range 16).all (fun own => (mt_st.getD own []).all (fun e => Nat.blt e.2.1 13)) = true := by decide +kernel
def mt_np : List ((Nat × Nat × Nat) × Nat × Nat × Nat) := [((0, 7, 27), 132, 0, 0), ((0, 15, 28), 132, 0, 0), ((0, 23, 29), 214, 97, 0), ((0, 42, 30), 214, 100, 67), ((12, 13, 14), 132, 0, 0), ((12, 21, 15), 132, 0, 0), ((12, 29, 16), 96, 97, 0), ((12, 38, 18), 98, 99, 0), ((12, 47, 23), 132, 0, 0), ((12, 56, 24), 132, 0, 0), ((12, 64, 25), 132, 0, 0), ((12, 72, 26), 132, 0, 0), ((12, 90, 17), 96, 100, 67), ((12, 117, 19), 98, 133, 68), ((37, 12, 13), 132, 0, 0), ((42, 8, 31), 132, 0, 0), ((51, 8, 20), 132, 0, 0), ((51, 15, 21), 132, 0, 0), ((51, 23, 22), 132, 0, 0), ((56, 7, 32), 132, 0, 0), ((63, 5, 6), 90, 91, 66), ((63, 16, 7), 208, 209, 69), ((63, 27, 8), 242, 243, 70), ((63, 38, 9), 271, 272, 71), ((63, 53, 10), 284, 285, 72), ((63, 65, 11), 325, 326, 0), ((63, 83, 12), 325, 327, 73), ((155, 13, 41), 132, 0, 0), ((155, 21, 42), 132, 0, 0), ((155, 29, 43), 132, 0, 0), ((155, 37, 44), 132, 0, 0), ((155, 45, 45), 132, 0, 0), ((155, 53, 46), 132, 0, 0), ((155, 61, 47), 132, 0, 0), ((155, 69, 48), 132, 0, 0), ((155, 78, 49), 132, 0, 0), ((155, 87, 50), 132, 0, 0), ((155, 95, 51), 132, 0, 0), ((155, 103, 52), 1190, 0, 0), ((155, 417, 53), 132, 0, 0), ((155, 496, 54), 132, 0, 0), ((155, 504, 55), 1191, 0, 0), ((155, 513, 56), 132, 0, 0), ((155, 521, 57), 132, 0, 0), ((155, 529, 58), 132, 0, 0), ((155, 537, 59), 132, 0, 0), ((155, 545, 60), 132, 0, 0), ((155, 552, 61), 132, 0, 0), ((155, 575, 62), 132, 0, 0), ((155, 584, 63), 132, 0, 0), ((155, 592, 64), 132, 0, 0), ((192, 0, 5), 82, 83, 65), ((192, 8, 40), 1040, 909, 78)]
/-- where objects are made: (class of the method, pool index, class) -/
def mt_n1 : List (Nat × Nat × Nat) := [(0, 18, 1), (2, 22, 1), (2, 28, 6), (8, 9, 2), (8, 16, 0), (8, 23, 5), (8, 30, 3), (8, 39, 7), (8, 46, 4), (10, 7, 8), (10, 10, 9)]
set_option maxRecDepth 100000 in
theorem ck_n1 : ([1150, 1032, 1034, 1026, 1144, 1178, 1207, 1220, 2021, 1018, 5016] : List Nat).map mt_w = mt_n1.map (fun e => some (Cond.classLink (mt_cn.getD e.1 "") e.2.1 (mt_cn.getD e.2.2 ""))) := by rfl
set_option maxRecDepth 100000 in
theorem ck_n2 : ([1145, 1036, 1027, 1208, 2023, 1179, 1069, 1221, 1019, 4125] : List Nat).map mt_w = (List.range 10).map (fun c => some (Cond.instantiable (mt_cn.getD c "") (mt_rf.getD c []).length)) := by rfl
set_option maxRecDepth 100000 in
theorem ck_n3 : ([1005, 1003, 1002, 1007, 1009, 1006, 1004, 1008, 1001, 1014] : List Nat).map mt_w = (List.range 10).map (fun c => some (Cond.initialized (mt_cn.getD c ""))) := by rfl
def mt_n4 : List (Nat × Nat × Nat) := [(0, 18, 1), (2, 22, 1), (2, 28, 6), (8, 46, 4)]
set_option maxRecDepth 100000 in
theorem ck_n4 : ([1150, 1032, 1034, 2021] : List Nat).map mt_w = mt_n4.map (fun e => some (Cond.classLink (mt_cn.getD e.1 "") e.2.1 (mt_cn.getD e.2.2 ""))) := by rfl
set_option maxRecDepth 100000 in
theorem ck_n5 : ([1033, 1033, 1035, 2022] : List Nat).map mt_w = mt_n4.map (fun e => some (Cond.arrayOver (.object (mt_cn.getD e.2.2 "")))) := by rfl
set_option maxRecDepth 100000 in
theorem ck_n6 : ([1068, 5167, 5166] : List Nat).map mt_w = ([.int, .boolean, .char] : List ArrayType).map (fun t => some (Cond.arrayClass (newarray.typeOf t))) := by rfl
/-- of a place where a cell is made -/
def ck_nt (e : Nat × Nat × Nat) : Bool := Nat.ble 5 e.2.2 && Nat.ble (ma_gl e.2.2) 3000 && (match ma_find e.2.1 (mt_prog.getD e.1 []) with
  | some (.new k, _) => mt_n1.contains (mt_own.getD e.1 0, k, ma_gk e.2.2 - 100)
  | some (.anewarray k, _) => mt_n4.contains (mt_own.getD e.1 0, k, ma_gk e.2.2 - 10)
  | some (.newarray t, _) => (match t with | .int => true | .boolean => true | .char => true | _ => false)
  | _ => false)
theorem ck_nt_ok : mt_nt.all ck_nt = true := by decide +kernel
theorem sd_nt {y pc g : Nat} (h : ma_fn y pc mt_nt = some g) : ck_nt (y, pc, g) = true := List.all_eq_true.mp ck_nt_ok _ (ma_fn_mem h)
/-- of the groups -/
def ck_g (g : Nat) : Bool := bif Nat.ble 200 (ma_gk g) then Nat.beq g 2 else bif Nat.ble 100 (ma_gk g) then Nat.blt (ma_gk g) 110 && Nat.beq (mt_rf.getD (ma_gk g - 100) []).length (ma_gl g) && Nat.ble 5 g else bif Nat.ble 10 (ma_gk g) then Nat.blt (ma_gk g) 20 && Nat.ble 5 g else Nat.ble (ma_gk g) 4
theorem ck_g_ok : (List.range 65).all ck_g = true := by decide +kernel
theorem sd_g (g : Nat) : ck_g g = true := by
  rcases Nat.lt_or_ge g 65 with h | h
  · exact List.all_eq_true.mp ck_g_ok g (List.mem_range.mpr h)
  · have h1 : ma_gk g = 0 := by
      unfold ma_gk
      rw [List.getD_eq_getElem?_getD, List.getElem?_eq_none (by show mt_gk.length ≤ g; exact h)]
      rfl
    unfold ck_g
    rw [h1]
    rfl
/-- of the fields -/
def ck_f (c : Nat) : Bool := match ma_cls[c]? with
  | some q => Nat.beq (mt_rf.getD c []).length q.2.2 && (List.range q.2.2).all fun k => decide (ma_rf c k = true → defaultValue ((ma_tys.getD c tyX0) k) = .null) && decide (ma_rf c k = false → defaultValue ((ma_tys.getD c tyX0) k) = .int 0) && decide (ma_ff c k = (q.2.1 k).2.2.2) && (bif ma_rf c k then ((ma_tys.getD c tyX0) k).isReference else bif ma_bf c k then decide ((ma_tys.getD c tyX0) k = .boolean) else decide ((ma_tys.getD c tyX0) k = .int))
  | none => false
theorem ck_f_ok : (List.range 10).all ck_f = true := by decide +kernel
set_option maxRecDepth 100000 in
theorem ck_cn : (List.range 10).map (fun c => some (mt_cn.getD c "")) = (List.range 10).map (fun c => ma_cls[c]?.map (fun q => q.1)) := by rfl
set_option maxRecDepth 100000 in
theorem ck_fo_0 : (List.range 8).map (fun k => (TX0 k).1) = (List.range 8).map (fun _ => RX0) := by rfl
set_option maxRecDepth 100000 in
theorem ck_fo_1 : (List.range 6).map (fun k => (TX1 k).1) = (List.range 6).map (fun _ => RX1) := by rfl
set_option maxRecDepth 100000 in
theorem ck_fo_2 : (List.range 13).map (fun k => (TX2 k).1) = (List.range 13).map (fun _ => RX2) := by rfl
set_option maxRecDepth 100000 in
theorem ck_fo_3 : (List.range 2).map (fun k => (TX3 k).1) = (List.range 2).map (fun _ => RX3) := by rfl
set_option maxRecDepth 100000 in
theorem ck_fo_4 : (List.range 3).map (fun k => (TX4 k).1) = (List.range 3).map (fun _ => RX4) := by rfl
set_option maxRecDepth 100000 in
theorem ck_fo_5 : (List.range 6).map (fun k => (TX5 k).1) = (List.range 6).map (fun _ => RX5) := by rfl
set_option maxRecDepth 100000 in
theorem ck_fo_6 : (List.range 4).map (fun k => (TX6 k).1) = (List.range 4).map (fun _ => RX6) := by rfl
set_option maxRecDepth 100000 in
theorem ck_fo_7 : (List.range 9).map (fun k => (TX7 k).1) = (List.range 9).map (fun _ => RX7) := by rfl
set_option maxRecDepth 100000 in
theorem ck_fo_8 : (List.range 6).map (fun k => (TX8 k).1) = (List.range 6).map (fun _ => RX8) := by rfl
set_option maxRecDepth 100000 in
theorem ck_fo_9 : (List.range 48).map (fun k => (TX9 k).1) = (List.range 48).map (fun _ => RX9) := by rfl
set_option maxRecDepth 100000 in
theorem ck_oi1 : mt_w 1024 = some (.instanceMethod Lib.objectInit) := by rfl
set_option maxRecDepth 100000 in
theorem ck_oi2 : mt_w 1025 = some (.code Lib.objectInit ⟨#[0xb1]⟩ 1 none) := by rfl
set_option maxRecDepth 100000 in
theorem ck_ac1 : mt_w 4056 = some (.native arraycopyName) := by rfl
set_option maxRecDepth 100000 in
theorem ck_ac2 : mt_w 4055 = some (.static arraycopyName) := by rfl
set_option maxRecDepth 100000 in
theorem ck_ac3 : mt_w 1017 = some (.initialized "java/lang/System") := by rfl
set_option maxRecDepth 100000 in
theorem ck_mx1 : mt_w 3160 = some (.static Lib.Math.max.name) := by rfl
set_option maxRecDepth 100000 in
theorem ck_mx2 : mt_w 3161 = some (.code Lib.Math.max.name Lib.Math.max.code 2 (some .int)) := by rfl
set_option maxRecDepth 100000 in
theorem ck_mi1 : mt_w 3167 = some (.static Lib.Math.min.name) := by rfl
set_option maxRecDepth 100000 in
theorem ck_mi2 : mt_w 3168 = some (.code Lib.Math.min.name Lib.Math.min.code 2 (some .int)) := by rfl
set_option maxRecDepth 100000 in
theorem ck_mx3 : mt_w 1016 = some (.initialized "java/lang/Math") := by rfl
set_option maxRecDepth 100000 in
theorem ck_gs1 : mt_w 2052 = some (.fieldLink "java/lang/String" 38 "java/lang/String" "COMPACT_STRINGS" "Z") := by rfl
set_option maxRecDepth 100000 in
theorem ck_gs2 : mt_w 2068 = some (.fieldLink "java/lang/String" 1053 "jdk/internal/util/Preconditions" "SIOOBE_FORMATTER" "Ljava/util/function/BiFunction;") := by rfl

/-! ===== the law's start ===== -/
def st_tm (i : Nat) : Term := ([.string "ThreeAddresses$Tape" 66, .string "ThreeAddresses$Tape" 68, .string "ThreeAddresses$Tape" 70, .string "ThreeAddresses$Tape" 72, .string "ThreeAddresses$Tape" 74, .string "ThreeAddresses$Tape" 76, .string "ThreeAddresses$Tape" 78, .string "ThreeAddresses$Tape" 80, .string "ThreeAddresses$Tape" 82, .string "ThreeAddresses$Tape" 84, .string "ThreeAddresses$Tape" 86, .string "ThreeAddresses$Tape" 88, .string "ThreeAddresses" 53] : List Term).getD i (.arg 0)
def st_tx : List String := ["day", "house", "stamps", "number", "order", "long", "takes", "costs", "minds", "or", "and", "not", "takes 2 ; costs 5 + long ; minds 10 ;"]
def st_FL : List Cond := flatC (Jvm.Cond.and given_1 narrow_1)
abbrev st_va (i : Nat) : Term := .field (st_tm i) "java/lang/String" "value" "[B"
theorem st_mem {α : Type} {f : α → Cond} {xs : List α} {ks : List Nat} (h : xs.map (fun x => some (f x)) = ks.map (fun k => st_FL[k]?)) : ∀ x ∈ xs, f x ∈ st_FL := by
  intro x hx
  have h1 : some (f x) ∈ ks.map (fun k => st_FL[k]?) := h ▸ List.mem_map.mpr ⟨x, hx, rfl⟩
  obtain ⟨k, -, hk⟩ := List.mem_map.mp h1
  exact List.mem_of_getElem? hk
set_option maxRecDepth 100000 in
theorem st_ex : (List.range 13).map (fun x => some (Cond.exactly (st_tm x) "java/lang/String")) = ([80, 88, 99, 112, 126, 140, 154, 170, 187, 205, 221, 239, 39] : List Nat).map (fun k => st_FL[k]?) := by rfl
set_option maxRecDepth 100000 in
theorem st_co : (List.range 13).map (fun x => some (Cond.eq (.field (st_tm x) "java/lang/String" "coder" "B") (.int 0))) = ([81, 89, 100, 113, 127, 141, 155, 171, 188, 206, 222, 240, 40] : List Nat).map (fun k => st_FL[k]?) := by rfl
set_option maxRecDepth 100000 in
theorem st_ar : (List.range 13).map (fun x => some (Cond.arrayOf (st_va x) .byte)) = ([82, 90, 101, 114, 128, 142, 156, 172, 189, 207, 223, 241, 41] : List Nat).map (fun k => st_FL[k]?) := by rfl
set_option maxRecDepth 100000 in
theorem st_le : (List.range 13).map (fun x => some (Cond.eq (.length (st_va x)) (.int (Int32.ofNat ((mt_sb.map List.length).getD x 0))))) = ([83, 91, 102, 115, 129, 143, 157, 173, 190, 208, 224, 242, 42] : List Nat).map (fun k => st_FL[k]?) := by rfl
def st_pr : List (Nat × Nat) := [(0, 0), (0, 1), (0, 2), (1, 0), (1, 1), (1, 2), (1, 3), (1, 4), (2, 0), (2, 1), (2, 2), (2, 3), (2, 4), (2, 5), (3, 0), (3, 1), (3, 2), (3, 3), (3, 4), (3, 5), (4, 0), (4, 1), (4, 2), (4, 3), (4, 4), (5, 0), (5, 1), (5, 2), (5, 3), (6, 0), (6, 1), (6, 2), (6, 3), (6, 4), (7, 0), (7, 1), (7, 2), (7, 3), (7, 4), (8, 0), (8, 1), (8, 2), (8, 3), (8, 4), (9, 0), (9, 1), (10, 0), (10, 1), (10, 2), (11, 0), (11, 1), (11, 2), (12, 0), (12, 1), (12, 2), (12, 3), (12, 4), (12, 5), (12, 6), (12, 7), (12, 8), (12, 9), (12, 10), (12, 11), (12, 12), (12, 13), (12, 14), (12, 15), (12, 16), (12, 17), (12, 18), (12, 19), (12, 20), (12, 21), (12, 22), (12, 23), (12, 24), (12, 25), (12, 26), (12, 27), (12, 28), (12, 29), (12, 30), (12, 31), (12, 32), (12, 33), (12, 34), (12, 35), (12, 36)]
set_option maxRecDepth 100000 in
theorem st_el : st_pr.map (fun x => some (Cond.eq (.elem (st_va x.1) (.int (Int32.ofNat x.2))) (.int ((mt_sb.getD x.1 []).getD x.2 0)))) = ([84, 85, 86, 92, 93, 94, 95, 96, 103, 104, 105, 106, 107, 108, 116, 117, 118, 119, 120, 121, 130, 131, 132, 133, 134, 144, 145, 146, 147, 158, 159, 160, 161, 162, 174, 175, 176, 177, 178, 191, 192, 193, 194, 195, 209, 210, 225, 226, 227, 243, 244, 245, 43, 44, 45, 46, 47, 48, 49, 50, 51, 52, 53, 54, 55, 56, 57, 58, 59, 60, 61, 62, 63, 64, 65, 66, 67, 68, 69, 70, 71, 72, 73, 74, 75, 76, 77, 78, 79] : List Nat).map (fun k => st_FL[k]?) := by rfl
def st_nq : List (Nat × Nat) := [(0, 1), (0, 2), (0, 3), (0, 4), (0, 5), (0, 6), (0, 7), (0, 8), (0, 9), (0, 10), (0, 11), (1, 2), (1, 3), (1, 4), (1, 5), (1, 6), (1, 7), (1, 8), (1, 9), (1, 10), (1, 11), (2, 3), (2, 4), (2, 5), (2, 6), (2, 7), (2, 8), (2, 9), (2, 10), (2, 11), (3, 4), (3, 5), (3, 6), (3, 7), (3, 8), (3, 9), (3, 10), (3, 11), (4, 5), (4, 6), (4, 7), (4, 8), (4, 9), (4, 10), (4, 11), (5, 6), (5, 7), (5, 8), (5, 9), (5, 10), (5, 11), (6, 7), (6, 8), (6, 9), (6, 10), (6, 11), (7, 8), (7, 9), (7, 10), (7, 11), (8, 9), (8, 10), (8, 11), (9, 10), (9, 11), (10, 11), (12, 0), (12, 1), (12, 2), (12, 3), (12, 4), (12, 5), (12, 6), (12, 7), (12, 8), (12, 9), (12, 10), (12, 11)]
set_option maxRecDepth 100000 in
theorem st_ne : st_nq.map (fun x => some (Cond.not (Cond.eq (st_tm x.1) (st_tm x.2)))) = ([98, 110, 123, 136, 149, 164, 180, 197, 212, 229, 247, 111, 124, 137, 150, 165, 181, 198, 213, 230, 248, 125, 138, 151, 166, 182, 199, 214, 231, 249, 139, 152, 167, 183, 200, 215, 232, 250, 153, 168, 184, 201, 216, 233, 251, 169, 185, 202, 217, 234, 252, 186, 203, 218, 235, 253, 204, 219, 236, 254, 220, 237, 255, 238, 256, 257, 87, 97, 109, 122, 135, 148, 163, 179, 196, 211, 228, 246] : List Nat).map (fun k => st_FL[k]?) := by rfl
set_option maxRecDepth 100000 in
theorem st_cs : [()].map (fun x => some (Cond.eq (.static "java/lang/String" "COMPACT_STRINGS" "Z") (.int 1))) = ([4] : List Nat).map (fun k => st_FL[k]?) := by rfl
set_option maxRecDepth 100000 in
theorem st_sf : [()].map (fun x => some (Cond.isRef (.static "jdk/internal/util/Preconditions" "SIOOBE_FORMATTER" "Ljava/util/function/BiFunction;"))) = ([5] : List Nat).map (fun k => st_FL[k]?) := by rfl
set_option maxRecDepth 100000 in
theorem st_w : ([2053, 1010, 2069, 1012] : List Nat).map mt_w = [some (Cond.laysStatic "java/lang/String" "COMPACT_STRINGS" "Z"), some (Cond.initialized "java/lang/String"), some (Cond.laysStatic "jdk/internal/util/Preconditions" "SIOOBE_FORMATTER" "Ljava/util/function/BiFunction;"), some (Cond.initialized "jdk/internal/util/Preconditions")] := by rfl
set_option maxRecDepth 100000 in
theorem st_lr : ([2122, 2123, 2124, 2125, 2126, 2127, 2128, 2129, 2130, 2131, 2132, 2133, 2043] : List Nat).map mt_w = [Cond.stringRef "ThreeAddresses$Tape" 66 "day", Cond.stringRef "ThreeAddresses$Tape" 68 "house", Cond.stringRef "ThreeAddresses$Tape" 70 "stamps", Cond.stringRef "ThreeAddresses$Tape" 72 "number", Cond.stringRef "ThreeAddresses$Tape" 74 "order", Cond.stringRef "ThreeAddresses$Tape" 76 "long", Cond.stringRef "ThreeAddresses$Tape" 78 "takes", Cond.stringRef "ThreeAddresses$Tape" 80 "costs", Cond.stringRef "ThreeAddresses$Tape" 82 "minds", Cond.stringRef "ThreeAddresses$Tape" 84 "or", Cond.stringRef "ThreeAddresses$Tape" 86 "and", Cond.stringRef "ThreeAddresses$Tape" 88 "not", Cond.stringRef "ThreeAddresses" 53 "takes 2 ; costs 5 + long ; minds 10 ;"].map some := by rfl
theorem st_pr_ok : (List.range 13).all (fun i => (List.range ((mt_sb.map List.length).getD i 0)).all (fun j => st_pr.contains (i, j))) = true := by decide +kernel
theorem st_nq_ok : (List.range 13).all (fun i => (List.range 13).all (fun j => Nat.beq i j || st_nq.contains (i, j) || st_nq.contains (j, i))) = true := by decide +kernel
theorem st_ln_ok : (List.range 13).all (fun i => Nat.beq ((mt_sb.map List.length).getD i 0) (mt_sb.getD i []).length && Nat.blt ((mt_sb.map List.length).getD i 0) 100) = true := by decide +kernel
theorem st_h {args : Array Value} {s : State} (hg : (Jvm.Cond.and given_1 narrow_1).before args s = true) {c : Cond} (h : c ∈ st_FL) : c.before args s = true := flat_of_before _ hg c h
theorem st_strings {args : Array Value} {s : State} (hg : (Jvm.Cond.and given_1 narrow_1).before args s = true) : ∃ adK adV : Nat → Nat, vk_S 13 (mt_sb.map List.length) mt_sb adK adV (fun q => s.heap.size ≤ q) s s.heap ∧ ∀ i : Nat, i < 13 → (st_tm i).eval args s none [] s = some (.ref (adK i)) := by
  refine vk_Sof (tm := st_tm) ?_ ?_ ?_ ?_ ?_ ?_ ?_ ?_
  · intro i hi
    have h := List.all_eq_true.mp st_ln_ok i (List.mem_range.mpr hi)
    rw [Bool.and_eq_true] at h
    have h2 : (mt_sb.map List.length).getD i 0 < 100 := Nat.le_of_ble_eq_true h.2
    omega
  · exact fun i hi => st_h hg (st_mem st_ex i (List.mem_range.mpr hi))
  · exact fun i hi => st_h hg (st_mem st_co i (List.mem_range.mpr hi))
  · exact fun i hi => st_h hg (st_mem st_ar i (List.mem_range.mpr hi))
  · exact fun i hi => st_h hg (st_mem st_le i (List.mem_range.mpr hi))
  · intro i hi j hj
    have h := List.all_eq_true.mp (List.all_eq_true.mp st_pr_ok i (List.mem_range.mpr hi)) j (List.mem_range.mpr hj)
    exact st_h hg (st_mem st_el (i, j) (List.contains_iff_mem.mp h))
  · intro i j hi hj hij
    have h := List.all_eq_true.mp (List.all_eq_true.mp st_nq_ok i (List.mem_range.mpr hi)) j (List.mem_range.mpr hj)
    rw [Bool.or_eq_true, Bool.or_eq_true] at h
    rcases h with (h | h) | h
    · exact absurd (Nat.eq_of_beq_eq_true h) hij
    · exact Or.inl (st_h hg (st_mem st_ne (i, j) (List.contains_iff_mem.mp h)))
    · exact Or.inr (st_h hg (st_mem st_ne (j, i) (List.contains_iff_mem.mp h)))
  · intro a ha hq
    exact absurd ha (Nat.not_lt.mpr hq)
theorem st_classes {args : Array Value} {s : State} (hts : ∀ w ∈ lw_tbl, w.before args s = true) (c0 : ClassId) : ∃ (dC : Nat → ClassId) (dI : Nat → Nat → Nat), ∀ (c : Nat) (q : vw_C), ma_cls[c]? = some q → u_Kn s q.1 q.2.1 q.2.2 (dC c) (dI c) := by
  have h : ∀ c : Nat, ∃ x : ClassId × (Nat → Nat), ∀ q : vw_C, ma_cls[c]? = some q → u_Kn s q.1 q.2.1 q.2.2 x.1 x.2 := by
    intro c
    cases hq : ma_cls[c]? with
    | none => exact ⟨(c0, fun _ => 0), fun q h => by cases h⟩
    | some q =>
      have hc : c < 10 := (List.getElem?_eq_some_iff.mp hq).1
      have hn : ([1145, 1036, 1027, 1208, 2023, 1179, 1069, 1221, 1019, 4125] : List Nat).map mt_w = (List.range 10).map (fun c => some (Cond.instantiable (mt_cn.getD c "") (mt_rf.getD c []).length)) := ck_n2
      have hm : some (Cond.instantiable (mt_cn.getD c "") (mt_rf.getD c []).length) ∈ ([1145, 1036, 1027, 1208, 2023, 1179, 1069, 1221, 1019, 4125] : List Nat).map mt_w := by
        rw [hn]
        exact List.mem_map.mpr ⟨c, List.mem_range.mpr hc, rfl⟩
      obtain ⟨k, -, hk⟩ := List.mem_map.mp hm
      have he : q.1 = mt_cn.getD c "" := by
        match c, hc, hq with
        | 0, _, hq => cases hq; rfl
        | 1, _, hq => cases hq; rfl
        | 2, _, hq => cases hq; rfl
        | 3, _, hq => cases hq; rfl
        | 4, _, hq => cases hq; rfl
        | 5, _, hq => cases hq; rfl
        | 6, _, hq => cases hq; rfl
        | 7, _, hq => cases hq; rfl
        | 8, _, hq => cases hq; rfl
        | 9, _, hq => cases hq; rfl
      obtain ⟨cC, iS, hu⟩ := u_known (args := args) hts (sd_lay hq) (by rw [he]; exact hts _ (mt_w_mem hk))
      exact ⟨(cC, iS), fun q' h' => by cases h'; exact hu⟩
  obtain ⟨f, hf⟩ := Classical.axiomOfChoice h
  exact ⟨fun c => (f c).1, fun c => (f c).2, fun c q hq => hf c q hq⟩
def lw_I0 (L : Nat) (xs : Nat → Int32) : ma_I := fun g i j => match g with
  | 1 => (match i with
    | 0 => xs j
    | _ => Int32.ofNat L)
  | 3 => (mt_sb.getD i []).getD j 0
  | _ => 0
def lw_n (g : Nat) : Nat := [0, 1, 13, 13].getD g 0
def lw_M0 (L : Nat) (xs : Nat → Int32) : ma_M := (lw_n, lw_I0 L xs, fun _ _ _ => (0, 0))
def lw_A (b : Nat) (adK adV : Nat → Nat) : Nat → Nat → Nat := fun g i => match g with
  | 1 => b
  | 2 => adK i
  | _ => adV i
theorem lw_n4 {g i : Nat} (h : i < lw_n g) : (g = 1 ∧ i = 0) ∨ (g = 2 ∧ i < 13) ∨ (g = 3 ∧ i < 13) := by
  match g, h with
  | 0, h => exact absurd h (Nat.not_lt_zero _)
  | 1, h => exact Or.inl ⟨rfl, Nat.lt_one_iff.mp h⟩
  | 2, h => exact Or.inr (Or.inl ⟨rfl, h⟩)
  | 3, h => exact Or.inr (Or.inr ⟨rfl, h⟩)
  | g + 4, h => exact absurd h (by show ¬ i < ([0, 1, 13, 13] : List Nat).getD (g + 4) 0; simp)
theorem lw_len {L : Nat} {xs : Nat → Int32} (hL : L ≤ 3072) : ma_len (lw_M0 L xs) 1 0 = L := by
  show (Int32.ofNat L).toNatClampNeg = L
  unfold Int32.toNatClampNeg
  rw [Int32.toInt_ofNat_of_lt (by omega)]
  exact Int.toNat_natCast L
theorem st_world {s : State} {b L : Nat} {xs : Nat → Int32} {dC : Nat → ClassId} {dI : Nat → Nat → Nat} {adK adV : Nat → Nat} {ov : Value} (hL : L ≤ 3072) (hX : va_X b L xs s s.heap) (hb : b < s.heap.size) (hS : vk_S 13 (mt_sb.map List.length) mt_sb adK adV (fun q => s.heap.size ≤ q) s s.heap) : sd_W s dC dI adK adV ov (lw_A b adK adV) (lw_M0 L xs) s.heap := by
  have hK : ∀ i, i < 13 → adK i < s.heap.size := fun i hi => by
    obtain ⟨cell, -, -, -, h⟩ := (hS.1 i hi).1
    exact Nat.not_le.mp h
  have hV : ∀ i, i < 13 → adV i < s.heap.size := fun i hi => by
    obtain ⟨cell, -, -, -, -, -, -, h⟩ := (hS.1 i hi).2.2.2
    exact Nat.not_le.mp h
  refine ⟨?_, ?_, ?_, ?_, fun q _ => rfl, Nat.le_refl _, fun i _ => ⟨rfl, rfl⟩, ?_, rfl, rfl⟩
  · intro g i hi hg
    rcases lw_n4 hi with ⟨rfl, rfl⟩ | ⟨rfl, -⟩ | ⟨rfl, h13⟩
    · show va_T .int b (ma_len (lw_M0 L xs) 1 0) (sd_slot (lw_A b adK adV) ov (lw_M0 L xs) 1 0) (fun _ => False) s s.heap
      rw [lw_len hL]
      obtain ⟨scr, h1, h2, h3, h4, h5⟩ := hX
      exact ⟨scr, h1, h2, h3, by omega, by rw [h4], fun j hj => h5 j hj, fun h => h⟩
    · exact absurd rfl hg
    · have h := List.all_eq_true.mp st_ln_ok i (List.mem_range.mpr h13)
      rw [Bool.and_eq_true] at h
      have h2 := (hS.1 i h13).2.2.2
      rw [Nat.eq_of_beq_eq_true h.1] at h2
      exact va_T.narrow h2 (fun _ h => False.elim h)
  · intro g i hi
    rcases lw_n4 hi with ⟨rfl, rfl⟩ | ⟨rfl, h⟩ | ⟨rfl, h⟩
    · exact ⟨hb, (fun h => absurd h (by decide)), fun _ => hb⟩
    · exact ⟨hK i h, (fun h => absurd h (by decide)), fun _ => hK i h⟩
    · exact ⟨hV i h, (fun h => absurd h (by decide)), fun _ => hV i h⟩
  · intro g i h k hg _ hi
    rcases lw_n4 hi with ⟨rfl, -⟩ | ⟨rfl, -⟩ | ⟨rfl, -⟩ <;> exact absurd hg (by decide)
  · intro g i j hi _
    exact Or.inl rfl
  · intro g hg
    match g, hg with
    | 0, _ => rfl
    | 1, h => exact absurd h (by decide)
    | 2, h => exact absurd h (by decide)
    | 3, h => exact absurd h (by decide)
    | g + 4, _ => show ([0, 1, 13, 13] : List Nat).getD (g + 4) 0 = 0; simp
theorem st_sr : (List.range 16).all (fun own => (mt_st.getD own []).all (fun e => Nat.blt e.2.1 13)) = true := by decide +kernel
theorem st_link {own : Nat} {e : Nat × Nat × Nat} (h : e ∈ mt_st.getD own []) : e.2.1 < 13 ∧ st_tm e.2.1 = .string (mt_cn.getD own "") e.1 ∧ ∃ tx, Cond.stringRef (mt_cn.getD own "") e.1 tx ∈ lw_tbl := by
  have hw : ∀ k : Nat, ∀ w : Cond, ([Cond.stringRef "ThreeAddresses$Tape" 66 "day", Cond.stringRef "ThreeAddresses$Tape" 68 "house", Cond.stringRef "ThreeAddresses$Tape" 70 "stamps", Cond.stringRef "ThreeAddresses$Tape" 72 "number", Cond.stringRef "ThreeAddresses$Tape" 74 "order", Cond.stringRef "ThreeAddresses$Tape" 76 "long", Cond.stringRef "ThreeAddresses$Tape" 78 "takes", Cond.stringRef "ThreeAddresses$Tape" 80 "costs", Cond.stringRef "ThreeAddresses$Tape" 82 "minds", Cond.stringRef "ThreeAddresses$Tape" 84 "or", Cond.stringRef "ThreeAddresses$Tape" 86 "and", Cond.stringRef "ThreeAddresses$Tape" 88 "not", Cond.stringRef "ThreeAddresses" 53 "takes 2 ; costs 5 + long ; minds 10 ;"] : List Cond)[k]? = some w → w ∈ lw_tbl := by
    intro k w hk
    have h1 : some w ∈ ([2122, 2123, 2124, 2125, 2126, 2127, 2128, 2129, 2130, 2131, 2132, 2133, 2043] : List Nat).map mt_w := by
      rw [st_lr]
      exact List.mem_map.mpr ⟨w, List.mem_of_getElem? hk, rfl⟩
    obtain ⟨q, -, hq⟩ := List.mem_map.mp h1
    exact mt_w_mem hq
  have ho : own < 16 := mt_getD_lt h
  have h5 : own = 5 ∨ own = 8 := by
    match own, ho, h with
    | 0, _, h => cases h
    | 1, _, h => cases h
    | 2, _, h => cases h
    | 3, _, h => cases h
    | 4, _, h => cases h
    | 5, _, _ => exact Or.inl rfl
    | 6, _, h => cases h
    | 7, _, h => cases h
    | 8, _, _ => exact Or.inr rfl
    | 9, _, h => cases h
    | 10, _, h => cases h
    | 11, _, h => cases h
    | 12, _, h => cases h
    | 13, _, h => cases h
    | 14, _, h => cases h
    | 15, _, h => cases h
  rcases h5 with rfl | rfl
  · obtain ⟨k, hk⟩ := List.mem_iff_getElem?.mp h
    have hk12 : k < 12 := (List.getElem?_eq_some_iff.mp hk).1
    match k, hk12, hk with
    | 0, _, hk => cases hk; exact ⟨by decide, rfl, _, hw 0 _ rfl⟩
    | 1, _, hk => cases hk; exact ⟨by decide, rfl, _, hw 1 _ rfl⟩
    | 2, _, hk => cases hk; exact ⟨by decide, rfl, _, hw 2 _ rfl⟩
    | 3, _, hk => cases hk; exact ⟨by decide, rfl, _, hw 3 _ rfl⟩
    | 4, _, hk => cases hk; exact ⟨by decide, rfl, _, hw 4 _ rfl⟩
    | 5, _, hk => cases hk; exact ⟨by decide, rfl, _, hw 5 _ rfl⟩
    | 6, _, hk => cases hk; exact ⟨by decide, rfl, _, hw 6 _ rfl⟩
    | 7, _, hk => cases hk; exact ⟨by decide, rfl, _, hw 7 _ rfl⟩
    | 8, _, hk => cases hk; exact ⟨by decide, rfl, _, hw 8 _ rfl⟩
    | 9, _, hk => cases hk; exact ⟨by decide, rfl, _, hw 9 _ rfl⟩
    | 10, _, hk => cases hk; exact ⟨by decide, rfl, _, hw 10 _ rfl⟩
    | 11, _, hk => cases hk; exact ⟨by decide, rfl, _, hw 11 _ rfl⟩
  · obtain ⟨k, hk⟩ := List.mem_iff_getElem?.mp h
    have hk1 : k < 1 := (List.getElem?_eq_some_iff.mp hk).1
    match k, hk1, hk with
    | 0, _, hk => cases hk; exact ⟨by decide, rfl, _, hw 12 _ rfl⟩
theorem st_Z {args : Array Value} {s : State} (hts : ∀ w ∈ lw_tbl, w.before args s = true) (hg : (Jvm.Cond.and given_1 narrow_1).before args s = true) (c0 : ClassId) : ∃ (dC : Nat → ClassId) (dI : Nat → Nat → Nat) (adK adV : Nat → Nat) (ov : Value), ov.category = 1 ∧ sd_Z s args dC dI adK adV ov ∧ vk_S 13 (mt_sb.map List.length) mt_sb adK adV (fun q => s.heap.size ≤ q) s s.heap := by
  obtain ⟨dC, dI, hC⟩ := st_classes hts c0
  obtain ⟨adK, adV, hS, hev⟩ := st_strings hg
  have hA : ∀ a : Nat, a < s.heap.size → ¬ s.heap.size ≤ a := fun a h => Nat.not_le.mpr h
  have hw : ∀ k : Nat, ∀ w : Cond, ([Cond.laysStatic "java/lang/String" "COMPACT_STRINGS" "Z", Cond.initialized "java/lang/String", Cond.laysStatic "jdk/internal/util/Preconditions" "SIOOBE_FORMATTER" "Ljava/util/function/BiFunction;", Cond.initialized "jdk/internal/util/Preconditions"] : List Cond)[k]? = some w → w ∈ lw_tbl := by
    intro k w hk
    have h1 : some w ∈ ([2053, 1010, 2069, 1012] : List Nat).map mt_w := by
      rw [st_w]
      exact List.mem_map.mpr ⟨w, List.mem_of_getElem? hk, rfl⟩
    obtain ⟨q, -, hq⟩ := List.mem_map.mp h1
    exact mt_w_mem hq
  have z1 := va_Zof (A := fun q => s.heap.size ≤ q) (hts _ (hw 0 _ rfl)) (hts _ (hw 1 _ rfl)) (va_eqt (st_h hg (st_mem st_cs () List.mem_cons_self))) hA
  have z2 := va_Zqof (A := fun q => s.heap.size ≤ q) (hts _ (hw 2 _ rfl)) (hts _ (hw 3 _ rfl)) (st_h hg (st_mem st_sf () List.mem_cons_self)) hA
  have z3 : ∃ ov : Value, ov.category = 1 ∧ va_Z "jdk/internal/util/Preconditions" "SIOOBE_FORMATTER" "Ljava/util/function/BiFunction;" ov (fun q => s.heap.size ≤ q) s s.heap := by
    rcases z2 with h | ⟨t, h⟩
    · exact ⟨_, rfl, h⟩
    · exact ⟨_, rfl, h⟩
  obtain ⟨ov, hov, hz⟩ := z3
  refine ⟨dC, dI, adK, adV, ov, hov, ⟨hts, hC, fun i hi => ⟨(hS.1 i hi).1, (hS.1 i hi).2.1, (hS.1 i hi).2.2.1⟩, ?_, z1, hz⟩, hS⟩
  intro own e he
  obtain ⟨h1, h2, tx, h3⟩ := st_link he
  have h4 := hev e.2.1 h1
  rw [h2] at h4
  exact ⟨tx, vk_R.of (hts _ h3) h4⟩
/-! THE CLAIM OUT OF ONE WALK OF THE LAW'S BODY. Your part is whole_start (and what it stands on); all else here is the same for every law, but numbers. -/
def R_law : String := "ThreeAddressesLaw"
def lw_P (b : Addr) (xs : List Int32) (args : Array Value) (s : State) : Prop := args = #[.ref b] ∧ s.IntsAt b xs ∧ xs.length ≤ 3072 ∧ (Jvm.Cond.and given_1 narrow_1).before args s = true
def lw_Q (_ : Array Value) (s : State) (o : Outcome) (t : State) : Prop := o = .returned (some (.int 1)) ∧ Framed s o t [] 600000 7302250
def lw_Z (below : List Frame) (a : Array Value) (s : State) : State → Prop := fun t => ∃ o, t.status = .running ∧ Ended t below o ∧ lw_Q a s o t
/-- the law's own end, with 1 on the stack, nothing written that was there before, its room as the claim has it -/
theorem lw_ret {p : Program} {l : Launch} {e : Env} {s : State} {m : MethodId} {below : List Frame} {meth : Method} {c : Code} {b : Nat} (hx : p.tables.exec = Jvm.exec) (hb : c.code = code) (hr : meth.sig.returnType = ret) (hlocks : meth.locks = false) {pc : Nat} {H : Heap} {ls : Array Slot} (hdg : decode code pc = .ok (.ireturn, 1)) : W p l e room_1 s m #[Value.ref b] below meth c H [] 600000 7302250 (lw_Z below #[Value.ref b] s) (F0 m pc ls [.int 1]) := by
  intro T hT X
  obtain ⟨fs, hret, hrun, hended, hW, hframe⟩ := X.leave (v := some (.int 1)) (hlocks := hlocks) (fun h => by rw [hr] at h; cases h)
  have hmeth' : T.vm.method? m = some meth := X.method'
  refine ⟨T.setFrames fs, ?_, .returned (some (.int 1)), hrun, hended, rfl, ⟨_, rfl⟩, hW, hframe⟩
  jvm_step X.here [X.here.top, hx, hb, hdg, hmeth', hr, ret, narrow_b1]
  (try refine ⟨rfl, ?_⟩); (try refine ⟨rfl, ?_⟩)
  first | (intro acts; rw [hret _ acts rfl rfl rfl]) | rw [hret _ _ rfl rfl rfl]
  exact Steps.refl _
/-- what holds at the law's entry: the machine, the code, the tables' words (any of lw_tbl by 'hts w (by decide +kernel)'), the script of L ints xs at the cell b, what the Statement gives of the start (any of its parts by flat_of_before) -/
def lw_At (p : Program) (s : State) (m : MethodId) (meth : Method) (c : Code) (b L : Nat) (xs : Nat → Int32) : Prop :=
  p.tables.exec = Jvm.exec ∧ c.code = code ∧ meth.sig.returnType = ret ∧ c.maxLocals = 4 ∧ s.vm.findClass R_law = some m.cls ∧ (∀ w ∈ lw_tbl, w.before #[Value.ref b] s = true) ∧ va_X b L xs s s.heap ∧ b < s.heap.size ∧ meth.locks = false ∧ (Jvm.Cond.and given_1 narrow_1).before #[Value.ref b] s = true
/-- the law's run out of a run of the machine -/
theorem sd_start {p : Program} {e : Env} {s : State} {m : MethodId} {below : List Frame} {meth : Method} {c : Code} (l : Launch) {b L : Nat} {xs : Nat → Int32} (hL : L ≤ 3072) (C0 : lw_At p s m meth c b L xs) (hgo : ∃ M' n, ma_go 1300 n 192 (ma_ini 192 [.inr (.inr (1, 0))] (lw_M0 L xs)) = some (some (.inl 1), M')) : W p l e room_1 s m #[Value.ref b] below meth c s.heap [] 0 0 (lw_Z below #[Value.ref b] s) (entryFrame m ([Value.ref b] : List Value).toArray 4) := by
  obtain ⟨hx, hb, hr, hml, hown, hts, hX, hbl, hlocks, hgv⟩ := C0
  obtain ⟨dC, dI, adK, adV, ov, hov, Z, hS⟩ := st_Z hts hgv m.cls
  obtain ⟨M', n, hgo⟩ := hgo
  have T := sd_main (l := l) Z hov n 1300 192 _ _ M' (by decide) hgo
  have hW0 : sd_W s dC dI adK adV ov (lw_A b adK adV) (lw_M0 L xs) s.heap := st_world hL hX hbl hS
  have F : sd_F p s m meth c 192 s := ⟨hx, hb, hml, hown, (fun h => by cases h), State.WarmedH.refl s⟩
  have hmc : (mt_mc.getD 192 (0, 0)).1 ≤ 600000 ∧ (mt_mc.getD 192 (0, 0)).2 ≤ 7302250 := by decide +kernel
  have hvs : sd_vs (lw_M0 L xs) [.inr (.inr (1, 0))] := sd_vs.cons (Or.inr (Or.inr Nat.zero_lt_one)) (fun v h => by cases h)
  have h1 := T (lw_A b adK adV) p e room_1 s m #[Value.ref b] below meth c s.heap [] (lw_Z below #[Value.ref b] s) _ F ⟨by decide, by decide, hmc.1, hmc.2⟩ ⟨hW0, sd_entry hov (by decide), (fun v h => by cases h), (fun v h => by
    rcases List.mem_append.mp h with w | w
    · exact hvs v (sd_args_ok (M := lw_M0 L xs) _ v w)
    · cases (List.mem_replicate.mp w).2), (fun q h => by cases h)⟩ (fun A' H' locs' ls' pc' i a' b' _ _ _ hlc ha' hb' hd hi => by
    have hd' : decode code pc' = .ok (i, 1) := hd
    rcases hi with ⟨-, h, -⟩ | ⟨rfl, -⟩ | ⟨-, v, h, -⟩ | ⟨-, v, h, -⟩
    · cases h
    · exact va_forget hlc (W.widen (Nat.le_trans ha' hmc.1) (Nat.le_trans hb' hmc.2) (lw_ret hx hb hr hlocks hd'))
    · cases h
    · cases h)
  rw [lg_entry_eq]
  exact h1

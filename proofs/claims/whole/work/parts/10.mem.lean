/-! ===== rows that read and write the memory ===== -/
theorem sd_word {s0 s : State} {a0 args : Array Value} {dC : Nat → ClassId} {dI : Nat → Nat → Nat} {adK adV : Nat → Nat} {ov : Value} {w : Cond} (Z : sd_Z s0 a0 dC dI adK adV ov) (hW : s0.WarmedH s.vm) (hm : w ∈ lw_tbl) (hg : (w.onTables && w.keeps) = true ∨ ∃ ty, w = .arrayClass ty) : w.before args s = true := word_at hW hg (Z.1 w hm)
theorem sd_lay_good (C : String) (T : u_T) (k : Nat) : ((u_lay C T k).onTables && (u_lay C T k).keeps) = true := by
  unfold u_lay
  split <;> first | rfl | simp [Cond.onTables, Cond.keeps, Cond.steady]
theorem sd_cases {c : Nat} {q : vw_C} (h : ma_cls[c]? = some q) : c = 0 ∨ c = 1 ∨ c = 2 ∨ c = 3 ∨ c = 4 ∨ c = 5 ∨ c = 6 ∨ c = 7 ∨ c = 8 ∨ c = 9 := by
  have hc : c < 10 := (List.getElem?_eq_some_iff.mp h).1
  omega
theorem sd_nm {c : Nat} {q : vw_C} (h : ma_cls[c]? = some q) : ∀ a, a < q.2.2 → ∀ b, b < q.2.2 → a ≠ b → (q.2.1 a).2.1 ≠ (q.2.1 b).2.1 := by
  rcases sd_cases h with rfl | rfl | rfl | rfl | rfl | rfl | rfl | rfl | rfl | rfl <;> cases h
  · exact nmX0
  · exact nmX1
  · exact nmX2
  · exact nmX3
  · exact nmX4
  · exact nmX5
  · exact nmX6
  · exact nmX7
  · exact nmX8
  · exact nmX9
theorem sd_ty {c : Nat} {q : vw_C} (h : ma_cls[c]? = some q) : ∀ k, k < q.2.2 → parseFieldDescriptor (q.2.1 k).2.2.1 = some ((ma_tys.getD c tyX0) k) := by
  rcases sd_cases h with rfl | rfl | rfl | rfl | rfl | rfl | rfl | rfl | rfl | rfl <;> cases h
  · exact tyX0_ok
  · exact tyX1_ok
  · exact tyX2_ok
  · exact tyX3_ok
  · exact tyX4_ok
  · exact tyX5_ok
  · exact tyX6_ok
  · exact tyX7_ok
  · exact tyX8_ok
  · exact tyX9_ok
theorem sd_fo {c : Nat} {q : vw_C} (h : ma_cls[c]? = some q) : ∀ k, k < q.2.2 → (q.2.1 k).1 = q.1 := by
  have key : ∀ (n : Nat) (T : u_T) (C : String), (List.range n).map (fun k => (T k).1) = (List.range n).map (fun _ => C) → ∀ k, k < n → (T k).1 = C := by
    intro n T C he k hk
    have h1 := congrArg (fun l => l[k]?) he
    simpa [hk] using h1
  rcases sd_cases h with rfl | rfl | rfl | rfl | rfl | rfl | rfl | rfl | rfl | rfl <;> cases h
  · exact key _ _ _ ck_fo_0
  · exact key _ _ _ ck_fo_1
  · exact key _ _ _ ck_fo_2
  · exact key _ _ _ ck_fo_3
  · exact key _ _ _ ck_fo_4
  · exact key _ _ _ ck_fo_5
  · exact key _ _ _ ck_fo_6
  · exact key _ _ _ ck_fo_7
  · exact key _ _ _ ck_fo_8
  · exact key _ _ _ ck_fo_9
theorem sd_cn {c : Nat} {q : vw_C} (h : ma_cls[c]? = some q) : mt_cn.getD c "" = q.1 := by
  have hc : c < 10 := (List.getElem?_eq_some_iff.mp h).1
  have h1 := congrArg (fun l => l[c]?) ck_cn
  simp only [List.getElem?_map, List.getElem?_range hc, Option.map_some, h] at h1
  exact Option.some.inj (Option.some.inj h1)
/-- what the tables say of a field -/
theorem sd_f {c : Nat} {q : vw_C} (h : ma_cls[c]? = some q) : (mt_rf.getD c []).length = q.2.2 ∧ ∀ k, k < q.2.2 → (ma_rf c k = true → defaultValue ((ma_tys.getD c tyX0) k) = .null) ∧ (ma_rf c k = false → defaultValue ((ma_tys.getD c tyX0) k) = .int 0) ∧ ma_ff c k = (q.2.1 k).2.2.2 ∧ (ma_rf c k = true → ((ma_tys.getD c tyX0) k).isReference = true) ∧ (ma_rf c k = false → ma_bf c k = true → (ma_tys.getD c tyX0) k = .boolean) ∧ (ma_rf c k = false → ma_bf c k = false → (ma_tys.getD c tyX0) k = .int) := by
  have hc : c < 10 := (List.getElem?_eq_some_iff.mp h).1
  have h1 := List.all_eq_true.mp ck_f_ok c (List.mem_range.mpr hc)
  unfold ck_f at h1
  rw [h] at h1
  dsimp only at h1
  rw [Bool.and_eq_true] at h1
  refine ⟨Nat.eq_of_beq_eq_true h1.1, fun k hk => ?_⟩
  have h2 := List.all_eq_true.mp h1.2 k (List.mem_range.mpr hk)
  simp only [Bool.and_eq_true, decide_eq_true_eq] at h2
  obtain ⟨⟨⟨a1, a2⟩, a3⟩, a4⟩ := h2
  refine ⟨a1, a2, a3, fun e => ?_, fun e e2 => ?_, fun e e2 => ?_⟩
  · rw [e] at a4; exact a4
  · rw [e, e2] at a4; exact of_decide_eq_true a4
  · rw [e, e2] at a4; exact of_decide_eq_true a4
section SDM
variable {p : Program} {l : Launch} {e : Env} {R : Room} {s : State} {m : MethodId} {args : Array Value} {below : List Frame} {meth : Method} {cd : Code} {H : Heap} {locs : List Loc} {Q : State → Prop}
variable {s0 : State} {a0 : Array Value} {dC : Nat → ClassId} {dI : Nat → Nat → Nat} {adK adV : Nat → Nat} {ov : Value} {nL : Nat} {A : Nat → Nat → Nat} {M : ma_M} {L : List (Option ma_V)} {st : List ma_V} {ls : Array Slot} {pc a b y : Nat}
variable {al : List (Bool × ma_C)} {df : Option ma_C} {cc : ByteArray}
theorem sd_fld (Z : sd_Z s0 a0 dC dI adK adV ov) (hW : s0.WarmedH s.vm) (args : Array Value) {ci : Nat} {q : vw_C} (hc : ma_cls[ci]? = some q) : (∀ w ∈ u_ws q.1 q.2.1 q.2.2, w.before args s = true) ∧ u_Kn s q.1 q.2.1 q.2.2 (dC ci) (dI ci) := by
  refine ⟨fun w hw => ?_, u_Kn_moved hW.alike (Z.2.1 ci q hc)⟩
  obtain ⟨k, hk, rfl⟩ := List.mem_map.mp hw
  exact sd_word Z hW (sd_lay hc _ hw) (Or.inl (sd_lay_good _ _ _))
theorem sd_gk {g : Nat} (hg : ma_gk g ≠ 0) {i : Nat} (h : sd_ok M (g, i)) : i < M.1 g ∧ g ≠ 0 ∧ g ≠ 4 := by
  have h0 : g ≠ 0 := fun e => hg (by rw [e]; rfl)
  have h4 : g ≠ 4 := fun e => hg (by rw [e]; rfl)
  rcases h with h | h | h
  · exact absurd h h0
  · exact absurd h h4
  · exact ⟨h, h0, h4⟩
theorem sd_ref {g i : Nat} (h0 : g ≠ 0) (h4 : g ≠ 4) : sd_v A ov (.inr (.inr (g, i))) = .ref (A g i) := by
  show sd_r A ov (g, i) = _
  simp [sd_r, h0, h4]
/-- an object of the world -/
theorem sd_obj (hw : sd_W s0 dC dI adK adV ov A M H) {g ci i : Nat} {q : vw_C} (hg : ma_gk g = 100 + ci) (hc : ma_cls[ci]? = some q) (hi : i < M.1 g) : t_OB (A g i) (dC ci) q.2.2 (dI ci) H (sd_slot A ov M g i) ∧ 5 ≤ g ∧ ma_gl g = q.2.2 := by
  have hci : ci < 10 := (List.getElem?_eq_some_iff.mp hc).1
  have h2 : g ≠ 2 := fun e => by rw [e] at hg; have : ma_gk 2 = 200 := rfl; omega
  have h1 := hw.1 g i hi h2
  have hck := sd_g g
  unfold ck_g at hck
  have e1 : Nat.ble 200 (ma_gk g) = false := by rw [hg]; cases h : Nat.ble 200 (100 + ci) with
    | false => rfl
    | true => have := Nat.le_of_ble_eq_true h; omega
  have e2 : Nat.ble 100 (ma_gk g) = true := Nat.ble_eq_true_of_le (by omega)
  rw [e1, e2] at hck
  simp only [cond_false, cond_true, Bool.and_eq_true] at hck
  have e3 : ma_gk g - 100 = ci := by omega
  rw [e3] at hck
  have hl : ma_gl g = q.2.2 := by
    have := Nat.eq_of_beq_eq_true hck.1.2
    rw [← this]
    exact (sd_f hc).1
  unfold sd_at at h1
  rw [e2, e3, hl] at h1
  exact ⟨h1, Nat.le_of_ble_eq_true hck.2, hl⟩
theorem sd_slot_obj {g ci i j : Nat} (hg : ma_gk g = 100 + ci) : sd_slot A ov M g i j = bif ma_rf ci j then sd_r A ov (M.2.2 g i j) else .int (M.2.1 g i j) := by
  unfold sd_slot sd_rf
  have e2 : Nat.ble 100 (ma_gk g) = true := Nat.ble_eq_true_of_le (by omega)
  rw [e2, show ma_gk g - 100 = ci by omega]
  rfl
theorem sd_rf_obj {g ci j : Nat} (hg : ma_gk g = 100 + ci) : sd_rf g j = ma_rf ci j := by
  unfold sd_rf
  have e2 : Nat.ble 100 (ma_gk g) = true := Nat.ble_eq_true_of_le (by omega)
  rw [e2, show ma_gk g - 100 = ci by omega]
  rfl
theorem sd_gf (F : sd_F p s m meth cd y s0) (Z : sd_Z s0 a0 dC dI adK adV ov) (B : sd_B s0 dC dI adK adV ov nL A M L st H locs ls) {idx : Nat} (hs : ma_gf pc L st M a b (mt_own.getD y 0) idx = .inl (al, df)) (hP : ma_sel (sd_P p l e R s m args below meth cd Q s0 dC dI adK adV ov nL A M) False df al)
    (hd : decode (mt_code.getD y ⟨#[]⟩) pc = .ok (.getfield idx, 3)) : W p l e R s m args below meth cd H locs a b Q (F0 m pc ls (st.map (sd_v A ov))) := by
  obtain ⟨hx, hb, hml, hown, -, hW⟩ := F
  unfold ma_gf at hs
  split at hs
  · rename_i ci j pos g i r hf
    have hfw := sd_ft hf
    have hfj := sd_fj hf
    unfold mt_fw at hfw
    unfold ck_fj at hfj
    dsimp only at hs hfw hfj
    cases h13 : Nat.beq ci 13 with
    | true =>
      rw [h13] at hs hfw
      simp only [cond_true] at hs hfw
      cases hg2 : Nat.beq g 2 with
      | false =>
        rw [hg2] at hs
        unfold ma_no at hs
        cases hs
        exact hP.elim
      | true =>
        rw [hg2] at hs
        have := Nat.eq_of_beq_eq_true hg2
        subst this
        obtain ⟨hi, -, -⟩ := sd_gk (M := M) (g := 2) (i := i) (by decide) B.2.2.1.head
        have hi13 : i < 13 := by rw [B.1.2.2.2.2.2.2.2.2.1] at hi; exact hi
        have hold : ∀ q : Nat, q < s0.heap.size → ¬ (s0.heap.size ≤ q) → H[q]? = s0.heap[q]? := fun q h1 _ => B.1.2.2.2.2.1 q h1
        have hA := B.1.2.2.2.2.2.2.1 i hi13
        rw [List.map_cons, sd_ref (by decide) (by decide), hA.1]
        cases hj : Nat.beq j 0 with
        | true =>
          rw [hj] at hs hfw
          unfold ma_nx at hs
          cases hs
          obtain ⟨cf, k, fi, f, cell, h1, h2, h3, h4, h5, h6⟩ := (va_OF.moved hW.alike (Z.2.2.1 i hi13).2.2).kept hold
          refine W.getf hx hb hown (sd_word Z hW hfw (Or.inl rfl)) h1 h2 h3 h4 (v := .ref (adV i)) h5 rfl rfl hd ?_
          have h7 := sd_nx B hP (sd_vs.cons (Or.inr (Or.inr (by rw [B.1.2.2.2.2.2.2.2.2.2]; exact hi13))) B.2.2.1.tail)
          rw [List.map_cons, sd_ref (by decide) (by decide), hA.2] at h7
          exact h7
        | false =>
          rw [hj] at hs hfw
          unfold ma_nx at hs
          cases hs
          obtain ⟨cf, k, fi, f, cell, h1, h2, h3, h4, h5, h6⟩ := (va_OF.moved hW.alike (Z.2.2.1 i hi13).2.1).kept hold
          exact W.getf hx hb hown (sd_word Z hW hfw (Or.inl rfl)) h1 h2 h3 h4 (v := .int 0) h5 rfl rfl hd (sd_nx B hP (sd_vs.cons trivial B.2.2.1.tail))
    | false =>
      rw [h13] at hs hfw hfj
      simp only [cond_false, Bool.false_or] at hs hfw hfj
      cases hc : ma_cls[ci]? with
      | none => rw [hc] at hfj; cases hfj
      | some q =>
        rw [hc] at hfj hfw
        dsimp only at hfj hfw
        have hj : j < q.2.2 := Nat.le_of_ble_eq_true hfj
        cases hk : Nat.beq (ma_gk g) (100 + ci) with
        | false =>
          rw [hk] at hs
          unfold ma_no at hs
          cases hs
          exact hP.elim
        | true =>
          rw [hk] at hs
          have hg := Nat.eq_of_beq_eq_true hk
          obtain ⟨hi, h0, h4⟩ := sd_gk (M := M) (g := g) (i := i) (by omega) B.2.2.1.head
          obtain ⟨⟨cell, q1, q2, q3, q4⟩, -, -⟩ := sd_obj B.1 hg hc hi
          obtain ⟨hts, hS, hfc, kC, hkC, hkind⟩ := sd_fld Z hW args hc
          obtain ⟨cf, kf, fi, f, hfi, hsl⟩ := hS j hj
          have hst := (u_facts hfc hkC (u_lays hts (fun w h => h) hj) hfi).1
          rw [List.map_cons, sd_ref h0 h4]
          refine W.getf hx hb hown (sd_word Z hW hfw (Or.inl rfl)) hfi hst q1 (by rw [q3]; exact fun h => by cases h) (v := sd_slot A ov M g i j) (by rw [hsl]; exact q4 j hj) rfl rfl hd ?_
          rw [sd_slot_obj hg]
          cases hr : ma_rf ci j with
          | true =>
            rw [hr] at hs
            simp only [cond_true] at hs ⊢
            unfold ma_nx at hs
            cases hs
            exact sd_nx B hP (sd_vs.cons (B.1.2.2.2.1 g i j hi (by rw [sd_rf_obj hg]; exact hr)) B.2.2.1.tail)
          | false =>
            rw [hr] at hs
            simp only [cond_false] at hs ⊢
            unfold ma_nx at hs
            cases hs
            exact sd_nx B hP (sd_vs.cons trivial B.2.2.1.tail)
  · unfold ma_no at hs
    cases hs
    exact hP.elim
end SDM

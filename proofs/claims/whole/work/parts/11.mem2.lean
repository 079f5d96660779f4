/-! ===== rows that write the memory ===== -/
section SDN
variable {p : Program} {l : Launch} {e : Env} {R : Room} {s : State} {m : MethodId} {args : Array Value} {below : List Frame} {meth : Method} {cd : Code} {H H' : Heap} {locs : List Loc} {Q : State → Prop}
variable {s0 : State} {a0 : Array Value} {dC : Nat → ClassId} {dI : Nat → Nat → Nat} {adK adV : Nat → Nat} {ov : Value} {nL : Nat} {A : Nat → Nat → Nat} {M M' : ma_M} {L : List (Option ma_V)} {st : List ma_V} {ls : Array Slot} {pc a b y : Nat}
variable {al : List (Bool × ma_C)} {df : Option ma_C} {cc : ByteArray}
theorem sd_at_keep {h k : Nat} (h1 : sd_at s0 dC dI A ov M H h k) (hs : sd_slot A ov M' h k = sd_slot A ov M h k) (hl : ma_len M' h k = ma_len M h k) (hq : H'[A h k]? = H[A h k]?) : sd_at s0 dC dI A ov M' H' h k := by
  unfold sd_at at h1 ⊢
  rw [hs, hl]
  cases h100 : Nat.ble 100 (ma_gk h) with
  | true =>
    rw [h100] at h1
    exact h1.kept hq
  | false =>
    rw [h100] at h1
    cases h5 : Nat.ble 5 h with
    | true =>
      rw [h5] at h1
      obtain ⟨cA, a1, a2⟩ := h1
      exact ⟨cA, by rw [hq]; exact a1, a2⟩
    | false =>
      rw [h5] at h1
      obtain ⟨cell, a1, a2⟩ := h1
      exact ⟨cell, by rw [hq]; exact a1, a2⟩
theorem sd_W_upd (hw : sd_W s0 dC dI adK adV ov A M H) (hn : M'.1 = M.1) {g i : Nat} (hg : 5 ≤ g) (hi : i < M.1 g) (ho : ∀ h k, (h ≠ g ∨ k ≠ i) → sd_slot A ov M' h k = sd_slot A ov M h k) (hl : ∀ h k, ma_len M' h k = ma_len M h k) (hr : ∀ h k j, sd_rf h j = true → sd_ok M (M'.2.2 h k j) ∨ M'.2.2 h k j = M.2.2 h k j)
    (hself : sd_at s0 dC dI A ov M' H' g i) (hz : H'.size = H.size) (oq : ∀ q, q ≠ A g i → H'[q]? = H[q]?) : sd_W s0 dC dI adK adV ov A M' H' := by
  obtain ⟨w1, w2, w3, w4, w5, w6, w7, w8, w9, w10⟩ := hw
  have hgi := (w2 g i hi).2.1 hg
  have ne : ∀ h k, k < M.1 h → (h ≠ g ∨ k ≠ i) → A h k ≠ A g i := by
    intro h k hk hne e
    rcases Nat.lt_or_ge h 5 with h5 | h5
    · have := (w2 h k hk).2.2 h5
      omega
    · obtain ⟨e1, e2⟩ := w3 h k g i h5 hg hk hi e
      rcases hne with q | q
      · exact q e1
      · exact q e2
  refine ⟨fun h k hk h2 => ?_, fun h k hk => ?_, fun h k h' k' a1 a2 a3 a4 => ?_, fun h k j hk hj => ?_, fun q hq => ?_, by rw [hz]; exact w6, w7, by rw [hn]; exact w8, by rw [hn]; exact w9, by rw [hn]; exact w10⟩
  · rw [hn] at hk
    by_cases e : h = g ∧ k = i
    · obtain ⟨rfl, rfl⟩ := e
      exact hself
    · have hne : h ≠ g ∨ k ≠ i := by
        by_cases e1 : h = g
        · exact Or.inr (fun e2 => e ⟨e1, e2⟩)
        · exact Or.inl e1
      exact sd_at_keep (w1 h k hk h2) (ho h k hne) (hl h k) (oq _ (ne h k hk hne))
  · rw [hn] at hk
    rw [hz]
    exact w2 h k hk
  · rw [hn] at a3 a4
    exact w3 h k h' k' a1 a2 a3 a4
  · rw [hn] at hk
    have h1 : sd_ok M (M'.2.2 h k j) := by
      rcases hr h k j hj with q | q
      · exact q
      · rw [q]; exact w4 h k j hk hj
    rcases h1 with q | q | q
    · exact Or.inl q
    · exact Or.inr (Or.inl q)
    · exact Or.inr (Or.inr (by rw [hn]; exact q))
  · rw [oq q (by omega)]
    exact w5 q hq
theorem sd_slot_up {g i j : Nat} {v : Int32} (hr : sd_rf g j = false) : sd_slot A ov (M.1, ma_up M.2.1 g i j v, M.2.2) g i = updV (sd_slot A ov M g i) j (.int v) := by
  funext k
  by_cases e : k = j
  · subst e
    simp [sd_slot, hr, ma_up, updV]
  · simp [sd_slot, ma_up, updV, e]
theorem sd_slot_up_ne {g i j h k : Nat} {v : Int32} (hne : h ≠ g ∨ k ≠ i) : sd_slot A ov (M.1, ma_up M.2.1 g i j v, M.2.2) h k = sd_slot A ov M h k := by
  funext x
  unfold sd_slot ma_up
  rcases hne with q | q
  · simp [q]
  · by_cases e : h = g
    · simp [e, q]
    · simp [e]
theorem sd_slot_ur {g i j : Nat} {q : Nat × Nat} (hr : sd_rf g j = true) : sd_slot A ov (M.1, M.2.1, ma_ur M.2.2 g i j q) g i = updV (sd_slot A ov M g i) j (sd_r A ov q) := by
  funext k
  by_cases e : k = j
  · subst e
    simp [sd_slot, hr, ma_ur, updV]
  · simp [sd_slot, ma_ur, updV, e]
theorem sd_slot_ur_ne {g i j h k : Nat} {q : Nat × Nat} (hne : h ≠ g ∨ k ≠ i) : sd_slot A ov (M.1, M.2.1, ma_ur M.2.2 g i j q) h k = sd_slot A ov M h k := by
  funext x
  unfold sd_slot ma_ur
  rcases hne with q | q
  · simp [q]
  · by_cases e : h = g
    · simp [e, q]
    · simp [e]
theorem sd_len_up {g i j h k : Nat} {v : Int32} (hg : 5 ≤ g) : ma_len (M.1, ma_up M.2.1 g i j v, M.2.2) h k = ma_len M h k := by
  unfold ma_len ma_up
  have : (1 : Nat) ≠ g := by omega
  simp [this]
theorem sd_len_ur {g i j h k : Nat} {q : Nat × Nat} : ma_len (M.1, M.2.1, ma_ur M.2.2 g i j q) h k = ma_len M h k := rfl
theorem sd_locs (h : ∀ q ∈ locs, s0.heap.size ≤ q.base) {x : Nat} (hx : s0.heap.size ≤ x) (k : Nat) : ∀ q ∈ locs ++ [(⟨x, k⟩ : Loc)], s0.heap.size ≤ q.base := by
  intro q hq
  rcases List.mem_append.mp hq with h1 | h1
  · exact h q h1
  · rw [List.mem_singleton.mp h1]
    exact hx
theorem sd_b01 {v : Int32} (h : ma_b01 v = true) : narrow .boolean (.int v) = .int v ∧ fits .boolean (.int v) = true := by
  unfold ma_b01 at h
  simp only [Bool.or_eq_true, decide_eq_true_eq] at h
  rcases h with rfl | rfl
  · exact ⟨by decide, by decide⟩
  · exact ⟨by decide, by decide⟩
theorem sd_fitr {ty : FieldType} (h : ty.isReference = true) (x : Nat) : narrow ty (.ref x) = .ref x ∧ fits ty (.ref x) = true := by
  cases ty <;> first | (cases h; done) | exact ⟨rfl, rfl⟩
/-- a store into a field, final or not -/
theorem sd_putf (F : sd_F p s m meth cd y s0) (Z : sd_Z s0 a0 dC dI adK adV ov) (hw : sd_W s0 dC dI adK adV ov A M H) {idx ci j g i : Nat} {q : vw_C} (hc : ma_cls[ci]? = some q) (hj : j < q.2.2) (hg : ma_gk g = 100 + ci) (hi : i < M.1 g) (hlink : Cond.fieldLink (mt_cn.getD (mt_own.getD y 0) "") idx (q.2.1 j).1 (q.2.1 j).2.1 (q.2.1 j).2.2.1 ∈ lw_tbl)
    (hfin : ma_ff ci j = false ∨ (mt_ini.getD y false = true ∧ mt_own.getD y 0 = ci)) {v : Value} (hn : narrow ((ma_tys.getD ci tyX0) j) v = v) (hv : fits ((ma_tys.getD ci tyX0) j) v = true) {rest : List Value} (hd : decode (mt_code.getD y ⟨#[]⟩) pc = .ok (.putfield idx, 3))
    (kk : ∀ (H1 : Heap) (k : Nat), (t_OB (A g i) (dC ci) q.2.2 (dI ci) H1 (updV (sd_slot A ov M g i) j v)) → H1.size = H.size → (∀ x, x ≠ A g i → H1[x]? = H[x]?) → W p l e R s m args below meth cd H1 (locs ++ [⟨A g i, k⟩]) a b Q (F0 m (pc + 3) ls rest)) : W p l e R s m args below meth cd H locs a b Q (F0 m pc ls (v :: .ref (A g i) :: rest)) := by
  obtain ⟨hx, hb, hml, hown, hini, hW⟩ := F
  obtain ⟨⟨cell, q1, q2, q3, q4⟩, -, -⟩ := sd_obj hw hg hc hi
  obtain ⟨hts, hS, hfc, kC, hkC, hkind⟩ := sd_fld Z hW args hc
  obtain ⟨cf, kf, fi, f, hfi, hsl⟩ := hS j hj
  have hst := (u_facts hfc hkC (u_lays hts (fun w h => h) hj) hfi).1
  have hlk := sd_word (args := args) Z hW hlink (Or.inl rfl)
  have hap : ∀ x y, x < q.2.2 → y < q.2.2 → x ≠ y → dI ci x ≠ dI ci y := by
    intro x y hx hy hne
    obtain ⟨_, _, _, fa, hia, ea⟩ := hS x hx
    obtain ⟨_, _, _, fb, hib, eb⟩ := hS y hy
    rw [← ea, ← eb]
    refine u_apart (u_lays hts (fun w h => h) hx) (u_lays hts (fun w h => h) hy) hia hib ?_
    rw [(State.fieldFound?_type hia (sd_ty hc x hx)).1, (State.fieldFound?_type hib (sd_ty hc y hy)).1]
    exact sd_nm hc x hx y hy hne
  have hlay := hts _ (u_in_lay hj)
  have hff := ((sd_f hc).2 j hj).2.2.1
  unfold u_lay at hlay
  cases hfb : ma_ff ci j with
  | false =>
    rw [if_neg (by rw [← hff, hfb]; decide)] at hlay
    have h6 := u_store hfc hkC hkind hlay hfi (sd_ty hc j hj) hn hv
    refine W.putK hx hb (f := f) ⟨hown, hlk, ⟨_, _, _, hfi⟩, hst⟩ (by rw [q2]; exact h6) q1 q3 (by rw [hsl]; exact k2_hasslot (q4 j hj)) rfl rfl hd fun H1 e1 e2 e3 => ?_
    rw [hsl] at e1 ⊢
    exact kk H1 _ ⟨_, e1, q2, q3, t_set q4 hap hj v⟩ e2 e3
  | true =>
    rw [if_pos (by rw [← hff, hfb])] at hlay
    rcases hfin with h | ⟨h1, h2⟩
    · rw [hfb] at h; cases h
    · have hcf : m.cls = cf := by
        obtain ⟨_, _, c', _, _, _, -, -, hf', -, -, -, hown2, -⟩ := Cond.laysFinal_spec hlay
        have e1 : c' = cf := by have := hfi.symm.trans hf'; simp at this; exact this.1.symm
        rw [sd_fo hc j hj, ← sd_cn hc, ← h2] at hown2
        rw [← e1]; exact Option.some.inj (hown.symm.trans hown2)
      have h6 := u_fits hfc hkC hkind (Or.inr hlay) hfi (sd_ty hc j hj) hn hv
      refine W.putFinK hx hb hown hlk hfi hst hcf (hini h1) (by rw [q2]; exact h6) q1 q3 (by rw [hsl]; exact k2_hasslot (q4 j hj)) rfl rfl hd fun H1 e1 e2 e3 => ?_
      rw [hsl] at e1 ⊢
      exact kk H1 _ ⟨_, e1, q2, q3, t_set q4 hap hj v⟩ e2 e3
theorem sd_at_obj {g ci i : Nat} {q : vw_C} (hg : ma_gk g = 100 + ci) (hgl : ma_gl g = q.2.2) (h : t_OB (A g i) (dC ci) q.2.2 (dI ci) H (sd_slot A ov M g i)) : sd_at s0 dC dI A ov M H g i := by
  unfold sd_at
  rw [show Nat.ble 100 (ma_gk g) = true from Nat.ble_eq_true_of_le (by omega), show ma_gk g - 100 = ci by omega, hgl]
  exact h
/-- an int into a field -/
theorem sd_pfi (F : sd_F p s m meth cd y s0) (Z : sd_Z s0 a0 dC dI adK adV ov) (B : sd_B s0 dC dI adK adV ov nL A M L st H locs ls) {idx ci j g i : Nat} {x : Int32} {r : List ma_V} {q : vw_C} (hst : st = .inl x :: .inr (.inr (g, i)) :: r) (hc : ma_cls[ci]? = some q) (hj : j < q.2.2) (hk : ma_gk g = 100 + ci) (hlink : Cond.fieldLink (mt_cn.getD (mt_own.getD y 0) "") idx (q.2.1 j).1 (q.2.1 j).2.1 (q.2.1 j).2.2.1 ∈ lw_tbl)
    (hfin : ma_ff ci j = false ∨ (mt_ini.getD y false = true ∧ mt_own.getD y 0 = ci)) (hrf : ma_rf ci j = false) (hbf : ma_bf ci j = true → ma_b01 x = true) (hd : decode (mt_code.getD y ⟨#[]⟩) pc = .ok (.putfield idx, 3))
    (hP : sd_P p l e R s m args below meth cd Q s0 dC dI adK adV ov nL A M (pc + 3, L, r, (M.1, ma_up M.2.1 g i j x, M.2.2), a, b)) : W p l e R s m args below meth cd H locs a b Q (F0 m pc ls (st.map (sd_v A ov))) := by
  subst hst
  obtain ⟨hi, h0, h4⟩ := sd_gk (M := M) (g := g) (i := i) (by omega) B.2.2.1.tail.head
  obtain ⟨-, h5, hgl⟩ := sd_obj B.1 hk hc hi
  have hty : narrow ((ma_tys.getD ci tyX0) j) (.int x) = .int x ∧ fits ((ma_tys.getD ci tyX0) j) (.int x) = true := by
    have hf := (sd_f hc).2 j hj
    cases hb : ma_bf ci j with
    | true => rw [hf.2.2.2.2.1 hrf hb]; exact sd_b01 (hbf hb)
    | false => rw [hf.2.2.2.2.2 hrf hb]; exact ⟨rfl, rfl⟩
  have hga := (B.1.2.1 g i hi).2.1 h5
  rw [List.map_cons, List.map_cons, sd_ref h0 h4]
  refine sd_putf F Z B.1 hc hj hk hi hlink hfin (v := .int x) hty.1 hty.2 hd (fun H1 k hob hz oq => ?_)
  refine hP A H1 _ ls ⟨sd_W_upd B.1 (M' := (M.1, ma_up M.2.1 g i j x, M.2.2)) rfl h5 hi (fun h k hne => sd_slot_up_ne hne) (fun h k => sd_len_up h5) (fun h k j _ => Or.inr rfl) ?_ hz oq, B.2.1, fun v hv => B.2.2.1.tail.tail v hv, B.2.2.2.1, sd_locs B.2.2.2.2 hga k⟩ (sd_ext.n rfl)
  exact sd_at_obj hk hgl (by rw [sd_slot_up (by rw [sd_rf_obj hk]; exact hrf)]; exact hob)
/-- a reference into a field -/
theorem sd_pfr (F : sd_F p s m meth cd y s0) (Z : sd_Z s0 a0 dC dI adK adV ov) (B : sd_B s0 dC dI adK adV ov nL A M L st H locs ls) {idx ci j g i : Nat} {x : Nat × Nat} {r : List ma_V} {q : vw_C} (hst : st = .inr (.inr x) :: .inr (.inr (g, i)) :: r) (hc : ma_cls[ci]? = some q) (hj : j < q.2.2) (hk : ma_gk g = 100 + ci) (hlink : Cond.fieldLink (mt_cn.getD (mt_own.getD y 0) "") idx (q.2.1 j).1 (q.2.1 j).2.1 (q.2.1 j).2.2.1 ∈ lw_tbl)
    (hfin : ma_ff ci j = false ∨ (mt_ini.getD y false = true ∧ mt_own.getD y 0 = ci)) (hrf : ma_rf ci j = true) (hnn : ma_nn x = true) (hd : decode (mt_code.getD y ⟨#[]⟩) pc = .ok (.putfield idx, 3))
    (hP : sd_P p l e R s m args below meth cd Q s0 dC dI adK adV ov nL A M (pc + 3, L, r, (M.1, M.2.1, ma_ur M.2.2 g i j x), a, b)) : W p l e R s m args below meth cd H locs a b Q (F0 m pc ls (st.map (sd_v A ov))) := by
  subst hst
  obtain ⟨hi, h0, h4⟩ := sd_gk (M := M) (g := g) (i := i) (by omega) B.2.2.1.tail.head
  obtain ⟨-, h5, hgl⟩ := sd_obj B.1 hk hc hi
  have hxr : sd_v A ov (.inr (.inr x)) = .ref (A x.1 x.2) := (sd_r_nn (A := A) (ov := ov) hnn).1
  have hty := sd_fitr (((sd_f hc).2 j hj).2.2.2.1 hrf) (A x.1 x.2)
  have hga := (B.1.2.1 g i hi).2.1 h5
  rw [List.map_cons, List.map_cons, sd_ref h0 h4, hxr]
  refine sd_putf F Z B.1 hc hj hk hi hlink hfin (v := .ref (A x.1 x.2)) hty.1 hty.2 hd (fun H1 k hob hz oq => ?_)
  refine hP A H1 _ ls ⟨sd_W_upd B.1 (M' := (M.1, M.2.1, ma_ur M.2.2 g i j x)) rfl h5 hi (fun h k hne => sd_slot_ur_ne hne) (fun h k => rfl) (fun h k z hz => ?_) ?_ hz oq, B.2.1, fun v hv => B.2.2.1.tail.tail v hv, B.2.2.2.1, sd_locs B.2.2.2.2 hga k⟩ (sd_ext.n rfl)
  · show sd_ok M (ma_ur M.2.2 g i j x h k z) ∨ ma_ur M.2.2 g i j x h k z = M.2.2 h k z
    unfold ma_ur
    split
    · split
      · split
        · exact Or.inl B.2.2.1.head
        · exact Or.inr rfl
      · exact Or.inr rfl
    · exact Or.inr rfl
  · refine sd_at_obj hk hgl ?_
    rw [sd_slot_ur (by rw [sd_rf_obj hk]; exact hrf), show sd_r A ov x = .ref (A x.1 x.2) from hxr]
    exact hob
theorem sd_pf (F : sd_F p s m meth cd y s0) (Z : sd_Z s0 a0 dC dI adK adV ov) (B : sd_B s0 dC dI adK adV ov nL A M L st H locs ls) {idx : Nat} (hs : ma_pf pc L st M a b y (mt_own.getD y 0) idx = .inl (al, df)) (hP : ma_sel (sd_P p l e R s m args below meth cd Q s0 dC dI adK adV ov nL A M) False df al)
    (hd : decode (mt_code.getD y ⟨#[]⟩) pc = .ok (.putfield idx, 3)) : W p l e R s m args below meth cd H locs a b Q (F0 m pc ls (st.map (sd_v A ov))) := by
  have key : ∀ {ci j pos g i : Nat}, ma_f4 idx (mt_ft.getD (mt_own.getD y 0) []) = some (ci, j, pos) → ma_gk g = 100 + ci → (g = g ∧ sd_ok M (g, i)) → ∃ q : vw_C, ma_cls[ci]? = some q ∧ j < q.2.2 ∧ Cond.fieldLink (mt_cn.getD (mt_own.getD y 0) "") idx (q.2.1 j).1 (q.2.1 j).2.1 (q.2.1 j).2.2.1 ∈ lw_tbl := by
    intro ci j pos g i hf hk _
    have hfw := sd_ft hf
    have hfj := sd_fj hf
    unfold mt_fw at hfw
    unfold ck_fj at hfj
    dsimp only at hfw hfj
    have h13 : Nat.beq ci 13 = false := by
      cases h : Nat.beq ci 13 with
      | false => rfl
      | true =>
        have e1 := Nat.eq_of_beq_eq_true h
        have hck := sd_g g
        unfold ck_g at hck
        rw [hk, e1] at hck
        cases hck
    rw [h13] at hfw hfj
    simp only [cond_false, Bool.false_or] at hfw hfj
    cases hc : ma_cls[ci]? with
    | none => rw [hc] at hfj; cases hfj
    | some q =>
      rw [hc] at hfw hfj
      exact ⟨q, rfl, Nat.le_of_ble_eq_true hfj, hfw⟩
  unfold ma_pf at hs
  split at hs
  · rename_i ci j pos v g i r hf
    cases hc : (Nat.beq (ma_gk g) (100 + ci) && !(ma_rf ci j) && (!(ma_ff ci j) || (mt_ini.getD y false && Nat.beq (mt_own.getD y 0) ci))) with
    | false =>
      rw [hc] at hs
      unfold ma_no at hs
      cases hs
      exact hP.elim
    | true =>
      rw [hc] at hs
      simp only [Bool.and_eq_true, Bool.or_eq_true, Bool.not_eq_true'] at hc
      obtain ⟨⟨c1, c2⟩, c3⟩ := hc
      have hk := Nat.eq_of_beq_eq_true c1
      obtain ⟨q, hq, hj, hlk⟩ := key (g := g) (i := i) hf hk ⟨rfl, B.2.2.1.tail.head⟩
      have hfin : ma_ff ci j = false ∨ (mt_ini.getD y false = true ∧ mt_own.getD y 0 = ci) := by
        rcases c3 with h | h
        · exact Or.inl h
        · exact Or.inr ⟨h.1, Nat.eq_of_beq_eq_true h.2⟩
      cases hbf : ma_bf ci j with
      | true =>
        rw [hbf] at hs
        unfold ma_gd at hs
        cases hs
        cases h01 : ma_b01 v with
        | true => exact sd_pfi F Z B rfl hq hj hk hlk hfin c2 (fun _ => h01) hd (by simpa [ma_sel, h01] using hP)
        | false => simp [ma_sel, h01] at hP
      | false =>
        rw [hbf] at hs
        unfold ma_nx at hs
        cases hs
        exact sd_pfi F Z B rfl hq hj hk hlk hfin c2 (fun h => by rw [hbf] at h; cases h) hd hP
  · rename_i ci j pos x g i r hf
    cases hc : (Nat.beq (ma_gk g) (100 + ci) && ma_rf ci j && ma_nn x && (!(ma_ff ci j) || (mt_ini.getD y false && Nat.beq (mt_own.getD y 0) ci))) with
    | false =>
      rw [hc] at hs
      unfold ma_no at hs
      cases hs
      exact hP.elim
    | true =>
      rw [hc] at hs
      simp only [Bool.and_eq_true, Bool.or_eq_true, Bool.not_eq_true'] at hc
      obtain ⟨⟨⟨c1, c2⟩, c4⟩, c3⟩ := hc
      have hk := Nat.eq_of_beq_eq_true c1
      obtain ⟨q, hq, hj, hlk⟩ := key (g := g) (i := i) hf hk ⟨rfl, B.2.2.1.tail.head⟩
      have hfin : ma_ff ci j = false ∨ (mt_ini.getD y false = true ∧ mt_own.getD y 0 = ci) := by
        rcases c3 with h | h
        · exact Or.inl h
        · exact Or.inr ⟨h.1, Nat.eq_of_beq_eq_true h.2⟩
      unfold ma_nx at hs
      cases hs
      exact sd_pfr F Z B rfl hq hj hk hlk hfin c2 c4 hd hP
  · unfold ma_no at hs
    cases hs
    exact hP.elim
end SDN

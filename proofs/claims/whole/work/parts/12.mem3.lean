/-! ===== rows of arrays ===== -/
section SDA
variable {p : Program} {l : Launch} {e : Env} {R : Room} {s : State} {m : MethodId} {args : Array Value} {below : List Frame} {meth : Method} {cd : Code} {H H' : Heap} {locs : List Loc} {Q : State → Prop}
variable {s0 : State} {a0 : Array Value} {dC : Nat → ClassId} {dI : Nat → Nat → Nat} {adK adV : Nat → Nat} {ov : Value} {nL : Nat} {A : Nat → Nat → Nat} {M M' : ma_M} {L : List (Option ma_V)} {st : List ma_V} {ls : Array Slot} {pc a b y : Nat}
variable {al : List (Bool × ma_C)} {df : Option ma_C} {cc : ByteArray}
theorem sd_len5 {g i : Nat} (hg : 5 ≤ g) : ma_len M g i = ma_gl g := by
  unfold ma_len
  have h1 : Nat.beq g 1 = false := by
    cases h : Nat.beq g 1 with
    | false => rfl
    | true => have := Nat.eq_of_beq_eq_true h; omega
  have h3 : Nat.beq g 3 = false := by
    cases h : Nat.beq g 3 with
    | false => rfl
    | true => have := Nat.eq_of_beq_eq_true h; omega
  rw [h1, h3]
  rfl
/-- any array of the world, as what reads it wants it -/
theorem sd_arr (hw : sd_W s0 dC dI adK adV ov A M H) (hW : s0.WarmedH s.vm) {g i : Nat} (hk : ma_gk g < 100) (hi : i < M.1 g) : ∃ cell : Cell, H[A g i]? = some cell ∧ s.isArrayOf cell (sd_ety g) ∧ cell.vm ≠ .unknown ∧ ma_len M g i ≤ cell.slots.size ∧ cell.slots.size.toInt32 = Int32.ofNat (ma_len M g i) ∧ ∀ j, j < ma_len M g i → cell.slots[j]? = some (sd_slot A ov M g i j) := by
  have h2 : g ≠ 2 := fun e => by rw [e] at hk; exact absurd hk (by decide)
  have h1 := hw.1 g i hi h2
  unfold sd_at at h1
  have h100 : Nat.ble 100 (ma_gk g) = false := by
    cases h : Nat.ble 100 (ma_gk g) with
    | false => rfl
    | true => have := Nat.le_of_ble_eq_true h; omega
  rw [h100] at h1
  cases h5 : Nat.ble 5 g with
  | true =>
    rw [h5] at h1
    obtain ⟨cA, a1, a2, a3⟩ := h1
    rw [sd_len5 (Nat.le_of_ble_eq_true h5)]
    refine ⟨_, a1, State.isArrayOf_alike hW.alike (a2 _ _), (fun h => by cases h), (by rw [arrV_size]; exact Nat.le_refl _), (by rw [arrV_size]), fun j hj => arrV_read _ _ hj⟩
  | false =>
    rw [h5] at h1
    obtain ⟨cell, a1, a2, a3, a4, a5, a6, -⟩ := h1
    exact ⟨cell, a1, State.isArrayOf_alike hW.alike a2, a3, a4, a5, a6⟩
theorem sd_ix {j : Int32} {n : Nat} (h : ma_ix j n = true) : ¬ j < 0 ∧ j.toNatClampNeg < n := by
  unfold ma_ix at h
  simp only [Bool.and_eq_true, decide_eq_true_eq] at h
  exact ⟨Int32.not_lt.mpr h.1, h.2⟩
theorem sd_in {j : Int32} {n N : Nat} (h : ma_ix j n = true) (hN : n ≤ N) : ¬ (j < 0 ∨ N ≤ j.toNatClampNeg) := by
  obtain ⟨h1, h2⟩ := sd_ix h
  rintro (q | q)
  · exact h1 q
  · omega
theorem sd_rf_low {g j : Nat} (h : ma_gk g < 10) : sd_rf g j = false := by
  unfold sd_rf
  have h100 : Nat.ble 100 (ma_gk g) = false := by
    cases h : Nat.ble 100 (ma_gk g) with
    | false => rfl
    | true => have := Nat.le_of_ble_eq_true h; omega
  have h10 : Nat.ble 10 (ma_gk g) = false := by
    cases h : Nat.ble 10 (ma_gk g) with
    | false => rfl
    | true => have := Nat.le_of_ble_eq_true h; omega
  rw [h100, h10]
  rfl
theorem sd_rf_mid {g j : Nat} (h : 10 ≤ ma_gk g) (h2 : ma_gk g < 100) (hj : j < ma_gl g) : sd_rf g j = true := by
  unfold sd_rf
  have h100 : Nat.ble 100 (ma_gk g) = false := by
    cases h : Nat.ble 100 (ma_gk g) with
    | false => rfl
    | true => have := Nat.le_of_ble_eq_true h; omega
  have hb : Nat.blt j (ma_gl g) = true := Nat.ble_eq_true_of_le hj
  rw [h100, Nat.ble_eq_true_of_le h, hb]
  rfl
theorem sd_slot_low {g i j : Nat} (h : ma_gk g < 10) : sd_slot A ov M g i j = .int (M.2.1 g i j) := by
  unfold sd_slot
  rw [sd_rf_low h]
  rfl
theorem sd_slot_mid {g i j : Nat} (h : 10 ≤ ma_gk g) (h2 : ma_gk g < 100) (hj : j < ma_gl g) : sd_slot A ov M g i j = sd_r A ov (M.2.2 g i j) := by
  unfold sd_slot
  rw [sd_rf_mid h h2 hj]
  rfl
theorem sd_ald (hW : s0.WarmedH s.vm) (B : sd_B s0 dC dI adK adV ov nL A M L st H locs ls) {k1 k2 : Nat} (hk1 : 0 < k1 ∧ k1 < 10) (hk2 : 0 < k2 ∧ k2 < 10) (hs : ma_ald pc L st M a b k1 k2 = .inl (al, df)) (hP : ma_sel (sd_P p l e R s m args below meth cd Q s0 dC dI adK adV ov nL A M) False df al)
    (row : ∀ (g : Nat) (x : Nat) (cell : Cell) (j : Int32) (v : Value) (r : List Value), (ma_gk g = k1 ∨ ma_gk g = k2) → H[x]? = some cell → s.isArrayOf cell (sd_ety g) → cell.vm ≠ .unknown → ¬ (j < 0 ∨ cell.slots.size ≤ j.toNatClampNeg) → cell.slots[j.toNatClampNeg]? = some v → W p l e R s m args below meth cd H locs a b Q (F0 m (pc + 1) ls (v :: r)) → W p l e R s m args below meth cd H locs a b Q (F0 m pc ls (.int j :: .ref x :: r))) : W p l e R s m args below meth cd H locs a b Q (F0 m pc ls (st.map (sd_v A ov))) := by
  unfold ma_ald at hs
  split at hs
  · rename_i j g i r
    cases hk : (Nat.beq (ma_gk g) k1 || Nat.beq (ma_gk g) k2) with
    | false =>
      rw [hk] at hs
      unfold ma_no at hs
      cases hs
      exact hP.elim
    | true =>
      rw [hk] at hs
      unfold ma_gd at hs
      cases hs
      have hk' : ma_gk g = k1 ∨ ma_gk g = k2 := by
        rw [Bool.or_eq_true] at hk
        exact hk.imp Nat.eq_of_beq_eq_true Nat.eq_of_beq_eq_true
      have hlow : ma_gk g < 10 ∧ 0 < ma_gk g := by
        rcases hk' with h | h <;> rw [h]
        · exact ⟨hk1.2, hk1.1⟩
        · exact ⟨hk2.2, hk2.1⟩
      obtain ⟨hi, h0, h4⟩ := sd_gk (M := M) (g := g) (i := i) (by omega) B.2.2.1.tail.head
      obtain ⟨cell, c1, c2, c3, c4, -, c6⟩ := sd_arr B.1 hW (s := s) (by omega) hi
      cases hx : ma_ix j (ma_len M g i) with
      | false => simp [ma_sel, hx] at hP
      | true =>
        have hP' : sd_P p l e R s m args below meth cd Q s0 dC dI adK adV ov nL A M (pc + 1, L, .inl (M.2.1 g i j.toNatClampNeg) :: r, M, a, b) := by simpa [ma_sel, hx] using hP
        rw [List.map_cons, List.map_cons, sd_ref h0 h4]
        refine row g _ cell j (.int (M.2.1 g i j.toNatClampNeg)) _ hk' c1 c2 c3 (sd_in hx c4) ?_ (sd_nx B hP' (sd_vs.cons trivial B.2.2.1.tail.tail))
        rw [c6 _ (sd_ix hx).2, sd_slot_low hlow.1]
  · unfold ma_no at hs
    cases hs
    exact hP.elim
theorem sd_ety1 {g : Nat} (h : ma_gk g = 1) : sd_ety g = .int := by unfold sd_ety; rw [h]; rfl
theorem sd_ety2 {g : Nat} (h : ma_gk g = 2) : sd_ety g = .boolean := by unfold sd_ety; rw [h]; rfl
theorem sd_ety3 {g : Nat} (h : ma_gk g = 3) : sd_ety g = .char := by unfold sd_ety; rw [h]; rfl
theorem sd_ety4 {g : Nat} (h : ma_gk g = 4) : sd_ety g = .byte := by unfold sd_ety; rw [h]; rfl
theorem sd_aad (F : sd_F p s m meth cd y s0) (B : sd_B s0 dC dI adK adV ov nL A M L st H locs ls) (hs : ma_aad pc L st M a b = .inl (al, df)) (hP : ma_sel (sd_P p l e R s m args below meth cd Q s0 dC dI adK adV ov nL A M) False df al) (hd : decode (mt_code.getD y ⟨#[]⟩) pc = .ok (.aaload, 1)) : W p l e R s m args below meth cd H locs a b Q (F0 m pc ls (st.map (sd_v A ov))) := by
  obtain ⟨hx0, hb, -, -, -, hW⟩ := F
  unfold ma_aad at hs
  split at hs
  · rename_i j g i r
    cases hk : (Nat.ble 10 (ma_gk g) && Nat.blt (ma_gk g) 100) with
    | false =>
      rw [hk] at hs
      unfold ma_no at hs
      cases hs
      exact hP.elim
    | true =>
      rw [hk] at hs
      unfold ma_gd at hs
      cases hs
      rw [Bool.and_eq_true] at hk
      have k1 := Nat.le_of_ble_eq_true hk.1
      have k2 : ma_gk g < 100 := Nat.le_of_ble_eq_true hk.2
      obtain ⟨hi, h0, h4⟩ := sd_gk (M := M) (g := g) (i := i) (by omega) B.2.2.1.tail.head
      have h5 : 5 ≤ g := by
        have hck := sd_g g
        unfold ck_g at hck
        rcases Nat.lt_or_ge g 5 with q | q
        · exfalso
          rcases (show g = 0 ∨ g = 1 ∨ g = 2 ∨ g = 3 ∨ g = 4 by omega) with rfl | rfl | rfl | rfl | rfl <;> first | exact absurd k1 (by decide) | exact absurd k2 (by decide)
        · exact q
      obtain ⟨cell, c1, c2, c3, c4, -, c6⟩ := sd_arr B.1 hW (s := s) k2 hi
      rw [sd_len5 h5] at c4 c6
      cases hx : ma_ix j (ma_gl g) with
      | false => simp [ma_sel, hx] at hP
      | true =>
        have hP' : sd_P p l e R s m args below meth cd Q s0 dC dI adK adV ov nL A M (pc + 1, L, .inr (.inr (M.2.2 g i j.toNatClampNeg)) :: r, M, a, b) := by simpa [ma_sel, hx] using hP
        rw [List.map_cons, List.map_cons, sd_ref h0 h4]
        have hty : sd_ety g = .object (mt_cn.getD (ma_gk g - 10) "") := by
          unfold sd_ety
          split
          · rename_i h; omega
          · rename_i h; omega
          · rename_i h; omega
          · rename_i h; omega
          · rfl
        rw [hty] at c2
        refine W.aald (v := sd_r A ov (M.2.2 g i j.toNatClampNeg)) hx0 hb c1 c2 rfl c3 (sd_in hx c4) ?_ rfl rfl hd (sd_nx B hP' (sd_vs.cons (B.1.2.2.2.1 g i _ hi (sd_rf_mid k1 k2 (sd_ix hx).2)) B.2.2.1.tail.tail))
        rw [c6 _ (sd_ix hx).2, sd_slot_mid k1 k2 (sd_ix hx).2]
  · unfold ma_no at hs
    cases hs
    exact hP.elim
theorem sd_aln (F : sd_F p s m meth cd y s0) (B : sd_B s0 dC dI adK adV ov nL A M L st H locs ls) (hs : ma_aln pc L st M a b = .inl (al, df)) (hP : ma_sel (sd_P p l e R s m args below meth cd Q s0 dC dI adK adV ov nL A M) False df al) (hd : decode (mt_code.getD y ⟨#[]⟩) pc = .ok (.arraylength, 1)) : W p l e R s m args below meth cd H locs a b Q (F0 m pc ls (st.map (sd_v A ov))) := by
  obtain ⟨hx0, hb, -, -, -, hW⟩ := F
  unfold ma_aln at hs
  split at hs
  · rename_i g i r
    cases hk : (Nat.ble 1 (ma_gk g) && Nat.blt (ma_gk g) 100) with
    | false =>
      rw [hk] at hs
      unfold ma_no at hs
      cases hs
      exact hP.elim
    | true =>
      rw [hk] at hs
      unfold ma_nx at hs
      cases hs
      rw [Bool.and_eq_true] at hk
      have k1 := Nat.le_of_ble_eq_true hk.1
      have k2 : ma_gk g < 100 := Nat.le_of_ble_eq_true hk.2
      obtain ⟨hi, h0, h4⟩ := sd_gk (M := M) (g := g) (i := i) (by omega) B.2.2.1.head
      obtain ⟨cell, c1, c2, c3, c4, c5, c6⟩ := sd_arr B.1 hW (s := s) k2 hi
      rw [List.map_cons, sd_ref h0 h4]
      exact W.alen (n := Int32.ofNat (ma_len M g i)) hx0 hb c1 c2 c5 rfl rfl hd (sd_nx B hP (sd_vs.cons trivial B.2.2.1.tail))
  · unfold ma_no at hs
    cases hs
    exact hP.elim
/-- an array that was made -/
theorem sd_own (hw : sd_W s0 dC dI adK adV ov A M H) {g i : Nat} (hk : ma_gk g < 100) (h5 : 5 ≤ g) (hi : i < M.1 g) : ∃ cA : ClassId, H[A g i]? = some (arrV cA (ma_gl g) (sd_slot A ov M g i)) ∧ ArrOfT s0 cA (sd_ety g) ∧ va_RA s0 cA (sd_ety g) := by
  have h1 := hw.1 g i hi (by omega)
  unfold sd_at at h1
  have h100 : Nat.ble 100 (ma_gk g) = false := by
    cases h : Nat.ble 100 (ma_gk g) with
    | false => rfl
    | true => have := Nat.le_of_ble_eq_true h; omega
  rw [h100, Nat.ble_eq_true_of_le h5] at h1
  exact h1
theorem sd_at_arr {g i : Nat} (hk : ma_gk g < 100) (h5 : 5 ≤ g) (h : ∃ cA : ClassId, H[A g i]? = some (arrV cA (ma_gl g) (sd_slot A ov M g i)) ∧ ArrOfT s0 cA (sd_ety g) ∧ va_RA s0 cA (sd_ety g)) : sd_at s0 dC dI A ov M H g i := by
  unfold sd_at
  have h100 : Nat.ble 100 (ma_gk g) = false := by
    cases h : Nat.ble 100 (ma_gk g) with
    | false => rfl
    | true => have := Nat.le_of_ble_eq_true h; omega
  rw [h100, Nat.ble_eq_true_of_le h5]
  exact h
theorem sd_ast (hW : s0.WarmedH s.vm) (B : sd_B s0 dC dI adK adV ov nL A M L st H locs ls) {k1 : Nat} {ok : Int32 → Bool} (hk1 : 0 < k1 ∧ k1 < 10) (hs : ma_ast pc L st M a b k1 ok = .inl (al, df)) (hP : ma_sel (sd_P p l e R s m args below meth cd Q s0 dC dI adK adV ov nL A M) False df al)
    (row : ∀ (g : Nat) (x : Nat) (cell : Cell) (v j : Int32) (r : List Value), ma_gk g = k1 → ok v = true → H[x]? = some cell → s.isArrayOf cell (sd_ety g) → cell.vm ≠ .unknown → ¬ (j < 0 ∨ cell.slots.size ≤ j.toNatClampNeg) → (∀ H' : Heap, H'[x]? = some (cell.setSlot j.toNatClampNeg (.int v)) → H'.size = H.size → (∀ q, q ≠ x → H'[q]? = H[q]?) → W p l e R s m args below meth cd H' (locs ++ [⟨x, j.toNatClampNeg⟩]) a b Q (F0 m (pc + 1) ls r)) → W p l e R s m args below meth cd H locs a b Q (F0 m pc ls (.int v :: .int j :: .ref x :: r))) : W p l e R s m args below meth cd H locs a b Q (F0 m pc ls (st.map (sd_v A ov))) := by
  unfold ma_ast at hs
  split at hs
  · rename_i v j g i r
    cases hk : (Nat.beq (ma_gk g) k1 && Nat.ble 5 g) with
    | false =>
      rw [hk] at hs
      unfold ma_no at hs
      cases hs
      exact hP.elim
    | true =>
      rw [hk] at hs
      unfold ma_gd at hs
      cases hs
      rw [Bool.and_eq_true] at hk
      have hkg := Nat.eq_of_beq_eq_true hk.1
      have h5 := Nat.le_of_ble_eq_true hk.2
      obtain ⟨hi, h0, h4⟩ := sd_gk (M := M) (g := g) (i := i) (by omega) B.2.2.1.tail.tail.head
      obtain ⟨cA, c1, c2, c3⟩ := sd_own B.1 (by omega) h5 hi
      have hga := (B.1.2.1 g i hi).2.1 h5
      cases hx : (ma_ix j (ma_gl g) && ok v) with
      | false => simp [ma_sel, hx] at hP
      | true =>
        have hP' : sd_P p l e R s m args below meth cd Q s0 dC dI adK adV ov nL A M (pc + 1, L, r, (M.1, ma_up M.2.1 g i j.toNatClampNeg v, M.2.2), a, b) := by simpa [ma_sel, hx] using hP
        rw [Bool.and_eq_true] at hx
        rw [List.map_cons, List.map_cons, List.map_cons, sd_ref h0 h4]
        refine row g _ _ v j _ hkg hx.2 c1 (State.isArrayOf_alike hW.alike (c2 _ _)) (fun h => by cases h) (sd_in hx.1 (by rw [arrV_size]; exact Nat.le_refl _)) (fun H1 e1 hz oq => ?_)
        refine hP' A H1 _ ls ⟨sd_W_upd B.1 (M' := (M.1, ma_up M.2.1 g i j.toNatClampNeg v, M.2.2)) rfl h5 hi (fun h k hne => sd_slot_up_ne hne) (fun h k => sd_len_up h5) (fun h k j _ => Or.inr rfl) ?_ hz oq, B.2.1, fun v hv => B.2.2.1.tail.tail.tail v hv, B.2.2.2.1, sd_locs B.2.2.2.2 hga _⟩ (sd_ext.n rfl)
        refine sd_at_arr (by omega) h5 ⟨cA, ?_, c2, c3⟩
        rw [e1, arrV_store, sd_slot_up (sd_rf_low (by omega))]
  · unfold ma_no at hs
    cases hs
    exact hP.elim
theorem sd_narC {v : Int32} (h : v = (v.toUInt32 % 65536).toInt32) : narrow .char (.int v) = .int v := by
  show Value.int v.toUInt32.toUInt16.toUInt32.toInt32 = .int v
  rw [← lg_i2c_nf, ← h]
theorem sd_aas (F : sd_F p s m meth cd y s0) (Z : sd_Z s0 a0 dC dI adK adV ov) (B : sd_B s0 dC dI adK adV ov nL A M L st H locs ls) (hs : ma_aas pc L st M a b = .inl (al, df)) (hP : ma_sel (sd_P p l e R s m args below meth cd Q s0 dC dI adK adV ov nL A M) False df al) (hd : decode (mt_code.getD y ⟨#[]⟩) pc = .ok (.aastore, 1)) : W p l e R s m args below meth cd H locs a b Q (F0 m pc ls (st.map (sd_v A ov))) := by
  obtain ⟨hx0, hb, -, -, -, hW⟩ := F
  unfold ma_aas at hs
  split at hs
  · rename_i h k j g i r
    cases hk : (Nat.ble 10 (ma_gk g) && Nat.blt (ma_gk g) 100 && Nat.beq (ma_gk h) (ma_gk g + 90) && Nat.ble 5 g) with
    | false =>
      rw [hk] at hs
      unfold ma_no at hs
      cases hs
      exact hP.elim
    | true =>
      rw [hk] at hs
      unfold ma_gd at hs
      cases hs
      simp only [Bool.and_eq_true] at hk
      obtain ⟨⟨⟨k1, k2⟩, k3⟩, k4⟩ := hk
      have k1 := Nat.le_of_ble_eq_true k1
      have k2 : ma_gk g < 100 := Nat.le_of_ble_eq_true k2
      have k3 := Nat.eq_of_beq_eq_true k3
      have h5 := Nat.le_of_ble_eq_true k4
      obtain ⟨hi, h0, h4⟩ := sd_gk (M := M) (g := g) (i := i) (by omega) B.2.2.1.tail.tail.head
      obtain ⟨hki, h0', h4'⟩ := sd_gk (M := M) (g := h) (i := k) (by omega) B.2.2.1.head
      have hck := sd_g g
      unfold ck_g at hck
      have e200 : Nat.ble 200 (ma_gk g) = false := by
        cases h : Nat.ble 200 (ma_gk g) with
        | false => rfl
        | true => have := Nat.le_of_ble_eq_true h; omega
      have e100 : Nat.ble 100 (ma_gk g) = false := by
        cases h : Nat.ble 100 (ma_gk g) with
        | false => rfl
        | true => have := Nat.le_of_ble_eq_true h; omega
      rw [e200, e100, Nat.ble_eq_true_of_le k1] at hck
      simp only [cond_false, cond_true, Bool.and_eq_true] at hck
      have k20 : ma_gk g < 20 := Nat.le_of_ble_eq_true hck.1
      have hci : ma_gk g - 10 < ma_cls.length := by show ma_gk g - 10 < 10; omega
      have hc : ma_cls[ma_gk g - 10]? = some ma_cls[ma_gk g - 10] := List.getElem?_eq_getElem hci
      generalize ma_cls[ma_gk g - 10] = q at hc
      obtain ⟨⟨cellV, g1, g2, g3, -⟩, -, -⟩ := sd_obj B.1 (show ma_gk h = 100 + (ma_gk g - 10) by omega) hc hki
      obtain ⟨cA, c1, c2, c3⟩ := sd_own B.1 k2 h5 hi
      have hty : sd_ety g = .object (mt_cn.getD (ma_gk g - 10) "") := by
        unfold sd_ety
        split
        · rename_i h; omega
        · rename_i h; omega
        · rename_i h; omega
        · rename_i h; omega
        · rfl
      rw [hty] at c3
      obtain ⟨kA, comp, q1, q2, q3, -⟩ := c3.moved hW.alike
      have hcls := (u_Kn_moved hW.alike (Z.2.1 _ q hc)).2
      rw [sd_cn hc] at q3
      have hcomp : comp = dC (ma_gk g - 10) := Option.some.inj (q3.symm.trans hcls.1)
      subst hcomp
      obtain ⟨kC, hkC, hkK⟩ := hcls.2
      have hga := (B.1.2.1 g i hi).2.1 h5
      cases hx : ma_ix j (ma_gl g) with
      | false => simp [ma_sel, hx] at hP
      | true =>
        have hP' : sd_P p l e R s m args below meth cd Q s0 dC dI adK adV ov nL A M (pc + 1, L, r, (M.1, M.2.1, ma_ur M.2.2 g i j.toNatClampNeg (h, k)), a, b) := by simpa [ma_sel, hx] using hP
        obtain ⟨x1, x2⟩ := sd_ix hx
        rw [List.map_cons, List.map_cons, List.map_cons, sd_ref h0 h4, sd_ref h0' h4']
        refine W.aast hx0 hb c1 (fun q h => by cases h) (fun h => by cases h) q1 q2 rfl hkC ⟨x1, by rw [arrV_size]; exact x2⟩ g1 (fun q h => by rw [g3] at h; cases h) (by rw [g2]; exact hkC) (by rw [g2]; exact va_assign hcls) rfl rfl hd fun H1 e1 hz oq => ?_
        refine hP' A H1 _ ls ⟨sd_W_upd B.1 (M' := (M.1, M.2.1, ma_ur M.2.2 g i j.toNatClampNeg (h, k))) rfl h5 hi (fun h k hne => sd_slot_ur_ne hne) (fun h k => rfl) (fun h' k' z hz => ?_) ?_ hz oq, B.2.1, fun v hv => B.2.2.1.tail.tail.tail v hv, B.2.2.2.1, sd_locs B.2.2.2.2 hga _⟩ (sd_ext.n rfl)
        · show sd_ok M (ma_ur M.2.2 g i j.toNatClampNeg (h, k) h' k' z) ∨ ma_ur M.2.2 g i j.toNatClampNeg (h, k) h' k' z = M.2.2 h' k' z
          unfold ma_ur
          split
          · split
            · split
              · exact Or.inl B.2.2.1.head
              · exact Or.inr rfl
            · exact Or.inr rfl
          · exact Or.inr rfl
        · refine sd_at_arr k2 h5 ⟨cA, ?_, c2, by rw [hty]; exact c3⟩
          rw [e1, arrV_store, sd_slot_ur (sd_rf_mid k1 k2 x2), show sd_r A ov (h, k) = .ref (A h k) from sd_ref h0' h4']
  · unfold ma_no at hs
    cases hs
    exact hP.elim
end SDA

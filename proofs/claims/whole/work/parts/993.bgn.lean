/-! ===== the law from its entry ===== -/
theorem gk_65 {g : Nat} (h : 65 ≤ g) : ma_gk g = 0 := by
  unfold ma_gk
  rw [List.getD_eq_getElem?_getD, List.getElem?_eq_none (Nat.le_trans (by decide : mt_gk.length ≤ 65) h)]
  rfl
theorem n0_65 {g : Nat} (h : 65 ≤ g) : ma_n0 g = 0 := by
  unfold ma_n0
  rw [List.getD_eq_getElem?_getD, List.getElem?_eq_none (Nat.le_trans (by decide) h)]
  rfl
theorem ck_r64 : (List.range 65).all (fun g => Nat.ble (mt_rf.getD (ma_gk g - 100) []).length 64 && (Nat.blt (ma_gk g) 10 || Nat.ble 100 (ma_gk g) || Nat.ble (ma_gl g) 64)) = true := by decide +kernel
theorem rf_64 {g j : Nat} (h : sd_rf g j = true) : g < 65 ∧ j < 64 := by
  have hg : g < 65 := by
    rcases Nat.lt_or_ge g 65 with q | q
    · exact q
    · rw [sd_rf_low (by rw [gk_65 q]; omega)] at h
      cases h
  refine ⟨hg, ?_⟩
  have hc := List.all_eq_true.mp ck_r64 g (List.mem_range.mpr hg)
  rw [Bool.and_eq_true] at hc
  unfold sd_rf at h
  cases h100 : Nat.ble 100 (ma_gk g) with
  | true =>
    rw [h100, cond_true] at h
    unfold ma_rf at h
    have hl := Nat.le_of_ble_eq_true hc.1
    rcases Nat.lt_or_ge j (mt_rf.getD (ma_gk g - 100) []).length with q | q
    · omega
    · rw [List.getD_eq_getElem?_getD, List.getElem?_eq_none q] at h
      cases h
  | false =>
    rw [h100, cond_false, Bool.and_eq_true] at h
    have h1 := Nat.le_of_ble_eq_true h.1
    have h2 : j < ma_gl g := Nat.le_of_ble_eq_true h.2
    have h3 := hc.2
    rw [h100] at h3
    have h4 : Nat.blt (ma_gk g) 10 = false := by
      cases e : Nat.blt (ma_gk g) 10 with
      | false => rfl
      | true =>
        have : ma_gk g < 10 := Nat.le_of_ble_eq_true e
        omega
    rw [h4] at h3
    have h5 : Nat.ble (ma_gl g) 64 = true := h3
    have := Nat.le_of_ble_eq_true h5
    omega
theorem gb_ne {M : ma_M} (h : cn_gb M = true) {g i j : Nat} (hi : i < M.1 g) (hj : sd_rf g j = true) : (M.2.2 g i j).1 ≠ 1 := by
  obtain ⟨h1, h2⟩ := rf_64 hj
  have h3 := List.all_eq_true.mp (List.all_eq_true.mp (List.all_eq_true.mp h g (List.mem_range.mpr h1)) i (List.mem_range.mpr hi)) j (List.mem_range.mpr h2)
  rw [hj] at h3
  intro e
  rw [e] at h3
  cases h3
theorem nb_eq {M : ma_M} (h : cn_nb M = true) (g : Nat) (h0 : ma_gk g = 0 → M.1 g = 0) : ma_n0 g = if g = 1 then 1 else M.1 g := by
  by_cases e : g = 1
  · rw [if_pos e, e]; rfl
  · rw [if_neg e]
    rcases Nat.lt_or_ge g 65 with q | q
    · have h3 := List.all_eq_true.mp h g (List.mem_range.mpr q)
      rw [sd_nb e, Bool.false_or] at h3
      exact (Nat.eq_of_beq_eq_true h3).symm
    · rw [n0_65 q, h0 (gk_65 q)]
theorem rb_eq {M : ma_M} (h : cn_rb M = true) (hn : cn_nb M = true) {g i j : Nat} (hi : i < M.1 g) (hj : sd_rf g j = true) : ma_R0 0 g i j = M.2.2 g i j := by
  obtain ⟨h1, h2⟩ := rf_64 hj
  have hg : g ≠ 1 := fun e => by
    rw [e, sd_rf_low (by decide)] at hj
    cases hj
  have h4 := List.all_eq_true.mp hn g (List.mem_range.mpr h1)
  rw [sd_nb hg, Bool.false_or] at h4
  rw [Nat.eq_of_beq_eq_true h4] at hi
  have h3 := List.all_eq_true.mp (List.all_eq_true.mp (List.all_eq_true.mp h g (List.mem_range.mpr h1)) i (List.mem_range.mpr hi)) j (List.mem_range.mpr h2)
  rw [hj, Bool.not_true, Bool.false_or, Bool.and_eq_true] at h3
  exact (Prod.ext (Nat.eq_of_beq_eq_true h3.1) (Nat.eq_of_beq_eq_true h3.2)).symm
theorem call_eq {pc : Nat} {L : List (Option ma_V)} {st : List ma_V} {M : ma_M} {a b y idx z kd pos : Nat} (hf : ma_f4 idx (mt_ct.getD (mt_own.getD y 0) []) = some (z, kd, pos)) (hk : kd = 4 ∨ kd = 5)
    (hc : (Nat.ble (mt_na.getD z 0) st.length && Nat.ble (ma_args (st.take (mt_na.getD z 0)).reverse).length (mt_ml.getD z 0) && Nat.ble (ma_cat (st.drop (mt_na.getD z 0))) 8 && ma_rc z (st.take (mt_na.getD z 0)).reverse && Nat.ble (a + (mt_mc.getD z (0, 0)).1) (mt_mc.getD y (0, 0)).1 && Nat.ble (b + (mt_mc.getD z (0, 0)).2) (mt_mc.getD y (0, 0)).2) = true) :
    ma_call pc L st M a b y (mt_own.getD y 0) idx [4, 5, 6] = .inr (.inr (z, (st.take (mt_na.getD z 0)).reverse, M, fun v M' => (pc + 3, L, (bif Nat.beq (mt_rk.getD z 0) 0 then st.drop (mt_na.getD z 0) else v :: st.drop (mt_na.getD z 0)), M', a + (mt_mc.getD z (0, 0)).1, b + (mt_mc.getD z (0, 0)).2))) := by
  simp only [Bool.and_eq_true] at hc
  obtain ⟨⟨⟨⟨⟨c1, c2⟩, c3⟩, c4⟩, c5⟩, c6⟩ := hc
  have hks : ([4, 5, 6] : List Nat).contains kd = true := by rcases hk with e | e <;> subst e <;> decide
  unfold ma_call
  rw [hf]
  dsimp only
  rw [hks, sd_nb (show kd ≠ 7 by omega), sd_nb (show kd ≠ 8 by omega), sd_nb (show kd ≠ 9 by omega), sd_nb (show kd ≠ 6 by omega), c1, c2, c3, c4, c5, c6, Bool.or_true]
  rfl

/-! ===== how it is at the start: all relations hold ===== -/
section LW0
variable {I J : ma_I}
theorem cn_at (h : cn_cb J = true) {k : Nat} {c : Nat × Nat × Nat × Int32} (hk : cn_cs[k]? = some c) : J c.1 c.2.1 c.2.2.1 = c.2.2.2 := of_decide_eq_true (List.all_eq_true.mp h c (List.mem_of_getElem? hk))
theorem cn_home (h : cn_hb J = true) : (∀ k, k < 100 → J 23 0 k = 0) ∧ ∀ k, k < 800 → J 24 0 k = 0 := by
  unfold cn_hb at h
  rw [Bool.and_eq_true] at h
  exact ⟨fun k hk => of_decide_eq_true (List.all_eq_true.mp h.1 k (List.mem_range.mpr hk)), fun k hk => of_decide_eq_true (List.all_eq_true.mp h.2 k (List.mem_range.mpr hk))⟩
theorem cn_shs (h : cn_sb J = true) : ∀ s, s < 4 → J 61 0 s = -1 ∧ J 62 0 s = 0 ∧ J 12 s 0 = -1 ∧ J 12 s 1 = 0 ∧ ∀ k, k < 40 → J 13 s k = 0 ∧ J 63 0 (40 * s + k) = 0 := by
  intro s hs
  have h1 := List.all_eq_true.mp h s (List.mem_range.mpr hs)
  rw [Bool.and_eq_true, Bool.and_eq_true, Bool.and_eq_true, Bool.and_eq_true] at h1
  obtain ⟨⟨⟨⟨a1, a2⟩, a3⟩, a4⟩, a5⟩ := h1
  refine ⟨of_decide_eq_true a1, of_decide_eq_true a2, of_decide_eq_true a3, of_decide_eq_true a4, fun k hk => ?_⟩
  have h2 := List.all_eq_true.mp a5 k (List.mem_range.mpr hk)
  rw [Bool.and_eq_true] at h2
  exact ⟨of_decide_eq_true h2.1, of_decide_eq_true h2.2⟩
theorem cn_words (h : cn_wb J = true) : tk_K J ∧ tk_M J := by
  unfold cn_wb at h
  rw [Bool.and_eq_true, Bool.and_eq_true] at h
  obtain ⟨⟨h1, h2⟩, h3⟩ := h
  refine ⟨⟨fun i hi => of_decide_eq_true (List.all_eq_true.mp h1 i (List.mem_range.mpr (by omega))), fun i hi k hk => ?_⟩, fun i hi k hk => ?_⟩
  · exact of_decide_eq_true (List.all_eq_true.mp (List.all_eq_true.mp h2 i (List.mem_range.mpr hi)) k (List.mem_range.mpr hk))
  · exact of_decide_eq_true (List.all_eq_true.mp (List.all_eq_true.mp h3 i (List.mem_range.mpr hi)) k (List.mem_range.mpr hk))
theorem LW_0 (hI : ∀ g i j, g ≠ 1 → I g i j = J g i j) (hcb : cn_cb J = true) (hhb : cn_hb J = true) (hsb : cn_sb J = true) (hwb : cn_wb J = true) : LW I := by
  have c : ∀ (k : Nat) (q : Nat × Nat × Nat × Int32), q.1 ≠ 1 → cn_cs[k]? = some q → I q.1 q.2.1 q.2.2.1 = q.2.2.2 := fun k q hq hk => (hI _ _ _ hq).trans (cn_at hcb hk)
  obtain ⟨hm, hd⟩ := cn_home hhb
  have hs := cn_shs hsb
  obtain ⟨hK, hMM⟩ := cn_words hwb
  have d0 : mv I 40 0 0 = 9 := (mv_40_0 I 0).trans (c 0 (40, 0, 0, 9) (by decide) rfl)
  have d1 : mv I 40 0 1 = 0 := (mv_40_1 I 0).trans (c 1 (40, 0, 1, 0) (by decide) rfl)
  have d4 : mv I 40 0 4 = 0 := (mv_40_4 I 0).trans (c 2 (40, 0, 4, 0) (by decide) rfl)
  have d12 : mv I 40 0 12 = 0 := (mv_40_12 I 0).trans (c 3 (40, 0, 12, 0) (by decide) rfl)
  have d13 : mv I 40 0 13 = 1 := (mv_40_13 I 0).trans (c 4 (40, 0, 13, 1) (by decide) rfl)
  have d14 : mv I 40 0 14 = 0 := (mv_40_14 I 0).trans (c 5 (40, 0, 14, 0) (by decide) rfl)
  have d42 : mv I 40 0 42 = 0 := (mv_40_42 I 0).trans (c 6 (40, 0, 42, 0) (by decide) rfl)
  have e0 : sv I 6 0 0 = 9 := (sv_6 I 0 0).trans (c 7 (6, 0, 0, 9) (by decide) rfl)
  have e1 : sv I 6 0 1 = 0 := (sv_6 I 0 1).trans (c 8 (6, 0, 1, 0) (by decide) rfl)
  have e4 : sv I 6 0 4 = 0 := (sv_6 I 0 4).trans (c 9 (6, 0, 4, 0) (by decide) rfl)
  have e6 : sv I 6 0 6 = 1 := (sv_6 I 0 6).trans (c 10 (6, 0, 6, 1) (by decide) rfl)
  have e8 : sv I 6 0 8 = 0 := (sv_6 I 0 8).trans (c 11 (6, 0, 8, 0) (by decide) rfl)
  have e70 : sv I 7 0 0 = 0 := (sv_7 I 0 0).trans (c 12 (7, 0, 0, 0) (by decide) rfl)
  have e80 : sv I 8 0 0 = 0 := (sv_8_0 I 0).trans (c 13 (8, 0, 0, 0) (by decide) rfl)
  have z0 : rz 0 [-3] (mv I) := by
    refine ⟨(mv_51 I 0 0).trans (c 14 (51, 0, 0, 1) (by decide) rfl), fun i hi => ?_⟩
    match i, hi with
    | 0, _ => exact (mv_50 I 0 0).trans (c 17 (50, 0, 0, -3) (by decide) rfl)
  have z1 : rz 1 [-6, 5, 15] (mv I) := by
    refine ⟨(mv_51 I 0 1).trans (c 15 (51, 0, 1, 3) (by decide) rfl), fun i hi => ?_⟩
    match i, hi with
    | 0, _ => exact (mv_50 I 0 160).trans (c 18 (50, 0, 160, -6) (by decide) rfl)
    | 1, _ => exact (mv_50 I 0 161).trans (c 19 (50, 0, 161, 5) (by decide) rfl)
    | 2, _ => exact (mv_50 I 0 162).trans (c 20 (50, 0, 162, 15) (by decide) rfl)
  have z2 : rz 2 [-11] (mv I) := by
    refine ⟨(mv_51 I 0 2).trans (c 16 (51, 0, 2, 1) (by decide) rfl), fun i hi => ?_⟩
    match i, hi with
    | 0, _ => exact (mv_50 I 0 320).trans (c 21 (50, 0, 320, -11) (by decide) rfl)
  have w0 : pu_wf (mv I) 0 := wf_of z0 (by decide) ⟨Or.inl (by decide), by decide, trivial⟩ (by decide)
  have w1 : pu_wf (mv I) 1 := wf_of z1 (by decide) ⟨Or.inl (by decide), by decide, Or.inr (Or.inl (by decide)), by decide, Or.inr (Or.inr (Or.inr ⟨by decide, by decide⟩)), by decide, trivial⟩ (by decide)
  have w2 : pu_wf (mv I) 2 := wf_of z2 (by decide) ⟨Or.inl (by decide), by decide, trivial⟩ (by decide)
  have cl0 : cl 0 [[-3], [-6, 5, 15], [-11]] I := by
    refine ⟨fun i hi => ?_, fun p hp => ?_⟩
    · match i, hi with
      | 0, _ => exact c 25 (20, 0, 0, 2) (by decide) rfl
      | 1, _ => exact c 26 (20, 0, 1, 5) (by decide) rfl
      | 2, _ => exact c 27 (20, 0, 2, 10005) (by decide) rfl
      | 3, _ => exact c 28 (20, 0, 3, 10016) (by decide) rfl
      | 4, _ => exact c 29 (20, 0, 4, 10) (by decide) rfl
    · match p, hp with
      | 0, _ => exact c 22 (21, 0, 0, 1) (by decide) rfl
      | 1, _ => exact c 23 (21, 0, 1, 4) (by decide) rfl
      | 2, _ => exact c 24 (21, 0, 2, 5) (by decide) rfl
  have n1 : (mv I 40 0 1).toNatClampNeg = 0 := by rw [d1]; rfl
  have n4 : (mv I 40 0 4).toNatClampNeg = 0 := by rw [d4]; rfl
  have n12 : (mv I 40 0 12).toNatClampNeg = 0 := by rw [d12]; rfl
  have n13 : (mv I 40 0 13).toNatClampNeg = 1 := by rw [d13]; rfl
  refine ⟨⟨⟨⟨⟨9, d0, by omega, by omega⟩, ⟨0, d1, by omega, fun k hk => absurd hk (Nat.not_lt_zero _)⟩, ⟨0, d4, by omega, fun k hk => absurd hk (Nat.not_lt_zero _)⟩, ⟨1, 0, d13, d14, by omega, by omega, fun row hrow => ?_⟩⟩, ⟨by rw [e0, d0], trivial, by rw [e6, d13], by rw [e8, d14], fun i hi => ?_, fun k hk => ?_, fun hh k h8 hk i hi => ?_, fun t ht => ?_⟩, by rw [e4, d4]⟩, ⟨fun s h4 => ?_, fun s h4 => ?_⟩, ⟨by rw [e1, d1], fun k hk => ?_⟩, ⟨⟨0, d12, by omega, fun k hk => absurd hk (Nat.not_lt_zero _)⟩, by rw [e80, d12], fun k hk => ?_⟩, ⟨fun q => absurd d42 q, by rw [e70, d42], fun q => absurd d42 q⟩⟩, fun i hi k hk => ?_, fun i hi => ?_, fun i hi k hk => ?_⟩
  · match row, hrow with
    | 0, _ => exact w0
    | 1, _ => exact w1
    | 2, _ => exact w2
  · rw [n4] at hi; exact absurd hi (Nat.not_lt_zero _)
  · rw [sv_23, hI 23 0 k (by decide), hm k hk]
    unfold pu_li
    rw [n1]
    rfl
  · rw [sv_24, hI 24 0 _ (by decide), hd _ (by omega), bg_z, n4, decide_eq_false (Nat.not_lt_zero i)]
    rfl
  · rw [n13] at ht
    have e : t = 0 := by omega
    subst e
    refine tx_rt (J := I) (cs := [[-3], [-6, 5, 15], [-11]]) rfl (by decide) cl0 (fun j => sv_20 I 0 j) (fun j => sv_21 I 0 j) (fun i hi => ?_)
    match i, hi with
    | 0, _ => exact z0
    | 1, _ => exact z1
    | 2, _ => exact z2
  · obtain ⟨a1, a2, -⟩ := hs s h4
    rw [mv_61, mv_62, hI 61 0 s (by decide), hI 62 0 s (by decide), a1, a2]
    exact ⟨Or.inl rfl, 0, rfl, by omega, by omega⟩
  · obtain ⟨a1, a2, a3, a4, a5⟩ := hs s h4
    refine ⟨?_, ?_, fun k hk => ?_⟩
    · rw [sv_12, mv_61, hI 12 s 0 (by decide), hI 61 0 s (by decide), a1, a3]
    · rw [sv_12, mv_62, hI 12 s 1 (by decide), hI 62 0 s (by decide), a2, a4]
    · rw [sv_13, mv_63, hI 13 s k (by decide), hI 63 0 _ (by decide), (a5 k hk).1, (a5 k hk).2]
  · unfold pu_nm0 at hk
    rw [n1] at hk
    exact absurd hk (Nat.not_lt_zero _)
  · rw [n12] at hk; exact absurd hk (Nat.not_lt_zero _)
  · rw [hI 3 i k (by decide)]; exact hMM i hi k hk
  · rw [hI 53 0 i (by decide)]; exact hK.1 i hi
  · rw [hI 52 0 _ (by decide)]; exact hK.2 i hi k hk
end LW0

/-! ===== feed and text keep all relations ===== -/
theorem wf_row {σ τ : ma_I} {row : Nat} (h50 : ∀ k, k < 160 → τ 50 0 (160 * row + k) = σ 50 0 (160 * row + k)) (h51 : τ 51 0 row = σ 51 0 row) (h : pu_wf σ row) : pu_wf τ row := by
  obtain ⟨m, a, b, c, e⟩ := h
  have hd : ∀ k, k ≤ 160 → pu_dk τ row k = pu_dk σ row k := by
    intro k
    induction k with
    | zero => intro _; rfl
    | succ k ih =>
      intro hk
      show pu_nx _ (pu_dk τ row k) = pu_nx _ (pu_dk σ row k)
      rw [ih (by omega), h50 k (by omega)]
  refine ⟨m, by rw [h51]; exact a, b, by rw [hd m b]; exact c, fun k hk => ?_⟩
  rw [h50 k (by omega), hd k (by omega), hd (k + 1) (by omega)]
  exact e k hk
theorem gd_l {l r : List Int32} {i : Nat} (h : i < l.length) : (l ++ r).getD i 0 = l.getD i 0 := by
  rw [List.getD_eq_getElem?_getD, List.getElem?_append_left h, ← List.getD_eq_getElem?_getD]
theorem gd_r {l r : List Int32} {i : Nat} : (l ++ r).getD (l.length + i) 0 = r.getD i 0 := by
  rw [List.getD_eq_getElem?_getD, List.getElem?_append_right (by omega), Nat.add_sub_cancel_left, ← List.getD_eq_getElem?_getD]
theorem tx_rt {σ τ J : ma_I} {t : Nat} {cs : List (List Int32)} (h3 : cs.length = 3) (hl : cs.flatten.length ≤ 160) (hc : cl t cs J) (h20 : ∀ j, τ 20 t j = J 20 t j) (h21 : ∀ j, τ 21 t j = J 21 t j) (hz : ∀ i, i < 3 → rz (3 * t + i) (cs.getD i []) σ) : rx_t σ τ t := by
  match cs, h3, hl, hc, hz with
  | [x0, x1, x2], _, hl, hc, hz =>
    have efl : [x0, x1, x2].flatten = x0 ++ (x1 ++ x2) := by simp
    obtain ⟨hc1, hc2⟩ := hc
    rw [efl] at hl hc1
    have hl' : x0.length + (x1.length + x2.length) ≤ 160 := by rw [List.length_append, List.length_append] at hl; exact hl
    have l20 : (x0 ++ (x1 ++ x2)).length = x0.length + (x1.length + x2.length) := by rw [List.length_append, List.length_append]
    refine ⟨fun p => if p = 0 then 0 else if p = 1 then x0.length else if p = 2 then x0.length + x1.length else x0.length + x1.length + x2.length, rfl, fun p hp => ?_⟩
    have z0 : rz (3 * t) x0 σ := hz 0 (by omega)
    have z1 : rz (3 * t + 1) x1 σ := hz 1 (by omega)
    have z2 : rz (3 * t + 2) x2 σ := hz 2 (by omega)
    match p, hp with
    | 0, _ =>
      show τ 21 t 0 = Int32.ofNat x0.length ∧ x0.length ≤ 160 ∧ 0 ≤ x0.length ∧ σ 51 0 (3 * t) = Int32.ofNat (x0.length - 0) ∧ ∀ k, k < x0.length - 0 → τ 20 t (0 + k) = pu_ec (σ 50 0 (160 * (3 * t) + k))
      refine ⟨?_, by omega, by omega, z0.1, fun k hk => ?_⟩
      · rw [h21, hc2 0 (by show 0 < 3; omega)]
        show Int32.ofNat [x0].flatten.length = _
        simp
      · rw [h20, hc1 _ (by omega), z0.2 k (by omega), Nat.zero_add, gd_l (by omega)]
    | 1, _ =>
      show τ 21 t 1 = Int32.ofNat (x0.length + x1.length) ∧ x0.length + x1.length ≤ 160 ∧ x0.length ≤ x0.length + x1.length ∧ σ 51 0 (3 * t + 1) = Int32.ofNat (x0.length + x1.length - x0.length) ∧ ∀ k, k < x0.length + x1.length - x0.length → τ 20 t (x0.length + k) = pu_ec (σ 50 0 (160 * (3 * t + 1) + k))
      rw [Nat.add_sub_cancel_left]
      refine ⟨?_, by omega, by omega, z1.1, fun k hk => ?_⟩
      · rw [h21, hc2 1 (by show 1 < 3; omega)]
        show Int32.ofNat [x0, x1].flatten.length = _
        simp
      · rw [h20, hc1 _ (by omega), z1.2 k hk, gd_r, gd_l hk]
    | 2, _ =>
      show τ 21 t 2 = Int32.ofNat (x0.length + x1.length + x2.length) ∧ x0.length + x1.length + x2.length ≤ 160 ∧ x0.length + x1.length ≤ x0.length + x1.length + x2.length ∧ σ 51 0 (3 * t + 2) = Int32.ofNat (x0.length + x1.length + x2.length - (x0.length + x1.length)) ∧ ∀ k, k < x0.length + x1.length + x2.length - (x0.length + x1.length) → τ 20 t (x0.length + x1.length + k) = pu_ec (σ 50 0 (160 * (3 * t + 2) + k))
      rw [Nat.add_sub_cancel_left]
      refine ⟨?_, by omega, by omega, z2.1, fun k hk => ?_⟩
      · rw [h21, hc2 2 (by show 2 < 3; omega)]
        show Int32.ofNat [x0, x1, x2].flatten.length = _
        rw [efl, l20, Nat.add_assoc]
      · rw [h20, hc1 _ (by omega), z2.2 k hk, Nat.add_assoc, gd_r, gd_r]
/-- more texts, the others as they were -/
theorem txW {σ σ' τ τ' : ma_I} {t n' : Nat} (h : iv_g σ ∧ rx_w σ τ) (ht : σ 40 0 13 = Int32.ofNat t) (hn1 : t ≤ n') (hn2 : n' ≤ 6) (h13 : σ' 40 0 13 = Int32.ofNat n') (x6 : τ' 6 0 6 = Int32.ofNat n')
    (h40 : ∀ j, j = 0 ∨ j = 1 ∨ j = 4 ∨ j = 14 → σ' 40 0 j = σ 40 0 j) (hgg : ∀ g k, 41 ≤ g → g ≤ 48 → σ' g 0 k = σ g 0 k) (y6 : ∀ j, j = 0 ∨ j = 4 ∨ j = 8 → τ' 6 0 j = τ 6 0 j) (hτ : ∀ g i j, g = 17 ∨ g = 23 ∨ g = 24 → τ' g i j = τ g i j)
    (h50 : ∀ j, j < 480 * t → σ' 50 0 j = σ 50 0 j) (h51 : ∀ j, j < 3 * t → σ' 51 0 j = σ 51 0 j) (hx : ∀ q, q < t → ∀ j, τ' 20 q j = τ 20 q j ∧ τ' 21 q j = τ 21 q j) (hnew : ∀ q, t ≤ q → q < n' → rx_t σ' τ' q ∧ ∀ i, i < 3 → pu_wf σ' (3 * q + i)) : iv_g σ' ∧ rx_w σ' τ' := by
  obtain ⟨⟨g1, g2, g3, g4⟩, ⟨r0, -, r6, r8, ro, rh, rs, rt⟩, r4⟩ := h
  obtain ⟨n, r, a, b, c, e, f⟩ := g4
  have hnt : n = t := (in_eq (by omega) (by omega)).mp (a.symm.trans ht)
  subst hnt
  have os : ∀ o, o_same σ σ' o := fun o => ⟨hgg 43 o (by omega) (by omega), hgg 44 o (by omega) (by omega), hgg 45 o (by omega) (by omega), hgg 46 o (by omega) (by omega), hgg 47 o (by omega) (by omega), hgg 48 o (by omega) (by omega)⟩
  have k1 := h40 1 (by simp)
  have k4 := h40 4 (by simp)
  have k41 : ∀ k, σ' 41 0 k = σ 41 0 k := fun k => hgg 41 k (by omega) (by omega)
  have k42 : ∀ k, σ' 42 0 k = σ 42 0 k := fun k => hgg 42 k (by omega) (by omega)
  refine ⟨⟨by unfold iv_th; rw [h40 0 (by simp)]; exact g1, mv_cong k1 k41 k42 g2, od_cong k4 (fun o _ => os o) g3, n', r, h13, by rw [h40 14 (by simp)]; exact b, hn2, by omega, fun row hrow => ?_⟩, ⟨by rw [y6 0 (by simp), h40 0 (by simp)]; exact r0, trivial, by rw [x6, h13], by rw [y6 8 (by simp), h40 14 (by simp)]; exact r8, fun i hi => ?_, fun k hk => ?_, fun hh k h8 hk i hi => ?_, fun q hq => ?_⟩, by rw [y6 4 (by simp), k4]; exact r4⟩
  · by_cases c1 : row < 3 * n
    · exact wf_row (fun k hk => h50 _ (by omega)) (h51 row c1) (f row c1)
    · have := (hnew (row / 3) (by omega) (by omega)).2 (row % 3) (by omega)
      rwa [show 3 * (row / 3) + row % 3 = row by omega] at this
  · rw [k4] at hi
    obtain ⟨o1, o2, o3, o4, o5, o6⟩ := os i
    unfold rx_o
    rw [hτ 17 i _ (by simp), hτ 17 i _ (by simp), hτ 17 i _ (by simp), hτ 17 i _ (by simp), hτ 17 i _ (by simp), hτ 17 i _ (by simp), o1, o2, o3, o4, o5, o6]
    exact ro i hi
  · rw [hτ 23 0 k (by simp), li_cong k1 k41 k42]
    exact rh k hk
  · rw [hτ 24 0 _ (by simp), k4, rs hh k h8 hk i hi, (os i).2.2.1, sn_cong (os i)]
  · rw [h13, in_cl (by omega)] at hq
    by_cases c1 : q < n
    · obtain ⟨ee, e0, he⟩ := rt q (by rw [a, in_cl (by omega)]; exact c1)
      refine ⟨ee, e0, fun p hp => ?_⟩
      obtain ⟨z1, z2, z3, z4, z5⟩ := he p hp
      refine ⟨by rw [(hx q c1 p).2]; exact z1, z2, z3, by rw [h51 _ (by omega)]; exact z4, fun k hk => ?_⟩
      rw [(hx q c1 _).1, h50 _ (by omega)]
      exact z5 k hk
    · exact (hnew q (by omega) hq).1
section CAT
variable {d : Nat} {I : ma_I} {o : Nat} {Q : ma_Q}
theorem cl_feed {a : Int32} (h : LW I) (hQ : ∀ (J1 : ma_I) (o1 : Nat) (x : Int32), (∀ i j, J1 1 i j = I 1 i j) → PR 136 [.inr (.inr (40, 0)), .inl a] I J1 x → Q (some (.inl x)) J1 o1) : Exm (d + 44) 72 [.inr (.inr (5, 0)), .inl a] I o Q := by
  obtain ⟨⟨⟨hg, hR⟩, ⟨hs, hS⟩, hM, ⟨hp, hP⟩, ⟨hy, hY⟩⟩, hT⟩ := h
  refine xs_72 hp hP (fun J1 f1 hx => hQ J1 o _ (fun i j => fr_g f1 1 i j (by decide) (by decide) (by decide)) (fun d o' Q' hQ' => ?_))
  have q0 : mv J1 40 0 12 = mv I 40 0 12 := by rw [mv_40_12, mv_40_12]; exact f1 40 0 12 (by decide)
  have q1 : ∀ k, mv J1 49 0 k = mv I 49 0 k := fun k => by rw [mv_49, mv_49]; exact fr_g f1 49 0 k (by decide) (by decide) (by decide)
  have hp1 : iv_p (mv J1) := by
    obtain ⟨n, c, e, g⟩ := hp
    exact ⟨n, by rw [q0]; exact c, e, fun k hk => by rw [q1]; exact g k hk⟩
  have ea : an_feed (mv J1) a = an_feed (mv I) a := by unfold an_feed; rw [q0]
  refine mo_136 hp1 (fun J2 f2 e2 => ?_)
  have f : fr [31, 2000, 49, 1012] I J2 := fr_trans (fr_mono f1 (by decide)) (fr_mono f2 (by decide))
  rw [ea]
  refine hQ' J2 (fun i j => fr_g f 1 i j (by decide) (by decide) (by decide)) ⟨⟨kW f (by decide) (by decide) (by decide) (by decide) (by decide) (by decide) (by decide) (by decide) (by decide) (by decide) (by decide) (by decide) (by decide) (by decide) (by decide) (by decide) (by decide) (by decide) (by decide) (by decide) (by decide) ⟨hg, hR⟩, kS f (by decide) (by decide) (by decide) (by decide) (by decide) ⟨hs, hS⟩, kM f (by decide) (by decide) (by decide) (by decide) (by decide) (f 6 0 1 (by decide)) hM, ?_, kI0 f (by decide) (by decide) (by decide) (by decide) (by decide) (by decide) (by decide) (by decide) (by decide) (by decide) (by decide) hg ⟨hy, hY⟩⟩, kT f (by decide) (by decide) (by decide) hT⟩
  have hx2 := nP f2 (by decide) (by decide) hx
  have w12 : st_feed (mv J1) a 40 0 12 = st_feed (mv I) a 40 0 12 := by
    unfold st_feed
    rw [q0]
    by_cases c : (0 ≤ a ∧ a ≤ 255) ∧ mv I 40 0 12 ≠ 160
    · rw [if_pos c, if_pos c, xv_us, xv_us]
    · rw [if_neg c, if_neg c]; exact q0
  have w49 : ∀ k, st_feed (mv J1) a 49 0 k = st_feed (mv I) a 49 0 k := by
    intro k
    unfold st_feed
    rw [q0]
    by_cases c : (0 ≤ a ∧ a ≤ 255) ∧ mv I 40 0 12 ≠ 160
    · rw [if_pos c, if_pos c, up_g (show (49 : Nat) ≠ 40 by decide), up_g (show (49 : Nat) ≠ 40 by decide)]
      by_cases e : k = (mv I 40 0 12).toNatClampNeg
      · rw [e, xv_us, xv_us]
      · rw [up_j e, up_j e]; exact q1 k
    · rw [if_neg c, if_neg c]; exact q1 k
  rw [e2]
  refine ⟨st_feed_iv hp1, ?_, fun k hk => ?_⟩
  · rw [w12]; exact hx2.1
  · rw [w12] at hk
    rw [w49]
    exact hx2.2 k hk
theorem cl_text (h : LW I) (hQ : ∀ (J1 : ma_I) (o1 : Nat) (x : Int32), (∀ i j, J1 1 i j = I 1 i j) → PR 153 [.inr (.inr (40, 0))] I J1 x → Q (some (.inl x)) J1 o1) : Exm (d + 44) 73 [.inr (.inr (5, 0))] I o Q := by
  have hl := h
  obtain ⟨⟨⟨hg, hR⟩, ⟨hs, hS⟩, hM, ⟨hp, hP⟩, ⟨hy, hY⟩⟩, hT⟩ := h
  obtain ⟨t, r, h13, h14, ht, hrt, hrows⟩ := hg.2.2.2
  have g13 : I 40 0 13 = Int32.ofNat t := (mv_40_13 I 0).symm.trans h13
  have h66 : I 6 0 6 = mv I 40 0 13 := (sv_6 I 0 6).symm.trans hR.1.2.2.1
  -- what is needed of the memory in between, and of that at the end
  have mid : ∀ (J1 : ma_I), fr [2000, 2001, 2002, 2003, 2004, 19, 20, 21, 6] I J1 → iv_p (mv J1) ∧ tk_K J1 ∧ mv J1 40 0 13 = Int32.ofNat t ∧ tx_R (mv J1) = tx_R (mv I) ∧ an_text (mv J1) = an_text (mv I) := by
    intro J1 f1
    have q0 : mv J1 40 0 12 = mv I 40 0 12 := by rw [mv_40_12, mv_40_12]; exact f1 40 0 12 (by decide)
    have q13 : mv J1 40 0 13 = mv I 40 0 13 := by rw [mv_40_13, mv_40_13]; exact f1 40 0 13 (by decide)
    have q1 : ∀ k, mv J1 49 0 k = mv I 49 0 k := fun k => by rw [mv_49, mv_49]; exact fr_g f1 49 0 k (by decide) (by decide) (by decide)
    have eR : tx_R (mv J1) = tx_R (mv I) := by
      unfold tx_R
      rw [q0, show (fun k => mv J1 49 0 k) = (fun k => mv I 49 0 k) from funext q1]
    refine ⟨?_, (kT f1 (by decide) (by decide) (by decide) hT).2, by rw [q13]; exact h13, eR, ?_⟩
    · obtain ⟨n, c, e, g⟩ := hp
      exact ⟨n, by rw [q0]; exact c, e, fun k hk => by rw [q1]; exact g k hk⟩
    · unfold an_text
      rw [eR, q13]
  have fin : ∀ (J1 J2 : ma_I) (n' : Nat), fr [2000, 2001, 2002, 2003, 2004, 19, 20, 21, 6, 1017, 1018, 1019, 1020, 1024, 1025, 1026, 1028, 1029, 50, 51, 54, 55, 1012, 1013] I J2 → J2 8 0 0 = 0 → J2 40 0 12 = 0 → t ≤ n' → n' ≤ 6 → J2 40 0 13 = Int32.ofNat n' → J2 6 0 6 = Int32.ofNat n' → (∀ j, j ≠ 6 → J2 6 0 j = I 6 0 j) → (∀ q, q < t → ∀ j, J2 20 q j = I 20 q j ∧ J2 21 q j = I 21 q j) → (∀ j, j < 480 * t → J2 50 0 j = I 50 0 j) → (∀ j, j < 3 * t → J2 51 0 j = I 51 0 j) → (∀ q, t ≤ q → q < n' → rx_t (mv J2) (sv J2) q ∧ ∀ i, i < 3 → pu_wf (mv J2) (3 * q + i)) → LW J2 := by
    intro J1 J2 n' f e8 e12 hn1 hn2 e13 e66 e6 ex e50 e51 enew
    refine ⟨⟨txW (t := t) (n' := n') ⟨hg, hR⟩ h13 hn1 hn2 (by rw [mv_40_13]; exact e13) (by rw [sv_6]; exact e66) (fun j hj => ?_) (fun g k hg1 hg2 => ?_) (fun j hj => ?_) (fun g i j hgg => ?_) (fun j hj => ?_) (fun j hj => ?_) (fun q hq j => ?_) enew, kS f (by decide) (by decide) (by decide) (by decide) (by decide) ⟨hs, hS⟩, kM f (by decide) (by decide) (by decide) (by decide) (by decide) (e6 1 (by decide)) hM, ?_, kI f (by decide) (by decide) (by decide) (by decide) (by decide) (by decide) (fun k _ _ => fr_g f 41 0 k (by decide) (by decide) (by decide)) (fun k _ _ => fr_g f 43 0 k (by decide) (by decide) (by decide)) (fun q => by unfold pu_nm0 at q ⊢; rw [mv_40_1 J2, f 40 0 1 (by decide), ← mv_40_1 I]; exact q) (fun q => by unfold pu_no at q ⊢; rw [mv_40_4 J2, f 40 0 4 (by decide), ← mv_40_4 I]; exact q) (by rw [mv_40_13 J2, e13, h13, in_cl (by omega), in_cl (by omega)]; exact hn1) hg ⟨hy, hY⟩⟩, kT f (by decide) (by decide) (by decide) hT⟩
    · rcases hj with e | e | e | e <;> subst e
      · rw [mv_40_0, mv_40_0]; exact f 40 0 0 (by decide)
      · rw [mv_40_1, mv_40_1]; exact f 40 0 1 (by decide)
      · rw [mv_40_4, mv_40_4]; exact f 40 0 4 (by decide)
      · rw [mv_40_14, mv_40_14]; exact f 40 0 14 (by decide)
    · obtain ⟨m, rfl⟩ : ∃ m, g = 41 + m := ⟨g - 41, by omega⟩
      match m, hg2 with
      | 0, _ => exact (mv_41 J2 0 k).trans ((fr_g f 41 0 k (by decide) (by decide) (by decide)).trans (mv_41 I 0 k).symm)
      | 1, _ => exact (mv_42 J2 0 k).trans ((fr_g f 42 0 k (by decide) (by decide) (by decide)).trans (mv_42 I 0 k).symm)
      | 2, _ => exact (mv_43 J2 0 k).trans ((fr_g f 43 0 k (by decide) (by decide) (by decide)).trans (mv_43 I 0 k).symm)
      | 3, _ => exact (mv_44 J2 0 k).trans ((fr_g f 44 0 k (by decide) (by decide) (by decide)).trans (mv_44 I 0 k).symm)
      | 4, _ => exact (mv_45 J2 0 k).trans ((fr_g f 45 0 k (by decide) (by decide) (by decide)).trans (mv_45 I 0 k).symm)
      | 5, _ => exact (mv_46 J2 0 k).trans ((fr_g f 46 0 k (by decide) (by decide) (by decide)).trans (mv_46 I 0 k).symm)
      | 6, _ => exact (mv_47 J2 0 k).trans ((fr_g f 47 0 k (by decide) (by decide) (by decide)).trans (mv_47 I 0 k).symm)
      | 7, _ => exact (mv_48 J2 0 k).trans ((fr_g f 48 0 k (by decide) (by decide) (by decide)).trans (mv_48 I 0 k).symm)
      | m + 8, hg2 => omega
    · rw [sv_6, sv_6]
      exact e6 j (by rcases hj with e | e | e <;> subst e <;> decide)
    · rcases hgg with e | e | e <;> subst e
      · rw [sv_17, sv_17]; exact fr_g f 17 i j (by decide) (by decide) (by decide)
      · rw [sv_23, sv_23]; exact fr_g f 23 i j (by decide) (by decide) (by decide)
      · rw [sv_24, sv_24]; exact fr_g f 24 i j (by decide) (by decide) (by decide)
    · rw [mv_50, mv_50]; exact e50 j hj
    · rw [mv_51, mv_51]; exact e51 j hj
    · rw [sv_20, sv_20, sv_21, sv_21]; exact ex q hq j
    · refine ⟨⟨0, by rw [mv_40_12]; exact e12, by omega, fun k hk => absurd hk (Nat.not_lt_zero _)⟩, by rw [sv_8_0, mv_40_12, e8, e12], fun k hk => ?_⟩
      rw [mv_40_12, e12] at hk
      exact absurd hk (Nat.not_lt_zero _)
  refine xs_73 hp hP hT.1 h13 ht h66 (fun e6 => ?_) (fun n6 hR1 J hJ hlen hfl hcl => ?_) (fun n6 hR1 J hJ => ?_)
  · refine hQ I o _ (fun _ _ => rfl) (fun d o' Q' hQ' => ?_)
    exact mo_153 hp hT.2 h13 ht (fun _ => hQ' I (fun _ _ => rfl) hl) (fun q => absurd e6 q) (fun q => absurd e6 q)
  · have f1 : fr [2000, 2001, 2002, 2003, 2004, 19, 20, 21, 6] I (ma_up (ma_up J 8 0 0 0) 6 0 6 (Int32.ofNat (t + 1))) := fr_upg (fr_up1 (fr_mono hJ.1 (by decide)) (by decide)) (by decide) (by decide) (by decide)
    refine hQ _ t _ (fun i j => fr_g f1 1 i j (by decide) (by decide) (by decide)) (fun d o' Q' hQ' => ?_)
    obtain ⟨m1, m2, m3, m4, m5⟩ := mid _ f1
    refine mo_153 m1 m2 m3 ht (fun q => absurd q n6) (fun _ _ J2 hJ2 hlen2 hrp => ?_) (fun _ q => absurd (by rw [m4]; exact hR1) q)
    rw [m4] at hlen2 hrp
    rw [m5]
    have f2 : fr [1017, 1018, 1019, 1020, 1024, 1025, 1026, 1028, 1029, 50, 51, 54, 55, 1012, 1013] (ma_up (ma_up J 8 0 0 0) 6 0 6 (Int32.ofNat (t + 1))) (ma_up (ma_up J2 40 0 12 0) 40 0 13 (Int32.ofNat (t + 1))) := fr_up1 (fr_up1 (fr_mono hJ2.1 (by decide)) (by decide)) (by decide)
    have f : fr [2000, 2001, 2002, 2003, 2004, 19, 20, 21, 6, 1017, 1018, 1019, 1020, 1024, 1025, 1026, 1028, 1029, 50, 51, 54, 55, 1012, 1013] I (ma_up (ma_up J2 40 0 12 0) 40 0 13 (Int32.ofNat (t + 1))) := fr_trans (fr_mono f1 (by decide)) (fr_mono f2 (by decide))
    have c20 : ∀ q j, ma_up (ma_up J2 40 0 12 0) 40 0 13 (Int32.ofNat (t + 1)) 20 q j = J 20 q j := fun q j => by rw [fr_g f2 20 q j (by decide) (by decide) (by decide), up_g (by decide), up_g (by decide)]
    have c21 : ∀ q j, ma_up (ma_up J2 40 0 12 0) 40 0 13 (Int32.ofNat (t + 1)) 21 q j = J 21 q j := fun q j => by rw [fr_g f2 21 q j (by decide) (by decide) (by decide), up_g (by decide), up_g (by decide)]
    have c6 : ∀ j, ma_up (ma_up J2 40 0 12 0) 40 0 13 (Int32.ofNat (t + 1)) 6 0 j = ma_up (ma_up J 8 0 0 0) 6 0 6 (Int32.ofNat (t + 1)) 6 0 j := fun j => fr_g f2 6 0 j (by decide) (by decide) (by decide)
    refine hQ' _ (fun i j => fr_g f 1 i j (by decide) (by decide) (by decide)) (fin I _ (t + 1) f ?_ ?_ (by omega) (by omega) xv_us ?_ (fun j hj => ?_) (fun q hq j => ?_) (fun j hj => ?_) (fun j hj => ?_) (fun q hq1 hq2 => ?_))
    · rw [f2 8 0 0 (by decide), up_g (by decide), xv_us]
    · rw [up_j (by decide), xv_us]
    · rw [c6, xv_us]
    · rw [c6, up_j hj, up_g (by decide), fr_g hJ.1 6 0 j (by decide) (by decide) (by decide)]
    · rw [c20, c21]; exact hJ.2 q (by omega) j
    · rw [up_g (by decide), up_g (by decide), hJ2.2.1 j (by omega), up_g (by decide), up_g (by decide), fr_g hJ.1 50 0 j (by decide) (by decide) (by decide)]
    · rw [up_g (by decide), up_g (by decide), hJ2.2.2 j (by omega), up_g (by decide), up_g (by decide), fr_g hJ.1 51 0 j (by decide) (by decide) (by decide)]
    · have e : q = t := by omega
      subst e
      have hz : ∀ i, i < 3 → rz (3 * q + i) ((tx_R (mv I)).2.getD i []) (mv (ma_up (ma_up J2 40 0 12 0) 40 0 13 (Int32.ofNat (q + 1)))) := by
        intro i hi
        obtain ⟨-, z, -⟩ := hrp i (by omega)
        refine ⟨?_, fun k hk => ?_⟩
        · rw [mv_51, up_g (by decide), up_g (by decide)]; exact z.1
        · rw [mv_50, up_g (by decide), up_g (by decide)]; exact z.2 k hk
      refine ⟨tx_rt hlen hfl hcl (fun j => by rw [sv_20]; exact c20 q j) (fun j => by rw [sv_21]; exact c21 q j) hz, fun i hi => ?_⟩
      obtain ⟨y1, -, y3, y4⟩ := hrp i (by omega)
      exact wf_of (hz i hi) y1 y3 y4
  · have f1 : fr [2000, 2001, 2002, 2003, 2004, 19, 20, 21, 6] I (ma_up J 8 0 0 0) := fr_up1 (fr_mono hJ.1 (by decide)) (by decide)
    refine hQ _ t _ (fun i j => fr_g f1 1 i j (by decide) (by decide) (by decide)) (fun d o' Q' hQ' => ?_)
    obtain ⟨m1, m2, m3, m4, m5⟩ := mid _ f1
    refine mo_153 m1 m2 m3 ht (fun q => absurd q n6) (fun _ q => absurd q (by rw [m4]; exact hR1)) (fun _ _ J2 hJ2 => ?_)
    rw [m5]
    have f2 : fr [1017, 1018, 1019, 1020, 1024, 1025, 1026, 1028, 1029, 50, 51, 54, 55, 1012, 1013] (ma_up J 8 0 0 0) (ma_up J2 40 0 12 0) := fr_up1 (fr_mono hJ2.1 (by decide)) (by decide)
    have f : fr [2000, 2001, 2002, 2003, 2004, 19, 20, 21, 6, 1017, 1018, 1019, 1020, 1024, 1025, 1026, 1028, 1029, 50, 51, 54, 55, 1012, 1013] I (ma_up J2 40 0 12 0) := fr_trans (fr_mono f1 (by decide)) (fr_mono f2 (by decide))
    have c6 : ∀ j, ma_up J2 40 0 12 0 6 0 j = I 6 0 j := fun j => by rw [fr_g f2 6 0 j (by decide) (by decide) (by decide), up_g (by decide), fr_g hJ.1 6 0 j (by decide) (by decide) (by decide)]
    refine hQ' _ (fun i j => fr_g f 1 i j (by decide) (by decide) (by decide)) (fin I _ t f ?_ xv_us (by omega) (by omega) ?_ ?_ (fun j _ => c6 j) (fun q hq j => ?_) (fun j hj => ?_) (fun j hj => ?_) (fun q hq1 hq2 => absurd hq1 (by omega)))
    · rw [f2 8 0 0 (by decide), xv_us]
    · rw [up_j (by decide), hJ2.1 40 0 13 (by decide), up_g (by decide), hJ.1 40 0 13 (by decide), g13]
    · rw [c6, h66, h13]
    · rw [fr_g f2 20 q j (by decide) (by decide) (by decide), up_g (by decide), fr_g f2 21 q j (by decide) (by decide) (by decide), up_g (by decide)]
      exact hJ.2 q (by omega) j
    · rw [up_g (by decide), hJ2.2.1 j (by omega), up_g (by decide), fr_g hJ.1 50 0 j (by decide) (by decide) (by decide)]
    · rw [up_g (by decide), hJ2.2.2 j (by omega), up_g (by decide), fr_g hJ.1 51 0 j (by decide) (by decide) (by decide)]
end CAT

/-! ===== back of the class ===== -/
section BCK
variable {d : Nat} {I : ma_I} {o : Nat} {Q : ma_Q} {σ : ma_I}
theorem rt_cong {σ' τ τ' : ma_I} {t : Nat} (h : rx_t σ τ t) (h50 : ∀ k, σ' 50 0 k = σ 50 0 k) (h51 : ∀ k, σ' 51 0 k = σ 51 0 k) (h20 : ∀ k, τ' 20 t k = τ 20 t k) (h21 : ∀ k, τ' 21 t k = τ 21 t k) : rx_t σ' τ' t := by
  obtain ⟨e, e0, he⟩ := h
  refine ⟨e, e0, fun p hp => ?_⟩
  obtain ⟨a, b, c, f1, g1⟩ := he p hp
  refine ⟨by rw [h21]; exact a, b, c, by rw [h51]; exact f1, fun m hm => ?_⟩
  rw [h20, h50]
  exact g1 m hm
theorem xs_2 (hg : iv_g σ) (hii : iv_i σ) (hk : σ 40 0 42 ≠ 0) (hR : rx_w σ (sv I)) (hI : rx_i σ (sv I)) (h : ∀ I', fr [6, 14, 15, 17, 23, 24] I I' → rx_w (pu_bk σ) (sv I') → rx_m (pu_bk σ) (sv I') → Q none I' o) : Exm (d + 3) 2 [.inr (.inr (7, 0)), .inr (.inr (6, 0))] I o Q := by
  have hgb := bk_iv hg hii hk
  obtain ⟨a8, ha, -, -⟩ := A_le hg.2.2.1
  obtain ⟨m6, hm, hmk⟩ := nm_le hg.2.1
  obtain ⟨no, hno, hno8, hon⟩ := hg.2.2.1
  have en : pu_no σ = no := by unfold pu_no; rw [hno, in_cl (by omega)]
  obtain ⟨⟨r0, -, r6, r8, ro, -, rs, rt⟩, r4⟩ := hR
  obtain ⟨-, hI2⟩ := hI
  obtain ⟨y1, y2, y3, y6, yk, yo⟩ := hI2 hk
  obtain ⟨i0, ⟨r, ir, irn⟩, ⟨m, im, imn, imk⟩, ⟨n, ino, inn, ink⟩⟩ := hii hk
  obtain ⟨e0, e1, e2, e3⟩ := bk_n (σ := σ)
  rw [sv_7] at y1 y2 y3 y6
  rw [ino] at y6
  rw [sv_6] at r6 r4
  rw [ha] at r4
  rw [im, in_cl (by omega)] at yk
  rw [ino, in_cl (by omega)] at yo
  have hbn : (pu_bk σ 40 0 4).toNatClampNeg = n := by rw [e2, ino, in_cl (by omega)]
  refine e_2 ?_
  obtain ⟨X, hX⟩ : ∃ X, X = ma_cpy (ma_cpy (ma_up (ma_up (ma_up I 6 0 0 (I 7 0 1)) 6 0 8 (I 7 0 2)) 6 0 1 (I 7 0 3)) 27 0 0 14 0 0 6) 28 0 0 15 0 0 6 := ⟨_, rfl⟩
  have hxx : ma_cpy (ma_cpy (ma_up (ma_up (ma_up I 6 0 0 (I 7 0 1)) 6 0 8 (I 7 0 2)) 6 0 1 (I 7 0 3)) 27 0 0 14 0 0 6) 28 0 0 15 0 0 6 = X := hX.symm
  rw [hxx]
  have hfX : fr [6, 14, 15] I X := by
    rw [hX]
    refine fr_cq (fr_cq (fr_upg (fr_upg (fr_upg (fr_refl _ _) ?_ ?_ ?_) ?_ ?_ ?_) ?_ ?_ ?_) ?_ ?_ ?_) ?_ ?_ ?_ <;> decide
  have x0 : X 6 0 0 = σ 60 0 0 := by rw [hX, cp_g (by decide), cp_g (by decide), up_j (by decide), up_j (by decide), xv_us]; exact y1
  have x8 : X 6 0 8 = σ 60 0 3 := by rw [hX, cp_g (by decide), cp_g (by decide), up_j (by decide), xv_us]; exact y2
  have x1 : X 6 0 1 = σ 60 0 1 := by rw [hX, cp_g (by decide), cp_g (by decide), xv_us]; exact y3
  have x4 : X 6 0 4 = Int32.ofNat (pu_no σ) := by rw [hX, cp_g (by decide), cp_g (by decide), up_j (by decide), up_j (by decide), up_j (by decide)]; exact r4
  have x6 : X 6 0 6 = σ 40 0 13 := by rw [hX, cp_g (by decide), cp_g (by decide), up_j (by decide), up_j (by decide), up_j (by decide)]; exact r6
  have x14 : ∀ k, k < 6 → X 14 0 k = I 27 0 k := fun k hk => by
    rw [hX, cp_g (by decide), cp_at (by omega) (by omega), up_g (by decide), up_g (by decide), up_g (by decide)]
    congr 1
    omega
  have x15 : ∀ k, k < 6 → X 15 0 k = I 28 0 k := fun k hk => by
    rw [hX, cp_at (by omega) (by omega), cp_g (by decide), up_g (by decide), up_g (by decide), up_g (by decide)]
    congr 1
    omega
  have e41 : ∀ j, pu_bk σ 41 0 j = σ 41 0 j := fun j => bk_o (by decide) (fun e => absurd e (by decide))
  have hMX : ∀ K, (∀ i j, K 6 i j = X 6 i j) → (∀ i j, K 14 i j = X 14 i j) → (∀ i j, K 15 i j = X 15 i j) → rx_m (pu_bk σ) (sv K) := by
    intro K k6 k14 k15
    refine ⟨by rw [sv_6, k6, e1]; exact x1, fun k hk => ?_⟩
    have hkm : k < m := by unfold pu_nm0 at hk; rw [e1, im, in_cl (by omega)] at hk; exact hk
    have := yk k hkm
    rw [sv_27, sv_28] at this
    rw [sv_14, sv_15, k14, k15, x14 k (by omega), x15 k (by omega), e41, bk_m (by omega)]
    exact this
  refine xs_13 (σ := pu_bk σ) hgb.2.1 (hMX X (fun _ _ => rfl) (fun _ _ => rfl) (fun _ _ => rfl)) (fun J hJ hJ23 => ⟨rfl, ?_⟩)
  have hj : ∀ g i j, g ≠ 40 → g ≠ 8 → g ≠ 23 → J g i j = X g i j := fun g i j h1 h2 h3 => fr_g hJ g i j h1 h2 (by simp; exact h3)
  -- the second loop
  have second : ∀ Y, fr [24, 6] J Y → (∀ j, j ≠ 4 → Y 6 0 j = J 6 0 j) → Y 6 0 4 = Int32.ofNat n → sn_T (pu_bk σ) Y 0 → Ex (d + 2 + 1) 2 (89, [vR 7 0, vR 6 0, vI (Int32.ofNat 0)], [], ma_mem Y o, 0, 0) (ma_end Q) := by
    intro Y hY hY6 hY4 hYT
    have key := lp_up (P := fun e => ∀ L, fr [17, 24] Y L → (∀ i, i < e → ∀ b, b < 6 → L 17 i b = pu_kf σ i b) → sn_T (pu_bk σ) L e → Ex (d + 2 + 1) 2 (89, [vR 7 0, vR 6 0, vI (Int32.ofNat e)], [], ma_mem L o, 0, 0) (ma_end Q)) n ?_ ?_
    · exact key 0 (by omega) Y (fr_refl _ _) (fun i hi => by omega) hYT
    · intro L hL hLo hLT
      have hL6 : ∀ j, L 6 0 j = Y 6 0 j := fun j => fr_g hL 6 0 j (by decide) (by decide) (by decide)
      have hall : fr [6, 14, 15, 17, 23, 24] I L := fr_trans (fr_mono hfX (by decide)) (fr_trans (fr_mono hJ (by decide)) (fr_trans (fr_mono hY (by decide)) (fr_mono hL (by decide))))
      have l7 : L 7 0 6 = Int32.ofNat n := by rw [fr_g hall 7 0 6 (by decide) (by decide) (by decide)]; exact y6
      refine b_2_89 ⟨fun _ => h L hall ⟨⟨?_, trivial, ?_, ?_, ?_, ?_, ?_, ?_⟩, ?_⟩ ?_, fun c => ?_⟩
      · rw [sv_6, hL6, hY6 0 (by decide), hj 6 0 0 (by decide) (by decide) (by decide), x0, e0]
      · rw [sv_6, hL6, hY6 6 (by decide), hj 6 0 6 (by decide) (by decide) (by decide), x6]
        exact (bk_o (by decide) (by decide)).symm
      · rw [sv_6, hL6, hY6 8 (by decide), hj 6 0 8 (by decide) (by decide) (by decide), x8, e3]
      · intro i hi
        rw [hbn] at hi
        rw [ro_iff]
        intro b hb
        rw [sv_17, hLo i hi b hb, bk_k (by omega) hb]
      · intro y hy
        rw [sv_23, fr_g hL 23 0 y (by decide) (by decide) (by decide), fr_g hY 23 0 y (by decide) (by decide) (by decide)]
        exact hJ23 y hy
      · intro hh y h8 hy i hi
        rw [sv_24, hbn]
        exact hLT hh y h8 hy i hi
      · intro t ht
        have h13 : pu_bk σ 40 0 13 = σ 40 0 13 := bk_o (by decide) (by decide)
        rw [h13] at ht
        refine rt_cong (rt t ht) (fun _ => bk_o (by decide) (fun e => absurd e (by decide))) (fun _ => bk_o (by decide) (fun e => absurd e (by decide))) (fun j => ?_) (fun j => ?_)
        · rw [sv_20, sv_20, fr_g hall 20 t j (by decide) (by decide) (by decide)]
        · rw [sv_21, sv_21, fr_g hall 21 t j (by decide) (by decide) (by decide)]
      · rw [sv_6, hL6, hY4, e2]; exact ino.symm
      · refine ⟨?_, ?_⟩
        · have := (hMX X (fun _ _ => rfl) (fun _ _ => rfl) (fun _ _ => rfl)).1
          rw [sv_6] at this
          rw [sv_6, hL6, hY6 1 (by decide), hj 6 0 1 (by decide) (by decide) (by decide)]
          exact this
        · intro k hk
          have := (hMX X (fun _ _ => rfl) (fun _ _ => rfl) (fun _ _ => rfl)).2 k hk
          rw [sv_14, sv_15] at this
          rw [sv_14, sv_15, fr_g hL 14 0 k (by decide) (by decide) (by decide), fr_g hL 15 0 k (by decide) (by decide) (by decide), fr_g hY 14 0 k (by decide) (by decide) (by decide), fr_g hY 15 0 k (by decide) (by decide) (by decide), hj 14 0 k (by decide) (by decide) (by decide), hj 15 0 k (by decide) (by decide) (by decide)]
          exact this
      · rw [l7] at c
        exact absurd c Int32.lt_irrefl
    · intro e he ih L hL hLo hLT
      have hall : fr [6, 14, 15, 17, 23, 24] I L := fr_trans (fr_mono hfX (by decide)) (fr_trans (fr_mono hJ (by decide)) (fr_trans (fr_mono hY (by decide)) (fr_mono hL (by decide))))
      have l7 : L 7 0 6 = Int32.ofNat n := by rw [fr_g hall 7 0 6 (by decide) (by decide) (by decide)]; exact y6
      have l30 : ∀ b, b < 6 → L 30 e b = pu_kf σ e b := fun b hb => by
        rw [fr_g hall 30 e b (by decide) (by decide) (by decide)]
        have := yo e he b hb
        rw [sv_30] at this
        exact this
      refine b_2_89 ?_
      rw [l7, in_cl (by omega), in_a1]
      refine ⟨fun c => ?_, fun _ => ⟨in_in (by omega) (by omega), in_in (by omega) (by omega), ?_⟩⟩
      · have := (in_le (by omega) (by omega)).mp c
        omega
      · refine e_5_17_30 (e_4_17 ⟨rfl, rfl, ?_⟩)
        have hu : ∀ b, b < 6 → up6 L 17 e (fun b => L 30 e b) 17 e b = pu_kf σ e b := fun b hb => by rw [up6_at hb]; exact l30 b hb
        obtain ⟨n2, hn2, hn28, hon2⟩ := hgb.2.2.1
        have en2 : n2 = n := by rw [e2, ino, in_eq (by omega) (by omega)] at hn2; exact hn2.symm
        subst en2
        obtain ⟨-, q44, ⟨ff, hff, -, hff7⟩, -, -, fa, fb, -, q48, -, q99⟩ := hon2 e he
        have hro : rx_o (pu_bk σ) (sv (up6 L 17 e (fun b => L 30 e b))) e := by
          rw [ro_iff]
          intro b hb
          rw [sv_17, hu b hb, bk_k (by omega) hb]
        refine xs_16 (σ := pu_bk σ) (I := up6 L 17 e (fun b => L 30 e b)) (by omega) hro q44 ⟨fb, q48, by omega, q99⟩ hff (by omega) (fun M hM hbM => ⟨rfl, ?_⟩)
        refine ih M (fr_trans (fr_up6 hL (by decide) (by decide) (by decide)) (fr_mono hM (by decide))) (fun i hi b hb => ?_) ?_
        · rw [fr_g hM 17 i b (by decide) (by decide) (by decide)]
          by_cases ei : i = e
          · subst ei
            exact hu b hb
          · rw [up6_ne (fun q => ei q.2)]
            exact hLo i (by omega) b hb
        · refine sn_add (σ := pu_bk σ) (σ' := pu_bk σ) (τ := up6 L 17 e (fun b => L 30 e b)) (f := ff) (by omega) (fun hh y h8 hy i hi => ?_) hff (by omega) (fun _ _ => ⟨rfl, rfl, rfl, rfl, rfl, rfl⟩) hbM
          rw [up6_ne (fun q => absurd q.1 (by decide))]
          exact hLT hh y h8 hy i hi
  -- the first loop
  have first := lp_up (P := fun e => ∀ K, fr [24] J K → (∀ hh y, hh < 8 → y < 100 → ∀ j, j < 32 → bg (K 24 0 (hh * 100 + y)) j = (decide (e ≤ j) && (decide (j < pu_no σ) && decide (σ 45 0 j = Int32.ofNat hh) && pu_sn σ j (Int32.ofNat y)))) → Ex (d + 2 + 1) 2 (60, [vR 7 0, vR 6 0, vI (Int32.ofNat e)], [], ma_mem K o, 0, 0) (ma_end Q)) (pu_no σ) ?_ ?_
  · refine first 0 (by omega) J (fr_refl _ _) (fun hh y h8 hy j hj2 => ?_)
    have := rs hh y h8 hy j hj2
    rw [sv_24] at this
    rw [hj 24 0 _ (by decide) (by decide) (by decide), fr_g hfX 24 0 _ (by decide) (by decide) (by decide), this, decide_eq_true (Nat.zero_le j), Bool.true_and]
    rfl
  · intro K hK hKb
    have k4 : K 6 0 4 = Int32.ofNat (pu_no σ) := by rw [fr_g hK 6 0 4 (by decide) (by decide) (by decide), hj 6 0 4 (by decide) (by decide) (by decide)]; exact x4
    have k7 : K 7 0 6 = Int32.ofNat n := by rw [fr_g hK 7 0 6 (by decide) (by decide) (by decide), hj 7 0 6 (by decide) (by decide) (by decide), fr_g hfX 7 0 6 (by decide) (by decide) (by decide)]; exact y6
    refine b_2_60 ⟨fun _ => ?_, fun c => ?_⟩
    · rw [k7]
      refine second _ (fr_upg (fr_mono hK (by decide)) (by decide) (by decide) (by decide)) (fun j hj4 => ?_) xv_us (fun hh y h8 hy i hi => ?_)
      · rw [up_j hj4, fr_g hK 6 0 j (by decide) (by decide) (by decide)]
      · rw [up_g (by decide), hKb hh y h8 hy i hi, decide_eq_false (by omega : ¬i < 0)]
        by_cases c2 : pu_no σ ≤ i
        · rw [decide_eq_false (by omega : ¬i < pu_no σ)]
          simp
        · rw [decide_eq_false c2]
          simp
    · rw [k4] at c
      exact absurd c Int32.lt_irrefl
  · intro e he ih K hK hKb
    have k4 : K 6 0 4 = Int32.ofNat (pu_no σ) := by rw [fr_g hK 6 0 4 (by decide) (by decide) (by decide), hj 6 0 4 (by decide) (by decide) (by decide)]; exact x4
    refine b_2_60 ?_
    rw [k4, in_a1]
    refine ⟨fun c => ?_, fun _ => ?_⟩
    · have := (in_le (by omega) (by omega)).mp c
      omega
    · obtain ⟨-, -, ⟨f, hf, -, hf7⟩, -⟩ := hon e (by omega)
      have k17 : K 17 e 2 = Int32.ofNat f := by
        have := (ro e (by rw [hno, in_cl (by omega)]; omega)).2.2.1
        rw [sv_17, hf] at this
        rw [fr_g hK 17 e 2 (by decide) (by decide) (by decide), hj 17 e 2 (by decide) (by decide) (by decide), fr_g hfX 17 e 2 (by decide) (by decide) (by decide)]
        exact this
      refine xs_17 (by omega) k17 (by omega) (fun M hM hbM => ⟨rfl, ih M (fr_trans hK hM) (fun hh y h8 hy j hj32 => ?_)⟩)
      rw [hbM hh y h8 hy j hj32, hKb hh y h8 hy j hj32]
      by_cases ej : j = e
      · subst ej
        rw [decide_eq_true (rfl : j = j), decide_eq_false (by omega : ¬j + 1 ≤ j)]
        by_cases ef : hh = f
        · subst ef
          simp
        · have : σ 45 0 j ≠ Int32.ofNat hh := by rw [hf]; exact fun q => ef ((in_eq (by omega) (by omega)).mp q).symm
          rw [decide_eq_false this]
          simp
      · rw [decide_eq_false ej]
        have : decide (e ≤ j) = decide (e + 1 ≤ j) := decide_eq_decide.mpr (by omega)
        rw [this]
        simp
theorem xs_104 (hg : iv_g σ) (hii : iv_i σ) (hR : rx_w σ (sv I)) (hM : rx_m σ (sv I)) (hI : rx_i σ (sv I)) (h : ∀ I', fr [6, 14, 15, 17, 23, 24] I I' → rx_w (st_back σ) (sv I') → rx_m (st_back σ) (sv I') → Q (some (.inl (an_back σ))) I' o) : Exm (d + 4) 104 [.inr (.inr (5, 0))] I o Q := by
  have h0 : I 7 0 0 = σ 40 0 42 := by have := hI.1; rw [sv_7] at this; exact this
  unfold st_back an_back at h
  refine e_104 ?_
  rw [h0]
  refine ⟨fun c => ?_, fun c => ?_⟩
  · rw [if_pos c, if_pos c] at h
    refine xs_2 hg hii c hR hI (fun J hJ hrJ hmJ => ⟨rfl, ?_⟩)
    have h4 : J 6 0 4 = σ 60 0 2 := by
      have := hrJ.2
      rw [sv_6, bk_n.2.2.1] at this
      exact this
    rw [h4]
    exact h J hJ hrJ hmJ
  · rw [if_neg (fun q => q c), if_neg (fun q => q c)] at h
    exact h I (fr_refl _ _) hR hM
end BCK

/-! ===== covers in the reference ===== -/
abbrev fr_mt : List Nat := [56, 57, 58, 1033, 1034, 1035, 1036, 1037, 1039, 1040, 1041]
def mt_R (σ : ma_I) (s k : Nat) (I : ma_I) : Prop := I 40 0 39 = Int32.ofNat (cn (pu_cv σ s) k) ∧ I 40 0 40 = pu_en (pu_ft (pu_cv σ s) 0 k) ∧ I 40 0 41 = pu_cu σ s k
section MCV
variable {d : Nat} {I : ma_I} {o : Nat} {Q : ma_Q}
theorem mt_next {σ J K : ma_I} {s k : Nat} (hk : k < 1000) (h : mt_R σ s k J) (hcv : pu_cv σ s k = false) (hK : ∀ j, j = 39 ∨ j = 40 ∨ j = 41 → K 40 0 j = J 40 0 j) : mt_R σ s (k + 1) K := by
  obtain ⟨h1, h2, h3⟩ := h
  refine ⟨?_, ?_, ?_⟩
  · rw [hK 39 (by simp), h1]
    unfold cn
    rw [if_neg (by rw [hcv]; decide)]
    cases k <;> rfl
  · rw [hK 40 (by simp), h2, ft_snoc, Nat.zero_add, hcv]
    cases pu_ft (pu_cv σ s) 0 k <;> rfl
  · rw [hK 41 (by simp), h3]
    have : pu_cu σ s (k + 1) = if pu_cv σ s k then pu_cu σ s k ||| (pu_cr σ s k).2.2.2.2.2.1 else pu_cu σ s k := rfl
    rw [this, if_neg (by rw [hcv]; decide)]
theorem mo_167 {s : Nat} (hg : iv_g (mv I)) (hc : ct_h (mv I) s) (h : ∀ I', fr fr_mt I I' → mt_R (mv I) s 100 I' → Q none I' o) : Exm (d + 4) 167 [.inr (.inr (40, 0)), .inl (Int32.ofNat s)] I o Q := by
  obtain ⟨hs, hh, h1, h20, hsz⟩ := hc
  have hsz' : I 62 0 s = Int32.ofNat (pu_sz (mv I) s) := by rw [mv_62] at hsz; exact hsz
  obtain ⟨h0, e0, -, h07⟩ := hh 0 (by omega)
  rw [Nat.add_zero] at e0
  refine e_167 ?_
  have key := lp_up (P := fun k => ∀ (I' : ma_I) (w3 w4 : Option ma_V), fr fr_mt I I' → mt_R (mv I) s k I' → Ex (d + 4) 167 (17, [vR 40 0, vI (Int32.ofNat s), vI (Int32.ofNat k), w3, w4], [], ma_mem I' o, 0, 0) (ma_end Q)) 100 ?_ ?_
  · refine key 0 (by omega) _ _ _ ?_ ⟨rfl, rfl, rfl⟩
    exact fr_up1 (fr_up1 (fr_up1 (fr_refl _ _) (by decide)) (by decide)) (by decide)
  · intro I' w3 w4 hf hR
    exact b_167_17 ⟨fun _ => h I' hf hR, fun c => absurd c (by decide)⟩
  · intro k hk ih I' w3 w4 hf hR
    have hsv : mv I' = mv I := mv_fr hf (by decide)
    have hal : xv_al (I' 40 0 4) = pu_all (mv I) := by rw [hf 40 0 4 (by decide)]; rfl
    have e40 : (40 : Int32) * Int32.ofNat s = Int32.ofNat (40 * s) := (Int32.ofNat_mul 40 s).symm
    have hB : go_B k (pu_cr (mv I) s k) := rn_bd hg ⟨h0, e0, by omega, h07⟩ (by omega)
    refine b_167_17 ⟨fun c => ?_, fun _ => ?_⟩
    · have := (in_le (a := 100) (by decide) (by omega)).mp c
      omega
    rw [e40, in_cl (by omega), hal, fr_g hf 63 0 _ (by decide) (by decide) (by decide), ← mv_63 I]
    refine ⟨in_in (by omega) (by omega), mo_go (by rw [hsv]; exact hg) (by omega) (fun J hJ hRJ => ⟨rfl, in_in (by omega) (by omega), ?_⟩)⟩
    rw [hsv] at hRJ
    have hRJ' : mo_R J (pu_cr (mv I) s k) := hRJ
    have hfJ : fr fr_mt I J := fr_trans hf (fr_mono hJ (by decide))
    have j62 : J 62 0 s = Int32.ofNat (pu_sz (mv I) s) := by rw [fr_g hfJ 62 0 s (by decide) (by decide) (by decide)]; exact hsz'
    have j33 : J 40 0 33 = Int32.ofNat ((pu_cr (mv I) s k).2.2.2.1 + 1) := hRJ'.2.2.1
    have j34 : J 40 0 34 = (pu_cr (mv I) s k).2.2.2.2.2.1 := hRJ'.2.2.2.2.1
    have j58 : ∀ j, j ≤ (pu_cr (mv I) s k).2.2.2.1 → J 58 0 j = (pu_cr (mv I) s k).2.2.2.2.1 j := hRJ'.2.2.2.1
    have j63 : ∀ j, J 63 0 j = mv I 63 0 j := fun j => by rw [fr_g hfJ 63 0 j (by decide) (by decide) (by decide), mv_63]
    have hRk : mt_R (mv I) s k J := by
      obtain ⟨q1, q2, q3⟩ := hR
      exact ⟨by rw [hJ 40 0 39 (by decide)]; exact q1, by rw [hJ 40 0 40 (by decide)]; exact q2, by rw [hJ 40 0 41 (by decide)]; exact q3⟩
    have hs21 := hB.2.2.2.1
    have hno : pu_cv (mv I) s k = false → ∀ (u3 u4 : Option ma_V), Ex (d + 4) 167 (17, [vR 40 0, vI (Int32.ofNat s), vI (Int32.ofNat k + 1), u3, u4], [], ma_mem J o, 0, 0) (ma_end Q) := by
      intro hcv u3 u4
      rw [in_a1]
      exact ih J u3 u4 hfJ (mt_next (by omega) hRk hcv (fun _ _ => rfl))
    have hfalse : pu_cv (mv I) s k = false → ∀ v4 : Int32, Ex (d + 4) 167 (63, [vR 40 0, vI (Int32.ofNat s), vI (Int32.ofNat k), vI 0, vI v4], [], ma_mem J o, 0, 0) (ma_end Q) := by
      intro hcv v4
      exact b_167_63 ⟨in_in (by omega) (by omega), fun _ => ⟨fun _ => hno hcv _ _, fun c => absurd rfl c⟩, fun _ => ⟨fun _ => ⟨fun _ => hno hcv _ _, fun c => absurd rfl c⟩, fun c => absurd rfl c⟩⟩
    rw [in_cl (by omega), j62, j33]
    refine ⟨fun c => ?_, fun c => ?_⟩
    · refine hfalse ?_ 0
      unfold pu_cv
      rw [decide_eq_false (fun e => c (by rw [e])), Bool.false_and]
    · have c' := (in_eq (by omega) (by omega)).mp c
      have key2 := lp_up (P := fun j => (∀ i, i < j → (pu_cr (mv I) s k).2.2.2.2.1 i = mv I 63 0 (40 * s + i)) → Ex (d + 4) 167 (63, [vR 40 0, vI (Int32.ofNat s), vI (Int32.ofNat k), vI 1, vI (Int32.ofNat j)], [], ma_mem J o, 0, 0) (ma_end Q)) (pu_sz (mv I) s) ?_ ?_
      · exact key2 0 (by omega) (fun i hi => by omega)
      · intro hi
        have hcv : pu_cv (mv I) s k = true := by
          unfold pu_cv
          rw [Bool.and_eq_true, and_t, decide_eq_true_iff]
          exact ⟨c', fun i hi2 => decide_eq_true (hi i hi2)⟩
        obtain ⟨q1, q2, q3⟩ := hRk
        refine b_167_63 ?_
        rw [in_cl (by omega), j62, in_a1, q1, q2, q3, j34, in_a1]
        refine ⟨in_in (by omega) (by omega), fun _ => ⟨fun c => absurd c (by decide), fun _ => ⟨fun c => ?_, fun c => ?_⟩⟩, fun c => absurd c Int32.lt_irrefl⟩
        · refine ih _ _ _ (fr_up1 (fr_up1 (fr_up1 hfJ (by decide)) (by decide)) (by decide)) ⟨?_, ?_, ?_⟩
          · rw [up_j (by decide), up_j (by decide), xv_us]
            unfold cn
            rw [if_pos hcv]
            cases k <;> rfl
          · rw [up_j (by decide), xv_us, ft_snoc, Nat.zero_add]
            cases hf2 : pu_ft (pu_cv (mv I) s) 0 k with
            | some b => rfl
            | none => rw [hf2] at c; exact absurd rfl c
          · rw [xv_us]
            have : pu_cu (mv I) s (k + 1) = if pu_cv (mv I) s k then pu_cu (mv I) s k ||| (pu_cr (mv I) s k).2.2.2.2.2.1 else pu_cu (mv I) s k := rfl
            rw [this, if_pos hcv]
        · refine ih _ _ _ (fr_up1 (fr_up1 (fr_up1 hfJ (by decide)) (by decide)) (by decide)) ⟨?_, ?_, ?_⟩
          · rw [up_j (by decide), up_j (by decide), xv_us]
            unfold cn
            rw [if_pos hcv]
            cases k <;> rfl
          · rw [up_j (by decide), xv_us, ft_snoc, Nat.zero_add]
            cases hf2 : pu_ft (pu_cv (mv I) s) 0 k with
            | some b =>
              rw [hf2] at c
              have := (ft_some _ _ _ hf2).2.1
              exact absurd c (in_nm (by omega))
            | none =>
              dsimp only
              rw [if_pos hcv]
              rfl
          · rw [xv_us]
            have : pu_cu (mv I) s (k + 1) = if pu_cv (mv I) s k then pu_cu (mv I) s k ||| (pu_cr (mv I) s k).2.2.2.2.2.1 else pu_cu (mv I) s k := rfl
            rw [this, if_pos hcv]
      · intro j hj ih2 hi
        have ei : (40 : Int32) * Int32.ofNat s + Int32.ofNat j = Int32.ofNat (40 * s + j) := in_ma 40 s j
        refine b_167_63 ?_
        rw [in_cl (by omega), in_cl (by omega), j62, ei, in_cl (by omega), j63, j58 j (by omega)]
        refine ⟨in_in (by omega) (by omega), fun cc => ?_, fun _ => ⟨fun cc => absurd cc (by decide), fun _ => ⟨in_in (by omega) (by omega), in_in (by omega) (by omega), fun cc => ?_, fun cc => ?_⟩⟩⟩
        · have := (in_le (by omega) (by omega)).mp cc
          omega
        · refine hfalse ?_ _
          unfold pu_cv
          rw [and_f hj (decide_eq_false cc), Bool.and_false]
        · rw [in_a1]
          refine ih2 (fun i hi2 => ?_)
          by_cases e : i = j
          · subst e; exact cc
          · exact hi i (by omega)
theorem fx_fr2 {l : List Nat} {g0 i0 j0 : Nat} {I J : ma_I} (h : fx l g0 i0 j0 I J) (hv : J g0 i0 j0 = I g0 i0 j0) : fr l I J := fun g i j hc => by
  by_cases e : g = g0 ∧ i = i0 ∧ j = j0
  · obtain ⟨e1, e2, e3⟩ := e
    subst e1; subst e2; subst e3
    exact hv
  · exact h g i j hc e
theorem any_pos {σ : ma_I} {s : Nat} : 0 < Int32.ofNat (cn (pu_cv σ s) 100) ↔ pu_any σ s = true := by
  have hle := cn_le (pu_cv σ s) 100
  unfold pu_any
  rw [← cn_pos]
  exact in_lt (a := 0) (by decide) (by omega)
theorem mo_168 {a b : Int32} (hg : iv_g (mv I)) (hiv : iv_s (mv I)) (h : ∀ I', fr fr_mt I I' → Q (some (.inl (an_covers (mv I) a b))) I' o) : Exm (d + 5) 168 [.inr (.inr (40, 0)), .inl a, .inl b] I o Q := by
  have hI := h I (fr_refl _ _)
  have hn := A_le hg.2.2.1
  have e4 : I 40 0 4 = mv I 40 0 4 := (mv_40_4 I 0).symm
  unfold an_covers at h hI
  have hmain : 0 ≤ a ∧ a ≤ 3 → (0 ≤ b ∧ b ≤ 3) ∨ (0 ≤ b - 10 ∧ b - 10 ≤ mv I 40 0 4 - 1) → ma_in a 4 ∧ (0 ≤ I 61 0 a.toNatClampNeg → ma_in a 4 ∧ Ex (d + 5) 168 (58, [vR 40 0, vI a, vI b, vI (xv_b (1 ≤ I 62 0 a.toNatClampNeg ∧ I 62 0 a.toNatClampNeg ≤ 20)), vI 0, none, none], [], ma_mem I o, 0, 0) (ma_end Q)) ∧ (I 61 0 a.toNatClampNeg < 0 → Q (some (.inl (-11))) I o) := by
    intro ca cb
    rw [if_pos ca, if_pos cb] at h hI
    obtain ⟨s, hs, e⟩ := sh_of ca
    subst e
    rw [in_cl (by omega)] at h hI ⊢
    have hin : ma_in (Int32.ofNat s) 4 := in_in (by omega) (by omega)
    obtain ⟨hsort, ⟨n, hsn, -, h40⟩⟩ := hiv s hs
    have hsz : pu_sz (mv I) s = n := by unfold pu_sz; rw [hsn, in_cl (by omega)]
    have e61 : mv I 61 0 s = I 61 0 s := mv_61 I 0 s
    have e62 : I 62 0 s = Int32.ofNat n := by rw [mv_62] at hsn; exact hsn
    refine ⟨hin, fun c1 => ⟨hin, ?_⟩, fun c1 => ?_⟩
    · have hne : ¬mv I 61 0 s = -1 := by
        rw [e61]
        intro e
        rw [e] at c1
        exact absurd c1 (by decide)
      rw [if_neg hne] at h hI
      have hbase : ∀ v3 : Int32, (v3 ≠ 0 → pu_th (mv I) s = true) → (v3 = 0 → pu_th (mv I) s = false) → Ex (d + 5) 168 (58, [vR 40 0, vI (Int32.ofNat s), vI b, vI v3, vI (Int32.ofNat n), none, none], [], ma_mem I o, 0, 0) (ma_end Q) := by
        intro v3 ht hfl
        refine b_168_58 ?_
        rw [in_cl (by omega), e62]
        refine ⟨hin, fun _ => ⟨fun c3 => ?_, fun c3 => ?_⟩, fun c => absurd c Int32.lt_irrefl⟩
        · have hth := ht c3
          have hct := ct_of hs hiv hth
          rw [if_pos hth] at h
          unfold an_cov at h
          refine ⟨fun b3 => ⟨fun b10 => ?_, fun b10 => ?_⟩, fun b3 => ?_⟩
          · refine mo_167 hg hct (fun J hJ hRJ => ⟨rfl, ?_⟩)
            obtain ⟨q1, q2, q3⟩ := hRJ
            rw [q1, q2, q3]
            have h' := h J hJ
            refine ⟨fun n0 => ⟨fun n1 => ?_, fun e => ?_⟩, fun e => ?_⟩
            · have hb2 : b = 2 := by
                rcases cb with cb | cb
                · obtain ⟨m, hm, e⟩ := in_ub (b := 3) (by decide) cb.1 cb.2
                  rcases (by omega : m = 0 ∨ m = 1 ∨ m = 2 ∨ m = 3) with w | w | w | w <;> subst w
                  · exact absurd e n0
                  · exact absurd e n1
                  · exact e
                  · exact absurd e b3
                · exfalso
                  rw [hn.2.1] at cb
                  obtain ⟨i, hi, ei⟩ := or_of (by have := hn.1; omega) cb
                  have hb : b = Int32.ofNat (i + 10) := by
                    have : b = (b - 10) + 10 := by rw [Int32.sub_add_cancel]
                    rw [this, ei]
                    exact (Int32.ofNat_add i 10).symm
                  rw [hb] at b10
                  have := (in_lt (b := 10) (by have := hn.1; omega) (by decide)).mp b10
                  omega
              rw [if_neg n0, if_neg n1, if_pos hb2] at h'
              exact h'
            · rw [if_neg n0, if_pos e] at h'; exact h'
            · rw [if_pos e] at h'; exact h'
          · have cb' : 0 ≤ b - 10 ∧ b - 10 ≤ mv I 40 0 4 - 1 := by
              rcases cb with cb | cb
              · exfalso
                have : (10 : Int32) ≤ 3 := Int32.le_trans b10 cb.2
                exact absurd this (by decide)
              · exact cb
            have nb : ∀ m : Int32, m < 10 → b ≠ m := fun m hm e => by
              subst e
              exact absurd hm (Int32.not_lt.mpr b10)
            rw [if_neg (nb 0 (by decide)), if_neg (nb 1 (by decide)), if_neg (nb 2 (by decide)), if_neg b3] at h
            rw [hn.2.1] at cb'
            obtain ⟨i, hi, ei⟩ := or_of (by have := hn.1; omega) cb'
            have hi8 : i < 8 := by have := hn.1; omega
            rw [ei, in_cl (by omega)] at h
            have hin9 : ma_in (Int32.ofNat i) 9 := in_in (by omega) (by omega)
            rw [ei, in_cl (by omega)]
            refine ⟨hin9, ?_⟩
            have key := lp_up (P := fun k => ∀ K, fx fr_mt 43 0 i I K → Ex (d + 5) 168 (202, [vR 40 0, vI (Int32.ofNat s), vI b, vI v3, vI (pu_bb (fun k => pu_any (pu_kd (mv I) i k) s) k), vI (I 43 0 i), vI (Int32.ofNat k)], [], ma_mem K o, 0, 0) (ma_end Q)) 6 ?_ ?_
            · exact key 0 (by omega) I (fun g i j _ _ => rfl)
            · intro K hK
              refine b_168_202 ?_
              rw [ei, in_cl (by omega)]
              exact ⟨fun _ => ⟨hin9, h _ (fx_back hK)⟩, fun c => absurd c (by decide)⟩
            · intro k hk ih K hK
              have hsvt : mv (ma_up K 43 0 i (Int32.ofNat k)) = pu_kd (mv I) i k := fx_mv hK (by decide) (by rw [cl_g (by decide) (by decide)]; decide) (by decide)
              refine b_168_202 ?_
              rw [ei, in_cl (by omega), in_a1]
              refine ⟨fun c => ?_, fun _ => ⟨hin9, ?_⟩⟩
              · have := (in_le (a := 6) (by decide) (by omega)).mp c
                omega
              · refine mo_167 (by rw [hsvt]; exact kd_iv hg (by omega)) (by rw [hsvt]; exact hct) (fun L hL hRL => ⟨rfl, ?_⟩)
                rw [hsvt] at hRL
                have ih' := ih L (fx_step hK hL)
                unfold pu_bb at ih'
                rw [hRL.1, Int32.or_zero]
                refine ⟨fun c => ?_, fun c => ?_⟩
                · rw [if_neg (fun hh => Int32.not_lt.mpr c (any_pos.mpr hh))] at ih'; exact ih'
                · rw [if_pos (any_pos.mp c)] at ih'; exact ih'
          · subst b3
            rw [if_neg (by decide), if_neg (by decide), if_neg (by decide), if_pos rfl] at h
            obtain ⟨n6, r6, hn6, hr6, h6, hrn, hw⟩ := hg.2.2.2
            have hnn : (mv I 40 0 13).toNatClampNeg = n6 := by rw [hn6, in_cl (by omega)]
            rw [hnn] at h
            have e13 : I 40 0 13 = Int32.ofNat n6 := by rw [mv_40_13] at hn6; exact hn6
            have key := lp_up (P := fun k => ∀ K, fx fr_mt 40 0 14 I K → Ex (d + 5) 168 (127, [vR 40 0, vI (Int32.ofNat s), vI 3, vI v3, vI (pu_bb (fun t => pu_any (pu_rt (mv I) t) s) k), vI (I 40 0 14), vI (Int32.ofNat k)], [], ma_mem K o, 0, 0) (ma_end Q)) n6 ?_ ?_
            · exact key 0 (by omega) I (fun g i j _ _ => rfl)
            · intro K hK
              refine b_168_127 ?_
              rw [hK 40 0 13 (by decide) (by decide), e13]
              exact ⟨fun _ => h _ (fx_back hK), fun c => absurd c Int32.lt_irrefl⟩
            · intro k hk ih K hK
              have hsvt : mv (ma_up K 40 0 14 (Int32.ofNat k)) = pu_rt (mv I) k := fx_mv hK (by decide) (by decide) (by decide)
              refine b_168_127 ⟨fun c => ?_, fun _ => ?_⟩
              · rw [hK 40 0 13 (by decide) (by decide), e13] at c
                have := (in_le (by omega) (by omega)).mp c
                omega
              · rw [in_a1]
                refine mo_167 (by rw [hsvt]; exact rt_iv hg (by omega)) (by rw [hsvt]; exact hct) (fun L hL hRL => ⟨rfl, ?_⟩)
                rw [hsvt] at hRL
                have ih' := ih L (fx_step hK hL)
                unfold pu_bb at ih'
                rw [hRL.1, Int32.or_zero]
                refine ⟨fun c => ?_, fun c => ?_⟩
                · rw [if_neg (fun hh => Int32.not_lt.mpr c (any_pos.mpr hh))] at ih'; exact ih'
                · rw [if_pos (any_pos.mp c)] at ih'; exact ih'
        · rw [if_neg (by rw [hfl c3]; decide)] at hI
          exact hI
      have hfls : pu_th (mv I) s = false → ∀ m k, k + m = n → Ex (d + 5) 168 (58, [vR 40 0, vI (Int32.ofNat s), vI b, vI 0, vI (Int32.ofNat k), none, none], [], ma_mem I o, 0, 0) (ma_end Q) := by
        intro hth m
        induction m with
        | zero =>
          intro k hk
          have : k = n := by omega
          subst this
          exact hbase 0 (fun c => absurd rfl c) (fun _ => hth)
        | succ m ihm =>
          intro k hk
          refine b_168_58 ?_
          rw [in_cl (by omega), e62, in_a1]
          refine ⟨hin, fun c => ?_, fun _ => ⟨fun _ => ihm (k + 1) (by omega), fun c => absurd rfl c⟩⟩
          have := (in_le (by omega) (by omega)).mp c
          omega
      have htrue : (1 ≤ n ∧ n ≤ 20) → ∀ m k, k + m = n → (∀ j, j < k → 0 ≤ mv I 63 0 (40 * s + j) ∧ mv I 63 0 (40 * s + j) ≤ 7) → Ex (d + 5) 168 (58, [vR 40 0, vI (Int32.ofNat s), vI b, vI 1, vI (Int32.ofNat k), none, none], [], ma_mem I o, 0, 0) (ma_end Q) := by
        intro hn20 m
        induction m with
        | zero =>
          intro k hk hj
          have : k = n := by omega
          subst this
          refine hbase 1 (fun _ => ?_) (fun c => absurd c (by decide))
          unfold pu_th
          rw [hsz, Bool.and_eq_true, and_t, decide_eq_true_iff]
          exact ⟨fun j hjk => decide_eq_true (hj j hjk), hn20⟩
        | succ m ihm =>
          intro k hk hj
          have ei : (40 : Int32) * Int32.ofNat s + Int32.ofNat k = Int32.ofNat (40 * s + k) := in_ma 40 s k
          refine b_168_58 ?_
          rw [in_cl (by omega), e62, in_a1, ei, in_cl (by omega), ← mv_63 I]
          refine ⟨hin, fun c => ?_, fun _ => ⟨fun c => absurd c (by decide), fun _ => ⟨in_in (by omega) (by omega), fun c => ?_, fun c => ?_⟩⟩⟩
          · have := (in_le (by omega) (by omega)).mp c
            omega
          · refine hfls ?_ m (k + 1) (by omega)
            unfold pu_th
            rw [hsz, and_f (by omega : k < n) (decide_eq_false c), Bool.false_and]
          · refine ihm (k + 1) (by omega) (fun j hjk => ?_)
            by_cases e : j = k
            · subst e; exact c
            · exact hj j (by omega)
      rw [e62]
      by_cases c20 : 1 ≤ Int32.ofNat n ∧ Int32.ofNat n ≤ 20
      · rw [xv_b1 c20]
        exact htrue ⟨(in_le (a := 1) (by decide) (by omega)).mp c20.1, (in_le (b := 20) (by omega) (by decide)).mp c20.2⟩ n 0 (by omega) (fun j hj => by omega)
      · rw [xv_b0 c20]
        refine hfls ?_ n 0 (by omega)
        unfold pu_th
        rw [hsz]
        have : ¬(1 ≤ n ∧ n ≤ 20) := fun hh => c20 ⟨(in_le (a := 1) (by decide) (by omega)).mpr hh.1, (in_le (b := 20) (by omega) (by decide)).mpr hh.2⟩
        rw [decide_eq_false this, Bool.and_false]
    · have hm1 : mv I 61 0 s = -1 := by
        rcases hsort with w | w
        · exact w
        · exfalso
          have := rg_lo (by decide) w
          rw [e61] at this
          exact absurd c1 (Int32.not_lt.mpr this)
      rw [if_pos hm1] at hI
      exact hI
  refine e_168 ?_
  rw [e4]
  refine ⟨fun ca => ?_, fun ca => ⟨fun cb => hmain ca (Or.inl cb), fun cb => ⟨fun cb2 => hmain ca (Or.inr cb2), fun cb2 => ?_⟩⟩⟩
  · rw [if_neg ca] at hI; exact hI
  · rw [if_pos ca, if_neg (by rintro (q | q); exact cb q; exact cb2 q)] at hI
    exact hI
end MCV

/-! ===== covers, but for the kinds ===== -/
def pu_and (p : Nat → Bool) : Nat → Bool
  | 0 => true
  | k + 1 => pu_and p k && p k
theorem and_t {p : Nat → Bool} : ∀ {n : Nat}, pu_and p n = true ↔ ∀ k, k < n → p k = true := by
  intro n
  induction n with
  | zero => exact ⟨fun _ k hk => by omega, fun _ => rfl⟩
  | succ n ih =>
    unfold pu_and
    rw [Bool.and_eq_true, ih]
    constructor
    · rintro ⟨h1, h2⟩ k hk
      by_cases e : k = n
      · subst e; exact h2
      · exact h1 k (by omega)
    · intro h
      exact ⟨fun k hk => h k (by omega), h n (by omega)⟩
theorem and_f {p : Nat → Bool} {n k : Nat} (hk : k < n) (h : p k = false) : pu_and p n = false := by
  cases hh : pu_and p n with
  | false => rfl
  | true => rw [and_t] at hh; rw [hh k hk] at h; cases h
/-- how sheets are held -/
def rx_s (σ τ : ma_I) : Prop := ∀ s, s < 4 → τ 12 s 0 = σ 61 0 s ∧ τ 12 s 1 = σ 62 0 s ∧ ∀ k, k < 40 → τ 13 s k = σ 63 0 (40 * s + k)
def iv_s (σ : ma_I) : Prop := ∀ s, s < 4 → (σ 61 0 s = -1 ∨ rg (σ 61 0 s) 0 2) ∧ rg (σ 62 0 s) 0 40
def pu_sz (σ : ma_I) (s : Nat) : Nat := (σ 62 0 s).toNatClampNeg
def pu_cr (σ : ma_I) (s k : Nat) : Int32 × pu_W := pu_r σ (σ 63 0 (40 * s)) k
def pu_cv (σ : ma_I) (s k : Nat) : Bool := decide ((pu_cr σ s k).2.2.2.1 + 1 = pu_sz σ s) && pu_and (fun j => decide ((pu_cr σ s k).2.2.2.2.1 j = σ 63 0 (40 * s + j))) (pu_sz σ s)
def pu_cu (σ : ma_I) (s : Nat) : Nat → Int32
  | 0 => 0
  | k + 1 => if pu_cv σ s k then pu_cu σ s k ||| (pu_cr σ s k).2.2.2.2.2.1 else pu_cu σ s k
def pu_any (σ : ma_I) (s : Nat) : Bool := (pu_ft (pu_cv σ s) 0 100).isSome
def pu_rt (σ : ma_I) (t : Nat) : ma_I := ma_up σ 40 0 14 (Int32.ofNat t)
def pu_kd (σ : ma_I) (o k : Nat) : ma_I := ma_up σ 43 0 o (Int32.ofNat k)
def pu_bb (p : Nat → Bool) : Nat → Int32
  | 0 => 0
  | k + 1 => if p k then pu_bb p k ||| 1 <<< (Int32.ofNat k &&& 31) else pu_bb p k
def pu_th (σ : ma_I) (s : Nat) : Bool := pu_and (fun k => decide (0 ≤ σ 63 0 (40 * s + k) ∧ σ 63 0 (40 * s + k) ≤ 7)) (pu_sz σ s) && decide (1 ≤ pu_sz σ s ∧ pu_sz σ s ≤ 20)
def an_cov (σ : ma_I) (s : Nat) (b : Int32) : Int32 := if b = 0 then Int32.ofNat (cn (pu_cv σ s) 100) else if b = 1 then pu_en (pu_ft (pu_cv σ s) 0 100) else if b = 2 then pu_cu σ s 100 else if b = 3 then pu_bb (fun t => pu_any (pu_rt σ t) s) (σ 40 0 13).toNatClampNeg else pu_bb (fun k => pu_any (pu_kd σ (b - 10).toNatClampNeg k) s) 6
def an_covers (σ : ma_I) (a b : Int32) : Int32 := if 0 ≤ a ∧ a ≤ 3 then if (0 ≤ b ∧ b ≤ 3) ∨ (0 ≤ b - 10 ∧ b - 10 ≤ σ 40 0 4 - 1) then if σ 61 0 a.toNatClampNeg = -1 then -11 else if pu_th σ a.toNatClampNeg then an_cov σ a.toNatClampNeg b else -2 else -2 else -2
theorem sh_of {a : Int32} (h : 0 ≤ a ∧ a ≤ 3) : ∃ n, n < 4 ∧ a = Int32.ofNat n := by
  obtain ⟨n, h1, h2⟩ := in_ub (b := 3) (by decide) h.1 h.2
  exact ⟨n, by omega, h2⟩
theorem cn_pos {p : Nat → Bool} : ∀ n, (0 < cn p n) ↔ (pu_ft p 0 n).isSome = true := by
  intro n
  induction n with
  | zero => exact ⟨fun h => absurd h (Nat.lt_irrefl 0), fun h => (by cases h)⟩
  | succ n ih =>
    rw [ft_snoc, Nat.zero_add]
    unfold cn
    cases hf : pu_ft p 0 n with
    | some b =>
      rw [hf] at ih
      have := ih.mpr rfl
      dsimp only
      constructor
      · intro _; rfl
      · intro _; split <;> omega
    | none =>
      rw [hf] at ih
      have h0 : ¬0 < cn p n := fun h => (by cases ih.mp h)
      dsimp only
      by_cases e : p n = true
      · rw [if_pos e, if_pos e]; exact ⟨fun _ => rfl, fun _ => by omega⟩
      · rw [if_neg e, if_neg e]; exact ⟨fun h => absurd h h0, fun h => (by cases h)⟩
section COV
variable {d : Nat} {I : ma_I} {o : Nat} {Q : ma_Q} {σ : ma_I}
theorem xs_41 {s : Nat} (hs : s < 4) (hiv : iv_s σ) (hS : rx_s σ (sv I)) (h : Q (some (.inl (xv_b (pu_th σ s = true)))) I o) : Exm (d + 2) 41 [.inr (.inr (12, s))] I o Q := by
  obtain ⟨-, ⟨n, hn, -, h40⟩⟩ := hiv s hs
  obtain ⟨-, x1, x2⟩ := hS s hs
  rw [sv_12, hn] at x1
  have hsz : pu_sz σ s = n := by unfold pu_sz; rw [hn, in_cl (by omega)]
  refine e_41 ?_
  have key := lp_up (P := fun k => (∀ j, j < k → 0 ≤ σ 63 0 (40 * s + j) ∧ σ 63 0 (40 * s + j) ≤ 7) → Ex (d + 2) 41 (2, [vR 12 s, vI (Int32.ofNat k)], [], ma_mem I o, 0, 0) (ma_end Q)) n ?_ ?_
  · exact key 0 (by omega) (fun j hj => by omega)
  · intro hj
    refine b_41_2 ?_
    rw [x1]
    refine ⟨fun _ => ?_, fun c => absurd c Int32.lt_irrefl⟩
    have e : (1 ≤ Int32.ofNat n ∧ Int32.ofNat n ≤ 20) ↔ pu_th σ s = true := by
      unfold pu_th
      rw [hsz, Bool.and_eq_true, and_t, decide_eq_true_iff]
      constructor
      · rintro ⟨h1, h2⟩
        exact ⟨fun k hk => decide_eq_true (hj k hk), (in_le (a := 1) (by decide) (by omega)).mp h1, (in_le (b := 20) (by omega) (by decide)).mp h2⟩
      · rintro ⟨-, h1, h2⟩
        exact ⟨(in_le (a := 1) (by decide) (by omega)).mpr h1, (in_le (b := 20) (by omega) (by decide)).mpr h2⟩
    by_cases ht : pu_th σ s = true
    · rw [xv_b1 ht] at h
      rw [xv_b1 (e.mpr ht)]
      exact h
    · rw [xv_b0 ht] at h
      rw [xv_b0 (fun hh => ht (e.mp hh))]
      exact h
  · intro k hk ih hj
    have x2k := x2 k (by omega)
    rw [sv_13] at x2k
    refine b_41_2 ?_
    rw [x1, in_cl (by omega), x2k, in_a1]
    refine ⟨fun c => ?_, fun _ => ⟨in_in (by omega) (by omega), fun c => ?_, fun c => ?_⟩⟩
    · have := (in_le (by omega) (by omega)).mp c
      omega
    · refine ih (fun j hjk => ?_)
      by_cases e : j = k
      · subst e; exact c
      · exact hj j (by omega)
    · have ht : pu_th σ s = false := by
        unfold pu_th
        rw [hsz, and_f hk (decide_eq_false c)]
        rfl
      rw [xv_b0 (by rw [ht]; decide)] at h
      exact h
/-- a sheet that tells houses -/
def ct_h (σ : ma_I) (s : Nat) : Prop := s < 4 ∧ (∀ k, k < pu_sz σ s → rg (σ 63 0 (40 * s + k)) 0 7) ∧ 1 ≤ pu_sz σ s ∧ pu_sz σ s ≤ 20 ∧ σ 62 0 s = Int32.ofNat (pu_sz σ s)
theorem ct_of {s : Nat} (hs : s < 4) (hiv : iv_s σ) (h : pu_th σ s = true) : ct_h σ s := by
  obtain ⟨-, hr⟩ := hiv s hs
  unfold pu_th at h
  rw [Bool.and_eq_true, and_t, decide_eq_true_iff] at h
  refine ⟨hs, fun k hk => ?_, h.2.1, h.2.2, (rg_cl (by decide) hr).1⟩
  have := of_decide_eq_true (h.1 k hk)
  exact rg_mk (by decide) this.1 this.2
theorem xs_62 {s k : Nat} (hc : ct_h σ s) (hS : rx_s σ (sv I)) (hX : xs_R I k (pu_cr σ s k)) (hB : go_B k (pu_cr σ s k)) (h : Q (some (.inl (xv_b (pu_cv σ s k = true)))) I o) : Exm d 62 [.inr (.inr (10, 0)), .inr (.inr (12, s))] I o Q := by
  obtain ⟨hs, hh, h1, h20, hsz⟩ := hc
  obtain ⟨-, x1, x2⟩ := hS s hs
  rw [sv_12, hsz] at x1
  have x4 : I 10 0 4 = Int32.ofNat ((pu_cr σ s k).2.2.2.1 + 1) := hX.2.2.2.2.1
  have hs21 := hB.2.2.2.1
  refine e_62_10_12 ?_
  rw [x1, x4]
  refine ⟨fun c => ?_, fun c => ?_⟩
  · have c' := (in_eq (by omega) (by omega)).mp c
    have key := lp_up (P := fun j => (∀ i, i < j → (pu_cr σ s k).2.2.2.2.1 i = σ 63 0 (40 * s + i)) → Ex d 62 (15, [vR 10 0, vR 12 s, vI (Int32.ofNat j)], [], ma_mem I o, 0, 0) (ma_end Q)) (pu_sz σ s) ?_ ?_
    · exact key 0 (by omega) (fun i hi => by omega)
    · intro hi
      refine b_62_10_12_15 ?_
      rw [x4, ← c']
      refine ⟨fun _ => ?_, fun cc => absurd cc Int32.lt_irrefl⟩
      have hcv : pu_cv σ s k = true := by
        unfold pu_cv
        rw [Bool.and_eq_true, and_t, decide_eq_true_iff]
        exact ⟨c'.symm, fun i hi2 => decide_eq_true (hi i hi2)⟩
      rw [xv_b1 hcv] at h
      exact h
    · intro j hj ih hi
      have x2j := x2 j (by omega)
      rw [sv_13] at x2j
      have x8 : I 32 0 j = (pu_cr σ s k).2.2.2.2.1 j := hX.2.2.2.2.2.2.2.2 j (by omega)
      refine b_62_10_12_15 ?_
      rw [x4, in_cl (by omega), x2j, x8, in_a1]
      refine ⟨fun cc => ?_, fun _ => ⟨in_in (by omega) (by omega), in_in (by omega) (by omega), fun cc => ?_, fun cc => ?_⟩⟩
      · have := (in_le (by omega) (by omega)).mp cc
        omega
      · refine ih (fun i hi2 => ?_)
        by_cases e : i = j
        · subst e; exact cc.symm
        · exact hi i (by omega)
      · have hcv : pu_cv σ s k = false := by
          unfold pu_cv
          rw [and_f hj (decide_eq_false (fun e => cc e.symm)), Bool.and_false]
        rw [xv_b0 (by rw [hcv]; decide)] at h
        exact h
  · have hcv : pu_cv σ s k = false := by
      unfold pu_cv
      rw [decide_eq_false (fun e => c (by rw [e])), Bool.false_and]
    rw [xv_b0 (by rw [hcv]; decide)] at h
    exact h
theorem xs_92 {s k : Nat} (hg : iv_g σ) (hR : rx_w σ (sv I)) (hc : ct_h σ s) (hS : rx_s σ (sv I)) (hk : k ≤ 99) (h : ∀ I', fr fr_wk I I' → xs_R I' k (pu_cr σ s k) → Q (some (.inl (xv_b (pu_cv σ s k = true)))) I' o) : Exm (d + 5) 92 [.inr (.inr (5, 0)), .inr (.inr (12, s)), .inl (Int32.ofNat k)] I o Q := by
  have hs := hc.1
  obtain ⟨hh, e, -, h7⟩ := hc.2.1 0 (by have := hc.2.2.1; omega)
  rw [Nat.add_zero] at e
  have i0 : I 13 s 0 = Int32.ofNat hh := by
    have := (hS s hs).2.2 0 (by omega)
    rw [sv_13, Nat.add_zero, e] at this
    exact this
  have hB : go_B k (pu_cr σ s k) := rn_bd hg ⟨hh, e, by omega, h7⟩ hk
  refine e_92 ?_
  rw [xs_al hR, i0]
  refine xs_57 hg hR.1 (by omega) hk (fun J hJ hX => ⟨rfl, ?_⟩)
  have hX' : xs_R J k (pu_cr σ s k) := by unfold pu_cr; rw [e]; exact hX
  exact xs_62 hc (by rw [sv_fr hJ (by decide)]; exact hS) hX' hB ⟨_, rfl, xv_b01, h J hJ hX'⟩
theorem xs_93 {s : Nat} (hg : iv_g σ) (hR : rx_w σ (sv I)) (hc : ct_h σ s) (hS : rx_s σ (sv I)) (h : ∀ I', fr fr_wk I I' → Q (some (.inl (Int32.ofNat (cn (pu_cv σ s) 100)))) I' o) : Exm (d + 6) 93 [.inr (.inr (5, 0)), .inr (.inr (12, s))] I o Q := by
  refine e_93 ?_
  have key := lp_up (P := fun k => ∀ I', fr fr_wk I I' → Ex (d + 6) 93 (4, [vR 5 0, vR 12 s, vI (Int32.ofNat (cn (pu_cv σ s) k)), vI (Int32.ofNat k)], [], ma_mem I' o, 0, 0) (ma_end Q)) 100 ?_ ?_
  · exact key 0 (by omega) I (fr_refl _ _)
  · intro I' hf
    exact b_93_4 ⟨fun _ => h I' hf, fun c => absurd c (by decide)⟩
  · intro k hk ih I' hf
    have hsv : sv I' = sv I := sv_fr hf (by decide)
    refine b_93_4 ⟨fun c => ?_, fun _ => ?_⟩
    · have := (in_le (a := 100) (by decide) (by omega)).mp c
      omega
    · refine xs_92 hg (by rw [hsv]; exact hR) hc (by rw [hsv]; exact hS) (by omega) (fun J hJ _ => ⟨_, rfl, ?_⟩)
      have ih' := ih J (fr_trans hf hJ)
      unfold cn at ih'
      rw [in_a1]
      refine ⟨fun c => ?_, fun c => ?_⟩
      · rw [if_neg (xv_beq0.mp c)] at ih'; exact ih'
      · rw [if_pos (xv_bne0.mp c)] at ih'; rw [in_a1]; exact ih'
theorem xs_94 {s : Nat} (hg : iv_g σ) (hR : rx_w σ (sv I)) (hc : ct_h σ s) (hS : rx_s σ (sv I)) (h : ∀ I', fr fr_wk I I' → Q (some (.inl (pu_en (pu_ft (pu_cv σ s) 0 100)))) I' o) : Exm (d + 6) 94 [.inr (.inr (5, 0)), .inr (.inr (12, s))] I o Q := by
  refine e_94 ?_
  have key := lp_up (P := fun k => pu_ft (pu_cv σ s) k (100 - k) = pu_ft (pu_cv σ s) 0 100 → ∀ I', fr fr_wk I I' → Ex (d + 6) 94 (2, [vR 5 0, vR 12 s, vI (Int32.ofNat k)], [], ma_mem I' o, 0, 0) (ma_end Q)) 100 ?_ ?_
  · exact key 0 (by omega) rfl I (fr_refl _ _)
  · intro he I' hf
    refine b_94_2 ⟨fun _ => ?_, fun c => absurd c (by decide)⟩
    have := h I' hf
    rw [← he] at this
    exact this
  · intro k hk ih he I' hf
    have hsv : sv I' = sv I := sv_fr hf (by decide)
    have hu : pu_ft (pu_cv σ s) k (100 - k) = if pu_cv σ s k then some k else pu_ft (pu_cv σ s) (k + 1) (100 - (k + 1)) := by
      rw [show 100 - k = (100 - (k + 1)) + 1 by omega]
      rfl
    rw [hu] at he
    refine b_94_2 ⟨fun c => ?_, fun _ => ?_⟩
    · have := (in_le (a := 100) (by decide) (by omega)).mp c
      omega
    · refine xs_92 hg (by rw [hsv]; exact hR) hc (by rw [hsv]; exact hS) (by omega) (fun J hJ _ => ⟨_, rfl, fun c => ?_, fun c => ?_⟩)
      · rw [if_neg (xv_beq0.mp c)] at he
        rw [in_a1]
        exact ih he J (fr_trans hf hJ)
      · rw [if_pos (xv_bne0.mp c)] at he
        have := h J (fr_trans hf hJ)
        rw [← he] at this
        exact this
theorem xs_95 {s : Nat} (hg : iv_g σ) (hR : rx_w σ (sv I)) (hc : ct_h σ s) (hS : rx_s σ (sv I)) (h : ∀ I', fr fr_wk I I' → Q (some (.inl (pu_cu σ s 100))) I' o) : Exm (d + 6) 95 [.inr (.inr (5, 0)), .inr (.inr (12, s))] I o Q := by
  refine e_95 ?_
  have key := lp_up (P := fun k => ∀ I', fr fr_wk I I' → Ex (d + 6) 95 (4, [vR 5 0, vR 12 s, vI (pu_cu σ s k), vI (Int32.ofNat k)], [], ma_mem I' o, 0, 0) (ma_end Q)) 100 ?_ ?_
  · exact key 0 (by omega) I (fr_refl _ _)
  · intro I' hf
    exact b_95_4 ⟨fun _ => h I' hf, fun c => absurd c (by decide)⟩
  · intro k hk ih I' hf
    have hsv : sv I' = sv I := sv_fr hf (by decide)
    refine b_95_4 ⟨fun c => ?_, fun _ => ?_⟩
    · have := (in_le (a := 100) (by decide) (by omega)).mp c
      omega
    · refine xs_92 hg (by rw [hsv]; exact hR) hc (by rw [hsv]; exact hS) (by omega) (fun J hJ hX => ⟨_, rfl, ?_⟩)
      have ih' := ih J (fr_trans hf hJ)
      unfold pu_cu at ih'
      rw [in_a1, hX.2.2.2.2.2.1]
      refine ⟨fun c => ?_, fun c => ?_⟩
      · rw [if_neg (xv_beq0.mp c)] at ih'; exact ih'
      · rw [if_pos (xv_bne0.mp c)] at ih'; exact ih'
theorem rt_iv {t : Nat} (hg : iv_g σ) (ht : t < (σ 40 0 13).toNatClampNeg) : iv_g (pu_rt σ t) := by
  obtain ⟨h1, h2, h3, h4⟩ := hg
  exact ⟨h1, mv_cong rfl (fun _ => rfl) (fun _ => rfl) h2, od_cong rfl (fun _ _ => ⟨rfl, rfl, rfl, rfl, rfl, rfl⟩) h3, tx_cong (σ := σ) (τ := pu_rt σ t) rfl (fun _ => rfl) (fun _ => rfl) xv_us ht h4⟩
theorem rt_rx {τ : ma_I} {t : Nat} (hR : rx_w σ τ) : rx_w (pu_rt σ t) (ma_up τ 6 0 8 (Int32.ofNat t)) :=
  ⟨rx_cong hR.1 rfl (fun _ => rfl) (fun _ => rfl) rfl (fun _ _ => ⟨rfl, rfl, rfl, rfl, rfl, rfl⟩) rfl (fun _ => rfl) (fun _ => rfl) hR.1.1 rfl rfl (fun g i j h => up_g (by rcases h with e | e | e | e | e <;> subst e <;> decide)), hR.2⟩
theorem any_iff {s : Nat} : pu_any σ s = true ↔ pu_en (pu_ft (pu_cv σ s) 0 100) ≠ -1 := by
  unfold pu_any
  cases hf : pu_ft (pu_cv σ s) 0 100 with
  | none => exact ⟨fun h => (by cases h), fun h => absurd rfl h⟩
  | some b =>
    have := (ft_some _ _ _ hf).2.1
    exact ⟨fun _ => in_nm (by omega), fun _ => rfl⟩
theorem xs_96 {s : Nat} (hg : iv_g σ) (hR : rx_w σ (sv I)) (hc : ct_h σ s) (hS : rx_s σ (sv I)) (h : ∀ I', fr fr_wk I I' → Q (some (.inl (pu_bb (fun t => pu_any (pu_rt σ t) s) (σ 40 0 13).toNatClampNeg))) I' o) : Exm (d + 7) 96 [.inr (.inr (5, 0)), .inr (.inr (12, s))] I o Q := by
  obtain ⟨n6, r6, hn6, hr6, h6, hrn, hw⟩ := hg.2.2.2
  have hn : (σ 40 0 13).toNatClampNeg = n6 := by rw [hn6, in_cl (by omega)]
  rw [hn] at h
  have e6 : I 6 0 6 = Int32.ofNat n6 := by have := hR.1.2.2.1; rw [sv_6, hn6] at this; exact this
  refine e_96 ?_
  have key := lp_up (P := fun k => ∀ K, fx fr_wk 6 0 8 I K → Ex (d + 7) 96 (13, [vR 5 0, vR 12 s, vI (I 6 0 8), vI (pu_bb (fun t => pu_any (pu_rt σ t) s) k), vI (Int32.ofNat k)], [], ma_mem K o, 0, 0) (ma_end Q)) n6 ?_ ?_
  · exact key 0 (by omega) I (fun g i j _ _ => rfl)
  · intro K hK
    refine b_96_13 ?_
    rw [hK 6 0 6 (by decide) (by decide), e6]
    exact ⟨fun _ => h _ (fx_back hK), fun c => absurd c Int32.lt_irrefl⟩
  · intro k hk ih K hK
    have hsvt : sv (ma_up K 6 0 8 (Int32.ofNat k)) = ma_up (sv I) 6 0 8 (Int32.ofNat k) := fx_sv hK (by decide) (by decide)
    have hS' : rx_s (pu_rt σ k) (sv (ma_up K 6 0 8 (Int32.ofNat k))) := by rw [hsvt]; exact hS
    refine b_96_13 ⟨fun c => ?_, fun _ => ?_⟩
    · rw [hK 6 0 6 (by decide) (by decide), e6] at c
      have := (in_le (by omega) (by omega)).mp c
      omega
    · rw [in_a1]
      refine xs_94 (σ := pu_rt σ k) (rt_iv hg (by omega)) (by rw [hsvt]; exact rt_rx hR) hc hS' (fun L hL => ⟨_, rfl, ?_⟩)
      have ih' := ih L (fx_step hK hL)
      unfold pu_bb at ih'
      refine ⟨fun c => ?_, fun c => ?_⟩
      · rw [if_neg (fun hh => any_iff.mp hh c)] at ih'; exact ih'
      · rw [if_pos (any_iff.mpr c)] at ih'; exact ih'
end COV

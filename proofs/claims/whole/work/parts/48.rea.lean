/-! ===== reaches, on both sides ===== -/
def pu_r (σ : ma_I) (h : Int32) (k : Nat) : Int32 × pu_W := pu_rn σ h k (pu_all σ)
def pu_p (σ : ma_I) (h : Int32) (k : Nat) : Bool := pu_hs σ h (pu_all σ) k
def pu_last (p : Nat → Bool) : Nat → Int32
  | 0 => -1
  | k + 1 => if p k then Int32.ofNat k else pu_last p k
def pu_gr (σ : ma_I) (h : Int32) : Nat → Int32
  | 0 => 0
  | k + 1 => if pu_p σ h k then pu_gr σ h k else pu_gr σ h k + pu_sy σ 2 (pu_nm (Int32.ofNat k) h (Int32.ofNat (pu_r σ h k).2.2.2.1) 0 0 (Int32.ofNat ((pu_r σ h k).2.2.1 - k)))
def pu_lg (σ : ma_I) (h : Int32) : Nat → Int32
  | 0 => -1
  | k + 1 => if pu_p σ h k then xv_hi (pu_lg σ h k) (Int32.ofNat ((pu_r σ h k).2.2.1 - k)) else pu_lg σ h k
/-- days from the last one down: how many are overtaken, when the soonest comes -/
def pu_ov (σ : ma_I) (h : Int32) : Nat → Nat × Int32
  | 0 => (0, 1000)
  | c + 1 => if pu_p σ h (99 - c) then ((if (pu_ov σ h c).2 < Int32.ofNat (pu_r σ h (99 - c)).2.2.1 then (pu_ov σ h c).1 + 1 else (pu_ov σ h c).1), xv_lo (pu_ov σ h c).2 (Int32.ofNat (pu_r σ h (99 - c)).2.2.1)) else pu_ov σ h c
def pu_rd (σ : ma_I) (h : Int32) (k : Nat) : Int32 := pu_en (pu_ft (fun k => (pu_r σ h k).2.2.2.2.2.2) 0 k)
theorem ft_snoc (p : Nat → Bool) : ∀ (c k : Nat), pu_ft p k (c + 1) = (match pu_ft p k c with | some o => some o | none => if p (k + c) then some (k + c) else none) := by
  intro c
  induction c with
  | zero => intro k; unfold pu_ft; rfl
  | succ c ih =>
    intro k
    have h1 : pu_ft p k (c + 1 + 1) = if p k then some k else pu_ft p (k + 1) (c + 1) := rfl
    have h2 : pu_ft p k (c + 1) = if p k then some k else pu_ft p (k + 1) c := rfl
    rw [h1, h2, ih (k + 1)]
    by_cases e : p k = true
    · rw [if_pos e, if_pos e]
    · rw [if_neg e, if_neg e, show k + 1 + c = k + (c + 1) by omega]
def an_re (σ : ma_I) (h w : Int32) : Int32 := if w = 0 then Int32.ofNat (pu_has σ h (pu_all σ)) else if w = 1 then pu_last (pu_p σ h) 100 else if w = 2 then pu_gr σ h 100 else if w = 3 then pu_lg σ h 100 else if w = 4 then Int32.ofNat (pu_ov σ h 100).1 else pu_rd σ h 100
def an_reaches (σ : ma_I) (a b : Int32) : Int32 := if 0 ≤ a ∧ a ≤ 7 then if 0 ≤ b ∧ b ≤ 5 then an_re σ a b else -2 else -2
theorem hi_sym (a b : Int32) : (if a < b then b else a) = xv_hi a b := by
  unfold xv_hi
  simp only [Int32.lt_iff_toInt_lt]
  repeat' split
  all_goals first | rfl | (exfalso; omega) | (apply Int32.toInt.inj; omega)
theorem lo_sym (a b : Int32) : (if b < a then b else a) = xv_lo a b := by
  unfold xv_lo
  simp only [Int32.lt_iff_toInt_lt]
  repeat' split
  all_goals first | rfl | (exfalso; omega) | (apply Int32.toInt.inj; omega)
/-- the house and day of a call that is in order -/
theorem ho_of {a : Int32} (h : 0 ≤ a ∧ a ≤ 7) : ∃ n, n < 8 ∧ a = Int32.ofNat n := by
  obtain ⟨n, h1, h2⟩ := in_ub (b := 7) (by decide) h.1 h.2
  exact ⟨n, by omega, h2⟩
theorem da_of {a : Int32} (h : 0 ≤ a ∧ a ≤ 99) : ∃ n, n ≤ 99 ∧ a = Int32.ofNat n := in_ub (b := 99) (by decide) h.1 h.2
theorem pp_t {σ : ma_I} {h : Int32} {k : Nat} (c : (pu_r σ h k).1 = 0) : pu_p σ h k = true := decide_eq_true c
theorem pp_f {σ : ma_I} {h : Int32} {k : Nat} (c : (pu_r σ h k).1 ≠ 0) : pu_p σ h k = false := decide_eq_false c
section REA
variable {d : Nat} {I : ma_I} {o : Nat} {Q : ma_Q} {σ : ma_I}
/-! the class -/
theorem xs_al (hR : rx_w σ (sv I)) : xv_al (I 6 0 4) = pu_all σ := by
  have := hR.2
  rw [sv_6] at this
  rw [this]
  rfl
theorem xs_77 {hh d0 : Nat} (hg : iv_g σ) (hR : rx_w σ (sv I)) (h8 : hh < 8) (hd0 : d0 ≤ 99) (h : ∀ I', fr fr_wk I I' → xs_R I' d0 (pu_r σ (Int32.ofNat hh) d0) → Q none I' o) : Exm (d + 5) 77 [.inr (.inr (5, 0)), .inl (Int32.ofNat hh), .inl (Int32.ofNat d0)] I o Q := by
  refine e_77 ?_
  rw [xs_al hR]
  exact xs_57 hg hR.1 h8 hd0 (fun I' hf hX => ⟨rfl, h I' hf hX⟩)
theorem xs_78 {hh : Nat} {there : Int32} (hg : iv_g σ) (hR : rx_v σ (sv I)) (h8 : hh < 8) (h : ∀ I', fr fr_wk I I' → Q (some (.inl (Int32.ofNat (pu_has σ (Int32.ofNat hh) there)))) I' o) : Exm (d + 5) 78 [.inr (.inr (5, 0)), .inl (Int32.ofNat hh), .inl there] I o Q := by
  refine e_78 ?_
  have key := lp_up (P := fun k => ∀ I', fr fr_wk I I' → Ex (d + 5) 78 (5, [vR 5 0, vI (Int32.ofNat hh), vI there, vI (Int32.ofNat (cn (pu_hs σ (Int32.ofNat hh) there) k)), vI (Int32.ofNat k)], [], ma_mem I' o, 0, 0) (ma_end Q)) 100 ?_ ?_
  · exact key 0 (by omega) I (fr_refl _ _)
  · intro I' hf
    exact b_78_5 ⟨fun _ => h I' hf, fun c => absurd c (by decide)⟩
  · intro k hk ih I' hf
    have hsv : sv I' = sv I := sv_fr hf (by decide)
    refine b_78_5 ⟨fun c => ?_, fun _ => ?_⟩
    · have := (in_le (a := 100) (by decide) (by omega)).mp c
      omega
    · refine xs_57 hg (by rw [hsv]; exact hR) h8 (by omega) (fun J hJ hX => ⟨rfl, fun c => ?_, fun c => ?_⟩)
      · rw [hX.1] at c
        have ih' := ih J (fr_trans hf hJ)
        unfold cn at ih'
        rw [if_neg (by unfold pu_hs; rw [decide_eq_false c]; decide)] at ih'
        rw [in_a1]
        exact ih'
      · rw [hX.1] at c
        have ih' := ih J (fr_trans hf hJ)
        unfold cn at ih'
        rw [if_pos (by unfold pu_hs; rw [decide_eq_true c])] at ih'
        rw [in_a1, in_a1]
        exact ih'
theorem xs_79 {hh : Nat} (hg : iv_g σ) (hR : rx_w σ (sv I)) (h8 : hh < 8) (h : ∀ I', fr fr_wk I I' → Q (some (.inl (pu_last (pu_p σ (Int32.ofNat hh)) 100))) I' o) : Exm (d + 6) 79 [.inr (.inr (5, 0)), .inl (Int32.ofNat hh)] I o Q := by
  refine e_79 ?_
  have key : ∀ c, c ≤ 100 → pu_last (pu_p σ (Int32.ofNat hh)) c = pu_last (pu_p σ (Int32.ofNat hh)) 100 → ∀ I', fr fr_wk I I' → Ex (d + 6) 79 (3, [vR 5 0, vI (Int32.ofNat hh), vI (Int32.ofNat c + -1)], [], ma_mem I' o, 0, 0) (ma_end Q) := by
    intro c
    induction c with
    | zero =>
      intro _ he I' hf
      refine b_79_3 ⟨fun _ => ?_, fun c => absurd c (by decide)⟩
      have := h I' hf
      rw [← he] at this
      exact this
    | succ k ih =>
      intro hk he I' hf
      have hsv : sv I' = sv I := sv_fr hf (by decide)
      rw [in_m1]
      refine b_79_3 ⟨fun c => absurd (in_ge0 (a := k) (by omega)) (Int32.not_le.mpr c), fun _ => ?_⟩
      refine xs_77 hg (by rw [hsv]; exact hR) h8 (by omega) (fun J hJ hX => ⟨rfl, fun c => ?_, fun c => ?_⟩)
      · rw [hX.1] at c
        have hl : pu_last (pu_p σ (Int32.ofNat hh)) (k + 1) = if pu_p σ (Int32.ofNat hh) k then Int32.ofNat k else pu_last (pu_p σ (Int32.ofNat hh)) k := rfl
        rw [hl] at he
        rw [if_neg (by rw [pp_f c]; decide)] at he
        exact ih (by omega) he J (fr_trans hf hJ)
      · rw [hX.1] at c
        have hl : pu_last (pu_p σ (Int32.ofNat hh)) (k + 1) = if pu_p σ (Int32.ofNat hh) k then Int32.ofNat k else pu_last (pu_p σ (Int32.ofNat hh)) k := rfl
        rw [hl] at he
        rw [if_pos (pp_t c)] at he
        have := h J (fr_trans hf hJ)
        rw [show pu_last (pu_p σ (Int32.ofNat hh)) 100 = _ from he.symm] at this
        exact this
  exact key 100 (by omega) rfl I (fr_refl _ _)
theorem xs_80 {hh : Nat} (hg : iv_g σ) (hR : rx_w σ (sv I)) (h8 : hh < 8) (h : ∀ I', fr fr_wk I I' → Q (some (.inl (pu_gr σ (Int32.ofNat hh) 100))) I' o) : Exm (d + 6) 80 [.inr (.inr (5, 0)), .inl (Int32.ofNat hh)] I o Q := by
  refine e_80 ?_
  have key := lp_up (P := fun k => ∀ I', fr fr_wk I I' → Ex (d + 6) 80 (4, [vR 5 0, vI (Int32.ofNat hh), vI (pu_gr σ (Int32.ofNat hh) k), vI (Int32.ofNat k)], [], ma_mem I' o, 0, 0) (ma_end Q)) 100 ?_ ?_
  · exact key 0 (by omega) I (fr_refl _ _)
  · intro I' hf
    exact b_80_4 ⟨fun _ => h I' hf, fun c => absurd c (by decide)⟩
  · intro k hk ih I' hf
    have hsv : sv I' = sv I := sv_fr hf (by decide)
    have hB : go_B k (pu_r σ (Int32.ofNat hh) k) := rn_bd hg ⟨hh, rfl, by omega, by omega⟩ (by omega)
    refine b_80_4 ⟨fun c => ?_, fun _ => ?_⟩
    · have := (in_le (a := 100) (by decide) (by omega)).mp c
      omega
    · refine xs_77 hg (by rw [hsv]; exact hR) h8 (by omega) (fun J hJ hX => ⟨rfl, fun c => ?_, fun c => ?_⟩)
      · rw [hX.1] at c
        have ih' := ih J (fr_trans hf hJ)
        unfold pu_gr at ih'
        rw [if_pos (pp_t c)] at ih'
        rw [in_a1]
        exact ih'
      · rw [hX.1] at c
        have hfJ := fr_trans hf hJ
        have e3 : J 10 0 3 = Int32.ofNat (pu_r σ (Int32.ofNat hh) k).2.2.2.1 := hX.2.2.2.1
        have e1 : J 10 0 1 - J 10 0 7 = Int32.ofNat ((pu_r σ (Int32.ofNat hh) k).2.2.1 - k) := by
          rw [hX.2.1, hX.2.2.2.2.2.2.2.1]
          exact (Int32.ofNat_sub _ _ hB.2.1).symm
        rw [e3, e1, in_a1]
        refine xs_23 hg.2.2.2 (by rw [sv_fr hfJ (by decide)]; exact hR.1) (fun K hK => ⟨_, rfl, ?_⟩)
        have ih' := ih K (fr_trans hfJ (fr_mono hK (by decide)))
        unfold pu_gr at ih'
        rw [if_neg (by rw [pp_f c]; decide)] at ih'
        exact ih'
theorem xs_81 {hh : Nat} (hg : iv_g σ) (hR : rx_w σ (sv I)) (h8 : hh < 8) (h : ∀ I', fr fr_wk I I' → Q (some (.inl (pu_lg σ (Int32.ofNat hh) 100))) I' o) : Exm (d + 6) 81 [.inr (.inr (5, 0)), .inl (Int32.ofNat hh)] I o Q := by
  refine e_81 ?_
  have key := lp_up (P := fun k => ∀ I', fr fr_wk I I' → Ex (d + 6) 81 (4, [vR 5 0, vI (Int32.ofNat hh), vI (pu_lg σ (Int32.ofNat hh) k), vI (Int32.ofNat k)], [], ma_mem I' o, 0, 0) (ma_end Q)) 100 ?_ ?_
  · exact key 0 (by omega) I (fr_refl _ _)
  · intro I' hf
    exact b_81_4 ⟨fun _ => h I' hf, fun c => absurd c (by decide)⟩
  · intro k hk ih I' hf
    have hsv : sv I' = sv I := sv_fr hf (by decide)
    have hB : go_B k (pu_r σ (Int32.ofNat hh) k) := rn_bd hg ⟨hh, rfl, by omega, by omega⟩ (by omega)
    refine b_81_4 ⟨fun c => ?_, fun _ => ?_⟩
    · have := (in_le (a := 100) (by decide) (by omega)).mp c
      omega
    · refine xs_77 hg (by rw [hsv]; exact hR) h8 (by omega) (fun J hJ hX => ⟨rfl, fun c => ?_, fun c => ?_⟩)
      · rw [hX.1] at c
        have ih' := ih J (fr_trans hf hJ)
        unfold pu_lg at ih'
        rw [if_neg (by rw [pp_f c]; decide)] at ih'
        rw [in_a1]
        exact ih'
      · rw [hX.1] at c
        have e1 : J 10 0 1 - J 10 0 7 = Int32.ofNat ((pu_r σ (Int32.ofNat hh) k).2.2.1 - k) := by
          rw [hX.2.1, hX.2.2.2.2.2.2.2.1]
          exact (Int32.ofNat_sub _ _ hB.2.1).symm
        rw [e1, hi_sym, in_a1]
        have ih' := ih J (fr_trans hf hJ)
        unfold pu_lg at ih'
        rw [if_pos (pp_t c)] at ih'
        exact ih'
theorem xs_82 {hh : Nat} (hg : iv_g σ) (hR : rx_w σ (sv I)) (h8 : hh < 8) (h : ∀ I', fr fr_wk I I' → Q (some (.inl (Int32.ofNat (pu_ov σ (Int32.ofNat hh) 100).1))) I' o) : Exm (d + 6) 82 [.inr (.inr (5, 0)), .inl (Int32.ofNat hh)] I o Q := by
  refine e_82 ?_
  have key := lp_up (P := fun c => ∀ I', fr fr_wk I I' → Ex (d + 6) 82 (10, [vR 5 0, vI (Int32.ofNat hh), vI (Int32.ofNat (pu_ov σ (Int32.ofNat hh) c).1), vI (pu_ov σ (Int32.ofNat hh) c).2, vI (Int32.ofNat (100 - c) + -1)], [], ma_mem I' o, 0, 0) (ma_end Q)) 100 ?_ ?_
  · exact key 0 (by omega) I (fr_refl _ _)
  · intro I' hf
    exact b_82_10 ⟨fun _ => h I' hf, fun c => absurd c (by decide)⟩
  · intro c hc ih I' hf
    have hsv : sv I' = sv I := sv_fr hf (by decide)
    have ec : Int32.ofNat (100 - c) + -1 = Int32.ofNat (99 - c) := by
      rw [show 100 - c = (99 - c) + 1 by omega]
      exact in_m1 _
    have ed : Int32.ofNat (99 - c) + -1 = Int32.ofNat (100 - (c + 1)) + -1 := by rw [show 100 - (c + 1) = 99 - c by omega]
    rw [ec]
    refine b_82_10 ⟨fun c1 => absurd (in_ge0 (a := 99 - c) (by omega)) (Int32.not_le.mpr c1), fun _ => ?_⟩
    refine xs_77 hg (by rw [hsv]; exact hR) h8 (by omega) (fun J hJ hX => ⟨rfl, fun c1 => ?_, fun c1 => ?_⟩)
    · rw [hX.1] at c1
      have ih' := ih J (fr_trans hf hJ)
      unfold pu_ov at ih'
      rw [if_neg (by rw [pp_f c1]; decide)] at ih'
      rw [ed]
      exact ih'
    · rw [hX.1] at c1
      have ih' := ih J (fr_trans hf hJ)
      unfold pu_ov at ih'
      rw [if_pos (pp_t c1)] at ih'
      dsimp only at ih'
      rw [hX.2.1, lo_sym, ed]
      refine ⟨fun c2 => ?_, fun c2 => ?_⟩
      · rw [if_neg (Int32.not_lt.mpr c2)] at ih'
        exact ih'
      · rw [if_pos c2] at ih'
        rw [in_a1]
        exact ih'
theorem xs_83 {hh : Nat} (hg : iv_g σ) (hR : rx_w σ (sv I)) (h8 : hh < 8) (h : ∀ I', fr fr_wk I I' → Q (some (.inl (pu_rd σ (Int32.ofNat hh) 100))) I' o) : Exm (d + 6) 83 [.inr (.inr (5, 0)), .inl (Int32.ofNat hh)] I o Q := by
  refine e_83 ?_
  have key := lp_up (P := fun k => pu_ft (fun k => (pu_r σ (Int32.ofNat hh) k).2.2.2.2.2.2) k (100 - k) = pu_ft (fun k => (pu_r σ (Int32.ofNat hh) k).2.2.2.2.2.2) 0 100 → ∀ I', fr fr_wk I I' → Ex (d + 6) 83 (2, [vR 5 0, vI (Int32.ofNat hh), vI (Int32.ofNat k)], [], ma_mem I' o, 0, 0) (ma_end Q)) 100 ?_ ?_
  · exact key 0 (by omega) rfl I (fr_refl _ _)
  · intro he I' hf
    refine b_83_2 ⟨fun _ => ?_, fun c => absurd c (by decide)⟩
    have := h I' hf
    unfold pu_rd at this
    rw [← he] at this
    exact this
  · intro k hk ih he I' hf
    have hsv : sv I' = sv I := sv_fr hf (by decide)
    refine b_83_2 ⟨fun c => ?_, fun _ => ?_⟩
    · have := (in_le (a := 100) (by decide) (by omega)).mp c
      omega
    · rw [show 100 - k = (100 - (k + 1)) + 1 by omega] at he
      have hl : pu_ft (fun k => (pu_r σ (Int32.ofNat hh) k).2.2.2.2.2.2) k (100 - (k + 1) + 1) = if (pu_r σ (Int32.ofNat hh) k).2.2.2.2.2.2 then some k else pu_ft (fun k => (pu_r σ (Int32.ofNat hh) k).2.2.2.2.2.2) (k + 1) (100 - (k + 1)) := rfl
      rw [hl] at he
      refine xs_77 hg (by rw [hsv]; exact hR) h8 (by omega) (fun J hJ hX => ⟨rfl, fun c => ?_, fun c => ?_⟩)
      · rw [hX.2.2.2.2.2.2.1] at c
        rw [if_neg (xv_beq0.mp c)] at he
        rw [in_a1]
        exact ih he J (fr_trans hf hJ)
      · rw [hX.2.2.2.2.2.2.1] at c
        rw [if_pos (xv_bne0.mp c)] at he
        have := h J (fr_trans hf hJ)
        unfold pu_rd at this
        rw [← he] at this
        exact this
end REA

/-! ===== needless, on both sides ===== -/
def pu_no (σ : ma_I) : Nat := (σ 40 0 4).toNatClampNeg
def pu_cN (σ : ma_I) (s : Int32) : Nat → Nat
  | 0 => 0
  | k + 1 => if bt s k then pu_cN σ s k + (pu_co σ k).toNatClampNeg else pu_cN σ s k
def pu_cst (σ : ma_I) (s : Nat) : Nat := pu_cN σ (Int32.ofNat s) (pu_no σ)
def pu_eno (σ : ma_I) (h : Int32) (s : Nat) : Bool := decide (pu_has σ h (pu_all σ) ≤ pu_has σ h (Int32.ofNat s))
def pu_nl (σ : ma_I) (h : Int32) : Nat → Int32
  | 0 => 0
  | k + 1 => if pu_has σ h (pu_all σ) ≤ pu_has σ h (pu_all σ &&& (1 <<< (Int32.ofNat k &&& 31) ^^^ -1)) then pu_nl σ h k ||| 1 <<< (Int32.ofNat k &&& 31) else pu_nl σ h k
def pu_A (σ : ma_I) : Nat := 2 ^ pu_no σ - 1
def pu_best (σ : ma_I) (h : Int32) : Nat × Nat := pu_as (pu_A σ) (pu_cst σ) (pu_eno σ h) (pu_A σ + 1)
def an_needless (σ : ma_I) (a b : Int32) : Int32 := if 0 ≤ a ∧ a ≤ 7 then if 0 ≤ b ∧ b ≤ 2 then if b = 0 then pu_nl σ a (pu_no σ) else if b = 1 then Int32.ofNat (pu_best σ a).1 else Int32.ofNat (pu_best σ a).2 else -2 else -2
theorem al_ok : ∀ n, n < 9 → xv_al (Int32.ofNat n) = Int32.ofNat (2 ^ n - 1) := by decide +kernel
theorem A_le {σ : ma_I} (h : iv_od σ) : pu_no σ ≤ 8 ∧ σ 40 0 4 = Int32.ofNat (pu_no σ) ∧ pu_all σ = Int32.ofNat (pu_A σ) ∧ pu_A σ ≤ 255 := by
  obtain ⟨n, hn, h8, -⟩ := h
  have e : pu_no σ = n := by unfold pu_no; rw [hn, in_cl (by omega)]
  have hA : ∀ m, m < 9 → 2 ^ m - 1 ≤ 255 := by decide
  refine ⟨by omega, by rw [e]; exact hn, ?_, ?_⟩
  · unfold pu_all pu_A
    rw [hn, e]
    exact al_ok n (by omega)
  · unfold pu_A
    rw [e]
    exact hA n (by omega)
theorem co_rg {σ : ma_I} {k : Nat} : rg (pu_co σ k) 0 99 := cp_rg1 _
theorem cN_le {σ : ma_I} {s : Int32} : ∀ k, pu_cN σ s k ≤ 99 * k := by
  intro k
  induction k with
  | zero => exact Nat.le_refl 0
  | succ k ih =>
    unfold pu_cN
    have := (rg_cl (by decide) (co_rg (σ := σ) (k := k))).2.2
    split <;> omega
theorem has_le {σ : ma_I} {h there : Int32} : pu_has σ h there ≤ 100 := cn_le _ 100
theorem eno_A {σ : ma_I} {h : Int32} (hg : iv_od σ) : pu_eno σ h (pu_A σ) = true := by
  unfold pu_eno
  rw [← (A_le hg).2.2.1]
  exact decide_eq_true (Nat.le_refl _)
theorem best_cost {σ : ma_I} {h : Int32} (hg : iv_od σ) : (pu_best σ h).2 = pu_cst σ (pu_best σ h).1 ∧ (pu_best σ h).1 ≤ pu_A σ := by
  obtain ⟨h1, h2⟩ := as_ok (cost := pu_cst σ) (eno_A (h := h) hg)
  exact ⟨h2, h1.1⟩
abbrev fr_nl : List Nat := [10, 32, 22, 26, 25]
section NDL
variable {d : Nat} {I : ma_I} {o : Nat} {Q : ma_Q} {σ : ma_I}
theorem xs_26 (hg : iv_g σ) (hR : rx_w σ (sv I)) (h : ∀ I', fr [22, 26, 25] I I' → (∀ k, k < pu_no σ → I' 25 0 k = pu_co σ k) → Q none I' o) : Exm (d + 2) 26 [.inr (.inr (6, 0))] I o Q := by
  obtain ⟨h8, hn, -, -⟩ := A_le hg.2.2.1
  have e4 : I 6 0 4 = Int32.ofNat (pu_no σ) := by have := hR.2; rw [sv_6, hn] at this; exact this
  refine e_26 ?_
  have key := lp_up (P := fun k => ∀ I', fr [22, 26, 25] I I' → (∀ j, j < k → I' 25 0 j = pu_co σ j) → Ex (d + 2) 26 (2, [vR 6 0, vI (Int32.ofNat k)], [], ma_mem I' o, 0, 0) (ma_end Q)) (pu_no σ) ?_ ?_
  · exact key 0 (by omega) I (fr_refl _ _) (fun j hj => by omega)
  · intro I' hf hj
    have e4' : I' 6 0 4 = Int32.ofNat (pu_no σ) := by rw [fr_g hf 6 0 4 (by decide) (by decide) (by decide)]; exact e4
    refine b_26_2 ?_
    rw [e4']
    exact ⟨fun _ => h I' hf hj, fun c => absurd c Int32.lt_irrefl⟩
  · intro k hk ih I' hf hj
    have e4' : I' 6 0 4 = Int32.ofNat (pu_no σ) := by rw [fr_g hf 6 0 4 (by decide) (by decide) (by decide)]; exact e4
    refine b_26_2 ?_
    rw [e4']
    refine ⟨fun c => ?_, fun _ => ?_⟩
    · have := (in_le (by omega) (by omega)).mp c
      omega
    · refine xs_22 hg.2.2.2 hn h8 hk (by rw [sv_fr hf (by decide)]; exact hR.1) (fun J hJ => ⟨_, rfl, in_in (by omega) (by omega), ?_⟩)
      rw [in_a1, in_cl (by omega)]
      refine ih _ (fr_upg (fr_trans hf (fr_mono hJ (by decide))) (by decide) (by decide) (by decide)) (fun j hjk => ?_)
      by_cases e : j = k
      · subst e; exact xv_us
      · rw [up_j e, fr_g hJ 25 0 j (by decide) (by decide) (by decide)]
        exact hj j (by omega)
theorem xs_27 {s : Int32} (h8 : pu_no σ ≤ 8) (e4 : I 6 0 4 = Int32.ofNat (pu_no σ)) (hp : ∀ k, k < pu_no σ → I 25 0 k = pu_co σ k) (h : Q (some (.inl (Int32.ofNat (pu_cN σ s (pu_no σ))))) I o) : Exm d 27 [.inr (.inr (6, 0)), .inl s] I o Q := by
  refine e_27 ?_
  have key := lp_up (P := fun k => Ex d 27 (4, [vR 6 0, vI s, vI (Int32.ofNat (pu_cN σ s k)), vI (Int32.ofNat k)], [], ma_mem I o, 0, 0) (ma_end Q)) (pu_no σ) ?_ ?_
  · exact key 0 (by omega)
  · refine b_27_4 ?_
    rw [e4]
    exact ⟨fun _ => h, fun c => absurd c Int32.lt_irrefl⟩
  · intro k hk ih
    refine b_27_4 ?_
    rw [e4, in_cl (by omega), in_a1]
    refine ⟨fun c => ?_, fun _ => ⟨fun c => ?_, fun c => ⟨in_in (by omega) (by omega), ?_⟩⟩⟩
    · have := (in_le (by omega) (by omega)).mp c
      omega
    · have hb := (bt_01 s k (by omega)).mp c
      unfold pu_cN at ih
      rw [if_neg (by rw [hb]; decide)] at ih
      exact ih
    · have hb : bt s k = true := by
        cases hbt : bt s k with
        | true => rfl
        | false => exact absurd ((bt_01 s k (by omega)).mpr hbt) c
      unfold pu_cN at ih
      rw [if_pos hb] at ih
      obtain ⟨e, -, -⟩ := rg_cl (by decide) (co_rg (σ := σ) (k := k))
      rw [hp k hk, e, ← Int32.ofNat_add]
      exact ih
theorem xs_87 {hh now : Nat} {s : Int32} (hg : iv_g σ) (hR : rx_v σ (sv I)) (h8 : hh < 8) (hnow : now ≤ 100) (h : ∀ I', fr fr_wk I I' → Q (some (.inl (xv_b (now ≤ pu_has σ (Int32.ofNat hh) s)))) I' o) : Exm (d + 5) 87 [.inr (.inr (5, 0)), .inl (Int32.ofNat hh), .inl s, .inl (Int32.ofNat now)] I o Q := by
  refine e_87 ?_
  have e100 : (100 : Int32) - Int32.ofNat now = Int32.ofNat (100 - now) := (Int32.ofNat_sub 100 now hnow).symm
  rw [e100]
  have key := lp_up (P := fun k => ∀ I' m, fr fr_wk I I' → m + (k - cn (pu_hs σ (Int32.ofNat hh) s) k) = 100 - now → Ex (d + 5) 87 (9, [vR 5 0, vI (Int32.ofNat hh), vI s, vI (Int32.ofNat now), vI (Int32.ofNat m), vI (Int32.ofNat k)], [], ma_mem I' o, 0, 0) (ma_end Q)) 100 ?_ ?_
  · exact key 0 (by omega) I (100 - now) (fr_refl _ _) (by unfold cn; omega)
  · intro I' m hf hm
    refine b_87_9 ⟨fun _ => ⟨fun c => absurd (in_ge0 (a := m) (by omega)) (Int32.not_le.mpr c), fun _ => ?_⟩, fun c => absurd c (by decide)⟩
    have h' := h I' hf
    have hle := cn_le (pu_hs σ (Int32.ofNat hh) s) 100
    rw [xv_b1 (by unfold pu_has; omega)] at h'
    exact h'
  · intro k hk ih I' m hf hm
    have hle := cn_le (pu_hs σ (Int32.ofNat hh) s) k
    refine b_87_9 ⟨fun c => ?_, fun _ => ⟨fun c => absurd (in_ge0 (a := m) (by omega)) (Int32.not_le.mpr c), fun _ => ?_⟩⟩
    · have := (in_le (a := 100) (by decide) (by omega)).mp c
      omega
    · refine xs_57 hg (by rw [sv_fr hf (by decide)]; exact hR) h8 (by omega) (fun J hJ hX => ⟨rfl, fun c => ?_, fun c => ?_⟩)
      · rw [hX.1] at c
        have hu : cn (pu_hs σ (Int32.ofNat hh) s) (k + 1) = cn (pu_hs σ (Int32.ofNat hh) s) k + 1 := if_pos (by unfold pu_hs; exact decide_eq_true c)
        rw [in_a1]
        exact ih J m (fr_trans hf hJ) (by rw [hu]; omega)
      · rw [hX.1] at c
        have hu : cn (pu_hs σ (Int32.ofNat hh) s) (k + 1) = cn (pu_hs σ (Int32.ofNat hh) s) k := if_neg (by unfold pu_hs; rw [decide_eq_false c]; decide)
        rw [in_a1]
        match m, hm with
        | m + 1, hm =>
          rw [in_m1]
          exact ih J m (fr_trans hf hJ) (by rw [hu]; omega)
        | 0, hm =>
          have hlt : ¬now ≤ pu_has σ (Int32.ofNat hh) s := by
            unfold pu_has
            have := cn_tail (p := pu_hs σ (Int32.ofNat hh) s) (100 - (k + 1)) (k + 1)
            rw [show k + 1 + (100 - (k + 1)) = 100 by omega, hu] at this
            omega
          have h' := h J (fr_trans hf hJ)
          rw [xv_b0 hlt] at h'
          exact b_87_9 ⟨fun _ => ⟨fun _ => h', fun c => absurd c (by decide)⟩, fun _ => ⟨fun _ => ⟨fun _ => h', fun c => absurd c (by decide)⟩, fun c => absurd c (by decide)⟩⟩
theorem xs_85 {hh : Nat} (hg : iv_g σ) (hR : rx_w σ (sv I)) (h8 : hh < 8) (h : ∀ I', fr fr_wk I I' → Q (some (.inl (pu_nl σ (Int32.ofNat hh) (pu_no σ)))) I' o) : Exm (d + 6) 85 [.inr (.inr (5, 0)), .inl (Int32.ofNat hh), .inl (Int32.ofNat (pu_has σ (Int32.ofNat hh) (pu_all σ)))] I o Q := by
  obtain ⟨hn8, hn, -, -⟩ := A_le hg.2.2.1
  have e4 : I 6 0 4 = Int32.ofNat (pu_no σ) := by have := hR.2; rw [sv_6, hn] at this; exact this
  refine e_85 ?_
  have key := lp_up (P := fun k => ∀ I', fr fr_wk I I' → Ex (d + 6) 85 (5, [vR 5 0, vI (Int32.ofNat hh), vI (Int32.ofNat (pu_has σ (Int32.ofNat hh) (pu_all σ))), vI (pu_nl σ (Int32.ofNat hh) k), vI (Int32.ofNat k)], [], ma_mem I' o, 0, 0) (ma_end Q)) (pu_no σ) ?_ ?_
  · exact key 0 (by omega) I (fr_refl _ _)
  · intro I' hf
    have e4' : I' 6 0 4 = Int32.ofNat (pu_no σ) := by rw [fr_g hf 6 0 4 (by decide) (by decide) (by decide)]; exact e4
    refine b_85_5 ?_
    rw [e4']
    exact ⟨fun _ => h I' hf, fun c => absurd c Int32.lt_irrefl⟩
  · intro k hk ih I' hf
    have hR' : rx_w σ (sv I') := by rw [sv_fr hf (by decide)]; exact hR
    have e4' : I' 6 0 4 = Int32.ofNat (pu_no σ) := by rw [fr_g hf 6 0 4 (by decide) (by decide) (by decide)]; exact e4
    refine b_85_5 ⟨fun c => ?_, fun _ => ?_⟩
    · rw [e4'] at c
      have := (in_le (by omega) (by omega)).mp c
      omega
    · rw [xs_al hR', in_a1]
      refine xs_87 hg hR'.1 h8 has_le (fun J hJ => ⟨_, rfl, fun c => ?_, fun c => ?_⟩)
      · have ih' := ih J (fr_trans hf hJ)
        unfold pu_nl at ih'
        rw [if_neg (xv_beq0.mp c)] at ih'
        exact ih'
      · have ih' := ih J (fr_trans hf hJ)
        unfold pu_nl at ih'
        rw [if_pos (xv_bne0.mp c)] at ih'
        exact ih'
theorem xs_86 {hh : Nat} (hg : iv_g σ) (hR : rx_w σ (sv I)) (h8 : hh < 8) (h : ∀ I', fr fr_nl I I' → (∀ k, k < pu_no σ → I' 25 0 k = pu_co σ k) → Q (some (.inl (Int32.ofNat (pu_best σ (Int32.ofNat hh)).1))) I' o) : Exm (d + 6) 86 [.inr (.inr (5, 0)), .inl (Int32.ofNat hh), .inl (Int32.ofNat (pu_has σ (Int32.ofNat hh) (pu_all σ)))] I o Q := by
  obtain ⟨hn8, hn, hall, hA⟩ := A_le hg.2.2.1
  have e4 : I 6 0 4 = Int32.ofNat (pu_no σ) := by have := hR.2; rw [sv_6, hn] at this; exact this
  have hcl : ∀ s, pu_cst σ s ≤ 792 := fun s => by
    have := cN_le (σ := σ) (s := Int32.ofNat s) (pu_no σ)
    unfold pu_cst
    omega
  refine e_86 ?_
  rw [xs_al hR, hall]
  refine xs_26 hg hR (fun J hJ hp => ⟨rfl, ?_⟩)
  have j4 : J 6 0 4 = Int32.ofNat (pu_no σ) := by rw [fr_g hJ 6 0 4 (by decide) (by decide) (by decide)]; exact e4
  refine xs_27 hn8 j4 hp ⟨_, rfl, ?_⟩
  rw [in_a1]
  have key := lp_up (P := fun k => ∀ (I' : ma_I) (w7 : Option ma_V), fr fr_nl I I' → (∀ k, k < pu_no σ → I' 25 0 k = pu_co σ k) → Ex (d + 6) 86 (33, [vR 5 0, vI (Int32.ofNat hh), vI (Int32.ofNat (pu_has σ (Int32.ofNat hh) (pu_all σ))), vI (Int32.ofNat (pu_A σ)), vI (Int32.ofNat (pu_as (pu_A σ) (pu_cst σ) (pu_eno σ (Int32.ofNat hh)) k).1), vI (Int32.ofNat (pu_as (pu_A σ) (pu_cst σ) (pu_eno σ (Int32.ofNat hh)) k).2), vI (Int32.ofNat k), w7], [], ma_mem I' o, 0, 0) (ma_end Q)) (pu_A σ + 1) ?_ ?_
  · have := key 0 (by omega) J none (fr_mono hJ (by decide)) hp
    rw [hall] at this
    exact this
  · intro I' w7 hf hp'
    refine b_86_33 ⟨fun _ => h I' hf hp', fun c => ?_⟩
    have := (in_le (by omega) (by omega)).mp c
    omega
  · intro k hk ih I' w7 hf hp'
    have hR' : rx_w σ (sv I') := by rw [sv_fr hf (by decide)]; exact hR
    have e4' : I' 6 0 4 = Int32.ofNat (pu_no σ) := by rw [fr_g hf 6 0 4 (by decide) (by decide) (by decide)]; exact e4
    have hu : pu_as (pu_A σ) (pu_cst σ) (pu_eno σ (Int32.ofNat hh)) (k + 1) = if pu_cst σ k < (pu_as (pu_A σ) (pu_cst σ) (pu_eno σ (Int32.ofNat hh)) k).2 ∧ pu_eno σ (Int32.ofNat hh) k = true then (k, pu_cst σ k) else pu_as (pu_A σ) (pu_cst σ) (pu_eno σ (Int32.ofNat hh)) k := rfl
    have hl2 : (pu_as (pu_A σ) (pu_cst σ) (pu_eno σ (Int32.ofNat hh)) k).2 ≤ 793 := by
      rcases as_inv (A := pu_A σ) (cost := pu_cst σ) (en := pu_eno σ (Int32.ofNat hh)) k with ⟨h1, -⟩ | ⟨-, -, h3, -⟩
      · rw [h1]
        have := hcl (pu_A σ)
        show pu_cst σ (pu_A σ) + 1 ≤ 793
        omega
      · rw [h3]
        have := hcl (pu_as (pu_A σ) (pu_cst σ) (pu_eno σ (Int32.ofNat hh)) k).1
        omega
    have hck := hcl k
    refine b_86_33 ⟨fun c => ?_, fun _ => ?_⟩
    · have := (in_lt (by omega) (by omega)).mp c
      omega
    · refine xs_27 hn8 e4' hp' ⟨_, rfl, ?_⟩
      show (Int32.ofNat (pu_as (pu_A σ) (pu_cst σ) (pu_eno σ (Int32.ofNat hh)) k).2 ≤ Int32.ofNat (pu_cst σ k) → _) ∧ (Int32.ofNat (pu_cst σ k) < Int32.ofNat (pu_as (pu_A σ) (pu_cst σ) (pu_eno σ (Int32.ofNat hh)) k).2 → _)
      rw [in_a1]
      refine ⟨fun c => ?_, fun c => ?_⟩
      · have c' := (in_le (by omega) (by omega)).mp c
        rw [hu, if_neg (fun hh => by omega)] at ih
        exact ih I' _ hf hp'
      · have c' := (in_lt (by omega) (by omega)).mp c
        refine xs_87 hg hR'.1 h8 has_le (fun K hK => ⟨_, rfl, fun c2 => ?_, fun c2 => ?_⟩)
        · rw [hu, if_neg (fun hh => xv_beq0.mp c2 (of_decide_eq_true hh.2))] at ih
          exact ih K _ (fr_trans hf (fr_mono hK (by decide))) (fun j hj => by rw [fr_g hK 25 0 j (by decide) (by decide) (by decide)]; exact hp' j hj)
        · rw [hu, if_pos ⟨c', decide_eq_true (xv_bne0.mp c2)⟩] at ih
          exact ih K _ (fr_trans hf (fr_mono hK (by decide))) (fun j hj => by rw [fr_g hK 25 0 j (by decide) (by decide) (by decide)]; exact hp' j hj)
theorem xs_84 {a b : Int32} (hg : iv_g σ) (hR : rx_w σ (sv I)) (h : ∀ I', fr fr_nl I I' → Q (some (.inl (an_needless σ a b))) I' o) : Exm (d + 7) 84 [.inr (.inr (5, 0)), .inl a, .inl b] I o Q := by
  obtain ⟨hn8, hn, hall, hA⟩ := A_le hg.2.2.1
  have e4 : I 6 0 4 = Int32.ofNat (pu_no σ) := by have := hR.2; rw [sv_6, hn] at this; exact this
  unfold an_needless at h
  refine e_84 ⟨fun c1 => ?_, fun c1 => ⟨fun c2 => ?_, fun c2 => ?_⟩⟩
  · rw [if_neg c1] at h; exact h I (fr_refl _ _)
  · rw [if_pos c1, if_pos c2] at h
    obtain ⟨hh, h8, e⟩ := ho_of c1
    subst e
    rw [xs_al hR]
    refine xs_78 hg hR.1 h8 (fun J hJ => ⟨_, rfl, fun c3 => ?_, fun c3 => ?_⟩)
    · have hRJ : rx_w σ (sv J) := by rw [sv_fr hJ (by decide)]; exact hR
      refine xs_86 hg hRJ h8 (fun K hK hp => ⟨_, rfl, fun c4 => ?_, fun c4 => ?_⟩)
      · have hfK : fr fr_nl I K := fr_trans (fr_mono hJ (by decide)) hK
        rw [if_neg c3, if_neg c4] at h
        refine xs_27 hn8 (by rw [fr_g hfK 6 0 4 (by decide) (by decide) (by decide)]; exact e4) hp ⟨_, rfl, ?_⟩
        have := h K hfK
        rw [(best_cost hg.2.2.1).1] at this
        exact this
      · rw [if_neg c3, if_pos c4] at h
        exact h K (fr_trans (fr_mono hJ (by decide)) hK)
    · rw [if_pos c3] at h
      exact xs_85 hg (by rw [sv_fr hJ (by decide)]; exact hR) h8 (fun K hK => ⟨_, rfl, h K (fr_trans (fr_mono hJ (by decide)) (fr_mono hK (by decide)))⟩)
  · rw [if_pos c1, if_neg c2] at h; exact h I (fr_refl _ _)
theorem mo_163 {s : Int32} (hg : iv_g (mv I)) (h : ∀ I', fr [56, 57] I I' → Q (some (.inl (Int32.ofNat (pu_cN (mv I) s (pu_no (mv I)))))) I' o) : Exm (d + 3) 163 [.inr (.inr (40, 0)), .inl s] I o Q := by
  obtain ⟨hn8, hn, -, -⟩ := A_le hg.2.2.1
  have e4 : I 40 0 4 = Int32.ofNat (pu_no (mv I)) := by rw [mv_40_4] at hn; exact hn
  refine e_163 ?_
  have key := lp_up (P := fun k => ∀ I', fr [56, 57] I I' → Ex (d + 3) 163 (4, [vR 40 0, vI s, vI (Int32.ofNat (pu_cN (mv I) s k)), vI (Int32.ofNat k)], [], ma_mem I' o, 0, 0) (ma_end Q)) (pu_no (mv I)) ?_ ?_
  · exact key 0 (by omega) I (fr_refl _ _)
  · intro I' hf
    have e4' : I' 40 0 4 = Int32.ofNat (pu_no (mv I)) := by rw [hf 40 0 4 (by decide)]; exact e4
    refine b_163_4 ?_
    rw [e4']
    exact ⟨fun _ => h I' hf, fun c => absurd c Int32.lt_irrefl⟩
  · intro k hk ih I' hf
    have hsv : mv I' = mv I := mv_fr hf (by decide)
    have e4' : I' 40 0 4 = Int32.ofNat (pu_no (mv I)) := by rw [hf 40 0 4 (by decide)]; exact e4
    refine b_163_4 ?_
    rw [e4', in_a1, Int32.add_zero]
    refine ⟨fun c => ?_, fun _ => ⟨fun c => ?_, fun c => ?_⟩⟩
    · have := (in_le (by omega) (by omega)).mp c
      omega
    · have ih' := ih I' hf
      unfold pu_cN at ih'
      rw [if_neg (by unfold bt; rw [decide_eq_false c]; decide)] at ih'
      exact ih'
    · refine mo_134 (by omega) (by rw [hsv]; exact hg.2.2.2) (fun J hJ => ⟨_, rfl, ?_⟩)
      have ih' := ih J (fr_trans hf hJ)
      unfold pu_cN at ih'
      rw [if_pos (by unfold bt; exact decide_eq_true c)] at ih'
      obtain ⟨e, -, -⟩ := rg_cl (by decide) (co_rg (σ := mv I) (k := k))
      rw [hsv, e, ← Int32.ofNat_add]
      exact ih'
theorem mo_164 {a b : Int32} (hg : iv_g (mv I)) (h : ∀ I', fr fr_go I I' → Q (some (.inl (an_needless (mv I) a b))) I' o) : Exm (d + 5) 164 [.inr (.inr (40, 0)), .inl a, .inl b] I o Q := by
  obtain ⟨hn8, hn, hall, hA⟩ := A_le hg.2.2.1
  have e4 : I 40 0 4 = Int32.ofNat (pu_no (mv I)) := by rw [mv_40_4] at hn; exact hn
  have hal0 : xv_al (I 40 0 4) = pu_all (mv I) := rfl
  have hcl : ∀ s, pu_cst (mv I) s ≤ 792 := fun s => by
    have := cN_le (σ := mv I) (s := Int32.ofNat s) (pu_no (mv I))
    unfold pu_cst
    omega
  unfold an_needless at h
  refine e_164 ⟨fun c1 => ?_, fun c1 => ⟨fun c2 => ?_, fun c2 => ?_⟩⟩
  · rw [if_neg c1] at h; exact h I (fr_refl _ _)
  · rw [if_pos c1, if_pos c2] at h
    rw [hal0]
    refine mo_161 hg (fun J hJ => ⟨_, rfl, fun c3 => ?_, fun c3 => ?_⟩)
    · rw [if_neg c3] at h
      have hsvJ : mv J = mv I := mv_fr hJ (by decide)
      have halJ : xv_al (J 40 0 4) = Int32.ofNat (pu_A (mv I)) := by rw [hJ 40 0 4 (by decide)]; exact hall
      rw [halJ]
      refine mo_163 (by rw [hsvJ]; exact hg) (fun K hK => ⟨_, rfl, ?_⟩)
      rw [hsvJ]
      have hfK : fr fr_go I K := fr_trans hJ (fr_mono hK (by decide))
      have halK : xv_al (K 40 0 4) = Int32.ofNat (pu_A (mv I)) := by rw [hfK 40 0 4 (by decide)]; exact hall
      rw [halK, Int32.sub_eq_add_neg]
      have hEA := eno_A (h := a) hg.2.2.1
      have key := lp_up (P := fun c => ∀ (I' : ma_I) (w7 : Option ma_V), fr fr_go I I' → Ex (d + 5) 164 (112, [vR 40 0, vI a, vI b, vI (Int32.ofNat (pu_has (mv I) a (pu_all (mv I)))), vI (Int32.ofNat (pu_ds (pu_A (mv I)) (pu_cst (mv I)) (pu_eno (mv I) a) c).1), vI (Int32.ofNat (pu_ds (pu_A (mv I)) (pu_cst (mv I)) (pu_eno (mv I) a) c).2), vI (Int32.ofNat (pu_A (mv I) - c) + -1), w7], [], ma_mem I' o, 0, 0) (ma_end Q)) (pu_A (mv I)) ?_ ?_
      · exact key 0 (by omega) K _ hfK
      · intro I' w7 hf
        rw [Nat.sub_self]
        refine b_164_112 ⟨fun _ => ⟨fun cb => ?_, fun cb => ?_⟩, fun c => absurd c (by decide)⟩
        · rw [if_neg cb] at h
          rw [ds_as hEA]
          exact h I' hf
        · rw [if_pos cb] at h
          rw [ds_as hEA]
          exact h I' hf
      · intro c hc ih I' w7 hf
        have hsv : mv I' = mv I := mv_fr hf (by decide)
        have ec : Int32.ofNat (pu_A (mv I) - c) + -1 = Int32.ofNat (pu_A (mv I) - 1 - c) := by
          rw [show pu_A (mv I) - c = (pu_A (mv I) - 1 - c) + 1 by omega]
          exact in_m1 _
        have ed : Int32.ofNat (pu_A (mv I) - 1 - c) + -1 = Int32.ofNat (pu_A (mv I) - (c + 1)) + -1 := by rw [show pu_A (mv I) - (c + 1) = pu_A (mv I) - 1 - c by omega]
        have hu : pu_ds (pu_A (mv I)) (pu_cst (mv I)) (pu_eno (mv I) a) (c + 1) = if pu_cst (mv I) (pu_A (mv I) - 1 - c) ≤ (pu_ds (pu_A (mv I)) (pu_cst (mv I)) (pu_eno (mv I) a) c).2 ∧ pu_eno (mv I) a (pu_A (mv I) - 1 - c) = true then (pu_A (mv I) - 1 - c, pu_cst (mv I) (pu_A (mv I) - 1 - c)) else pu_ds (pu_A (mv I)) (pu_cst (mv I)) (pu_eno (mv I) a) c := rfl
        have hl2 : (pu_ds (pu_A (mv I)) (pu_cst (mv I)) (pu_eno (mv I) a) c).2 ≤ 792 := by
          rw [(ds_inv (cost := pu_cst (mv I)) hEA c (by omega)).2.2.2.1]
          exact hcl _
        have hck := hcl (pu_A (mv I) - 1 - c)
        rw [ec]
        refine b_164_112 ⟨fun c1 => absurd (in_ge0 (a := pu_A (mv I) - 1 - c) (by omega)) (Int32.not_le.mpr c1), fun _ => ?_⟩
        refine mo_163 (by rw [hsv]; exact hg) (fun K hK => ⟨_, rfl, ?_⟩)
        rw [hsv, ed]
        have hfK : fr fr_go I K := fr_trans hf (fr_mono hK (by decide))
        show (Int32.ofNat (pu_ds (pu_A (mv I)) (pu_cst (mv I)) (pu_eno (mv I) a) c).2 < Int32.ofNat (pu_cst (mv I) (pu_A (mv I) - 1 - c)) → _) ∧ (Int32.ofNat (pu_cst (mv I) (pu_A (mv I) - 1 - c)) ≤ Int32.ofNat (pu_ds (pu_A (mv I)) (pu_cst (mv I)) (pu_eno (mv I) a) c).2 → _)
        refine ⟨fun cc => ?_, fun cc => ?_⟩
        · have c' := (in_lt (by omega) (by omega)).mp cc
          rw [hu, if_neg (fun hh => by omega)] at ih
          exact ih K _ hfK
        · have c' := (in_le (by omega) (by omega)).mp cc
          have hsvK : mv K = mv I := mv_fr hfK (by decide)
          refine mo_161 (by rw [hsvK]; exact hg) (fun L hL => ⟨_, rfl, ?_⟩)
          rw [hsvK]
          have hh1 := has_le (σ := mv I) (h := a) (there := Int32.ofNat (pu_A (mv I) - 1 - c))
          have hh2 := has_le (σ := mv I) (h := a) (there := pu_all (mv I))
          refine ⟨fun c2 => ?_, fun c2 => ?_⟩
          · have c2' := (in_lt (by omega) (by omega)).mp c2
            rw [hu, if_neg (fun hh => by have := of_decide_eq_true hh.2; omega)] at ih
            exact ih L _ (fr_trans hfK hL)
          · have c2' := (in_le (by omega) (by omega)).mp c2
            rw [hu, if_pos ⟨c', decide_eq_true c2'⟩] at ih
            exact ih L _ (fr_trans hfK hL)
    · rw [if_pos c3] at h
      have key := lp_up (P := fun k => ∀ I', fr fr_go I I' → Ex (d + 5) 164 (39, [vR 40 0, vI a, vI b, vI (Int32.ofNat (pu_has (mv I) a (pu_all (mv I)))), vI (pu_nl (mv I) a k), vI (Int32.ofNat k), none, none], [], ma_mem I' o, 0, 0) (ma_end Q)) (pu_no (mv I)) ?_ ?_
      · exact key 0 (by omega) J hJ
      · intro I' hf
        have e4' : I' 40 0 4 = Int32.ofNat (pu_no (mv I)) := by rw [hf 40 0 4 (by decide)]; exact e4
        refine b_164_39 ?_
        rw [e4']
        exact ⟨fun _ => h I' hf, fun c => absurd c Int32.lt_irrefl⟩
      · intro k hk ih I' hf
        have hsv : mv I' = mv I := mv_fr hf (by decide)
        have hal : xv_al (I' 40 0 4) = pu_all (mv I) := by rw [hf 40 0 4 (by decide)]; rfl
        refine b_164_39 ⟨fun c => ?_, fun _ => ?_⟩
        · rw [hf 40 0 4 (by decide), e4] at c
          have := (in_le (by omega) (by omega)).mp c
          omega
        · rw [hal, in_a1]
          refine mo_161 (by rw [hsv]; exact hg) (fun K hK => ⟨_, rfl, ?_⟩)
          rw [hsv]
          have hh1 := has_le (σ := mv I) (h := a) (there := pu_all (mv I) &&& (1 <<< (Int32.ofNat k &&& 31) ^^^ -1))
          have hh2 := has_le (σ := mv I) (h := a) (there := pu_all (mv I))
          have ih' := ih K (fr_trans hf hK)
          unfold pu_nl at ih'
          refine ⟨fun c2 => ?_, fun c2 => ?_⟩
          · have c2' := (in_lt (by omega) (by omega)).mp c2
            rw [if_neg (by omega)] at ih'
            rw [Int32.or_zero]
            exact ih'
          · have c2' := (in_le (by omega) (by omega)).mp c2
            rw [if_pos c2'] at ih'
            exact ih'
  · rw [if_pos c1, if_neg c2] at h; exact h I (fr_refl _ _)
end NDL

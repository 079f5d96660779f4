/-! ===== lives, sends, letter, drawn, chance ===== -/
theorem or_of {a : Int32} {n : Nat} (hn : n < 2147483648) (h : 0 ≤ a ∧ a ≤ Int32.ofNat n - 1) : ∃ k, k < n ∧ a = Int32.ofNat k := by
  match n, hn, h with
  | 0, _, h => exact absurd (Int32.le_trans h.1 h.2) (by decide)
  | m + 1, hn, h =>
    rw [in_s1] at h
    obtain ⟨k, hk, e⟩ := in_ub (by omega) h.1 h.2
    exact ⟨k, by omega, e⟩
theorem or_to {k n : Nat} (hn : n < 2147483648) (h : k < n) : 0 ≤ Int32.ofNat k ∧ Int32.ofNat k ≤ Int32.ofNat n - 1 := by
  match n, hn, h with
  | m + 1, hn, h =>
    rw [in_s1]
    exact ⟨in_ge0 (by omega), (in_le (by omega) (by omega)).mpr (by omega)⟩
def an_lives (σ : ma_I) (a : Int32) : Int32 := if 0 ≤ a ∧ a ≤ 99 then pu_li σ a else -2
def an_sends (σ : ma_I) (a b c : Int32) : Int32 := if 0 ≤ a ∧ a ≤ σ 40 0 4 - 1 then if 0 ≤ c ∧ c ≤ 2 then if c = 2 then pu_co σ a.toNatClampNeg else if 0 ≤ b ∧ b ≤ 99 then if c = 0 then xv_b (pu_sn σ a.toNatClampNeg b = true) else pu_ls σ a.toNatClampNeg b 0 0 else -2 else -2 else -2
def an_let (σ : ma_I) (a : Int32) (b : Nat) (c : Int32) : Int32 := if c = 0 then (pu_r σ a b).1 else if c = 1 then Int32.ofNat (pu_r σ a b).2.2.1 else if c = 2 then (pu_r σ a b).2.1 else if c = 3 then Int32.ofNat (pu_r σ a b).2.2.2.1 else if c = 4 then Int32.ofNat ((pu_r σ a b).2.2.1 - b) else if c - 10 < Int32.ofNat ((pu_r σ a b).2.2.2.1 + 1) then (pu_r σ a b).2.2.2.2.1 (c - 10).toNatClampNeg else -1
def an_letter (σ : ma_I) (a b c : Int32) : Int32 := if 0 ≤ a ∧ a ≤ 7 then if 0 ≤ b ∧ b ≤ 99 then if 0 ≤ c ∧ c ≤ 4 then an_let σ a b.toNatClampNeg c else if 10 ≤ c ∧ c ≤ 29 then an_let σ a b.toNatClampNeg c else -2 else -2 else -2
def an_drawn (σ : ma_I) (a z : Int32) : Int32 := if 0 ≤ a ∧ a ≤ 7 then Int32.ofNat (pu_dr σ a z) else -2
def pu_ct (σ : ma_I) (a z least : Int32) : Nat → Nat := cn (fun k => decide (least ≤ Int32.ofNat (pu_dr σ a (z + Int32.ofNat k))))
def an_chance (σ : ma_I) (a z n least part : Int32) : Int64 := if 0 ≤ a ∧ a ≤ 7 then if 1 ≤ n ∧ n ≤ 20 then if 0 ≤ least ∧ least ≤ 10 then if 0 ≤ part ∧ part ≤ 1 then Int64.ofNat ((if part = 0 then pu_ct σ a z least n.toNatClampNeg else n.toNatClampNeg) / Nat.gcd (pu_ct σ a z least n.toNatClampNeg) n.toNatClampNeg) else -4611686018427387904 else -4611686018427387904 else -4611686018427387904 else -4611686018427387904
def pu_cd (a b : Nat) : Nat → Nat
  | 0 => 1
  | k + 1 => if 1 < k + 1 then if a % (k + 1) = 0 ∧ b % (k + 1) = 0 then k + 1 else pu_cd a b k else 1
theorem cd_ok : ∀ a, a < 21 → ∀ b, b < 21 → b ≠ 0 → pu_cd a b 20 = Nat.gcd a b := by decide +kernel
theorem rm_of {a b : Nat} (ha : a < 2147483648) (hb : b < 2147483648) : xv_rm (Int32.ofNat a) (Int32.ofNat b) = Int32.ofNat (a % b) := by
  unfold xv_rm
  rw [← Int32.ofNat_div (by omega) (by omega), ← Int32.ofNat_mul, ← Int32.ofNat_sub _ _ (Nat.div_mul_le_self a b)]
  congr 1
  have := Nat.div_add_mod a b
  rw [Nat.mul_comm] at this
  omega
theorem rl_of {a b : Nat} (ha : a < 2147483648) (hb : b < 2147483648) : xv_rl (Int64.ofNat a) (Int64.ofNat b) = Int64.ofNat (a % b) := by
  unfold xv_rl
  rw [← Int64.ofNat_div (by omega) (by omega), ← Int64.ofNat_mul, ← Int64.ofNat_sub _ _ (Nat.div_mul_le_self a b)]
  congr 1
  have := Nat.div_add_mod a b
  rw [Nat.mul_comm] at this
  omega
theorem l_eq {a : Nat} (ha : a < 2147483648) : Int64.ofNat a = 0 ↔ a = 0 := by
  constructor
  · intro e
    have := congrArg Int64.toNatClampNeg e
    rw [Int64.toNatClampNeg_ofNat_of_lt (by omega)] at this
    exact this
  · intro e
    subst e
    rfl
section LSD
variable {d : Nat} {I : ma_I} {o : Nat} {Q : ma_Q} {σ : ma_I}
theorem xs_70 {a : Int32} (hR : rx_w σ (sv I)) (h : Q (some (.inl (an_lives σ a))) I o) : Exm (d + 2) 70 [.inr (.inr (5, 0)), .inl a] I o Q := by
  unfold an_lives at h
  refine e_70 ⟨fun c => ?_, fun c => ?_⟩
  · rw [if_neg c] at h; exact h
  · rw [if_pos c] at h
    obtain ⟨n, hn, e⟩ := da_of c
    subst e
    refine xs_14 (by omega) hR.1 ⟨_, rfl, ?_⟩
    by_cases e : n < 99
    · rw [if_pos e]; exact h
    · rw [if_neg e]
      have : n = 99 := by omega
      subst this
      exact h
theorem mo_131 {a : Int32} (hm : iv_mv (mv I)) (h : Q (some (.inl (an_lives (mv I) a))) I o) : Exm (d + 2) 131 [.inr (.inr (40, 0)), .inl a] I o Q := by
  unfold an_lives at h
  refine e_131 ⟨fun c => ?_, fun c => ?_⟩
  · rw [if_neg c] at h; exact h
  · rw [if_pos c] at h
    exact mo_130 hm ⟨_, rfl, h⟩
theorem b_01 {x : Int32} {p : Prop} [Decidable p] (h : Q (some (.inl (xv_b p))) I o) : (xv_b p = 0 → Q (some (.inl 0)) I o) ∧ (xv_b p ≠ 0 → Q (some (.inl 1)) I o) := by
  constructor
  · intro c; rw [c] at h; exact h
  · intro c
    rw [xv_b1 (xv_bne0.mp c)] at h; exact h
theorem xs_71 {a b c : Int32} (hg : iv_g σ) (hR : rx_w σ (sv I)) (h : ∀ I', fr fr_wk I I' → Q (some (.inl (an_sends σ a b c))) I' o) : Exm (d + 3) 71 [.inr (.inr (5, 0)), .inl a, .inl b, .inl c] I o Q := by
  unfold an_sends at h
  obtain ⟨-, -, ⟨n, hn, hn8, hon⟩, htx⟩ := hg
  have e4 : I 6 0 4 = Int32.ofNat n := by have := hR.2; rw [sv_6, hn] at this; exact this
  rw [hn] at h
  refine e_71 ?_
  rw [e4]
  refine ⟨fun c1 => ?_, fun c1 => ⟨fun c2 => ⟨fun c3 => ⟨fun c4 => ⟨fun c5 => ?_, fun c5 => ?_⟩, fun c4 => ?_⟩, fun c3 => ?_⟩, fun c2 => ?_⟩⟩
  · rw [if_neg c1] at h; exact h I (fr_refl _ _)
  · rw [if_pos c1, if_pos c2, if_neg c3, if_pos c4, if_neg c5] at h
    obtain ⟨k, hk, e⟩ := or_of (by omega) c1
    subst e
    rw [in_cl (by omega)] at h
    exact xs_21 htx hn hn8 hk hR.1 (fun I' hf => ⟨_, rfl, h I' (fr_mono hf (by decide))⟩)
  · rw [if_pos c1, if_pos c2, if_neg c3, if_pos c4, if_pos c5] at h
    obtain ⟨k, hk, e⟩ := or_of (by omega) c1
    subst e
    rw [in_cl (by omega)] at h ⊢
    obtain ⟨-, h44, -, -, -, f, l, -, hl, -, hl99⟩ := hon k hk
    refine ⟨in_in (by omega) (by omega), xs_9 (σ := σ) (hR.1.2.2.2.2.1 k (by rw [hn, in_cl (by omega)]; exact hk)) h44 ⟨l, hl, by omega, hl99⟩ ⟨_, rfl, b_01 (x := 0) (h I (fr_refl _ _))⟩⟩
  · rw [if_pos c1, if_pos c2, if_neg c3, if_neg c4] at h; exact h I (fr_refl _ _)
  · rw [if_pos c1, if_pos c2, if_pos c3] at h
    obtain ⟨k, hk, e⟩ := or_of (by omega) c1
    subst e
    rw [in_cl (by omega)] at h
    exact xs_22 htx hn hn8 hk hR.1 (fun I' hf => ⟨_, rfl, h I' (fr_mono hf (by decide))⟩)
  · rw [if_pos c1, if_neg c2] at h; exact h I (fr_refl _ _)
theorem mo_135 {a b c : Int32} (hg : iv_g (mv I)) (h : ∀ I', fr fr_go I I' → Q (some (.inl (an_sends (mv I) a b c))) I' o) : Exm (d + 3) 135 [.inr (.inr (40, 0)), .inl a, .inl b, .inl c] I o Q := by
  unfold an_sends at h
  obtain ⟨-, -, ⟨n, hn, hn8, hon⟩, htx⟩ := hg
  have e4 : I 40 0 4 = Int32.ofNat n := by rw [mv_40_4] at hn; exact hn
  rw [hn] at h
  refine e_135 ?_
  rw [e4]
  refine ⟨fun c1 => ?_, fun c1 => ?_⟩
  · rw [if_neg c1] at h; exact h I (fr_refl _ _)
  rw [if_pos c1] at h
  obtain ⟨k, hk, e⟩ := or_of (by omega) c1
  subst e
  rw [in_cl (by omega)] at h
  have h44 : I 44 0 k + 1 ≠ 0 := by
    obtain ⟨-, ⟨m, hm, -, hm9⟩, -⟩ := hon k hk
    rw [mv_44] at hm
    rw [hm, in_a1]
    intro e
    have := (in_eq (b := 0) (by omega) (by decide)).mp e
    omega
  refine ⟨fun c2 => ?_, fun c2 => ⟨fun c3 => ⟨fun n0 => ⟨fun n1 => ?_, fun e1 => ?_⟩, fun e0 => ?_⟩, fun c3 => ⟨fun c4 => ⟨fun n0 => ⟨fun n1 => ?_, fun e1 => ?_⟩, fun e0 => ?_⟩, fun c4 => ?_⟩⟩⟩
  · rw [if_neg c2] at h; exact h I (fr_refl _ _)
  · rw [if_pos c2, if_pos (Int32.le_antisymm c2.2 c3)] at h
    exact mo_134 (by omega) htx (fun I' hf => ⟨_, rfl, h I' (fr_mono hf (by decide))⟩)
  · subst e1; exact absurd c3 (by decide)
  · subst e0; exact absurd c3 (by decide)
  · exfalso
    obtain ⟨m, hm, e⟩ := in_ub (b := 2) (by decide) c2.1 c2.2
    rcases (by omega : m = 0 ∨ m = 1 ∨ m = 2) with w | w | w <;> subst w
    · exact n0 e
    · exact n1 e
    · subst e; exact absurd c3 (by decide)
  · subst e1
    rw [if_pos c2, if_neg (by decide), if_pos c4, if_neg (by decide)] at h
    exact mo_133 (by omega) htx (fun I' hf => ⟨_, rfl, h I' (fr_mono hf (by decide))⟩)
  · subst e0
    rw [if_pos c2, if_neg (by decide), if_pos c4, if_pos rfl] at h
    exact mo_132 (by omega) h44 ⟨_, rfl, b_01 (x := 0) (h I (fr_refl _ _))⟩
  · rw [if_pos c2, if_neg (fun e => by subst e; exact absurd c3 (by decide)), if_neg c4] at h; exact h I (fr_refl _ _)
theorem an_w29 {c : Int32} (h : 10 ≤ c ∧ c ≤ 29) : ∃ m, m < 20 ∧ c - 10 = Int32.ofNat m := by
  obtain ⟨n, e, h1, h2⟩ := rg_mk1 (a := 10) (b := 29) (by decide) (by decide) h.1 h.2
  refine ⟨n - 10, by omega, ?_⟩
  rw [e]
  exact (Int32.ofNat_sub n 10 h1).symm
theorem xs_75 {a b c : Int32} (hg : iv_g σ) (hR : rx_w σ (sv I)) (h : ∀ I', fr fr_wk I I' → Q (some (.inl (an_letter σ a b c))) I' o) : Exm (d + 6) 75 [.inr (.inr (5, 0)), .inl a, .inl b, .inl c] I o Q := by
  unfold an_letter at h
  refine e_75 ⟨fun c1 => ?_, fun c1 => ⟨fun c2 => ?_, fun c2 => ?_⟩⟩
  · rw [if_neg c1] at h; exact h I (fr_refl _ _)
  · rw [if_pos c1, if_neg c2] at h; exact h I (fr_refl _ _)
  rw [if_pos c1, if_pos c2] at h
  obtain ⟨hh, h8, ea⟩ := ho_of c1
  obtain ⟨k, hk, eb⟩ := da_of c2
  subst ea
  subst eb
  rw [in_cl (by omega)] at h
  have hB : go_B k (pu_r σ (Int32.ofNat hh) k) := rn_bd hg ⟨hh, rfl, by omega, by omega⟩ hk
  have hsub : ∀ J, xs_R J k (pu_r σ (Int32.ofNat hh) k) → J 10 0 1 - J 10 0 7 = Int32.ofNat ((pu_r σ (Int32.ofNat hh) k).2.2.1 - k) := fun J hX => by
    rw [hX.2.1, hX.2.2.2.2.2.2.2.1]
    exact (Int32.ofNat_sub _ _ hB.2.1).symm
  refine ⟨fun c3 => ?_, fun c3 => ⟨fun c4 => ?_, fun c4 => ?_⟩⟩
  · rw [if_pos c3] at h
    unfold an_let at h
    refine xs_77 hg hR h8 hk (fun J hJ hX => ⟨rfl, fun e => ?_, fun n0 => ⟨fun e => ?_, fun n1 => ⟨fun e => ?_, fun n2 => ⟨fun e => ?_, fun n3 => ⟨fun e => ?_, fun n4 => ?_⟩⟩⟩⟩⟩)
    · rw [if_pos e] at h; rw [hX.1]; exact h J hJ
    · rw [if_neg n0, if_pos e] at h; rw [hX.2.1]; exact h J hJ
    · rw [if_neg n0, if_neg n1, if_pos e] at h; rw [hX.2.2.1]; exact h J hJ
    · rw [if_neg n0, if_neg n1, if_neg n2, if_pos e] at h; rw [hX.2.2.2.1]; exact h J hJ
    · rw [if_neg n0, if_neg n1, if_neg n2, if_neg n3, if_pos e] at h; rw [hsub J hX]; exact h J hJ
    · exfalso
      obtain ⟨m, hm, e⟩ := in_ub (b := 4) (by decide) c3.1 c3.2
      rcases (by omega : m = 0 ∨ m = 1 ∨ m = 2 ∨ m = 3 ∨ m = 4) with w | w | w | w | w <;> subst w
      · exact n0 e
      · exact n1 e
      · exact n2 e
      · exact n3 e
      · exact n4 e
  · rw [if_neg c3, if_pos c4] at h
    unfold an_let at h
    obtain ⟨m, hm, em⟩ := an_w29 c4
    rw [em] at h ⊢
    refine xs_77 hg hR h8 hk (fun J hJ hX => ⟨rfl, fun e => ?_, fun n0 => ⟨fun e => ?_, fun n1 => ⟨fun e => ?_, fun n2 => ⟨fun e => ?_, fun n3 => ⟨fun e => ?_, fun n4 => ?_⟩⟩⟩⟩⟩)
    · subst e; exact absurd c4.1 (by decide)
    · subst e; exact absurd c4.1 (by decide)
    · subst e; exact absurd c4.1 (by decide)
    · subst e; exact absurd c4.1 (by decide)
    · subst e; exact absurd c4.1 (by decide)
    · rw [if_neg n0, if_neg n1, if_neg n2, if_neg n3, if_neg n4] at h
      have x4 : J 10 0 4 = Int32.ofNat ((pu_r σ (Int32.ofNat hh) k).2.2.2.1 + 1) := hX.2.2.2.2.1
      have hs := hB.2.2.2.1
      refine e_61 ?_
      rw [x4, in_s1, in_cl (by omega)]
      rw [in_cl (by omega)] at h
      refine ⟨fun c5 => ⟨_, rfl, ?_⟩, fun c5 => ⟨in_in (by omega) (by omega), ⟨_, rfl, ?_⟩⟩⟩
      · rw [if_neg (fun hlt => c5 ⟨in_ge0 (by omega), (in_le (by omega) (by omega)).mpr (by have := (in_lt (by omega) (by omega)).mp hlt; omega)⟩)] at h
        exact h J hJ
      · have hle := (in_le (by omega) (by omega)).mp c5.2
        rw [if_pos ((in_lt (by omega) (by omega)).mpr (by omega))] at h
        rw [hX.2.2.2.2.2.2.2.2 m hle]
        exact h J hJ
  · rw [if_neg c3, if_neg c4] at h; exact h I (fr_refl _ _)
theorem mo_160 {a b c : Int32} (hg : iv_g (mv I)) (h : ∀ I', fr fr_go I I' → Q (some (.inl (an_letter (mv I) a b c))) I' o) : Exm (d + 4) 160 [.inr (.inr (40, 0)), .inl a, .inl b, .inl c] I o Q := by
  unfold an_letter at h
  have hal : xv_al (I 40 0 4) = pu_all (mv I) := rfl
  refine e_160 ⟨fun c1 => ?_, fun c1 => ⟨fun c2 => ?_, fun c2 => ?_⟩⟩
  · rw [if_neg c1] at h; exact h I (fr_refl _ _)
  · rw [if_pos c1, if_neg c2] at h; exact h I (fr_refl _ _)
  rw [if_pos c1, if_pos c2] at h
  obtain ⟨hh, h8, ea⟩ := ho_of c1
  obtain ⟨k, hk, eb⟩ := da_of c2
  subst eb
  rw [in_cl (by omega)] at h
  have hB : go_B k (pu_r (mv I) a k) := rn_bd hg ⟨hh, ea, by omega, by omega⟩ hk
  have hs := hB.2.2.2.1
  have e33 : ∀ J, mo_R J (pu_r (mv I) a k) → J 40 0 33 = Int32.ofNat ((pu_r (mv I) a k).2.2.2.1 + 1) := fun J hR => hR.2.2.1
  have hsub : ∀ J, mo_R J (pu_r (mv I) a k) → J 40 0 37 - Int32.ofNat k = Int32.ofNat ((pu_r (mv I) a k).2.2.1 - k) := fun J hR => by
    rw [hR.2.1]
    exact (Int32.ofNat_sub _ _ hB.2.1).symm
  rw [hal]
  refine ⟨fun c3 => ?_, fun c3 => ⟨fun c4 => ?_, fun c4 => ?_⟩⟩
  · rw [if_pos c3] at h
    unfold an_let at h
    refine mo_go hg hk (fun J hJ hR => ⟨rfl, fun e => ?_, fun n0 => ⟨fun e => ?_, fun n1 => ⟨fun e => ?_, fun n2 => ⟨fun e => ?_, fun n3 => ⟨fun e => ?_, fun n4 => ?_⟩⟩⟩⟩⟩)
    · rw [if_pos e] at h; rw [hR.1]; exact h J hJ
    · rw [if_neg n0, if_pos e] at h; rw [hR.2.1]; exact h J hJ
    · rw [if_neg n0, if_neg n1, if_pos e] at h
      rw [e33 J hR, in_s1, in_cl (by omega)]
      refine ⟨in_in (by omega) (by omega), ?_⟩
      rw [show J 58 0 (pu_r (mv I) a k).2.2.2.1 = (pu_r (mv I) a k).2.1 from (hR.2.2.2.1 _ (Nat.le_refl _)).trans hB.2.2.2.2.2]
      exact h J hJ
    · rw [if_neg n0, if_neg n1, if_neg n2, if_pos e] at h; rw [e33 J hR, in_s1]; exact h J hJ
    · rw [if_neg n0, if_neg n1, if_neg n2, if_neg n3, if_pos e] at h; rw [hsub J hR]; exact h J hJ
    · exfalso
      obtain ⟨m, hm, e⟩ := in_ub (b := 4) (by decide) c3.1 c3.2
      rcases (by omega : m = 0 ∨ m = 1 ∨ m = 2 ∨ m = 3 ∨ m = 4) with w | w | w | w | w <;> subst w
      · exact n0 e
      · exact n1 e
      · exact n2 e
      · exact n3 e
      · exact n4 e
  · rw [if_neg c3, if_pos c4] at h
    unfold an_let at h
    obtain ⟨m, hm, em⟩ := an_w29 c4
    rw [em] at h ⊢
    refine mo_go hg hk (fun J hJ hR => ⟨rfl, fun e => ?_, fun n0 => ⟨fun e => ?_, fun n1 => ⟨fun e => ?_, fun n2 => ⟨fun e => ?_, fun n3 => ⟨fun e => ?_, fun n4 => ?_⟩⟩⟩⟩⟩)
    · subst e; exact absurd c4.1 (by decide)
    · subst e; exact absurd c4.1 (by decide)
    · subst e; exact absurd c4.1 (by decide)
    · subst e; exact absurd c4.1 (by decide)
    · subst e; exact absurd c4.1 (by decide)
    · rw [if_neg n0, if_neg n1, if_neg n2, if_neg n3, if_neg n4] at h
      rw [e33 J hR, in_cl (by omega)]
      rw [in_cl (by omega)] at h
      refine ⟨fun c5 => ?_, fun c5 => ⟨in_in (by omega) (by omega), ?_⟩⟩
      · rw [if_neg (Int32.not_lt.mpr c5)] at h; exact h J hJ
      · rw [if_pos c5] at h
        have hlt := (in_lt (by omega) (by omega)).mp c5
        rw [show J 58 0 m = (pu_r (mv I) a k).2.2.2.2.1 m from hR.2.2.2.1 m (by show m ≤ (pu_r (mv I) a k).2.2.2.1; omega)]
        exact h J hJ
  · rw [if_neg c3, if_neg c4] at h; exact h I (fr_refl _ _)
theorem xs_100 {hh : Nat} {z : Int32} (hg : iv_g σ) (hR : rx_w σ (sv I)) (h8 : hh < 8) (h : ∀ I', fr fr_wk I I' → Q (some (.inl (Int32.ofNat (pu_dr σ (Int32.ofNat hh) z)))) I' o) : Exm (d + 6) 100 [.inr (.inr (5, 0)), .inl (Int32.ofNat hh), .inl z] I o Q := by
  refine e_100 ?_
  have key := lp_up (P := fun k => ∀ I', fr fr_wk I I' → Ex (d + 6) 100 (8, [vR 5 0, vI (Int32.ofNat hh), vI z, vI (Int32.ofNat (cn (fun k => pu_hs σ (Int32.ofNat hh) (pu_all σ) (pu_dz z k)) k)), vI (pu_z z k), vI (Int32.ofNat k)], [], ma_mem I' o, 0, 0) (ma_end Q)) 10 ?_ ?_
  · exact key 0 (by omega) I (fr_refl _ _)
  · intro I' hf
    exact b_100_8 ⟨fun _ => h I' hf, fun c => absurd c (by decide)⟩
  · intro k hk ih I' hf
    have hsv : sv I' = sv I := sv_fr hf (by decide)
    refine b_100_8 ⟨fun c => ?_, fun _ => ?_⟩
    · have := (in_le (a := 10) (by decide) (by omega)).mp c
      omega
    · rw [(dz_eq z k).1]
      refine xs_77 hg (by rw [hsv]; exact hR) h8 (dz_eq z k).2 (fun J hJ hX => ⟨rfl, fun c => ?_, fun c => ?_⟩)
      · rw [hX.1] at c
        have ih' := ih J (fr_trans hf hJ)
        unfold cn at ih'
        rw [if_neg (by show ¬pu_p σ (Int32.ofNat hh) (pu_dz z k) = true; rw [pp_f c]; decide)] at ih'
        rw [in_a1]
        exact ih'
      · rw [hX.1] at c
        have ih' := ih J (fr_trans hf hJ)
        unfold cn at ih'
        rw [if_pos (show pu_hs σ (Int32.ofNat hh) (pu_all σ) (pu_dz z k) = true from pp_t c)] at ih'
        rw [in_a1, in_a1]
        exact ih'
theorem xs_99 {a z : Int32} (hg : iv_g σ) (hR : rx_w σ (sv I)) (h : ∀ I', fr fr_wk I I' → Q (some (.inl (an_drawn σ a z))) I' o) : Exm (d + 7) 99 [.inr (.inr (5, 0)), .inl a, .inl z] I o Q := by
  unfold an_drawn at h
  refine e_99 ⟨fun c => ?_, fun c => ?_⟩
  · rw [if_neg c] at h; exact h I (fr_refl _ _)
  · rw [if_pos c] at h
    obtain ⟨hh, h8, e⟩ := ho_of c
    subst e
    exact xs_100 hg hR h8 (fun I' hf => ⟨_, rfl, h I' hf⟩)
theorem mo_171 {a z : Int32} (hg : iv_g (mv I)) (h : ∀ I', fr fr_go I I' → Q (some (.inl (an_drawn (mv I) a z))) I' o) : Exm (d + 5) 171 [.inr (.inr (40, 0)), .inl a, .inl z] I o Q := by
  unfold an_drawn at h
  refine e_171 ⟨fun c => ?_, fun c => ?_⟩
  · rw [if_neg c] at h; exact h I (fr_refl _ _)
  · rw [if_pos c] at h
    exact mo_170 hg (fun I' hf => ⟨_, rfl, h I' hf⟩)
theorem xs_102 {a b : Nat} (ha : a < 21) (hb : b < 21) (hb0 : b ≠ 0) (h : Q (some (.inl (Int32.ofNat (Nat.gcd a b)))) I o) : Exm d 102 [.inl (Int32.ofNat a), .inl (Int32.ofNat b)] I o Q := by
  rw [← cd_ok a ha b hb hb0] at h
  refine e_102 ?_
  have key : ∀ k, k ≤ 20 → pu_cd a b k = pu_cd a b 20 → Ex d 102 (3, [vI (Int32.ofNat a), vI (Int32.ofNat b), vI (Int32.ofNat k)], [], ma_mem I o, 0, 0) (ma_end Q) := by
    intro k
    induction k with
    | zero =>
      intro _ he
      refine b_102_3 ⟨fun _ => ?_, fun c => absurd c (by decide)⟩
      rw [← he] at h
      exact h
    | succ k ih =>
      intro hk he
      refine b_102_3 ⟨fun c => ?_, fun c => ⟨?_, ?_⟩⟩
      · have h1 := (in_le (b := 1) (by omega) (by decide)).mp c
        have : pu_cd a b (k + 1) = 1 := if_neg (by omega)
        rw [← he, this] at h
        exact h
      · intro e
        rw [e] at c
        exact absurd c (by decide)
      · have h1 := (in_lt (a := 1) (by decide) (by omega)).mp c
        have hu : pu_cd a b (k + 1) = if a % (k + 1) = 0 ∧ b % (k + 1) = 0 then k + 1 else pu_cd a b k := if_pos h1
        rw [rm_of (by omega) (by omega), rm_of (by omega) (by omega), in_m1]
        have hma := Nat.mod_lt a (by omega : k + 1 > 0)
        have hmb := Nat.mod_lt b (by omega : k + 1 > 0)
        refine ⟨fun c2 => ?_, fun c2 => ⟨?_, fun c3 => ?_, fun c3 => ?_⟩⟩
        · refine ih (by omega) ?_
          rw [hu, if_neg (fun hh => c2 (by rw [hh.1]; rfl))] at he
          exact he
        · intro e
          rw [e] at c
          exact absurd c (by decide)
        · refine ih (by omega) ?_
          rw [hu, if_neg (fun hh => c3 (by rw [hh.2]; rfl))] at he
          exact he
        · have e2 := (in_eq (b := 0) (by omega) (by decide)).mp c2
          have e3 := (in_eq (b := 0) (by omega) (by decide)).mp c3
          rw [hu, if_pos ⟨e2, e3⟩] at he
          rw [← he] at h
          exact h
  exact key 20 (by omega) rfl
theorem mo_172 {v0 v2 : Int64} : ∀ (y x : Nat), x < 1000 → y < 1000 → ∀ w8, Q (some (.inr (.inl (Int64.ofNat (Nat.gcd y x))))) I o → Ex d 172 (6, [some (.inr (.inl v0)), none, some (.inr (.inl v2)), none, some (.inr (.inl (Int64.ofNat x))), none, some (.inr (.inl (Int64.ofNat y))), none, w8, none], [], ma_mem I o, 0, 0) (ma_end Q) := by
  intro y
  induction y using Nat.strongRecOn with
  | ind y ih =>
    intro x hx hy w8 h
    have hz : lg_cmp (Int64.ofNat y) 0 = 0 ↔ y = 0 := by
      unfold lg_cmp
      rw [← l_eq (a := y) (by omega)]
      constructor
      · intro e
        split at e
        · exact absurd e (by decide)
        · split at e
          · assumption
          · exact absurd e (by decide)
      · intro e
        rw [e]
        rfl
    refine b_172_6 ⟨fun c => ?_, fun c => ⟨?_, ?_⟩⟩
    · have := hz.mp c
      subst this
      rw [Nat.gcd_zero_left] at h
      exact h
    · intro e
      exact c (hz.mpr ((l_eq (by omega)).mp e))
    · have hy0 : y ≠ 0 := fun e => c (hz.mpr e)
      rw [rl_of (by omega) (by omega)]
      have hlt := Nat.mod_lt x (by omega : y > 0)
      refine ih (x % y) hlt y hy (by omega) _ ?_
      rw [Nat.gcd_rec] at h
      exact h
theorem ct_le {a z least : Int32} (n : Nat) : pu_ct σ a z least n ≤ n := cn_le _ n
theorem xs_101 {a z n l p : Int32} (hg : iv_g σ) (hR : rx_w σ (sv I)) (h : ∀ I', fr fr_wk I I' → Q (some (.inr (.inl (an_chance σ a z n l p)))) I' o) : Exm (d + 8) 101 [.inr (.inr (5, 0)), .inl a, .inl z, .inl n, .inl l, .inl p] I o Q := by
  unfold an_chance at h
  refine e_101 ⟨fun c1 => ?_, fun c1 => ⟨fun c2 => ?_, fun c2 => ⟨fun c3 => ?_, fun c3 => ⟨fun c4 => ?_, fun c4 => ?_⟩⟩⟩⟩
  · rw [if_neg c1] at h; exact h I (fr_refl _ _)
  · rw [if_pos c1, if_neg c2] at h; exact h I (fr_refl _ _)
  · rw [if_pos c1, if_pos c2, if_neg c3] at h; exact h I (fr_refl _ _)
  · rw [if_pos c1, if_pos c2, if_pos c3, if_neg c4] at h; exact h I (fr_refl _ _)
  rw [if_pos c1, if_pos c2, if_pos c3, if_pos c4] at h
  obtain ⟨hh, h8, ea⟩ := ho_of c1
  subst ea
  obtain ⟨m, em, hm1, hm20⟩ := rg_mk1 (a := 1) (b := 20) (by decide) (by decide) c2.1 c2.2
  subst em
  rw [in_cl (by omega)] at h
  have key := lp_up (P := fun k => ∀ I', fr fr_wk I I' → Ex (d + 8) 101 (60, [vR 5 0, vI (Int32.ofNat hh), vI z, vI (Int32.ofNat m), vI l, vI p, vI 1, vI (Int32.ofNat (pu_ct σ (Int32.ofNat hh) z l k)), vI (Int32.ofNat k)], [], ma_mem I' o, 0, 0) (ma_end Q)) m ?_ ?_
  · exact key 0 (by omega) I (fr_refl _ _)
  · intro I' hf
    have hct := ct_le (σ := σ) (a := Int32.ofNat hh) (z := z) (least := l) m
    refine b_101_60 ⟨fun _ => ?_, fun c => absurd c Int32.lt_irrefl⟩
    refine xs_102 (by omega) (by omega) (by omega) ⟨_, rfl, ?_⟩
    have hgpos : 0 < Nat.gcd (pu_ct σ (Int32.ofNat hh) z l m) m := Nat.gcd_pos_of_pos_right _ (by omega)
    have hgle : Nat.gcd (pu_ct σ (Int32.ofNat hh) z l m) m ≤ m := Nat.gcd_le_right _ (by omega)
    have hg0 : Int32.ofNat (Nat.gcd (pu_ct σ (Int32.ofNat hh) z l m) m) ≠ 0 := fun e => by
      have := (in_eq (b := 0) (by omega) (by decide)).mp e
      omega
    have h' := h I' hf
    have hdl : ∀ x y : Nat, x ≤ 20 → x / y ≤ 20 := fun x y hx => Nat.le_trans (Nat.div_le_self x y) hx
    refine ⟨fun cp => ⟨hg0, ?_⟩, fun cp => ⟨hg0, ?_⟩⟩
    · rw [if_neg cp] at h'
      rw [← Int32.ofNat_div (by omega) (by omega), Int32.toInt64_ofNat' (by have := hdl m (Nat.gcd (pu_ct σ (Int32.ofNat hh) z l m) m) (by omega); show _ ≤ (2147483647 : Int); omega)]
      exact h'
    · rw [if_pos cp] at h'
      rw [← Int32.ofNat_div (by omega) (by omega), Int32.toInt64_ofNat' (by have := hdl (pu_ct σ (Int32.ofNat hh) z l m) (Nat.gcd (pu_ct σ (Int32.ofNat hh) z l m) m) (by omega); show _ ≤ (2147483647 : Int); omega)]
      exact h'
  · intro k hk ih I' hf
    have hsv : sv I' = sv I := sv_fr hf (by decide)
    refine b_101_60 ⟨fun c => ?_, fun _ => ?_⟩
    · have := (in_le (by omega) (by omega)).mp c
      omega
    · refine xs_100 hg (by rw [hsv]; exact hR) h8 (fun J hJ => ⟨_, rfl, fun c => ?_, fun c => ?_⟩)
      · have ih' := ih J (fr_trans hf hJ)
        unfold pu_ct cn at ih'
        rw [if_neg (by rw [decide_eq_false (Int32.not_le.mpr c)]; decide)] at ih'
        rw [in_a1]
        exact ih'
      · have ih' := ih J (fr_trans hf hJ)
        unfold pu_ct cn at ih'
        rw [if_pos (decide_eq_true c)] at ih'
        rw [in_a1, in_a1]
        exact ih'
theorem mo_173 {a z n l p : Int32} (hg : iv_g (mv I)) (h : ∀ I', fr fr_go I I' → Q (some (.inr (.inl (an_chance (mv I) a z n l p)))) I' o) : Exm (d + 6) 173 [.inr (.inr (40, 0)), .inl a, .inl z, .inl n, .inl l, .inl p] I o Q := by
  unfold an_chance at h
  refine e_173 ⟨fun c1 => ?_, fun c1 => ⟨fun c2 => ?_, fun c2 => ⟨fun c3 => ?_, fun c3 => ⟨fun c4 => ?_, fun c4 => ?_⟩⟩⟩⟩
  · rw [if_neg c1] at h; exact h I (fr_refl _ _)
  · rw [if_pos c1, if_neg c2] at h; exact h I (fr_refl _ _)
  · rw [if_pos c1, if_pos c2, if_neg c3] at h; exact h I (fr_refl _ _)
  · rw [if_pos c1, if_pos c2, if_pos c3, if_pos c4] at h
    obtain ⟨m, em, hm1, hm20⟩ := rg_mk1 (a := 1) (b := 20) (by decide) (by decide) c2.1 c2.2
    subst em
    rw [in_cl (by omega)] at h
    have key := lp_up (P := fun k => ∀ I', fr fr_go I I' → Ex (d + 6) 173 (48, [vR 40 0, vI a, vI z, vI (Int32.ofNat m), vI l, vI p, some (.inr (.inl (Int64.ofNat (pu_ct (mv I) a z l k)))), none, vI (Int32.ofNat k), none], [], ma_mem I' o, 0, 0) (ma_end Q)) m ?_ ?_
    · exact key 0 (by omega) I (fr_refl _ _)
    · intro I' hf
      have hct := ct_le (σ := mv I) (a := a) (z := z) (least := l) m
      refine b_173_48 ⟨fun _ => ?_, fun c => absurd c Int32.lt_irrefl⟩
      rw [Int32.toInt64_ofNat' (by show _ ≤ (2147483647 : Int); omega)]
      refine e_172 (mo_172 m (pu_ct (mv I) a z l m) (by omega) (by omega) _ ⟨_, rfl, ?_⟩)
      have hgpos : 0 < Nat.gcd (pu_ct (mv I) a z l m) m := Nat.gcd_pos_of_pos_right _ (by omega)
      have hgle : Nat.gcd (pu_ct (mv I) a z l m) m ≤ m := Nat.gcd_le_right _ (by omega)
      rw [Nat.gcd_comm]
      have hg0 : Int64.ofNat (Nat.gcd (pu_ct (mv I) a z l m) m) ≠ 0 := fun e => by
        have := (l_eq (by omega)).mp e
        omega
      have h' := h I' hf
      refine ⟨fun cp => ⟨hg0, ?_⟩, fun cp => ⟨hg0, ?_⟩⟩
      · rw [if_neg cp] at h'
        rw [← Int64.ofNat_div (by omega) (by omega)]
        exact h'
      · rw [if_pos cp] at h'
        rw [← Int64.ofNat_div (by omega) (by omega)]
        exact h'
    · intro k hk ih I' hf
      have hsv : mv I' = mv I := mv_fr hf (by decide)
      refine b_173_48 ⟨fun c => ?_, fun _ => ?_⟩
      · have := (in_le (by omega) (by omega)).mp c
        omega
      · refine mo_170 (by rw [hsv]; exact hg) (fun J hJ => ⟨_, rfl, ?_⟩)
        rw [hsv, in_a1]
        have ih' := ih J (fr_trans hf hJ)
        unfold pu_ct cn at ih'
        refine ⟨fun c => ?_, fun c => ?_⟩
        · rw [if_neg (by rw [decide_eq_false (Int32.not_le.mpr c)]; decide)] at ih'
          rw [Int64.add_zero]
          exact ih'
        · rw [if_pos (decide_eq_true c)] at ih'
          rw [Int64.ofNat_add] at ih'
          exact ih'
  · rw [if_pos c1, if_pos c2, if_pos c3, if_neg c4] at h; exact h I (fr_refl _ _)
end LSD

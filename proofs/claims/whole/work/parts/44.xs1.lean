/-! ===== the class's methods: where he lives, what is sent ===== -/
section XS1
variable {d : Nat} {I : ma_I} {o : Nat} {Q : ma_Q} {σ : ma_I}
theorem xs_14 {dd : Nat} (hd : dd < 2147483648) (hR : rx_v σ (sv I)) (h : Q (some (.inl (pu_li σ (Int32.ofNat (if dd < 99 then dd else 99))))) I o) : Exm d 14 [.inr (.inr (6, 0)), .inl (Int32.ofNat dd)] I o Q := by
  obtain ⟨-, -, -, -, -, hh, -, -⟩ := hR
  refine e_14 ⟨fun c => ?_, fun c => ?_⟩
  · have hc := (in_le (b := 99) hd (by decide)).mp c
    rw [in_cl hd]
    refine ⟨in_in hd (by omega), ?_⟩
    have h1 := hh dd (by omega)
    rw [sv_23] at h1
    rw [h1]
    by_cases e : dd < 99
    · rw [if_pos e] at h; exact h
    · rw [if_neg e] at h
      have : dd = 99 := by omega
      subst this
      exact h
  · have hc := (in_lt (a := 99) (by decide) hd).mp c
    have h1 := hh 99 (by omega)
    rw [sv_23] at h1
    rw [h1]
    rw [if_neg (by omega)] at h
    exact h
theorem xs_10 {i : Nat} {a : Int32} (h1 : rg (I 17 i 1) 0 9) (h : Q (some (.inl (xv_b (xv_rm a (I 17 i 1 + 1) = 0)))) I o) : Exm d 10 [.inr (.inr (17, i)), .inl a] I o Q := by
  obtain ⟨n, hn, -, h9⟩ := h1
  have e1 : I 17 i 1 + 1 = Int32.ofNat (n + 1) := by rw [hn, in_a1]
  refine e_10 ⟨fun c => ?_, fun c => ⟨?_, fun c2 => ?_, fun c2 => ?_⟩⟩
  · rw [e1] at c
    have := (in_le (b := 0) (by omega) (by decide)).mp c
    omega
  · intro e
    rw [e] at c
    exact absurd c (by decide)
  · rw [xv_b0 c2] at h; exact h
  · rw [xv_b1 c2] at h; exact h
theorem xs_9 {i : Nat} {a : Int32} (hr : rx_o σ (sv I) i) (h1 : rg (σ 44 0 i) 0 9) (h2 : rg (σ 48 0 i) 0 99) (h : Q (some (.inl (xv_b (pu_sn σ i a = true)))) I o) : Exm (d + 1) 9 [.inr (.inr (17, i)), .inl a] I o Q := by
  obtain ⟨r0, r1, r2, r3, r4, r5⟩ := hr
  rw [sv_17] at r0 r1 r2 r3 r4 r5
  have hq : ∀ c, xv_b (pu_sn σ i a = true) = c → Q (some (.inl c)) I o := fun c e => e ▸ h
  have h1' : rg (I 17 i 1) 0 9 := by rw [r1]; exact h1
  have el : ∀ x : Int32, I 17 i 5 + 1 ≤ x ↔ I 17 i 5 < x := by
    intro x
    rw [r5]
    obtain ⟨n, hn, -, h9⟩ := h2
    rw [hn, in_a1, Int32.le_iff_toInt_le, Int32.lt_iff_toInt_lt, in_ti (by omega), in_ti (by omega)]
    omega
  unfold pu_sn pu_sd pu_nw at hq
  rw [← r0, ← r1, ← r4, ← r5] at hq
  refine e_9 ?_
  rw [el]
  repeat' first | exact h1' | (refine xs_10 h1' ?_) | (refine ⟨_, rfl, ?_⟩) | (intro _) | (apply And.intro)
  all_goals refine hq _ ?_
  all_goals first | (simp_all [xv_b]; done) | (simp_all [xv_b, Int32.lt_iff_toInt_lt, Int32.le_iff_toInt_le]; omega)
theorem xs_11 {i : Nat} {a : Int32} (hr : rx_o σ (sv I) i) (h : Q (some (.inl (if σ 43 0 i = 1 then a + σ 44 0 i else if σ 43 0 i = 3 then 2 * (a + σ 44 0 i) else if σ 43 0 i = 4 then a + 1 else a))) I o) : Exm d 11 [.inr (.inr (17, i)), .inl a] I o Q := by
  obtain ⟨r0, r1, r2, r3, r4, r5⟩ := hr
  rw [sv_17] at r0 r1 r2 r3 r4 r5
  rw [← r0, ← r1] at h
  refine e_11 ⟨fun c1 => ?_, fun c1 => ⟨fun c2 => ?_, fun c2 => ⟨fun c3 => ?_, fun c3 => ⟨fun c4 => ?_, fun c4 => ?_⟩⟩⟩⟩
  · rw [if_pos c1] at h; exact h
  · rw [if_neg c1, if_neg (by rw [c2]; decide), if_neg (by rw [c2]; decide)] at h; exact h
  · rw [if_neg c1, if_pos c3] at h; exact h
  · rw [if_neg c1, if_neg c3, if_pos c4] at h; exact h
  · rw [if_neg c1, if_neg c3, if_neg c4] at h; exact h
theorem xs_184 {a : Int32} (h : Q (some (.inl (bc_f a))) I o) : Exm d 184 [.inl a] I o Q := e_184 h
end XS1
theorem ft_ext {p q : Nat → Bool} : ∀ (c k : Nat), (∀ j, k ≤ j → j < k + c → p j = q j) → pu_ft p k c = pu_ft q k c := by
  intro c
  induction c with
  | zero => intro k _; rfl
  | succ c ih =>
    intro k h
    unfold pu_ft
    rw [h k (Nat.le_refl k) (by omega), ih (k + 1) (fun j h1 h2 => h j (by omega) (by omega))]
theorem ft_cut {p : Nat → Bool} : ∀ (c k m : Nat), (∀ j, k + c ≤ j → j < k + c + m → p j = false) → pu_ft p k (c + m) = pu_ft p k c := by
  intro c
  induction c with
  | zero =>
    intro k m
    rw [Nat.zero_add]
    induction m generalizing k with
    | zero => intro _; rfl
    | succ m ihm =>
      intro h
      unfold pu_ft
      rw [if_neg (by rw [h k (by omega) (by omega)]; decide)]
      rw [ihm (k + 1) (fun j h1 h2 => h j (by omega) (by omega))]
      cases m <;> rfl
  | succ c ih =>
    intro k m h
    rw [show c + 1 + m = (c + m) + 1 by omega]
    unfold pu_ft
    rw [ih (k + 1) m (fun j h1 h2 => h j (by omega) (by omega))]
/-- the bits that send -/
theorem by_bits {σ τ : ma_I} {hh k : Nat} {s : Int32} (hg : iv_od σ) (hR : rx_v σ τ) (h8 : hh < 8) (hk : k < 100) : ∃ b : Fin 256, τ 24 0 (hh * 100 + k) &&& s = Int32.ofNat b.val ∧ pu_ft (fun i => bg (Int32.ofNat b.val) i) 0 8 = pu_by σ (Int32.ofNat hh) k s := by
  obtain ⟨-, -, -, -, -, -, hs, -⟩ := hR
  obtain ⟨n, hn, hn8, -⟩ := hg
  have hb := hs hh k h8 hk
  rw [hn, in_cl (by omega)] at hb
  have hb2 : ∀ i, i < 32 → bg (τ 24 0 (hh * 100 + k) &&& s) i = (decide (i < n) && decide (σ 45 0 i = Int32.ofNat hh) && pu_sn σ i (Int32.ofNat k) && bg s i) := by
    intro i hi
    rw [bg_and, hb i hi]
  obtain ⟨m, hm, he⟩ := bg_lt (τ 24 0 (hh * 100 + k) &&& s) (fun i h1 h2 => by
    rw [hb2 i h2, decide_eq_false (by omega : ¬i < n)]
    rfl)
  refine ⟨⟨m, hm⟩, he, ?_⟩
  show pu_ft (fun i => bg (Int32.ofNat m) i) 0 8 = _
  rw [← he]
  unfold pu_by
  rw [hn, in_cl (by omega)]
  rw [show (8 : Nat) = n + (8 - n) by omega, ft_cut n 0 (8 - n) (fun j h1 h2 => by
    rw [hb2 j (by omega), decide_eq_false (by omega : ¬j < n)]
    rfl)]
  refine ft_ext n 0 (fun j _ hj => ?_)
  rw [hb2 j (by omega), decide_eq_true (by omega : j < n), bt_bg j (by omega)]
  cases bg s j <;> cases decide (σ 45 0 j = Int32.ofNat hh) <;> cases pu_sn σ j (Int32.ofNat k) <;> rfl
theorem by_zero {b : Fin 256} (h : Int32.ofNat b.val = 0) : pu_ft (fun i => bg (Int32.ofNat b.val) i) 0 8 = none := by
  rw [h]
  decide
theorem by_nz {b : Fin 256} (h : Int32.ofNat b.val ≠ 0) : pu_ft (fun i => bg (Int32.ofNat b.val) i) 0 8 ≠ none := by
  have : ∀ b : Fin 256, Int32.ofNat b.val ≠ 0 → pu_ft (fun i => bg (Int32.ofNat b.val) i) 0 8 ≠ none := by decide +kernel
  exact this b h
section XS2
variable {d : Nat} {I : ma_I} {o : Nat} {Q : ma_Q} {σ : ma_I}
theorem xs_20 {hh k : Nat} {s : Int32} (hg : iv_od σ) (hR : rx_v σ (sv I)) (h8 : hh < 8) (hk : k < 100) (h : Q (some (.inl (pu_en (pu_by σ (Int32.ofNat hh) k s)))) I o) : Exm (d + 1) 20 [.inr (.inr (6, 0)), .inl (Int32.ofNat hh), .inl (Int32.ofNat k), .inl s] I o Q := by
  obtain ⟨b, hb1, hb2⟩ := by_bits (s := s) hg hR h8 hk
  rw [sv_24] at hb1
  have ei : Int32.ofNat hh * 100 + Int32.ofNat k = Int32.ofNat (hh * 100 + k) := in_ma hh 100 k
  refine e_20 ?_
  rw [ei, in_cl (by omega), hb1]
  refine ⟨in_in (by omega) (by omega), fun c => ?_, fun c => ?_⟩
  · refine xs_184 ⟨_, rfl, ?_⟩
    rw [bc_ok b (fun e => c (by rw [e]; rfl)), hb2]
    exact h
  · rw [← hb2, by_zero c] at h
    exact h
theorem xs_19 {hh k : Nat} {s : Int32} (hg : iv_od σ) (hR : rx_v σ (sv I)) (h8 : hh < 8) (hk : k < 100) (h : ∀ at', k ≤ at' → at' ≤ 99 → (∀ j, k ≤ j → j < at' → pu_li σ (Int32.ofNat j) ≠ Int32.ofNat hh ∧ pu_by σ (Int32.ofNat hh) j s = none) → (at' = 99 ∨ pu_li σ (Int32.ofNat at') = Int32.ofNat hh ∨ pu_by σ (Int32.ofNat hh) at' s ≠ none) → Q (some (.inl (Int32.ofNat at'))) I o) : Exm d 19 [.inr (.inr (6, 0)), .inl (Int32.ofNat hh), .inl (Int32.ofNat k), .inl s] I o Q := by
  refine e_19 ?_
  have key : ∀ m at', at' + m = 99 → k ≤ at' → (∀ j, k ≤ j → j < at' → pu_li σ (Int32.ofNat j) ≠ Int32.ofNat hh ∧ pu_by σ (Int32.ofNat hh) j s = none) → Ex d 19 (9, [vR 6 0, vI (Int32.ofNat hh), vI (Int32.ofNat k), vI s, vI (Int32.ofNat hh * 100), vI (Int32.ofNat at')], [], ma_mem I o, 0, 0) (ma_end Q) := by
    intro m
    induction m with
    | zero =>
      intro at' e hka hj
      have : at' = 99 := by omega
      subst this
      exact b_19_9 ⟨fun _ => h 99 hka (by omega) hj (Or.inl rfl), fun c => absurd c (by decide)⟩
    | succ m ih =>
      intro at' e hka hj
      obtain ⟨b, hb1, hb2⟩ := by_bits (s := s) hg hR h8 (by omega : at' < 100)
      rw [sv_24] at hb1
      have ei : Int32.ofNat hh * 100 + Int32.ofNat at' = Int32.ofNat (hh * 100 + at') := in_ma hh 100 at'
      have hl := hR.2.2.2.2.2.1 at' (by omega)
      rw [sv_23] at hl
      refine b_19_9 ⟨fun c => ?_, fun _ => ?_⟩
      · have := (in_le (a := 99) (by decide) (by omega)).mp c
        omega
      · rw [in_cl (by omega), ei, in_cl (by omega), hl, hb1]
        refine ⟨in_in (by omega) (by omega), fun c => ?_, fun c => ⟨in_in (by omega) (by omega), fun c2 => ?_, fun c2 => ?_⟩⟩
        · exact h at' hka (by omega) hj (Or.inr (Or.inl c))
        · refine h at' hka (by omega) hj (Or.inr (Or.inr ?_))
          rw [← hb2]
          exact by_nz c2
        · rw [in_a1]
          refine ih (at' + 1) (by omega) (by omega) (fun j h1 h2 => ?_)
          by_cases e1 : j = at'
          · subst e1
            refine ⟨c, ?_⟩
            rw [← hb2]
            exact by_zero c2
          · exact hj j h1 (by omega)
  exact key (99 - k) k (by omega) (Nat.le_refl k) (fun j h1 h2 => by omega)
end XS2

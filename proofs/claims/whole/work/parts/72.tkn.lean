/-! ===== the next token of the reference ===== -/
section TKN
variable {d : Nat} {I : ma_I} {o : Nat} {Q : ma_Q} {σ : ma_I} {n : Nat}
theorem mo_139 {s : Nat} (hn : I 40 0 12 = Int32.ofNat n) (hn1 : n ≤ 160) (hsn : s ≤ n) (hK : tk_K I) (hs : I 40 0 20 = Int32.ofNat s) (h17 : I 40 0 17 = Int32.ofNat s)
    (h : ∀ J, fr [1017, 1018, 1019] I J → J 40 0 17 = Int32.ofNat (tk_run tk_al (fun k => I 49 0 k) (n - s) s) → wd_i (fun k => I 49 0 k) s (tk_run tk_al (fun k => I 49 0 k) (n - s) s) 12 J → Q none J o) : Exm (d + 1) 139 [.inr (.inr (40, 0))] I o Q := by
  refine e_139 ?_
  have key : ∀ (r p : Nat) (J : ma_I), p + r = n → s ≤ p → fr [1017] I J → J 40 0 17 = Int32.ofNat p → tk_run tk_al (fun k => I 49 0 k) r p = tk_run tk_al (fun k => I 49 0 k) (n - s) s → Ex (d + 1) 139 (0, [vR 40 0, none, none, none, none], [], ma_mem J o, 0, 0) (ma_end Q) := by
    intro r
    induction r with
    | zero =>
      intro p J hp hsp hf hj hrun
      have hpn : p = n := by omega
      refine b_139_0 ?_
      rw [hj]
      refine mo_137 (n := n) (by rw [hf 40 0 12 (by decide)]; exact hn) hn1 (by omega) ⟨_, rfl, fun _ => ?_, fun c => ?_⟩
      · refine mo_139b (I := ma_up J 40 0 18 6) (s := s) (e := p) (K_fr hK (fr_up1 (fr_mono hf (by decide)) (by decide))) (by rw [up_j (by decide), hf 40 0 20 (by decide)]; exact hs) (by rw [up_j (by decide)]; exact hj) hsp (by omega) (fun K hfK hw => ?_) 12 0 _ _ _ _ (by omega) (fr_refl _ _) (Or.inl ⟨fun i hi => by omega, xv_us⟩)
        have hb : (fun k => ma_up J 40 0 18 6 49 0 k) = (fun k => I 49 0 k) := by funext k; rw [up_g (by decide)]; exact fr_g hf 49 0 k (by decide) (by decide) (by decide)
        rw [hb] at hw
        have e1 : tk_run tk_al (fun k => I 49 0 k) (n - s) s = p := hrun.symm
        rw [e1] at h
        refine h K (fr_trans (fr_up1 (fr_mono hf (by decide)) (by decide)) (fr_mono hfK (by decide))) ?_ hw
        rw [hfK 40 0 17 (by decide), up_j (by decide)]
        exact hj
      · rw [if_neg (by omega)] at c
        exact absurd rfl c
    | succ r ih =>
      intro p J hp hsp hf hj hrun
      have hb49 : J 49 0 p = I 49 0 p := fr_g hf 49 0 p (by decide) (by decide) (by decide)
      refine b_139_0 ?_
      rw [hj]
      refine mo_137 (n := n) (by rw [hf 40 0 12 (by decide)]; exact hn) hn1 (by omega) ⟨_, rfl, fun c => ?_, fun c => ?_⟩
      · have hna : ¬tk_al (I 49 0 p) = true := by
          intro q
          rw [hb49, if_pos ⟨by omega, q⟩] at c
          exact absurd c (by decide)
        have hrun' : p = tk_run tk_al (fun k => I 49 0 k) (n - s) s := by
          rw [← hrun]
          unfold tk_run
          rw [if_neg hna]
        refine mo_139b (I := ma_up J 40 0 18 6) (s := s) (e := p) (K_fr hK (fr_up1 (fr_mono hf (by decide)) (by decide))) (by rw [up_j (by decide), hf 40 0 20 (by decide)]; exact hs) (by rw [up_j (by decide)]; exact hj) hsp (by omega) (fun K hfK hw => ?_) 12 0 _ _ _ _ (by omega) (fr_refl _ _) (Or.inl ⟨fun i hi => by omega, xv_us⟩)
        have hb : (fun k => ma_up J 40 0 18 6 49 0 k) = (fun k => I 49 0 k) := by funext k; rw [up_g (by decide)]; exact fr_g hf 49 0 k (by decide) (by decide) (by decide)
        rw [hb] at hw
        rw [← hrun'] at h
        refine h K (fr_trans (fr_up1 (fr_mono hf (by decide)) (by decide)) (fr_mono hfK (by decide))) ?_ hw
        rw [hfK 40 0 17 (by decide), up_j (by decide)]
        exact hj
      · have hal : tk_al (I 49 0 p) = true := by
          by_cases q : tk_al (J 49 0 p) = true
          · rw [← hb49]; exact q
          · rw [if_neg (fun w => q w.2)] at c
            exact absurd rfl c
        refine ih (p + 1) _ (by omega) (by omega) (fr_up1 hf (by decide)) (by rw [xv_us, hj, in_a1]) ?_
        rw [← hrun]
        conv => rhs; unfold tk_run
        rw [if_pos hal]
  exact key (n - s) s I (by omega) (Nat.le_refl _) (fr_refl _ _) h17 rfl
theorem R_0 {s e : Nat} {v : Int32} {J : ma_I} (hs : J 40 0 20 = Int32.ofNat s) (he : J 40 0 17 = Int32.ofNat e) (h : J 40 0 18 = 5) : tk_R J (s, e, 0, v) := by
  refine ⟨hs, he, ?_⟩
  rw [show tk_t (s, e, 0, v) = 0 from rfl, if_pos rfl]
  exact h
theorem R_1 {s e : Nat} {v : Int32} {J : ma_I} (hs : J 40 0 20 = Int32.ofNat s) (he : J 40 0 17 = Int32.ofNat e) (h : J 40 0 18 = 1) (h2 : J 40 0 19 = v) : tk_R J (s, e, 1, v) := by
  refine ⟨hs, he, ?_⟩
  rw [show tk_t (s, e, 1, v) = 1 from rfl, if_neg (by decide), if_pos rfl]
  exact ⟨h, h2⟩
theorem R_2 {s e : Nat} {v : Int32} {J : ma_I} (hs : J 40 0 20 = Int32.ofNat s) (he : J 40 0 17 = Int32.ofNat e) (h : J 40 0 18 = 2) (h2 : J 40 0 19 = v) : tk_R J (s, e, 2, v) := by
  refine ⟨hs, he, ?_⟩
  rw [show tk_t (s, e, 2, v) = 2 from rfl, if_neg (by decide), if_neg (by decide), if_pos rfl]
  exact ⟨h, h2⟩
theorem R_3 {s e : Nat} {v : Int32} {J : ma_I} (hs : J 40 0 20 = Int32.ofNat s) (he : J 40 0 17 = Int32.ofNat e) (h : J 40 0 18 = 6) : tk_R J (s, e, 3, v) := by
  refine ⟨hs, he, ?_⟩
  rw [show tk_t (s, e, 3, v) = 3 from rfl, if_neg (by decide), if_neg (by decide), if_neg (by decide), if_pos rfl]
  exact h
theorem R_4 {s e : Nat} {t v : Int32} {J : ma_I} (hs : J 40 0 20 = Int32.ofNat s) (he : J 40 0 17 = Int32.ofNat e) (k0 : t ≠ 0) (k1 : t ≠ 1) (k2 : t ≠ 2) (k3 : t ≠ 3) (k9 : t ≤ 9) (h : J 40 0 18 = 3) (h2 : J 40 0 19 = t - 4) : tk_R J (s, e, t, v) := by
  refine ⟨hs, he, ?_⟩
  rw [show tk_t (s, e, t, v) = t from rfl, if_neg k0, if_neg k1, if_neg k2, if_neg k3, if_pos k9]
  exact ⟨h, h2⟩
theorem R_5 {s e : Nat} {t v : Int32} {J : ma_I} (hs : J 40 0 20 = Int32.ofNat s) (he : J 40 0 17 = Int32.ofNat e) (hg : xv_sg t) (h : J 40 0 18 = 4) (h2 : J 40 0 19 = t) : tk_R J (s, e, t, v) := by
  have hk : t ≠ 0 ∧ t ≠ 1 ∧ t ≠ 2 ∧ t ≠ 3 ∧ ¬t ≤ 9 := by
    rcases hg with q | q | q | q | q | q | q | q <;> subst q <;> decide
  refine ⟨hs, he, ?_⟩
  rw [show tk_t (s, e, t, v) = t from rfl, if_neg hk.1, if_neg hk.2.1, if_neg hk.2.2.1, if_neg hk.2.2.2.1, if_neg hk.2.2.2.2]
  exact ⟨h, h2⟩
theorem wd_R {b : Nat → Int32} {s : Nat} {J : ma_I} (hsn : s < n) (hal : tk_al (b s) = true) (hs : J 40 0 20 = Int32.ofNat s) (he : J 40 0 17 = Int32.ofNat (tk_run tk_al b (n - s) s)) (hw : wd_i b s (tk_run tk_al b (n - s) s) 12 J) : tk_R J (tk_at b n s) := by
  unfold tk_at
  rw [if_pos hsn, if_pos hal]
  cases hwd : tk_wd b s (tk_run tk_al b (n - s) s) with
  | none =>
    refine R_3 hs he ?_
    rcases hw with ⟨-, q⟩ | ⟨i, q1, q2, -⟩
    · exact q
    · have := ft_none 12 0 hwd i (by omega) (by omega)
      rw [q2] at this
      exact absurd this (by decide)
  | some i0 =>
    obtain ⟨-, hi0, hi1, -⟩ := ft_some 12 0 i0 hwd
    rcases hw with ⟨q, -⟩ | ⟨i, q1, q2, q3, q4⟩
    · have := q i0 (by omega)
      rw [hi1] at this
      exact absurd this (by decide)
    · have ei : i = i0 := by
        unfold tk_is at hi1 q2
        exact W_inj i q1 i0 (by omega) ((of_decide_eq_true q2).symm.trans (of_decide_eq_true hi1))
      subst ei
      dsimp only
      by_cases c6 : i < 6
      · rw [if_pos c6] at q3 q4 ⊢
        exact R_2 hs he q3 q4
      · rw [if_neg c6] at q3 q4 ⊢
        have hk : ∀ m, 4 ≤ m → m < 10 → Int32.ofNat m ≠ 0 ∧ Int32.ofNat m ≠ 1 ∧ Int32.ofNat m ≠ 2 ∧ Int32.ofNat m ≠ 3 ∧ Int32.ofNat m ≤ 9 ∧ Int32.ofNat (m - 4) = Int32.ofNat m - 4 := by
          intro m h4 h10
          have : ∀ m, m < 10 → 4 ≤ m → Int32.ofNat m ≠ 0 ∧ Int32.ofNat m ≠ 1 ∧ Int32.ofNat m ≠ 2 ∧ Int32.ofNat m ≠ 3 ∧ Int32.ofNat m ≤ 9 ∧ Int32.ofNat (m - 4) = Int32.ofNat m - 4 := by decide +kernel
          exact this m h10 h4
        obtain ⟨k0, k1, k2, k3, k9, k4⟩ := hk (i - 2) (by omega) (by omega)
        refine R_4 hs he k0 k1 k2 k3 k9 q3 ?_
        rw [q4, ← k4]
        congr 1
theorem nx_0 {b : Nat → Int32} {s : Nat} (h : ¬s < n) : tk_at b n s = (s, s, 0, 0) := by
  unfold tk_at
  rw [if_neg h]
/-- a number -/
theorem mo_140 {s : Nat} (hn : I 40 0 12 = Int32.ofNat n) (hn1 : n ≤ 160) (hsn : s ≤ n) (hs : I 40 0 20 = Int32.ofNat s) (h17 : I 40 0 17 = Int32.ofNat s)
    (h : ∀ J, fr [1017, 1018, 1019] I J → J 40 0 17 = Int32.ofNat (tk_run tk_dg (fun k => I 49 0 k) (n - s) s) → (if tk_run tk_dg (fun k => I 49 0 k) (n - s) s - s ≤ 4 then J 40 0 18 = 1 ∧ J 40 0 19 = tk_nv (fun k => I 49 0 k) s (tk_run tk_dg (fun k => I 49 0 k) (n - s) s - s) else J 40 0 18 = 6) → Q none J o) : Exm (d + 1) 140 [.inr (.inr (40, 0))] I o Q := by
  refine e_140 ?_
  have key : ∀ (r p : Nat) (J : ma_I), p + r = n → s ≤ p → fr [1017, 1019] I J → J 40 0 17 = Int32.ofNat p → J 40 0 19 = tk_nv (fun k => I 49 0 k) s (if p - s ≤ 4 then p - s else 4) → tk_run tk_dg (fun k => I 49 0 k) r p = tk_run tk_dg (fun k => I 49 0 k) (n - s) s → Ex (d + 1) 140 (5, [vR 40 0], [], ma_mem J o, 0, 0) (ma_end Q) := by
    intro r
    induction r with
    | zero =>
      intro p J hp hsp hf hj h19 hrun
      have e1 : tk_run tk_dg (fun k => I 49 0 k) (n - s) s = p := hrun.symm
      have hd1 : J 40 0 17 - J 40 0 20 = Int32.ofNat (p - s) := by rw [hj, hf 40 0 20 (by decide), hs, Int32.ofNat_sub _ _ hsp]
      rw [e1] at h
      refine b_140_5 ?_
      rw [hj]
      refine mo_138 (n := n) (by rw [hf 40 0 12 (by decide)]; exact hn) hn1 (by omega) ⟨_, rfl, fun _ => ?_, fun c => ?_⟩
      · have h4 : (Int32.ofNat (p - s) ≤ (4 : Int32)) ↔ p - s ≤ 4 := in_le (b := 4) (by omega) (by decide)
        rw [hd1, h4, ← Int32.not_le, h4]
        refine ⟨fun c4 => ?_, fun c4 => ?_⟩
        · refine h _ (fr_up1 (fr_mono hf (by decide)) (by decide)) (by rw [up_j (by decide)]; exact hj) ?_
          rw [if_pos c4, xv_us, up_j (by decide), h19, if_pos c4]
          exact ⟨rfl, rfl⟩
        · refine h _ (fr_up1 (fr_mono hf (by decide)) (by decide)) (by rw [up_j (by decide)]; exact hj) ?_
          rw [if_neg c4, xv_us]
      · rw [if_neg (by omega)] at c
        exact absurd rfl c
    | succ r ih =>
      intro p J hp hsp hf hj h19 hrun
      have hb49 : J 49 0 p = I 49 0 p := fr_g hf 49 0 p (by decide) (by decide) (by decide)
      have hd1 : J 40 0 17 - J 40 0 20 = Int32.ofNat (p - s) := by rw [hj, hf 40 0 20 (by decide), hs, Int32.ofNat_sub _ _ hsp]
      refine b_140_5 ?_
      rw [hj]
      refine mo_138 (n := n) (by rw [hf 40 0 12 (by decide)]; exact hn) hn1 (by omega) ⟨_, rfl, fun c => ?_, fun c => ?_⟩
      · have hna : ¬tk_dg (I 49 0 p) = true := by
          intro q
          rw [hb49, if_pos ⟨by omega, q⟩] at c
          exact absurd c (by decide)
        have hrun' : p = tk_run tk_dg (fun k => I 49 0 k) (n - s) s := by
          rw [← hrun]
          unfold tk_run
          rw [if_neg hna]
        rw [← hrun'] at h
        have h4 : (Int32.ofNat (p - s) ≤ (4 : Int32)) ↔ p - s ≤ 4 := in_le (b := 4) (by omega) (by decide)
        rw [hd1, h4, ← Int32.not_le, h4]
        refine ⟨fun c4 => ?_, fun c4 => ?_⟩
        · refine h _ (fr_up1 (fr_mono hf (by decide)) (by decide)) (by rw [up_j (by decide)]; exact hj) ?_
          rw [if_pos c4, xv_us, up_j (by decide), h19, if_pos c4]
          exact ⟨rfl, rfl⟩
        · refine h _ (fr_up1 (fr_mono hf (by decide)) (by decide)) (by rw [up_j (by decide)]; exact hj) ?_
          rw [if_neg c4, xv_us]
      · have hal : tk_dg (I 49 0 p) = true := by
          by_cases q : tk_dg (J 49 0 p) = true
          · rw [← hb49]; exact q
          · rw [if_neg (fun w => q w.2)] at c
            exact absurd rfl c
        have hrun' : tk_run tk_dg (fun k => I 49 0 k) r (p + 1) = tk_run tk_dg (fun k => I 49 0 k) (n - s) s := by
          rw [← hrun]
          conv => rhs; unfold tk_run
          rw [if_pos hal]
        have h4 : ((4 : Int32) ≤ Int32.ofNat (p - s)) ↔ 4 ≤ p - s := in_le (a := 4) (by decide) (by omega)
        rw [hd1, h4, ← Int32.not_le, h4]
        refine ⟨fun c4 => ?_, fun c4 => ?_⟩
        · refine ih (p + 1) _ (by omega) (by omega) (fr_up1 (fr_up1 hf (by decide)) (by decide)) (by rw [xv_us, hj, in_a1]) ?_ hrun'
          rw [up_j (by decide), xv_us, h19]
          congr 1
          by_cases q : p - s ≤ 4
          · rw [if_pos q, if_neg (by omega)]; omega
          · rw [if_neg q, if_neg (by omega)]
        · rw [hj, in_cl (by omega)]
          refine ⟨in_in (by omega) (by omega), ih (p + 1) _ (by omega) (by omega) (fr_up1 (fr_up1 hf (by decide)) (by decide)) (by rw [xv_us, in_a1]) ?_ hrun'⟩
          rw [up_j (by decide), xv_us, h19, if_pos (by omega), if_pos (by omega), hb49]
          have e2 : p + 1 - s = (p - s) + 1 := by omega
          have e3 : s + (p - s) = p := by omega
          rw [e2]
          show _ = 10 * tk_nv (fun k => I 49 0 k) s (p - s) + I 49 0 (s + (p - s)) - 48
          rw [e3]
  exact key (n - s) s _ (by omega) (Nat.le_refl _) (fr_up1 (fr_refl _ _) (by decide)) (by rw [up_j (by decide)]; exact h17) (by rw [xv_us, if_pos (by omega), Nat.sub_self]; rfl) rfl
end TKN

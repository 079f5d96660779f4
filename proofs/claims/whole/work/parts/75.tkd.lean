/-! ===== the next token of the class ===== -/
section TKD
variable {d : Nat} {I : ma_I} {o : Nat} {Q : ma_Q} {σ : ma_I} {n : Nat}
theorem al_iff {c : Int32} : tk_al c = true ↔ 97 ≤ c ∧ c ≤ 122 := decide_eq_true_iff
theorem dg_iff {c : Int32} : tk_dg c = true ↔ 48 ≤ c ∧ c ≤ 57 := decide_eq_true_iff
theorem sg_iff {c : Int32} : tk_sg c = true ↔ xv_sg c := decide_eq_true_iff
theorem xs_46 {s : Nat} {b : Nat → Int32} (hM : tk_M I) (h0 : I 8 0 0 = Int32.ofNat n) (hn : n ≤ 160) (hsn : s ≤ n) (hs : I 8 0 2 = Int32.ofNat s) (h4 : I 8 0 4 = Int32.ofNat s) (hb : ∀ k, k < n → I 31 0 k = b k)
    (h : ∀ J, fr [2001, 2003, 2004] I J → J 8 0 4 = Int32.ofNat (tk_run tk_al b (n - s) s) → wc_i b s (tk_run tk_al b (n - s) s) 12 J → Q none J o) : Exm (d + 5) 46 [.inr (.inr (8, 0))] I o Q := by
  refine e_46 ?_
  have tail : ∀ (e : Nat) (J : ma_I), s ≤ e → e ≤ n → fr [2004] I J → J 8 0 4 = Int32.ofNat e → e = tk_run tk_al b (n - s) s → Ex (d + 4 + 1) 46 (50, [vR 8 0, vI 0], [], ma_mem (ma_up J 8 0 1 3) o, 0, 0) (ma_end Q) := by
    intro e J hse hen hf hj hrun
    rw [← hrun] at h
    have hfX : fr [2001, 2003, 2004] I (ma_up J 8 0 1 3) := fr_up1 (fr_mono hf (by decide)) (by decide)
    refine xs_46b (I := ma_up J 8 0 1 3) (n := n) (s := s) (e := e) (b := b) (fun i hi k hk => ?_) ?_ ?_ hse hen hn (fun k hk => ?_) (fun K hK hw => h K (fr_trans hfX (fr_mono hK (by decide))) ?_ hw) 12 0 _ (by omega) (fr_refl _ _) (Or.inl ⟨fun i hi => by omega, xv_us⟩)
    · rw [fr_g hfX 3 i k (by decide) (by decide) (by decide)]; exact hM i hi k hk
    · rw [hfX 8 0 2 (by decide)]; exact hs
    · rw [up_j (by decide)]; exact hj
    · rw [fr_g hfX 31 0 k (by decide) (by decide) (by decide)]; exact hb k hk
    · rw [hK 8 0 4 (by decide), up_j (by decide)]; exact hj
  have key : ∀ (r p : Nat) (J : ma_I), p + r = n → s ≤ p → fr [2004] I J → J 8 0 4 = Int32.ofNat p → tk_run tk_al b r p = tk_run tk_al b (n - s) s → Ex (d + 4 + 1) 46 (0, [vR 8 0, none], [], ma_mem J o, 0, 0) (ma_end Q) := by
    intro r
    induction r with
    | zero =>
      intro p J hp hsp hf hj hrun
      refine b_46_0 ?_
      rw [hj, hf 8 0 0 (by decide), h0]
      refine ⟨fun _ => tail p J hsp (by omega) hf hj hrun, fun c => ?_⟩
      have := (in_lt (by omega) (by omega)).mp c
      omega
    | succ r ih =>
      intro p J hp hsp hf hj hrun
      refine b_46_0 ?_
      rw [hj, hf 8 0 0 (by decide), h0, in_cl (by omega), fr_g hf 31 0 p (by decide) (by decide) (by decide), hb p (by omega), in_a1]
      refine ⟨fun c => ?_, fun _ => ⟨in_in (by omega) (by omega), fun c => tail p J hsp (by omega) hf hj ?_, fun c => ih (p + 1) _ (by omega) (by omega) (fr_up1 hf (by decide)) xv_us ?_⟩⟩
      · have := (in_le (by omega) (by omega)).mp c
        omega
      · rw [← hrun]
        unfold tk_run
        rw [if_neg (fun w => c (al_iff.mp w))]
      · rw [← hrun]
        conv => rhs; unfold tk_run
        rw [if_pos (al_iff.mpr c)]
  exact key (n - s) s I (by omega) (Nat.le_refl _) (fr_refl _ _) h4 rfl
theorem xs_47 {s : Nat} {b : Nat → Int32} (h0 : I 8 0 0 = Int32.ofNat n) (hn : n ≤ 160) (hsn : s ≤ n) (hs : I 8 0 2 = Int32.ofNat s) (h4 : I 8 0 4 = Int32.ofNat s) (hb : ∀ k, k < n → I 31 0 k = b k)
    (h : ∀ J, fr [2001, 2003, 2004] I J → J 8 0 4 = Int32.ofNat (tk_run tk_dg b (n - s) s) → J 8 0 3 = tk_nv b s (tk_run tk_dg b (n - s) s - s) → J 8 0 1 = (if tk_run tk_dg b (n - s) s - s ≤ 4 then 1 else 3) → Q none J o) : Exm (d + 1) 47 [.inr (.inr (8, 0))] I o Q := by
  refine e_47 ?_
  have key : ∀ (r p : Nat) (J : ma_I), p + r = n → s ≤ p → fr [2003, 2004] I J → J 8 0 4 = Int32.ofNat p → J 8 0 3 = tk_nv b s (p - s) → tk_run tk_dg b r p = tk_run tk_dg b (n - s) s → Ex (d + 1) 47 (5, [vR 8 0], [], ma_mem J o, 0, 0) (ma_end Q) := by
    have tail : ∀ (p : Nat) (J : ma_I), s ≤ p → p ≤ n → fr [2003, 2004] I J → J 8 0 4 = Int32.ofNat p → J 8 0 3 = tk_nv b s (p - s) → p = tk_run tk_dg b (n - s) s → ((Int32.ofNat (p - s) ≤ 4 → Q none (ma_up J 8 0 1 1) o) ∧ (4 < Int32.ofNat (p - s) → Q none (ma_up J 8 0 1 3) o)) := by
      intro p J hsp hpn hf hj h3 hrun
      rw [← hrun] at h
      have h4' : (Int32.ofNat (p - s) ≤ (4 : Int32)) ↔ p - s ≤ 4 := in_le (b := 4) (by omega) (by decide)
      rw [h4', ← Int32.not_le, h4']
      refine ⟨fun c => h _ (fr_up1 (fr_mono hf (by decide)) (by decide)) (by rw [up_j (by decide)]; exact hj) (by rw [up_j (by decide)]; exact h3) (by rw [xv_us, if_pos c]), fun c => h _ (fr_up1 (fr_mono hf (by decide)) (by decide)) (by rw [up_j (by decide)]; exact hj) (by rw [up_j (by decide)]; exact h3) (by rw [xv_us, if_neg c])⟩
    intro r
    induction r with
    | zero =>
      intro p J hp hsp hf hj h3 hrun
      have hd : J 8 0 4 - J 8 0 2 = Int32.ofNat (p - s) := by rw [hj, hf 8 0 2 (by decide), hs, Int32.ofNat_sub _ _ hsp]
      refine b_47_5 ?_
      rw [hd, hj, hf 8 0 0 (by decide), h0]
      refine ⟨fun _ => tail p J hsp (by omega) hf hj h3 hrun, fun c => ?_⟩
      have := (in_lt (by omega) (by omega)).mp c
      omega
    | succ r ih =>
      intro p J hp hsp hf hj h3 hrun
      have hd : J 8 0 4 - J 8 0 2 = Int32.ofNat (p - s) := by rw [hj, hf 8 0 2 (by decide), hs, Int32.ofNat_sub _ _ hsp]
      refine b_47_5 ?_
      rw [hd, hj, hf 8 0 0 (by decide), h0, in_cl (by omega), fr_g hf 31 0 p (by decide) (by decide) (by decide), hb p (by omega), in_a1]
      refine ⟨fun c => ?_, fun _ => ⟨in_in (by omega) (by omega), fun c => tail p J hsp (by omega) hf hj h3 ?_, fun c => ⟨in_in (by omega) (by omega), ih (p + 1) _ (by omega) (by omega) (fr_up1 (fr_up1 hf (by decide)) (by decide)) xv_us ?_ ?_⟩⟩⟩
      · have := (in_le (by omega) (by omega)).mp c
        omega
      · rw [← hrun]
        unfold tk_run
        rw [if_neg (fun w => c (dg_iff.mp w))]
      · rw [up_j (by decide), xv_us, h3]
        have e2 : p + 1 - s = (p - s) + 1 := by omega
        have e3 : s + (p - s) = p := by omega
        rw [e2]
        show _ = 10 * tk_nv b s (p - s) + b (s + (p - s)) - 48
        rw [e3, Int32.mul_comm]
      · rw [← hrun]
        conv => rhs; unfold tk_run
        rw [if_pos (dg_iff.mpr c)]
  exact key (n - s) s _ (by omega) (Nat.le_refl _) (fr_up1 (fr_refl _ _) (by decide)) (by rw [up_j (by decide)]; exact h4) (by rw [xv_us, Nat.sub_self]; rfl) rfl
theorem wc_C {b : Nat → Int32} {s : Nat} {J : ma_I} (hsn : s < n) (hal : tk_al (b s) = true) (hs : J 8 0 2 = Int32.ofNat s) (he : J 8 0 4 = Int32.ofNat (tk_run tk_al b (n - s) s)) (hw : wc_i b s (tk_run tk_al b (n - s) s) 12 J) : tk_C J (tk_at b n s) := by
  unfold tk_at
  rw [if_pos hsn, if_pos hal]
  cases hwd : tk_wd b s (tk_run tk_al b (n - s) s) with
  | none =>
    refine ⟨hs, he, ?_, fun w => ?_⟩
    · rcases hw with ⟨-, q⟩ | ⟨i, q1, q2, -⟩
      · exact q
      · have := ft_none 12 0 hwd i (by omega) (by omega)
        rw [q2] at this
        exact absurd this (by decide)
    · rcases w with w | w
      · exact absurd w (by show ¬(3 : Int32) = 1; decide)
      · exact absurd w (by show ¬(3 : Int32) = 2; decide)
  | some i0 =>
    obtain ⟨-, hi0, hi1, -⟩ := ft_some 12 0 i0 hwd
    rcases hw with ⟨q, -⟩ | ⟨i, q1, q2, q3, q4⟩
    · have := q i0 (by omega)
      rw [hi1] at this
      exact absurd this (by decide)
    · have ei : i = i0 := by
        unfold tk_is at hi1 q2
        exact W_inj i q1 i0 (by omega) ((of_decide_eq_true q2).symm.trans (of_decide_eq_true hi1))
      subst ei
      dsimp only
      by_cases c6 : i < 6
      · rw [if_pos c6] at q3 ⊢
        exact ⟨hs, he, q3, fun _ => q4⟩
      · rw [if_neg c6] at q3 ⊢
        refine ⟨hs, he, q3, fun w => ?_⟩
        have k1 : Int32.ofNat (i - 2) ≠ 1 := fun q => by have := (in_eq (b := 1) (by omega) (by decide)).mp q; omega
        have k2 : Int32.ofNat (i - 2) ≠ 2 := fun q => by have := (in_eq (b := 2) (by omega) (by decide)).mp q; omega
        rcases w with w | w
        · exact absurd w k1
        · exact absurd w k2
theorem xs_45t {s : Nat} {b : Nat → Int32} (hM : tk_M I) (h0 : I 8 0 0 = Int32.ofNat n) (hn : n ≤ 160) (hsn : s ≤ n) (h4 : I 8 0 4 = Int32.ofNat s) (hb : ∀ k, k < n → I 31 0 k = b k)
    (h : ∀ J, fr [2001, 2002, 2003, 2004] I J → tk_C J (tk_at b n s) → Q none J o) : Ex (d + 6) 45 (52, [vR 8 0], [], ma_mem I o, 0, 0) (ma_end Q) := by
  refine b_45_52 ?_
  rw [h0, h4]
  have hf2 : fr [2001, 2002, 2003, 2004] I (ma_up I 8 0 2 (Int32.ofNat s)) := fr_up1 (fr_refl _ _) (by decide)
  refine ⟨fun c => ?_, fun c => ?_⟩
  · have hlt := (in_lt (by omega) (by omega)).mp c
    rw [in_cl (by omega), hb s hlt, in_a1]
    have hin : ma_in (Int32.ofNat s) 160 := in_in (by omega) (by omega)
    refine ⟨hin, fun c1 => ⟨hin, fun c2 => ⟨hin, fun c3 => ?_, fun c3 => ⟨hin, ?_⟩⟩, fun c2 => ?_⟩, fun c1 => ?_⟩
    · have hat : tk_at b n s = (s, s + 1, 3, 0) := by
        unfold tk_at
        rw [if_pos hlt, if_neg (fun w => c1 (al_iff.mp w)), if_neg (fun w => c2 (dg_iff.mp w)), if_neg (fun w => c3 (sg_iff.mp w))]
      rw [hat] at h
      refine h _ (fr_up1 (fr_up1 hf2 (by decide)) (by decide)) ⟨?_, ?_, ?_, fun w => ?_⟩
      · rw [up_j (by decide), up_j (by decide), xv_us]; rfl
      · rw [xv_us]; rfl
      · rw [up_j (by decide), xv_us]; rfl
      · rcases w with w | w
        · exact absurd w (by show ¬(3 : Int32) = 1; decide)
        · exact absurd w (by show ¬(3 : Int32) = 2; decide)
    · have hat : tk_at b n s = (s, s + 1, b s, 0) := by
        unfold tk_at
        rw [if_pos hlt, if_neg (fun w => c1 (al_iff.mp w)), if_neg (fun w => c2 (dg_iff.mp w)), if_pos (sg_iff.mpr c3)]
      rw [hat] at h
      refine h _ (fr_up1 (fr_up1 hf2 (by decide)) (by decide)) ⟨?_, ?_, ?_, fun w => ?_⟩
      · rw [up_j (by decide), up_j (by decide), xv_us]; rfl
      · rw [xv_us]; rfl
      · rw [up_j (by decide), xv_us]; rfl
      · have hk : b s ≠ 1 ∧ b s ≠ 2 := by rcases c3 with q | q | q | q | q | q | q | q <;> rw [q] <;> decide
        rcases w with w | w
        · exact absurd w hk.1
        · exact absurd w hk.2
    · refine xs_47 (n := n) (s := s) (b := b) (by rw [up_j (by decide)]; exact h0) hn hsn xv_us (by rw [up_j (by decide)]; exact h4) (fun k hk => by rw [up_g (by decide)]; exact hb k hk) (fun J hJ j4 j3 j1 => ⟨rfl, h J (fr_trans hf2 (fr_mono hJ (by decide))) ?_⟩)
      have j2 : J 8 0 2 = Int32.ofNat s := by rw [hJ 8 0 2 (by decide), xv_us]
      unfold tk_at
      rw [if_pos hlt, if_neg (fun w => c1 (al_iff.mp w)), if_pos (dg_iff.mpr c2)]
      by_cases q4 : tk_run tk_dg b (n - s) s - s ≤ 4
      · rw [if_pos q4] at j1 ⊢
        exact ⟨j2, j4, j1, fun _ => j3⟩
      · rw [if_neg q4] at j1 ⊢
        refine ⟨j2, j4, j1, fun w => ?_⟩
        rcases w with w | w
        · exact absurd w (by show ¬(3 : Int32) = 1; decide)
        · exact absurd w (by show ¬(3 : Int32) = 2; decide)
    · refine xs_46 (n := n) (s := s) (b := b) (fun i hi k hk => by rw [up_g (by decide)]; exact hM i hi k hk) (by rw [up_j (by decide)]; exact h0) hn hsn xv_us (by rw [up_j (by decide)]; exact h4) (fun k hk => by rw [up_g (by decide)]; exact hb k hk) (fun J hJ j4 jw => ⟨rfl, h J (fr_trans hf2 (fr_mono hJ (by decide))) ?_⟩)
      exact wc_C hlt (al_iff.mpr c1) (by rw [hJ 8 0 2 (by decide), xv_us]) j4 jw
  · have hsn2 : s = n := by have := (in_le (by omega) (by omega)).mp c; omega
    rw [nx_0 (by omega)] at h
    refine h _ (fr_up1 hf2 (by decide)) ⟨?_, ?_, ?_, fun w => ?_⟩
    · rw [up_j (by decide), xv_us]; rfl
    · rw [up_j (by decide), up_j (by decide)]; exact h4
    · rw [xv_us]; rfl
    · rcases w with w | w
      · exact absurd w (by show ¬(0 : Int32) = 1; decide)
      · exact absurd w (by show ¬(0 : Int32) = 2; decide)
theorem xs_45 {p : Nat} {b : Nat → Int32} (hM : tk_M I) (h0 : I 8 0 0 = Int32.ofNat n) (hn : n ≤ 160) (hpn : p ≤ n) (h4 : I 8 0 4 = Int32.ofNat p) (hb : ∀ k, k < n → I 31 0 k = b k)
    (h : ∀ J, fr [2001, 2002, 2003, 2004] I J → tk_C J (tk_nx b n p) → Q none J o) : Exm (d + 6) 45 [.inr (.inr (8, 0))] I o Q := by
  refine e_45 ?_
  have tail : ∀ (s : Nat) (J : ma_I), s ≤ n → fr [2004] I J → J 8 0 4 = Int32.ofNat s → s = tk_run tk_ws b (n - p) p → Ex (d + 5 + 1) 45 (52, [vR 8 0], [], ma_mem J o, 0, 0) (ma_end Q) := by
    intro s J hs hf hj hrun
    have hf2 : fr [2001, 2002, 2003, 2004] I J := fr_mono hf (by decide)
    refine xs_45t (n := n) (s := s) (b := b) (fun i hi k hk => by rw [fr_g hf 3 i k (by decide) (by decide) (by decide)]; exact hM i hi k hk) (by rw [hf 8 0 0 (by decide)]; exact h0) hn hs hj (fun k hk => by rw [fr_g hf 31 0 k (by decide) (by decide) (by decide)]; exact hb k hk) (fun K hK2 hR => h K (fr_trans hf2 hK2) ?_)
    rw [hrun] at hR
    exact hR
  have key : ∀ (r q : Nat) (J : ma_I), q + r = n → fr [2004] I J → J 8 0 4 = Int32.ofNat q → tk_run tk_ws b r q = tk_run tk_ws b (n - p) p → Ex (d + 5 + 1) 45 (0, [vR 8 0], [], ma_mem J o, 0, 0) (ma_end Q) := by
    intro r
    induction r with
    | zero =>
      intro q J hq hf hj hrun
      refine b_45_0 ?_
      rw [hj, hf 8 0 0 (by decide), h0]
      refine ⟨fun _ => tail q J (by omega) hf hj hrun, fun c => ?_⟩
      have := (in_lt (by omega) (by omega)).mp c
      omega
    | succ r ih =>
      intro q J hq hf hj hrun
      have hgo : tk_ws (b q) = true → Ex (d + 5 + 1) 45 (0, [vR 8 0], [], ma_mem (ma_up J 8 0 4 (Int32.ofNat (q + 1))) o, 0, 0) (ma_end Q) := by
        intro hw
        refine ih (q + 1) _ (by omega) (fr_up1 hf (by decide)) xv_us ?_
        rw [← hrun]
        conv => rhs; unfold tk_run
        rw [if_pos hw]
      refine b_45_0 ?_
      rw [hj, hf 8 0 0 (by decide), h0, in_cl (by omega), fr_g hf 31 0 q (by decide) (by decide) (by decide), hb q (by omega), in_a1]
      refine ⟨fun c => ?_, fun _ => ⟨in_in (by omega) (by omega), fun c => hgo (decide_eq_true (Or.inl c)), fun c => ⟨in_in (by omega) (by omega), fun c2 => tail q J (by omega) hf hj ?_, fun c2 => hgo (decide_eq_true (Or.inr c2))⟩⟩⟩
      · have := (in_le (by omega) (by omega)).mp c
        omega
      · rw [← hrun]
        unfold tk_run
        rw [if_neg (fun hw => by rcases of_decide_eq_true hw with w | w; exact c w; exact c2 w)]
  exact key (n - p) p I (by omega) (fr_refl _ _) h4 rfl
end TKD

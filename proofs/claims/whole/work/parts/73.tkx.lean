/-! ===== the next token of the reference, all of it ===== -/
section TKX
variable {d : Nat} {I : ma_I} {o : Nat} {Q : ma_Q} {σ : ma_I} {n : Nat}
theorem mo_141t {s : Nat} (hn : I 40 0 12 = Int32.ofNat n) (hn1 : n ≤ 160) (hsn : s ≤ n) (hK : tk_K I) (h17 : I 40 0 17 = Int32.ofNat s)
    (h : ∀ J, fr fr_tk I J → tk_R J (tk_at (fun k => I 49 0 k) n s) → Q none J o) : Ex (d + 2) 141 (52, [vR 40 0, none], [], ma_mem I o, 0, 0) (ma_end Q) := by
  refine b_141_52 ?_
  rw [h17, hn]
  refine ⟨fun c => ?_, fun c => ?_⟩
  · have hlt : s < n := by
      have : s ≠ n := fun q => c (by rw [q])
      omega
    obtain ⟨X, hX⟩ : ∃ X, X = ma_up I 40 0 20 (Int32.ofNat s) := ⟨_, rfl⟩
    have hxx : ma_up I 40 0 20 (Int32.ofNat s) = X := hX.symm
    rw [hxx]
    have hfX : fr fr_tk I X := by rw [hX]; exact fr_up1 (fr_refl _ _) (by decide)
    have hXb : (fun k => X 49 0 k) = (fun k => I 49 0 k) := by funext k; exact fr_g hfX 49 0 k (by decide) (by decide) (by decide)
    have x12 : X 40 0 12 = Int32.ofNat n := by rw [hX, up_j (by decide)]; exact hn
    have x17 : X 40 0 17 = Int32.ofNat s := by rw [hX, up_j (by decide)]; exact h17
    have x20 : X 40 0 20 = Int32.ofNat s := by rw [hX, xv_us]
    have x49 : X 49 0 s = I 49 0 s := fr_g hfX 49 0 s (by decide) (by decide) (by decide)
    refine mo_137 (n := n) x12 hn1 hsn ⟨_, rfl, fun c1 => ?_, fun c1 => ?_⟩
    · have hna : ¬tk_al (I 49 0 s) = true := by
        intro q
        rw [x49, if_pos ⟨hlt, q⟩] at c1
        exact absurd c1 (by decide)
      rw [x17]
      refine mo_138 (n := n) x12 hn1 hsn ⟨_, rfl, fun c2 => ?_, fun c2 => ?_⟩
      · have hnd : ¬tk_dg (I 49 0 s) = true := by
          intro q
          rw [x49, if_pos ⟨hlt, q⟩] at c2
          exact absurd c2 (by decide)
        rw [x17, in_cl (by omega), x49]
        have hat : tk_at (fun k => I 49 0 k) n s = if tk_sg (I 49 0 s) = true then (s, s + 1, I 49 0 s, 0) else (s, s + 1, 3, 0) := by
          unfold tk_at
          rw [if_pos hlt, if_neg hna, if_neg hnd]
        rw [hat] at h
        have hyes : xv_sg (I 49 0 s) → Ex (d + 1 + 1) 141 (206, [vR 40 0, vI 1], [], ma_mem (ma_up X 40 0 19 (I 49 0 s)) o, 0, 0) (ma_end Q) := by
          intro hg
          have hg1 : tk_sg (I 49 0 s) = true := decide_eq_true hg
          rw [if_pos hg1] at h
          refine b_141_206 ⟨fun q => absurd q (by decide), fun _ => ?_⟩
          rw [up_j (by decide), x17, in_a1]
          refine h _ (fr_up1 (fr_up1 (fr_up1 hfX (by decide)) (by decide)) (by decide)) (R_5 ?_ ?_ hg ?_ ?_)
          · rw [up_j (by decide), up_j (by decide), up_j (by decide)]; exact x20
          · rw [xv_us]
          · rw [up_j (by decide), xv_us]
          · rw [up_j (by decide), up_j (by decide), xv_us]
        have hno : ¬xv_sg (I 49 0 s) → Ex (d + 1 + 1) 141 (206, [vR 40 0, vI 0], [], ma_mem (ma_up X 40 0 19 (I 49 0 s)) o, 0, 0) (ma_end Q) := by
          intro hg
          have hg1 : ¬tk_sg (I 49 0 s) = true := fun q => hg (of_decide_eq_true q)
          rw [if_neg hg1] at h
          refine b_141_206 ⟨fun _ => ?_, fun q => absurd rfl q⟩
          rw [up_j (by decide), x17, in_a1]
          refine h _ (fr_up1 (fr_up1 (fr_up1 hfX (by decide)) (by decide)) (by decide)) (R_3 ?_ ?_ ?_)
          · rw [up_j (by decide), up_j (by decide), up_j (by decide)]; exact x20
          · rw [xv_us]
          · rw [up_j (by decide), xv_us]
        refine ⟨in_in (by omega) (by omega), fun q => hyes (by rw [q]; decide), fun q1 => ⟨fun q => hyes (by rw [q]; decide), fun q2 => ⟨fun q => hyes (by rw [q]; decide), fun q3 => ⟨fun q => hyes (by rw [q]; decide), fun q4 => ⟨fun q => hyes (by rw [q]; decide), fun q5 => ⟨fun q => hyes (by rw [q]; decide), fun q6 => ⟨fun q => hyes (by rw [q]; decide), fun q7 => ⟨fun q8 => hno ?_, fun q => hyes (by rw [q]; decide)⟩⟩⟩⟩⟩⟩⟩⟩
        rintro (e | e | e | e | e | e | e | e)
        · exact q1 e
        · exact q2 e
        · exact q6 e
        · exact q4 e
        · exact q5 e
        · exact q3 e
        · exact q7 e
        · exact q8 e
      · have hdg : tk_dg (I 49 0 s) = true := by
          by_cases q : tk_dg (X 49 0 s) = true
          · rw [← x49]; exact q
          · rw [if_neg (fun w => q w.2)] at c2
            exact absurd rfl c2
        refine mo_140 (n := n) (s := s) x12 hn1 hsn x20 x17 (fun J hJ hJ17 hJv => ⟨rfl, h J (fr_trans hfX (fr_mono hJ (by decide))) ?_⟩)
        rw [hXb] at hJ17 hJv
        have j20 : J 40 0 20 = Int32.ofNat s := by
          rw [hJ 40 0 20 (by decide)]; exact x20
        unfold tk_at
        rw [if_pos hlt, if_neg hna, if_pos hdg]
        by_cases c4 : tk_run tk_dg (fun k => I 49 0 k) (n - s) s - s ≤ 4
        · rw [if_pos c4] at hJv ⊢
          exact R_1 j20 hJ17 hJv.1 hJv.2
        · rw [if_neg c4] at hJv ⊢
          exact R_3 j20 hJ17 hJv
    · have hal : tk_al (I 49 0 s) = true := by
        by_cases q : tk_al (X 49 0 s) = true
        · rw [← x49]; exact q
        · rw [if_neg (fun w => q w.2)] at c1
          exact absurd rfl c1
      refine mo_139 (n := n) (s := s) x12 hn1 hsn (K_fr hK hfX) x20 x17 (fun J hJ hJ17 hJw => ⟨rfl, h J (fr_trans hfX (fr_mono hJ (by decide))) ?_⟩)
      rw [hXb] at hJ17 hJw
      have j20 : J 40 0 20 = Int32.ofNat s := by
        rw [hJ 40 0 20 (by decide)]; exact x20
      exact wd_R hlt hal j20 hJ17 hJw
  · have hsn2 : s = n := (in_eq (by omega) (by omega)).mp c
    rw [nx_0 (by omega)] at h
    refine h _ (fr_up1 (fr_up1 (fr_refl _ _) (by decide)) (by decide)) (R_0 ?_ ?_ ?_)
    · rw [up_j (by decide), xv_us]
    · rw [up_j (by decide), up_j (by decide)]; exact h17
    · rw [xv_us]
theorem mo_141 {p : Nat} (hn : I 40 0 12 = Int32.ofNat n) (hn1 : n ≤ 160) (hp : p ≤ n) (hK : tk_K I) (h17 : I 40 0 17 = Int32.ofNat p)
    (h : ∀ J, fr fr_tk I J → tk_R J (tk_nx (fun k => I 49 0 k) n p) → Q none J o) : Exm (d + 2) 141 [.inr (.inr (40, 0))] I o Q := by
  refine e_141 ?_
  have tail : ∀ (s : Nat) (J : ma_I), s ≤ n → fr [1017] I J → J 40 0 17 = Int32.ofNat s → s = tk_run tk_ws (fun k => I 49 0 k) (n - p) p → Ex (d + 1 + 1) 141 (52, [vR 40 0, none], [], ma_mem J o, 0, 0) (ma_end Q) := by
    intro s J hs hf hj hrun
    have hf2 : fr fr_tk I J := fr_mono hf (by decide)
    refine mo_141t (n := n) (s := s) (by rw [hf 40 0 12 (by decide)]; exact hn) hn1 hs (K_fr hK hf2) hj (fun K hK2 hR => h K (fr_trans hf2 hK2) ?_)
    have hb : (fun k => J 49 0 k) = (fun k => I 49 0 k) := by funext k; exact fr_g hf 49 0 k (by decide) (by decide) (by decide)
    rw [hb, hrun] at hR
    exact hR
  have key : ∀ (r q : Nat) (J : ma_I), q + r = n → fr [1017] I J → J 40 0 17 = Int32.ofNat q → tk_run tk_ws (fun k => I 49 0 k) r q = tk_run tk_ws (fun k => I 49 0 k) (n - p) p → Ex (d + 1 + 1) 141 (0, [vR 40 0, none], [], ma_mem J o, 0, 0) (ma_end Q) := by
    intro r
    induction r with
    | zero =>
      intro q J hq hf hj hrun
      refine b_141_0 ?_
      rw [hj, hf 40 0 12 (by decide), hn]
      refine ⟨fun _ => tail q J (by omega) hf hj hrun, fun c => ?_⟩
      have := (in_lt (by omega) (by omega)).mp c
      omega
    | succ r ih =>
      intro q J hq hf hj hrun
      have hb49 : J 49 0 q = I 49 0 q := fr_g hf 49 0 q (by decide) (by decide) (by decide)
      have hgo : tk_ws (I 49 0 q) = true → Ex (d + 1 + 1) 141 (0, [vR 40 0, none], [], ma_mem (ma_up J 40 0 17 (Int32.ofNat (q + 1))) o, 0, 0) (ma_end Q) := by
        intro hw
        refine ih (q + 1) _ (by omega) (fr_up1 hf (by decide)) xv_us ?_
        rw [← hrun]
        conv => rhs; unfold tk_run
        rw [if_pos hw]
      refine b_141_0 ?_
      rw [hj, hf 40 0 12 (by decide), hn, in_cl (by omega), hb49, in_a1]
      refine ⟨fun c => ?_, fun _ => ⟨in_in (by omega) (by omega), fun c => hgo (decide_eq_true (Or.inl c)), fun c => ⟨in_in (by omega) (by omega), fun c2 => tail q J (by omega) hf hj ?_, fun c2 => hgo (decide_eq_true (Or.inr c2))⟩⟩⟩
      · have := (in_le (by omega) (by omega)).mp c
        omega
      · rw [← hrun]
        unfold tk_run
        rw [if_neg (fun hw => by rcases of_decide_eq_true hw with w | w; exact c w; exact c2 w)]
  exact key (n - p) p I (by omega) (fr_refl _ _) h17 rfl
end TKX

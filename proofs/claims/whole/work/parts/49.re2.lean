/-! ===== reaches: the public calls ===== -/
abbrev fr_re : List Nat := [56, 57, 58, 1033, 1034, 1035, 1036, 1037, 59]
theorem rd_succ {σ : ma_I} {h : Int32} {k : Nat} (hk : k < 1000) : pu_rd σ h (k + 1) = if pu_rd σ h k = -1 ∧ (pu_r σ h k).2.2.2.2.2.2 = true then Int32.ofNat k else pu_rd σ h k := by
  unfold pu_rd
  rw [ft_snoc, Nat.zero_add]
  cases hf : pu_ft (fun k => (pu_r σ h k).2.2.2.2.2.2) 0 k with
  | some b =>
    have hb := (ft_some _ _ _ hf).2.1
    have h1 : pu_en (some b) = Int32.ofNat b := rfl
    dsimp only
    rw [if_neg (fun hh => in_nm (a := b) (by omega) hh.1)]
  | none =>
    dsimp only
    by_cases e : (pu_r σ h k).2.2.2.2.2.2 = true
    · rw [if_pos e, if_pos ⟨rfl, e⟩]; rfl
    · rw [if_neg e, if_neg (fun hh => e hh.2)]
section RE2
variable {d : Nat} {I : ma_I} {o : Nat} {Q : ma_Q} {σ : ma_I}
theorem xs_76 {a b : Int32} (hg : iv_g σ) (hR : rx_w σ (sv I)) (h : ∀ I', fr fr_wk I I' → Q (some (.inl (an_reaches σ a b))) I' o) : Exm (d + 7) 76 [.inr (.inr (5, 0)), .inl a, .inl b] I o Q := by
  unfold an_reaches at h
  refine e_76 ⟨fun c => ?_, fun c => ?_⟩
  · obtain ⟨hh, h8, he⟩ := ho_of c
    rw [if_pos c] at h
    unfold an_re at h
    subst he
    rw [xs_al hR]
    refine ⟨fun c0 => ?_, fun c0 => ⟨fun c1 => ?_, fun c1 => ⟨fun c2 => ?_, fun c2 => ⟨fun c3 => ?_, fun c3 => ⟨fun c4 => ?_, fun c4 => ⟨fun c5 => ?_, fun c5 => ?_⟩⟩⟩⟩⟩⟩
    · subst c0
      rw [if_pos (by decide), if_pos rfl] at h
      exact xs_78 hg hR.1 h8 (fun I' hf => ⟨_, rfl, h I' hf⟩)
    · subst c1
      rw [if_pos (by decide), if_neg (by decide), if_pos rfl] at h
      exact xs_79 hg hR h8 (fun I' hf => ⟨_, rfl, h I' hf⟩)
    · subst c2
      rw [if_pos (by decide), if_neg (by decide), if_neg (by decide), if_pos rfl] at h
      exact xs_80 hg hR h8 (fun I' hf => ⟨_, rfl, h I' hf⟩)
    · subst c3
      rw [if_pos (by decide), if_neg (by decide), if_neg (by decide), if_neg (by decide), if_pos rfl] at h
      exact xs_81 hg hR h8 (fun I' hf => ⟨_, rfl, h I' hf⟩)
    · subst c4
      rw [if_pos (by decide), if_neg (by decide), if_neg (by decide), if_neg (by decide), if_neg (by decide), if_pos rfl] at h
      exact xs_82 hg hR h8 (fun I' hf => ⟨_, rfl, h I' hf⟩)
    · subst c5
      rw [if_pos (by decide), if_neg (by decide), if_neg (by decide), if_neg (by decide), if_neg (by decide), if_neg (by decide)] at h
      exact xs_83 hg hR h8 (fun I' hf => ⟨_, rfl, h I' hf⟩)
    · have hb : ¬(0 ≤ b ∧ b ≤ 5) := by
        rintro ⟨h1, h2⟩
        obtain ⟨n, hn, e⟩ := in_ub (b := 5) (by decide) h1 h2
        rcases (by omega : n = 0 ∨ n = 1 ∨ n = 2 ∨ n = 3 ∨ n = 4 ∨ n = 5) with w | w | w | w | w | w <;> subst w
        · exact c0 e
        · exact c1 e
        · exact c2 e
        · exact c3 e
        · exact c4 e
        · exact c5 e
      rw [if_neg hb] at h
      exact h I (fr_refl _ _)
  · rw [if_neg c] at h
    exact h I (fr_refl _ _)
/-- the days from the last one down -/
theorem mo_162b {hh : Int32} {a3 a4 a5 a6 a7 b : Int32} (hg : iv_g (mv I)) (hh7 : rg hh 0 7) {I' : ma_I} (hf : fr fr_re I I') (h59 : ∀ j, j < 100 → I' 59 0 j = if pu_p (mv I) hh j then Int32.ofNat (pu_r (mv I) hh j).2.2.1 else -1)
    (h : (b ≠ 0 → (b ≠ 1 → (b ≠ 2 → (b ≠ 3 → (b ≠ 4 → Q (some (.inl a7)) I' o) ∧ (b = 4 → Q (some (.inl (Int32.ofNat (pu_ov (mv I) hh 100).1))) I' o)) ∧ (b = 3 → Q (some (.inl a6)) I' o)) ∧ (b = 2 → Q (some (.inl a5)) I' o)) ∧ (b = 1 → Q (some (.inl a4)) I' o)) ∧ (b = 0 → Q (some (.inl a3)) I' o)) :
    Ex (d + 2) 162 (175, [vR 40 0, vI hh, vI b, vI a3, vI a4, vI a5, vI a6, vI a7, vI 0, vI 1000, vI 99], [], ma_mem I' o, 0, 0) (ma_end Q) := by
  have key := lp_up (P := fun c => Ex (d + 2) 162 (175, [vR 40 0, vI hh, vI b, vI a3, vI a4, vI a5, vI a6, vI a7, vI (Int32.ofNat (pu_ov (mv I) hh c).1), vI (pu_ov (mv I) hh c).2, vI (Int32.ofNat (100 - c) + -1)], [], ma_mem I' o, 0, 0) (ma_end Q)) 100 ?_ ?_
  · exact key 0 (by omega)
  · exact b_162_175 ⟨fun _ => h, fun c => absurd c (by decide)⟩
  · intro c hc ih
    have ec : Int32.ofNat (100 - c) + -1 = Int32.ofNat (99 - c) := by
      rw [show 100 - c = (99 - c) + 1 by omega]
      exact in_m1 _
    have ed : Int32.ofNat (99 - c) + -1 = Int32.ofNat (100 - (c + 1)) + -1 := by rw [show 100 - (c + 1) = 99 - c by omega]
    have hB : go_B (99 - c) (pu_r (mv I) hh (99 - c)) := rn_bd hg hh7 (by omega)
    rw [ec]
    unfold pu_ov at ih
    refine b_162_175 ⟨fun c1 => absurd (in_ge0 (a := 99 - c) (by omega)) (Int32.not_le.mpr c1), fun _ => ⟨in_in (by omega) (by omega), ?_⟩⟩
    rw [in_cl (by omega), h59 (99 - c) (by omega), ed]
    by_cases hp : pu_p (mv I) hh (99 - c) = true
    · rw [if_pos hp]
      rw [if_pos hp] at ih
      dsimp only at ih
      refine ⟨fun c1 => absurd c1 (in_nm (by have := hB.2.2.1; omega)), fun _ => ⟨in_in (by omega) (by omega), fun c2 => ⟨in_in (by omega) (by omega), ?_⟩, fun c2 => ⟨in_in (by omega) (by omega), ?_⟩⟩⟩
      · rw [if_neg (Int32.not_lt.mpr c2)] at ih
        rw [Int32.add_zero]
        exact ih
      · rw [if_pos c2] at ih
        rw [in_a1]
        exact ih
    · rw [if_neg hp]
      rw [if_neg hp] at ih
      exact ⟨fun _ => ih, fun c1 => absurd rfl c1⟩
theorem mo_162 {a b : Int32} (hg : iv_g (mv I)) (h : ∀ I', fr fr_re I I' → Q (some (.inl (an_reaches (mv I) a b))) I' o) : Exm (d + 4) 162 [.inr (.inr (40, 0)), .inl a, .inl b] I o Q := by
  unfold an_reaches at h
  refine e_162 ⟨fun c => ?_, fun c => ⟨fun cb => ?_, fun cb => ?_⟩⟩
  · rw [if_neg c] at h
    exact h I (fr_refl _ _)
  · rw [if_pos c, if_pos cb] at h
    obtain ⟨hh, h8, he⟩ := ho_of c
    have hh7 : rg a 0 7 := ⟨hh, he, by omega, by omega⟩
    have key := lp_up (P := fun k => ∀ I', fr fr_re I I' → (∀ j, j < k → I' 59 0 j = if pu_p (mv I) a j then Int32.ofNat (pu_r (mv I) a j).2.2.1 else -1) → Ex (d + 4) 162 (36, [vR 40 0, vI a, vI b, vI (Int32.ofNat (cn (pu_p (mv I) a) k)), vI (pu_last (pu_p (mv I) a) k), vI (pu_gr (mv I) a k), vI (pu_lg (mv I) a k), vI (pu_rd (mv I) a k), vI (Int32.ofNat k), none, none], [], ma_mem I' o, 0, 0) (ma_end Q)) 100 ?_ ?_
    · exact key 0 (by omega) I (fr_refl _ _) (fun j hj => by omega)
    · intro I' hf h59
      refine b_162_36 ⟨fun _ => ?_, fun c => absurd c (by decide)⟩
      refine mo_162b hg hh7 hf h59 ?_
      have h' := h I' hf
      unfold an_re at h'
      refine ⟨fun n0 => ⟨fun n1 => ⟨fun n2 => ⟨fun n3 => ⟨fun n4 => ?_, fun e => ?_⟩, fun e => ?_⟩, fun e => ?_⟩, fun e => ?_⟩, fun e => ?_⟩
      · rw [if_neg n0, if_neg n1, if_neg n2, if_neg n3, if_neg n4] at h'; exact h'
      · rw [if_neg n0, if_neg n1, if_neg n2, if_neg n3, if_pos e] at h'; exact h'
      · rw [if_neg n0, if_neg n1, if_neg n2, if_pos e] at h'; exact h'
      · rw [if_neg n0, if_neg n1, if_pos e] at h'; exact h'
      · rw [if_neg n0, if_pos e] at h'; exact h'
      · rw [if_pos e] at h'; exact h'
    · intro k hk ih I' hf h59
      have hsv : mv I' = mv I := mv_fr hf (by decide)
      have hal : xv_al (I' 40 0 4) = pu_all (mv I) := by rw [hf 40 0 4 (by decide)]; rfl
      have hB : go_B k (pu_r (mv I) a k) := rn_bd hg hh7 (by omega)
      refine b_162_36 ⟨fun c => ?_, fun _ => ?_⟩
      · have := (in_le (a := 100) (by decide) (by omega)).mp c
        omega
      · rw [hal]
        refine mo_go (by rw [hsv]; exact hg) (by omega) (fun J hJ hR => ⟨rfl, ?_⟩)
        rw [hsv] at hR
        have hfJ : fr fr_re I J := fr_trans hf (fr_mono hJ (by decide))
        have r36 : J 40 0 36 = (pu_r (mv I) a k).1 := hR.1
        have r37 : J 40 0 37 = Int32.ofNat (pu_r (mv I) a k).2.2.1 := hR.2.1
        have r33 : J 40 0 33 - 1 = Int32.ofNat (pu_r (mv I) a k).2.2.2.1 := by
          have : J 40 0 33 = Int32.ofNat ((pu_r (mv I) a k).2.2.2.1 + 1) := hR.2.2.1
          rw [this]
          exact in_s1 _
        have r35 : J 40 0 35 = xv_b ((pu_r (mv I) a k).2.2.2.2.2.2 = true) := hR.2.2.2.2.2
        have esub : J 40 0 37 - Int32.ofNat k = Int32.ofNat ((pu_r (mv I) a k).2.2.1 - k) := by
          rw [r37]
          exact (Int32.ofNat_sub _ _ hB.2.1).symm
        have j59 : ∀ j, j < k → J 59 0 j = if pu_p (mv I) a j then Int32.ofNat (pu_r (mv I) a j).2.2.1 else -1 := fun j hj => by
          rw [fr_g hJ 59 0 j (by decide) (by decide) (by decide)]; exact h59 j hj
        have hin : ma_in (Int32.ofNat k) 100 := in_in (by omega) (by omega)
        rw [in_cl (by omega), r33, esub]
        have hA : ∀ rd', rd' = pu_rd (mv I) a (k + 1) → J 40 0 36 ≠ 0 → Exm (d + 3) 157 [.inr (.inr (40, 0)), .inl 2, .inl (Int32.ofNat k), .inl a, .inl (Int32.ofNat (pu_r (mv I) a k).2.2.2.1), .inl 0, .inl 0, .inl (Int32.ofNat ((pu_r (mv I) a k).2.2.1 - k))] (ma_up J 59 0 k (-1)) o (fun r J3 p4 => ∃ x5 : Int32, r = some (.inl x5) ∧
            Ex (d + 4) 162 (36, [vR 40 0, vI a, vI b, vI (Int32.ofNat (cn (pu_p (mv I) a) k)), vI (pu_last (pu_p (mv I) a) k), vI (pu_gr (mv I) a k + x5), vI (pu_lg (mv I) a k), vI rd', vI (Int32.ofNat k + 1), none, none], [], ma_mem J3 p4, 0, 0) (ma_end Q)) := by
          intro rd' hrd c36
          rw [r36] at c36
          have hpf := pp_f c36
          have hfu : fr fr_re I (ma_up J 59 0 k (-1)) := fr_upg hfJ (by decide) (by decide) (by decide)
          refine mo_157 (p := 2) (by omega) (by rw [mv_fr hfu (by decide)]; exact hg.2.2.2) (fun K hK => ⟨_, rfl, ?_⟩)
          rw [mv_fr hfu (by decide)]
          have ih' := ih K (fr_trans hfu (fr_mono hK (by decide))) (fun j hj => by
            rw [fr_g hK 59 0 j (by decide) (by decide) (by decide)]
            by_cases e : j = k
            · subst e; rw [xv_us, if_neg (by rw [hpf]; decide)]
            · rw [up_j e]; exact j59 j (by omega))
          unfold cn pu_last pu_gr pu_lg at ih'
          rw [if_neg (by rw [hpf]; decide), if_neg (by rw [hpf]; decide), if_neg (by rw [hpf]; decide), if_neg (by rw [hpf]; decide)] at ih'
          rw [hrd, in_a1]
          exact ih'
        have hBt : ∀ rd', rd' = pu_rd (mv I) a (k + 1) → J 40 0 36 = 0 → Ex (d + 4) 162 (36, [vR 40 0, vI a, vI b, vI (Int32.ofNat (cn (pu_p (mv I) a) k) + 1), vI (Int32.ofNat k), vI (pu_gr (mv I) a k), vI (xv_hi (pu_lg (mv I) a k) (Int32.ofNat ((pu_r (mv I) a k).2.2.1 - k))), vI rd', vI (Int32.ofNat k + 1), none, none], [], ma_mem (ma_up J 59 0 k (J 40 0 37)) o, 0, 0) (ma_end Q) := by
          intro rd' hrd c36
          rw [r36] at c36
          have hpt := pp_t c36
          have ih' := ih (ma_up J 59 0 k (J 40 0 37)) (fr_upg hfJ (by decide) (by decide) (by decide)) (fun j hj => by
            by_cases e : j = k
            · subst e; rw [xv_us, if_pos hpt]; exact r37
            · rw [up_j e]; exact j59 j (by omega))
          unfold cn pu_last pu_gr pu_lg at ih'
          rw [if_pos hpt, if_pos hpt, if_pos hpt, if_pos hpt] at ih'
          rw [hrd, in_a1, in_a1]
          exact ih'
        refine ⟨fun c7 => ?_, fun c7 => ⟨fun c35 => ?_, fun c35 => ?_⟩⟩
        · have pf : pu_rd (mv I) a k = pu_rd (mv I) a (k + 1) := by rw [rd_succ (by omega), if_neg (fun hh => c7 hh.1)]
          exact ⟨fun c => ⟨hin, fun _ => hA _ pf c, fun c2 => absurd c2 c⟩, fun c => ⟨hin, fun c2 => absurd c c2, fun _ => hBt _ pf c⟩⟩
        · rw [r35] at c35
          have pf : pu_rd (mv I) a k = pu_rd (mv I) a (k + 1) := by rw [rd_succ (by omega), if_neg (fun hh => xv_beq0.mp c35 hh.2)]
          exact ⟨fun c => ⟨hin, fun _ => hA _ pf c, fun c2 => absurd c2 c⟩, fun c => ⟨hin, fun c2 => absurd c c2, fun _ => hBt _ pf c⟩⟩
        · rw [r35] at c35
          have pf : Int32.ofNat k = pu_rd (mv I) a (k + 1) := by rw [rd_succ (by omega), if_pos ⟨c7, xv_bne0.mp c35⟩]
          exact ⟨fun c => ⟨hin, fun _ => hA _ pf c, fun c2 => absurd c2 c⟩, fun c => ⟨hin, fun c2 => absurd c c2, fun _ => hBt _ pf c⟩⟩
  · rw [if_pos c, if_neg cb] at h
    exact h I (fr_refl _ _)
end RE2

/-! ===== the reference's methods: where he lives, what is sent, what a text says ===== -/
section MO1
variable {d : Nat} {I : ma_I} {o : Nat} {Q : ma_Q}
theorem mo_130 {a : Int32} (hm : iv_mv (mv I)) (h : Q (some (.inl (pu_li (mv I) a))) I o) : Exm d 130 [.inr (.inr (40, 0)), .inl a] I o Q := by
  obtain ⟨n, hn, h6, hk⟩ := hm
  rw [mv_40_1] at hn
  have hli : pu_li (mv I) a = pu_lv (mv I) a n := by unfold pu_li; rw [mv_40_1, hn, in_cl (by omega)]
  rw [hli] at h
  refine e_130 ?_
  have key := lp_up (P := fun k => Ex d 130 (4, [vR 40 0, vI a, vI (pu_lv (mv I) a k), vI (Int32.ofNat k)], [], ma_mem I o, 0, 0) (ma_end Q)) n ?_ ?_
  · exact key 0 (Nat.zero_le n)
  · refine b_130_4 ⟨fun _ => h, fun c => ?_⟩
    rw [hn] at c
    exact absurd c Int32.lt_irrefl
  · intro k hkn ih
    refine b_130_4 ⟨fun c => ?_, fun _ => ⟨in_in (by omega) (by omega), fun c => ?_, fun c => ⟨in_in (by omega) (by omega), ?_⟩⟩⟩
    · rw [hn, in_le (by omega) (by omega)] at c
      omega
    · rw [in_cl (by omega)] at c
      have e : pu_lv (mv I) a (k + 1) = pu_lv (mv I) a k := if_neg (by rw [mv_41]; exact Int32.not_le.mpr c)
      rw [e, ← in_a1] at ih
      exact ih
    · rw [in_cl (by omega)] at c ⊢
      have e : pu_lv (mv I) a (k + 1) = I 42 0 k := by
        show (if mv I 41 0 k ≤ a then mv I 42 0 k else _) = _
        rw [mv_41, mv_42, if_pos c]
      rw [e, ← in_a1] at ih
      exact ih
theorem mo_132 {k : Nat} {a : Int32} (hk : k < 9) (h44 : I 44 0 k + 1 ≠ 0) (h : Q (some (.inl (xv_b (pu_sn (mv I) k a = true)))) I o) : Exm (d + 1) 132 [.inr (.inr (40, 0)), .inl (Int32.ofNat k), .inl a] I o Q := by
  have hq : ∀ c, xv_b (pu_sn (mv I) k a = true) = c → Q (some (.inl c)) I o := fun c e => e ▸ h
  have hi : ma_in (Int32.ofNat k) 9 := in_in (by omega) hk
  refine e_132 ?_
  rw [in_cl (by omega)]
  unfold pu_sn pu_sd pu_nw at hq
  simp only [mv_43, mv_44, mv_47, mv_48] at hq
  refine ⟨hi, hi, hi, h44, ?_, ?_⟩
  all_goals (repeat' first | exact hi | (intro _) | (apply And.intro))
  all_goals refine hq _ ?_
  all_goals first | (simp_all [xv_b]; done) | (simp_all [xv_b, Int32.lt_iff_toInt_lt, Int32.le_iff_toInt_le]; omega)
end MO1

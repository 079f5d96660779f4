/-! ===== order, back, oneMore ===== -/
section CAM
variable {d : Nat} {I : ma_I} {o : Nat} {Q : ma_Q}
theorem cl_order {a b c : Int32} (h : LW I) (hQ : ∀ (J1 : ma_I) (o1 : Nat) (x : Int32), (∀ i j, J1 1 i j = I 1 i j) → PR 126 [.inr (.inr (40, 0)), .inl a, .inl b, .inl c] I J1 x → Q (some (.inl x)) J1 o1) : Exm (d + 44) 65 [.inr (.inr (5, 0)), .inl a, .inl b, .inl c] I o Q := by
  have hl := h
  obtain ⟨⟨⟨hg, hR⟩, ⟨hs, hS⟩, hM, ⟨hp, hP⟩, ⟨hy, hY⟩⟩, hT⟩ := h
  refine e_65 (xs_66 hg hR (fun J1 f1 h6 hw => ⟨_, rfl, hQ J1 o _ (fun i j => fr_g f1 1 i j (by decide) (by decide) (by decide)) (fun d o' Q' hQ' => ?_)⟩))
  have e1 : mv J1 = mv I := mv_c1 f1 (by decide)
  refine mo_126 (by rw [e1]; exact hg) (fun J2 f2 e2 => ?_)
  have f : fr [24, 17, 6, 43, 44, 45, 46, 47, 48, 1004] I J2 := fr_trans (fr_mono f1 (by decide)) (fr_mono f2 (by decide))
  rw [e1] at e2 ⊢
  exact hQ' J2 (fun i j => fr_g f 1 i j (by decide) (by decide) (by decide)) ⟨⟨(by rw [e2]; exact ⟨st_iv hg, nW f2 (by decide) (by decide) (by decide) (by decide) (by decide) (by decide) hw⟩), kS f (by decide) (by decide) (by decide) (by decide) (by decide) ⟨hs, hS⟩, kM f (by decide) (by decide) (by decide) (by decide) (by decide) ((f2 6 0 1 (by decide)).trans (h6 1 (by decide))) hM, kP f (by decide) (by decide) (by decide) (by decide) ⟨hp, hP⟩, kI f (by decide) (by decide) (by decide) (by decide) (by decide) (by decide) (fun k _ _ => fr_g f 41 0 k (by decide) (by decide) (by decide)) (fun k _ hk => by rw [← mv_43 J2, e2, (st_order_f hg).1 k hk, mv_43]) (fun q => by unfold pu_nm0 at q ⊢; rw [mv_40_1 J2, f 40 0 1 (by decide), ← mv_40_1 I]; exact q) (fun q => by rw [e2]; exact Nat.le_trans q (st_order_f hg).2) (by rw [mv_40_13 J2, f 40 0 13 (by decide), ← mv_40_13 I]; exact Nat.le_refl _) hg ⟨hy, hY⟩⟩, kT f (by decide) (by decide) (by decide) hT⟩
theorem st_back_m {σ : ma_I} (q : (σ 60 0 1).toNatClampNeg ≤ pu_nm0 σ) : (σ 60 0 1).toNatClampNeg ≤ pu_nm0 (st_back σ) := by
  unfold st_back
  by_cases c : σ 40 0 42 ≠ 0
  · rw [if_pos c]
    show _ ≤ (pu_bk σ 40 0 1).toNatClampNeg
    rw [bk_n.2.1]
    exact Nat.le_refl _
  · rw [if_neg c]; exact q
theorem st_back_o {σ : ma_I} (q : (σ 60 0 2).toNatClampNeg ≤ pu_no σ) : (σ 60 0 2).toNatClampNeg ≤ pu_no (st_back σ) := by
  unfold st_back
  by_cases c : σ 40 0 42 ≠ 0
  · rw [if_pos c]
    show _ ≤ (pu_bk σ 40 0 4).toNatClampNeg
    rw [bk_n.2.2.1]
    exact Nat.le_refl _
  · rw [if_neg c]; exact q
theorem st_back_iv {σ : ma_I} (hg : iv_g σ) (hi : iv_i σ) : iv_g (st_back σ) := by
  unfold st_back
  by_cases c : σ 40 0 42 ≠ 0
  · rw [if_pos c]; exact bk_iv hg hi c
  · rw [if_neg c]; exact hg
theorem cl_back (h : LW I) (hQ : ∀ (J1 : ma_I) (o1 : Nat) (x : Int32), (∀ i j, J1 1 i j = I 1 i j) → PR 176 [.inr (.inr (40, 0))] I J1 x → Q (some (.inl x)) J1 o1) : Exm (d + 44) 104 [.inr (.inr (5, 0))] I o Q := by
  have hl := h
  obtain ⟨⟨⟨hg, hR⟩, ⟨hs, hS⟩, hM, ⟨hp, hP⟩, ⟨hy, hY⟩⟩, hT⟩ := h
  refine xs_104 hg hy hR hM hY (fun J1 f1 hw hm => hQ J1 o _ (fun i j => fr_g f1 1 i j (by decide) (by decide) (by decide)) (fun d o' Q' hQ' => ?_))
  have e1 : mv J1 = mv I := mv_c1 f1 (by decide)
  refine mo_176  (fun J2 f2 e2 => ?_)
  have f : fr [6, 14, 15, 17, 23, 24, 42, 44, 45, 46, 47, 48, 1000, 1001, 1004, 1014] I J2 := fr_trans (fr_mono f1 (by decide)) (fr_mono f2 (by decide))
  rw [e1] at e2 ⊢
  exact hQ' J2 (fun i j => fr_g f 1 i j (by decide) (by decide) (by decide)) ⟨⟨(by rw [e2]; exact ⟨st_back_iv hg hy, nW f2 (by decide) (by decide) (by decide) (by decide) (by decide) (by decide) hw⟩), kS f (by decide) (by decide) (by decide) (by decide) (by decide) ⟨hs, hS⟩, (by rw [e2]; exact nM f2 (by decide) (by decide) (f2 6 0 1 (by decide)) hm), kP f (by decide) (by decide) (by decide) (by decide) ⟨hp, hP⟩, kI f (by decide) (by decide) (by decide) (by decide) (by decide) (by decide) (fun k _ _ => fr_g f 41 0 k (by decide) (by decide) (by decide)) (fun k _ _ => fr_g f 43 0 k (by decide) (by decide) (by decide)) (fun q => by rw [e2]; exact st_back_m q) (fun q => by rw [e2]; exact st_back_o q) (by rw [mv_40_13 J2, f 40 0 13 (by decide), ← mv_40_13 I]; exact Nat.le_refl _) hg ⟨hy, hY⟩⟩, kT f (by decide) (by decide) (by decide) hT⟩
theorem cl_one {a b c : Int32} (h : LW I) (hQ : ∀ (J1 : ma_I) (o1 : Nat) (x : Int32), (∀ i j, J1 1 i j = I 1 i j) → PR 165 [.inr (.inr (40, 0)), .inl a, .inl b, .inl c] I J1 x → Q (some (.inl x)) J1 o1) : Exm (d + 44) 88 [.inr (.inr (5, 0)), .inl a, .inl b, .inl c] I o Q := by
  have hl := h
  obtain ⟨⟨⟨hg, hR⟩, ⟨hs, hS⟩, hM, ⟨hp, hP⟩, ⟨hy, hY⟩⟩, hT⟩ := h
  refine xs_88 hg hR (fun J1 f1 hw => hQ J1 o _ (fun i j => fr_g f1 1 i j (by decide) (by decide) (by decide)) (fun d o' Q' hQ' => ?_))
  have e1 : mv J1 = mv I := mv_c1 f1 (by decide)
  refine mo_165 (by rw [e1]; exact hg) (fun J2 f2 => ?_)
  rw [e1] at f2 ⊢
  have f3 : fr [56, 57, 58, 1033, 1034, 1035, 1036, 1037, 43, 44, 45, 46, 47, 48] J1 J2 := by
    intro g i j hc
    refine f2 g i j (fun q => hc ?_) (fun q => hc ?_)
    · exact (by decide : ∀ c ∈ fr_go, c ∈ [56, 57, 58, 1033, 1034, 1035, 1036, 1037, 43, 44, 45, 46, 47, 48]) _ q
    · rcases q.1 with e | e | e | e | e | e <;> subst e <;> rw [cl_g (by decide) (by decide)] <;> decide
  have f : fr [24, 17, 10, 32, 22, 26, 56, 57, 58, 1033, 1034, 1035, 1036, 1037, 43, 44, 45, 46, 47, 48] I J2 := fr_trans (fr_mono f1 (by decide)) (fr_mono f3 (by decide))
  have q1 : mv J2 40 0 1 = mv I 40 0 1 := by rw [mv_40_1, mv_40_1]; exact f 40 0 1 (by decide)
  have q4 : mv J2 40 0 4 = mv I 40 0 4 := by rw [mv_40_4, mv_40_4]; exact f 40 0 4 (by decide)
  have q13 : mv J2 40 0 13 = mv I 40 0 13 := by rw [mv_40_13, mv_40_13]; exact f 40 0 13 (by decide)
  have oc : ∀ (g k : Nat), (g = 43 ∨ g = 44 ∨ g = 45 ∨ g = 46 ∨ g = 47 ∨ g = 48) → k < pu_no (mv I) → J2 g 0 k = I g 0 k := by
    intro g k hg k1
    have hc1 : cl_c g k ∉ fr_go := by rcases hg with e | e | e | e | e | e <;> subst e <;> rw [cl_g (by decide) (by decide)] <;> decide
    have hc2 : cl_c g k ∉ fr_kd := by rcases hg with e | e | e | e | e | e <;> subst e <;> rw [cl_g (by decide) (by decide)] <;> decide
    exact (f2 g 0 k hc1 (fun q => by omega)).trans (f1 g 0 k hc2)
  refine hQ' J2 (fun i j => fr_g f 1 i j (by decide) (by decide) (by decide)) ⟨⟨gW (σ := mv I) ?_ q1 ?_ ?_ q4 ?_ q13 ?_ ?_ ?_ ⟨hg, nW f3 (by decide) (by decide) (by decide) (by decide) (by decide) (by decide) hw⟩, kS f (by decide) (by decide) (by decide) (by decide) (by decide) ⟨hs, hS⟩, kM f (by decide) (by decide) (by decide) (by decide) (by decide) (f 6 0 1 (by decide)) hM, kP f (by decide) (by decide) (by decide) (by decide) ⟨hp, hP⟩, kI f (by decide) (by decide) (by decide) (by decide) (by decide) (by decide) (fun k _ _ => fr_g f 41 0 k (by decide) (by decide) (by decide)) (fun k _ hk => oc 43 k (Or.inl rfl) hk) (fun q => by unfold pu_nm0 at q ⊢; rw [q1]; exact q) (fun q => by unfold pu_no at q ⊢; rw [q4]; exact q) (by rw [q13]; exact Nat.le_refl _) hg ⟨hy, hY⟩⟩, kT f (by decide) (by decide) (by decide) hT⟩
  · rw [mv_40_0, mv_40_0]; exact f 40 0 0 (by decide)
  · intro k; rw [mv_41, mv_41]; exact fr_g f 41 0 k (by decide) (by decide) (by decide)
  · intro k; rw [mv_42, mv_42]; exact fr_g f 42 0 k (by decide) (by decide) (by decide)
  · intro k hk
    unfold o_same
    rw [mv_43, mv_43, mv_44, mv_44, mv_45, mv_45, mv_46, mv_46, mv_47, mv_47, mv_48, mv_48]
    exact ⟨oc 43 k (by simp) hk, oc 44 k (by simp) hk, oc 45 k (by simp) hk, oc 46 k (by simp) hk, oc 47 k (by simp) hk, oc 48 k (by simp) hk⟩
  · rw [mv_40_14, mv_40_14]; exact f 40 0 14 (by decide)
  · intro k; rw [mv_50, mv_50]; exact fr_g f 50 0 k (by decide) (by decide) (by decide)
  · intro k; rw [mv_51, mv_51]; exact fr_g f 51 0 k (by decide) (by decide) (by decide)
end CAM

/-! ===== the calls, one by one: the class's, then the reference's ===== -/
theorem LW_fr {I J : ma_I} {l : List Nat} (h : LW I) (f : fr l I J) (hl : ∀ c ∈ l, c ∈ cl_s) : LW J := by
  obtain ⟨h1, h2⟩ := h
  refine ⟨?_, kT f (fun q => absurd (hl 3 q) (by decide)) (fun q => absurd (hl 52 q) (by decide)) (fun q => absurd (hl 53 q) (by decide)) h2⟩
  rw [mv_fr f hl]
  unfold RX
  rw [sv_fr f hl]
  exact h1
section CAL
variable {d : Nat} {I : ma_I} {o : Nat} {Q : ma_Q}
theorem cl_told {a b : Int32} (h : LW I) (hQ : ∀ (J1 : ma_I) (o1 : Nat) (x : Int32), (∀ i j, J1 1 i j = I 1 i j) → PR 127 [.inr (.inr (40, 0)), .inl a, .inl b] I J1 x → Q (some (.inl x)) J1 o1) : Exm (d + 44) 69 [.inr (.inr (5, 0)), .inl a, .inl b] I o Q := by
  have hl := h
  obtain ⟨⟨⟨hg, hR⟩, ⟨hs, hS⟩, hM, ⟨hp, hP⟩, ⟨hy, hY⟩⟩, hT⟩ := h
  exact xs_69 hg hR hM (hQ I o _ (fun _ _ => rfl) (fun d o' Q' hQ' => mo_127 hg (hQ' I (fun _ _ => rfl) hl)))
theorem cl_lives {a : Int32} (h : LW I) (hQ : ∀ (J1 : ma_I) (o1 : Nat) (x : Int32), (∀ i j, J1 1 i j = I 1 i j) → PR 131 [.inr (.inr (40, 0)), .inl a] I J1 x → Q (some (.inl x)) J1 o1) : Exm (d + 44) 70 [.inr (.inr (5, 0)), .inl a] I o Q := by
  have hl := h
  obtain ⟨⟨⟨hg, hR⟩, ⟨hs, hS⟩, hM, ⟨hp, hP⟩, ⟨hy, hY⟩⟩, hT⟩ := h
  exact xs_70 hR (hQ I o _ (fun _ _ => rfl) (fun d o' Q' hQ' => mo_131 hg.2.1 (hQ' I (fun _ _ => rfl) hl)))
theorem cl_count {a : Int32} (h : LW I) (hQ : ∀ (J1 : ma_I) (o1 : Nat) (x : Int32), (∀ i j, J1 1 i j = I 1 i j) → PR 177 [.inr (.inr (40, 0)), .inl a] I J1 x → Q (some (.inl x)) J1 o1) : Exm (d + 44) 105 [.inr (.inr (5, 0)), .inl a] I o Q := by
  have hl := h
  obtain ⟨⟨⟨hg, hR⟩, ⟨hs, hS⟩, hM, ⟨hp, hP⟩, ⟨hy, hY⟩⟩, hT⟩ := h
  exact xs_105 hR hM hP (hQ I o _ (fun _ _ => rfl) (fun d o' Q' hQ' => mo_177  (hQ' I (fun _ _ => rfl) hl)))
theorem cl_taken {a b : Int32} (h : LW I) (hQ : ∀ (J1 : ma_I) (o1 : Nat) (x : Int32), (∀ i j, J1 1 i j = I 1 i j) → PR 183 [.inr (.inr (40, 0)), .inl a, .inl b] I J1 x → Q (some (.inl x)) J1 o1) : Exm (d + 44) 110 [.inr (.inr (5, 0)), .inl a, .inl b] I o Q := by
  have hl := h
  obtain ⟨⟨⟨hg, hR⟩, ⟨hs, hS⟩, hM, ⟨hp, hP⟩, ⟨hy, hY⟩⟩, hT⟩ := h
  exact xs_110 hg hR (hQ I o _ (fun _ _ => rfl) (fun d o' Q' hQ' => mo_183 hg (hQ' I (fun _ _ => rfl) hl)))
theorem cl_sends {a b c : Int32} (h : LW I) (hQ : ∀ (J1 : ma_I) (o1 : Nat) (x : Int32), (∀ i j, J1 1 i j = I 1 i j) → PR 135 [.inr (.inr (40, 0)), .inl a, .inl b, .inl c] I J1 x → Q (some (.inl x)) J1 o1) : Exm (d + 44) 71 [.inr (.inr (5, 0)), .inl a, .inl b, .inl c] I o Q := by
  have hl := h
  obtain ⟨⟨⟨hg, hR⟩, ⟨hs, hS⟩, hM, ⟨hp, hP⟩, ⟨hy, hY⟩⟩, hT⟩ := h
  refine xs_71 hg hR (fun J1 f1 => hQ J1 o _ (fun i j => fr_g f1 1 i j (by decide) (by decide) (by decide)) (fun d o' Q' hQ' => ?_))
  have e1 : mv J1 = mv I := mv_fr f1 (by decide)
  have h1 := LW_fr hl f1 (by decide)
  refine mo_135 h1.1.1.1 (fun J2 f2 => ?_)
  rw [e1]
  exact hQ' J2 (fun i j => by rw [fr_g f2 1 i j (by decide) (by decide) (by decide), fr_g f1 1 i j (by decide) (by decide) (by decide)]) (LW_fr h1 f2 (by decide))
theorem cl_letter {a b c : Int32} (h : LW I) (hQ : ∀ (J1 : ma_I) (o1 : Nat) (x : Int32), (∀ i j, J1 1 i j = I 1 i j) → PR 160 [.inr (.inr (40, 0)), .inl a, .inl b, .inl c] I J1 x → Q (some (.inl x)) J1 o1) : Exm (d + 44) 75 [.inr (.inr (5, 0)), .inl a, .inl b, .inl c] I o Q := by
  have hl := h
  obtain ⟨⟨⟨hg, hR⟩, ⟨hs, hS⟩, hM, ⟨hp, hP⟩, ⟨hy, hY⟩⟩, hT⟩ := h
  refine xs_75 hg hR (fun J1 f1 => hQ J1 o _ (fun i j => fr_g f1 1 i j (by decide) (by decide) (by decide)) (fun d o' Q' hQ' => ?_))
  have e1 : mv J1 = mv I := mv_fr f1 (by decide)
  have h1 := LW_fr hl f1 (by decide)
  refine mo_160 h1.1.1.1 (fun J2 f2 => ?_)
  rw [e1]
  exact hQ' J2 (fun i j => by rw [fr_g f2 1 i j (by decide) (by decide) (by decide), fr_g f1 1 i j (by decide) (by decide) (by decide)]) (LW_fr h1 f2 (by decide))
theorem cl_reaches {a b : Int32} (h : LW I) (hQ : ∀ (J1 : ma_I) (o1 : Nat) (x : Int32), (∀ i j, J1 1 i j = I 1 i j) → PR 162 [.inr (.inr (40, 0)), .inl a, .inl b] I J1 x → Q (some (.inl x)) J1 o1) : Exm (d + 44) 76 [.inr (.inr (5, 0)), .inl a, .inl b] I o Q := by
  have hl := h
  obtain ⟨⟨⟨hg, hR⟩, ⟨hs, hS⟩, hM, ⟨hp, hP⟩, ⟨hy, hY⟩⟩, hT⟩ := h
  refine xs_76 hg hR (fun J1 f1 => hQ J1 o _ (fun i j => fr_g f1 1 i j (by decide) (by decide) (by decide)) (fun d o' Q' hQ' => ?_))
  have e1 : mv J1 = mv I := mv_fr f1 (by decide)
  have h1 := LW_fr hl f1 (by decide)
  refine mo_162 h1.1.1.1 (fun J2 f2 => ?_)
  rw [e1]
  exact hQ' J2 (fun i j => by rw [fr_g f2 1 i j (by decide) (by decide) (by decide), fr_g f1 1 i j (by decide) (by decide) (by decide)]) (LW_fr h1 f2 (by decide))
theorem cl_needless {a b : Int32} (h : LW I) (hQ : ∀ (J1 : ma_I) (o1 : Nat) (x : Int32), (∀ i j, J1 1 i j = I 1 i j) → PR 164 [.inr (.inr (40, 0)), .inl a, .inl b] I J1 x → Q (some (.inl x)) J1 o1) : Exm (d + 44) 84 [.inr (.inr (5, 0)), .inl a, .inl b] I o Q := by
  have hl := h
  obtain ⟨⟨⟨hg, hR⟩, ⟨hs, hS⟩, hM, ⟨hp, hP⟩, ⟨hy, hY⟩⟩, hT⟩ := h
  refine xs_84 hg hR (fun J1 f1 => hQ J1 o _ (fun i j => fr_g f1 1 i j (by decide) (by decide) (by decide)) (fun d o' Q' hQ' => ?_))
  have e1 : mv J1 = mv I := mv_fr f1 (by decide)
  have h1 := LW_fr hl f1 (by decide)
  refine mo_164 h1.1.1.1 (fun J2 f2 => ?_)
  rw [e1]
  exact hQ' J2 (fun i j => by rw [fr_g f2 1 i j (by decide) (by decide) (by decide), fr_g f1 1 i j (by decide) (by decide) (by decide)]) (LW_fr h1 f2 (by decide))
theorem cl_thicker {a : Int32} (h : LW I) (hQ : ∀ (J1 : ma_I) (o1 : Nat) (x : Int32), (∀ i j, J1 1 i j = I 1 i j) → PR 166 [.inr (.inr (40, 0)), .inl a] I J1 x → Q (some (.inl x)) J1 o1) : Exm (d + 44) 90 [.inr (.inr (5, 0)), .inl a] I o Q := by
  have hl := h
  obtain ⟨⟨⟨hg, hR⟩, ⟨hs, hS⟩, hM, ⟨hp, hP⟩, ⟨hy, hY⟩⟩, hT⟩ := h
  refine xs_90 hg hR (fun J1 f1 => hQ J1 o _ (fun i j => fr_g f1 1 i j (by decide) (by decide) (by decide)) (fun d o' Q' hQ' => ?_))
  have e1 : mv J1 = mv I := mv_fr f1 (by decide)
  have h1 := LW_fr hl f1 (by decide)
  refine mo_166 h1.1.1.1 (fun J2 f2 => ?_)
  rw [e1]
  exact hQ' J2 (fun i j => by rw [fr_g f2 1 i j (by decide) (by decide) (by decide), fr_g f1 1 i j (by decide) (by decide) (by decide)]) (LW_fr h1 f2 (by decide))
theorem cl_drawn {a b : Int32} (h : LW I) (hQ : ∀ (J1 : ma_I) (o1 : Nat) (x : Int32), (∀ i j, J1 1 i j = I 1 i j) → PR 171 [.inr (.inr (40, 0)), .inl a, .inl b] I J1 x → Q (some (.inl x)) J1 o1) : Exm (d + 44) 99 [.inr (.inr (5, 0)), .inl a, .inl b] I o Q := by
  have hl := h
  obtain ⟨⟨⟨hg, hR⟩, ⟨hs, hS⟩, hM, ⟨hp, hP⟩, ⟨hy, hY⟩⟩, hT⟩ := h
  refine xs_99 hg hR (fun J1 f1 => hQ J1 o _ (fun i j => fr_g f1 1 i j (by decide) (by decide) (by decide)) (fun d o' Q' hQ' => ?_))
  have e1 : mv J1 = mv I := mv_fr f1 (by decide)
  have h1 := LW_fr hl f1 (by decide)
  refine mo_171 h1.1.1.1 (fun J2 f2 => ?_)
  rw [e1]
  exact hQ' J2 (fun i j => by rw [fr_g f2 1 i j (by decide) (by decide) (by decide), fr_g f1 1 i j (by decide) (by decide) (by decide)]) (LW_fr h1 f2 (by decide))
def PL (y : Nat) (args : List ma_V) (I J1 : ma_I) (x : Int64) : Prop := ∀ (d o' : Nat) (Q' : ma_Q), (∀ J2, (∀ i j, J2 1 i j = I 1 i j) → LW J2 → Q' (some (.inr (.inl x))) J2 o') → Exm (d + 6) y args J1 o' Q'
theorem cl_chance {a b c e g : Int32} (h : LW I) (hQ : ∀ (J1 : ma_I) (o1 : Nat) (x : Int64), (∀ i j, J1 1 i j = I 1 i j) → PL 173 [.inr (.inr (40, 0)), .inl a, .inl b, .inl c, .inl e, .inl g] I J1 x → Q (some (.inr (.inl x))) J1 o1) : Exm (d + 44) 101 [.inr (.inr (5, 0)), .inl a, .inl b, .inl c, .inl e, .inl g] I o Q := by
  have hl := h
  obtain ⟨⟨⟨hg, hR⟩, ⟨hs, hS⟩, hM, ⟨hp, hP⟩, ⟨hy, hY⟩⟩, hT⟩ := h
  refine xs_101 hg hR (fun J1 f1 => hQ J1 o _ (fun i j => fr_g f1 1 i j (by decide) (by decide) (by decide)) (fun d o' Q' hQ' => ?_))
  have e1 : mv J1 = mv I := mv_fr f1 (by decide)
  have h1 := LW_fr hl f1 (by decide)
  refine mo_173 h1.1.1.1 (fun J2 f2 => ?_)
  rw [e1]
  exact hQ' J2 (fun i j => by rw [fr_g f2 1 i j (by decide) (by decide) (by decide), fr_g f1 1 i j (by decide) (by decide) (by decide)]) (LW_fr h1 f2 (by decide))
theorem cl_covers {a b : Int32} (h : LW I) (hQ : ∀ (J1 : ma_I) (o1 : Nat) (x : Int32), (∀ i j, J1 1 i j = I 1 i j) → PR 168 [.inr (.inr (40, 0)), .inl a, .inl b] I J1 x → Q (some (.inl x)) J1 o1) : Exm (d + 44) 91 [.inr (.inr (5, 0)), .inl a, .inl b] I o Q := by
  have hl := h
  obtain ⟨⟨⟨hg, hR⟩, ⟨hs, hS⟩, hM, ⟨hp, hP⟩, ⟨hy, hY⟩⟩, hT⟩ := h
  refine xs_91 hg hR hs hS (fun J1 f1 hw => hQ J1 o _ (fun i j => fr_g f1 1 i j (by decide) (by decide) (by decide)) (fun d o' Q' hQ' => ?_))
  have e1 : mv J1 = mv I := mv_c1 f1 (by decide)
  refine mo_168 (by rw [e1]; exact hg) (by rw [e1]; exact hs) (fun J2 f2 => ?_)
  have f : fr [24, 17, 10, 32, 22, 26, 56, 57, 58, 1033, 1034, 1035, 1036, 1037, 1039, 1040, 1041] I J2 := fr_trans (fr_mono f1 (by decide)) (fr_mono f2 (by decide))
  rw [e1]
  have e3 : mv J2 = mv I := (mv_fr f2 (by decide)).trans e1
  exact hQ' J2 (fun i j => fr_g f 1 i j (by decide) (by decide) (by decide)) ⟨⟨(by rw [e3]; exact ⟨hg, nW f2 (by decide) (by decide) (by decide) (by decide) (by decide) (by decide) hw⟩), kS f (by decide) (by decide) (by decide) (by decide) (by decide) ⟨hs, hS⟩, kM f (by decide) (by decide) (by decide) (by decide) (by decide) (f 6 0 1 (by decide)) hM, kP f (by decide) (by decide) (by decide) (by decide) ⟨hp, hP⟩, kI0 f (by decide) (by decide) (by decide) (by decide) (by decide) (by decide) (by decide) (by decide) (by decide) (by decide) (by decide) hg ⟨hy, hY⟩⟩, kT f (by decide) (by decide) (by decide) hT⟩
theorem cl_move {a b : Int32} (h : LW I) (hQ : ∀ (J1 : ma_I) (o1 : Nat) (x : Int32), (∀ i j, J1 1 i j = I 1 i j) → PR 124 [.inr (.inr (40, 0)), .inl a, .inl b] I J1 x → Q (some (.inl x)) J1 o1) : Exm (d + 44) 64 [.inr (.inr (5, 0)), .inl a, .inl b] I o Q := by
  have hl := h
  obtain ⟨⟨⟨hg, hR⟩, ⟨hs, hS⟩, hM, ⟨hp, hP⟩, ⟨hy, hY⟩⟩, hT⟩ := h
  refine xs_64 hg hR hM (fun J1 f1 h6 hw hm => hQ J1 o _ (fun i j => fr_g f1 1 i j (by decide) (by decide) (by decide)) (fun d o' Q' hQ' => ?_))
  have e1 : mv J1 = mv I := mv_c1 f1 (by decide)
  refine mo_124 (by rw [e1]; exact hg) (fun J2 f2 e2 => ?_)
  have f : fr [23, 14, 15, 6, 41, 42, 1001] I J2 := fr_trans (fr_mono f1 (by decide)) (fr_mono f2 (by decide))
  rw [e1] at e2 ⊢
  exact hQ' J2 (fun i j => fr_g f 1 i j (by decide) (by decide) (by decide)) ⟨⟨(by rw [e2]; exact ⟨st_move_iv hg, nW f2 (by decide) (by decide) (by decide) (by decide) (by decide) (by decide) hw⟩), kS f (by decide) (by decide) (by decide) (by decide) (by decide) ⟨hs, hS⟩, (by rw [e2]; exact nM f2 (by decide) (by decide) (f2 6 0 1 (by decide)) hm), kP f (by decide) (by decide) (by decide) (by decide) ⟨hp, hP⟩, kI f (by decide) (by decide) (by decide) (by decide) (by decide) (by decide) (fun k _ hk => by rw [← mv_41 J2, e2, (st_move_f hg).1 k hk, mv_41]) (fun k _ _ => fr_g f 43 0 k (by decide) (by decide) (by decide)) (fun q => by rw [e2]; exact Nat.le_trans q (st_move_f hg).2) (fun q => by unfold pu_no at q ⊢; rw [mv_40_4 J2, f 40 0 4 (by decide), ← mv_40_4 I]; exact q) (by rw [mv_40_13 J2, f 40 0 13 (by decide), ← mv_40_13 I]; exact Nat.le_refl _) hg ⟨hy, hY⟩⟩, kT f (by decide) (by decide) (by decide) hT⟩
theorem cl_set {a b c : Int32} (h : LW I) (hQ : ∀ (J1 : ma_I) (o1 : Nat) (x : Int32), (∀ i j, J1 1 i j = I 1 i j) → PR 129 [.inr (.inr (40, 0)), .inl a, .inl b, .inl c] I J1 x → Q (some (.inl x)) J1 o1) : Exm (d + 44) 67 [.inr (.inr (5, 0)), .inl a, .inl b, .inl c] I o Q := by
  have hl := h
  obtain ⟨⟨⟨hg, hR⟩, ⟨hs, hS⟩, hM, ⟨hp, hP⟩, ⟨hy, hY⟩⟩, hT⟩ := h
  refine xs_67 hg hR hM (fun J1 f1 h6 hw hm => hQ J1 o _ (fun i j => fr_g f1 1 i j (by decide) (by decide) (by decide)) (fun d o' Q' hQ' => ?_))
  have e1 : mv J1 = mv I := mv_c1 f1 (by decide)
  refine mo_129 (by rw [e1]; exact hg) (fun J2 f2 e2 => ?_)
  have f : fr [24, 17, 23, 15, 6, 44, 45, 46, 47, 48, 42, 1000] I J2 := fr_trans (fr_mono f1 (by decide)) (fr_mono f2 (by decide))
  rw [e1] at e2 ⊢
  exact hQ' J2 (fun i j => fr_g f 1 i j (by decide) (by decide) (by decide)) ⟨⟨(by rw [e2]; exact ⟨st_set_iv hg, nW f2 (by decide) (by decide) (by decide) (by decide) (by decide) (by decide) hw⟩), kS f (by decide) (by decide) (by decide) (by decide) (by decide) ⟨hs, hS⟩, (by rw [e2]; exact nM f2 (by decide) (by decide) (f2 6 0 1 (by decide)) hm), kP f (by decide) (by decide) (by decide) (by decide) ⟨hp, hP⟩, kI0 f (by decide) (by decide) (by decide) (by decide) (by decide) (by decide) (by decide) (by decide) (by decide) (by decide) (by decide) hg ⟨hy, hY⟩⟩, kT f (by decide) (by decide) (by decide) hT⟩
theorem cl_force {a : Int32} (h : LW I) (hQ : ∀ (J1 : ma_I) (o1 : Nat) (x : Int32), (∀ i j, J1 1 i j = I 1 i j) → PR 154 [.inr (.inr (40, 0)), .inl a] I J1 x → Q (some (.inl x)) J1 o1) : Exm (d + 44) 74 [.inr (.inr (5, 0)), .inl a] I o Q := by
  have hl := h
  obtain ⟨⟨⟨hg, hR⟩, ⟨hs, hS⟩, hM, ⟨hp, hP⟩, ⟨hy, hY⟩⟩, hT⟩ := h
  refine xs_74 hg hR (fun J1 f1 h6 hw => hQ J1 o _ (fun i j => fr_g f1 1 i j (by decide) (by decide) (by decide)) (fun d o' Q' hQ' => ?_))
  have e1 : mv J1 = mv I := mv_c1 f1 (by decide)
  refine mo_154  (fun J2 f2 e2 => ?_)
  have f : fr [6, 1014] I J2 := fr_trans (fr_mono f1 (by decide)) (fr_mono f2 (by decide))
  rw [e1] at e2 ⊢
  exact hQ' J2 (fun i j => fr_g f 1 i j (by decide) (by decide) (by decide)) ⟨⟨(by rw [e2]; exact ⟨st_force_iv hg, nW f2 (by decide) (by decide) (by decide) (by decide) (by decide) (by decide) hw⟩), kS f (by decide) (by decide) (by decide) (by decide) (by decide) ⟨hs, hS⟩, kM f (by decide) (by decide) (by decide) (by decide) (by decide) ((f2 6 0 1 (by decide)).trans (h6 1 (by decide))) hM, kP f (by decide) (by decide) (by decide) (by decide) ⟨hp, hP⟩, kI0 f (by decide) (by decide) (by decide) (by decide) (by decide) (by decide) (by decide) (by decide) (by decide) (by decide) (by decide) hg ⟨hy, hY⟩⟩, kT f (by decide) (by decide) (by decide) hT⟩
theorem cl_film {a b c : Int32} (h : LW I) (hQ : ∀ (J1 : ma_I) (o1 : Nat) (x : Int32), (∀ i j, J1 1 i j = I 1 i j) → PR 169 [.inr (.inr (40, 0)), .inl a, .inl b, .inl c] I J1 x → Q (some (.inl x)) J1 o1) : Exm (d + 44) 98 [.inr (.inr (5, 0)), .inl a, .inl b, .inl c] I o Q := by
  have hl := h
  obtain ⟨⟨⟨hg, hR⟩, ⟨hs, hS⟩, hM, ⟨hp, hP⟩, ⟨hy, hY⟩⟩, hT⟩ := h
  refine xs_98 hg hR hS (fun J1 f1 hs1 => hQ J1 o _ (fun i j => fr_g f1 1 i j (by decide) (by decide) (by decide)) (fun d o' Q' hQ' => ?_))
  have e1 : mv J1 = mv I := mv_c1 f1 (by decide)
  refine mo_169 (by rw [e1]; exact hg) (fun J2 f2 e2 => ?_)
  have f : fr [12, 13, 10, 32, 22, 26, 61, 62, 63, 56, 57, 58, 1033, 1034, 1035, 1036, 1037] I J2 := fr_trans (fr_mono f1 (by decide)) (fr_mono f2 (by decide))
  rw [e1] at e2 ⊢
  exact hQ' J2 (fun i j => fr_g f 1 i j (by decide) (by decide) (by decide)) ⟨⟨kW f (by decide) (by decide) (by decide) (by decide) (by decide) (by decide) (by decide) (by decide) (by decide) (by decide) (by decide) (by decide) (by decide) (by decide) (by decide) (by decide) (by decide) (by decide) (by decide) (by decide) (by decide) ⟨hg, hR⟩, (by rw [e2]; exact ⟨st_film_iv hs, nS f2 (by decide) (by decide) hs1⟩), kM f (by decide) (by decide) (by decide) (by decide) (by decide) (f 6 0 1 (by decide)) hM, kP f (by decide) (by decide) (by decide) (by decide) ⟨hp, hP⟩, kI0 f (by decide) (by decide) (by decide) (by decide) (by decide) (by decide) (by decide) (by decide) (by decide) (by decide) (by decide) hg ⟨hy, hY⟩⟩, kT f (by decide) (by decide) (by decide) hT⟩
theorem cl_sheet {a b c : Int32} (h : LW I) (hQ : ∀ (J1 : ma_I) (o1 : Nat) (x : Int32), (∀ i j, J1 1 i j = I 1 i j) → PR 179 [.inr (.inr (40, 0)), .inl a, .inl b, .inl c] I J1 x → Q (some (.inl x)) J1 o1) : Exm (d + 44) 106 [.inr (.inr (5, 0)), .inl a, .inl b, .inl c] I o Q := by
  have hl := h
  obtain ⟨⟨⟨hg, hR⟩, ⟨hs, hS⟩, hM, ⟨hp, hP⟩, ⟨hy, hY⟩⟩, hT⟩ := h
  refine xs_106 hS (fun J1 f1 hs1 => hQ J1 o _ (fun i j => fr_g f1 1 i j (by decide) (by decide) (by decide)) (fun d o' Q' hQ' => ?_))
  have e1 : mv J1 = mv I := mv_c1 f1 (by decide)
  refine mo_179  (fun J2 f2 e2 => ?_)
  have f : fr [12, 13, 61, 62, 63] I J2 := fr_trans (fr_mono f1 (by decide)) (fr_mono f2 (by decide))
  rw [e1] at e2
  exact hQ' J2 (fun i j => fr_g f 1 i j (by decide) (by decide) (by decide)) ⟨⟨kW f (by decide) (by decide) (by decide) (by decide) (by decide) (by decide) (by decide) (by decide) (by decide) (by decide) (by decide) (by decide) (by decide) (by decide) (by decide) (by decide) (by decide) (by decide) (by decide) (by decide) (by decide) ⟨hg, hR⟩, (by rw [e2]; exact ⟨st_sheet_iv hs, nS f2 (by decide) (by decide) hs1⟩), kM f (by decide) (by decide) (by decide) (by decide) (by decide) (f 6 0 1 (by decide)) hM, kP f (by decide) (by decide) (by decide) (by decide) ⟨hp, hP⟩, kI0 f (by decide) (by decide) (by decide) (by decide) (by decide) (by decide) (by decide) (by decide) (by decide) (by decide) (by decide) hg ⟨hy, hY⟩⟩, kT f (by decide) (by decide) (by decide) hT⟩
theorem cl_cell {a b c : Int32} (h : LW I) (hQ : ∀ (J1 : ma_I) (o1 : Nat) (x : Int32), (∀ i j, J1 1 i j = I 1 i j) → PR 180 [.inr (.inr (40, 0)), .inl a, .inl b, .inl c] I J1 x → Q (some (.inl x)) J1 o1) : Exm (d + 44) 107 [.inr (.inr (5, 0)), .inl a, .inl b, .inl c] I o Q := by
  have hl := h
  obtain ⟨⟨⟨hg, hR⟩, ⟨hs, hS⟩, hM, ⟨hp, hP⟩, ⟨hy, hY⟩⟩, hT⟩ := h
  refine xs_107 hs hS (fun J1 f1 hs1 => hQ J1 o _ (fun i j => fr_g f1 1 i j (by decide) (by decide) (by decide)) (fun d o' Q' hQ' => ?_))
  have e1 : mv J1 = mv I := mv_c1 f1 (by decide)
  refine mo_180 (by rw [e1]; exact hs) (fun J2 f2 e2 => ?_)
  have f : fr [12, 13, 63] I J2 := fr_trans (fr_mono f1 (by decide)) (fr_mono f2 (by decide))
  rw [e1] at e2 ⊢
  exact hQ' J2 (fun i j => fr_g f 1 i j (by decide) (by decide) (by decide)) ⟨⟨kW f (by decide) (by decide) (by decide) (by decide) (by decide) (by decide) (by decide) (by decide) (by decide) (by decide) (by decide) (by decide) (by decide) (by decide) (by decide) (by decide) (by decide) (by decide) (by decide) (by decide) (by decide) ⟨hg, hR⟩, (by rw [e2]; exact ⟨st_cell_iv hs, nS f2 (by decide) (by decide) hs1⟩), kM f (by decide) (by decide) (by decide) (by decide) (by decide) (f 6 0 1 (by decide)) hM, kP f (by decide) (by decide) (by decide) (by decide) ⟨hp, hP⟩, kI0 f (by decide) (by decide) (by decide) (by decide) (by decide) (by decide) (by decide) (by decide) (by decide) (by decide) (by decide) hg ⟨hy, hY⟩⟩, kT f (by decide) (by decide) (by decide) hT⟩
theorem cl_copy {a b c e g : Int32} (h : LW I) (hQ : ∀ (J1 : ma_I) (o1 : Nat) (x : Int32), (∀ i j, J1 1 i j = I 1 i j) → PR 181 [.inr (.inr (40, 0)), .inl a, .inl b, .inl c, .inl e, .inl g] I J1 x → Q (some (.inl x)) J1 o1) : Exm (d + 44) 108 [.inr (.inr (5, 0)), .inl a, .inl b, .inl c, .inl e, .inl g] I o Q := by
  have hl := h
  obtain ⟨⟨⟨hg, hR⟩, ⟨hs, hS⟩, hM, ⟨hp, hP⟩, ⟨hy, hY⟩⟩, hT⟩ := h
  refine xs_108 hs hS (fun J1 f1 hs1 => hQ J1 o _ (fun i j => fr_g f1 1 i j (by decide) (by decide) (by decide)) (fun d o' Q' hQ' => ?_))
  have e1 : mv J1 = mv I := mv_c1 f1 (by decide)
  refine mo_181 (by rw [e1]; exact hs) (fun J2 f2 e2 => ?_)
  have f : fr [12, 13, 63, 64] I J2 := fr_trans (fr_mono f1 (by decide)) (fr_mono f2 (by decide))
  rw [e1] at e2 ⊢
  exact hQ' J2 (fun i j => fr_g f 1 i j (by decide) (by decide) (by decide)) ⟨⟨kW f (by decide) (by decide) (by decide) (by decide) (by decide) (by decide) (by decide) (by decide) (by decide) (by decide) (by decide) (by decide) (by decide) (by decide) (by decide) (by decide) (by decide) (by decide) (by decide) (by decide) (by decide) ⟨hg, hR⟩, (by rw [e2]; exact ⟨st_copy_iv hs, nS f2 (by decide) (by decide) hs1⟩), kM f (by decide) (by decide) (by decide) (by decide) (by decide) (f 6 0 1 (by decide)) hM, kP f (by decide) (by decide) (by decide) (by decide) ⟨hp, hP⟩, kI0 f (by decide) (by decide) (by decide) (by decide) (by decide) (by decide) (by decide) (by decide) (by decide) (by decide) (by decide) hg ⟨hy, hY⟩⟩, kT f (by decide) (by decide) (by decide) hT⟩
theorem cl_orders {a b c e : Int32} (h : LW I) (hQ : ∀ (J1 : ma_I) (o1 : Nat) (x : Int32), (∀ i j, J1 1 i j = I 1 i j) → PR 182 [.inr (.inr (40, 0)), .inl a, .inl b, .inl c, .inl e] I J1 x → Q (some (.inl x)) J1 o1) : Exm (d + 44) 109 [.inr (.inr (5, 0)), .inl a, .inl b, .inl c, .inl e] I o Q := by
  have hl := h
  obtain ⟨⟨⟨hg, hR⟩, ⟨hs, hS⟩, hM, ⟨hp, hP⟩, ⟨hy, hY⟩⟩, hT⟩ := h
  refine xs_109 hg hs hR hS (fun J1 f1 h6 hw => hQ J1 o _ (fun i j => fr_g f1 1 i j (by decide) (by decide) (by decide)) (fun d o' Q' hQ' => ?_))
  have e1 : mv J1 = mv I := mv_c1 f1 (by decide)
  refine mo_182 (by rw [e1]; exact hg) (by rw [e1]; exact hs) (fun J2 f2 e2 => ?_)
  have f : fr [24, 17, 6, 43, 44, 45, 46, 47, 48, 1004] I J2 := fr_trans (fr_mono f1 (by decide)) (fr_mono f2 (by decide))
  rw [e1] at e2 ⊢
  exact hQ' J2 (fun i j => fr_g f 1 i j (by decide) (by decide) (by decide)) ⟨⟨(by rw [e2]; exact ⟨st_orders_iv hg, nW f2 (by decide) (by decide) (by decide) (by decide) (by decide) (by decide) hw⟩), kS f (by decide) (by decide) (by decide) (by decide) (by decide) ⟨hs, hS⟩, kM f (by decide) (by decide) (by decide) (by decide) (by decide) ((f2 6 0 1 (by decide)).trans (h6 1 (by decide))) hM, kP f (by decide) (by decide) (by decide) (by decide) ⟨hp, hP⟩, kI f (by decide) (by decide) (by decide) (by decide) (by decide) (by decide) (fun k _ _ => fr_g f 41 0 k (by decide) (by decide) (by decide)) (fun k _ hk => by rw [← mv_43 J2, e2, (st_orders_f hg).1 k hk, mv_43]) (fun q => by unfold pu_nm0 at q ⊢; rw [mv_40_1 J2, f 40 0 1 (by decide), ← mv_40_1 I]; exact q) (fun q => by rw [e2]; exact Nat.le_trans q (st_orders_f hg).2) (by rw [mv_40_13 J2, f 40 0 13 (by decide), ← mv_40_13 I]; exact Nat.le_refl _) hg ⟨hy, hY⟩⟩, kT f (by decide) (by decide) (by decide) hT⟩
theorem cl_image (h : LW I) (hQ : ∀ (J1 : ma_I) (o1 : Nat) (x : Int32), (∀ i j, J1 1 i j = I 1 i j) → PR 175 [.inr (.inr (40, 0))] I J1 x → Q (some (.inl x)) J1 o1) : Exm (d + 44) 103 [.inr (.inr (5, 0))] I o Q := by
  have hl := h
  obtain ⟨⟨⟨hg, hR⟩, ⟨hs, hS⟩, hM, ⟨hp, hP⟩, ⟨hy, hY⟩⟩, hT⟩ := h
  refine xs_103 hg hR hM (fun J1 f1 hi => hQ J1 o _ (fun i j => fr_g f1 1 i j (by decide) (by decide) (by decide)) (fun d o' Q' hQ' => ?_))
  have e1 : mv J1 = mv I := mv_c1 f1 (by decide)
  refine mo_175  (fun J2 f2 e2 => ?_)
  have f : fr [7, 27, 28, 30, 60, 1042] I J2 := fr_trans (fr_mono f1 (by decide)) (fr_mono f2 (by decide))
  rw [e1] at e2 ⊢
  exact hQ' J2 (fun i j => fr_g f 1 i j (by decide) (by decide) (by decide)) ⟨⟨kW f (by decide) (by decide) (by decide) (by decide) (by decide) (by decide) (by decide) (by decide) (by decide) (by decide) (by decide) (by decide) (by decide) (by decide) (by decide) (by decide) (by decide) (by decide) (by decide) (by decide) (by decide) ⟨hg, hR⟩, kS f (by decide) (by decide) (by decide) (by decide) (by decide) ⟨hs, hS⟩, kM f (by decide) (by decide) (by decide) (by decide) (by decide) (f 6 0 1 (by decide)) hM, kP f (by decide) (by decide) (by decide) (by decide) ⟨hp, hP⟩, (by rw [e2]; exact ⟨im_ii hg, nY f2 (by decide) (by decide) (by decide) (by decide) hi⟩)⟩, kT f (by decide) (by decide) (by decide) hT⟩
end CAL

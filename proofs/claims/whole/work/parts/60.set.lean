/-! ===== told, set ===== -/
def pu_it (σ : ma_I) (k : Nat) (b : Int32) : Int32 := if b = 1 then σ 44 0 k else if b = 2 then σ 45 0 k else if b = 3 then σ 46 0 k else if b = 4 then σ 47 0 k else if b = 5 then σ 48 0 k else if b = 7 then σ 43 0 k else -100
def an_told (σ : ma_I) (a b : Int32) : Int32 := if b = 0 then σ 40 0 0 else if b = 6 then (if 0 ≤ a ∧ a ≤ σ 40 0 1 - 1 then σ 42 0 a.toNatClampNeg else -100) else if b = 8 then (if 0 ≤ a ∧ a ≤ σ 40 0 1 - 1 then σ 41 0 a.toNatClampNeg else -100) else if 0 ≤ a ∧ a ≤ σ 40 0 4 - 1 then pu_it σ a.toNatClampNeg b else -100
theorem ro_iff {σ τ : ma_I} {j : Nat} : rx_o σ τ j ↔ ∀ b, b < 6 → τ 17 j b = σ (43 + b) 0 j := by
  constructor
  · rintro ⟨h0, h1, h2, h3, h4, h5⟩ b hb
    match b, hb with
    | 0, _ => exact h0
    | 1, _ => exact h1
    | 2, _ => exact h2
    | 3, _ => exact h3
    | 4, _ => exact h4
    | 5, _ => exact h5
  · intro h
    exact ⟨h 0 (by omega), h 1 (by omega), h 2 (by omega), h 3 (by omega), h 4 (by omega), h 5 (by omega)⟩
theorem os_iff {σ τ : ma_I} {j : Nat} : o_same σ τ j ↔ ∀ b, b < 6 → τ (43 + b) 0 j = σ (43 + b) 0 j := by
  constructor
  · rintro ⟨h0, h1, h2, h3, h4, h5⟩ b hb
    match b, hb with
    | 0, _ => exact h0
    | 1, _ => exact h1
    | 2, _ => exact h2
    | 3, _ => exact h3
    | 4, _ => exact h4
    | 5, _ => exact h5
  · intro h
    exact ⟨h 0 (by omega), h 1 (by omega), h 2 (by omega), h 3 (by omega), h 4 (by omega), h 5 (by omega)⟩
section SET
variable {d : Nat} {I : ma_I} {o : Nat} {Q : ma_Q} {σ : ma_I}
theorem xs_6 {i : Nat} {b : Int32} (hr : rx_o σ (sv I) i) (h : Q (some (.inl (pu_it σ i b))) I o) : Exm d 6 [.inr (.inr (17, i)), .inl b] I o Q := by
  obtain ⟨r0, r1, r2, r3, r4, r5⟩ := hr
  rw [sv_17] at r0 r1 r2 r3 r4 r5
  unfold pu_it at h
  refine e_6 ?_
  rw [r0, r1, r2, r3, r4, r5]
  refine ⟨fun c => ?_, fun n1 => ⟨fun c => ?_, fun n2 => ⟨fun c => ?_, fun n3 => ⟨fun c => ?_, fun n4 => ⟨fun c => ?_, fun n5 => ⟨fun c => ?_, fun n6 => ⟨fun c => ?_, fun n7 => ?_⟩⟩⟩⟩⟩⟩⟩
  · rw [if_pos c] at h; exact h
  · rw [if_neg n1, if_pos c] at h; exact h
  · rw [if_neg n1, if_neg n2, if_pos c] at h; exact h
  · rw [if_neg n1, if_neg n2, if_neg n3, if_pos c] at h; exact h
  · rw [if_neg n1, if_neg n2, if_neg n3, if_neg n4, if_pos c] at h; exact h
  · rw [if_neg n1, if_neg n2, if_neg n3, if_neg n4, if_neg n5, if_neg (by rw [c]; decide)] at h; exact h
  · rw [if_neg n1, if_neg n2, if_neg n3, if_neg n4, if_neg n5, if_pos c] at h; exact h
  · rw [if_neg n1, if_neg n2, if_neg n3, if_neg n4, if_neg n5, if_neg n7] at h; exact h
theorem xs_69 {a b : Int32} (hg : iv_g σ) (hR : rx_w σ (sv I)) (hM : rx_m σ (sv I)) (h : Q (some (.inl (an_told σ a b))) I o) : Exm (d + 2) 69 [.inr (.inr (5, 0)), .inl a, .inl b] I o Q := by
  obtain ⟨h6, hn, hk⟩ := nm_le hg.2.1
  have hno := A_le hg.2.2.1
  obtain ⟨m1, m2⟩ := hM
  rw [sv_6] at m1
  have e0 : I 6 0 0 = σ 40 0 0 := by have := hR.1.1; rw [sv_6] at this; exact this
  have e4 : I 6 0 4 = σ 40 0 4 := by have := hR.2; rw [sv_6] at this; exact this
  unfold an_told at h
  refine e_69 ?_
  rw [m1, e0, e4]
  refine ⟨fun n0 => ⟨fun c6 => ⟨fun ca => ⟨fun q => absurd c6 q, fun _ => ?_⟩, fun ca => ?_⟩, fun n6 => ⟨fun n8 => ⟨fun c17 => ?_, fun c17 => ⟨fun ca => ?_, fun ca => ?_⟩⟩, fun c8 => ⟨fun ca => ⟨fun _ => ?_, fun q => absurd q n6⟩, fun ca => ?_⟩⟩⟩, fun c0 => ?_⟩
  · rw [if_neg n0, if_pos c6, if_pos ca] at h
    rw [hn] at ca
    obtain ⟨k, hk2, e⟩ := or_of (by omega) ca
    subst e
    have := (m2 k hk2).2
    rw [sv_15] at this
    rw [in_cl (by omega)] at h ⊢
    rw [this]
    exact ⟨in_in (by omega) (by omega), h⟩
  · rw [if_neg n0, if_pos c6, if_neg ca] at h; exact h
  · have hit : pu_it σ a.toNatClampNeg b = -100 := by
      unfold pu_it
      rw [if_neg (fun e => c17 (by rw [e]; decide)), if_neg (fun e => c17 (by rw [e]; decide)), if_neg (fun e => c17 (by rw [e]; decide)), if_neg (fun e => c17 (by rw [e]; decide)), if_neg (fun e => c17 (by rw [e]; decide)), if_neg (fun e => c17 (by rw [e]; decide))]
    rw [if_neg n0, if_neg n6, if_neg n8, hit] at h
    by_cases ca : 0 ≤ a ∧ a ≤ σ 40 0 4 - 1
    · rw [if_pos ca] at h; exact h
    · rw [if_neg ca] at h; exact h
  · rw [if_neg n0, if_neg n6, if_neg n8, if_pos ca] at h
    rw [hno.2.1] at ca
    obtain ⟨k, hk2, e⟩ := or_of (by have := hno.1; omega) ca
    subst e
    have hk8 : k < 8 := by have := hno.1; omega
    rw [in_cl (by omega)] at h ⊢
    exact ⟨in_in (by omega) (by omega), xs_6 (σ := σ) (hR.1.2.2.2.2.1 k hk2) ⟨_, rfl, h⟩⟩
  · rw [if_neg n0, if_neg n6, if_neg n8, if_neg ca] at h; exact h
  · rw [if_neg n0, if_neg n6, if_pos c8, if_pos ca] at h
    rw [hn] at ca
    obtain ⟨k, hk2, e⟩ := or_of (by omega) ca
    subst e
    have := (m2 k hk2).1
    rw [sv_14] at this
    rw [in_cl (by omega)] at h ⊢
    rw [this]
    exact ⟨in_in (by omega) (by omega), h⟩
  · rw [if_neg n0, if_neg n6, if_pos c8, if_neg ca] at h; exact h
  · rw [if_pos c0] at h; exact h
theorem mo_127 {a b : Int32} (hg : iv_g (mv I)) (h : Q (some (.inl (an_told (mv I) a b))) I o) : Exm (d + 2) 127 [.inr (.inr (40, 0)), .inl a, .inl b] I o Q := by
  obtain ⟨h6, hn, hk⟩ := nm_le hg.2.1
  have hno := A_le hg.2.2.1
  unfold an_told at h
  rw [mv_40_0, mv_40_1, mv_40_4] at h
  rw [mv_40_1] at hn
  have hn4 := hno.2.1
  rw [mv_40_4] at hn4
  refine e_127 ⟨fun n0 => ⟨fun c6 => ⟨fun ca => ?_, fun ca => ⟨fun q => absurd c6 q, fun _ => ?_⟩⟩, fun n6 => ⟨fun n8 => ⟨fun ca => ?_, fun ca => ?_⟩, fun c8 => ⟨fun ca => ?_, fun ca => ⟨fun _ => ?_, fun q => absurd q n6⟩⟩⟩⟩, fun c0 => ?_⟩
  · rw [if_neg n0, if_pos c6, if_neg ca] at h; exact h
  · rw [if_neg n0, if_pos c6, if_pos ca] at h
    rw [hn] at ca
    obtain ⟨k, hk2, e⟩ := or_of (by omega) ca
    subst e
    rw [mv_42] at h
    exact ⟨in_in (by omega) (by omega), h⟩
  · rw [if_neg n0, if_neg n6, if_neg n8, if_pos ca] at h
    rw [hn4] at ca
    obtain ⟨k, hk2, e⟩ := or_of (by have := hno.1; omega) ca
    subst e
    have hk8 : k < 8 := by have := hno.1; omega
    have hin : ma_in (Int32.ofNat k) 9 := in_in (by omega) (by omega)
    unfold pu_it at h
    simp only [mv_43, mv_44, mv_45, mv_46, mv_47, mv_48] at h
    refine ⟨fun c => ?_, fun n1 => ⟨fun c => ?_, fun n2 => ⟨fun c => ?_, fun n3 => ⟨fun c => ?_, fun n4 => ⟨fun c => ?_, fun n5 => ⟨fun c => absurd c n6, fun _ => ⟨fun c => ?_, fun n7 => ?_⟩⟩⟩⟩⟩⟩⟩
    · rw [if_pos c] at h; exact ⟨hin, h⟩
    · rw [if_neg n1, if_pos c] at h; exact ⟨hin, h⟩
    · rw [if_neg n1, if_neg n2, if_pos c] at h; exact ⟨hin, h⟩
    · rw [if_neg n1, if_neg n2, if_neg n3, if_pos c] at h; exact ⟨hin, h⟩
    · rw [if_neg n1, if_neg n2, if_neg n3, if_neg n4, if_pos c] at h; exact ⟨hin, h⟩
    · rw [if_neg n1, if_neg n2, if_neg n3, if_neg n4, if_neg n5, if_pos c] at h; exact ⟨hin, h⟩
    · rw [if_neg n1, if_neg n2, if_neg n3, if_neg n4, if_neg n5, if_neg n7] at h; exact h
  · rw [if_neg n0, if_neg n6, if_neg n8, if_neg ca] at h; exact h
  · rw [if_neg n0, if_neg n6, if_pos c8, if_neg ca] at h; exact h
  · rw [if_neg n0, if_neg n6, if_pos c8, if_pos ca] at h
    rw [hn] at ca
    obtain ⟨k, hk2, e⟩ := or_of (by omega) ca
    subst e
    rw [mv_41] at h
    exact ⟨in_in (by omega) (by omega), h⟩
  · rw [if_pos c0] at h; exact h
/-! set -/
def pu_cb (σ : ma_I) (k : Nat) (a c : Int32) : Bool := if a = 1 then decide (0 ≤ c ∧ c ≤ 9) else if a = 2 then decide ((0 ≤ c ∧ c ≤ 7) ∧ c ≠ σ 46 0 k) else if a = 3 then decide ((0 ≤ c ∧ c ≤ 7) ∧ c ≠ σ 45 0 k) else if a = 4 then decide (0 ≤ c ∧ c ≤ σ 48 0 k) else if a = 5 then decide (σ 47 0 k ≤ c ∧ c ≤ 99) else false
def an_set (σ : ma_I) (a b c : Int32) : Int32 := if a = 0 then (if 1 ≤ c ∧ c ≤ 20 then σ 40 0 0 else -100) else if a = 6 then (if (0 ≤ b ∧ b ≤ σ 40 0 1 - 1) ∧ (0 ≤ c ∧ c ≤ 7) then σ 42 0 b.toNatClampNeg else -100) else if (0 ≤ b ∧ b ≤ σ 40 0 4 - 1) ∧ pu_cb σ b.toNatClampNeg a c = true then pu_it σ b.toNatClampNeg a else -100
def st_set (σ : ma_I) (a b c : Int32) : ma_I := if a = 0 then (if 1 ≤ c ∧ c ≤ 20 then ma_up σ 40 0 0 c else σ) else if a = 6 then (if (0 ≤ b ∧ b ≤ σ 40 0 1 - 1) ∧ (0 ≤ c ∧ c ≤ 7) then ma_up σ 42 0 b.toNatClampNeg c else σ) else if (0 ≤ b ∧ b ≤ σ 40 0 4 - 1) ∧ pu_cb σ b.toNatClampNeg a c = true then ma_up σ (43 + a.toNatClampNeg) 0 b.toNatClampNeg c else σ
/-- an order's item, by its number -/
theorem cb_of {k : Nat} {a c : Int32} (h : pu_cb σ k a c = true) : ∃ m, 1 ≤ m ∧ m ≤ 5 ∧ a = Int32.ofNat m ∧ pu_it σ k a = σ (43 + m) 0 k := by
  unfold pu_cb at h
  unfold pu_it
  by_cases c1 : a = 1
  · exact ⟨1, by omega, by omega, c1, if_pos c1⟩
  rw [if_neg c1] at h ⊢
  by_cases c2 : a = 2
  · exact ⟨2, by omega, by omega, c2, if_pos c2⟩
  rw [if_neg c2] at h ⊢
  by_cases c3 : a = 3
  · exact ⟨3, by omega, by omega, c3, if_pos c3⟩
  rw [if_neg c3] at h ⊢
  by_cases c4 : a = 4
  · exact ⟨4, by omega, by omega, c4, if_pos c4⟩
  rw [if_neg c4] at h ⊢
  by_cases c5 : a = 5
  · exact ⟨5, by omega, by omega, c5, if_pos c5⟩
  rw [if_neg c5] at h
  cases h
theorem ch_same {m i j : Nat} {v : Int32} (h : j ≠ i) : o_same σ (ma_up σ (43 + m) 0 i v) j := os_iff.mpr (fun b _ => up_ne (fun e => h e.2.2))
theorem ch_iv {k m : Nat} {c : Int32} (hm1 : 1 ≤ m) (hm5 : m ≤ 5) (hi : iv_o1 σ k) (h : pu_cb σ k (Int32.ofNat m) c = true) : iv_o1 (ma_up σ (43 + m) 0 k c) k := by
  obtain ⟨q1, q2, q3, q4, q5, f, l, q6, q7, q8, q9⟩ := hi
  unfold pu_cb at h
  rcases (by omega : m = 1 ∨ m = 2 ∨ m = 3 ∨ m = 4 ∨ m = 5) with e | e | e | e | e <;> subst e
  · rw [if_pos (by decide)] at h
    have hc := of_decide_eq_true h
    refine ⟨q1, ?_, q3, q4, q5, f, l, q6, q7, q8, q9⟩
    show rg (ma_up σ 44 0 k c 44 0 k) 0 9
    rw [xv_us]
    exact rg_mk (by decide) hc.1 hc.2
  · rw [if_neg (by decide), if_pos (by decide)] at h
    have hc := of_decide_eq_true h
    refine ⟨q1, q2, ?_, q4, ?_, f, l, q6, q7, q8, q9⟩
    · show rg (ma_up σ 45 0 k c 45 0 k) 0 7
      rw [xv_us]
      exact rg_mk (by decide) hc.1.1 hc.1.2
    · show ma_up σ 45 0 k c 45 0 k ≠ σ 46 0 k
      rw [xv_us]
      exact hc.2
  · rw [if_neg (by decide), if_neg (by decide), if_pos (by decide)] at h
    have hc := of_decide_eq_true h
    refine ⟨q1, q2, q3, ?_, ?_, f, l, q6, q7, q8, q9⟩
    · show rg (ma_up σ 46 0 k c 46 0 k) 0 7
      rw [xv_us]
      exact rg_mk (by decide) hc.1.1 hc.1.2
    · show σ 45 0 k ≠ ma_up σ 46 0 k c 46 0 k
      rw [xv_us]
      exact fun e => hc.2 e.symm
  · rw [if_neg (by decide), if_neg (by decide), if_neg (by decide), if_pos (by decide)] at h
    have hc := of_decide_eq_true h
    rw [q7] at hc
    obtain ⟨x, hx, e⟩ := in_ub (by omega) hc.1 hc.2
    refine ⟨q1, q2, q3, q4, q5, x, l, ?_, q7, hx, q9⟩
    show ma_up σ 47 0 k c 47 0 k = _
    rw [xv_us]
    exact e
  · rw [if_neg (by decide), if_neg (by decide), if_neg (by decide), if_neg (by decide), if_pos (by decide)] at h
    have hc := of_decide_eq_true h
    rw [q6] at hc
    obtain ⟨x, e, h1, h2⟩ := rg_mk1 (by omega) (by decide : (99 : Nat) < 2147483648) hc.1 hc.2
    refine ⟨q1, q2, q3, q4, q5, f, x, q6, ?_, h1, h2⟩
    show ma_up σ 48 0 k c 48 0 k = _
    rw [xv_us]
    exact e
theorem st_set_iv {a b c : Int32} (hg : iv_g σ) : iv_g (st_set σ a b c) := by
  have hg' := hg
  obtain ⟨h1, h2, h3, h4⟩ := hg
  obtain ⟨n6, r, t1, t2, t3, t4, t5⟩ := h4
  have htx : ∀ τ : ma_I, τ 40 0 13 = σ 40 0 13 → τ 40 0 14 = σ 40 0 14 → (∀ k, τ 50 0 k = σ 50 0 k) → (∀ k, τ 51 0 k = σ 51 0 k) → iv_tx τ := fun τ e1 e2 e3 e4 => tx_cong (σ := σ) e1 e3 e4 (r := r) (by rw [e2]; exact t2) (by rw [t1, in_cl (by omega)]; exact t4) ⟨n6, r, t1, t2, t3, t4, t5⟩
  unfold st_set
  by_cases c0 : a = 0
  · rw [if_pos c0]
    by_cases cc : 1 ≤ c ∧ c ≤ 20
    · rw [if_pos cc]
      refine ⟨?_, mv_cong rfl (fun _ => rfl) (fun _ => rfl) h2, od_cong rfl (fun _ _ => ⟨rfl, rfl, rfl, rfl, rfl, rfl⟩) h3, htx _ rfl rfl (fun _ => rfl) (fun _ => rfl)⟩
      show rg (ma_up σ 40 0 0 c 40 0 0) 1 20
      rw [xv_us]
      exact rg_mk1 (by decide) (by decide) cc.1 cc.2
    · rw [if_neg cc]; exact hg'
  rw [if_neg c0]
  by_cases c6 : a = 6
  · rw [if_pos c6]
    by_cases cc : (0 ≤ b ∧ b ≤ σ 40 0 1 - 1) ∧ (0 ≤ c ∧ c ≤ 7)
    · rw [if_pos cc]
      refine ⟨h1, ?_, od_cong rfl (fun _ _ => ⟨rfl, rfl, rfl, rfl, rfl, rfl⟩) h3, htx _ rfl rfl (fun _ => rfl) (fun _ => rfl)⟩
      obtain ⟨n, q1, q2, q3⟩ := h2
      refine ⟨n, q1, q2, fun k hk => ?_⟩
      obtain ⟨w1, w2, w3⟩ := q3 k hk
      refine ⟨w1, ?_, w3⟩
      by_cases e : k = b.toNatClampNeg
      · rw [e, xv_us]; exact rg_mk (by decide) cc.2.1 cc.2.2
      · rw [up_j e]; exact w2
    · rw [if_neg cc]; exact hg'
  rw [if_neg c6]
  by_cases cc : (0 ≤ b ∧ b ≤ σ 40 0 4 - 1) ∧ pu_cb σ b.toNatClampNeg a c = true
  · rw [if_pos cc]
    obtain ⟨m, hm1, hm5, em, -⟩ := cb_of cc.2
    have hcb := cc.2
    rw [em] at hcb
    rw [em, in_cl (by omega)]
    have hne : ∀ g : Nat, g < 44 ∨ 48 < g → ∀ i j, ma_up σ (43 + m) 0 b.toNatClampNeg c g i j = σ g i j := fun g hgg i j => up_g (by omega)
    refine ⟨?_, mv_cong (hne _ (by omega) _ _) (fun _ => hne _ (by omega) _ _) (fun _ => hne _ (by omega) _ _) h2, ?_, htx _ (hne _ (by omega) _ _) (hne _ (by omega) _ _) (fun _ => hne _ (by omega) _ _) (fun _ => hne _ (by omega) _ _)⟩
    · show rg (ma_up σ (43 + m) 0 b.toNatClampNeg c 40 0 0) 1 20
      rw [hne 40 (by omega)]
      exact h1
    · obtain ⟨n, q1, q2, q3⟩ := h3
      refine ⟨n, by rw [hne 40 (by omega)]; exact q1, q2, fun k hk => ?_⟩
      by_cases e : k = b.toNatClampNeg
      · rw [← e] at hcb ⊢
        exact ch_iv hm1 hm5 (q3 k hk) hcb
      · exact o1_cong (ch_same e) (q3 k hk)
  · rw [if_neg cc]; exact hg'
/-- an order is taken down, changed, put up -/
theorem xs_chg {i m n : Nat} {v : Int32} (hm : m < 6) (hg : iv_g σ) (hR : rx_w σ (sv I)) (hn : σ 40 0 4 = Int32.ofNat n) (hn8 : n ≤ 8) (hi : i < n) (hiv : iv_o1 (ma_up σ (43 + m) 0 i v) i) (h : ∀ I', fr [24, 17] I I' → rx_w (ma_up σ (43 + m) 0 i v) (sv I') → Q none I' o) : Exm (d + 2) 17 [.inr (.inr (6, 0)), .inl (Int32.ofNat i)] I o (fun r J p => r = none ∧ Exm (d + 2) 16 [.inr (.inr (6, 0)), .inl (Int32.ofNat i)] (ma_up J 17 i m v) p (fun r K p' => r = none ∧ Q none K p')) := by
  obtain ⟨-, -, ⟨n', hn', hn8', hon⟩, -⟩ := hg
  have en : n' = n := by rw [hn, in_eq (by omega) (by omega)] at hn'; exact hn'.symm
  subst en
  obtain ⟨f, hf, -, hf7⟩ := (hon i hi).2.2.1
  obtain ⟨hkd, h44, ⟨f', hf', -, hf7'⟩, h46, hne, ff, ll, h47, h48, hfl, hl99⟩ := hiv
  obtain ⟨⟨r0, -, r6, r8, ro, rh, rs, rt⟩, r4⟩ := hR
  rw [hn, in_cl (by omega)] at ro rs
  have hroi := ro i hi
  have hfI : I 17 i 2 = Int32.ofNat f := by have := hroi.2.2.1; rw [sv_17, hf] at this; exact this
  have hco : ∀ g : Nat, g < 43 ∨ 48 < g → ∀ x y, ma_up σ (43 + m) 0 i v g x y = σ g x y := fun g hgg x y => up_g (by omega)
  have hn2 : ma_up σ (43 + m) 0 i v 40 0 4 = Int32.ofNat n' := by rw [hco 40 (by omega)]; exact hn
  refine xs_17 (by omega) hfI (by omega) (fun J hJ hbJ => ⟨rfl, ?_⟩)
  have hJ17 : ∀ a b, J 17 a b = I 17 a b := fun a b => fr_g hJ 17 a b (by decide) (by decide) (by decide)
  have hoK : ∀ j, j < n' → rx_o (ma_up σ (43 + m) 0 i v) (sv (ma_up J 17 i m v)) j := by
    intro j hj
    rw [ro_iff]
    intro b hb
    have q := ro_iff.mp (ro j hj) b hb
    rw [sv_17] at q ⊢
    by_cases e : j = i ∧ b = m
    · obtain ⟨e1, e2⟩ := e
      subst e1; subst e2
      rw [xv_us, xv_us]
    · rw [up_ne (fun hh => e ⟨hh.2.1, hh.2.2⟩), up_ne (fun hh => e ⟨hh.2.2, by have := hh.1; omega⟩), hJ17]
      exact q
  refine xs_16 (σ := ma_up σ (43 + m) 0 i v) (by omega) (hoK i hi) h44 ⟨ll, h48, by omega, hl99⟩ hf' (by omega) (fun K hK hbK => ⟨rfl, ?_⟩)
  have hfK : fr [24, 17] I K := by
    intro g a b hc
    have h1 : cl_c g b ∉ [24] := fun hh => hc (by simp only [List.mem_cons, List.not_mem_nil, or_false] at hh ⊢; exact Or.inl hh)
    rw [hK g a b h1, up_ne (fun hh => hc (by rw [hh.1, cl_g (by decide) (by decide)]; decide)), hJ g a b h1]
  refine h K hfK ⟨⟨?_, trivial, ?_, ?_, ?_, ?_, ?_, ?_⟩, ?_⟩
  · rw [sv_6, fr_g hfK 6 0 0 (by decide) (by decide) (by decide), ← sv_6 I, hco 40 (by omega)]; exact r0
  · rw [sv_6, fr_g hfK 6 0 6 (by decide) (by decide) (by decide), ← sv_6 I, hco 40 (by omega)]; exact r6
  · rw [sv_6, fr_g hfK 6 0 8 (by decide) (by decide) (by decide), ← sv_6 I, hco 40 (by omega)]; exact r8
  · intro j hj
    rw [hn2, in_cl (by omega)] at hj
    obtain ⟨q0, q1, q2, q3, q4, q5⟩ := hoK j hj
    rw [sv_17] at q0 q1 q2 q3 q4 q5
    unfold rx_o
    simp only [sv_17, fr_g hK 17 j _ (by decide) (by decide) (by decide)]
    exact ⟨q0, q1, q2, q3, q4, q5⟩
  · intro y hy
    rw [sv_23, fr_g hfK 23 0 y (by decide) (by decide) (by decide), ← sv_23 I, li_cong (σ := σ) (τ := ma_up σ (43 + m) 0 i v) (hco 40 (by omega) _ _) (fun _ => hco 41 (by omega) _ _) (fun _ => hco 42 (by omega) _ _)]
    exact rh y hy
  · have hT : sn_T (ma_up σ (43 + m) 0 i v) K n' := by
      refine sn_chg (σ := σ) (τ := I) (τ1 := J) (f := f) (f' := f') hn8 hi (fun h y h8 hy j hj => ?_) hf (by omega) hf' (by omega) (fun j _ hji => ch_same hji) hbJ (fun hh y h8 hy j hj => ?_)
      · have := rs h y h8 hy j hj
        rw [sv_24] at this
        exact this
      · have := hbK hh y h8 hy j hj
        rw [up_g (by decide)] at this
        exact this
    intro hh y h8 hy j hj
    rw [sv_24, hn2, in_cl (by omega)]
    exact hT hh y h8 hy j hj
  · intro t ht
    rw [hco 40 (by omega)] at ht
    obtain ⟨e, e0, he⟩ := rt t ht
    refine ⟨e, e0, fun p hp => ?_⟩
    obtain ⟨a, b, c, f1, g1⟩ := he p hp
    rw [sv_21] at a
    refine ⟨by rw [sv_21, fr_g hfK 21 t p (by decide) (by decide) (by decide)]; exact a, b, c, by rw [hco 51 (by omega)]; exact f1, fun y hy => ?_⟩
    have := g1 y hy
    rw [sv_20] at this
    rw [sv_20, fr_g hfK 20 t _ (by decide) (by decide) (by decide), hco 50 (by omega)]
    exact this
  · rw [sv_6, fr_g hfK 6 0 4 (by decide) (by decide) (by decide), ← sv_6 I, hco 40 (by omega)]; exact r4
theorem xs_7 {i : Nat} {a c : Int32} (hr : rx_o σ (sv I) i) (h : Q (some (.inl (xv_b (pu_cb σ i a c = true)))) I o) : Exm (d + 2) 7 [.inr (.inr (17, i)), .inl a, .inl c] I o Q := by
  obtain ⟨r0, r1, r2, r3, r4, r5⟩ := hr
  rw [sv_17] at r0 r1 r2 r3 r4 r5
  have hq : ∀ x, xv_b (pu_cb σ i a c = true) = x → Q (some (.inl x)) I o := fun x e => e ▸ h
  unfold pu_cb at hq
  refine e_7 ?_
  rw [r2, r3, r4, r5]
  refine ⟨fun e => hq _ ?_, fun n1 => ⟨fun e => ⟨fun c1 => hq _ ?_, fun c1 => ⟨fun c2 => hq _ ?_, fun c2 => hq _ ?_⟩⟩, fun n2 => ⟨fun e => ⟨fun c1 => hq _ ?_, fun c1 => ⟨fun c2 => hq _ ?_, fun c2 => hq _ ?_⟩⟩, fun n3 => ⟨fun e => hq _ ?_, fun n4 => ⟨fun e => hq _ ?_, fun n5 => hq _ ?_⟩⟩⟩⟩⟩
  all_goals first | (simp_all [xv_b]; done) | (simp_all [xv_b]; intro h1 h2; exact absurd (c1 h1) (Int32.not_lt.mpr h2))
theorem xs_68 {b c : Int32} (hg : iv_g σ) (hR : rx_w σ (sv I)) (hM : rx_m σ (sv I)) (h : ∀ I', fr [24, 17, 23, 15, 6] I I' → (∀ j, j ≠ 0 → I' 6 0 j = I 6 0 j) → rx_w (st_set σ 6 b c) (sv I') → rx_m (st_set σ 6 b c) (sv I') → Q (some (.inl (an_set σ 6 b c))) I' o) : Exm (d + 2) 68 [.inr (.inr (5, 0)), .inl b, .inl c] I o Q := by
  obtain ⟨h6, hn, hk⟩ := nm_le hg.2.1
  have hM' := hM
  obtain ⟨m1, m2⟩ := hM
  rw [sv_6] at m1
  have hno : ¬((0 ≤ b ∧ b ≤ σ 40 0 1 - 1) ∧ (0 ≤ c ∧ c ≤ 7)) → Q (some (.inl (-100))) I o := by
    intro hc
    have hst : st_set σ 6 b c = σ := by unfold st_set; rw [if_neg (by decide), if_pos rfl, if_neg hc]
    have := h I (fr_refl _ _) (fun _ _ => rfl) (by rw [hst]; exact hR) (by rw [hst]; exact hM')
    unfold an_set at this
    rw [if_neg (by decide), if_pos rfl, if_neg hc] at this
    exact this
  refine e_68 ?_
  rw [m1]
  refine ⟨fun c1 => hno (fun q => c1 q.1), fun c1 => ⟨fun c2 => ?_, fun c2 => hno (fun q => c2 q.2)⟩⟩
  have hc : (0 ≤ b ∧ b ≤ σ 40 0 1 - 1) ∧ (0 ≤ c ∧ c ≤ 7) := ⟨c1, c2⟩
  have hst : st_set σ 6 b c = ma_up σ 42 0 b.toNatClampNeg c := by unfold st_set; rw [if_neg (by decide), if_pos rfl, if_pos hc]
  have hivst : iv_mv (ma_up σ 42 0 b.toNatClampNeg c) := by
    have := st_set_iv (a := 6) (b := b) (c := c) hg
    rw [hst] at this
    exact this.2.1
  have han : an_set σ 6 b c = σ 42 0 b.toNatClampNeg := by unfold an_set; rw [if_neg (by decide), if_pos rfl, if_pos hc]
  rw [hst, han] at h
  have c1' := c1
  rw [hn] at c1'
  obtain ⟨k, hk2, e⟩ := or_of (by omega) c1'
  subst e
  rw [in_cl (by omega)] at h hivst ⊢
  have hin : ma_in (Int32.ofNat k) 6 := in_in (by omega) (by omega)
  have e15 : I 15 0 k = σ 42 0 k := by have := (m2 k hk2).2; rw [sv_15] at this; exact this
  refine ⟨hin, hin, ?_⟩
  rw [e15]
  have hMn : rx_m (ma_up σ 42 0 k c) (sv (ma_up I 15 0 k c)) := by
    refine ⟨by rw [sv_6, up_g (by decide), up_g (by decide)]; exact m1, fun j hj => ?_⟩
    have hj' : j < pu_nm0 σ := by unfold pu_nm0 at hj ⊢; rw [up_g (by decide)] at hj; exact hj
    have := m2 j hj'
    rw [sv_14, sv_15] at this
    rw [sv_14, sv_15, up_g (by decide), up_g (by decide)]
    refine ⟨this.1, ?_⟩
    by_cases ej : j = k
    · subst ej; rw [xv_us, xv_us]
    · rw [up_j ej, up_j ej]; exact this.2
  refine xs_13 hivst hMn (fun J hJ hh => ⟨rfl, ?_⟩)
  have hf : fr [24, 17, 23, 15, 6] I J := fr_trans (fr_upg (fr_refl _ _) (by decide) (by decide) (by decide)) (fr_mono hJ (by decide))
  have j6 : ∀ j, J 6 0 j = I 6 0 j := fun j => by rw [fr_g hJ 6 0 j (by decide) (by decide) (by decide), up_g (by decide)]
  have jx : ∀ g i j, g ≠ 15 → g ≠ 23 → g ≠ 40 → g ≠ 8 → J g i j = I g i j := fun g i j q1 q2 q3 q4 => by
    rw [fr_g hJ g i j q3 q4 (by simp [q2]), up_g q1]
  refine h J hf (fun j _ => j6 j) ?_ ?_
  · refine rx_mv hR rfl rfl (fun _ _ => ⟨rfl, rfl, rfl, rfl, rfl, rfl⟩) rfl rfl (fun _ => rfl) (fun _ => rfl) (fun j _ => by rw [sv_6, sv_6, j6 j]) (fun g i j hg2 => ?_) (fun y hy => by rw [sv_23]; exact hh y hy)
    rcases hg2 with e | e | e | e <;> subst e
    · rw [sv_17, sv_17, jx 17 i j (by decide) (by decide) (by decide) (by decide)]
    · rw [sv_20, sv_20, jx 20 i j (by decide) (by decide) (by decide) (by decide)]
    · rw [sv_21, sv_21, jx 21 i j (by decide) (by decide) (by decide) (by decide)]
    · rw [sv_24, sv_24, jx 24 i j (by decide) (by decide) (by decide) (by decide)]
  · obtain ⟨q1, q2⟩ := hMn
    refine ⟨by rw [sv_6, j6, up_g (by decide)]; exact m1, fun j hj => ?_⟩
    have := q2 j hj
    rw [sv_14, sv_15] at this
    rw [sv_14, sv_15, fr_g hJ 14 0 j (by decide) (by decide) (by decide), fr_g hJ 15 0 j (by decide) (by decide) (by decide)]
    exact this
theorem xs_67 {a b c : Int32} (hg : iv_g σ) (hR : rx_w σ (sv I)) (hM : rx_m σ (sv I)) (h : ∀ I', fr [24, 17, 23, 15, 6] I I' → (∀ j, j ≠ 0 → I' 6 0 j = I 6 0 j) → rx_w (st_set σ a b c) (sv I') → rx_m (st_set σ a b c) (sv I') → Q (some (.inl (an_set σ a b c))) I' o) : Exm (d + 4) 67 [.inr (.inr (5, 0)), .inl a, .inl b, .inl c] I o Q := by
  have hno4 := A_le hg.2.2.1
  have e0 : I 6 0 0 = σ 40 0 0 := by have := hR.1.1; rw [sv_6] at this; exact this
  have e4 : I 6 0 4 = σ 40 0 4 := by have := hR.2; rw [sv_6] at this; exact this
  refine e_67 ?_
  rw [e0, e4]
  refine ⟨fun n0 => ⟨fun n6 => ?_, fun c6 => ?_⟩, fun c0 => ⟨fun cc => ?_, fun cc => ?_⟩⟩
  · have hno : ¬((0 ≤ b ∧ b ≤ σ 40 0 4 - 1) ∧ pu_cb σ b.toNatClampNeg a c = true) → Q (some (.inl (-100))) I o := by
      intro hc
      have hst : st_set σ a b c = σ := by unfold st_set; rw [if_neg n0, if_neg n6, if_neg hc]
      have := h I (fr_refl _ _) (fun _ _ => rfl) (by rw [hst]; exact hR) (by rw [hst]; exact hM)
      unfold an_set at this
      rw [if_neg n0, if_neg n6, if_neg hc] at this
      exact this
    refine ⟨fun c15 => hno (fun q => ?_), fun c15 => ⟨fun cb => hno (fun q => cb q.1), fun cb => ?_⟩⟩
    · obtain ⟨m, hm1, hm5, em, -⟩ := cb_of q.2
      exact c15 (by rw [em]; exact ⟨(in_le (a := 1) (by decide) (by omega)).mpr hm1, (in_le (b := 5) (by omega) (by decide)).mpr hm5⟩)
    · have cb' := cb
      rw [hno4.2.1] at cb'
      obtain ⟨k, hk2, e⟩ := or_of (by have := hno4.1; omega) cb'
      have hk8 : k < 8 := by have := hno4.1; omega
      have hck : b.toNatClampNeg = k := by rw [e, in_cl (by omega)]
      have hin : ma_in b 8 := by rw [e]; exact in_in (by omega) (by omega)
      have hrk := hR.1.2.2.2.2.1 k hk2
      rw [hck] at hno ⊢
      refine ⟨hin, xs_7 (σ := σ) hrk ⟨_, rfl, fun c1 => ⟨hin, ?_⟩, fun c1 => hno (fun q => xv_beq0.mp c1 q.2)⟩⟩
      have hcb := xv_bne0.mp c1
      have hst : st_set σ a b c = ma_up σ (43 + a.toNatClampNeg) 0 k c := by unfold st_set; rw [if_neg n0, if_neg n6, hck, if_pos ⟨cb, hcb⟩]
      have han : an_set σ a b c = pu_it σ k a := by unfold an_set; rw [if_neg n0, if_neg n6, hck, if_pos ⟨cb, hcb⟩]
      rw [hst, han] at h
      obtain ⟨m, hm1, hm5, em, hit⟩ := cb_of hcb
      rw [em, in_cl (by omega)] at h
      rw [em] at hcb
      have hiv : iv_o1 (ma_up σ (43 + m) 0 k c) k := by
        obtain ⟨n', hn', hn8', hon⟩ := hg.2.2.1
        have en : n' = pu_no σ := by unfold pu_no; rw [hn', in_cl (by omega)]
        exact ch_iv hm1 hm5 (hon k (by omega)) hcb
      refine xs_6 (σ := σ) hrk ⟨_, rfl, ?_⟩
      rw [em, e]
      have := xs_chg (d := d + 1) (o := o) (Q := fun _ K p => Q (some (.inl (pu_it σ k (Int32.ofNat m)))) K p) (v := c) (by omega : m < 6) hg hR hno4.2.1 hno4.1 hk2 hiv (fun K hK hRK => ?_)
      · refine Exm.mono this (fun r J p hJ => ⟨hJ.1, in_in (by omega) (by omega), ?_⟩)
        refine e_8 ?_
        have hJ2 := hJ.2
        rcases (by omega : m = 1 ∨ m = 2 ∨ m = 3 ∨ m = 4 ∨ m = 5) with w | w | w | w | w <;> subst w
        · exact ⟨fun _ => ⟨rfl, hJ2⟩, fun q => absurd rfl q⟩
        · exact ⟨fun q => absurd q (by decide), fun _ => ⟨fun _ => ⟨rfl, hJ2⟩, fun q => absurd rfl q⟩⟩
        · exact ⟨fun q => absurd q (by decide), fun _ => ⟨fun q => absurd q (by decide), fun _ => ⟨fun _ => ⟨rfl, hJ2⟩, fun q => absurd rfl q⟩⟩⟩
        · exact ⟨fun q => absurd q (by decide), fun _ => ⟨fun q => absurd q (by decide), fun _ => ⟨fun q => absurd q (by decide), fun _ => ⟨fun _ => ⟨rfl, hJ2⟩, fun q => absurd rfl q⟩⟩⟩⟩
        · exact ⟨fun q => absurd q (by decide), fun _ => ⟨fun q => absurd q (by decide), fun _ => ⟨fun q => absurd q (by decide), fun _ => ⟨fun q => absurd q (by decide), fun _ => ⟨fun _ => ⟨rfl, hJ2⟩, fun q => absurd rfl q⟩⟩⟩⟩⟩
      · refine h K (fr_mono hK (by decide)) (fun j _ => fr_g hK 6 0 j (by decide) (by decide) (by decide)) hRK ?_
        obtain ⟨m1, m2⟩ := hM
        rw [sv_6] at m1
        refine ⟨by rw [sv_6, fr_g hK 6 0 1 (by decide) (by decide) (by decide), up_g (by omega)]; exact m1, fun j hj => ?_⟩
        have hj' : j < pu_nm0 σ := by unfold pu_nm0 at hj ⊢; rw [up_g (by omega)] at hj; exact hj
        have := m2 j hj'
        rw [sv_14, sv_15] at this
        rw [sv_14, sv_15, fr_g hK 14 0 j (by decide) (by decide) (by decide), fr_g hK 15 0 j (by decide) (by decide) (by decide), up_g (by omega), up_g (by omega)]
        exact this
  · subst c6
    exact xs_68 (d := d + 1) hg hR hM (fun I' h1 h2 h3 h4 => ⟨_, rfl, h I' h1 h2 h3 h4⟩)
  · subst c0
    have hst : st_set σ 0 b c = ma_up σ 40 0 0 c := by unfold st_set; rw [if_pos rfl, if_pos cc]
    have han : an_set σ 0 b c = σ 40 0 0 := by unfold an_set; rw [if_pos rfl, if_pos cc]
    rw [hst, han] at h
    refine h (ma_up I 6 0 0 c) (fr_upg (fr_refl _ _) (by decide) (by decide) (by decide)) (fun j hj => up_j hj) ?_ ?_
    · rw [sv_up (by decide)]
      exact ⟨rx_cong hR.1 rfl (fun _ => rfl) (fun _ => rfl) rfl (fun _ _ => ⟨rfl, rfl, rfl, rfl, rfl, rfl⟩) rfl (fun _ => rfl) (fun _ => rfl) rfl rfl hR.1.2.2.2.1 (fun g i j hh => up_g (by rcases hh with e | e | e | e | e <;> subst e <;> decide)), hR.2⟩
    · rw [sv_up (by decide)]
      exact hM
  · subst c0
    have hst : st_set σ 0 b c = σ := by unfold st_set; rw [if_pos rfl, if_neg cc]
    have han : an_set σ 0 b c = -100 := by unfold an_set; rw [if_pos rfl, if_neg cc]
    have := h I (fr_refl _ _) (fun _ _ => rfl) (by rw [hst]; exact hR) (by rw [hst]; exact hM)
    rw [han] at this
    exact this
end SET

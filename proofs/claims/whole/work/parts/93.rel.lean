/-! ===== all relations together; what keeps them ===== -/
def RX (σ I : ma_I) : Prop := (iv_g σ ∧ rx_w σ (sv I)) ∧ (iv_s σ ∧ rx_s σ (sv I)) ∧ rx_m σ (sv I) ∧ (iv_p σ ∧ rx_p σ (sv I)) ∧ (iv_i σ ∧ rx_i σ (sv I))
def LW (I : ma_I) : Prop := RX (mv I) I ∧ tk_M I ∧ tk_K I
section RLS
variable {I J : ma_I} {l : List Nat} {σ : ma_I}
theorem kT (f : fr l I J) (h3 : 3 ∉ l) (h52 : 52 ∉ l) (h53 : 53 ∉ l) (h : tk_M I ∧ tk_K I) : tk_M J ∧ tk_K J := by
  refine ⟨fun i hi k hk => ?_, fun i hi => ?_, fun i hi k hk => ?_⟩
  · rw [f 3 i k h3]; exact h.1 i hi k hk
  · rw [f 53 0 i h53]; exact h.2.1 i hi
  · rw [f 52 0 _ h52]; exact h.2.2 i hi k hk
theorem nS (f : fr l I J) (h12 : 12 ∉ l) (h13 : 13 ∉ l) (h : rx_s σ (sv I)) : rx_s σ (sv J) := by
  intro s hs
  obtain ⟨a, b, c⟩ := h s hs
  rw [sv_12] at a b
  refine ⟨?_, ?_, fun k hk => ?_⟩
  · rw [sv_12, f 12 s 0 h12]; exact a
  · rw [sv_12, f 12 s 1 h12]; exact b
  · rw [sv_13, f 13 s k h13, ← sv_13 I]; exact c k hk
theorem kS (f : fr l I J) (h12 : 12 ∉ l) (h13 : 13 ∉ l) (h61 : 61 ∉ l) (h62 : 62 ∉ l) (h63 : 63 ∉ l) (h : iv_s (mv I) ∧ rx_s (mv I) (sv I)) : iv_s (mv J) ∧ rx_s (mv J) (sv J) := by
  have q1 : ∀ k, mv J 61 0 k = mv I 61 0 k := fun k => by rw [mv_61, mv_61]; exact f 61 0 k h61
  have q2 : ∀ k, mv J 62 0 k = mv I 62 0 k := fun k => by rw [mv_62, mv_62]; exact f 62 0 k h62
  have q3 : ∀ k, mv J 63 0 k = mv I 63 0 k := fun k => by rw [mv_63, mv_63]; exact f 63 0 k h63
  have h2 := nS f h12 h13 h.2
  refine ⟨fun s hs => ?_, fun s hs => ?_⟩
  · rw [q1, q2]; exact h.1 s hs
  · obtain ⟨a, b, c⟩ := h2 s hs
    exact ⟨by rw [q1]; exact a, by rw [q2]; exact b, fun k hk => by rw [q3]; exact c k hk⟩
theorem nM (f : fr l I J) (h14 : 14 ∉ l) (h15 : 15 ∉ l) (h6 : J 6 0 1 = I 6 0 1) (h : rx_m σ (sv I)) : rx_m σ (sv J) := by
  obtain ⟨a, b⟩ := h
  rw [sv_6] at a
  refine ⟨by rw [sv_6, h6]; exact a, fun k hk => ?_⟩
  obtain ⟨c, e⟩ := b k hk
  rw [sv_14] at c
  rw [sv_15] at e
  exact ⟨by rw [sv_14, f 14 0 k h14]; exact c, by rw [sv_15, f 15 0 k h15]; exact e⟩
theorem kM (f : fr l I J) (h14 : 14 ∉ l) (h15 : 15 ∉ l) (h41 : 41 ∉ l) (h42 : 42 ∉ l) (h1 : 1001 ∉ l) (h6 : J 6 0 1 = I 6 0 1) (h : rx_m (mv I) (sv I)) : rx_m (mv J) (sv J) := by
  have q0 : mv J 40 0 1 = mv I 40 0 1 := by rw [mv_40_1, mv_40_1]; exact f 40 0 1 h1
  obtain ⟨a, b⟩ := nM f h14 h15 h6 h
  unfold rx_m pu_nm0
  rw [q0]
  refine ⟨a, fun k hk => ?_⟩
  rw [mv_41, mv_42, f 41 0 k h41, f 42 0 k h42, ← mv_41 I, ← mv_42 I]
  exact b k hk
theorem nP (f : fr l I J) (h0 : 2000 ∉ l) (h31 : 31 ∉ l) (h : rx_p σ (sv I)) : rx_p σ (sv J) := by
  obtain ⟨a, b⟩ := h
  rw [sv_8_0] at a
  refine ⟨by rw [sv_8_0, f 8 0 0 h0]; exact a, fun k hk => ?_⟩
  rw [sv_31, f 31 0 k h31, ← sv_31 I]
  exact b k hk
theorem kP (f : fr l I J) (h0 : 2000 ∉ l) (h31 : 31 ∉ l) (h12 : 1012 ∉ l) (h49 : 49 ∉ l) (h : iv_p (mv I) ∧ rx_p (mv I) (sv I)) : iv_p (mv J) ∧ rx_p (mv J) (sv J) := by
  have q0 : mv J 40 0 12 = mv I 40 0 12 := by rw [mv_40_12, mv_40_12]; exact f 40 0 12 h12
  have q1 : ∀ k, mv J 49 0 k = mv I 49 0 k := fun k => by rw [mv_49, mv_49]; exact f 49 0 k h49
  obtain ⟨a, b⟩ := nP f h0 h31 h.2
  obtain ⟨n, c, e, g⟩ := h.1
  refine ⟨⟨n, by rw [q0]; exact c, e, fun k hk => by rw [q1]; exact g k hk⟩, by rw [q0]; exact a, fun k hk => ?_⟩
  rw [q0] at hk
  rw [q1]
  exact b k hk
theorem nY (f : fr l I J) (h7 : 7 ∉ l) (h27 : 27 ∉ l) (h28 : 28 ∉ l) (h30 : 30 ∉ l) (h : rx_i σ (sv I)) : rx_i σ (sv J) := by
  obtain ⟨a, b⟩ := h
  rw [sv_7] at a
  refine ⟨by rw [sv_7, f 7 0 0 h7]; exact a, fun hk => ?_⟩
  obtain ⟨b1, b2, b3, b6, bm, bo⟩ := b hk
  rw [sv_7] at b1 b2 b3 b6
  refine ⟨by rw [sv_7, f 7 0 1 h7]; exact b1, by rw [sv_7, f 7 0 2 h7]; exact b2, by rw [sv_7, f 7 0 3 h7]; exact b3, by rw [sv_7, f 7 0 6 h7]; exact b6, fun k hk => ?_, fun i hi b hb => ?_⟩
  · obtain ⟨c, e⟩ := bm k hk
    rw [sv_27] at c
    rw [sv_28] at e
    exact ⟨by rw [sv_27, f 27 0 k h27]; exact c, by rw [sv_28, f 28 0 k h28]; exact e⟩
  · rw [sv_30, f 30 i b h30, ← sv_30 I]; exact bo i hi b hb
theorem kI (f : fr l I J) (h7 : 7 ∉ l) (h27 : 27 ∉ l) (h28 : 28 ∉ l) (h30 : 30 ∉ l) (h60 : 60 ∉ l) (h42 : 1042 ∉ l)
    (e41 : ∀ k, k < (mv I 60 0 1).toNatClampNeg → k < pu_nm0 (mv I) → J 41 0 k = I 41 0 k) (e43 : ∀ k, k < (mv I 60 0 2).toNatClampNeg → k < pu_no (mv I) → J 43 0 k = I 43 0 k)
    (em : (mv I 60 0 1).toNatClampNeg ≤ pu_nm0 (mv I) → (mv I 60 0 1).toNatClampNeg ≤ pu_nm0 (mv J)) (eo : (mv I 60 0 2).toNatClampNeg ≤ pu_no (mv I) → (mv I 60 0 2).toNatClampNeg ≤ pu_no (mv J)) (e13 : (mv I 40 0 13).toNatClampNeg ≤ (mv J 40 0 13).toNatClampNeg)
    (hg : iv_g (mv I)) (h : iv_i (mv I) ∧ rx_i (mv I) (sv I)) : iv_i (mv J) ∧ rx_i (mv J) (sv J) := by
  have q0 : mv J 40 0 42 = mv I 40 0 42 := by rw [mv_40_42, mv_40_42]; exact f 40 0 42 h42
  have q1 : ∀ k, mv J 60 0 k = mv I 60 0 k := fun k => by rw [mv_60, mv_60]; exact f 60 0 k h60
  obtain ⟨hi, hr⟩ := h
  obtain ⟨a, b⟩ := nY f h7 h27 h28 h30 hr
  obtain ⟨-, ⟨nm, hm1, hm2, -⟩, ⟨no, ho1, ho2, -⟩, -⟩ := hg
  refine ⟨fun hk => ?_, by rw [q0]; exact a, fun hk => ?_⟩
  · rw [q0] at hk
    obtain ⟨i1, ⟨r, i2, i3⟩, ⟨m, i4, i5, i6⟩, n, i7, i8, i9⟩ := hi hk
    have bm : m < 2147483648 := by unfold pu_nm0 at i5; rw [hm1, in_cl (by omega)] at i5; omega
    have bn : n < 2147483648 := by unfold pu_no at i8; rw [ho1, in_cl (by omega)] at i8; omega
    rw [i4, in_cl bm] at em e41
    rw [i7, in_cl bn] at eo e43
    rw [q1, q1, q1, q1]
    refine ⟨i1, ⟨r, i2, Nat.lt_of_lt_of_le i3 e13⟩, ⟨m, i4, em i5, fun k hk => by rw [q1]; exact i6 k hk⟩, n, i7, eo i8, fun i hi => ?_⟩
    have := i9 i hi
    unfold iv_k1 at this ⊢
    have qk : ∀ c, 1 ≤ c → pu_kf (mv J) i c = pu_kf (mv I) i c := by
      intro c hc
      unfold pu_kf
      rw [if_neg (by omega), if_neg (by omega), q1]
    rw [qk 1 (by omega), qk 2 (by omega), qk 3 (by omega), qk 4 (by omega), qk 5 (by omega)]
    exact this
  · rw [q0] at hk
    obtain ⟨i1, ⟨r, i2, i3⟩, ⟨m, i4, i5, i6⟩, n, i7, i8, i9⟩ := hi hk
    have bm : m < 2147483648 := by unfold pu_nm0 at i5; rw [hm1, in_cl (by omega)] at i5; omega
    have bn : n < 2147483648 := by unfold pu_no at i8; rw [ho1, in_cl (by omega)] at i8; omega
    obtain ⟨b1, b2, b3, b6, bbm, bo⟩ := b hk
    rw [q1, q1, q1, q1]
    refine ⟨b1, b2, b3, b6, fun k hk => ?_, fun i hi c hc => ?_⟩
    · rw [q1, mv_41, e41 k hk (by rw [i4, in_cl bm] at hk; omega), ← mv_41 I]
      exact bbm k hk
    · rw [bo i hi c hc]
      unfold pu_kf
      by_cases c0 : c = 0
      · rw [if_pos c0, if_pos c0, mv_43, mv_43, e43 i hi (by rw [i7, in_cl bn] at hi; omega)]
      · rw [if_neg c0, if_neg c0, q1]
theorem kI0 (f : fr l I J) (h7 : 7 ∉ l) (h27 : 27 ∉ l) (h28 : 28 ∉ l) (h30 : 30 ∉ l) (h60 : 60 ∉ l) (h42 : 1042 ∉ l) (h41 : 41 ∉ l) (h43 : 43 ∉ l) (h1 : 1001 ∉ l) (h4 : 1004 ∉ l) (h13 : 1013 ∉ l) (hg : iv_g (mv I)) (h : iv_i (mv I) ∧ rx_i (mv I) (sv I)) : iv_i (mv J) ∧ rx_i (mv J) (sv J) := by
  have q1 : mv J 40 0 1 = mv I 40 0 1 := by rw [mv_40_1, mv_40_1]; exact f 40 0 1 h1
  have q4 : mv J 40 0 4 = mv I 40 0 4 := by rw [mv_40_4, mv_40_4]; exact f 40 0 4 h4
  have q13 : mv J 40 0 13 = mv I 40 0 13 := by rw [mv_40_13, mv_40_13]; exact f 40 0 13 h13
  exact kI f h7 h27 h28 h30 h60 h42 (fun k _ _ => f 41 0 k h41) (fun k _ _ => f 43 0 k h43) (fun q => by unfold pu_nm0 at q ⊢; rw [q1]; exact q) (fun q => by unfold pu_no at q ⊢; rw [q4]; exact q) (by rw [q13]; exact Nat.le_refl _) hg h
theorem nW (f : fr l I J) (h6 : 6 ∉ l) (h17 : 17 ∉ l) (h20 : 20 ∉ l) (h21 : 21 ∉ l) (h23 : 23 ∉ l) (h24 : 24 ∉ l) (h : rx_w σ (sv I)) : rx_w σ (sv J) := by
  have q6 : ∀ j, sv J 6 0 j = sv I 6 0 j := fun j => by rw [sv_6, sv_6]; exact f 6 0 j h6
  obtain ⟨hv, h4⟩ := h
  refine ⟨rx_cong hv rfl (fun _ => rfl) (fun _ => rfl) rfl (fun _ _ => ⟨rfl, rfl, rfl, rfl, rfl, rfl⟩) rfl (fun _ => rfl) (fun _ => rfl) (by rw [q6]; exact hv.1) (q6 6) (by rw [q6]; exact hv.2.2.2.1) (fun g i j hg => ?_), by rw [q6]; exact h4⟩
  rcases hg with e | e | e | e | e <;> subst e
  · rw [sv_17, sv_17]; exact f 17 i j h17
  · rw [sv_20, sv_20]; exact f 20 i j h20
  · rw [sv_21, sv_21]; exact f 21 i j h21
  · rw [sv_23, sv_23]; exact f 23 i j h23
  · rw [sv_24, sv_24]; exact f 24 i j h24
/-- what the reference's state is to the relations, unchanged -/
theorem gW {σ σ' : ma_I} (h0 : σ' 40 0 0 = σ 40 0 0) (h1 : σ' 40 0 1 = σ 40 0 1) (h41 : ∀ k, σ' 41 0 k = σ 41 0 k) (h42 : ∀ k, σ' 42 0 k = σ 42 0 k) (h4 : σ' 40 0 4 = σ 40 0 4) (ho : ∀ o, o < (σ 40 0 4).toNatClampNeg → o_same σ σ' o) (h13 : σ' 40 0 13 = σ 40 0 13) (h14 : σ' 40 0 14 = σ 40 0 14) (h50 : ∀ k, σ' 50 0 k = σ 50 0 k) (h51 : ∀ k, σ' 51 0 k = σ 51 0 k) {τ : ma_I} (h : iv_g σ ∧ rx_w σ τ) : iv_g σ' ∧ rx_w σ' τ := by
  obtain ⟨⟨g1, g2, g3, g4⟩, hv, h6⟩ := h
  have g4' := g4
  obtain ⟨n, r, a, b, c, e, q⟩ := g4'
  refine ⟨⟨by unfold iv_th; rw [h0]; exact g1, mv_cong h1 h41 h42 g2, od_cong h4 ho g3, tx_cong (σ := σ) (r := r) h13 h50 h51 (by rw [h14]; exact b) (by rw [a, in_cl (by omega)]; exact e) g4⟩, ?_, by rw [h4]; exact h6⟩
  exact rx_cong hv h1 h41 h42 h4 ho h13 h50 h51 (by rw [h0]; exact hv.1) rfl (by rw [h14]; exact hv.2.2.2.1) (fun _ _ _ _ => rfl)
theorem kW (f : fr l I J) (h6 : 6 ∉ l) (h17 : 17 ∉ l) (h20 : 20 ∉ l) (h21 : 21 ∉ l) (h23 : 23 ∉ l) (h24 : 24 ∉ l) (k0 : 1000 ∉ l) (k1 : 1001 ∉ l) (k4 : 1004 ∉ l) (k13 : 1013 ∉ l) (k14 : 1014 ∉ l) (k41 : 41 ∉ l) (k42 : 42 ∉ l) (k43 : 43 ∉ l) (k44 : 44 ∉ l) (k45 : 45 ∉ l) (k46 : 46 ∉ l) (k47 : 47 ∉ l) (k48 : 48 ∉ l) (k50 : 50 ∉ l) (k51 : 51 ∉ l) (h : iv_g (mv I) ∧ rx_w (mv I) (sv I)) : iv_g (mv J) ∧ rx_w (mv J) (sv J) := by
  refine gW (σ := mv I) ?_ ?_ ?_ ?_ ?_ ?_ ?_ ?_ ?_ ?_ ⟨h.1, nW f h6 h17 h20 h21 h23 h24 h.2⟩
  · rw [mv_40_0, mv_40_0]; exact f 40 0 0 k0
  · rw [mv_40_1, mv_40_1]; exact f 40 0 1 k1
  · intro k; rw [mv_41, mv_41]; exact f 41 0 k k41
  · intro k; rw [mv_42, mv_42]; exact f 42 0 k k42
  · rw [mv_40_4, mv_40_4]; exact f 40 0 4 k4
  · intro o _
    unfold o_same
    rw [mv_43, mv_43, mv_44, mv_44, mv_45, mv_45, mv_46, mv_46, mv_47, mv_47, mv_48, mv_48]
    exact ⟨f 43 0 o k43, f 44 0 o k44, f 45 0 o k45, f 46 0 o k46, f 47 0 o k47, f 48 0 o k48⟩
  · rw [mv_40_13, mv_40_13]; exact f 40 0 13 k13
  · rw [mv_40_14, mv_40_14]; exact f 40 0 14 k14
  · intro k; rw [mv_50, mv_50]; exact f 50 0 k k50
  · intro k; rw [mv_51, mv_51]; exact f 51 0 k k51
/-- a change of the class's alone -/
theorem mv_c1 (f : fr l I J) (hl : ∀ c ∈ l, c < 40) : mv J = mv I := mv_cl (fun g i j hg => f g i j (fun hc => by
  have := hl _ hc
  unfold cl_c at this
  by_cases e : g = 40
  · rw [if_pos e] at this; omega
  · rw [if_neg e] at this
    by_cases e8 : g = 8
    · omega
    · rw [if_neg e8] at this; omega))
/-- what comes of a call of the reference behind the class's -/
def PR (y : Nat) (args : List ma_V) (I J1 : ma_I) (x : Int32) : Prop := ∀ (d o' : Nat) (Q' : ma_Q), (∀ J2, (∀ i j, J2 1 i j = I 1 i j) → LW J2 → Q' (some (.inl x)) J2 o') → Exm (d + 6) y args J1 o' Q'
end RLS

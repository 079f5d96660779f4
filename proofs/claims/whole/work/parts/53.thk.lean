/-! ===== one cell changed for a while ===== -/
def fx (l : List Nat) (g0 i0 j0 : Nat) (I J : ma_I) : Prop := ∀ g i j, cl_c g j ∉ l → ¬(g = g0 ∧ i = i0 ∧ j = j0) → J g i j = I g i j
theorem up_ne {I : ma_I} {g i j g' i' j' : Nat} {v : Int32} (h : ¬(g' = g ∧ i' = i ∧ j' = j)) : ma_up I g i j v g' i' j' = I g' i' j' := by
  unfold ma_up
  by_cases e1 : g' = g
  · by_cases e2 : i' = i
    · rw [if_pos e1, if_pos e2, if_neg (fun e3 => h ⟨e1, e2, e3⟩)]
    · rw [if_pos e1, if_neg e2]
  · rw [if_neg e1]
theorem fx_of {l : List Nat} {g0 i0 j0 : Nat} {I K : ma_I} {v : Int32} (h : fr l I K) : fx l g0 i0 j0 I (ma_up K g0 i0 j0 v) := fun g i j hc hn => by rw [up_ne hn]; exact h g i j hc
theorem fx_step {l : List Nat} {g0 i0 j0 : Nat} {I J K : ma_I} {v : Int32} (h : fx l g0 i0 j0 I J) (h' : fr l (ma_up J g0 i0 j0 v) K) : fx l g0 i0 j0 I K := fun g i j hc hn => by rw [h' g i j hc, up_ne hn]; exact h g i j hc hn
theorem fx_fr {l : List Nat} {g0 i0 j0 : Nat} {I J K : ma_I} (h : fx l g0 i0 j0 I J) (h' : fr l J K) : fx l g0 i0 j0 I K := fun g i j hc hn => by rw [h' g i j hc]; exact h g i j hc hn
theorem fx_back {l : List Nat} {g0 i0 j0 : Nat} {I J : ma_I} (h : fx l g0 i0 j0 I J) : fr l I (ma_up J g0 i0 j0 (I g0 i0 j0)) := fun g i j hc => by
  by_cases e : g = g0 ∧ i = i0 ∧ j = j0
  · obtain ⟨e1, e2, e3⟩ := e
    subst e1; subst e2; subst e3
    exact xv_us
  · rw [up_ne e]; exact h g i j hc e
theorem fx_sv {l : List Nat} {g0 i0 j0 : Nat} {I J : ma_I} {v : Int32} (h : fx l g0 i0 j0 I J) (hl : ∀ c ∈ l, c ∈ cl_s) (hc0 : cl_c g0 j0 ∉ cl_s) : sv (ma_up J g0 i0 j0 v) = ma_up (sv I) g0 i0 j0 v := by
  rw [sv_up hc0]
  funext g i j
  by_cases e : g = g0 ∧ i = i0 ∧ j = j0
  · obtain ⟨e1, e2, e3⟩ := e
    subst e1; subst e2; subst e3
    rw [xv_us, xv_us]
  · rw [up_ne e, up_ne e]
    unfold sv
    by_cases ec : cl_c g j ∈ cl_s
    · rw [if_pos ec, if_pos ec]
    · rw [if_neg ec, if_neg ec]
      exact h g i j (fun hh => ec (hl _ hh)) e
theorem fx_sv0 {l : List Nat} {g0 i0 j0 : Nat} {I J : ma_I} {v : Int32} (h : fx l g0 i0 j0 I J) (hl : ∀ c ∈ l, c ∈ cl_s) (hc0 : cl_c g0 j0 ∉ cl_s) (hv : J g0 i0 j0 = v) : sv J = ma_up (sv I) g0 i0 j0 v := by
  have h1 := fx_sv (v := v) h hl hc0
  have h2 : ma_up J g0 i0 j0 v = J := by
    funext g i j
    by_cases e : g = g0 ∧ i = i0 ∧ j = j0
    · obtain ⟨e1, e2, e3⟩ := e
      subst e1; subst e2; subst e3
      rw [xv_us, hv]
    · rw [up_ne e]
  rw [h2] at h1
  exact h1
theorem fx_mv {l : List Nat} {g0 i0 j0 : Nat} {I J : ma_I} {v : Int32} (h : fx l g0 i0 j0 I J) (hl : ∀ c ∈ l, c ∈ cl_s) (hc0 : cl_c g0 j0 ∉ cl_s) (hg : 40 ≤ g0) : mv (ma_up J g0 i0 j0 v) = ma_up (mv I) g0 i0 j0 v := by
  unfold mv
  rw [fx_sv h hl hc0]
  funext g' i' j'
  unfold ma_up
  by_cases e : g' < 40
  · rw [if_pos e, if_neg (by omega)]; exact (if_pos e).symm
  · simp only [if_neg e]
theorem fx_mv0 {l : List Nat} {g0 i0 j0 : Nat} {I J : ma_I} {v : Int32} (h : fx l g0 i0 j0 I J) (hl : ∀ c ∈ l, c ∈ cl_s) (hc0 : cl_c g0 j0 ∉ cl_s) (hv : J g0 i0 j0 = v) (hg : 40 ≤ g0) : mv J = ma_up (mv I) g0 i0 j0 v := by
  unfold mv
  rw [fx_sv0 h hl hc0 hv]
  funext g' i' j'
  unfold ma_up
  by_cases e : g' < 40
  · rw [if_pos e, if_neg (by omega)]; exact (if_pos e).symm
  · simp only [if_neg e]
/-! ===== the same state, but for some of it ===== -/
theorem mv_cong {σ τ : ma_I} (h0 : τ 40 0 1 = σ 40 0 1) (h1 : ∀ k, τ 41 0 k = σ 41 0 k) (h2 : ∀ k, τ 42 0 k = σ 42 0 k) (h : iv_mv σ) : iv_mv τ := by
  obtain ⟨n, a, b, c⟩ := h
  refine ⟨n, by rw [h0]; exact a, b, fun k hk => ?_⟩
  rw [h1, h2, h1]
  exact c k hk
theorem o1_cong {σ τ : ma_I} {o : Nat} (h : o_same σ τ o) (hi : iv_o1 σ o) : iv_o1 τ o := by
  obtain ⟨h1, h2, h3, h4, h5, h6⟩ := h
  unfold iv_o1
  rw [h1, h2, h3, h4, h5, h6]
  exact hi
theorem od_cong {σ τ : ma_I} (hn : τ 40 0 4 = σ 40 0 4) (h : ∀ o, o < (σ 40 0 4).toNatClampNeg → o_same σ τ o) (hi : iv_od σ) : iv_od τ := by
  obtain ⟨n, a, b, c⟩ := hi
  refine ⟨n, by rw [hn]; exact a, b, fun o ho => o1_cong (h o ?_) (c o ho)⟩
  rw [a, in_cl (by omega)]
  exact ho
theorem tx_cong {σ τ : ma_I} (h13 : τ 40 0 13 = σ 40 0 13) (h50 : ∀ k, τ 50 0 k = σ 50 0 k) (h51 : ∀ k, τ 51 0 k = σ 51 0 k) {r : Nat} (h14 : τ 40 0 14 = Int32.ofNat r) (hr : r < (σ 40 0 13).toNatClampNeg) (hi : iv_tx σ) : iv_tx τ := by
  obtain ⟨n, r0, a, b, c, e, f⟩ := hi
  rw [a, in_cl (by omega)] at hr
  exact ⟨n, r, by rw [h13]; exact a, h14, c, hr, fun row hrow => wf_cong h50 h51 (f row hrow)⟩
theorem rx_cong {σ σ' τ τ' : ma_I} (hR : rx_v σ τ) (hm0 : σ' 40 0 1 = σ 40 0 1) (hm1 : ∀ k, σ' 41 0 k = σ 41 0 k) (hm2 : ∀ k, σ' 42 0 k = σ 42 0 k) (hn : σ' 40 0 4 = σ 40 0 4) (ho : ∀ o, o < (σ 40 0 4).toNatClampNeg → o_same σ σ' o) (h13 : σ' 40 0 13 = σ 40 0 13) (h50 : ∀ k, σ' 50 0 k = σ 50 0 k) (h51 : ∀ k, σ' 51 0 k = σ 51 0 k)
    (x0 : τ' 6 0 0 = σ' 40 0 0) (x6 : τ' 6 0 6 = τ 6 0 6) (x8 : τ' 6 0 8 = σ' 40 0 14) (hτ : ∀ g i j, (g = 17 ∨ g = 20 ∨ g = 21 ∨ g = 23 ∨ g = 24) → τ' g i j = τ g i j) : rx_v σ' τ' := by
  obtain ⟨r0, r4, r6, r8, ro, rh, rs, rt⟩ := hR
  refine ⟨x0, trivial, by rw [x6, h13]; exact r6, x8, ?_, ?_, ?_, ?_⟩
  · intro i hi
    rw [hn] at hi
    obtain ⟨o1, o2, o3, o4, o5, o6⟩ := ho i hi
    obtain ⟨q1, q2, q3, q4, q5, q6⟩ := ro i hi
    unfold rx_o
    rw [hτ 17 i _ (Or.inl rfl), hτ 17 i _ (Or.inl rfl), hτ 17 i _ (Or.inl rfl), hτ 17 i _ (Or.inl rfl), hτ 17 i _ (Or.inl rfl), hτ 17 i _ (Or.inl rfl), o1, o2, o3, o4, o5, o6]
    exact ⟨q1, q2, q3, q4, q5, q6⟩
  · intro k hk
    rw [hτ 23 0 k (by simp), li_cong hm0 hm1 hm2]
    exact rh k hk
  · intro h k hh hk i hi
    rw [hτ 24 0 _ (by simp), hn, rs h k hh hk i hi]
    by_cases e : i < (σ 40 0 4).toNatClampNeg
    · have := ho i e
      rw [this.2.2.1, sn_cong this]
    · rw [decide_eq_false e]
      simp only [Bool.false_and]
  · intro t ht
    rw [h13] at ht
    obtain ⟨e, e0, he⟩ := rt t ht
    refine ⟨e, e0, fun p hp => ?_⟩
    obtain ⟨a, b, c, f, g⟩ := he p hp
    refine ⟨by rw [hτ 21 t p (by simp)]; exact a, b, c, by rw [h51]; exact f, fun k hk => ?_⟩
    rw [hτ 20 t _ (by simp), h50]
    exact g k hk
/-! ===== thicker ===== -/
def pu_tk (σ : ma_I) (t : Nat) : ma_I := ma_up σ 40 0 0 (Int32.ofNat t)
def pu_mt (σ : ma_I) (a : Int32) : Nat := pu_has (pu_tk σ 20) a (pu_all σ)
def pu_te (σ : ma_I) (a : Int32) (t : Nat) : Bool := decide (pu_has (pu_tk σ t) a (pu_all σ) = pu_mt σ a)
def an_thicker (σ : ma_I) (a : Int32) : Int32 := if 0 ≤ a ∧ a ≤ 7 then pu_en (pu_ft (pu_te σ a) 1 20) else -2
theorem tk_same (σ : ma_I) (t u : Nat) : g_same (pu_tk σ t) (pu_tk σ u) := ⟨rfl, fun _ => rfl, fun _ => rfl, rfl, fun _ _ => ⟨rfl, rfl, rfl, rfl, rfl, rfl⟩, rfl, fun _ => rfl, fun _ => rfl⟩
theorem tk_iv {σ : ma_I} {t : Nat} (hg : iv_g σ) (h1 : 1 ≤ t) (h2 : t ≤ 20) : iv_g (pu_tk σ t) := by
  obtain ⟨-, hm, ho, ht⟩ := hg
  refine ⟨⟨t, xv_us, h1, h2⟩, mv_cong rfl (fun _ => rfl) (fun _ => rfl) hm, od_cong rfl (fun _ _ => ⟨rfl, rfl, rfl, rfl, rfl, rfl⟩) ho, ?_⟩
  obtain ⟨n, r, a, b, c, e, f⟩ := ht
  exact tx_cong (σ := σ) (τ := pu_tk σ t) (r := r) rfl (fun _ => rfl) (fun _ => rfl) b (by rw [a, in_cl (by omega)]; exact e) ⟨n, r, a, b, c, e, f⟩
theorem tk_rx {σ τ : ma_I} {t : Nat} (hR : rx_v σ τ) : rx_v (pu_tk σ t) (ma_up τ 6 0 0 (Int32.ofNat t)) :=
  rx_cong hR rfl (fun _ => rfl) (fun _ => rfl) rfl (fun _ _ => ⟨rfl, rfl, rfl, rfl, rfl, rfl⟩) rfl (fun _ => rfl) (fun _ => rfl) rfl rfl hR.2.2.2.1 (fun g i j h => up_g (by rcases h with e | e | e | e | e <;> subst e <;> decide))
theorem tk_mono {σ : ma_I} {a : Int32} {t : Nat} (hg : iv_g σ) (h1 : 1 ≤ t) (h2 : t ≤ 20) : pu_has (pu_tk σ t) a (pu_all σ) ≤ pu_mt σ a := by
  refine cn_mono 100 (fun j _ hp => ?_)
  refine hs_thick (tk_iv hg h1 h2) (tk_iv hg (by omega) (by omega)) (tk_same σ t 20) ?_ a _ j hp
  show Int32.ofNat t ≤ Int32.ofNat 20
  exact (in_le (by omega) (by omega)).mpr h2
theorem te_20 {σ : ma_I} {a : Int32} : pu_te σ a 20 = true := decide_eq_true rfl
section THK
variable {d : Nat} {I : ma_I} {o : Nat} {Q : ma_Q} {σ : ma_I}
theorem xs_90 {a : Int32} (hg : iv_g σ) (hR : rx_w σ (sv I)) (h : ∀ I', fr fr_wk I I' → Q (some (.inl (an_thicker σ a))) I' o) : Exm (d + 7) 90 [.inr (.inr (5, 0)), .inl a] I o Q := by
  unfold an_thicker at h
  refine e_90 ⟨fun c => ?_, fun c => ?_⟩
  · rw [if_pos c] at h
    obtain ⟨hh, h8, e⟩ := ho_of c
    subst e
    rw [xs_al hR]
    have hfx0 : fx fr_wk 6 0 0 I (ma_up I 6 0 0 20) := fx_of (fr_refl _ _)
    have hsv20 : sv (ma_up I 6 0 0 20) = ma_up (sv I) 6 0 0 (Int32.ofNat 20) := sv_up (by decide)
    refine xs_78 (σ := pu_tk σ 20) (tk_iv hg (by omega) (by omega)) (by rw [hsv20]; exact tk_rx hR.1) h8 (fun J hJ => ⟨_, rfl, ?_⟩)
    have hmt : pu_mt σ (Int32.ofNat hh) ≤ 100 := has_le
    have key : ∀ m t, t + m = 20 → 1 ≤ t → pu_ft (pu_te σ (Int32.ofNat hh)) t (21 - t) = pu_ft (pu_te σ (Int32.ofNat hh)) 1 20 → ∀ K, fx fr_wk 6 0 0 I K → Ex (d + 7) 90 (43, [vR 5 0, vI (Int32.ofNat hh), vI (I 6 0 0), vI (Int32.ofNat (pu_mt σ (Int32.ofNat hh))), vI (Int32.ofNat t)], [], ma_mem K o, 0, 0) (ma_end Q) := by
      intro m
      induction m with
      | zero =>
        intro t ht h1 he K hK
        have : t = 20 := by omega
        subst this
        refine b_90_43 ⟨fun _ => ?_, fun c => absurd c (by decide)⟩
        have h' := h _ (fx_back hK)
        rw [← he] at h'
        have e1 : pu_ft (pu_te σ (Int32.ofNat hh)) 20 (21 - 20) = some 20 := if_pos te_20
        rw [e1] at h'
        exact h'
      | succ m ih =>
        intro t ht h1 he K hK
        have hu : pu_ft (pu_te σ (Int32.ofNat hh)) t (21 - t) = if pu_te σ (Int32.ofNat hh) t then some t else pu_ft (pu_te σ (Int32.ofNat hh)) (t + 1) (21 - (t + 1)) := by
          rw [show 21 - t = (21 - (t + 1)) + 1 by omega]
          rfl
        have hmono := tk_mono (a := Int32.ofNat hh) hg h1 (by omega)
        have hal : xv_al (K 6 0 4) = pu_all σ := by
          rw [hK 6 0 4 (by decide) (by decide)]
          exact xs_al hR
        refine b_90_43 ⟨fun c => ?_, fun _ => ?_⟩
        · have := (in_le (a := 20) (by decide) (by omega)).mp c
          omega
        · rw [hal]
          have hsvt : sv (ma_up K 6 0 0 (Int32.ofNat t)) = ma_up (sv I) 6 0 0 (Int32.ofNat t) := fx_sv hK (by decide) (by decide)
          refine xs_87 (σ := pu_tk σ t) (tk_iv hg h1 (by omega)) (by rw [hsvt]; exact tk_rx hR.1) h8 hmt (fun L hL => ⟨_, rfl, fun c => ?_, fun c => ?_⟩)
          · have c' := xv_beq0.mp c
            rw [in_a1]
            refine ih (t + 1) (by omega) (by omega) ?_ L (fx_step hK hL)
            rw [hu, if_neg (fun hh => c' (Nat.le_of_eq (of_decide_eq_true hh).symm))] at he
            exact he
          · have c' := xv_bne0.mp c
            have h' := h _ (fx_back (fx_step hK hL))
            rw [← he, hu, if_pos (show pu_te σ (Int32.ofNat hh) t = true from decide_eq_true (Nat.le_antisymm hmono c'))] at h'
            exact h'
    exact key 19 1 (by omega) (by omega) rfl J (fx_fr hfx0 hJ)
  · rw [if_neg c] at h
    exact h I (fr_refl _ _)
theorem mo_166 {a : Int32} (hg : iv_g (mv I)) (h : ∀ I', fr fr_go I I' → Q (some (.inl (an_thicker (mv I) a))) I' o) : Exm (d + 5) 166 [.inr (.inr (40, 0)), .inl a] I o Q := by
  unfold an_thicker at h
  refine e_166 ⟨fun c => ?_, fun c => ?_⟩
  · rw [if_pos c] at h
    have hal0 : xv_al (I 40 0 4) = pu_all (mv I) := rfl
    rw [hal0]
    have hfx0 : fx fr_go 40 0 0 I (ma_up I 40 0 0 20) := fx_of (fr_refl _ _)
    have hsv20 : mv (ma_up I 40 0 0 20) = pu_tk (mv I) 20 := mv_up (by omega) (by decide)
    refine mo_161 (by rw [hsv20]; exact tk_iv hg (by omega) (by omega)) (fun J hJ => ⟨_, rfl, ?_⟩)
    rw [hsv20]
    have key : ∀ m t, t + m = 20 → 1 ≤ t → pu_ft (pu_te (mv I) a) t (21 - t) = pu_ft (pu_te (mv I) a) 1 20 → ∀ K, fx fr_go 40 0 0 I K → K 40 0 0 = Int32.ofNat t → Ex (d + 5) 166 (36, [vR 40 0, vI a, vI (I 40 0 0), vI (Int32.ofNat (pu_mt (mv I) a)), none], [], ma_mem K o, 0, 0) (ma_end Q) := by
      intro m
      induction m with
      | zero =>
        intro t ht h1 he K hK hKt
        have : t = 20 := by omega
        subst this
        have hsv : mv K = pu_tk (mv I) 20 := fx_mv0 hK (by decide) (by decide) hKt (by decide)
        have hal : xv_al (K 40 0 4) = pu_all (mv I) := by rw [hK 40 0 4 (by decide) (by decide)]; rfl
        refine b_166_36 ?_
        rw [hal]
        refine mo_161 (by rw [hsv]; exact tk_iv hg (by omega) (by omega)) (fun L hL => ⟨_, rfl, ?_⟩)
        rw [hsv]
        refine ⟨fun _ => ?_, fun c => absurd rfl c⟩
        have h' := h _ (fx_back (fx_fr hK hL))
        rw [← he] at h'
        have e1 : pu_ft (pu_te (mv I) a) 20 (21 - 20) = some 20 := if_pos te_20
        rw [e1] at h'
        rw [hL 40 0 0 (by decide), hKt]
        exact h'
      | succ m ih =>
        intro t ht h1 he K hK hKt
        have hu : pu_ft (pu_te (mv I) a) t (21 - t) = if pu_te (mv I) a t then some t else pu_ft (pu_te (mv I) a) (t + 1) (21 - (t + 1)) := by
          rw [show 21 - t = (21 - (t + 1)) + 1 by omega]
          rfl
        have hsv : mv K = pu_tk (mv I) t := fx_mv0 hK (by decide) (by decide) hKt (by decide)
        have hal : xv_al (K 40 0 4) = pu_all (mv I) := by rw [hK 40 0 4 (by decide) (by decide)]; rfl
        refine b_166_36 ?_
        rw [hal]
        refine mo_161 (by rw [hsv]; exact tk_iv hg h1 (by omega)) (fun L hL => ⟨_, rfl, ?_⟩)
        rw [hsv]
        have hLt : L 40 0 0 = Int32.ofNat t := by rw [hL 40 0 0 (by decide)]; exact hKt
        have b1 := has_le (σ := pu_tk (mv I) t) (h := a) (there := pu_all (mv I))
        have b2 : pu_mt (mv I) a ≤ 100 := has_le
        rw [hLt]
        refine ⟨fun c => ?_, fun c => ?_⟩
        · have c' := (in_eq (by omega) (by omega)).mp c
          have h' := h _ (fx_back (fx_fr hK hL))
          rw [← he, hu, if_pos (show pu_te (mv I) a t = true from decide_eq_true c')] at h'
          exact h'
        · rw [in_a1]
          refine ih (t + 1) (by omega) (by omega) ?_ _ ?_ xv_us
          · rw [hu, if_neg (fun hh => c (by rw [of_decide_eq_true hh]))] at he
            exact he
          · exact fun g i j hc hn => by rw [up_ne hn]; exact fx_fr hK hL g i j hc hn
    exact key 19 1 (by omega) (by omega) rfl _ (fun g i j hc hn => by rw [up_ne hn]; exact fx_fr hfx0 hJ g i j hc hn) xv_us
  · rw [if_neg c] at h
    exact h I (fr_refl _ _)
end THK

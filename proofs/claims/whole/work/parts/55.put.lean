/-! ===== which orders send, noted and taken away ===== -/
theorem ix_ne {h k f e : Nat} (hk : k < 100) (he : e < 100) (hn : ¬(h = f ∧ k = e)) : h * 100 + k ≠ f * 100 + e := by omega
section PUT
variable {d : Nat} {I : ma_I} {o : Nat} {Q : ma_Q} {σ : ma_I}
theorem xs_17 {i f : Nat} (hi : i < 8) (hf : I 17 i 2 = Int32.ofNat f) (hf8 : f < 8) (h : ∀ I', fr [24] I I' → (∀ hh k, hh < 8 → k < 100 → ∀ j, j < 32 → bg (I' 24 0 (hh * 100 + k)) j = (bg (I 24 0 (hh * 100 + k)) j && !(decide (hh = f) && decide (j = i)))) → Q none I' o) : Exm d 17 [.inr (.inr (6, 0)), .inl (Int32.ofNat i)] I o Q := by
  refine e_17 ⟨in_in (by omega) (by omega), ?_⟩
  rw [in_cl (by omega), hf]
  have e100 : Int32.ofNat f * 100 = Int32.ofNat (f * 100) := (Int32.ofNat_mul f 100).symm
  rw [e100]
  have key := lp_up (P := fun e => ∀ I', fr [24] I I' → (∀ hh k, hh < 8 → k < 100 → ∀ j, j < 32 → bg (I' 24 0 (hh * 100 + k)) j = (bg (I 24 0 (hh * 100 + k)) j && !(decide (hh = f) && decide (k < e) && decide (j = i)))) → Ex d 17 (15, [vR 6 0, vI (Int32.ofNat i), vI (Int32.ofNat (f * 100)), vI (Int32.ofNat e)], [], ma_mem I' o, 0, 0) (ma_end Q)) 100 ?_ ?_
  · refine key 0 (by omega) I (fr_refl _ _) (fun hh k h8 hk j hj => ?_)
    rw [decide_eq_false (by omega : ¬k < 0)]
    simp
  · intro I' hf' hb
    refine b_17_15 ⟨fun _ => h I' hf' (fun hh k h8 hk j hj => ?_), fun c => absurd c (by decide)⟩
    rw [hb hh k h8 hk j hj, decide_eq_true hk, Bool.and_true]
  · intro e he ih I' hf' hb
    have ei : Int32.ofNat (f * 100) + Int32.ofNat e = Int32.ofNat (f * 100 + e) := (Int32.ofNat_add _ _).symm
    refine b_17_15 ⟨fun c => ?_, fun _ => ?_⟩
    · have := (in_le (a := 100) (by decide) (by omega)).mp c
      omega
    · rw [ei, in_cl (by omega), in_a1]
      refine ⟨in_in (by omega) (by omega), in_in (by omega) (by omega), ih _ (fr_upg hf' (by decide) (by decide) (by decide)) (fun hh k h8 hk j hj => ?_)⟩
      by_cases hc : hh = f ∧ k = e
      · obtain ⟨e1, e2⟩ := hc
        subst e1; subst e2
        rw [xv_us, bg_and, bg_nx _ _ hj, bg_sh i hi j hj, hb hh k h8 hk j hj]
        rw [decide_eq_false (by omega : ¬k < k), decide_eq_true (by omega : k < k + 1)]
        simp
      · rw [up_j (ix_ne hk he hc), hb hh k h8 hk j hj]
        by_cases e1 : hh = f
        · have : k ≠ e := fun e2 => hc ⟨e1, e2⟩
          rw [show decide (k < e + 1) = decide (k < e) from decide_eq_decide.mpr (by omega)]
        · rw [decide_eq_false e1]; simp
theorem xs_16 {i f : Nat} (hi : i < 8) (hro : rx_o σ (sv I) i) (h44 : rg (σ 44 0 i) 0 9) (h48 : rg (σ 48 0 i) 0 99) (hf : σ 45 0 i = Int32.ofNat f) (hf8 : f < 8) (h : ∀ I', fr [24] I I' → (∀ hh k, hh < 8 → k < 100 → ∀ j, j < 32 → bg (I' 24 0 (hh * 100 + k)) j = (bg (I 24 0 (hh * 100 + k)) j || (decide (hh = f) && decide (j = i) && pu_sn σ i (Int32.ofNat k)))) → Q none I' o) : Exm (d + 2) 16 [.inr (.inr (6, 0)), .inl (Int32.ofNat i)] I o Q := by
  refine e_16 ⟨in_in (by omega) (by omega), ?_⟩
  rw [in_cl (by omega)]
  have hf2 : I 17 i 2 = Int32.ofNat f := by have := hro.2.2.1; rw [sv_17, hf] at this; exact this
  have key := lp_up (P := fun e => ∀ I', fr [24] I I' → (∀ hh k, hh < 8 → k < 100 → ∀ j, j < 32 → bg (I' 24 0 (hh * 100 + k)) j = (bg (I 24 0 (hh * 100 + k)) j || (decide (hh = f) && decide (k < e) && decide (j = i) && pu_sn σ i (Int32.ofNat k)))) → Ex (d + 2) 16 (9, [vR 6 0, vI (Int32.ofNat i), vR 17 i, vI (Int32.ofNat e)], [], ma_mem I' o, 0, 0) (ma_end Q)) 100 ?_ ?_
  · refine key 0 (by omega) I (fr_refl _ _) (fun hh k h8 hk j hj => ?_)
    rw [decide_eq_false (by omega : ¬k < 0)]
    simp
  · intro I' hf' hb
    refine b_16_9 ⟨fun _ => h I' hf' (fun hh k h8 hk j hj => ?_), fun c => absurd c (by decide)⟩
    rw [hb hh k h8 hk j hj, decide_eq_true hk, Bool.and_true]
  · intro e he ih I' hf' hb
    have hro' : rx_o σ (sv I') i := by
      obtain ⟨q0, q1, q2, q3, q4, q5⟩ := hro
      rw [sv_17] at q0 q1 q2 q3 q4 q5
      unfold rx_o
      simp only [sv_17, fr_g hf' 17 i _ (by decide) (by decide) (by decide)]
      exact ⟨q0, q1, q2, q3, q4, q5⟩
    have ei : Int32.ofNat f * 100 + Int32.ofNat e = Int32.ofNat (f * 100 + e) := in_ma f 100 e
    refine b_16_9 ⟨fun c => ?_, fun _ => ?_⟩
    · have := (in_le (a := 100) (by decide) (by omega)).mp c
      omega
    · refine xs_9 (σ := σ) hro' h44 h48 ⟨_, rfl, fun c => ?_, fun c => ?_⟩
      · have c' := xv_beq0.mp c
        rw [in_a1]
        refine ih I' hf' (fun hh k h8 hk j hj => ?_)
        rw [hb hh k h8 hk j hj]
        by_cases e2 : k = e
        · subst e2
          rw [Bool.not_eq_true] at c'
          rw [c']
          simp
        · rw [show decide (k < e + 1) = decide (k < e) from decide_eq_decide.mpr (by omega)]
      · have c' := xv_bne0.mp c
        rw [fr_g hf' 17 i 2 (by decide) (by decide) (by decide), hf2, ei, in_cl (by omega), in_a1]
        refine ⟨in_in (by omega) (by omega), in_in (by omega) (by omega), ih _ (fr_upg hf' (by decide) (by decide) (by decide)) (fun hh k h8 hk j hj => ?_)⟩
        by_cases hc : hh = f ∧ k = e
        · obtain ⟨e1, e2⟩ := hc
          subst e1; subst e2
          rw [xv_us, bg_or, bg_sh i hi j hj, hb hh k h8 hk j hj, c', decide_eq_false (by omega : ¬k < k), decide_eq_true (by omega : k < k + 1)]
          simp
        · rw [up_j (ix_ne hk he hc), hb hh k h8 hk j hj]
          by_cases e1 : hh = f
          · have : k ≠ e := fun e2 => hc ⟨e1, e2⟩
            rw [show decide (k < e + 1) = decide (k < e) from decide_eq_decide.mpr (by omega)]
          · rw [decide_eq_false e1]; simp
/-- the table of senders -/
def sn_T (σ τ : ma_I) (n : Nat) : Prop := ∀ h k, h < 8 → k < 100 → ∀ i, i < 32 → bg (τ 24 0 (h * 100 + k)) i = (decide (i < n) && decide (σ 45 0 i = Int32.ofNat h) && pu_sn σ i (Int32.ofNat k))
/-- an order is taken down, changed, put up -/
theorem sn_chg {τ τ1 τ2 σ' : ma_I} {n i f f' : Nat} (hn : n ≤ 8) (hi : i < n) (hT : sn_T σ τ n) (hf : σ 45 0 i = Int32.ofNat f) (hf8 : f < 8) (hf' : σ' 45 0 i = Int32.ofNat f') (hf8' : f' < 8) (hoth : ∀ j, j < n → j ≠ i → o_same σ σ' j)
    (h1 : ∀ hh k, hh < 8 → k < 100 → ∀ j, j < 32 → bg (τ1 24 0 (hh * 100 + k)) j = (bg (τ 24 0 (hh * 100 + k)) j && !(decide (hh = f) && decide (j = i))))
    (h2 : ∀ hh k, hh < 8 → k < 100 → ∀ j, j < 32 → bg (τ2 24 0 (hh * 100 + k)) j = (bg (τ1 24 0 (hh * 100 + k)) j || (decide (hh = f') && decide (j = i) && pu_sn σ' i (Int32.ofNat k)))) : sn_T σ' τ2 n := by
  intro h k h8 hk j hj
  rw [h2 h k h8 hk j hj, h1 h k h8 hk j hj, hT h k h8 hk j hj]
  by_cases e : j = i
  · subst e
    rw [decide_eq_true hi, decide_eq_true (rfl : j = j)]
    have q1 : decide (σ 45 0 j = Int32.ofNat h) = decide (h = f) := by
      rw [hf]
      exact decide_eq_decide.mpr ⟨fun e => ((in_eq (by omega) (by omega)).mp e).symm, fun e => by rw [e]⟩
    have q2 : decide (σ' 45 0 j = Int32.ofNat h) = decide (h = f') := by
      rw [hf']
      exact decide_eq_decide.mpr ⟨fun e => ((in_eq (by omega) (by omega)).mp e).symm, fun e => by rw [e]⟩
    rw [q1, q2]
    cases decide (h = f) <;> simp
  · rw [decide_eq_false e]
    by_cases hjn : j < n
    · have := hoth j hjn e
      rw [this.2.2.1, sn_cong this]
      simp
    · rw [decide_eq_false hjn]; simp
theorem kd_same {i k j : Nat} (h : j ≠ i) : o_same σ (pu_kd σ i k) j := ⟨up_j h, rfl, rfl, rfl, rfl, rfl⟩
theorem xs_18 {i k n : Nat} (hg : iv_g σ) (hR : rx_w σ (sv I)) (hn : σ 40 0 4 = Int32.ofNat n) (hn8 : n ≤ 8) (hi : i < n) (hk : k ≤ 5) (h : ∀ I', fr [24, 17] I I' → rx_w (pu_kd σ i k) (sv I') → Q none I' o) : Exm (d + 3) 18 [.inr (.inr (6, 0)), .inl (Int32.ofNat i), .inl (Int32.ofNat k)] I o Q := by
  obtain ⟨-, -, ⟨n', hn', hn8', hon⟩, -⟩ := hg
  have en : n' = n := by rw [hn, in_eq (by omega) (by omega)] at hn'; exact hn'.symm
  subst en
  obtain ⟨hkd, h44, ⟨f, hf, -, hf7⟩, h46, hne, ff, ll, h47, h48, hfl, hl99⟩ := hon i hi
  obtain ⟨⟨r0, -, r6, r8, ro, rh, rs, rt⟩, r4⟩ := hR
  rw [hn, in_cl (by omega)] at ro rs
  have hroi := ro i hi
  have hfI : I 17 i 2 = Int32.ofNat f := by have := hroi.2.2.1; rw [sv_17, hf] at this; exact this
  refine e_18 (xs_17 (by omega) hfI (by omega) (fun J hJ hbJ => ⟨rfl, in_in (by omega) (by omega), ?_⟩))
  rw [in_cl (by omega)]
  have hJ17 : ∀ a b, J 17 a b = I 17 a b := fun a b => fr_g hJ 17 a b (by decide) (by decide) (by decide)
  have hoK : ∀ j, j < n' → rx_o (pu_kd σ i k) (sv (ma_up J 17 i 0 (Int32.ofNat k))) j := by
    intro j hj
    obtain ⟨q0, q1, q2, q3, q4, q5⟩ := ro j hj
    rw [sv_17] at q0 q1 q2 q3 q4 q5
    unfold rx_o
    simp only [sv_17]
    refine ⟨?_, ?_, ?_, ?_, ?_, ?_⟩
    · by_cases e : j = i
      · subst e
        rw [xv_us]
        exact xv_us.symm
      · rw [up_ne (by omega), hJ17, q0]
        exact (up_j e).symm
    · rw [up_j (by decide), hJ17]; exact q1
    · rw [up_j (by decide), hJ17]; exact q2
    · rw [up_j (by decide), hJ17]; exact q3
    · rw [up_j (by decide), hJ17]; exact q4
    · rw [up_j (by decide), hJ17]; exact q5
  refine xs_16 (σ := pu_kd σ i k) (by omega) (hoK i hi) h44 ⟨ll, h48, by omega, hl99⟩ hf (by omega) (fun K hK hbK => ⟨rfl, ?_⟩)
  have hfK : fr [24, 17] I K := by
    intro g a b hc
    have h1 : cl_c g b ∉ [24] := fun hh => hc (by simp only [List.mem_cons, List.not_mem_nil, or_false] at hh ⊢; exact Or.inl hh)
    rw [hK g a b h1, up_ne (fun hh => hc (by rw [hh.1, cl_g (by decide) (by decide)]; decide)), hJ g a b h1]
  refine h K hfK ⟨⟨?_, trivial, ?_, ?_, ?_, ?_, ?_, ?_⟩, ?_⟩
  · rw [sv_6, fr_g hfK 6 0 0 (by decide) (by decide) (by decide), ← sv_6 I]; exact r0
  · rw [sv_6, fr_g hfK 6 0 6 (by decide) (by decide) (by decide), ← sv_6 I]; exact r6
  · rw [sv_6, fr_g hfK 6 0 8 (by decide) (by decide) (by decide), ← sv_6 I]; exact r8
  · intro j hj
    have hj' : j < n' := by rw [show pu_kd σ i k 40 0 4 = Int32.ofNat n' from hn, in_cl (by omega)] at hj; exact hj
    obtain ⟨q0, q1, q2, q3, q4, q5⟩ := hoK j hj'
    rw [sv_17] at q0 q1 q2 q3 q4 q5
    unfold rx_o
    simp only [sv_17, fr_g hK 17 j _ (by decide) (by decide) (by decide)]
    exact ⟨q0, q1, q2, q3, q4, q5⟩
  · intro m hm
    rw [sv_23, fr_g hfK 23 0 m (by decide) (by decide) (by decide), ← sv_23 I, li_cong (σ := σ) (τ := pu_kd σ i k) rfl (fun _ => rfl) (fun _ => rfl)]
    exact rh m hm
  · have hT : sn_T (pu_kd σ i k) K n' := by
      refine sn_chg (σ := σ) (τ := I) (τ1 := J) (f := f) (f' := f) hn8 hi (fun h m h8 hm j hj => ?_) hf (by omega) hf (by omega) (fun j _ hji => kd_same hji) hbJ (fun hh m h8 hm j hj => ?_)
      · have := rs h m h8 hm j hj
        rw [sv_24] at this
        exact this
      · have := hbK hh m h8 hm j hj
        rw [up_g (by decide)] at this
        exact this
    intro hh m h8 hm j hj
    rw [sv_24, show pu_kd σ i k 40 0 4 = Int32.ofNat n' from hn, in_cl (by omega)]
    exact hT hh m h8 hm j hj
  · intro t ht
    obtain ⟨e, e0, he⟩ := rt t ht
    refine ⟨e, e0, fun p hp => ?_⟩
    obtain ⟨a, b, c, f1, g1⟩ := he p hp
    rw [sv_21] at a
    refine ⟨by rw [sv_21, fr_g hfK 21 t p (by decide) (by decide) (by decide)]; exact a, b, c, f1, fun m hm => ?_⟩
    have := g1 m hm
    rw [sv_20] at this
    rw [sv_20, fr_g hfK 20 t _ (by decide) (by decide) (by decide)]
    exact this
  · rw [sv_6, fr_g hfK 6 0 4 (by decide) (by decide) (by decide), ← sv_6 I]; exact r4
theorem rs_fr {l : List Nat} {K : ma_I} (hf : fr l I K) (h12 : 12 ∉ l) (h13 : 13 ∉ l) (hS : rx_s σ (sv I)) : rx_s σ (sv K) := by
  intro s hs
  obtain ⟨a, b, c⟩ := hS s hs
  rw [sv_12] at a b
  refine ⟨by rw [sv_12, fr_g hf 12 s 0 (by decide) (by decide) h12]; exact a, by rw [sv_12, fr_g hf 12 s 1 (by decide) (by decide) h12]; exact b, fun k hk => ?_⟩
  have := c k hk
  rw [sv_13] at this
  rw [sv_13, fr_g hf 13 s k (by decide) (by decide) h13]
  exact this
theorem kd_iv {i k : Nat} (hg : iv_g σ) (hk : k ≤ 5) : iv_g (pu_kd σ i k) := by
  obtain ⟨h1, h2, ⟨n, hn, h8, hon⟩, h4⟩ := hg
  refine ⟨h1, mv_cong rfl (fun _ => rfl) (fun _ => rfl) h2, ⟨n, hn, h8, fun o ho => ?_⟩, ?_⟩
  · by_cases e : o = i
    · subst e
      obtain ⟨q1, q2⟩ := hon o ho
      exact ⟨⟨k, xv_us, by omega, hk⟩, q2⟩
    · exact o1_cong (kd_same e) (hon o ho)
  · obtain ⟨m, r, a, b, c, e, f⟩ := h4
    exact tx_cong (σ := σ) (τ := pu_kd σ i k) rfl (fun _ => rfl) (fun _ => rfl) b (by rw [a, in_cl (by omega)]; exact e) ⟨m, r, a, b, c, e, f⟩
theorem kd_kd {i k k' : Nat} : pu_kd (pu_kd σ i k) i k' = pu_kd σ i k' := by
  funext g a b
  unfold pu_kd
  by_cases e : g = 43 ∧ a = 0 ∧ b = i
  · obtain ⟨e1, e2, e3⟩ := e
    subst e1; subst e2; subst e3
    rw [xv_us, xv_us]
  · rw [up_ne e, up_ne e, up_ne e]
theorem kd_id {i k : Nat} (h : σ 43 0 i = Int32.ofNat k) : pu_kd σ i k = σ := by
  funext g a b
  unfold pu_kd
  by_cases e : g = 43 ∧ a = 0 ∧ b = i
  · obtain ⟨e1, e2, e3⟩ := e
    subst e1; subst e2; subst e3
    rw [xv_us, h]
  · rw [up_ne e]
abbrev fr_kd : List Nat := [24, 17, 10, 32, 22, 26]
theorem xs_97 {s i n : Nat} (hg : iv_g σ) (hR : rx_w σ (sv I)) (hc : ct_h σ s) (hS : rx_s σ (sv I)) (hn : σ 40 0 4 = Int32.ofNat n) (hn8 : n ≤ 8) (hi : i < n) (h : ∀ I', fr fr_kd I I' → rx_w σ (sv I') → Q (some (.inl (pu_bb (fun k => pu_any (pu_kd σ i k) s) 6))) I' o) : Exm (d + 7) 97 [.inr (.inr (5, 0)), .inr (.inr (12, s)), .inl (Int32.ofNat i)] I o Q := by
  obtain ⟨k0, hk0, -, hk5⟩ : rg (σ 43 0 i) 0 5 := by
    obtain ⟨-, -, ⟨n', hn', hn8', hon⟩, -⟩ := hg
    have en : n' = n := by rw [hn, in_eq (by omega) (by omega)] at hn'; exact hn'.symm
    subst en
    exact (hon i hi).1
  have e17 : I 17 i 0 = Int32.ofNat k0 := by
    have := (hR.1.2.2.2.2.1 i (by rw [hn, in_cl (by omega)]; exact hi)).1
    rw [sv_17, hk0] at this
    exact this
  refine e_97 ⟨in_in (by omega) (by omega), ?_⟩
  rw [in_cl (by omega), e17]
  have key := lp_up (P := fun k => ∀ K k', k' ≤ 5 → fr fr_kd I K → rx_w (pu_kd σ i k') (sv K) → Ex (d + 7) 97 (19, [vR 5 0, vR 12 s, vI (Int32.ofNat i), vI (Int32.ofNat k0), vI (pu_bb (fun k => pu_any (pu_kd σ i k) s) k), vI (Int32.ofNat k)], [], ma_mem K o, 0, 0) (ma_end Q)) 6 ?_ ?_
  · exact key 0 (by omega) I k0 hk5 (fr_refl _ _) (by rw [kd_id hk0]; exact hR)
  · intro K k' hk' hK hRK
    refine b_97_19 ⟨fun _ => ?_, fun c => absurd c (by decide)⟩
    refine xs_18 (σ := pu_kd σ i k') (kd_iv hg hk') hRK hn hn8 hi hk5 (fun L hL hRL => ⟨rfl, ?_⟩)
    rw [kd_kd, kd_id hk0] at hRL
    exact h L (fr_trans hK (fr_mono hL (by decide))) hRL
  · intro k hk ih K k' hk' hK hRK
    refine b_97_19 ⟨fun c => ?_, fun _ => ?_⟩
    · have := (in_le (a := 6) (by decide) (by omega)).mp c
      omega
    · refine xs_18 (σ := pu_kd σ i k') (kd_iv hg hk') hRK hn hn8 hi (by omega) (fun L hL hRL => ⟨rfl, ?_⟩)
      rw [kd_kd] at hRL
      have hfL : fr fr_kd I L := fr_trans hK (fr_mono hL (by decide))
      have hSL : rx_s (pu_kd σ i k) (sv L) := rs_fr hfL (by decide) (by decide) hS
      refine xs_94 (σ := pu_kd σ i k) (kd_iv hg (by omega)) hRL hc hSL (fun M hM => ⟨_, rfl, ?_⟩)
      have hfM : fr fr_kd I M := fr_trans hfL (fr_mono hM (by decide))
      have ih' := ih M k (by omega) hfM (by rw [sv_fr hM (by decide)]; exact hRL)
      unfold pu_bb at ih'
      rw [in_a1]
      refine ⟨fun c => ?_, fun c => ?_⟩
      · rw [if_neg (fun hh => any_iff.mp hh c)] at ih'; exact ih'
      · rw [if_pos (any_iff.mpr c)] at ih'; exact ih'
theorem xs_91 {a b : Int32} (hg : iv_g σ) (hR : rx_w σ (sv I)) (hiv : iv_s σ) (hS : rx_s σ (sv I)) (h : ∀ I', fr fr_kd I I' → rx_w σ (sv I') → Q (some (.inl (an_covers σ a b))) I' o) : Exm (d + 8) 91 [.inr (.inr (5, 0)), .inl a, .inl b] I o Q := by
  have hI := h I (fr_refl _ _) hR
  have hn := (A_le hg.2.2.1)
  have e4 : I 6 0 4 = σ 40 0 4 := by have := hR.2; rw [sv_6] at this; exact this
  unfold an_covers at h hI
  have h23 : ∀ v3 : Int32, (v3 = 1 ∧ (0 ≤ b - 10 ∧ b - 10 ≤ σ 40 0 4 - 1)) ∨ (v3 = 0 ∧ ¬(0 ≤ b - 10 ∧ b - 10 ≤ σ 40 0 4 - 1)) → Ex (d + 8) 91 (23, [vR 5 0, vI a, vI b, vI v3, none], [], ma_mem I o, 0, 0) (ma_end Q) := by
    intro v3 hv3
    have h46 : 0 ≤ a ∧ a ≤ 3 → (0 ≤ b ∧ b ≤ 3) ∨ (0 ≤ b - 10 ∧ b - 10 ≤ σ 40 0 4 - 1) → Ex (d + 8) 91 (46, [vR 5 0, vI a, vI b, vI v3, none], [], ma_mem I o, 0, 0) (ma_end Q) := by
      intro ca cb
      rw [if_pos ca, if_pos cb] at h hI
      obtain ⟨s, hs, e⟩ := sh_of ca
      subst e
      rw [in_cl (by omega)] at h hI
      have e12 : I 12 s 0 = σ 61 0 s := by have := (hS s hs).1; rw [sv_12] at this; exact this
      refine b_91_46 ?_
      rw [in_cl (by omega), e12]
      refine ⟨in_in (by omega) (by omega), fun c1 => ?_, fun c1 => ?_⟩
      · rw [if_neg c1] at h hI
        refine xs_41 hs hiv hS ⟨_, rfl, fun c2 => ?_, fun c2 => ?_⟩
        · have c2' := xv_bne0.mp c2
          have hc := ct_of hs hiv c2'
          rw [if_pos c2'] at h
          unfold an_cov at h
          have hQ : ∀ I', fr fr_wk I I' → fr fr_kd I I' ∧ rx_w σ (sv I') := fun I' hf => ⟨fr_mono hf (by decide), by rw [sv_fr hf (by decide)]; exact hR⟩
          refine ⟨fun e => ?_, fun n0 => ⟨fun e => ?_, fun n1 => ⟨fun e => ?_, fun n2 => ⟨fun e => ?_, fun n3 => ?_⟩⟩⟩⟩
          · rw [if_pos e] at h
            exact xs_93 hg hR hc hS (fun I' hf => ⟨_, rfl, h I' (hQ I' hf).1 (hQ I' hf).2⟩)
          · rw [if_neg n0, if_pos e] at h
            exact xs_94 hg hR hc hS (fun I' hf => ⟨_, rfl, h I' (hQ I' hf).1 (hQ I' hf).2⟩)
          · rw [if_neg n0, if_neg n1, if_pos e] at h
            exact xs_95 hg hR hc hS (fun I' hf => ⟨_, rfl, h I' (hQ I' hf).1 (hQ I' hf).2⟩)
          · rw [if_neg n0, if_neg n1, if_neg n2, if_pos e] at h
            exact xs_96 hg hR hc hS (fun I' hf => ⟨_, rfl, h I' (hQ I' hf).1 (hQ I' hf).2⟩)
          · rw [if_neg n0, if_neg n1, if_neg n2, if_neg n3] at h
            have cb' : 0 ≤ b - 10 ∧ b - 10 ≤ σ 40 0 4 - 1 := by
              rcases cb with cb | cb
              · exfalso
                obtain ⟨m, hm, e⟩ := in_ub (b := 3) (by decide) cb.1 cb.2
                rcases (by omega : m = 0 ∨ m = 1 ∨ m = 2 ∨ m = 3) with w | w | w | w <;> subst w
                · exact n0 e
                · exact n1 e
                · exact n2 e
                · exact n3 e
              · exact cb
            rw [hn.2.1] at cb'
            obtain ⟨i, hi, ei⟩ := or_of (by have := hn.1; omega) cb'
            rw [ei, in_cl (by have := hn.1; omega)] at h
            rw [ei]
            exact xs_97 hg hR hc hS hn.2.1 hn.1 hi (fun I' hf hR' => ⟨_, rfl, h I' hf hR'⟩)
        · rw [if_neg (xv_beq0.mp c2)] at hI
          exact hI
      · rw [if_pos c1] at hI
        exact hI
    refine b_91_23 ⟨fun ca => ?_, fun ca => ⟨fun cb => h46 ca (Or.inl cb), fun cb => ⟨fun c3 => ?_, fun c3 => ?_⟩⟩⟩
    · rw [if_neg ca] at hI; exact hI
    · rcases hv3 with ⟨-, w⟩ | ⟨w, -⟩
      · exact h46 ca (Or.inr w)
      · exact absurd w c3
    · rcases hv3 with ⟨w, -⟩ | ⟨-, w⟩
      · rw [w] at c3; exact absurd c3 (by decide)
      · rw [if_pos ca, if_neg (by rintro (q | q); exact cb q; exact w q)] at hI
        exact hI
  refine e_91 ?_
  rw [e4]
  refine ⟨fun c => h23 0 (Or.inr ⟨rfl, ?_⟩), fun c => ⟨fun c2 => h23 0 (Or.inr ⟨rfl, c2⟩), fun c2 => h23 1 (Or.inl ⟨rfl, c2⟩)⟩⟩
  rw [hn.2.1]
  rintro ⟨q1, q2⟩
  obtain ⟨i, hi, ei⟩ := or_of (by have := hn.1; omega) ⟨q1, q2⟩
  have hb : b = Int32.ofNat (i + 10) := by
    have : b = (b - 10) + 10 := by rw [Int32.sub_add_cancel]
    rw [this, ei]
    exact (Int32.ofNat_add i 10).symm
  rw [hb] at c
  have := (in_lt (b := 10) (by have := hn.1; omega) (by decide)).mp c
  omega
end PUT

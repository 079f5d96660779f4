/-! ===== how long it is under way, what it costs, how bad it is ===== -/
theorem wi_0 (v : Int32) : xv_wi v 1 40 = pu_cp 0 v := by
  show _ = xv_hi 1 (xv_lo 40 v)
  unfold xv_wi xv_hi xv_lo
  have e1 : (1 : Int32).toInt = 1 := rfl
  have e40 : (40 : Int32).toInt = 40 := rfl
  simp only [Int32.lt_iff_toInt_lt]
  repeat' split
  all_goals first | rfl | (exfalso; omega) | (apply Int32.toInt.inj; omega)
theorem wi_1 (v : Int32) : xv_wi v 0 99 = pu_cp 1 v := by
  show _ = xv_hi 0 (xv_lo 99 v)
  unfold xv_wi xv_hi xv_lo
  have e1 : (0 : Int32).toInt = 0 := rfl
  have e40 : (99 : Int32).toInt = 99 := rfl
  simp only [Int32.lt_iff_toInt_lt]
  repeat' split
  all_goals first | rfl | (exfalso; omega) | (apply Int32.toInt.inj; omega)
theorem wi_2 (v : Int32) : xv_wi v 0 999 = pu_cp 2 v := by
  show _ = xv_hi 0 (xv_lo 999 v)
  unfold xv_wi xv_hi xv_lo
  have e1 : (0 : Int32).toInt = 0 := rfl
  have e40 : (999 : Int32).toInt = 999 := rfl
  simp only [Int32.lt_iff_toInt_lt]
  repeat' split
  all_goals first | rfl | (exfalso; omega) | (apply Int32.toInt.inj; omega)
theorem nm_fr {I : ma_I} {a b c d e f : Int32} : fr [22, 26] I (ma_up (ma_up (ma_up (ma_up (ma_up (ma_up I 26 0 0 a) 26 0 1 b) 26 0 2 c) 26 0 3 d) 26 0 4 e) 26 0 5 f) := by
  refine fr_upg (fr_upg (fr_upg (fr_upg (fr_upg (fr_upg (fr_refl _ _) ?_ ?_ ?_) ?_ ?_ ?_) ?_ ?_ ?_) ?_ ?_ ?_) ?_ ?_ ?_) ?_ ?_ ?_ <;> decide
theorem nm_rd {I : ma_I} {a b c d e f : Int32} : ∀ j, j < 6 → (ma_up (ma_up (ma_up (ma_up (ma_up (ma_up I 26 0 0 a) 26 0 1 b) 26 0 2 c) 26 0 3 d) 26 0 4 e) 26 0 5 f) 26 0 j = pu_nm a b c d e f j := by
  intro j hj
  match j, hj with
  | 0, _ => rfl
  | 1, _ => rfl
  | 2, _ => rfl
  | 3, _ => rfl
  | 4, _ => rfl
  | 5, _ => rfl
section XS5
variable {d : Nat} {I : ma_I} {o : Nat} {Q : ma_Q} {σ : ma_I}
theorem xs_21 {b n : Nat} {a2 a3 a4 : Int32} (htx : iv_tx σ) (hn : σ 40 0 4 = Int32.ofNat n) (hn8 : n ≤ 8) (hb : b < n) (hR : rx_v σ (sv I)) (h : ∀ I', fr [22, 26] I I' → Q (some (.inl (pu_ls σ b a2 a3 a4))) I' o) : Exm (d + 1) 21 [.inr (.inr (6, 0)), .inl (Int32.ofNat b), .inl a2, .inl a3, .inl a4] I o Q := by
  have htx' := htx
  obtain ⟨n6, t, hn6, hr6, h6, hrn, hw⟩ := htx
  have h68 : I 6 0 8 = Int32.ofNat t := by have := hR.2.2.2.1; rw [sv_6, hr6] at this; exact this
  have ho := hR.2.2.2.2.1 b (by rw [hn, in_cl (by omega)]; exact hb)
  have ho2 := ho
  obtain ⟨r0, r1, r2, r3, r4, r5⟩ := ho
  rw [sv_17] at r0 r1 r2 r3 r4 r5
  refine e_21 ?_
  rw [h68, in_cl (by omega), in_cl (by omega), r1, r2]
  refine ⟨in_in (by omega) (by omega), in_in (by omega) (by omega), ?_⟩
  refine xs_55 (p := 0) (nm := pu_nm a2 (σ 45 0 b) a3 (σ 44 0 b) (Int32.ofNat b) a4) (by omega) htx' (by rw [sv_fr (nm_fr (I := I)) (by decide)]; exact hR) hr6 (by rw [hn6, in_cl (by omega)]; exact hrn) nm_rd (fun J hJ => ⟨_, rfl, ?_⟩)
  have hfJ : fr [22, 26] I J := fr_trans nm_fr (fr_mono hJ (by decide))
  refine xs_11 (σ := σ) (by rw [sv_fr hfJ (by decide)]; exact ho2) ⟨_, rfl, ?_⟩
  have h' := h J hfJ
  unfold pu_ls pu_sy at h'
  rw [hr6, in_cl (by omega)] at h'
  rw [wi_0]
  exact h'
theorem xs_22 {b n : Nat} (htx : iv_tx σ) (hn : σ 40 0 4 = Int32.ofNat n) (hn8 : n ≤ 8) (hb : b < n) (hR : rx_v σ (sv I)) (h : ∀ I', fr [22, 26] I I' → Q (some (.inl (pu_co σ b))) I' o) : Exm (d + 1) 22 [.inr (.inr (6, 0)), .inl (Int32.ofNat b)] I o Q := by
  have htx' := htx
  obtain ⟨n6, t, hn6, hr6, h6, hrn, hw⟩ := htx
  have h68 : I 6 0 8 = Int32.ofNat t := by have := hR.2.2.2.1; rw [sv_6, hr6] at this; exact this
  have ho := hR.2.2.2.2.1 b (by rw [hn, in_cl (by omega)]; exact hb)
  obtain ⟨r0, r1, r2, r3, r4, r5⟩ := ho
  rw [sv_17] at r0 r1 r2 r3 r4 r5
  refine e_22 ?_
  rw [h68, in_cl (by omega), in_cl (by omega), r1, r2, r4, r5]
  refine ⟨in_in (by omega) (by omega), in_in (by omega) (by omega), ?_⟩
  refine xs_55 (p := 1) (nm := pu_nm (σ 47 0 b) (σ 45 0 b) 0 (σ 44 0 b) (Int32.ofNat b) (σ 48 0 b - σ 47 0 b)) (by omega) htx' (by rw [sv_fr (nm_fr (I := I)) (by decide)]; exact hR) hr6 (by rw [hn6, in_cl (by omega)]; exact hrn) nm_rd (fun J hJ => ⟨_, rfl, ?_⟩)
  have h' := h J (fr_trans nm_fr (fr_mono hJ (by decide)))
  unfold pu_co pu_sy at h'
  rw [hr6, in_cl (by omega)] at h'
  rw [wi_1]
  exact h'
theorem xs_23 {a1 a2 a3 a4 : Int32} (htx : iv_tx σ) (hR : rx_v σ (sv I)) (h : ∀ I', fr [22, 26] I I' → Q (some (.inl (pu_sy σ 2 (pu_nm a2 a1 a3 0 0 a4)))) I' o) : Exm (d + 1) 23 [.inr (.inr (6, 0)), .inl a1, .inl a2, .inl a3, .inl a4] I o Q := by
  have htx' := htx
  obtain ⟨n6, t, hn6, hr6, h6, hrn, hw⟩ := htx
  have h68 : I 6 0 8 = Int32.ofNat t := by have := hR.2.2.2.1; rw [sv_6, hr6] at this; exact this
  refine e_23 ?_
  rw [h68, in_cl (by omega)]
  refine ⟨in_in (by omega) (by omega), ?_⟩
  refine xs_55 (p := 2) (nm := pu_nm a2 a1 a3 0 0 a4) (by omega) htx' (by rw [sv_fr (nm_fr (I := I)) (by decide)]; exact hR) hr6 (by rw [hn6, in_cl (by omega)]; exact hrn) nm_rd (fun J hJ => ⟨_, rfl, ?_⟩)
  have h' := h J (fr_trans nm_fr (fr_mono hJ (by decide)))
  unfold pu_sy at h'
  rw [hr6, in_cl (by omega)] at h'
  rw [wi_2]
  exact h'
end XS5
/-! ===== a letter's way in the class ===== -/
theorem go_skip {σ : ma_I} {there : Int32} {d0 : Nat} {r : Int32 × pu_W} {h : Int32} {s : Nat} {was : Nat → Int32} {used : Int32} {rd : Bool} (hs : ¬σ 40 0 0 < Int32.ofNat s) : ∀ (m n dd at' : Nat), at' = dd + m → at' ≤ 99 → pu_go σ there d0 n (h, dd, s, was, used, rd) = some r → (∀ j, dd ≤ j → j < at' → pu_li σ (Int32.ofNat j) ≠ h ∧ pu_by σ h j there = none) → ∃ n', pu_go σ there d0 n' (h, at', s, was, used, rd) = some r := by
  intro m
  induction m with
  | zero =>
    intro n dd at' e _ hr _
    have : at' = dd := by omega
    subst this
    exact ⟨n, hr⟩
  | succ m ih =>
    intro n dd at' e h99 hr hj
    match n, hr with
    | 0, hr => cases hr
    | n + 1, hr =>
      obtain ⟨h1, h2⟩ := hj dd (Nat.le_refl dd) (by omega)
      unfold pu_go at hr
      rw [if_pos (by omega : dd < 99), if_neg h1, if_neg (by rintro (e1 | e1); exact hs e1; omega), h2] at hr
      dsimp only at hr
      rw [if_neg (by omega)] at hr
      exact ih n (dd + 1) at' (by omega) h99 hr (fun j h3 h4 => hj j (by omega) h4)
abbrev fr_wk : List Nat := [10, 32, 22, 26]
/-- what the class keeps of a letter's way -/
def xs_R (I : ma_I) (d0 : Nat) (r : Int32 × pu_W) : Prop := I 10 0 0 = r.1 ∧ I 10 0 1 = Int32.ofNat r.2.2.1 ∧ I 10 0 2 = r.2.1 ∧ I 10 0 3 = Int32.ofNat r.2.2.2.1 ∧ I 10 0 4 = Int32.ofNat (r.2.2.2.1 + 1) ∧ I 10 0 5 = r.2.2.2.2.2.1 ∧ I 10 0 6 = xv_b (r.2.2.2.2.2.2 = true) ∧ I 10 0 7 = Int32.ofNat d0 ∧ ∀ k, k ≤ r.2.2.2.1 → I 32 0 k = r.2.2.2.2.1 k
section XS6
variable {d : Nat} {I : ma_I} {o : Nat} {Q : ma_Q} {σ : ma_I}
theorem xs_59 {s : Nat} (h4 : I 10 0 4 = Int32.ofNat (s + 1)) (hs : s + 1 < 22) (h : Q none (ma_up (ma_up I 32 0 (s + 1) (I 10 0 2)) 10 0 4 (Int32.ofNat (s + 1 + 1))) o) : Exm d 59 [.inr (.inr (10, 0))] I o Q := by
  refine e_59 ?_
  rw [h4, in_cl (by omega), in_a1]
  refine ⟨fun c => ?_, fun _ => ⟨in_in (by omega) (by omega), h⟩⟩
  have := (in_le (a := 22) (by decide) (by omega)).mp c
  omega
/-- one stop: it stays, and is sent on, or ends -/
theorem xs_58 {there : Int32} {d0 n dd s hh : Nat} {was : Nat → Int32} {used : Int32} {rd : Bool} {r : Int32 × pu_W} (hg : iv_g σ) (hR : rx_v σ (sv I)) (hr : pu_go σ there d0 n (Int32.ofNat hh, dd, s, was, used, rd) = some r) (h8 : hh < 8) (h0 : d0 ≤ dd) (hdd : dd < 100) (hst : ¬σ 40 0 0 < Int32.ofNat s) (hs : s ≤ 20)
    (hX : xs_R I d0 (-1, Int32.ofNat hh, dd, s, was, used, rd))
    (h : ∀ I', fr fr_wk I I' → (xs_R I' d0 r ∨ ∃ n' dd' hh' was' used' rd', pu_go σ there d0 n' (Int32.ofNat hh', dd', s + 1, was', used', rd') = some r ∧ hh' < 8 ∧ d0 ≤ dd' ∧ dd' ≤ 200 ∧ xs_R I' d0 (-1, Int32.ofNat hh', dd', s + 1, was', used', rd')) → Q none I' o) :
    Exm (d + 3) 58 [.inr (.inr (10, 0)), .inr (.inr (6, 0)), .inl there] I o Q := by
  have hg' := hg
  obtain ⟨⟨tk, htk, htk1, htk2⟩, hmv, hod, htx⟩ := hg
  obtain ⟨x0, x1, x2, x3, x4, x5, x6, x7, x8⟩ := hX
  dsimp only at x0 x1 x2 x3 x4 x5 x6 x7 x8
  refine e_58 ?_
  rw [x1, x2]
  refine xs_19 hod hR h8 hdd (fun at' ha1 ha2 hj hend => ⟨_, rfl, ?_⟩)
  obtain ⟨n', hr'⟩ := go_skip (there := there) (d0 := d0) hst (at' - dd) n dd at' (by omega) ha2 hr hj
  have hf1 : fr fr_wk I (ma_up I 10 0 1 (Int32.ofNat at')) := fr_upg (fr_refl _ _) (by decide) (by decide) (by decide)
  have hsv1 : sv (ma_up I 10 0 1 (Int32.ofNat at')) = sv I := sv_fr hf1 (by decide)
  rw [x2]
  refine xs_20 hod (by rw [hsv1]; exact hR) h8 (by omega) ⟨_, rfl, ?_⟩
  rw [xv_us]
  refine xs_14 (by omega) (by rw [hsv1]; exact hR) ⟨_, rfl, ?_⟩
  have y1 : ∀ j, j ≠ 1 → ma_up I 10 0 1 (Int32.ofNat at') 10 0 j = I 10 0 j := fun j hj => up_j hj
  rw [xv_us, y1 2 (by decide), y1 3 (by decide), y1 7 (by decide), x2, x3, x7]
  match n', hr' with
  | 0, hr' => cases hr'
  | n' + 1, hr' =>
    unfold pu_go at hr'
    refine ⟨fun c1 => ?_, fun c1 => ?_⟩
    · rw [if_neg c1, if_neg (by rintro (e1 | e1); exact hst e1; omega)] at hr'
      cases hby : pu_by σ (Int32.ofNat hh) at' there with
      | none =>
        rw [hby] at hr'
        dsimp only at hr'
        refine ⟨fun c => absurd rfl c, fun _ => ?_⟩
        have h99 : at' = 99 := by
          rcases hend with e | e | e
          · exact e
          · exfalso
            apply c1
            by_cases e99 : at' < 99
            · rw [if_pos e99]; exact e
            · rw [if_neg e99]
              have : at' = 99 := by omega
              subst this; exact e
          · exact absurd hby e
        rw [if_pos h99] at hr'
        have hre := (Option.some.inj hr').symm
        refine h _ (fr_upg hf1 (by decide) (by decide) (by decide)) (Or.inl ?_)
        subst hre
        refine ⟨xv_us, ?_, ?_, ?_, ?_, ?_, ?_, ?_, ?_⟩
        · rw [up_j (by decide), xv_us]
        · rw [up_j (by decide), up_j (by decide)]; exact x2
        · rw [up_j (by decide), up_j (by decide)]; exact x3
        · rw [up_j (by decide), up_j (by decide)]; exact x4
        · rw [up_j (by decide), up_j (by decide)]; exact x5
        · rw [up_j (by decide), up_j (by decide)]; exact x6
        · rw [up_j (by decide), up_j (by decide)]; exact x7
        · intro k hk
          rw [up_g (by decide), up_g (by decide)]; exact x8 k hk
      | some b =>
        rw [hby] at hr'
        dsimp only at hr'
        obtain ⟨nn, hnn, hn8, hon⟩ := hod
        have hb : b < nn := by
          unfold pu_by at hby
          rw [hnn, in_cl (by omega)] at hby
          have := (ft_some _ _ _ hby).2.1
          omega
        have een : pu_en (some b) = Int32.ofNat b := rfl
        rw [een]
        refine ⟨fun _ => ?_, fun c => absurd c (in_nm (by omega))⟩
        have esub : Int32.ofNat at' - Int32.ofNat d0 = Int32.ofNat (at' - d0) := (Int32.ofNat_sub at' d0 (by omega)).symm
        rw [esub]
        refine xs_21 htx hnn hn8 hb (by rw [hsv1]; exact hR) (fun J hJ => ⟨_, rfl, in_in (by omega) (by omega), ?_⟩)
        have hfJ : fr fr_wk I J := fr_trans hf1 (fr_mono hJ (by decide))
        have hJ1 : ∀ j, J 10 0 j = ma_up I 10 0 1 (Int32.ofNat at') 10 0 j := fun j => fr_g hJ 10 0 j (by decide) (by decide) (by decide)
        have j3 : J 10 0 3 = Int32.ofNat s := by rw [hJ1, y1 3 (by decide)]; exact x3
        have j4 : J 10 0 4 = Int32.ofNat (s + 1) := by rw [hJ1, y1 4 (by decide)]; exact x4
        have j5 : J 10 0 5 = used := by rw [hJ1, y1 5 (by decide)]; exact x5
        have j6 : J 10 0 6 = xv_b (rd = true) := by rw [hJ1, y1 6 (by decide)]; exact x6
        have j7 : J 10 0 7 = Int32.ofNat d0 := by rw [hJ1, y1 7 (by decide)]; exact x7
        have j0 : J 10 0 0 = -1 := by rw [hJ1, y1 0 (by decide)]; exact x0
        have j32 : ∀ k, k ≤ s → J 32 0 k = was k := fun k hk => by
          rw [fr_g hJ 32 0 k (by decide) (by decide) (by decide), up_g (by decide)]; exact x8 k hk
        have j17 : J 17 b 3 = σ 46 0 b := by
          rw [fr_g hfJ 17 b 3 (by decide) (by decide) (by decide)]
          have := (hR.2.2.2.2.1 b (by rw [hnn, in_cl (by omega)]; exact hb)).2.2.2.1
          rw [sv_17] at this
          exact this
        obtain ⟨l, hl, hl1, hl98⟩ := ls_rg (a := Int32.ofNat at') (b := Int32.ofNat s) (c := Int32.ofNat (at' - d0)) (hon b hb).2.1
        obtain ⟨h2, hh2, -, hh7⟩ := (hon b hb).2.2.2.1
        rw [hl] at hr' ⊢
        rw [in_cl (by omega)] at hr' ⊢
        have el : Int32.ofNat at' + Int32.ofNat l = Int32.ofNat (at' + l) := (Int32.ofNat_add at' l).symm
        rw [el, j3, j5, j17, in_a1]
        rw [hh2] at hr' ⊢
        have hfin : ∀ x : Int32, x = xv_b ((rd || bt used b) = true) → Exm (d + 2) 59 [.inr (.inr (10, 0))] (ma_up (ma_up (ma_up (ma_up (ma_up J 10 0 1 (Int32.ofNat (at' + l))) 10 0 2 (Int32.ofNat h2)) 10 0 3 (Int32.ofNat (s + 1))) 10 0 6 x) 10 0 5 (used ||| 1 <<< (Int32.ofNat b &&& 31))) o (fun r J13 p14 => r = none ∧ Q none J13 p14) := by
          intro x hx
          refine xs_59 (s := s) ?_ (by omega) ⟨rfl, ?_⟩
          · rw [up_j (by decide), up_j (by decide), up_j (by decide), up_j (by decide), up_j (by decide)]; exact j4
          · refine h _ ?_ (Or.inr ⟨n', at' + l, h2, _, _, _, hr', by omega, by omega, by omega, ?_⟩)
            · exact fr_upg (fr_upg (fr_upg (fr_upg (fr_upg (fr_upg (fr_upg hfJ (by decide) (by decide) (by decide)) (by decide) (by decide) (by decide)) (by decide) (by decide) (by decide)) (by decide) (by decide) (by decide)) (by decide) (by decide) (by decide)) (by decide) (by decide) (by decide)) (by decide) (by decide) (by decide)
            · refine ⟨?_, ?_, ?_, ?_, xv_us, ?_, ?_, ?_, ?_⟩
              · rw [up_j (by decide), up_g (by decide), up_j (by decide), up_j (by decide), up_j (by decide), up_j (by decide), up_j (by decide)]; exact j0
              · rw [up_j (by decide), up_g (by decide), up_j (by decide), up_j (by decide), up_j (by decide), up_j (by decide), xv_us]
              · rw [up_j (by decide), up_g (by decide), up_j (by decide), up_j (by decide), up_j (by decide), xv_us]
              · rw [up_j (by decide), up_g (by decide), up_j (by decide), up_j (by decide), xv_us]
              · rw [up_j (by decide), up_g (by decide), xv_us]
              · rw [up_j (by decide), up_g (by decide), up_j (by decide), xv_us]; exact hx
              · rw [up_j (by decide), up_g (by decide), up_j (by decide), up_j (by decide), up_j (by decide), up_j (by decide), up_j (by decide)]; exact j7
              · intro k hk
                rw [up_g (by decide)]
                dsimp only
                by_cases e : k = s + 1
                · subst e
                  rw [xv_us, up_j (by decide), up_j (by decide), up_j (by decide), xv_us, if_pos rfl]
                · rw [up_j e, if_neg e, up_g (by decide), up_g (by decide), up_g (by decide), up_g (by decide), up_g (by decide)]
                  exact j32 k (by dsimp only at hk; omega)
        refine ⟨fun c2 => ?_, fun c2 => ⟨fun c3 => ?_, fun c3 => ?_⟩⟩
        · rw [j6] at c2
          have := xv_bne0.mp c2
          exact hfin 1 (by rw [xv_b1 (by rw [this]; rfl)])
        · rw [j6] at c2
          have h5 := xv_beq0.mp c2
          have h6 := (bt_01 used b (by omega)).mp c3
          exact hfin 0 (by rw [xv_b0 (by rw [h6]; simpa using h5)])
        · have h6 : bt used b = true := by
            cases hbt : bt used b with
            | true => rfl
            | false => exact absurd ((bt_01 used b (by omega)).mpr hbt) c3
          exact hfin 1 (by rw [xv_b1 (by rw [h6]; simp)])
    · rw [if_pos c1] at hr'
      have hre := (Option.some.inj hr').symm
      refine h _ (fr_upg hf1 (by decide) (by decide) (by decide)) (Or.inl ?_)
      subst hre
      refine ⟨xv_us, ?_, ?_, ?_, ?_, ?_, ?_, ?_, ?_⟩
      · rw [up_j (by decide), xv_us]
      · rw [up_j (by decide), up_j (by decide)]; exact x2
      · rw [up_j (by decide), up_j (by decide)]; exact x3
      · rw [up_j (by decide), up_j (by decide)]; exact x4
      · rw [up_j (by decide), up_j (by decide)]; exact x5
      · rw [up_j (by decide), up_j (by decide)]; exact x6
      · rw [up_j (by decide), up_j (by decide)]; exact x7
      · intro k hk
        rw [up_g (by decide), up_g (by decide)]; exact x8 k hk
end XS6

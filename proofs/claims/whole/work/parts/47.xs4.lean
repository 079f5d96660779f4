/-! ===== a letter's way in the class, whole ===== -/
section XS7
variable {d : Nat} {I : ma_I} {o : Nat} {Q : ma_Q} {σ : ma_I}
theorem xs_57e {I' : ma_I} {d0 : Nat} {r : Int32 × pu_W} {a2 a3 a4 a5 : Int32} (hX : xs_R I' d0 r) (hr : r.1 ≠ -1) (h : Q none I' o) : Ex (d + 1) 57 (50, [vR 10 0, vR 6 0, vI a2, vI a3, vI a4, vI a5], [], ma_mem I' o, 0, 0) (ma_end Q) := by
  refine b_57_50 ⟨fun _ => h, fun _ => ⟨fun _ => h, fun c => ?_⟩⟩
  rw [hX.1] at c
  exact absurd c hr
theorem xs_57l {there a2 a3 : Int32} {d0 : Nat} {r : Int32 × pu_W} (hg : iv_g σ) (hR : rx_v σ (sv I)) (hr1 : r.1 ≠ -1) (hQ : ∀ I', fr fr_wk I I' → xs_R I' d0 r → Q none I' o) :
    ∀ (m s : Nat), s + m = 21 → ∀ (I' : ma_I) (n dd hh : Nat) (was : Nat → Int32) (used : Int32) (rd : Bool), fr fr_wk I I' → pu_go σ there d0 n (Int32.ofNat hh, dd, s, was, used, rd) = some r → hh < 8 → d0 ≤ dd → dd ≤ 200 → xs_R I' d0 (-1, Int32.ofNat hh, dd, s, was, used, rd) →
    Ex (d + 4) 57 (50, [vR 10 0, vR 6 0, vI a2, vI a3, vI there, vI (Int32.ofNat s)], [], ma_mem I' o, 0, 0) (ma_end Q) := by
  have hg' := hg
  obtain ⟨⟨tk, htk, htk1, htk2⟩, hmv, hod, htx⟩ := hg
  intro m
  induction m with
  | zero =>
    intro s hsm I' n dd hh was used rd hf hr h8 h0 h200 hX
    have hs : s = 21 := by omega
    subst hs
    have hsv : sv I' = sv I := sv_fr hf (by decide)
    have hX' := hX
    obtain ⟨x0, x1, x2, x3, x4, x5, x6, x7, x8⟩ := hX
    dsimp only at x0 x1 x2 x3 x4 x5 x6 x7 x8
    have e6 : I' 6 0 0 = Int32.ofNat tk := by have := hR.1; rw [sv_6, htk] at this; rw [fr_g hf 6 0 0 (by decide) (by decide) (by decide)]; exact this
    match n, hr with
    | 0, hr => cases hr
    | n + 1, hr =>
      unfold pu_go at hr
      have hend : ∀ e, e ≠ -1 → r = (e, Int32.ofNat hh, dd, 21, was, used, rd) → Ex (d + 4) 57 (50, [vR 10 0, vR 6 0, vI a2, vI a3, vI there, vI (Int32.ofNat 21 + 1)], [], ma_mem (ma_up I' 10 0 0 e) o, 0, 0) (ma_end Q) := by
        intro e he hre
        have hXe : xs_R (ma_up I' 10 0 0 e) d0 r := by
          subst hre
          refine ⟨xv_us, ?_, ?_, ?_, ?_, ?_, ?_, ?_, ?_⟩
          · rw [up_j (by decide)]; exact x1
          · rw [up_j (by decide)]; exact x2
          · rw [up_j (by decide)]; exact x3
          · rw [up_j (by decide)]; exact x4
          · rw [up_j (by decide)]; exact x5
          · rw [up_j (by decide)]; exact x6
          · rw [up_j (by decide)]; exact x7
          · intro k hk
            rw [up_g (by decide)]; exact x8 k hk
        exact xs_57e hXe hr1 (hQ _ (fr_upg hf (by decide) (by decide) (by decide)) hXe)
      refine b_57_50 ⟨fun c => absurd c (by decide), fun _ => ⟨fun c => absurd x0 c, fun _ => ?_⟩⟩
      rw [x1]
      refine xs_14 (by omega) (by rw [hsv]; exact hR) ⟨_, rfl, ?_⟩
      rw [x2, e6, x3]
      have hlt : Int32.ofNat tk < Int32.ofNat 21 := (in_lt (by omega) (by omega)).mpr (by omega)
      refine ⟨fun c1 => ⟨fun c2 => ?_, fun c2 => absurd hlt (Int32.not_lt.mpr c2)⟩, fun c1 => ?_⟩
      · rw [if_neg c1, if_pos (Or.inl (by rw [htk]; exact c2))] at hr
        exact hend 1 (by decide) (Option.some.inj hr).symm
      · rw [if_pos c1] at hr
        exact hend 0 (by decide) (Option.some.inj hr).symm
  | succ m ih =>
    intro s hsm I' n dd hh was used rd hf hr h8 h0 h200 hX
    have hsv : sv I' = sv I := sv_fr hf (by decide)
    have hX' := hX
    obtain ⟨x0, x1, x2, x3, x4, x5, x6, x7, x8⟩ := hX
    dsimp only at x0 x1 x2 x3 x4 x5 x6 x7 x8
    have e6 : I' 6 0 0 = Int32.ofNat tk := by have := hR.1; rw [sv_6, htk] at this; rw [fr_g hf 6 0 0 (by decide) (by decide) (by decide)]; exact this
    match n, hr with
    | 0, hr => cases hr
    | n + 1, hr =>
      have hr0 := hr
      unfold pu_go at hr
      have hend : ∀ e, e ≠ -1 → r = (e, Int32.ofNat hh, dd, s, was, used, rd) → Ex (d + 4) 57 (50, [vR 10 0, vR 6 0, vI a2, vI a3, vI there, vI (Int32.ofNat s + 1)], [], ma_mem (ma_up I' 10 0 0 e) o, 0, 0) (ma_end Q) := by
        intro e he hre
        have hXe : xs_R (ma_up I' 10 0 0 e) d0 r := by
          subst hre
          refine ⟨xv_us, ?_, ?_, ?_, ?_, ?_, ?_, ?_, ?_⟩
          · rw [up_j (by decide)]; exact x1
          · rw [up_j (by decide)]; exact x2
          · rw [up_j (by decide)]; exact x3
          · rw [up_j (by decide)]; exact x4
          · rw [up_j (by decide)]; exact x5
          · rw [up_j (by decide)]; exact x6
          · rw [up_j (by decide)]; exact x7
          · intro k hk
            rw [up_g (by decide)]; exact x8 k hk
        exact xs_57e hXe hr1 (hQ _ (fr_upg hf (by decide) (by decide) (by decide)) hXe)
      refine b_57_50 ⟨fun c => ?_, fun _ => ⟨fun c => absurd x0 c, fun _ => ?_⟩⟩
      · have := (in_le (a := 22) (by decide) (by omega)).mp c
        omega
      rw [x1]
      refine xs_14 (by omega) (by rw [hsv]; exact hR) ⟨_, rfl, ?_⟩
      rw [x2, e6, x3]
      refine ⟨fun c1 => ⟨fun c2 => ?_, fun c2 => ?_⟩, fun c1 => ?_⟩
      · rw [if_neg c1, if_pos (Or.inl (by rw [htk]; exact c2))] at hr
        exact hend 1 (by decide) (Option.some.inj hr).symm
      · have hst : s ≤ tk := (in_le (by omega) (by omega)).mp c2
        rw [x1]
        refine ⟨fun c3 => ?_, fun c3 => ?_⟩
        · have hdd : dd ≤ 99 := (in_le (b := 99) (by omega) (by decide)).mp c3
          refine xs_58 (σ := σ) hg' (by rw [hsv]; exact hR) hr0 h8 h0 (by omega) (by rw [htk]; exact Int32.not_lt.mpr c2) (by omega) hX' (fun J hJ hor => ⟨rfl, ?_⟩)
          have hfJ := fr_trans hf hJ
          rcases hor with hXJ | ⟨n', dd', hh', was', used', rd', hr', h8', h0', h200', hXJ⟩
          · exact xs_57e hXJ hr1 (hQ _ hfJ hXJ)
          · rw [in_a1]
            exact ih (s + 1) (by omega) J n' dd' hh' was' used' rd' hfJ hr' h8' h0' h200' hXJ
        · have hdd : 99 < dd := (in_lt (a := 99) (by decide) (by omega)).mp c3
          rw [if_neg c1, if_pos (Or.inr (show 100 ≤ dd from hdd))] at hr
          exact hend 1 (by decide) (Option.some.inj hr).symm
      · rw [if_pos c1] at hr
        exact hend 0 (by decide) (Option.some.inj hr).symm
theorem xs_57 {there : Int32} {hh d0 : Nat} (hg : iv_g σ) (hR : rx_v σ (sv I)) (h8 : hh < 8) (hd0 : d0 ≤ 99) (h : ∀ I', fr fr_wk I I' → xs_R I' d0 (pu_rn σ (Int32.ofNat hh) d0 there) → Q none I' o) : Exm (d + 4) 57 [.inr (.inr (10, 0)), .inr (.inr (6, 0)), .inl (Int32.ofNat hh), .inl (Int32.ofNat d0), .inl there] I o Q := by
  have hB := rn_bd (there := there) (h := Int32.ofNat hh) hg ⟨hh, rfl, by omega, by omega⟩ hd0
  have hr1 : (pu_rn σ (Int32.ofNat hh) d0 there).1 ≠ -1 := by
    rcases hB.1 with e | e | e <;> rw [e] <;> decide
  refine e_57 ?_
  refine xs_57l hg hR hr1 h 21 0 rfl _ 300 d0 hh (fun _ => Int32.ofNat hh) 0 false ?_ (rn_eq hg) h8 (Nat.le_refl _) (by omega) ?_
  · exact fr_upg (fr_upg (fr_upg (fr_upg (fr_upg (fr_upg (fr_upg (fr_upg (fr_upg (fr_refl _ _) (by decide) (by decide) (by decide)) (by decide) (by decide) (by decide)) (by decide) (by decide) (by decide)) (by decide) (by decide) (by decide)) (by decide) (by decide) (by decide)) (by decide) (by decide) (by decide)) (by decide) (by decide) (by decide)) (by decide) (by decide) (by decide)) (by decide) (by decide) (by decide)
  · refine ⟨rfl, rfl, rfl, rfl, rfl, rfl, rfl, rfl, fun k hk => ?_⟩
    have : k = 0 := Nat.le_zero.mp hk
    subst this
    rfl
end XS7

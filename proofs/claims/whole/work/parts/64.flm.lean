/-! ===== film, taken, count, force, feed ===== -/
def pu_fk (σ : ma_I) (s n : Nat) (was : Nat → Int32) (k : Nat) : ma_I := fun g i j => if g = 63 ∧ i = 0 ∧ 40 * s ≤ j ∧ j < 40 * s + k then was (j - 40 * s) else pu_sh σ s 0 (Int32.ofNat n) g i j
def pu_fn (σ : ma_I) (b : Int32) (c : Nat) : Nat := if (pu_r σ b c).2.2.2.1 + 1 < 20 then (pu_r σ b c).2.2.2.1 + 1 else 20
def an_film (σ : ma_I) (a b c : Int32) : Int32 := if 0 ≤ a ∧ a ≤ 3 then if 0 ≤ b ∧ b ≤ 7 then if 0 ≤ c ∧ c ≤ 99 then Int32.ofNat (pu_fn σ b c.toNatClampNeg) else -2 else -2 else -2
def st_film (σ : ma_I) (a b c : Int32) : ma_I := if (0 ≤ a ∧ a ≤ 3) ∧ (0 ≤ b ∧ b ≤ 7) ∧ (0 ≤ c ∧ c ≤ 99) then pu_fk σ a.toNatClampNeg (pu_fn σ b c.toNatClampNeg) (pu_r σ b c.toNatClampNeg).2.2.2.2.1 (pu_fn σ b c.toNatClampNeg) else σ
theorem fk_0 {σ : ma_I} {s n : Nat} {was : Nat → Int32} : pu_fk σ s n was 0 = pu_sh σ s 0 (Int32.ofNat n) := by
  funext g i j
  exact if_neg (by omega)
theorem fk_s {σ : ma_I} {s n k : Nat} {was : Nat → Int32} : ma_up (pu_fk σ s n was k) 63 0 (40 * s + k) (was k) = pu_fk σ s n was (k + 1) := by
  funext g i j
  by_cases e : g = 63 ∧ i = 0 ∧ j = 40 * s + k
  · obtain ⟨e1, e2, e3⟩ := e
    subst e1; subst e2; subst e3
    rw [xv_us]
    unfold pu_fk
    rw [if_pos ⟨rfl, rfl, by omega, by omega⟩]
    congr 1
    omega
  · rw [up_ne e]
    unfold pu_fk
    by_cases e2 : g = 63 ∧ i = 0 ∧ 40 * s ≤ j ∧ j < 40 * s + k
    · rw [if_pos e2, if_pos ⟨e2.1, e2.2.1, e2.2.2.1, by omega⟩]
    · rw [if_neg e2, if_neg (fun q => e2 ⟨q.1, q.2.1, q.2.2.1, by
        have : j ≠ 40 * s + k := fun hh => e ⟨q.1, q.2.1, hh⟩
        omega⟩)]
theorem fk_o {σ : ma_I} {s n k : Nat} {was : Nat → Int32} {g i j : Nat} (h1 : g ≠ 61) (h2 : g ≠ 62) (h3 : g ≠ 63) : pu_fk σ s n was k g i j = σ g i j := by
  unfold pu_fk
  rw [if_neg (fun q => h3 q.1)]
  exact sh_o h1 h2 h3
theorem fk_iv {σ : ma_I} {s n k : Nat} {was : Nat → Int32} (h : iv_s σ) (hn : n ≤ 40) : iv_s (pu_fk σ s n was k) := by
  have := sh_iv (s := s) (b := 0) (n := Int32.ofNat n) h (Or.inr ⟨0, rfl, by omega, by omega⟩) ⟨n, rfl, by omega, hn⟩
  intro q hq
  have e1 : pu_fk σ s n was k 61 0 q = pu_sh σ s 0 (Int32.ofNat n) 61 0 q := if_neg (fun q => absurd q.1 (by decide))
  have e2 : pu_fk σ s n was k 62 0 q = pu_sh σ s 0 (Int32.ofNat n) 62 0 q := if_neg (fun q => absurd q.1 (by decide))
  rw [e1, e2]
  exact this q hq
theorem pt_7 {v : Int32} (h : rg v 0 7) : pu_pt 0 v = v := by
  obtain ⟨n, e, -, h7⟩ := h
  subst e
  have : ∀ n, n < 8 → pu_pt 0 (Int32.ofNat n) = Int32.ofNat n := by decide +kernel
  exact this n (by omega)
theorem lo_20 {n : Nat} (h : n < 2147483648) : xv_lo 20 (Int32.ofNat n) = Int32.ofNat (if n < 20 then n else 20) ∧ (if (20 : Int32) < Int32.ofNat n then (20 : Int32) else Int32.ofNat n) = Int32.ofNat (if n < 20 then n else 20) := by
  have e : xv_lo 20 (Int32.ofNat n) = if (20 : Int32) < Int32.ofNat n then (20 : Int32) else Int32.ofNat n := rfl
  have h2 : (if (20 : Int32) < Int32.ofNat n then (20 : Int32) else Int32.ofNat n) = Int32.ofNat (if n < 20 then n else 20) := by
    show (if Int32.ofNat 20 < Int32.ofNat n then Int32.ofNat 20 else Int32.ofNat n) = _
    by_cases c : 20 < n
    · rw [if_pos ((in_lt (a := 20) (by decide) h).mpr c), if_neg (by omega)]
    · rw [if_neg (fun q => c ((in_lt (a := 20) (by decide) h).mp q))]
      by_cases c2 : n < 20
      · rw [if_pos c2]
      · rw [if_neg c2, show n = 20 by omega]
  exact ⟨e.trans h2, h2⟩
section FLM
variable {d : Nat} {I : ma_I} {o : Nat} {Q : ma_Q} {σ : ma_I}
theorem xs_98 {a b c : Int32} (hg : iv_g σ) (hR : rx_w σ (sv I)) (hS : rx_s σ (sv I)) (h : ∀ I', fr [12, 13, 10, 32, 22, 26] I I' → rx_s (st_film σ a b c) (sv I') → Q (some (.inl (an_film σ a b c))) I' o) : Exm (d + 7) 98 [.inr (.inr (5, 0)), .inl a, .inl b, .inl c] I o Q := by
  have hno : ∀ x, an_film σ a b c = x → ¬((0 ≤ a ∧ a ≤ 3) ∧ (0 ≤ b ∧ b ≤ 7) ∧ (0 ≤ c ∧ c ≤ 99)) → Q (some (.inl x)) I o := by
    intro x hx hc
    have := h I (fr_refl _ _) (by unfold st_film; rw [if_neg hc]; exact hS)
    rw [hx] at this
    exact this
  refine e_98 ⟨fun ca => hno _ (if_neg ca) (fun q => ca q.1), fun ca => ⟨fun cb => hno _ (by unfold an_film; rw [if_pos ca, if_neg cb]) (fun q => cb q.2.1), fun cb => ⟨fun cc => ?_, fun cc => hno _ (by unfold an_film; rw [if_pos ca, if_pos cb, if_neg cc]) (fun q => cc q.2.2)⟩⟩⟩
  obtain ⟨s, hs, ea⟩ := sh_of ca
  obtain ⟨hh, h8, eb⟩ := ho_of cb
  obtain ⟨k0, hk0, ec⟩ := da_of cc
  have hst : st_film σ a b c = pu_fk σ s (pu_fn σ b k0) (pu_r σ b k0).2.2.2.2.1 (pu_fn σ b k0) := by unfold st_film; rw [if_pos ⟨ca, cb, cc⟩, ea, ec, in_cl (by omega), in_cl (by omega)]
  have han : an_film σ a b c = Int32.ofNat (pu_fn σ b k0) := by unfold an_film; rw [if_pos ca, if_pos cb, if_pos cc, ec, in_cl (by omega)]
  rw [hst, han] at h
  subst ea
  subst eb
  subst ec
  have hB : go_B k0 (pu_r σ (Int32.ofNat hh) k0) := rn_bd hg ⟨hh, rfl, by omega, by omega⟩ hk0
  have hs21 := hB.2.2.2.1
  have hfn : pu_fn σ (Int32.ofNat hh) k0 ≤ 20 ∧ pu_fn σ (Int32.ofNat hh) k0 ≤ (pu_r σ (Int32.ofNat hh) k0).2.2.2.1 + 1 := by unfold pu_fn; split <;> omega
  refine xs_77 hg hR h8 hk0 (fun J hJ hX => ⟨rfl, in_in (by omega) (by omega), ?_⟩)
  have x4 : J 10 0 4 = Int32.ofNat ((pu_r σ (Int32.ofNat hh) k0).2.2.2.1 + 1) := hX.2.2.2.2.1
  rw [in_cl (by omega), x4, (lo_20 (by omega)).2]
  show Exm (d + 6) 38 [.inr (.inr (12, s)), .inl 0, .inl (Int32.ofNat (pu_fn σ (Int32.ofNat hh) k0))] J o _
  refine xs_38 (fun K h1 h2 h3 h4 h5 => ⟨rfl, ?_⟩)
  have hSJ : rx_s σ (sv J) := by rw [sv_fr hJ (by decide)]; exact hS
  have hSK := rs_sh hs hSJ h2 h3 h4 h5
  have key := lp_up (P := fun k => ∀ L, fr [12, 13] K L → L 12 s 0 = 0 → L 12 s 1 = Int32.ofNat (pu_fn σ (Int32.ofNat hh) k0) → rx_s (pu_fk σ s (pu_fn σ (Int32.ofNat hh) k0) (pu_r σ (Int32.ofNat hh) k0).2.2.2.2.1 k) (sv L) → Ex (d + 7) 98 (59, [vR 5 0, vI (Int32.ofNat s), vI (Int32.ofNat hh), vI (Int32.ofNat k0), vR 12 s, vI (Int32.ofNat k)], [], ma_mem L o, 0, 0) (ma_end Q)) (pu_fn σ (Int32.ofNat hh) k0) ?_ ?_
  · exact key 0 (by omega) K (fr_refl _ _) h3 h4 (by rw [fk_0]; exact hSK)
  · intro L hL l0 l1 hSL
    refine b_98_59 ?_
    rw [l1]
    refine ⟨fun _ => h L ?_ hSL, fun c => absurd c Int32.lt_irrefl⟩
    exact fr_trans (fr_trans (fr_mono hJ (by decide)) (fr_mono h1 (by decide))) (fr_mono hL (by decide))
  · intro k hk ih L hL l0 l1 hSL
    have l4 : L 10 0 4 = Int32.ofNat ((pu_r σ (Int32.ofNat hh) k0).2.2.2.1 + 1) := by rw [fr_g hL 10 0 4 (by decide) (by decide) (by decide), fr_g h1 10 0 4 (by decide) (by decide) (by decide)]; exact x4
    have l32 : L 32 0 k = (pu_r σ (Int32.ofNat hh) k0).2.2.2.2.1 k := by
      rw [fr_g hL 32 0 k (by decide) (by decide) (by decide), fr_g h1 32 0 k (by decide) (by decide) (by decide)]
      exact hX.2.2.2.2.2.2.2.2 k (by omega)
    refine b_98_59 ⟨fun c => ?_, fun _ => ?_⟩
    · rw [l1] at c
      have := (in_le (by omega) (by omega)).mp c
      omega
    · refine e_61 ?_
      rw [l4, in_s1, in_cl (by omega), l32]
      refine ⟨fun c => ?_, fun _ => ⟨in_in (by omega) (by omega), ⟨_, rfl, ?_⟩⟩⟩
      · exact absurd ⟨in_ge0 (by omega), (in_le (by omega) (by omega)).mpr (by omega)⟩ c
      · refine xs_39 (by omega) l0 ⟨rfl, ?_⟩
        rw [pt_7 (hB.2.2.2.2.1 k (by omega)), in_a1]
        refine ih _ (fr_upg hL (by decide) (by decide) (by decide)) (by rw [up_g (by decide)]; exact l0) (by rw [up_g (by decide)]; exact l1) ?_
        rw [← fk_s]
        exact rs_up hs (by omega) hSL
theorem mo_169 {a b c : Int32} (hg : iv_g (mv I)) (h : ∀ I', fr [61, 62, 63, 56, 57, 58, 1033, 1034, 1035, 1036, 1037] I I' → mv I' = st_film (mv I) a b c → Q (some (.inl (an_film (mv I) a b c))) I' o) : Exm (d + 4) 169 [.inr (.inr (40, 0)), .inl a, .inl b, .inl c] I o Q := by
  have hno : ∀ x, an_film (mv I) a b c = x → ¬((0 ≤ a ∧ a ≤ 3) ∧ (0 ≤ b ∧ b ≤ 7) ∧ (0 ≤ c ∧ c ≤ 99)) → Q (some (.inl x)) I o := by
    intro x hx hc
    have := h I (fr_refl _ _) (if_neg hc).symm
    rw [hx] at this
    exact this
  have hal0 : xv_al (I 40 0 4) = pu_all (mv I) := by unfold pu_all; rw [mv_40_4]
  refine e_169 ⟨fun ca => hno _ (if_neg ca) (fun q => ca q.1), fun ca => ⟨fun cb => hno _ (by unfold an_film; rw [if_pos ca, if_neg cb]) (fun q => cb q.2.1), fun cb => ⟨fun cc => ?_, fun cc => hno _ (by unfold an_film; rw [if_pos ca, if_pos cb, if_neg cc]) (fun q => cc q.2.2)⟩⟩⟩
  obtain ⟨s, hs, ea⟩ := sh_of ca
  obtain ⟨hh, h8, eb⟩ := ho_of cb
  obtain ⟨k0, hk0, ec⟩ := da_of cc
  have hst : st_film (mv I) a b c = pu_fk (mv I) s (pu_fn (mv I) b k0) (pu_r (mv I) b k0).2.2.2.2.1 (pu_fn (mv I) b k0) := by unfold st_film; rw [if_pos ⟨ca, cb, cc⟩, ea, ec, in_cl (by omega), in_cl (by omega)]
  have han : an_film (mv I) a b c = Int32.ofNat (pu_fn (mv I) b k0) := by unfold an_film; rw [if_pos ca, if_pos cb, if_pos cc, ec, in_cl (by omega)]
  rw [hst, han] at h
  subst ea
  subst ec
  have hB : go_B k0 (pu_r (mv I) b k0) := rn_bd hg ⟨hh, eb, by omega, by omega⟩ hk0
  have hs21 := hB.2.2.2.1
  have hfn : pu_fn (mv I) b k0 ≤ 20 ∧ pu_fn (mv I) b k0 ≤ (pu_r (mv I) b k0).2.2.2.1 + 1 := by unfold pu_fn; split <;> omega
  rw [hal0]
  refine mo_go hg hk0 (fun J hJ hRJ => ⟨rfl, ?_⟩)
  have hRJ' : mo_R J (pu_r (mv I) b k0) := hRJ
  have j33 : J 40 0 33 = Int32.ofNat ((pu_r (mv I) b k0).2.2.2.1 + 1) := hRJ'.2.2.1
  rw [j33, (lo_20 (by omega)).1]
  show Exm (d + 3) 179 [.inr (.inr (40, 0)), .inl (Int32.ofNat s), .inl 0, .inl (Int32.ofNat (pu_fn (mv I) b k0))] J o _
  refine mo_179 (fun K hK hmvK => ⟨_, rfl, ?_⟩)
  have hmv : mv K = pu_sh (mv I) s 0 (Int32.ofNat (pu_fn (mv I) b k0)) := by
    rw [hmvK, mv_fr hJ (by decide)]
    unfold st_sheet
    rw [if_pos ⟨⟨in_ge0 (by omega), (in_le (b := 3) (by omega) (by decide)).mpr (by omega)⟩, by decide, Or.inr ⟨(in_le (b := 40) (by omega) (by decide)).mpr (by omega), in_ge0 (by omega)⟩⟩, if_neg (by decide), in_cl (by omega)]
  show Ex (d + 4) 169 (57, [vR 40 0, vI (Int32.ofNat s), vI b, vI (Int32.ofNat k0), vI (Int32.ofNat (pu_fn (mv I) b k0)), vI (Int32.ofNat 0)], [], ma_mem K o, 0, 0) (ma_end Q)
  have key := lp_up (P := fun k => ∀ L, fr [63] K L → mv L = pu_fk (mv I) s (pu_fn (mv I) b k0) (pu_r (mv I) b k0).2.2.2.2.1 k → Ex (d + 4) 169 (57, [vR 40 0, vI (Int32.ofNat s), vI b, vI (Int32.ofNat k0), vI (Int32.ofNat (pu_fn (mv I) b k0)), vI (Int32.ofNat k)], [], ma_mem L o, 0, 0) (ma_end Q)) (pu_fn (mv I) b k0) ?_ ?_
  · exact key 0 (by omega) K (fr_refl _ _) (by rw [fk_0]; exact hmv)
  · intro L hL hmL
    exact b_169_57 ⟨fun _ => h L (fr_trans (fr_trans (fr_mono hJ (by decide)) (fr_mono hK (by decide))) (fr_mono hL (by decide))) hmL, fun c => absurd c Int32.lt_irrefl⟩
  · intro k hk ih L hL hmL
    have ei : (40 : Int32) * Int32.ofNat s + Int32.ofNat k = Int32.ofNat (40 * s + k) := in_ma 40 s k
    have l58 : L 58 0 k = (pu_r (mv I) b k0).2.2.2.2.1 k := by
      rw [fr_g hL 58 0 k (by decide) (by decide) (by decide), fr_g hK 58 0 k (by decide) (by decide) (by decide)]
      exact hRJ'.2.2.2.1 k (by omega)
    refine b_169_57 ⟨fun c => ?_, fun _ => ?_⟩
    · have := (in_le (by omega) (by omega)).mp c
      omega
    · rw [ei, in_cl (by omega), in_cl (by omega), l58, in_a1]
      refine ⟨in_in (by omega) (by omega), in_in (by omega) (by omega), ih _ (fr_upg hL (by decide) (by decide) (by decide)) ?_⟩
      rw [mv_up (by omega) (by rw [cl_g (by decide) (by decide)]; decide), hmL, fk_s]
/-! taken -/
def an_taken (σ : ma_I) (a b : Int32) : Int32 := if 0 ≤ b ∧ b ≤ 5 then if 0 ≤ a ∧ a ≤ σ 40 0 4 - 1 then if xv_un (σ 43 0 a.toNatClampNeg) b then σ 44 0 a.toNatClampNeg else -13 else -11 else -2
theorem xs_110 {a b : Int32} (hg : iv_g σ) (hR : rx_w σ (sv I)) (h : Q (some (.inl (an_taken σ a b))) I o) : Exm (d + 2) 110 [.inr (.inr (5, 0)), .inl a, .inl b] I o Q := by
  have hn := A_le hg.2.2.1
  have e4 : I 6 0 4 = σ 40 0 4 := by have := hR.2; rw [sv_6] at this; exact this
  unfold an_taken at h
  refine e_110 ?_
  rw [e4]
  refine ⟨fun c1 => ⟨fun c2 => ?_, fun c2 => ?_⟩, fun c1 => ?_⟩
  · rw [if_pos c1, if_pos c2] at h
    rw [hn.2.1] at c2
    obtain ⟨k, hk, e⟩ := or_of (by have := hn.1; omega) c2
    subst e
    have hk8 : k < 8 := by have := hn.1; omega
    obtain ⟨r0, r1, -⟩ := hR.1.2.2.2.2.1 k hk
    rw [sv_17] at r0 r1
    rw [in_cl (by omega)] at h ⊢
    rw [r0, r1]
    have hin : ma_in (Int32.ofNat k) 8 := in_in (by omega) (by omega)
    refine ⟨hin, fun c3 => ?_, fun c3 => ⟨hin, ?_⟩⟩
    · rw [if_neg c3] at h; exact h
    · rw [if_pos c3] at h; exact h
  · rw [if_pos c1, if_neg c2] at h; exact h
  · rw [if_neg c1] at h; exact h
theorem mo_183 {a b : Int32} (hg : iv_g (mv I)) (h : Q (some (.inl (an_taken (mv I) a b))) I o) : Exm (d + 2) 183 [.inr (.inr (40, 0)), .inl a, .inl b] I o Q := by
  have hn := A_le hg.2.2.1
  unfold an_taken at h
  rw [mv_40_4] at h
  have hn4 := hn.2.1
  rw [mv_40_4] at hn4
  refine e_183 ⟨fun c1 => ⟨fun c2 => ?_, fun c2 => ?_⟩, fun c1 => ?_⟩
  · rw [if_pos c1, if_pos c2] at h
    rw [hn4] at c2
    obtain ⟨k, hk, e⟩ := or_of (by have := hn.1; omega) c2
    subst e
    have hk8 : k < 8 := by have := hn.1; omega
    rw [in_cl (by omega)] at h ⊢
    rw [mv_43, mv_44] at h
    have hin : ma_in (Int32.ofNat k) 9 := in_in (by omega) (by omega)
    have hy : xv_un (I 43 0 k) b → Q (some (.inl (I 44 0 k))) I o := fun c3 => by rw [if_pos c3] at h; exact h
    have hno : ¬xv_un (I 43 0 k) b → Q (some (.inl (-13))) I o := fun c3 => by rw [if_neg c3] at h; exact h
    refine ⟨hin, fun e0 => ⟨hin, hy (Or.inr (Or.inl e0))⟩, fun n0 => ⟨fun ek => ⟨hin, hy (Or.inl ek.symm)⟩, fun nk => ⟨fun n1 => ⟨fun n2 => hno ?_, fun e2 => ⟨fun n4 => hno ?_, fun e4 => ⟨hin, hy (Or.inr (Or.inr (Or.inr ⟨e4, e2⟩)))⟩⟩⟩, fun e1 => ⟨fun e3 => ⟨hin, hy (Or.inr (Or.inr (Or.inl ⟨e3, e1⟩)))⟩, fun n3 => ⟨fun n2 => hno ?_, fun e2 => ⟨fun n4 => hno ?_, fun e4 => ⟨hin, hy (Or.inr (Or.inr (Or.inr ⟨e4, e2⟩)))⟩⟩⟩⟩⟩⟩⟩
    · rintro (q | q | q | q)
      · exact nk q.symm
      · exact n0 q
      · exact n1 q.2
      · exact n2 q.2
    · rintro (q | q | q | q)
      · exact nk q.symm
      · exact n0 q
      · exact n1 q.2
      · exact n4 q.1
    · rintro (q | q | q | q)
      · exact nk q.symm
      · exact n0 q
      · exact n3 q.1
      · exact n2 q.2
    · rintro (q | q | q | q)
      · exact nk q.symm
      · exact n0 q
      · exact n3 q.1
      · exact n4 q.1
  · rw [if_pos c1, if_neg c2] at h; exact h
  · rw [if_neg c1] at h; exact h
/-! the tape; count -/
def rx_p (σ τ : ma_I) : Prop := τ 8 0 0 = σ 40 0 12 ∧ ∀ k, k < (σ 40 0 12).toNatClampNeg → τ 31 0 k = σ 49 0 k
def iv_p (σ : ma_I) : Prop := ∃ n : Nat, σ 40 0 12 = Int32.ofNat n ∧ n ≤ 160 ∧ ∀ k, k < n → rg (σ 49 0 k) 0 255
def an_count (σ : ma_I) (a : Int32) : Int32 := if a = 0 then σ 40 0 4 else if a = 1 then σ 40 0 1 else if a = 2 then σ 40 0 0 else if a = 3 then σ 40 0 13 else if a = 4 then σ 40 0 12 else if a = 5 then σ 40 0 14 else -2
theorem xs_105 {a : Int32} (hR : rx_w σ (sv I)) (hM : rx_m σ (sv I)) (hP : rx_p σ (sv I)) (h : Q (some (.inl (an_count σ a))) I o) : Exm d 105 [.inr (.inr (5, 0)), .inl a] I o Q := by
  have e0 : I 6 0 0 = σ 40 0 0 := by have := hR.1.1; rw [sv_6] at this; exact this
  have e4 : I 6 0 4 = σ 40 0 4 := by have := hR.2; rw [sv_6] at this; exact this
  have e1 : I 6 0 1 = σ 40 0 1 := by have := hM.1; rw [sv_6] at this; exact this
  have e6 : I 6 0 6 = σ 40 0 13 := by have := hR.1.2.2.1; rw [sv_6] at this; exact this
  have e8 : I 6 0 8 = σ 40 0 14 := by have := hR.1.2.2.2.1; rw [sv_6] at this; exact this
  have ep : I 8 0 0 = σ 40 0 12 := by have := hP.1; rw [sv_8_0] at this; exact this
  unfold an_count at h
  refine e_105 ?_
  rw [e0, e1, e4, e6, e8, ep]
  refine ⟨fun c => ?_, fun n0 => ⟨fun c => ?_, fun n1 => ⟨fun c => ?_, fun n2 => ⟨fun c => ?_, fun n3 => ⟨fun c => ?_, fun n4 => ⟨fun c => ?_, fun n5 => ?_⟩⟩⟩⟩⟩⟩
  · rw [if_pos c] at h; exact h
  · rw [if_neg n0, if_pos c] at h; exact h
  · rw [if_neg n0, if_neg n1, if_pos c] at h; exact h
  · rw [if_neg n0, if_neg n1, if_neg n2, if_pos c] at h; exact h
  · rw [if_neg n0, if_neg n1, if_neg n2, if_neg n3, if_pos c] at h; exact h
  · rw [if_neg n0, if_neg n1, if_neg n2, if_neg n3, if_neg n4, if_pos c] at h; exact h
  · rw [if_neg n0, if_neg n1, if_neg n2, if_neg n3, if_neg n4, if_neg n5] at h; exact h
theorem mo_177 {a : Int32} (h : Q (some (.inl (an_count (mv I) a))) I o) : Exm d 177 [.inr (.inr (40, 0)), .inl a] I o Q := by
  unfold an_count at h
  rw [mv_40_0, mv_40_1, mv_40_4, mv_40_12, mv_40_13, mv_40_14] at h
  refine e_177 ⟨fun c => ?_, fun n0 => ⟨fun c => ?_, fun n1 => ⟨fun c => ?_, fun n2 => ⟨fun c => ?_, fun n3 => ⟨fun c => ?_, fun n4 => ⟨fun c => ?_, fun n5 => ?_⟩⟩⟩⟩⟩⟩
  · rw [if_pos c] at h; exact h
  · rw [if_neg n0, if_pos c] at h; exact h
  · rw [if_neg n0, if_neg n1, if_pos c] at h; exact h
  · rw [if_neg n0, if_neg n1, if_neg n2, if_pos c] at h; exact h
  · rw [if_neg n0, if_neg n1, if_neg n2, if_neg n3, if_pos c] at h; exact h
  · rw [if_neg n0, if_neg n1, if_neg n2, if_neg n3, if_neg n4, if_pos c] at h; exact h
  · rw [if_neg n0, if_neg n1, if_neg n2, if_neg n3, if_neg n4, if_neg n5] at h; exact h
/-! force -/
def an_force (σ : ma_I) (a : Int32) : Int32 := if 0 ≤ a ∧ a ≤ σ 40 0 13 - 1 then σ 40 0 14 else -2
def st_force (σ : ma_I) (a : Int32) : ma_I := if 0 ≤ a ∧ a ≤ σ 40 0 13 - 1 then ma_up σ 40 0 14 a else σ
theorem st_force_iv {a : Int32} (hg : iv_g σ) : iv_g (st_force σ a) := by
  unfold st_force
  by_cases c : 0 ≤ a ∧ a ≤ σ 40 0 13 - 1
  · rw [if_pos c]
    obtain ⟨n6, r6, hn6, hr6, h6, hrn, hw⟩ := hg.2.2.2
    rw [hn6] at c
    obtain ⟨t, ht, e⟩ := or_of (by omega) c
    subst e
    exact rt_iv hg (by rw [hn6, in_cl (by omega)]; exact ht)
  · rw [if_neg c]; exact hg
theorem xs_74 {a : Int32} (hg : iv_g σ) (hR : rx_w σ (sv I)) (h : ∀ I', fr [6] I I' → (∀ j, j ≠ 8 → I' 6 0 j = I 6 0 j) → rx_w (st_force σ a) (sv I') → Q (some (.inl (an_force σ a))) I' o) : Exm (d + 1) 74 [.inr (.inr (5, 0)), .inl a] I o Q := by
  obtain ⟨n6, r6, hn6, hr6, h6, hrn, hw⟩ := hg.2.2.2
  have e6 : I 6 0 6 = σ 40 0 13 := by have := hR.1.2.2.1; rw [sv_6] at this; exact this
  have e8 : I 6 0 8 = σ 40 0 14 := by have := hR.1.2.2.2.1; rw [sv_6] at this; exact this
  unfold an_force st_force at h
  refine e_74 ?_
  rw [e6, e8]
  refine ⟨fun c => ?_, fun c => ?_⟩
  · rw [if_pos c, if_pos c] at h
    have c' := c
    rw [hn6] at c'
    obtain ⟨t, ht, e⟩ := or_of (by omega) c'
    subst e
    refine h _ (fr_upg (fr_refl _ _) (by decide) (by decide) (by decide)) (fun j hj => up_j hj) ?_
    rw [sv_up (by decide)]
    exact rt_rx hR
  · rw [if_neg c, if_neg c] at h
    exact h I (fr_refl _ _) (fun _ _ => rfl) hR
theorem mo_154 {a : Int32} (h : ∀ I', fr [1014] I I' → mv I' = st_force (mv I) a → Q (some (.inl (an_force (mv I) a))) I' o) : Exm (d + 1) 154 [.inr (.inr (40, 0)), .inl a] I o Q := by
  unfold an_force st_force at h
  rw [mv_40_13, mv_40_14] at h
  refine e_154 ⟨fun c => ?_, fun c => ?_⟩
  · rw [if_pos c, if_pos c] at h
    exact h _ (fr_up1 (fr_refl _ _) (by decide)) (mv_up (by omega) (by decide))
  · rw [if_neg c, if_neg c] at h
    exact h I (fr_refl _ _) rfl
/-! feed -/
def an_feed (σ : ma_I) (a : Int32) : Int32 := if 0 ≤ a ∧ a ≤ 255 then if σ 40 0 12 = 160 then -4 else σ 40 0 12 + 1 else -2
def st_feed (σ : ma_I) (a : Int32) : ma_I := if (0 ≤ a ∧ a ≤ 255) ∧ σ 40 0 12 ≠ 160 then ma_up (ma_up σ 49 0 (σ 40 0 12).toNatClampNeg a) 40 0 12 (σ 40 0 12 + 1) else σ
theorem st_feed_iv {a : Int32} (hp : iv_p σ) : iv_p (st_feed σ a) := by
  unfold st_feed
  by_cases c : (0 ≤ a ∧ a ≤ 255) ∧ σ 40 0 12 ≠ 160
  · rw [if_pos c]
    obtain ⟨n, hn, h160, hk⟩ := hp
    have hne : n ≠ 160 := fun e => c.2 (by rw [hn, e]; rfl)
    refine ⟨n + 1, by rw [xv_us, hn, in_a1], by omega, fun k hkn => ?_⟩
    rw [up_g (by decide), hn, in_cl (by omega)]
    by_cases e : k = n
    · subst e; rw [xv_us]; exact rg_mk (by decide) c.1.1 c.1.2
    · rw [up_j e]; exact hk k (by omega)
  · rw [if_neg c]; exact hp
theorem xs_72 {a : Int32} (hp : iv_p σ) (hP : rx_p σ (sv I)) (h : ∀ I', fr [31, 2000] I I' → rx_p (st_feed σ a) (sv I') → Q (some (.inl (an_feed σ a))) I' o) : Exm (d + 1) 72 [.inr (.inr (5, 0)), .inl a] I o Q := by
  obtain ⟨n, hn, h160, hk⟩ := hp
  have hP' := hP
  obtain ⟨p1, p2⟩ := hP
  rw [sv_8_0, hn] at p1
  rw [hn, in_cl (by omega)] at p2
  unfold an_feed at h
  refine e_72 ⟨fun c => ?_, fun c => ?_⟩
  · rw [if_pos c] at h
    rw [p1]
    refine ⟨fun c2 => ?_, fun c2 => ?_⟩
    · have hlt := (in_lt (b := 160) (by omega) (by decide)).mp c2
      have hne : σ 40 0 12 ≠ 160 := by rw [hn]; intro e; have := (in_eq (b := 160) (by omega) (by decide)).mp e; omega
      have hst : st_feed σ a = ma_up (ma_up σ 49 0 n a) 40 0 12 (Int32.ofNat (n + 1)) := by unfold st_feed; rw [if_pos ⟨c, hne⟩, hn, in_cl (by omega), in_a1]
      rw [if_neg hne, hst, hn, in_a1] at h
      refine e_43 ?_
      rw [p1, in_cl (by omega), in_a1]
      refine ⟨fun c3 => ?_, fun _ => ⟨in_in (by omega) (by omega), ⟨rfl, ?_⟩⟩⟩
      · have := (in_le (a := 160) (by decide) (by omega)).mp c3
        omega
      · rw [xv_us]
        refine h _ (fr_up1 (fr_upg (fr_refl _ _) (by decide) (by decide) (by decide)) (by decide)) ⟨by rw [sv_8_0, xv_us, xv_us], fun k hk2 => ?_⟩
        rw [xv_us, in_cl (by omega)] at hk2
        rw [sv_31, up_g (g := 8) (by decide), up_g (g := 40) (by decide)]
        by_cases e : k = n
        · subst e; rw [xv_us, xv_us]
        · rw [up_j e, up_j e]
          have := p2 k (by omega)
          rw [sv_31] at this
          exact this
    · have hge := (in_le (a := 160) (by decide) (by omega)).mp c2
      have he : σ 40 0 12 = 160 := by rw [hn, show n = 160 by omega]; rfl
      have hst : st_feed σ a = σ := if_neg (fun q => q.2 he)
      rw [if_pos he, hst] at h
      exact h I (fr_refl _ _) hP'
  · have hst : st_feed σ a = σ := if_neg (fun q => c q.1)
    rw [if_neg c, hst] at h
    exact h I (fr_refl _ _) hP'
theorem mo_136 {a : Int32} (hp : iv_p (mv I)) (h : ∀ I', fr [49, 1012] I I' → mv I' = st_feed (mv I) a → Q (some (.inl (an_feed (mv I) a))) I' o) : Exm (d + 1) 136 [.inr (.inr (40, 0)), .inl a] I o Q := by
  obtain ⟨n, hn, h160, hk⟩ := hp
  have hn2 := hn
  rw [mv_40_12] at hn2
  unfold an_feed at h
  refine e_136 ⟨fun c => ⟨fun c2 => ?_, fun c2 => ?_⟩, fun c => ?_⟩
  · have hne : mv I 40 0 12 ≠ 160 := by rw [mv_40_12]; exact c2
    have hst : st_feed (mv I) a = ma_up (ma_up (mv I) 49 0 n a) 40 0 12 (Int32.ofNat (n + 1)) := by unfold st_feed; rw [if_pos ⟨c, hne⟩, hn, in_cl (by omega), in_a1]
    rw [if_pos c, if_neg hne, hst, hn, in_a1] at h
    have hn160 : n ≠ 160 := fun e => hne (by rw [hn, e]; rfl)
    rw [hn2, in_cl (by omega), in_a1]
    refine ⟨in_in (by omega) (by omega), h _ (fr_up1 (fr_upg (fr_refl _ _) (by decide) (by decide) (by decide)) (by decide)) ?_⟩
    rw [mv_up (by omega) (by decide), mv_up (by omega) (by rw [cl_g (by decide) (by decide)]; decide)]
  · have he : mv I 40 0 12 = 160 := by rw [mv_40_12]; exact c2
    have hst : st_feed (mv I) a = mv I := if_neg (fun q => q.2 he)
    rw [if_pos c, if_pos he, hst] at h
    exact h I (fr_refl _ _) rfl
  · have hst : st_feed (mv I) a = mv I := if_neg (fun q => c q.1)
    rw [if_neg c, hst] at h
    exact h I (fr_refl _ _) rfl
end FLM

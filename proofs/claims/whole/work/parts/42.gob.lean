/-! ===== a letter's way comes to an end; its bounds ===== -/
theorem go_tot {σ : ma_I} {there : Int32} {d0 : Nat} (hg : iv_g σ) : ∀ (n : Nat) (h : Int32) (dd s : Nat) (was : Nat → Int32) (used : Int32) (rd : Bool), 101 ≤ n + dd → 1 ≤ n → ∃ r, pu_go σ there d0 n (h, dd, s, was, used, rd) = some r := by
  obtain ⟨-, -, ⟨nn, hnn, hn8, hon⟩, -⟩ := hg
  intro n
  induction n with
  | zero => intro h dd s was used rd _ h1; omega
  | succ n ih =>
    intro h dd s was used rd h101 _
    unfold pu_go
    by_cases c1 : pu_li σ (Int32.ofNat (if dd < 99 then dd else 99)) = h
    · rw [if_pos c1]; exact ⟨_, rfl⟩
    · rw [if_neg c1]
      by_cases c2 : σ 40 0 0 < Int32.ofNat s ∨ 100 ≤ dd
      · rw [if_pos c2]; exact ⟨_, rfl⟩
      · rw [if_neg c2]
        have hdd : dd < 100 := by
          rcases Nat.lt_or_ge dd 100 with e | e
          · exact e
          · exact absurd (Or.inr e) c2
        cases hby : pu_by σ h dd there with
        | none =>
          dsimp only
          by_cases c3 : dd = 99
          · rw [if_pos c3]; exact ⟨_, rfl⟩
          · rw [if_neg c3]
            exact ih _ _ _ _ _ _ (by omega) (by omega)
        | some b =>
          dsimp only
          have hb : b < nn := by
            unfold pu_by at hby
            rw [hnn, in_cl (by omega)] at hby
            have := (ft_some _ _ _ hby).2.1
            omega
          obtain ⟨l, hl, hl1, hl98⟩ := ls_rg (a := Int32.ofNat dd) (b := Int32.ofNat s) (c := Int32.ofNat (dd - d0)) (hon b hb).2.1
          rw [hl, in_cl (by omega)]
          exact ih _ _ _ _ _ _ (by omega) (by omega)
def go_B (d0 : Nat) (r : Int32 × pu_W) : Prop := (r.1 = 0 ∨ r.1 = 1 ∨ r.1 = 2) ∧ d0 ≤ r.2.2.1 ∧ r.2.2.1 ≤ 200 ∧ r.2.2.2.1 ≤ 21 ∧ (∀ k, k ≤ r.2.2.2.1 → rg (r.2.2.2.2.1 k) 0 7) ∧ r.2.2.2.2.1 r.2.2.2.1 = r.2.1
theorem go_bd {σ : ma_I} {there : Int32} {d0 : Nat} {r : Int32 × pu_W} (hg : iv_g σ) : ∀ (n : Nat) (h : Int32) (dd s : Nat) (was : Nat → Int32) (used : Int32) (rd : Bool), pu_go σ there d0 n (h, dd, s, was, used, rd) = some r → d0 ≤ dd → dd ≤ 200 → s ≤ 21 → (∀ k, k ≤ s → rg (was k) 0 7) → was s = h → go_B d0 r := by
  obtain ⟨⟨t, ht, ht1, ht2⟩, -, ⟨nn, hnn, hn8, hon⟩, -⟩ := hg
  intro n
  induction n with
  | zero => intro h dd s was used rd hr; cases hr
  | succ n ih =>
    intro h dd s was used rd hr h0 h200 h21 hw hs
    unfold pu_go at hr
    by_cases c1 : pu_li σ (Int32.ofNat (if dd < 99 then dd else 99)) = h
    · rw [if_pos c1] at hr
      cases hr
      exact ⟨Or.inl rfl, h0, h200, h21, hw, hs⟩
    · rw [if_neg c1] at hr
      by_cases c2 : σ 40 0 0 < Int32.ofNat s ∨ 100 ≤ dd
      · rw [if_pos c2] at hr
        cases hr
        exact ⟨Or.inr (Or.inl rfl), h0, h200, h21, hw, hs⟩
      · rw [if_neg c2] at hr
        have hdd : dd < 100 := by
          rcases Nat.lt_or_ge dd 100 with e | e
          · exact e
          · exact absurd (Or.inr e) c2
        have hst : s ≤ t := by
          rw [ht, in_lt (by omega) (by omega)] at c2
          omega
        cases hby : pu_by σ h dd there with
        | none =>
          rw [hby] at hr
          dsimp only at hr
          by_cases c3 : dd = 99
          · rw [if_pos c3] at hr
            cases hr
            exact ⟨Or.inr (Or.inr rfl), h0, h200, h21, hw, hs⟩
          · rw [if_neg c3] at hr
            exact ih _ _ _ _ _ _ hr (by omega) (by omega) h21 hw hs
        | some b =>
          rw [hby] at hr
          dsimp only at hr
          have hb : b < nn := by
            unfold pu_by at hby
            rw [hnn, in_cl (by omega)] at hby
            have := (ft_some _ _ _ hby).2.1
            omega
          obtain ⟨l, hl, hl1, hl98⟩ := ls_rg (a := Int32.ofNat dd) (b := Int32.ofNat s) (c := Int32.ofNat (dd - d0)) (hon b hb).2.1
          rw [hl, in_cl (by omega)] at hr
          refine ih _ _ _ _ _ _ hr (by omega) (by omega) (by omega) (fun k hk => ?_) (if_pos rfl)
          by_cases e : k = s + 1
          · rw [if_pos e]; exact (hon b hb).2.2.2.1
          · rw [if_neg e]; exact hw k (by omega)
theorem rn_eq {σ : ma_I} {there h : Int32} {d0 : Nat} (hg : iv_g σ) : pu_go σ there d0 300 (pu_w0 h d0) = some (pu_rn σ h d0 there) := by
  obtain ⟨r, hr⟩ := go_tot (there := there) (d0 := d0) hg 300 h d0 0 (fun _ => h) 0 false (by omega) (by omega)
  have hr' : pu_go σ there d0 300 (pu_w0 h d0) = some r := hr
  unfold pu_rn
  rw [hr']
  rfl
theorem rn_bd {σ : ma_I} {there h : Int32} {d0 : Nat} (hg : iv_g σ) (hh : rg h 0 7) (hd : d0 ≤ 99) : go_B d0 (pu_rn σ h d0 there) :=
  go_bd hg 300 h d0 0 (fun _ => h) 0 false (rn_eq hg) (Nat.le_refl _) (by omega) (by omega) (fun _ _ => hh) rfl
theorem mo_go {d : Nat} {I : ma_I} {o : Nat} {Q : ma_Q} {house there : Int32} {d0 : Nat} (hg : iv_g (mv I)) (hd0 : d0 ≤ 99) (h : ∀ I', fr fr_go I I' → mo_R I' (pu_rn (mv I) house d0 there) → Q none I' o) : Exm (d + 3) 158 [.inr (.inr (40, 0)), .inl house, .inl (Int32.ofNat d0), .inl there] I o Q :=
  mo_158 hg hd0 (rn_eq hg) h
/-! ===== counts over days ===== -/
def cn (p : Nat → Bool) : Nat → Nat
  | 0 => 0
  | k + 1 => if p k then cn p k + 1 else cn p k
theorem cn_le (p : Nat → Bool) : ∀ k, cn p k ≤ k := by
  intro k
  induction k with
  | zero => exact Nat.le_refl 0
  | succ k ih => unfold cn; split <;> omega
theorem cn_cong {p q : Nat → Bool} : ∀ k, (∀ j, j < k → p j = q j) → cn p k = cn q k := by
  intro k
  induction k with
  | zero => intro _; rfl
  | succ k ih => intro h; unfold cn; rw [h k (Nat.lt_succ_self k), ih (fun j hj => h j (Nat.lt_succ_of_lt hj))]
/-- whether he has it -/
def pu_hs (σ : ma_I) (h : Int32) (there : Int32) (k : Nat) : Bool := decide ((pu_rn σ h k there).1 = 0)
def pu_has (σ : ma_I) (h : Int32) (there : Int32) : Nat := cn (pu_hs σ h there) 100
def pu_all (σ : ma_I) : Int32 := xv_al (σ 40 0 4)
def pu_z (z : Int32) : Nat → Int32
  | 0 => z
  | k + 1 => pu_z z k * 1103515245 + 12345
def pu_dz (z : Int32) (k : Nat) : Nat := (xv_rm (xv_us9 (pu_z z (k + 1)) 9) 100).toNatClampNeg
def pu_dr (σ : ma_I) (h z : Int32) : Nat := cn (fun k => pu_hs σ h (pu_all σ) (pu_dz z k)) 10
theorem dz_rg (x : Int32) : rg (xv_rm (xv_us9 x 9) 100) 0 99 := by
  have h9 : xv_us9 x 9 = Int32.ofNat (x.toUInt32.toNat / 512) := by
    unfold xv_us9
    apply Int32.toBitVec.inj
    apply BitVec.eq_of_toNat_eq
    have h1 : (x.toUInt32 >>> ((9 : Int32).toUInt32 &&& Int32.toUInt32 31)) = x.toUInt32 >>> 9 := rfl
    rw [h1]
    show (x.toUInt32 >>> 9).toBitVec.toNat = (BitVec.ofNat 32 (x.toUInt32.toNat / 512)).toNat
    rw [BitVec.toNat_ofNat]
    have hx : x.toUInt32.toNat < 4294967296 := x.toUInt32.toNat_lt
    have h2 : (x.toUInt32 >>> 9).toBitVec.toNat = x.toUInt32.toNat >>> 9 := by
      show (x.toUInt32 >>> 9).toNat = _
      rw [UInt32.toNat_shiftRight]
      rfl
    rw [h2, Nat.shiftRight_eq_div_pow]
    omega
  rw [h9]
  have hx : x.toUInt32.toNat < 4294967296 := x.toUInt32.toNat_lt
  have hv : x.toUInt32.toNat / 512 < 2147483648 := by omega
  generalize x.toUInt32.toNat / 512 = v at hv
  unfold xv_rm
  refine ⟨v % 100, ?_, Nat.zero_le _, by omega⟩
  show Int32.ofNat v - Int32.ofNat v / Int32.ofNat 100 * Int32.ofNat 100 = _
  rw [← Int32.ofNat_div (by omega) (by omega), ← Int32.ofNat_mul, ← Int32.ofNat_sub _ _ (by omega)]
  congr 1
  omega
theorem dz_eq (z : Int32) (k : Nat) : xv_rm (xv_us9 (pu_z z k * 1103515245 + 12345) 9) 100 = Int32.ofNat (pu_dz z k) ∧ pu_dz z k ≤ 99 := by
  obtain ⟨n, hn, -, h99⟩ := dz_rg (pu_z z (k + 1))
  unfold pu_dz
  rw [hn, in_cl (by omega)]
  exact ⟨hn, h99⟩
section MO5
variable {d : Nat} {I : ma_I} {o : Nat} {Q : ma_Q}
theorem mo_161 {house there : Int32} (hg : iv_g (mv I)) (h : ∀ I', fr fr_go I I' → Q (some (.inl (Int32.ofNat (pu_has (mv I) house there)))) I' o) : Exm (d + 4) 161 [.inr (.inr (40, 0)), .inl house, .inl there] I o Q := by
  refine e_161 ?_
  have key := lp_up (P := fun k => ∀ I', fr fr_go I I' → Ex (d + 4) 161 (5, [vR 40 0, vI house, vI there, vI (Int32.ofNat (cn (pu_hs (mv I) house there) k)), vI (Int32.ofNat k)], [], ma_mem I' o, 0, 0) (ma_end Q)) 100 ?_ ?_
  · exact key 0 (by omega) I (fr_refl _ _)
  · intro I' hf
    exact b_161_5 ⟨fun _ => h I' hf, fun c => absurd c (by decide)⟩
  · intro k hk ih I' hf
    have hsv : mv I' = mv I := mv_fr hf (by decide)
    refine b_161_5 ⟨fun c => ?_, fun _ => ?_⟩
    · have := (in_le (a := 100) (by decide) (by omega)).mp c
      omega
    · refine mo_go (by rw [hsv]; exact hg) (by omega) (fun J hJ hR => ⟨rfl, fun c => ?_, fun c => ?_⟩)
      · rw [hR.1, hsv] at c
        have ih' := ih J (fr_trans hf hJ)
        unfold cn at ih'
        rw [if_neg (by unfold pu_hs; rw [decide_eq_false c]; decide)] at ih'
        rw [in_a1, Int32.add_zero]
        exact ih'
      · rw [hR.1, hsv] at c
        have ih' := ih J (fr_trans hf hJ)
        unfold cn at ih'
        rw [if_pos (by unfold pu_hs; rw [decide_eq_true c])] at ih'
        rw [in_a1, in_a1]
        exact ih'
theorem mo_170 {house z : Int32} (hg : iv_g (mv I)) (h : ∀ I', fr fr_go I I' → Q (some (.inl (Int32.ofNat (pu_dr (mv I) house z)))) I' o) : Exm (d + 4) 170 [.inr (.inr (40, 0)), .inl house, .inl z] I o Q := by
  refine e_170 ?_
  have key := lp_up (P := fun k => ∀ I', fr fr_go I I' → Ex (d + 4) 170 (8, [vR 40 0, vI house, vI z, vI (pu_z z k), vI (Int32.ofNat (cn (fun k => pu_hs (mv I) house (pu_all (mv I)) (pu_dz z k)) k)), vI (Int32.ofNat k)], [], ma_mem I' o, 0, 0) (ma_end Q)) 10 ?_ ?_
  · exact key 0 (by omega) I (fr_refl _ _)
  · intro I' hf
    exact b_170_8 ⟨fun _ => h I' hf, fun c => absurd c (by decide)⟩
  · intro k hk ih I' hf
    have hsv : mv I' = mv I := mv_fr hf (by decide)
    have hal : xv_al (I' 40 0 4) = pu_all (mv I) := by rw [hf 40 0 4 (by decide)]; rfl
    refine b_170_8 ⟨fun c => ?_, fun _ => ?_⟩
    · have := (in_le (a := 10) (by decide) (by omega)).mp c
      omega
    · rw [(dz_eq z k).1, hal]
      refine mo_go (by rw [hsv]; exact hg) (dz_eq z k).2 (fun J hJ hR => ⟨rfl, fun c => ?_, fun c => ?_⟩)
      · rw [hR.1, hsv] at c
        have ih' := ih J (fr_trans hf hJ)
        unfold cn at ih'
        rw [if_neg (by unfold pu_hs; rw [decide_eq_false c]; decide)] at ih'
        rw [in_a1, Int32.add_zero]
        exact ih'
      · rw [hR.1, hsv] at c
        have ih' := ih J (fr_trans hf hJ)
        unfold cn at ih'
        rw [if_pos (by unfold pu_hs; rw [decide_eq_true c])] at ih'
        rw [in_a1, in_a1]
        exact ih'
end MO5

/-! ===== a letter's way in the reference ===== -/
theorem lo_99 {dd : Nat} (h : dd < 2147483648) : xv_lo (Int32.ofNat dd) 99 = Int32.ofNat (if dd < 99 then dd else 99) := by
  show (if Int32.ofNat dd < Int32.ofNat 99 then Int32.ofNat dd else Int32.ofNat 99) = _
  by_cases e : dd < 99
  · rw [if_pos ((in_lt (b := 99) h (by decide)).mpr e), if_pos e]
  · rw [if_neg (fun hh => e ((in_lt (b := 99) h (by decide)).mp hh)), if_neg e]
section MO4
variable {d : Nat} {I : ma_I} {o : Nat} {Q : ma_Q}
theorem mo_158l {house there : Int32} {d0 : Nat} {r : Int32 × pu_W} (hg : iv_g (mv I)) (hQ : ∀ I', fr fr_go I I' → mo_R I' r → Q none I' o) :
    ∀ (n : Nat) (h : Int32) (dd s : Nat) (was : Nat → Int32) (used : Int32) (rd : Bool), pu_go (mv I) there d0 n (h, dd, s, was, used, rd) = some r → d0 ≤ dd → dd ≤ 200 → s ≤ 21 →
    ∀ (I' : ma_I) (w7 w8 : Option ma_V), fr fr_go I I' → I' 40 0 33 = Int32.ofNat (s + 1) → (∀ k, k ≤ s → I' 58 0 k = was k) → I' 40 0 34 = used → I' 40 0 35 = xv_b (rd = true) → I' 40 0 36 = -1 →
    Ex (d + 3) 158 (36, [vR 40 0, vI house, vI (Int32.ofNat d0), vI there, vI h, vI (Int32.ofNat dd), vI (Int32.ofNat s), w7, w8], [], ma_mem I' o, 0, 0) (ma_end Q) := by
  intro n
  induction n with
  | zero => intro h dd s was used rd hr; cases hr
  | succ n ih =>
    intro h dd s was used rd hr h0 h200 h21 I' w7 w8 hf e33 e58 e34 e35 e36
    have hsv : mv I' = mv I := mv_fr hf (by decide)
    have hend : ∀ (J : ma_I) (u7 u8 : Option ma_V) (e : Int32), fr fr_go I J → J 40 0 33 = Int32.ofNat (s + 1) → (∀ k, k ≤ s → J 58 0 k = was k) → J 40 0 34 = used → J 40 0 35 = xv_b (rd = true) → e ≠ -1 → r = (e, h, dd, s, was, used, rd) → Ex (d + 3) 158 (36, [vR 40 0, vI house, vI (Int32.ofNat d0), vI there, vI h, vI (Int32.ofNat dd), vI (Int32.ofNat s), u7, u8], [], ma_mem (ma_up J 40 0 36 e) o, 0, 0) (ma_end Q) := by
      intro J u7 u8 e hJ j33 j58 j34 j35 he hre
      refine b_158_36 ⟨fun _ => ?_, fun c => ?_⟩
      · refine hQ _ (fr_up1 (fr_up1 hJ (by decide)) (by decide)) ?_
        subst hre
        refine ⟨?_, xv_us, ?_, ?_, ?_, ?_⟩
        · rw [up_j (by decide), xv_us]
        · rw [up_j (by decide), up_j (by decide)]; exact j33
        · intro k hk
          rw [up_g (by decide), up_g (by decide)]
          exact j58 k hk
        · rw [up_j (by decide), up_j (by decide)]; exact j34
        · rw [up_j (by decide), up_j (by decide)]; exact j35
      · rw [xv_us] at c
        exact absurd c he
    obtain ⟨⟨t, ht, ht1, ht2⟩, hmv, hod, htx⟩ := hg
    rw [mv_40_0] at ht
    have e40 : I' 40 0 0 = Int32.ofNat t := by rw [hf 40 0 0 (by decide)]; exact ht
    unfold pu_go at hr
    refine b_158_36 ⟨fun c => absurd e36 c, fun _ => ?_⟩
    rw [lo_99 (by omega)]
    refine mo_130 (by rw [hsv]; exact hmv) ⟨_, rfl, ?_⟩
    rw [hsv]
    refine ⟨fun c1 => ?_, fun c1 => ?_⟩
    · rw [if_neg c1] at hr
      rw [e40]
      refine ⟨fun c2 => ?_, fun c2 => ⟨fun c3 => ?_, fun c3 => ?_⟩⟩
      · rw [if_pos (Or.inl (by rw [mv_40_0, ht]; exact c2))] at hr
        exact hend I' _ _ 1 hf e33 e58 e34 e35 (by decide) (Option.some.inj hr).symm
      · have hst : s ≤ t := (in_le (by omega) (by omega)).mp c2
        have hdd : dd < 100 := (in_lt (b := 100) (by omega) (by decide)).mp c3
        rw [if_neg (by
          rintro (e | e)
          · rw [mv_40_0, ht] at e
            exact Int32.not_le.mpr e c2
          · omega)] at hr
        obtain ⟨nn, hnn, hn8, hon⟩ := hod
        have e4 : I' 40 0 4 = Int32.ofNat nn := by rw [hf 40 0 4 (by decide), ← mv_40_4 I]; exact hnn
        rw [e4, Int32.sub_eq_add_neg]
        refine mo_158i (d := d + 1) (by rw [hsv]; exact ⟨nn, hnn, hn8, hon⟩) e4 hn8 ?_
        rw [hsv]
        refine b_158_103 ⟨fun _ => ?_, fun c => absurd c (by decide)⟩
        cases hby : pu_by (mv I) h dd there with
        | none =>
          rw [hby] at hr
          dsimp only at hr
          refine ⟨fun _ => ⟨fun c99 => ?_, fun c99 => ?_⟩, fun c => absurd rfl c⟩
          · have hne : dd ≠ 99 := fun e => c99 (by rw [e]; rfl)
            rw [if_neg hne] at hr
            rw [in_a1]
            exact ih _ _ _ _ _ _ hr (by omega) (by omega) h21 I' _ _ hf e33 e58 e34 e35 e36
          · have he : dd = 99 := (in_eq (b := 99) (by omega) (by decide)).mp c99
            rw [if_pos he] at hr
            exact hend I' _ _ 2 hf e33 e58 e34 e35 (by decide) (Option.some.inj hr).symm
        | some b =>
          rw [hby] at hr
          dsimp only at hr
          have hb : b < nn := by
            unfold pu_by at hby
            rw [hnn, in_cl (by omega)] at hby
            have := (ft_some _ _ _ hby).2.1
            omega
          have een : pu_en (some b) = Int32.ofNat b := rfl
          rw [een]
          refine ⟨fun c => absurd c (in_nm (by omega)), fun _ => ?_⟩
          have hb44 : rg (mv I 44 0 b) 0 9 := (hon b hb).2.1
          have esub : Int32.ofNat dd - Int32.ofNat d0 = Int32.ofNat (dd - d0) := (Int32.ofNat_sub dd d0 h0).symm
          rw [esub]
          refine mo_133 (by omega) (by rw [hsv]; exact htx) (fun J hJ => ⟨_, rfl, in_in (by omega) (by omega), ?_⟩)
          have hfJ : fr fr_go I J := fr_trans hf (fr_mono hJ (by decide))
          have j33 : J 40 0 33 = Int32.ofNat (s + 1) := by rw [hJ 40 0 33 (by decide)]; exact e33
          have j34 : J 40 0 34 = used := by rw [hJ 40 0 34 (by decide)]; exact e34
          have j35 : J 40 0 35 = xv_b (rd = true) := by rw [hJ 40 0 35 (by decide)]; exact e35
          have j36 : J 40 0 36 = -1 := by rw [hJ 40 0 36 (by decide)]; exact e36
          have j46 : J 46 0 (Int32.ofNat b).toNatClampNeg = mv I 46 0 b := by
            rw [in_cl (by omega), mv_46, fr_g hfJ 46 0 b (by decide) (by decide) (by decide)]
          have j58 : ∀ k, k ≤ s → J 58 0 k = was k := fun k hk => by rw [fr_g hJ 58 0 k (by decide) (by decide) (by decide)]; exact e58 k hk
          show ma_in (J 40 0 33) 24 ∧ _
          rw [j33, j46, j34, in_cl (by omega), hsv]
          obtain ⟨l, hl, hl1, hl98⟩ := ls_rg (a := Int32.ofNat dd) (b := Int32.ofNat s) (c := Int32.ofNat (dd - d0)) hb44
          rw [hl] at hr ⊢
          rw [in_cl (by omega)] at hr
          have el : Int32.ofNat dd + Int32.ofNat l = Int32.ofNat (dd + l) := (Int32.ofNat_add dd l).symm
          rw [el, in_a1, in_a1]
          have hgo : ∀ (x : Int32), x = xv_b ((rd || bt used b) = true) → Ex (d + 3) 158 (36, [vR 40 0, vI house, vI (Int32.ofNat d0), vI there, vI (mv I 46 0 b), vI (Int32.ofNat (dd + l)), vI (Int32.ofNat (s + 1)), vI (Int32.ofNat b), vI (-1)], [], ma_mem (ma_up (ma_up (ma_up (ma_up J 58 0 (s + 1) (mv I 46 0 b)) 40 0 33 (Int32.ofNat (s + 1 + 1))) 40 0 35 x) 40 0 34 (used ||| 1 <<< (Int32.ofNat b &&& 31))) o, 0, 0) (ma_end Q) := by
            intro x hx
            refine ih _ _ _ _ _ _ hr (by omega) (by omega) (by omega) _ _ _ ?_ ?_ ?_ xv_us ?_ ?_
            · exact fr_up1 (fr_up1 (fr_up1 (fr_upg hfJ (by decide) (by decide) (by decide)) (by decide)) (by decide)) (by decide)
            · rw [up_j (by decide), up_j (by decide), xv_us]
            · intro k hk
              rw [up_g (by decide), up_g (by decide), up_g (by decide)]
              by_cases e : k = s + 1
              · subst e
                rw [xv_us, if_pos rfl]
              · rw [up_j e, if_neg e]
                exact j58 k (by omega)
            · rw [up_j (by decide), xv_us]; exact hx
            · rw [up_j (by decide), up_j (by decide), up_j (by decide), up_g (by decide)]; exact j36
          refine ⟨in_in (by omega) (by omega), fun c4 => ?_, fun c4 => ⟨fun c5 => ?_, fun c5 => ?_⟩⟩
          · rw [j35] at c4
            have := xv_bne0.mp c4
            exact hgo 1 (by rw [xv_b1 (by rw [this]; rfl)])
          · rw [j35] at c4
            have := xv_beq0.mp c4
            exact hgo 0 (by rw [xv_b0 (by unfold bt; rw [decide_eq_false c5]; simpa using this)])
          · exact hgo 1 (by rw [xv_b1 (by unfold bt; rw [decide_eq_true c5]; simp)])
      · have hdd : 100 ≤ dd := (in_le (a := 100) (by decide) (by omega)).mp c3
        rw [if_pos (Or.inr hdd)] at hr
        exact hend I' _ _ 1 hf e33 e58 e34 e35 (by decide) (Option.some.inj hr).symm
    · rw [if_pos c1] at hr
      exact hend I' _ _ 0 hf e33 e58 e34 e35 (by decide) (Option.some.inj hr).symm
theorem mo_158 {house there : Int32} {d0 n : Nat} {r : Int32 × pu_W} (hg : iv_g (mv I)) (hd0 : d0 ≤ 99) (hr : pu_go (mv I) there d0 n (pu_w0 house d0) = some r) (h : ∀ I', fr fr_go I I' → mo_R I' r → Q none I' o) : Exm (d + 3) 158 [.inr (.inr (40, 0)), .inl house, .inl (Int32.ofNat d0), .inl there] I o Q := by
  refine e_158 ?_
  refine mo_158l hg h n house d0 0 (fun _ => house) 0 false hr (Nat.le_refl _) (by omega) (by omega) _ _ _ ?_ ?_ ?_ ?_ ?_ xv_us
  · exact fr_up1 (fr_up1 (fr_up1 (fr_up1 (fr_upg (fr_refl _ _) (by decide) (by decide) (by decide)) (by decide)) (by decide)) (by decide)) (by decide)
  · rw [up_j (by decide), up_j (by decide), up_j (by decide), xv_us]; rfl
  · intro k hk
    have : k = 0 := by omega
    subst this
    rw [up_g (by decide), up_g (by decide), up_g (by decide), up_g (by decide), xv_us]
  · rw [up_j (by decide), up_j (by decide), xv_us]
  · rw [up_j (by decide), xv_us]; rfl
end MO4

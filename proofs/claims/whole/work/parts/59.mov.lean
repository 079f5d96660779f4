/-! ===== move, set, told ===== -/
def pu_nm0 (σ : ma_I) : Nat := (σ 40 0 1).toNatClampNeg
theorem nm_le {σ : ma_I} (h : iv_mv σ) : pu_nm0 σ ≤ 6 ∧ σ 40 0 1 = Int32.ofNat (pu_nm0 σ) ∧ ∀ k, k < pu_nm0 σ → rg (σ 41 0 k) 0 99 ∧ rg (σ 42 0 k) 0 7 ∧ (k + 1 < pu_nm0 σ → σ 41 0 k < σ 41 0 (k + 1)) := by
  obtain ⟨n, hn, h6, hk⟩ := h
  have e : pu_nm0 σ = n := by unfold pu_nm0; rw [hn, in_cl (by omega)]
  rw [e]
  exact ⟨h6, hn, hk⟩
/-- how moves are held -/
def rx_m (σ τ : ma_I) : Prop := τ 6 0 1 = σ 40 0 1 ∧ ∀ k, k < pu_nm0 σ → τ 14 0 k = σ 41 0 k ∧ τ 15 0 k = σ 42 0 k
theorem lv_to {σ : ma_I} {d : Int32} {p : Nat} : ∀ m, (∀ j, p ≤ j → j < p + m → d < σ 41 0 j) → (0 < p → σ 41 0 (p - 1) ≤ d) → pu_lv σ d (p + m) = if p = 0 then 0 else σ 42 0 (p - 1) := by
  intro m
  induction m with
  | zero =>
    intro _ h2
    match p, h2 with
    | 0, _ => rfl
    | q + 1, h2 =>
      show (if σ 41 0 q ≤ d then σ 42 0 q else pu_lv σ d q) = _
      rw [if_pos (show σ 41 0 q ≤ d from h2 (by omega)), if_neg (by omega)]
      rfl
  | succ m ih =>
    intro h1 h2
    show (if σ 41 0 (p + m) ≤ d then σ 42 0 (p + m) else pu_lv σ d (p + m)) = _
    rw [if_neg (Int32.not_le.mpr (h1 (p + m) (by omega) (by omega)))]
    exact ih (fun j a b => h1 j a (by omega)) h2
theorem mv_asc {σ : ma_I} (h : iv_mv σ) : ∀ m k, k + m < pu_nm0 σ → 0 < m → σ 41 0 k < σ 41 0 (k + m) := by
  have hk := (nm_le h).2.2
  intro m
  induction m with
  | zero => intro k _ h0; omega
  | succ m ih =>
    intro k hkm _
    have h1 := (hk (k + m) (by omega)).2.2 (by omega)
    by_cases e : m = 0
    · subst e; exact h1
    · exact Int32.lt_trans (ih k (by omega) (by omega)) h1
section MOV
variable {d : Nat} {I : ma_I} {o : Nat} {Q : ma_Q} {σ : ma_I}
theorem xs_13 (hm : iv_mv σ) (hM : rx_m σ (sv I)) (h : ∀ I', fr [23] I I' → (∀ k, k < 100 → I' 23 0 k = pu_li σ (Int32.ofNat k)) → Q none I' o) : Exm d 13 [.inr (.inr (6, 0))] I o Q := by
  obtain ⟨h6, hn, hk⟩ := nm_le hm
  obtain ⟨m1, m2⟩ := hM
  rw [sv_6, hn] at m1
  have hd : ∀ j, j < pu_nm0 σ → I 14 0 j = σ 41 0 j ∧ I 15 0 j = σ 42 0 j := fun j hj => by
    have := m2 j hj
    rw [sv_14, sv_15] at this
    exact this
  have hli : ∀ (e p : Nat), p ≤ pu_nm0 σ → (∀ j, p ≤ j → j < pu_nm0 σ → Int32.ofNat e < σ 41 0 j) → (0 < p → σ 41 0 (p - 1) ≤ Int32.ofNat e) → pu_li σ (Int32.ofNat e) = if p = 0 then 0 else σ 42 0 (p - 1) := by
    intro e p hp h1 h2
    have := lv_to (σ := σ) (d := Int32.ofNat e) (p := p) (pu_nm0 σ - p) (fun j a b => h1 j a (by omega)) h2
    rw [show p + (pu_nm0 σ - p) = pu_nm0 σ by omega] at this
    exact this
  refine e_13 ?_
  have key := lp_up (P := fun e => ∀ I' p, fr [23] I I' → (∀ k, k < e → I' 23 0 k = pu_li σ (Int32.ofNat k)) → p ≤ pu_nm0 σ → (∀ j, p ≤ j → j < pu_nm0 σ → Int32.ofNat e ≤ σ 41 0 j) → (0 < p → σ 41 0 (p - 1) < Int32.ofNat e) → Ex d 13 (6, [vR 6 0, vI (if p = 0 then 0 else σ 42 0 (p - 1)), vI (Int32.ofNat p), vI (Int32.ofNat e)], [], ma_mem I' o, 0, 0) (ma_end Q)) 100 ?_ ?_
  · exact key 0 (by omega) I 0 (fr_refl _ _) (fun k hk => by omega) (by omega) (fun j _ hj => rg_lo (by decide) (hk j hj).1) (fun h0 => by omega)
  · intro I' p hf hh _ _ _
    exact b_13_6 ⟨fun _ => h I' hf hh, fun c => absurd c (by decide)⟩
  · intro e he ih I' p hf hh hp ha hb
    have e1 : I' 6 0 1 = Int32.ofNat (pu_nm0 σ) := by rw [fr_g hf 6 0 1 (by decide) (by decide) (by decide)]; exact m1
    have hlt : ∀ x : Int32, Int32.ofNat e ≤ x → x ≠ Int32.ofNat e → Int32.ofNat (e + 1) ≤ x := by
      intro x h1 h2
      rw [Int32.le_iff_toInt_le, in_ti (by omega)] at h1 ⊢
      have h3 : x.toInt ≠ (e : Int) := fun hh => h2 (Int32.toInt.inj (by rw [hh, in_ti (by omega)]))
      omega
    have hle : ∀ x : Int32, x < Int32.ofNat (e + 1) ↔ x ≤ Int32.ofNat e := by
      intro x
      rw [Int32.lt_iff_toInt_lt, Int32.le_iff_toInt_le, in_ti (by omega), in_ti (by omega)]
      omega
    have hstay : (∀ j, p ≤ j → j < pu_nm0 σ → Int32.ofNat e < σ 41 0 j) → Ex d 13 (6, [vR 6 0, vI (if p = 0 then 0 else σ 42 0 (p - 1)), vI (Int32.ofNat p), vI (Int32.ofNat (e + 1))], [], ma_mem (ma_up I' 23 0 e (if p = 0 then 0 else σ 42 0 (p - 1))) o, 0, 0) (ma_end Q) := by
      intro hq
      refine ih _ p (fr_upg hf (by decide) (by decide) (by decide)) (fun k hk2 => ?_) hp (fun j a b => hlt _ (ha j a b) (fun hh => absurd (hq j a b) (by rw [hh]; exact Int32.lt_irrefl))) (fun h0 => (hle _).mpr (Int32.le_of_lt (hb h0)))
      by_cases ek : k = e
      · subst ek
        rw [xv_us]
        exact (hli k p hp hq (fun h0 => Int32.le_of_lt (hb h0))).symm
      · rw [up_j ek]; exact hh k (by omega)
    refine b_13_6 ?_
    rw [in_cl (by omega), in_a1, e1]
    refine ⟨fun c => ?_, fun _ => ⟨fun c => ⟨in_in (by omega) (by omega), ?_⟩, fun c => ⟨in_in (a := p) (by omega) (by have := (in_lt (by omega) (by omega)).mp c; omega), ?_⟩⟩⟩
    · have := (in_le (a := 100) (by decide) (by omega)).mp c
      omega
    · have hc := (in_le (by omega) (by omega)).mp c
      exact hstay (fun j a b => by omega)
    · have hc := (in_lt (by omega) (by omega)).mp c
      rw [in_cl (by omega), fr_g hf 14 0 p (by decide) (by decide) (by decide), fr_g hf 15 0 p (by decide) (by decide) (by decide), (hd p hc).1, (hd p hc).2, in_a1]
      refine ⟨fun c2 => ⟨in_in (by omega) (by omega), ?_⟩, fun c2 => ⟨in_in (by omega) (by omega), in_in (by omega) (by omega), ?_⟩⟩
      · refine hstay (fun j a b => ?_)
        have h1 := hlt _ (ha p (Nat.le_refl p) hc) c2
        have h2 : Int32.ofNat e < σ 41 0 p := by
          rw [Int32.le_iff_toInt_le, in_ti (by omega)] at h1
          rw [Int32.lt_iff_toInt_lt, in_ti (by omega)]
          omega
        by_cases ej : j = p
        · subst ej; exact h2
        · have := mv_asc hm (j - p) p (by omega) (by omega)
          rw [show p + (j - p) = j by omega] at this
          exact Int32.lt_trans h2 this
      · have hq : ∀ j, p + 1 ≤ j → j < pu_nm0 σ → Int32.ofNat e < σ 41 0 j := fun j a b => by
          have := mv_asc hm (j - p) p (by omega) (by omega)
          rw [show p + (j - p) = j by omega, c2] at this
          exact this
        have := ih (ma_up I' 23 0 e (σ 42 0 p)) (p + 1) (fr_upg hf (by decide) (by decide) (by decide)) (fun k hk2 => ?_) hc (fun j a b => hlt _ (Int32.le_of_lt (hq j a b)) (fun hh => absurd (hq j a b) (by rw [hh]; exact Int32.lt_irrefl))) (fun _ => (hle _).mpr (by show σ 41 0 p ≤ _; rw [c2]; exact Int32.le_refl _))
        · exact this
        · by_cases ek : k = e
          · subst ek
            rw [xv_us]
            exact (hli k (p + 1) hc hq (fun _ => by show σ 41 0 p ≤ _; rw [c2]; exact Int32.le_refl _)).symm
          · rw [up_j ek]; exact hh k (by omega)
/-- the moves changed, and all is laid out anew -/
theorem rx_mv {σ' τ τ' : ma_I} (hR : rx_w σ τ) (h0 : σ' 40 0 0 = σ 40 0 0) (hn : σ' 40 0 4 = σ 40 0 4) (ho : ∀ o, o < (σ 40 0 4).toNatClampNeg → o_same σ σ' o) (h13 : σ' 40 0 13 = σ 40 0 13) (h14 : σ' 40 0 14 = σ 40 0 14) (h50 : ∀ k, σ' 50 0 k = σ 50 0 k) (h51 : ∀ k, σ' 51 0 k = σ 51 0 k)
    (hx : ∀ j, j ≠ 1 → τ' 6 0 j = τ 6 0 j) (hτ : ∀ g i j, (g = 17 ∨ g = 20 ∨ g = 21 ∨ g = 24) → τ' g i j = τ g i j) (hh : ∀ k, k < 100 → τ' 23 0 k = pu_li σ' (Int32.ofNat k)) : rx_w σ' τ' := by
  obtain ⟨⟨r0, -, r6, r8, ro, rh, rs, rt⟩, r4⟩ := hR
  refine ⟨⟨by rw [hx 0 (by decide), h0]; exact r0, trivial, by rw [hx 6 (by decide), h13]; exact r6, by rw [hx 8 (by decide), h14]; exact r8, ?_, hh, ?_, ?_⟩, by rw [hx 4 (by decide), hn]; exact r4⟩
  · intro i hi
    rw [hn] at hi
    obtain ⟨o1, o2, o3, o4, o5, o6⟩ := ho i hi
    obtain ⟨q1, q2, q3, q4, q5, q6⟩ := ro i hi
    unfold rx_o
    rw [hτ 17 i _ (Or.inl rfl), hτ 17 i _ (Or.inl rfl), hτ 17 i _ (Or.inl rfl), hτ 17 i _ (Or.inl rfl), hτ 17 i _ (Or.inl rfl), hτ 17 i _ (Or.inl rfl), o1, o2, o3, o4, o5, o6]
    exact ⟨q1, q2, q3, q4, q5, q6⟩
  · intro h k h8 hk i hi
    rw [hτ 24 0 _ (by simp), hn, rs h k h8 hk i hi]
    by_cases e : i < (σ 40 0 4).toNatClampNeg
    · have := ho i e
      rw [this.2.2.1, sn_cong this]
    · rw [decide_eq_false e]
      simp only [Bool.false_and]
  · intro t ht
    rw [h13] at ht
    obtain ⟨e, e0, he⟩ := rt t ht
    refine ⟨e, e0, fun p hp => ?_⟩
    obtain ⟨a, b, c, f, g⟩ := he p hp
    refine ⟨by rw [hτ 21 t p (by simp)]; exact a, b, c, by rw [h51]; exact f, fun k hk => ?_⟩
    rw [hτ 20 t _ (by simp), h50]
    exact g k hk
/-! move -/
def an_move (σ : ma_I) (a b : Int32) : Int32 := if 0 ≤ a ∧ a ≤ 99 then if 0 ≤ b ∧ b ≤ 7 then if 0 < pu_nm0 σ ∧ a ≤ σ 41 0 (pu_nm0 σ - 1) then -3 else if pu_nm0 σ = 6 then -4 else Int32.ofNat (pu_nm0 σ + 1) else -2 else -2
def pu_mm (σ : ma_I) (n : Nat) (a b : Int32) : ma_I := ma_up (ma_up (ma_up σ 41 0 n a) 42 0 n b) 40 0 1 (Int32.ofNat (n + 1))
def st_move (σ : ma_I) (a b : Int32) : ma_I := if (0 ≤ a ∧ a ≤ 99) ∧ (0 ≤ b ∧ b ≤ 7) ∧ ¬(0 < pu_nm0 σ ∧ a ≤ σ 41 0 (pu_nm0 σ - 1)) ∧ pu_nm0 σ ≠ 6 then pu_mm σ (pu_nm0 σ) a b else σ
theorem mm_nm {n : Nat} {a b : Int32} (h : n < 6) : pu_nm0 (pu_mm σ n a b) = n + 1 := by
  unfold pu_nm0 pu_mm
  rw [xv_us, in_cl (by omega)]
theorem mm_41 {n k : Nat} {a b : Int32} : pu_mm σ n a b 41 0 k = if k = n then a else σ 41 0 k := by
  unfold pu_mm
  rw [up_g (by decide), up_g (by decide)]
  by_cases e : k = n
  · subst e; rw [xv_us, if_pos rfl]
  · rw [up_j e, if_neg e]
theorem mm_42 {n k : Nat} {a b : Int32} : pu_mm σ n a b 42 0 k = if k = n then b else σ 42 0 k := by
  unfold pu_mm
  rw [up_g (by decide)]
  by_cases e : k = n
  · subst e; rw [xv_us, if_pos rfl]
  · rw [up_j e, if_neg e, up_g (by decide)]
theorem mm_iv {a b : Int32} (hg : iv_mv σ) (ha : 0 ≤ a ∧ a ≤ 99) (hb : 0 ≤ b ∧ b ≤ 7) (hs : ¬(0 < pu_nm0 σ ∧ a ≤ σ 41 0 (pu_nm0 σ - 1))) (h6 : pu_nm0 σ ≠ 6) : iv_mv (pu_mm σ (pu_nm0 σ) a b) := by
  obtain ⟨hle, hn, hk⟩ := nm_le hg
  refine ⟨pu_nm0 σ + 1, xv_us, by omega, fun k hkn => ?_⟩
  rw [mm_41, mm_42, mm_41]
  by_cases e : k = pu_nm0 σ
  · rw [if_pos e, if_pos e]
    exact ⟨rg_mk (by decide) ha.1 ha.2, rg_mk (by decide) hb.1 hb.2, fun hh => by omega⟩
  · rw [if_neg e, if_neg e]
    obtain ⟨q1, q2, q3⟩ := hk k (by omega)
    refine ⟨q1, q2, fun hh => ?_⟩
    by_cases e2 : k + 1 = pu_nm0 σ
    · rw [if_pos e2]
      have : ¬a ≤ σ 41 0 (pu_nm0 σ - 1) := fun hh2 => hs ⟨by omega, hh2⟩
      rw [show pu_nm0 σ - 1 = k by omega] at this
      exact xv_nle this
    · rw [if_neg e2]; exact q3 (by omega)
theorem xs_64 {a b : Int32} (hg : iv_g σ) (hR : rx_w σ (sv I)) (hM : rx_m σ (sv I)) (h : ∀ I', fr [23, 14, 15, 6] I I' → (∀ j, j ≠ 1 → I' 6 0 j = I 6 0 j) → rx_w (st_move σ a b) (sv I') → rx_m (st_move σ a b) (sv I') → Q (some (.inl (an_move σ a b))) I' o) : Exm (d + 2) 64 [.inr (.inr (5, 0)), .inl a, .inl b] I o Q := by
  obtain ⟨h6, hn, hk⟩ := nm_le hg.2.1
  have hM' := hM
  obtain ⟨m1, m2⟩ := hM
  rw [sv_6, hn] at m1
  have hd : ∀ j, j < pu_nm0 σ → I 14 0 j = σ 41 0 j ∧ I 15 0 j = σ 42 0 j := fun j hj => by
    have := m2 j hj
    rw [sv_14, sv_15] at this
    exact this
  have hno : ∀ x, an_move σ a b = x → ¬((0 ≤ a ∧ a ≤ 99) ∧ (0 ≤ b ∧ b ≤ 7) ∧ ¬(0 < pu_nm0 σ ∧ a ≤ σ 41 0 (pu_nm0 σ - 1)) ∧ pu_nm0 σ ≠ 6) → Q (some (.inl x)) I o := by
    intro x hx hc
    have hst : st_move σ a b = σ := if_neg hc
    have := h I (fr_refl _ _) (fun _ _ => rfl) (by rw [hst]; exact hR) (by rw [hst]; exact hM')
    rw [hx] at this
    exact this
  have hadd : (0 ≤ a ∧ a ≤ 99) → (0 ≤ b ∧ b ≤ 7) → ¬(0 < pu_nm0 σ ∧ a ≤ σ 41 0 (pu_nm0 σ - 1)) → pu_nm0 σ < 6 → ma_in (Int32.ofNat (pu_nm0 σ)) 6 ∧ ma_in (Int32.ofNat (pu_nm0 σ)) 6 ∧ Exm (d + 1) 13 [.inr (.inr (6, 0))] (ma_up (ma_up (ma_up I 14 0 (pu_nm0 σ) a) 15 0 (pu_nm0 σ) b) 6 0 1 (Int32.ofNat (pu_nm0 σ + 1))) o (fun r J1 p2 => r = none ∧ Q (some (.inl (J1 6 0 1))) J1 p2) := by
    intro ca cb cs c6
    have hiv := mm_iv hg.2.1 ca cb cs (by omega)
    have hst : st_move σ a b = pu_mm σ (pu_nm0 σ) a b := if_pos ⟨ca, cb, cs, by omega⟩
    have hMn : rx_m (pu_mm σ (pu_nm0 σ) a b) (sv (ma_up (ma_up (ma_up I 14 0 (pu_nm0 σ) a) 15 0 (pu_nm0 σ) b) 6 0 1 (Int32.ofNat (pu_nm0 σ + 1)))) := by
      refine ⟨by rw [sv_6, xv_us]; exact xv_us.symm, fun k hk2 => ?_⟩
      rw [mm_nm c6] at hk2
      rw [mm_41, mm_42, sv_14, sv_15]
      by_cases e : k = pu_nm0 σ
      · subst e
        rw [if_pos rfl, if_pos rfl]
        exact ⟨by rw [up_g (by decide), up_g (by decide), xv_us], by rw [up_g (by decide), xv_us]⟩
      · rw [if_neg e, if_neg e]
        exact ⟨by rw [up_g (by decide), up_g (by decide), up_j e]; exact (hd k (by omega)).1, by rw [up_g (by decide), up_j e, up_g (by decide)]; exact (hd k (by omega)).2⟩
    refine ⟨in_in (by omega) (by omega), in_in (by omega) (by omega), xs_13 hiv hMn (fun J hJ hh => ⟨rfl, ?_⟩)⟩
    have hf : fr [23, 14, 15, 6] I J := fr_trans (fr_upg (fr_upg (fr_upg (fr_refl _ _) (by decide) (by decide) (by decide)) (by decide) (by decide) (by decide)) (by decide) (by decide) (by decide)) (fr_mono hJ (by decide))
    have j6 : ∀ j, J 6 0 j = ma_up (ma_up (ma_up I 14 0 (pu_nm0 σ) a) 15 0 (pu_nm0 σ) b) 6 0 1 (Int32.ofNat (pu_nm0 σ + 1)) 6 0 j := fun j => fr_g hJ 6 0 j (by decide) (by decide) (by decide)
    have j61 : J 6 0 1 = Int32.ofNat (pu_nm0 σ + 1) := by rw [j6, xv_us]
    have j6n : ∀ j, j ≠ 1 → J 6 0 j = I 6 0 j := fun j hj => by rw [j6, up_j hj, up_g (by decide), up_g (by decide)]
    rw [j61]
    have := h J hf j6n (by
      rw [hst]
      refine rx_mv hR rfl rfl (fun _ _ => ⟨rfl, rfl, rfl, rfl, rfl, rfl⟩) rfl rfl (fun _ => rfl) (fun _ => rfl) (fun j hj => by rw [sv_6, sv_6, j6n j hj]) (fun g i j hg2 => ?_) (fun k hk2 => by rw [sv_23]; exact hh k hk2)
      rcases hg2 with e | e | e | e <;> subst e
      · rw [sv_17, sv_17, fr_g hf 17 i j (by decide) (by decide) (by decide)]
      · rw [sv_20, sv_20, fr_g hf 20 i j (by decide) (by decide) (by decide)]
      · rw [sv_21, sv_21, fr_g hf 21 i j (by decide) (by decide) (by decide)]
      · rw [sv_24, sv_24, fr_g hf 24 i j (by decide) (by decide) (by decide)]) (by
      rw [hst]
      obtain ⟨q1, q2⟩ := hMn
      refine ⟨by rw [sv_6, j61]; exact xv_us.symm, fun k hk2 => ?_⟩
      have := q2 k hk2
      rw [sv_14, sv_15] at this
      rw [sv_14, sv_15, fr_g hJ 14 0 k (by decide) (by decide) (by decide), fr_g hJ 15 0 k (by decide) (by decide) (by decide)]
      exact this)
    unfold an_move at this
    rw [if_pos ca, if_pos cb, if_neg cs, if_neg (by omega)] at this
    exact this
  refine e_64 ?_
  rw [m1, in_cl (by omega), in_a1]
  refine ⟨fun ca => hno _ (if_neg ca) (fun q => ca q.1), fun ca => ⟨fun cb => ⟨fun c0 => ?_, fun c0 => ?_⟩, fun cb => hno _ (by unfold an_move; rw [if_pos ca, if_neg cb]) (fun q => cb q.2.1)⟩⟩
  · have h0 := (in_le (b := 0) (by omega) (by decide)).mp c0
    exact ⟨fun _ => hadd ca cb (fun q => by omega) (by omega), fun c6 => by have := (in_le (a := 6) (by decide) (by omega)).mp c6; omega⟩
  · have h0 := (in_lt (a := 0) (by decide) (by omega)).mp c0
    rw [show pu_nm0 σ = (pu_nm0 σ - 1) + 1 by omega, in_s1, in_cl (by omega), (hd (pu_nm0 σ - 1) (by omega)).1, show (pu_nm0 σ - 1) + 1 = pu_nm0 σ by omega]
    refine ⟨in_in (by omega) (by omega), fun c1 => ?_, fun c1 => ?_⟩
    · have cs : ¬(0 < pu_nm0 σ ∧ a ≤ σ 41 0 (pu_nm0 σ - 1)) := fun q => absurd c1 (Int32.not_lt.mpr q.2)
      refine ⟨fun c6 => hadd ca cb cs ((in_lt (b := 6) (by omega) (by decide)).mp c6), fun c6 => ?_⟩
      have := (in_le (a := 6) (by decide) (by omega)).mp c6
      have e6 : pu_nm0 σ = 6 := by omega
      exact hno _ (by unfold an_move; rw [if_pos ca, if_pos cb, if_neg cs, if_pos e6]) (fun q => q.2.2.2 e6)
    · exact hno _ (by unfold an_move; rw [if_pos ca, if_pos cb, if_pos ⟨h0, c1⟩]) (fun q => q.2.2.1 ⟨h0, c1⟩)
theorem mo_124 {a b : Int32} (hg : iv_g (mv I)) (h : ∀ I', fr [41, 42, 1001] I I' → mv I' = st_move (mv I) a b → Q (some (.inl (an_move (mv I) a b))) I' o) : Exm (d + 2) 124 [.inr (.inr (40, 0)), .inl a, .inl b] I o Q := by
  obtain ⟨h6, hn, hk⟩ := nm_le hg.2.1
  have m1 : I 40 0 1 = Int32.ofNat (pu_nm0 (mv I)) := by rw [mv_40_1] at hn; exact hn
  have hno : ∀ x, an_move (mv I) a b = x → ¬((0 ≤ a ∧ a ≤ 99) ∧ (0 ≤ b ∧ b ≤ 7) ∧ ¬(0 < pu_nm0 (mv I) ∧ a ≤ mv I 41 0 (pu_nm0 (mv I) - 1)) ∧ pu_nm0 (mv I) ≠ 6) → Q (some (.inl x)) I o := by
    intro x hx hc
    have := h I (fr_refl _ _) (if_neg hc).symm
    rw [hx] at this
    exact this
  have hadd : (0 ≤ a ∧ a ≤ 99) → (0 ≤ b ∧ b ≤ 7) → ¬(0 < pu_nm0 (mv I) ∧ a ≤ mv I 41 0 (pu_nm0 (mv I) - 1)) → pu_nm0 (mv I) ≠ 6 → ma_in (Int32.ofNat (pu_nm0 (mv I))) 6 ∧ ma_in (Int32.ofNat (pu_nm0 (mv I))) 6 ∧ Q (some (.inl (Int32.ofNat (pu_nm0 (mv I) + 1)))) (ma_up (ma_up (ma_up I 41 0 (pu_nm0 (mv I)) a) 42 0 (pu_nm0 (mv I)) b) 40 0 1 (Int32.ofNat (pu_nm0 (mv I) + 1))) o := by
    intro ca cb cs c6
    refine ⟨in_in (by omega) (by omega), in_in (by omega) (by omega), ?_⟩
    have := h (ma_up (ma_up (ma_up I 41 0 (pu_nm0 (mv I)) a) 42 0 (pu_nm0 (mv I)) b) 40 0 1 (Int32.ofNat (pu_nm0 (mv I) + 1))) (fr_up1 (fr_upg (fr_upg (fr_refl _ _) (by decide) (by decide) (by decide)) (by decide) (by decide) (by decide)) (by decide)) (by
      unfold st_move
      rw [if_pos ⟨ca, cb, cs, c6⟩, mv_up (by omega) (by decide), mv_up (by omega) (by rw [cl_g (by decide) (by decide)]; decide), mv_up (by omega) (by rw [cl_g (by decide) (by decide)]; decide)]
      rfl)
    unfold an_move at this
    rw [if_pos ca, if_pos cb, if_neg cs, if_neg c6] at this
    exact this
  refine e_124 ?_
  rw [m1, in_cl (by omega), in_a1]
  refine ⟨fun ca => hno _ (if_neg ca) (fun q => ca q.1), fun ca => ⟨fun cb => ⟨fun c0 => ?_, fun c0 => ?_⟩, fun cb => hno _ (by unfold an_move; rw [if_pos ca, if_neg cb]) (fun q => cb q.2.1)⟩⟩
  · have h0 := (in_le (b := 0) (by omega) (by decide)).mp c0
    exact ⟨fun _ => hadd ca cb (fun q => by omega) (by omega), fun c6 => by have := (in_eq (b := 6) (by omega) (by decide)).mp c6; omega⟩
  · have h0 := (in_lt (a := 0) (by decide) (by omega)).mp c0
    have e41 : ∀ k, I 41 0 k = mv I 41 0 k := fun k => (mv_41 I 0 k).symm
    rw [show pu_nm0 (mv I) = (pu_nm0 (mv I) - 1) + 1 by omega, in_s1, in_cl (by omega), e41, show (pu_nm0 (mv I) - 1) + 1 = pu_nm0 (mv I) by omega]
    refine ⟨in_in (by omega) (by omega), fun c1 => ?_, fun c1 => ?_⟩
    · have cs : ¬(0 < pu_nm0 (mv I) ∧ a ≤ mv I 41 0 (pu_nm0 (mv I) - 1)) := fun q => absurd c1 (Int32.not_lt.mpr q.2)
      refine ⟨fun c6 => hadd ca cb cs (fun e => c6 (by rw [e]; rfl)), fun c6 => ?_⟩
      have e6 := (in_eq (b := 6) (by omega) (by decide)).mp c6
      exact hno _ (by unfold an_move; rw [if_pos ca, if_pos cb, if_neg cs, if_pos e6]) (fun q => q.2.2.2 e6)
    · exact hno _ (by unfold an_move; rw [if_pos ca, if_pos cb, if_pos ⟨h0, c1⟩]) (fun q => q.2.2.1 ⟨h0, c1⟩)
end MOV

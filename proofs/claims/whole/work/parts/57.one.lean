/-! ===== one order more ===== -/
theorem rm_neg {a : Int32} {m : Nat} (hm : 1 ≤ m) (hm2 : m < 1000) (ha : a < 0) (hd : 0 ≤ a / Int32.ofNat m) : xv_rm a (Int32.ofNat m) < 0 := by
  have h1 : (a / Int32.ofNat m).toInt = a.toInt.tdiv m := by
    rw [Int32.toInt_div_of_ne_right _ _ (in_nm (by omega)), in_ti (by omega)]
  have ha' : a.toInt < 0 := by
    rw [Int32.lt_iff_toInt_lt] at ha
    exact ha
  have h2 : a.toInt.tdiv m = -((-a.toInt).tdiv m) := by rw [Int.neg_tdiv, Int.neg_neg]
  have h3 : 0 ≤ (-a.toInt).tdiv (m : Int) := Int.tdiv_nonneg (by omega) (by omega)
  rw [Int32.le_iff_toInt_le, h1, h2] at hd
  have z : (0 : Int32).toInt = 0 := rfl
  have h4 : a / Int32.ofNat m = 0 := by
    apply Int32.toInt.inj
    rw [h1, h2]
    omega
  unfold xv_rm
  rw [h4, Int32.zero_mul, Int32.sub_zero]
  exact ha
theorem dv_of {a b : Nat} (ha : a < 2147483648) (hb : b < 2147483648) : Int32.ofNat a / Int32.ofNat b = Int32.ofNat (a / b) := (Int32.ofNat_div (by omega) (by omega)).symm
/-- an order that can come -/
def pu_oo (a b c : Int32) : Prop := ∃ x y z : Nat, a = Int32.ofNat x ∧ b = Int32.ofNat y ∧ c = Int32.ofNat z ∧ x ≤ 59 ∧ y ≤ 77 ∧ y % 10 ≤ 7 ∧ y / 10 ≠ y % 10 ∧ z ≤ 9999 ∧ z / 100 ≤ z % 100
theorem nn_or (a : Int32) : a < 0 ∨ ∃ x, x < 2147483648 ∧ a = Int32.ofNat x := by
  by_cases h : a < 0
  · exact Or.inl h
  · exact Or.inr (in_ex (xv_nlt h))
/-- an order is added -/
def pu_ad (σ : ma_I) (n : Nat) (k nu f t fi la : Int32) : ma_I := ma_up (ma_up (ma_up (ma_up (ma_up (ma_up (ma_up σ 43 0 n k) 44 0 n nu) 45 0 n f) 46 0 n t) 47 0 n fi) 48 0 n la) 40 0 4 (Int32.ofNat (n + 1))
theorem ad_same {σ : ma_I} {n j : Nat} {k nu f t fi la : Int32} (h : j ≠ n) : o_same σ (pu_ad σ n k nu f t fi la) j := by
  unfold pu_ad
  refine ⟨?_, ?_, ?_, ?_, ?_, ?_⟩
  · rw [up_g (by decide), up_g (by decide), up_g (by decide), up_g (by decide), up_g (by decide), up_g (by decide), up_j h]
  · rw [up_g (by decide), up_g (by decide), up_g (by decide), up_g (by decide), up_g (by decide), up_j h, up_g (by decide)]
  · rw [up_g (by decide), up_g (by decide), up_g (by decide), up_g (by decide), up_j h, up_g (by decide), up_g (by decide)]
  · rw [up_g (by decide), up_g (by decide), up_g (by decide), up_j h, up_g (by decide), up_g (by decide), up_g (by decide)]
  · rw [up_g (by decide), up_g (by decide), up_j h, up_g (by decide), up_g (by decide), up_g (by decide), up_g (by decide)]
  · rw [up_g (by decide), up_j h, up_g (by decide), up_g (by decide), up_g (by decide), up_g (by decide), up_g (by decide)]
theorem ad_new {σ : ma_I} {n : Nat} {k nu f t fi la : Int32} : pu_ad σ n k nu f t fi la 43 0 n = k ∧ pu_ad σ n k nu f t fi la 44 0 n = nu ∧ pu_ad σ n k nu f t fi la 45 0 n = f ∧ pu_ad σ n k nu f t fi la 46 0 n = t ∧ pu_ad σ n k nu f t fi la 47 0 n = fi ∧ pu_ad σ n k nu f t fi la 48 0 n = la := by
  unfold pu_ad
  refine ⟨?_, ?_, ?_, ?_, ?_, ?_⟩
  · rw [up_g (by decide), up_g (by decide), up_g (by decide), up_g (by decide), up_g (by decide), up_g (by decide), xv_us]
  · rw [up_g (by decide), up_g (by decide), up_g (by decide), up_g (by decide), up_g (by decide), xv_us]
  · rw [up_g (by decide), up_g (by decide), up_g (by decide), up_g (by decide), xv_us]
  · rw [up_g (by decide), up_g (by decide), up_g (by decide), xv_us]
  · rw [up_g (by decide), up_g (by decide), xv_us]
  · rw [up_g (by decide), xv_us]
theorem ad_n {σ : ma_I} {n : Nat} {k nu f t fi la : Int32} : pu_ad σ n k nu f t fi la 40 0 4 = Int32.ofNat (n + 1) := xv_us
theorem ad_iv {σ : ma_I} {n : Nat} {k nu f t fi la : Int32} (hg : iv_g σ) (hn : σ 40 0 4 = Int32.ofNat n) (hn8 : n < 8) (hk : rg k 0 5) (hnu : rg nu 0 9) (hf : rg f 0 7) (ht : rg t 0 7) (hft : f ≠ t) (hfl : ∃ a b : Nat, fi = Int32.ofNat a ∧ la = Int32.ofNat b ∧ a ≤ b ∧ b ≤ 99) : iv_g (pu_ad σ n k nu f t fi la) := by
  obtain ⟨h1, h2, ⟨n', hn', h8, hon⟩, h4⟩ := hg
  have en : n' = n := by rw [hn, in_eq (by omega) (by omega)] at hn'; exact hn'.symm
  subst en
  refine ⟨h1, mv_cong rfl (fun _ => rfl) (fun _ => rfl) h2, ⟨n' + 1, ad_n, by omega, fun o ho => ?_⟩, ?_⟩
  · by_cases e : o = n'
    · subst e
      obtain ⟨q1, q2, q3, q4, q5, q6⟩ := ad_new (σ := σ) (n := o) (k := k) (nu := nu) (f := f) (t := t) (fi := fi) (la := la)
      unfold iv_o1
      rw [q1, q2, q3, q4, q5, q6]
      exact ⟨hk, hnu, hf, ht, hft, hfl⟩
    · exact o1_cong (ad_same e) (hon o (by omega))
  · obtain ⟨m, r, a, b, c, e, f⟩ := h4
    exact tx_cong (σ := σ) (τ := pu_ad σ n' k nu _ t fi la) rfl (fun _ => rfl) (fun _ => rfl) b (by rw [a, in_cl (by omega)]; exact e) ⟨m, r, a, b, c, e, f⟩
/-- the senders with one more, with one less -/
theorem sn_add {σ σ' τ τ2 : ma_I} {n f : Nat} (hn : n < 8) (hT : sn_T σ τ n) (hf' : σ' 45 0 n = Int32.ofNat f) (hf8 : f < 8) (hoth : ∀ j, j < n → o_same σ σ' j)
    (h2 : ∀ hh k, hh < 8 → k < 100 → ∀ j, j < 32 → bg (τ2 24 0 (hh * 100 + k)) j = (bg (τ 24 0 (hh * 100 + k)) j || (decide (hh = f) && decide (j = n) && pu_sn σ' n (Int32.ofNat k)))) : sn_T σ' τ2 (n + 1) := by
  intro h k h8 hk j hj
  rw [h2 h k h8 hk j hj, hT h k h8 hk j hj]
  by_cases e : j = n
  · subst e
    rw [decide_eq_false (by omega : ¬j < j), decide_eq_true (rfl : j = j), decide_eq_true (by omega : j < j + 1)]
    have q2 : decide (σ' 45 0 j = Int32.ofNat h) = decide (h = f) := by
      rw [hf']
      exact decide_eq_decide.mpr ⟨fun e => ((in_eq (by omega) (by omega)).mp e).symm, fun e => by rw [e]⟩
    rw [q2]
    simp
  · rw [decide_eq_false e]
    by_cases hjn : j < n
    · have := hoth j hjn
      rw [this.2.2.1, sn_cong this, decide_eq_true hjn, decide_eq_true (by omega : j < n + 1)]
      simp
    · rw [decide_eq_false hjn, decide_eq_false (by omega : ¬j < n + 1)]; simp
theorem sn_del {σ σ' τ τ2 : ma_I} {n f : Nat} (hn : n < 8) (hT : sn_T σ' τ (n + 1)) (hf' : σ' 45 0 n = Int32.ofNat f) (hf8 : f < 8) (hoth : ∀ j, j < n → o_same σ σ' j)
    (h2 : ∀ hh k, hh < 8 → k < 100 → ∀ j, j < 32 → bg (τ2 24 0 (hh * 100 + k)) j = (bg (τ 24 0 (hh * 100 + k)) j && !(decide (hh = f) && decide (j = n)))) : sn_T σ τ2 n := by
  intro h k h8 hk j hj
  rw [h2 h k h8 hk j hj, hT h k h8 hk j hj]
  by_cases e : j = n
  · subst e
    rw [decide_eq_false (by omega : ¬j < j), decide_eq_true (rfl : j = j), decide_eq_true (by omega : j < j + 1)]
    have q2 : decide (σ' 45 0 j = Int32.ofNat h) = decide (h = f) := by
      rw [hf']
      exact decide_eq_decide.mpr ⟨fun e => ((in_eq (by omega) (by omega)).mp e).symm, fun e => by rw [e]⟩
    rw [q2]
    cases decide (h = f) <;> simp
  · rw [decide_eq_false e]
    by_cases hjn : j < n
    · have := hoth j hjn
      rw [this.2.2.1, sn_cong this, decide_eq_true hjn, decide_eq_true (by omega : j < n + 1)]
      simp
    · rw [decide_eq_false hjn, decide_eq_false (by omega : ¬j < n + 1)]; simp
section ONE
variable {d : Nat} {I : ma_I} {o : Nat} {Q : ma_Q} {σ : ma_I}
/-- the class takes an order up, in the place behind all others -/
theorem xs_add {n : Nat} {k nu f t fi la : Int32} (hg : iv_g σ) (hR : rx_w σ (sv I)) (hn : σ 40 0 4 = Int32.ofNat n) (hn8 : n < 8) (hnu : rg nu 0 9) (hf : rg f 0 7) (hla : rg la 0 99)
    (h : ∀ I', fr [24, 17] I I' → I' 17 n 2 = f → rx_v (pu_ad σ n k nu f t fi la) (sv I') → Q none I' o) (hd : 2 ≤ d) :
    Exm d 4 [.inr (.inr (17, n)), .inl k, .inl nu, .inl f, .inl t, .inl fi, .inl la] I o (fun r J1 p2 => r = none ∧ Exm d 16 [.inr (.inr (6, 0)), .inl (Int32.ofNat n)] J1 p2 (fun r J3 p4 => r = none ∧ Q none J3 p4)) := by
  obtain ⟨⟨r0, -, r6, r8, ro, rh, rs, rt⟩, r4⟩ := hR
  rw [hn, in_cl (by omega)] at ro rs
  obtain ⟨ff, hff, -, hf7⟩ := hf
  obtain ⟨d', rfl⟩ : ∃ d', d = d' + 2 := ⟨d - 2, by omega⟩
  refine e_4_17 ⟨rfl, ?_⟩
  obtain ⟨q1, q2, q3, q4, q5, q6⟩ := ad_new (σ := σ) (n := n) (k := k) (nu := nu) (f := f) (t := t) (fi := fi) (la := la)
  have hJ : ∃ J, J = (ma_up (ma_up (ma_up (ma_up (ma_up (ma_up I 17 n 0 k) 17 n 1 nu) 17 n 2 f) 17 n 3 t) 17 n 4 fi) 17 n 5 la) := ⟨_, rfl⟩
  obtain ⟨J, hJ⟩ := hJ
  rw [← hJ]
  have hfJ : fr [24, 17] I J := by
    rw [hJ]
    refine fr_upg (fr_upg (fr_upg (fr_upg (fr_upg (fr_upg (fr_refl _ _) ?_ ?_ ?_) ?_ ?_ ?_) ?_ ?_ ?_) ?_ ?_ ?_) ?_ ?_ ?_) ?_ ?_ ?_ <;> decide
  have hJn : rx_o (pu_ad σ n k nu f t fi la) (sv J) n := by
    unfold rx_o
    simp only [sv_17]
    rw [q1, q2, q3, q4, q5, q6, hJ]
    refine ⟨?_, ?_, ?_, ?_, ?_, ?_⟩
    · rw [up_j (by decide), up_j (by decide), up_j (by decide), up_j (by decide), up_j (by decide), xv_us]
    · rw [up_j (by decide), up_j (by decide), up_j (by decide), up_j (by decide), xv_us]
    · rw [up_j (by decide), up_j (by decide), up_j (by decide), xv_us]
    · rw [up_j (by decide), up_j (by decide), xv_us]
    · rw [up_j (by decide), xv_us]
    · rw [xv_us]
  have hJo : ∀ j, j ≠ n → ∀ b, J 17 j b = I 17 j b := by
    intro j hj b
    rw [hJ]
    rw [up_ne (fun e => hj e.2.1), up_ne (fun e => hj e.2.1), up_ne (fun e => hj e.2.1), up_ne (fun e => hj e.2.1), up_ne (fun e => hj e.2.1), up_ne (fun e => hj e.2.1)]
  have hJ24 : ∀ c, J 24 0 c = I 24 0 c := by
    intro c
    rw [hJ]
    rw [up_g (by decide), up_g (by decide), up_g (by decide), up_g (by decide), up_g (by decide), up_g (by decide)]
  refine xs_16 (σ := pu_ad σ n k nu f t fi la) (by omega) hJn (by rw [q2]; exact hnu) (by rw [q6]; exact hla) (by rw [q3]; exact hff) (by omega) (fun K hK hbK => ⟨rfl, ?_⟩)
  have hfK : fr [24, 17] I K := fr_trans hfJ (fr_mono hK (by decide))
  have hK17 : ∀ a b, K 17 a b = J 17 a b := fun a b => fr_g hK 17 a b (by decide) (by decide) (by decide)
  refine h K hfK ?_ ⟨?_, trivial, ?_, ?_, ?_, ?_, ?_, ?_⟩
  · rw [hK17]
    have := hJn.2.2.1
    rw [sv_17, q3] at this
    exact this
  · rw [sv_6, fr_g hfK 6 0 0 (by decide) (by decide) (by decide), ← sv_6 I]; exact r0
  · rw [sv_6, fr_g hfK 6 0 6 (by decide) (by decide) (by decide), ← sv_6 I]; exact r6
  · rw [sv_6, fr_g hfK 6 0 8 (by decide) (by decide) (by decide), ← sv_6 I]; exact r8
  · intro j hj
    rw [ad_n, in_cl (by omega)] at hj
    by_cases e : j = n
    · subst e
      unfold rx_o at hJn ⊢
      simp only [sv_17, hK17] at hJn ⊢
      exact hJn
    · obtain ⟨p0, p1, p2, p3, p4, p5⟩ := ro j (by omega)
      rw [sv_17] at p0 p1 p2 p3 p4 p5
      obtain ⟨s0, s1, s2, s3, s4, s5⟩ := ad_same (σ := σ) (n := n) (k := k) (nu := nu) (f := f) (t := t) (fi := fi) (la := la) e
      unfold rx_o
      simp only [sv_17, hK17, hJo j e]
      rw [s0, s1, s2, s3, s4, s5]
      exact ⟨p0, p1, p2, p3, p4, p5⟩
  · intro m hm
    rw [sv_23, fr_g hfK 23 0 m (by decide) (by decide) (by decide), ← sv_23 I, li_cong (σ := σ) (τ := pu_ad σ n k nu f t fi la) rfl (fun _ => rfl) (fun _ => rfl)]
    exact rh m hm
  · have hT : sn_T (pu_ad σ n k nu f t fi la) K (n + 1) := by
      refine sn_add (σ := σ) (τ := J) (f := ff) hn8 (fun h m h8 hm j hj => ?_) (by rw [q3]; exact hff) (by omega) (fun j hj => ad_same (by omega)) hbK
      have := rs h m h8 hm j hj
      rw [sv_24] at this
      rw [hJ24]
      exact this
    intro hh m h8 hm j hj
    rw [sv_24, ad_n, in_cl (by omega)]
    exact hT hh m h8 hm j hj
  · intro t' ht'
    obtain ⟨e, e0, he⟩ := rt t' ht'
    refine ⟨e, e0, fun p hp => ?_⟩
    obtain ⟨a, b, c, f1, g1⟩ := he p hp
    rw [sv_21] at a
    refine ⟨by rw [sv_21, fr_g hfK 21 t' p (by decide) (by decide) (by decide)]; exact a, b, c, f1, fun m hm => ?_⟩
    have := g1 m hm
    rw [sv_20] at this
    rw [sv_20, fr_g hfK 20 t' _ (by decide) (by decide) (by decide)]
    exact this
/-! ONE MORE -/
def pu_om (σ : ma_I) (dd w : Nat) : ma_I := pu_ad σ (pu_no σ) 0 0 (Int32.ofNat (w / 10)) (Int32.ofNat (w % 10)) (Int32.ofNat dd) 99
def pu_ow (σ : ma_I) (a : Int32) (dd w : Nat) : Nat := pu_has (pu_om σ dd w) a (xv_al (Int32.ofNat (pu_no σ + 1)))
def pu_ok2 (w : Nat) : Prop := w % 10 < 8 ∧ w / 10 ≠ w % 10
def pu_o2 (σ : ma_I) (a : Int32) (dd : Nat) : Nat → Int32 × Nat
  | 0 => (-1, pu_has σ a (pu_all σ))
  | w + 1 => if (w % 10 < 8 ∧ w / 10 ≠ w % 10) ∧ (pu_o2 σ a dd w).2 < pu_ow σ a dd w then (Int32.ofNat w, pu_ow σ a dd w) else pu_o2 σ a dd w
def an_one (σ : ma_I) (a b c : Int32) : Int32 := if 0 ≤ a ∧ a ≤ 7 then if 0 ≤ b ∧ b ≤ 99 then if 0 ≤ c ∧ c ≤ 1 then if pu_no σ = 8 then -4 else if c = 0 then (pu_o2 σ a b.toNatClampNeg 78).1 else Int32.ofNat (pu_o2 σ a b.toNatClampNeg 78).2 else -2 else -2 else -2
theorem o2_80 {a : Int32} {dd : Nat} : pu_o2 σ a dd 80 = pu_o2 σ a dd 78 := by
  have h1 : pu_o2 σ a dd 80 = pu_o2 σ a dd 79 := if_neg (fun hh => absurd hh.1.1 (by decide))
  have h2 : pu_o2 σ a dd 79 = pu_o2 σ a dd 78 := if_neg (fun hh => absurd hh.1.1 (by decide))
  rw [h1, h2]
theorem o2_le {a : Int32} {dd : Nat} : ∀ w, (pu_o2 σ a dd w).2 ≤ 100 := by
  intro w
  induction w with
  | zero => exact has_le
  | succ w ih =>
    unfold pu_o2
    split
    · exact has_le
    · exact ih
theorem al_or : ∀ n, n < 8 → xv_al (Int32.ofNat n) ||| 1 <<< (Int32.ofNat n &&& 31) = xv_al (Int32.ofNat (n + 1)) := by decide +kernel
theorem om_iv {dd w : Nat} (hg : iv_g σ) (hn8 : pu_no σ < 8) (hdd : dd ≤ 99) (hw : w < 80) (ho : w % 10 < 8 ∧ w / 10 ≠ w % 10) : iv_g (pu_om σ dd w) := by
  refine ad_iv hg (A_le hg.2.2.1).2.1 hn8 ⟨0, rfl, by omega, by omega⟩ ⟨0, rfl, by omega, by omega⟩ ⟨w / 10, rfl, by omega, by omega⟩ ⟨w % 10, rfl, by omega, by omega⟩ (fun e => ho.2 ((in_eq (by omega) (by omega)).mp e)) ⟨dd, 99, rfl, rfl, hdd, by omega⟩
theorem rx_del {n : Nat} {k nu f t fi la : Int32} {K : ma_I} {ff : Nat} (hn : σ 40 0 4 = Int32.ofNat n) (hn8 : n < 8) (hff : f = Int32.ofNat ff) (hf7 : ff < 8) (hRv : rx_v (pu_ad σ n k nu f t fi la) (sv I)) (h4 : I 6 0 4 = Int32.ofNat n) (hK : fr [24] I K)
    (hb : ∀ hh m, hh < 8 → m < 100 → ∀ j, j < 32 → bg (K 24 0 (hh * 100 + m)) j = (bg (I 24 0 (hh * 100 + m)) j && !(decide (hh = ff) && decide (j = n)))) : rx_w σ (sv K) := by
  obtain ⟨r0, -, r6, r8, ro, rh, rs, rt⟩ := hRv
  rw [ad_n, in_cl (by omega)] at ro rs
  obtain ⟨q1, q2, q3, q4, q5, q6⟩ := ad_new (σ := σ) (n := n) (k := k) (nu := nu) (f := f) (t := t) (fi := fi) (la := la)
  refine ⟨⟨?_, trivial, ?_, ?_, ?_, ?_, ?_, ?_⟩, ?_⟩
  · rw [sv_6, fr_g hK 6 0 0 (by decide) (by decide) (by decide), ← sv_6 I]; exact r0
  · rw [sv_6, fr_g hK 6 0 6 (by decide) (by decide) (by decide), ← sv_6 I]; exact r6
  · rw [sv_6, fr_g hK 6 0 8 (by decide) (by decide) (by decide), ← sv_6 I]; exact r8
  · intro j hj
    rw [hn, in_cl (by omega)] at hj
    obtain ⟨p0, p1, p2, p3, p4, p5⟩ := ro j (by omega)
    rw [sv_17] at p0 p1 p2 p3 p4 p5
    obtain ⟨s0, s1, s2, s3, s4, s5⟩ := ad_same (σ := σ) (n := n) (k := k) (nu := nu) (f := f) (t := t) (fi := fi) (la := la) (by omega : j ≠ n)
    rw [s0] at p0; rw [s1] at p1; rw [s2] at p2; rw [s3] at p3; rw [s4] at p4; rw [s5] at p5
    unfold rx_o
    simp only [sv_17, fr_g hK 17 j _ (by decide) (by decide) (by decide)]
    exact ⟨p0, p1, p2, p3, p4, p5⟩
  · intro m hm
    have := rh m hm
    rw [li_cong (σ := σ) (τ := pu_ad σ n k nu f t fi la) rfl (fun _ => rfl) (fun _ => rfl), sv_23] at this
    rw [sv_23, fr_g hK 23 0 m (by decide) (by decide) (by decide)]
    exact this
  · have hT : sn_T σ K n := by
      refine sn_del (σ := σ) (σ' := pu_ad σ n k nu f t fi la) (τ := I) (f := ff) hn8 (fun h m h8 hm j hj => ?_) (by rw [q3]; exact hff) hf7 (fun j hj => ad_same (by omega)) hb
      have := rs h m h8 hm j hj
      rw [sv_24] at this
      exact this
    intro hh m h8 hm j hj
    rw [sv_24, hn, in_cl (by omega)]
    exact hT hh m h8 hm j hj
  · intro t' ht'
    obtain ⟨e, e0, he⟩ := rt t' ht'
    refine ⟨e, e0, fun p hp => ?_⟩
    obtain ⟨a, b, c, f1, g1⟩ := he p hp
    rw [sv_21] at a
    refine ⟨by rw [sv_21, fr_g hK 21 t' p (by decide) (by decide) (by decide)]; exact a, b, c, f1, fun m hm => ?_⟩
    have := g1 m hm
    rw [sv_20] at this
    rw [sv_20, fr_g hK 20 t' _ (by decide) (by decide) (by decide)]
    exact this
  · rw [sv_6, fr_g hK 6 0 4 (by decide) (by decide) (by decide), h4, hn]
theorem xs_89 {hh dd w : Nat} (hg : iv_g σ) (hR : rx_w σ (sv I)) (hn8 : pu_no σ < 8) (h8 : hh < 8) (hdd : dd ≤ 99) (hw : w < 80) (ho : w % 10 < 8 ∧ w / 10 ≠ w % 10) (h : ∀ I', fr fr_kd I I' → rx_w σ (sv I') → Q (some (.inl (Int32.ofNat (pu_ow σ (Int32.ofNat hh) dd w)))) I' o) : Exm (d + 6) 89 [.inr (.inr (5, 0)), .inl (Int32.ofNat hh), .inl (Int32.ofNat (w / 10)), .inl (Int32.ofNat (w % 10)), .inl (Int32.ofNat dd)] I o Q := by
  have hn := (A_le hg.2.2.1).2.1
  have e4 : I 6 0 4 = Int32.ofNat (pu_no σ) := by have := hR.2; rw [sv_6, hn] at this; exact this
  refine e_89 ?_
  rw [e4, in_cl (by omega)]
  refine ⟨in_in (by omega) (by omega), ?_⟩
  have hfw : rg (Int32.ofNat (w / 10)) 0 7 := ⟨w / 10, rfl, by omega, by omega⟩
  have := xs_add (d := d + 5) (o := o) (k := 0) (nu := 0) (f := Int32.ofNat (w / 10)) (t := Int32.ofNat (w % 10)) (fi := Int32.ofNat dd) (la := 99) (Q := fun _ J3 p4 => Exm (d + 5) 78 [.inr (.inr (5, 0)), .inl (Int32.ofNat hh), .inl ((xv_al (J3 6 0 4)) ||| (1 <<< (Int32.ofNat (pu_no σ) &&& 31)))] J3 p4 (fun r J5 p6 => ∃ x7 : Int32, r = some (.inl x7) ∧ Exm (d + 5) 17 [.inr (.inr (6, 0)), .inl (Int32.ofNat (pu_no σ))] J5 p6 (fun r J8 p9 => r = none ∧ Q (some (.inl x7)) J8 p9))) hg hR hn hn8 ⟨0, rfl, by omega, by omega⟩ hfw ⟨99, rfl, by omega, by omega⟩ ?_ (by omega)
  · exact this
  · intro K hK hK2 hRv
    have k4 : K 6 0 4 = Int32.ofNat (pu_no σ) := by rw [fr_g hK 6 0 4 (by decide) (by decide) (by decide)]; exact e4
    rw [k4, al_or _ hn8]
    refine xs_78 (σ := pu_om σ dd w) (om_iv hg hn8 hdd hw ho) hRv h8 (fun L hL => ⟨_, rfl, ?_⟩)
    have l2 : L 17 (pu_no σ) 2 = Int32.ofNat (w / 10) := by rw [fr_g hL 17 _ 2 (by decide) (by decide) (by decide)]; exact hK2
    refine xs_17 (by omega) l2 (by omega) (fun M hM hb => ⟨rfl, ?_⟩)
    have hfM : fr fr_kd I M := fr_trans (fr_trans (fr_mono hK (by decide)) (fr_mono hL (by decide))) (fr_mono hM (by decide))
    refine h M hfM ?_
    refine rx_del (σ := σ) (I := L) (n := pu_no σ) (k := 0) (nu := 0) (t := Int32.ofNat (w % 10)) (fi := Int32.ofNat dd) (la := 99) hn hn8 rfl (by omega) (by rw [sv_fr hL (by decide)]; exact hRv) (by rw [fr_g hL 6 0 4 (by decide) (by decide) (by decide)]; exact k4) hM hb
theorem xs_88 {a b c : Int32} (hg : iv_g σ) (hR : rx_w σ (sv I)) (h : ∀ I', fr fr_kd I I' → rx_w σ (sv I') → Q (some (.inl (an_one σ a b c))) I' o) : Exm (d + 8) 88 [.inr (.inr (5, 0)), .inl a, .inl b, .inl c] I o Q := by
  have hI := h I (fr_refl _ _) hR
  have hn := A_le hg.2.2.1
  have e4 : I 6 0 4 = Int32.ofNat (pu_no σ) := by have := hR.2; rw [sv_6, hn.2.1] at this; exact this
  unfold an_one at h hI
  refine e_88 ⟨fun c1 => ?_, fun c1 => ⟨fun c2 => ?_, fun c2 => ⟨fun c3 => ⟨fun c4 => ?_, fun c4 => ?_⟩, fun c3 => ?_⟩⟩⟩
  · rw [if_neg c1] at hI; exact hI
  · rw [if_pos c1, if_neg c2] at hI; exact hI
  · rw [e4] at c4
    have hn8 : pu_no σ < 8 := (in_lt (b := 8) (by have := hn.1; omega) (by decide)).mp c4
    rw [if_pos c1, if_pos c2, if_pos c3, if_neg (by omega)] at h
    obtain ⟨hh, h8, ea⟩ := ho_of c1
    subst ea
    obtain ⟨dd, hdd, eb⟩ := da_of c2
    subst eb
    rw [in_cl (by omega)] at h
    rw [xs_al hR]
    refine xs_78 hg hR.1 h8 (fun J hJ => ⟨_, rfl, ?_⟩)
    have hRJ : rx_w σ (sv J) := by rw [sv_fr hJ (by decide)]; exact hR
    have key := lp_up (P := fun w => ∀ (K : ma_I) (w7 w8 w9 : Option ma_V), fr fr_kd I K → rx_w σ (sv K) → Ex (d + 8) 88 (61, [vR 5 0, vI (Int32.ofNat hh), vI (Int32.ofNat dd), vI c, vI (Int32.ofNat (pu_o2 σ (Int32.ofNat hh) dd w).2), vI (pu_o2 σ (Int32.ofNat hh) dd w).1, vI (Int32.ofNat w), w7, w8, w9], [], ma_mem K o, 0, 0) (ma_end Q)) 80 ?_ ?_
    · exact key 0 (by omega) J _ _ _ (fr_mono hJ (by decide)) hRJ
    · intro K w7 w8 w9 hK hRK
      rw [o2_80]
      have h' := h K hK hRK
      refine b_88_61 ⟨fun _ => ⟨fun cc => ?_, fun cc => ?_⟩, fun cc => absurd cc (by decide)⟩
      · rw [if_neg cc] at h'; exact h'
      · rw [if_pos cc] at h'; exact h'
    · intro w hw ih K w7 w8 w9 hK hRK
      have hu : pu_o2 σ (Int32.ofNat hh) dd (w + 1) = if (w % 10 < 8 ∧ w / 10 ≠ w % 10) ∧ (pu_o2 σ (Int32.ofNat hh) dd w).2 < pu_ow σ (Int32.ofNat hh) dd w then (Int32.ofNat w, pu_ow σ (Int32.ofNat hh) dd w) else pu_o2 σ (Int32.ofNat hh) dd w := rfl
      have er : xv_rm (Int32.ofNat w) 10 = Int32.ofNat (w % 10) := rm_of (b := 10) (by omega) (by omega)
      have ed : Int32.ofNat w / 10 = Int32.ofNat (w / 10) := dv_of (b := 10) (by omega) (by omega)
      refine b_88_61 ?_
      rw [er, ed, in_a1]
      refine ⟨fun cc => ?_, fun _ => ⟨fun cc => ?_, fun cc => ⟨fun c5 => ?_, fun c5 => ?_⟩⟩⟩
      · have := (in_le (a := 80) (by decide) (by omega)).mp cc
        omega
      · rw [hu, if_neg (fun q => cc ⟨in_ge0 (by omega), (in_le (b := 7) (by omega) (by decide)).mpr (by have := q.1.1; omega)⟩)] at ih
        exact ih K _ _ _ hK hRK
      · rw [hu, if_neg (fun q => q.1.2 ((in_eq (by omega) (by omega)).mp c5))] at ih
        exact ih K _ _ _ hK hRK
      · have ho : w % 10 < 8 ∧ w / 10 ≠ w % 10 := ⟨by have := (in_le (b := 7) (by omega) (by decide)).mp cc.2; omega, fun e => c5 (by rw [e])⟩
        have b1 := o2_le (σ := σ) (a := Int32.ofNat hh) (dd := dd) w
        have b2 : pu_ow σ (Int32.ofNat hh) dd w ≤ 100 := has_le
        refine xs_89 hg hRK hn8 h8 hdd hw ho (fun L hL hRL => ⟨_, rfl, fun c6 => ?_, fun c6 => ?_⟩)
        · have := (in_le (by omega) (by omega)).mp c6
          rw [hu, if_neg (fun q => by have := q.2; omega)] at ih
          exact ih L _ _ _ (fr_trans hK hL) hRL
        · have := (in_lt (by omega) (by omega)).mp c6
          rw [hu, if_pos ⟨ho, this⟩] at ih
          exact ih L _ _ _ (fr_trans hK hL) hRL
  · rw [e4] at c4
    have h8n := (in_le (a := 8) (by decide) (by have := hn.1; omega)).mp c4
    have : pu_no σ = 8 := by have := hn.1; omega
    rw [if_pos c1, if_pos c2, if_pos c3, if_pos this] at hI
    exact hI
  · rw [if_pos c1, if_pos c2, if_neg c3] at hI; exact hI
end ONE

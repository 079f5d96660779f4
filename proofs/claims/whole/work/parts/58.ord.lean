/-! ===== oneMore in the reference; order on both sides ===== -/
/-- all is the same but for scratch and the order behind all others -/
def om_I (l : List Nat) (n : Nat) (I K : ma_I) : Prop := ∀ g i j, cl_c g j ∉ l → ¬((g = 43 ∨ g = 44 ∨ g = 45 ∨ g = 46 ∨ g = 47 ∨ g = 48) ∧ i = 0 ∧ j = n) → K g i j = I g i j
theorem om_refl (l : List Nat) (n : Nat) (I : ma_I) : om_I l n I I := fun _ _ _ _ _ => rfl
theorem om_sv {l : List Nat} {n : Nat} {I K : ma_I} {k nu f t fi la : Int32} (hl : ∀ c ∈ l, c ∈ cl_s) (h : om_I l n I K) : mv (ma_up (ma_up (ma_up (ma_up (ma_up (ma_up (ma_up K 43 0 n k) 44 0 n nu) 45 0 n f) 46 0 n t) 47 0 n fi) 48 0 n la) 40 0 4 (Int32.ofNat (n + 1))) = pu_ad (mv I) n k nu f t fi la := by
  rw [mv_up (by omega) (by decide), mv_up (by omega) (by rw [cl_g (by decide) (by decide)]; decide), mv_up (by omega) (by rw [cl_g (by decide) (by decide)]; decide), mv_up (by omega) (by rw [cl_g (by decide) (by decide)]; decide), mv_up (by omega) (by rw [cl_g (by decide) (by decide)]; decide), mv_up (by omega) (by rw [cl_g (by decide) (by decide)]; decide), mv_up (by omega) (by rw [cl_g (by decide) (by decide)]; decide)]
  unfold pu_ad
  funext g i j
  by_cases e0 : g = 40 ∧ i = 0 ∧ j = 4
  · obtain ⟨e1, e2, e3⟩ := e0
    subst e1; subst e2; subst e3
    rw [xv_us, xv_us]
  rw [up_ne e0, up_ne e0]
  by_cases e1 : g = 48 ∧ i = 0 ∧ j = n
  · obtain ⟨q1, q2, q3⟩ := e1
    subst q1; subst q2; subst q3
    rw [xv_us, xv_us]
  rw [up_ne e1, up_ne e1]
  by_cases e2 : g = 47 ∧ i = 0 ∧ j = n
  · obtain ⟨q1, q2, q3⟩ := e2
    subst q1; subst q2; subst q3
    rw [xv_us, xv_us]
  rw [up_ne e2, up_ne e2]
  by_cases e3 : g = 46 ∧ i = 0 ∧ j = n
  · obtain ⟨q1, q2, q3⟩ := e3
    subst q1; subst q2; subst q3
    rw [xv_us, xv_us]
  rw [up_ne e3, up_ne e3]
  by_cases e4 : g = 45 ∧ i = 0 ∧ j = n
  · obtain ⟨q1, q2, q3⟩ := e4
    subst q1; subst q2; subst q3
    rw [xv_us, xv_us]
  rw [up_ne e4, up_ne e4]
  by_cases e5 : g = 44 ∧ i = 0 ∧ j = n
  · obtain ⟨q1, q2, q3⟩ := e5
    subst q1; subst q2; subst q3
    rw [xv_us, xv_us]
  rw [up_ne e5, up_ne e5]
  by_cases e6 : g = 43 ∧ i = 0 ∧ j = n
  · obtain ⟨q1, q2, q3⟩ := e6
    subst q1; subst q2; subst q3
    rw [xv_us, xv_us]
  rw [up_ne e6, up_ne e6]
  unfold mv
  by_cases e7 : g < 40
  · rw [if_pos e7, if_pos e7]
  rw [if_neg e7, if_neg e7]
  unfold sv
  by_cases ec : cl_c g j ∈ cl_s
  · rw [if_pos ec, if_pos ec]
  · rw [if_neg ec, if_neg ec]
    refine h g i j (fun hh => ec (hl _ hh)) ?_
    rintro ⟨q | q | q | q | q | q, h2, h3⟩
    · exact e6 ⟨q, h2, h3⟩
    · exact e5 ⟨q, h2, h3⟩
    · exact e4 ⟨q, h2, h3⟩
    · exact e3 ⟨q, h2, h3⟩
    · exact e2 ⟨q, h2, h3⟩
    · exact e1 ⟨q, h2, h3⟩
theorem om_ups {l : List Nat} {n : Nat} {I K L : ma_I} {k nu f t fi la : Int32} (h : om_I l n I K) (hn : I 40 0 4 = Int32.ofNat n) (hL : fr l (ma_up (ma_up (ma_up (ma_up (ma_up (ma_up (ma_up K 43 0 n k) 44 0 n nu) 45 0 n f) 46 0 n t) 47 0 n fi) 48 0 n la) 40 0 4 (Int32.ofNat (n + 1))) L) : om_I l n I (ma_up L 40 0 4 (Int32.ofNat n)) := by
  intro g i j hc hne
  by_cases e0 : g = 40 ∧ i = 0 ∧ j = 4
  · obtain ⟨e1, e2, e3⟩ := e0
    subst e1; subst e2; subst e3
    rw [xv_us, hn]
  rw [up_ne e0, hL g i j hc, up_ne e0]
  rw [up_ne (fun e => hne ⟨by simp [e.1], e.2⟩), up_ne (fun e => hne ⟨by simp [e.1], e.2⟩), up_ne (fun e => hne ⟨by simp [e.1], e.2⟩), up_ne (fun e => hne ⟨by simp [e.1], e.2⟩), up_ne (fun e => hne ⟨by simp [e.1], e.2⟩), up_ne (fun e => hne ⟨by simp [e.1], e.2⟩)]
  exact h g i j hc hne
section ORD
variable {d : Nat} {I : ma_I} {o : Nat} {Q : ma_Q} {σ : ma_I}
theorem mo_165 {a b c : Int32} (hg : iv_g (mv I)) (h : ∀ I', om_I fr_go (pu_no (mv I)) I I' → Q (some (.inl (an_one (mv I) a b c))) I' o) : Exm (d + 5) 165 [.inr (.inr (40, 0)), .inl a, .inl b, .inl c] I o Q := by
  have hI := h I (om_refl _ _ _)
  have hn := A_le hg.2.2.1
  have e4 : I 40 0 4 = Int32.ofNat (pu_no (mv I)) := by have := hn.2.1; rw [mv_40_4] at this; exact this
  have hal0 : xv_al (I 40 0 4) = pu_all (mv I) := rfl
  unfold an_one at h hI
  refine e_165 ⟨fun c1 => ?_, fun c1 => ⟨fun c2 => ?_, fun c2 => ⟨fun c3 => ⟨fun c4 => ?_, fun c4 => ?_⟩, fun c3 => ?_⟩⟩⟩
  · rw [if_neg c1] at hI; exact hI
  · rw [if_pos c1, if_neg c2] at hI; exact hI
  · rw [e4] at c4
    have hn8 : pu_no (mv I) < 8 := by
      have h1 : pu_no (mv I) ≠ 8 := fun e => c4 (by rw [e]; rfl)
      have := hn.1
      omega
    rw [if_pos c1, if_pos c2, if_pos c3, if_neg (by omega)] at h
    obtain ⟨dd, hdd, eb⟩ := da_of c2
    subst eb
    rw [in_cl (by omega)] at h
    rw [hal0]
    refine mo_161 hg (fun J hJ => ⟨_, rfl, ?_⟩)
    have key := lp_up (P := fun w => ∀ (K : ma_I) (w7 : Option ma_V), om_I fr_go (pu_no (mv I)) I K → Ex (d + 5) 165 (55, [vR 40 0, vI a, vI (Int32.ofNat dd), vI c, vI (pu_o2 (mv I) a dd w).1, vI (Int32.ofNat (pu_o2 (mv I) a dd w).2), vI (Int32.ofNat w), w7], [], ma_mem K o, 0, 0) (ma_end Q)) 78 ?_ ?_
    · exact key 0 (by omega) J _ (fun g i j hc _ => hJ g i j hc)
    · intro K w7 hK
      have h' := h K hK
      refine b_165_55 ⟨fun _ => ⟨fun cc => ?_, fun cc => ?_⟩, fun cc => absurd cc (by decide)⟩
      · rw [if_neg cc] at h'; exact h'
      · rw [if_pos cc] at h'; exact h'
    · intro w hw ih K w7 hK
      have hu : pu_o2 (mv I) a dd (w + 1) = if (w % 10 < 8 ∧ w / 10 ≠ w % 10) ∧ (pu_o2 (mv I) a dd w).2 < pu_ow (mv I) a dd w then (Int32.ofNat w, pu_ow (mv I) a dd w) else pu_o2 (mv I) a dd w := rfl
      have er : xv_rm (Int32.ofNat w) 10 = Int32.ofNat (w % 10) := rm_of (b := 10) (by omega) (by omega)
      have ed : Int32.ofNat w / 10 = Int32.ofNat (w / 10) := dv_of (b := 10) (by omega) (by omega)
      have k4 : K 40 0 4 = Int32.ofNat (pu_no (mv I)) := by rw [hK 40 0 4 (by decide) (fun hh => absurd hh.1 (by decide))]; exact e4
      refine b_165_55 ?_
      rw [er, ed, in_a1, k4]
      refine ⟨fun cc => ?_, fun _ => ⟨fun cc => ?_, fun cc => ⟨fun c5 => ?_, fun c5 => ?_⟩⟩⟩
      · have := (in_le (a := 78) (by decide) (by omega)).mp cc
        omega
      · rw [hu, if_neg (fun q => cc ⟨in_ge0 (by omega), (in_le (b := 7) (by omega) (by decide)).mpr (by have := q.1.1; omega)⟩)] at ih
        exact ih K _ hK
      · rw [hu, if_neg (fun q => q.1.2 ((in_eq (by omega) (by omega)).mp c5))] at ih
        exact ih K _ hK
      · have ho : w % 10 < 8 ∧ w / 10 ≠ w % 10 := ⟨by have := (in_le (b := 7) (by omega) (by decide)).mp cc.2; omega, fun e => c5 (by rw [e])⟩
        have b1 := o2_le (σ := mv I) (a := a) (dd := dd) w
        have b2 : pu_ow (mv I) a dd w ≤ 100 := has_le
        have hin : ma_in (Int32.ofNat (pu_no (mv I))) 9 := in_in (by omega) (by omega)
        have e199 : (100 : Int32) * Int32.ofNat dd + 100 - 1 = Int32.ofNat (100 * dd + 99) := by
          have h1 : (100 : Int32) * Int32.ofNat dd + 100 = Int32.ofNat (100 * dd + 99 + 1) := in_ma 100 dd 100
          rw [h1, in_s1]
        have q1 : (0 : Int32) / 10 = 0 := by decide
        have q2 : xv_rm 0 10 = 0 := by decide
        have q3 : Int32.ofNat (100 * dd + 99) / 100 = Int32.ofNat dd := by
          rw [show (100 : Int32) = Int32.ofNat 100 from rfl, dv_of (by omega) (by omega)]
          congr 1
          omega
        have q4 : xv_rm (Int32.ofNat (100 * dd + 99)) 100 = 99 := by
          rw [show (100 : Int32) = Int32.ofNat 100 from rfl, rm_of (by omega) (by omega)]
          rw [show (100 * dd + 99) % 100 = 99 by omega]
          rfl
        rw [e199]
        refine e_125 ⟨hin, hin, hin, hin, hin, hin, ⟨rfl, ?_⟩⟩
        rw [in_cl (by omega), q1, q2, q3, q4, er, ed]
        have hm4 : (ma_up (ma_up (ma_up (ma_up (ma_up (ma_up K 43 0 (pu_no (mv I)) 0) 44 0 (pu_no (mv I)) 0) 45 0 (pu_no (mv I)) (Int32.ofNat (w / 10))) 46 0 (pu_no (mv I)) (Int32.ofNat (w % 10))) 47 0 (pu_no (mv I)) (Int32.ofNat dd)) 48 0 (pu_no (mv I)) 99) 40 0 4 = Int32.ofNat (pu_no (mv I)) := by
          rw [up_g (by decide), up_g (by decide), up_g (by decide), up_g (by decide), up_g (by decide), up_g (by decide)]; exact k4
        rw [hm4, in_a1]
        have hsv := om_sv (k := 0) (nu := 0) (f := Int32.ofNat (w / 10)) (t := Int32.ofNat (w % 10)) (fi := Int32.ofNat dd) (la := 99) (by decide) hK
        refine mo_161 (by rw [hsv]; exact om_iv hg hn8 hdd (by omega) ho) (fun L hL => ⟨_, rfl, ?_⟩)
        rw [hsv]
        have l4 : L 40 0 4 - 1 = Int32.ofNat (pu_no (mv I)) := by
          rw [hL 40 0 4 (by decide), xv_us, in_s1]
        rw [l4]
        have hom := om_ups hK e4 hL
        have hw2 : pu_has (pu_ad (mv I) (pu_no (mv I)) 0 0 (Int32.ofNat (w / 10)) (Int32.ofNat (w % 10)) (Int32.ofNat dd) 99) a (xv_al (Int32.ofNat (pu_no (mv I) + 1))) = pu_ow (mv I) a dd w := rfl
        rw [hw2]
        refine ⟨fun c6 => ?_, fun c6 => ?_⟩
        · have c6' := (in_le (by omega) (by omega)).mp c6
          rw [hu, if_neg (fun q => by have := q.2; omega)] at ih
          have eh : xv_hi (Int32.ofNat (pu_o2 (mv I) a dd w).2) (Int32.ofNat (pu_ow (mv I) a dd w)) = Int32.ofNat (pu_o2 (mv I) a dd w).2 := by
            rw [← hi_sym, if_neg (Int32.not_lt.mpr c6)]
          rw [eh]
          exact ih _ _ hom
        · have c6' := (in_lt (by omega) (by omega)).mp c6
          rw [hu, if_pos ⟨ho, c6'⟩] at ih
          have eh : xv_hi (Int32.ofNat (pu_o2 (mv I) a dd w).2) (Int32.ofNat (pu_ow (mv I) a dd w)) = Int32.ofNat (pu_ow (mv I) a dd w) := by
            rw [← hi_sym, if_pos c6]
          rw [eh]
          exact ih _ _ hom
  · rw [e4] at c4
    have : pu_no (mv I) = 8 := (in_eq (b := 8) (by have := hn.1; omega) (by decide)).mp c4
    rw [if_pos c1, if_pos c2, if_pos c3, if_pos this] at hI
    exact hI
  · rw [if_pos c1, if_pos c2, if_neg c3] at hI; exact hI
/-! order -/
def pu_okb (a b c : Int32) : Bool := decide (0 ≤ a ∧ a ≤ 59) && decide (0 ≤ b ∧ b ≤ 77) && decide (xv_rm b 10 ≤ 7) && decide (b / 10 ≠ xv_rm b 10) && decide (0 ≤ c ∧ c ≤ 9999) && decide (c / 100 ≤ xv_rm c 100)
def an_order (σ : ma_I) (a b c : Int32) : Int32 := if pu_okb a b c then if pu_no σ = 8 then -4 else Int32.ofNat (pu_no σ) else -2
def st_order (σ : ma_I) (a b c : Int32) : ma_I := if pu_okb a b c = true ∧ pu_no σ ≠ 8 then pu_ad σ (pu_no σ) (a / 10) (xv_rm a 10) (b / 10) (xv_rm b 10) (c / 100) (xv_rm c 100) else σ
theorem okb_iff {a b c : Int32} : pu_okb a b c = true ↔ (0 ≤ a ∧ a ≤ 59) ∧ (0 ≤ b ∧ b ≤ 77) ∧ xv_rm b 10 ≤ 7 ∧ b / 10 ≠ xv_rm b 10 ∧ (0 ≤ c ∧ c ≤ 9999) ∧ c / 100 ≤ xv_rm c 100 := by
  unfold pu_okb
  simp only [Bool.and_eq_true, decide_eq_true_iff]
  constructor
  · rintro ⟨⟨⟨⟨⟨h1, h2⟩, h3⟩, h4⟩, h5⟩, h6⟩
    exact ⟨h1, h2, h3, h4, h5, h6⟩
  · rintro ⟨h1, h2, h3, h4, h5, h6⟩
    exact ⟨⟨⟨⟨⟨h1, h2⟩, h3⟩, h4⟩, h5⟩, h6⟩
theorem dr_10 {x : Nat} (h : x < 2147483648) : Int32.ofNat x / 10 = Int32.ofNat (x / 10) ∧ xv_rm (Int32.ofNat x) 10 = Int32.ofNat (x % 10) := ⟨dv_of (b := 10) h (by omega), rm_of (b := 10) h (by omega)⟩
theorem dr_100 {x : Nat} (h : x < 2147483648) : Int32.ofNat x / 100 = Int32.ofNat (x / 100) ∧ xv_rm (Int32.ofNat x) 100 = Int32.ofNat (x % 100) := ⟨dv_of (b := 100) h (by omega), rm_of (b := 100) h (by omega)⟩
/-- what is told by a number, as the class asks it -/
theorem cl_what {a : Int32} : ((0 ≤ a / 10 ∧ a / 10 ≤ 5) ∧ (0 ≤ xv_rm a 10 ∧ xv_rm a 10 ≤ 9)) ↔ (0 ≤ a ∧ a ≤ 59) := by
  rcases nn_or a with h | ⟨x, hx, e⟩
  · constructor
    · rintro ⟨⟨h1, -⟩, ⟨h2, -⟩⟩
      exact absurd (rm_neg (m := 10) (by omega) (by omega) h h1) (Int32.not_lt.mpr h2)
    · rintro ⟨h1, -⟩
      exact absurd h (Int32.not_lt.mpr h1)
  · subst e
    rw [(dr_10 hx).1, (dr_10 hx).2, show (5 : Int32) = Int32.ofNat 5 from rfl, show (9 : Int32) = Int32.ofNat 9 from rfl, show (59 : Int32) = Int32.ofNat 59 from rfl, in_le (by omega) (by omega), in_le (by omega) (by omega), in_le hx (by omega)]
    have a1 := in_ge0 (a := x / 10) (by omega)
    have a2 := in_ge0 (a := x % 10) (by omega)
    have a3 := in_ge0 (a := x) hx
    constructor
    · rintro ⟨⟨-, h1⟩, -⟩; exact ⟨a3, by omega⟩
    · rintro ⟨-, h1⟩; exact ⟨⟨a1, by omega⟩, a2, by omega⟩
theorem cl_way {b : Int32} : ((0 ≤ b / 10 ∧ b / 10 ≤ 7) ∧ (0 ≤ xv_rm b 10 ∧ xv_rm b 10 ≤ 7)) ↔ (0 ≤ b ∧ b ≤ 77) ∧ xv_rm b 10 ≤ 7 := by
  rcases nn_or b with h | ⟨x, hx, e⟩
  · constructor
    · rintro ⟨⟨h1, -⟩, ⟨h2, -⟩⟩
      exact absurd (rm_neg (m := 10) (by omega) (by omega) h h1) (Int32.not_lt.mpr h2)
    · rintro ⟨⟨h1, -⟩, -⟩
      exact absurd h (Int32.not_lt.mpr h1)
  · subst e
    rw [(dr_10 hx).1, (dr_10 hx).2, show (7 : Int32) = Int32.ofNat 7 from rfl, show (77 : Int32) = Int32.ofNat 77 from rfl, in_le (by omega) (by omega), in_le (by omega) (by omega), in_le hx (by omega)]
    have a1 := in_ge0 (a := x / 10) (by omega)
    have a2 := in_ge0 (a := x % 10) (by omega)
    have a3 := in_ge0 (a := x) hx
    constructor
    · rintro ⟨⟨-, h1⟩, -, h2⟩; exact ⟨⟨a3, by omega⟩, h2⟩
    · rintro ⟨⟨-, h1⟩, h2⟩; exact ⟨⟨a1, by omega⟩, a2, h2⟩
theorem cl_days {c : Int32} : ((0 ≤ c / 100 ∧ c / 100 ≤ 99) ∧ (0 ≤ xv_rm c 100 ∧ xv_rm c 100 ≤ 99)) ↔ (0 ≤ c ∧ c ≤ 9999) := by
  rcases nn_or c with h | ⟨x, hx, e⟩
  · constructor
    · rintro ⟨⟨h1, -⟩, ⟨h2, -⟩⟩
      exact absurd (rm_neg (m := 100) (by omega) (by omega) h h1) (Int32.not_lt.mpr h2)
    · rintro ⟨h1, -⟩
      exact absurd h (Int32.not_lt.mpr h1)
  · subst e
    rw [(dr_100 hx).1, (dr_100 hx).2, show (99 : Int32) = Int32.ofNat 99 from rfl, show (9999 : Int32) = Int32.ofNat 9999 from rfl, in_le (by omega) (by omega), in_le (by omega) (by omega), in_le hx (by omega)]
    have a1 := in_ge0 (a := x / 100) (by omega)
    have a2 := in_ge0 (a := x % 100) (by omega)
    have a3 := in_ge0 (a := x) hx
    constructor
    · rintro ⟨⟨-, h1⟩, -⟩; exact ⟨a3, by omega⟩
    · rintro ⟨-, h1⟩; exact ⟨⟨a1, by omega⟩, a2, by omega⟩
theorem st_iv {a b c : Int32} (hg : iv_g σ) : iv_g (st_order σ a b c) := by
  unfold st_order
  by_cases hc : pu_okb a b c = true ∧ pu_no σ ≠ 8
  · rw [if_pos hc]
    obtain ⟨h1, h2, h3, h4, h5, h6⟩ := okb_iff.mp hc.1
    have hn := A_le hg.2.2.1
    have w1 := cl_what.mpr h1
    have w2 := cl_way.mpr ⟨h2, h3⟩
    have w3 := cl_days.mpr h5
    obtain ⟨x, -, hx⟩ := rg_mk (by decide : (99 : Nat) < 2147483648) w3.1.1 w3.1.2
    refine ad_iv hg hn.2.1 (by have := hn.1; have := hc.2; omega) (rg_mk (by decide) w1.1.1 w1.1.2) (rg_mk (by decide) w1.2.1 w1.2.2) (rg_mk (by decide) w2.1.1 w2.1.2) (rg_mk (by decide) w2.2.1 w2.2.2) h4 ?_
    obtain ⟨p, hp, -, hp9⟩ := rg_mk (by decide : (99 : Nat) < 2147483648) w3.1.1 w3.1.2
    obtain ⟨q, hq, -, hq9⟩ := rg_mk (by decide : (99 : Nat) < 2147483648) w3.2.1 w3.2.2
    refine ⟨p, q, hp, hq, ?_, hq9⟩
    rw [hp, hq] at h6
    exact (in_le (by omega) (by omega)).mp h6
  · rw [if_neg hc]; exact hg
theorem mo_126 {a b c : Int32} (hg : iv_g (mv I)) (h : ∀ I', fr [43, 44, 45, 46, 47, 48, 1004] I I' → mv I' = st_order (mv I) a b c → Q (some (.inl (an_order (mv I) a b c))) I' o) : Exm (d + 2) 126 [.inr (.inr (40, 0)), .inl a, .inl b, .inl c] I o Q := by
  have hn := A_le hg.2.2.1
  have e4 : I 40 0 4 = Int32.ofNat (pu_no (mv I)) := by have := hn.2.1; rw [mv_40_4] at this; exact this
  have hbad : pu_okb a b c = false → Q (some (.inl (-2))) I o := by
    intro hb
    have := h I (fr_refl _ _) (by unfold st_order; rw [if_neg (fun q => by rw [hb] at q; exact absurd q.1 (by decide))])
    unfold an_order at this
    rw [if_neg (by rw [hb]; decide)] at this
    exact this
  have hno : ¬((0 ≤ a ∧ a ≤ 59) ∧ (0 ≤ b ∧ b ≤ 77) ∧ xv_rm b 10 ≤ 7 ∧ b / 10 ≠ xv_rm b 10 ∧ (0 ≤ c ∧ c ≤ 9999) ∧ c / 100 ≤ xv_rm c 100) → Q (some (.inl (-2))) I o := fun hn => hbad (by
    cases hb : pu_okb a b c with
    | false => rfl
    | true => exact absurd (okb_iff.mp hb) hn)
  refine e_126 ⟨fun c1 => hno (fun q => c1 q.1), fun c1 => ⟨fun c2 => hno (fun q => c2 q.2.1), fun c2 => ⟨fun c3 => hno (fun q => c3 ?_), fun c3 => ⟨fun c4 => hno (fun q => q.2.2.2.1 c4), fun c4 => ⟨fun c5 => hno (fun q => c5 q.2.2.2.2.1), fun c5 => ⟨fun c6 => ⟨fun c7 => ?_, fun c7 => ?_⟩, fun c6 => hno (fun q => Int32.not_le.mpr c6 q.2.2.2.2.2)⟩⟩⟩⟩⟩⟩
  · refine ⟨?_, q.2.2.1⟩
    exact (cl_way.mpr ⟨q.2.1, q.2.2.1⟩).2.1
  · have hok : pu_okb a b c = true := okb_iff.mpr ⟨c1, c2, c3.2, c4, c5, c6⟩
    rw [e4] at c7
    have h8 : pu_no (mv I) ≠ 8 := fun e => c7 (by rw [e]; rfl)
    have hin : ma_in (Int32.ofNat (pu_no (mv I))) 9 := in_in (by have := hn.1; omega) (by have := hn.1; omega)
    rw [e4]
    refine e_125 ⟨hin, hin, hin, hin, hin, hin, ⟨rfl, ?_⟩⟩
    rw [in_cl (by have := hn.1; omega)]
    have hm4 : (ma_up (ma_up (ma_up (ma_up (ma_up (ma_up I 43 0 (pu_no (mv I)) (a / 10)) 44 0 (pu_no (mv I)) (xv_rm a 10)) 45 0 (pu_no (mv I)) (b / 10)) 46 0 (pu_no (mv I)) (xv_rm b 10)) 47 0 (pu_no (mv I)) (c / 100)) 48 0 (pu_no (mv I)) (xv_rm c 100)) 40 0 4 = Int32.ofNat (pu_no (mv I)) := by
      rw [up_g (by decide), up_g (by decide), up_g (by decide), up_g (by decide), up_g (by decide), up_g (by decide)]; exact e4
    rw [hm4, in_a1, in_s1]
    have := h (ma_up (ma_up (ma_up (ma_up (ma_up (ma_up (ma_up I 43 0 (pu_no (mv I)) (a / 10)) 44 0 (pu_no (mv I)) (xv_rm a 10)) 45 0 (pu_no (mv I)) (b / 10)) 46 0 (pu_no (mv I)) (xv_rm b 10)) 47 0 (pu_no (mv I)) (c / 100)) 48 0 (pu_no (mv I)) (xv_rm c 100)) 40 0 4 (Int32.ofNat (pu_no (mv I) + 1))) (fr_up1 (fr_upg (fr_upg (fr_upg (fr_upg (fr_upg (fr_upg (fr_refl _ I) (by decide) (by decide) (by decide)) (by decide) (by decide) (by decide)) (by decide) (by decide) (by decide)) (by decide) (by decide) (by decide)) (by decide) (by decide) (by decide)) (by decide) (by decide) (by decide)) (by decide)) (by
      unfold st_order
      rw [if_pos ⟨hok, h8⟩]
      exact om_sv (l := []) (by decide) (om_refl _ _ I))
    unfold an_order at this
    rw [if_pos hok, if_neg h8] at this
    exact this
  · have hok : pu_okb a b c = true := okb_iff.mpr ⟨c1, c2, c3.2, c4, c5, c6⟩
    rw [e4] at c7
    have h8 : pu_no (mv I) = 8 := (in_eq (b := 8) (by have := hn.1; omega) (by decide)).mp c7
    have := h I (fr_refl _ _) (by unfold st_order; rw [if_neg (fun q => q.2 h8)])
    unfold an_order at this
    rw [if_pos hok, if_pos h8] at this
    exact this
theorem xs_66 {a b c : Int32} (hg : iv_g σ) (hR : rx_w σ (sv I)) (h : ∀ I', fr [24, 17, 6] I I' → (∀ j, j ≠ 4 → I' 6 0 j = I 6 0 j) → rx_w (st_order σ a b c) (sv I') → Q (some (.inl (an_order σ a b c))) I' o) : Exm (d + 4) 66 [.inr (.inr (5, 0)), .inl a, .inl b, .inl c] I o Q := by
  have hn := A_le hg.2.2.1
  have e4 : I 6 0 4 = Int32.ofNat (pu_no σ) := by have := hR.2; rw [sv_6, hn.2.1] at this; exact this
  have hno : ¬((0 ≤ a ∧ a ≤ 59) ∧ (0 ≤ b ∧ b ≤ 77) ∧ xv_rm b 10 ≤ 7 ∧ b / 10 ≠ xv_rm b 10 ∧ (0 ≤ c ∧ c ≤ 9999) ∧ c / 100 ≤ xv_rm c 100) → Q (some (.inl (-2))) I o := by
    intro hnn
    have hb : pu_okb a b c = false := by
      cases hb : pu_okb a b c with
      | false => rfl
      | true => exact absurd (okb_iff.mp hb) hnn
    have := h I (fr_refl _ _) (fun _ _ => rfl) (by unfold st_order; rw [if_neg (fun q => by rw [hb] at q; exact absurd q.1 (by decide))]; exact hR)
    unfold an_order at this
    rw [if_neg (by rw [hb]; decide)] at this
    exact this
  refine e_66 ⟨fun c1 => hno (fun q => c1 (cl_what.mpr q.1).1), fun c1 => ⟨fun c2 => hno (fun q => c2 (cl_what.mpr q.1).2), fun c2 => ⟨fun c3 => hno (fun q => c3 (cl_way.mpr ⟨q.2.1, q.2.2.1⟩).1), fun c3 => ⟨fun c4 => hno (fun q => c4 (cl_way.mpr ⟨q.2.1, q.2.2.1⟩).2), fun c4 => ⟨fun c5 => hno (fun q => q.2.2.2.1 c5), fun c5 => ⟨fun c6 => hno (fun q => c6 (cl_days.mpr q.2.2.2.2.1).1), fun c6 => ⟨fun c7 => hno (fun q => c7 (cl_days.mpr q.2.2.2.2.1).2), fun c7 => ⟨fun c8 => hno (fun q => Int32.not_le.mpr c8 q.2.2.2.2.2), fun c8 => ⟨fun c9 => ?_, fun c9 => ?_⟩⟩⟩⟩⟩⟩⟩⟩⟩
  · have w2 := cl_way.mp ⟨c3, c4⟩
    have hok : pu_okb a b c = true := okb_iff.mpr ⟨cl_what.mp ⟨c1, c2⟩, w2.1, w2.2, c5, cl_days.mp ⟨c6, c7⟩, c8⟩
    rw [e4] at c9
    have hn8 : pu_no σ < 8 := (in_lt (b := 8) (by have := hn.1; omega) (by decide)).mp c9
    rw [e4, in_cl (by omega)]
    refine ⟨in_in (by omega) (by omega), ?_⟩
    have hst : st_order σ a b c = pu_ad σ (pu_no σ) (a / 10) (xv_rm a 10) (b / 10) (xv_rm b 10) (c / 100) (xv_rm c 100) := by
      unfold st_order
      rw [if_pos ⟨hok, by omega⟩]
    have := xs_add (d := d + 3) (o := o) (k := a / 10) (nu := xv_rm a 10) (f := b / 10) (t := xv_rm b 10) (fi := c / 100) (la := xv_rm c 100) (Q := fun _ J3 p4 => Q (some (.inl (Int32.ofNat (pu_no σ)))) (ma_up J3 6 0 4 ((J3 6 0 4) + 1)) p4) hg hR hn.2.1 hn8 (rg_mk (by decide) c2.1 c2.2) (rg_mk (by decide) c3.1 c3.2) (rg_mk (by decide) c7.1 c7.2) ?_ (by omega)
    · exact this
    · intro K hK hK2 hRv
      have k4 : K 6 0 4 = Int32.ofNat (pu_no σ) := by rw [fr_g hK 6 0 4 (by decide) (by decide) (by decide)]; exact e4
      rw [k4, in_a1]
      have := h (ma_up K 6 0 4 (Int32.ofNat (pu_no σ + 1))) (fr_upg (fr_mono hK (by decide)) (by decide) (by decide) (by decide)) (fun j hj => by rw [up_j hj, fr_g hK 6 0 j (by decide) (by decide) (by decide)]) (by
        rw [hst, sv_up (by decide)]
        refine ⟨?_, by rw [xv_us, ad_n]⟩
        refine rx_cong hRv rfl (fun _ => rfl) (fun _ => rfl) rfl (fun _ _ => ⟨rfl, rfl, rfl, rfl, rfl, rfl⟩) rfl (fun _ => rfl) (fun _ => rfl) hRv.1 rfl hRv.2.2.2.1 (fun g i j hh => up_g (by rcases hh with e | e | e | e | e <;> subst e <;> decide)))
      unfold an_order at this
      rw [if_pos hok, if_neg (by omega)] at this
      exact this
  · have w2 := cl_way.mp ⟨c3, c4⟩
    have hok : pu_okb a b c = true := okb_iff.mpr ⟨cl_what.mp ⟨c1, c2⟩, w2.1, w2.2, c5, cl_days.mp ⟨c6, c7⟩, c8⟩
    rw [e4] at c9
    have h8 : pu_no σ = 8 := by
      have := (in_le (a := 8) (by decide) (by have := hn.1; omega)).mp c9
      have := hn.1
      omega
    have := h I (fr_refl _ _) (fun _ _ => rfl) (by unfold st_order; rw [if_neg (fun q => q.2 h8)]; exact hR)
    unfold an_order at this
    rw [if_pos hok, if_pos h8] at this
    exact this
end ORD

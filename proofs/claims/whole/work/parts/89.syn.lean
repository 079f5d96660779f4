/-! ===== what the reference asks of a token; operators, brackets, what stands before ===== -/
section SYN
variable {d : Nat} {J : ma_I} {o : Nat} {Q : ma_Q} {v : Nat} {x : sx} {k : tk} {c : Bool} {cs : List Bool}
theorem R_sy (h : tk_R J k) (t : Int32) (ht : 9 < t) : (J 40 0 18 = 4 ∧ J 40 0 19 = t) ↔ tk_t k = t := by
  obtain ⟨-, -, h⟩ := h
  constructor
  · rintro ⟨h18, h19⟩
    by_cases c0 : tk_t k = 0
    · rw [if_pos c0, h18] at h; exact absurd h (by decide)
    rw [if_neg c0] at h
    by_cases c1 : tk_t k = 1
    · rw [if_pos c1, h18] at h; exact absurd h.1 (by decide)
    rw [if_neg c1] at h
    by_cases c2 : tk_t k = 2
    · rw [if_pos c2, h18] at h; exact absurd h.1 (by decide)
    rw [if_neg c2] at h
    by_cases c3 : tk_t k = 3
    · rw [if_pos c3, h18] at h; exact absurd h (by decide)
    rw [if_neg c3] at h
    by_cases c9 : tk_t k ≤ 9
    · rw [if_pos c9, h18] at h; exact absurd h.1 (by decide)
    rw [if_neg c9] at h
    rw [← h.2]; exact h19
  · intro e
    have hne : ∀ z : Int32, ¬9 < z → tk_t k ≠ z := by
      intro z hz q
      rw [e] at q
      rw [q] at ht
      exact hz ht
    rw [if_neg (hne 0 (by decide)), if_neg (hne 1 (by decide)), if_neg (hne 2 (by decide)), if_neg (hne 3 (by decide)), if_neg (by rw [e]; exact Int32.not_le.mpr ht)] at h
    exact ⟨h.1, h.2.trans e⟩
theorem R_wd (h : tk_R J k) (w t : Int32) (hw : t - 4 = w) (h0 : t ≠ 0) (h1 : t ≠ 1) (h2 : t ≠ 2) (h3 : t ≠ 3) (h9 : t ≤ 9) : (J 40 0 18 = 3 ∧ J 40 0 19 = w) ↔ tk_t k = t := by
  obtain ⟨-, -, h⟩ := h
  constructor
  · rintro ⟨h18, h19⟩
    by_cases c0 : tk_t k = 0
    · rw [if_pos c0, h18] at h; exact absurd h (by decide)
    rw [if_neg c0] at h
    by_cases c1 : tk_t k = 1
    · rw [if_pos c1, h18] at h; exact absurd h.1 (by decide)
    rw [if_neg c1] at h
    by_cases c2 : tk_t k = 2
    · rw [if_pos c2, h18] at h; exact absurd h.1 (by decide)
    rw [if_neg c2] at h
    by_cases c3 : tk_t k = 3
    · rw [if_pos c3, h18] at h; exact absurd h (by decide)
    rw [if_neg c3] at h
    by_cases c9 : tk_t k ≤ 9
    · rw [if_pos c9] at h
      have e : tk_t k - 4 = t - 4 := by rw [← h.2, h19, hw]
      have := congrArg (· + 4) e
      simp only [Int32.sub_add_cancel] at this
      exact this
    rw [if_neg c9, h18] at h
    exact absurd h.1 (by decide)
  · intro e
    rw [if_neg (by rw [e]; exact h0), if_neg (by rw [e]; exact h1), if_neg (by rw [e]; exact h2), if_neg (by rw [e]; exact h3), if_pos (by rw [e]; exact h9)] at h
    exact ⟨h.1, by rw [h.2, e, hw]⟩
theorem R_n1 (h : tk_R J k) : J 40 0 18 = 1 ↔ tk_t k = 1 := by
  obtain ⟨-, -, h⟩ := h
  constructor
  · intro h18
    by_cases c0 : tk_t k = 0
    · rw [if_pos c0, h18] at h; exact absurd h (by decide)
    rw [if_neg c0] at h
    by_cases c1 : tk_t k = 1
    · exact c1
    rw [if_neg c1] at h
    by_cases c2 : tk_t k = 2
    · rw [if_pos c2, h18] at h; exact absurd h.1 (by decide)
    rw [if_neg c2] at h
    by_cases c3 : tk_t k = 3
    · rw [if_pos c3, h18] at h; exact absurd h (by decide)
    rw [if_neg c3] at h
    by_cases c9 : tk_t k ≤ 9
    · rw [if_pos c9, h18] at h; exact absurd h.1 (by decide)
    rw [if_neg c9, h18] at h
    exact absurd h.1 (by decide)
  · intro e
    rw [if_neg (by rw [e]; decide), if_pos e] at h
    exact h.1
theorem R_n2 (h : tk_R J k) : J 40 0 18 = 2 ↔ tk_t k = 2 := by
  obtain ⟨-, -, h⟩ := h
  constructor
  · intro h18
    by_cases c0 : tk_t k = 0
    · rw [if_pos c0, h18] at h; exact absurd h (by decide)
    rw [if_neg c0] at h
    by_cases c1 : tk_t k = 1
    · rw [if_pos c1, h18] at h; exact absurd h.1 (by decide)
    rw [if_neg c1] at h
    by_cases c2 : tk_t k = 2
    · exact c2
    rw [if_neg c2] at h
    by_cases c3 : tk_t k = 3
    · rw [if_pos c3, h18] at h; exact absurd h (by decide)
    rw [if_neg c3] at h
    by_cases c9 : tk_t k ≤ 9
    · rw [if_pos c9, h18] at h; exact absurd h.1 (by decide)
    rw [if_neg c9, h18] at h
    exact absurd h.1 (by decide)
  · intro e
    rw [if_neg (by rw [e]; decide), if_neg (by rw [e]; decide), if_pos e] at h
    exact h.1
theorem R_n5 (h : tk_R J k) : J 40 0 18 = 5 ↔ tk_t k = 0 := by
  obtain ⟨-, -, h⟩ := h
  constructor
  · intro h18
    by_cases c0 : tk_t k = 0
    · exact c0
    rw [if_neg c0] at h
    by_cases c1 : tk_t k = 1
    · rw [if_pos c1, h18] at h; exact absurd h.1 (by decide)
    rw [if_neg c1] at h
    by_cases c2 : tk_t k = 2
    · rw [if_pos c2, h18] at h; exact absurd h.1 (by decide)
    rw [if_neg c2] at h
    by_cases c3 : tk_t k = 3
    · rw [if_pos c3, h18] at h; exact absurd h (by decide)
    rw [if_neg c3] at h
    by_cases c9 : tk_t k ≤ 9
    · rw [if_pos c9, h18] at h; exact absurd h.1 (by decide)
    rw [if_neg c9, h18] at h
    exact absurd h.1 (by decide)
  · intro e
    rw [if_pos e] at h
    exact h
theorem R_v (h : tk_R J k) (ht : tk_t k = 1 ∨ tk_t k = 2) : J 40 0 19 = tk_v k := by
  obtain ⟨-, -, h⟩ := h
  rcases ht with e | e
  · rw [if_neg (by rw [e]; decide), if_pos e] at h
    exact h.2
  · rw [if_neg (by rw [e]; decide), if_neg (by rw [e]; decide), if_pos e] at h
    exact h.2
theorem R_fr {l : List Nat} {J' : ma_I} (h : tk_R J k) (hf : fr l J J') (h1 : 1017 ∉ l) (h2 : 1018 ∉ l) (h3 : 1019 ∉ l) (h4 : 1020 ∉ l) : tk_R J' k := by
  unfold tk_R
  rw [hf 40 0 17 h1, hf 40 0 18 h2, hf 40 0 19 h3, hf 40 0 20 h4]
  exact h
/-- what an operator does to whether something was compared -/
def cm (y : Int32) (c : Bool) : Bool := if rk y = 4 then true else if rk y < 4 then false else c
theorem mo_148y {y : Int32} (hv : v < 18) (hl : x.1.length + x.2.2.length ≤ 160) (hw : sw x cs) (hr : rr v x J) (hc : rc c cs J) (hy : y ≠ -1)
    (h0 : rk y = 4 ∧ c = true → Q (some (.inl 0)) J o)
    (h1 : ¬(rk y = 4 ∧ c = true) → ∀ J', fr [50, 54, 55, 1024, 1025, 1029] J J' → rb v J J' → rr v (y :: (sg (rk y) x).1, (sg (rk y) x).2.1, (sg (rk y) x).2.2) J' → rc (cm y c) cs J' → Q (some (.inl 1)) J' o) :
    Ex (d + 1 + 1) 148 (98, [vR 40 0, vI y], [], ma_mem J o, 0, 0) (ma_end Q) := by
  have h5 := sw_cs hw
  have h26 : J 40 0 26 = Int32.ofNat cs.length := hc.1
  have hc0 : J 55 0 cs.length = (if c = true then 1 else 0) := hc.2.1
  have hk7 := rk_lt y
  have e4 : xv_rk y = 4 ↔ rk y = 4 := by rw [rk_xv]; exact in_eq (b := 4) (by omega) (by decide)
  have l4 : xv_rk y ≤ 4 ↔ rk y ≤ 4 := by rw [rk_xv]; exact in_le (b := 4) (by omega) (by decide)
  have g4 : 4 < xv_rk y ↔ 4 < rk y := by rw [rk_xv]; exact in_lt (a := 4) (by decide) (by omega)
  have hlen := sg_len (r := rk y) (x := x)
  have step : ∀ P : ma_I → Nat → Prop, (∀ J3, fr [50, 54, 1024, 1025, 1029] J J3 → rb v J J3 → rr v (y :: (sg (rk y) x).1, (sg (rk y) x).2.1, (sg (rk y) x).2.2) J3 → rc c cs J3 → P J3 o) → Exm (d + 1) 146 [.inr (.inr (40, 0)), .inl (xv_rk y)] J o (fun r J1 p2 => r = none ∧ Exm (d + 1) 147 [.inr (.inr (40, 0)), .inl y] J1 p2 (fun r J3 p4 => r = none ∧ P J3 p4)) := by
    intro P hP
    rw [rk_xv]
    refine mo_146 hv (by omega) hl (Nat.le_of_eq hw.1) (by have := hw.2.1; omega) hr (fun J1 f1 b1 r1 => ⟨rfl, ?_⟩)
    refine mo_147 (c := y) (by omega) r1 (fun J3 f3 r3 => ⟨rfl, hP J3 (fr_trans (fr_mono f1 (by decide)) (fr_mono f3 (by decide))) (rb_trans b1 (rb_fr f3 (by decide))) r3 (rc_fr (rc_fr hc f1 (by decide) (by decide)) f3 (by decide) (by decide))⟩)
  have fin : ∀ (J3 : ma_I) (z : Bool) (u : Int32), ¬(rk y = 4 ∧ c = true) → u = (if z = true then 1 else 0) → cm y c = z → fr [50, 54, 1024, 1025, 1029] J J3 → rb v J J3 → rr v (y :: (sg (rk y) x).1, (sg (rk y) x).2.1, (sg (rk y) x).2.2) J3 → rc c cs J3 → Q (some (.inl 1)) (ma_up J3 55 0 cs.length u) o := by
    intro J3 z u hn hu hz f3 b3 r3 c3
    have f4 : fr [55] J3 (ma_up J3 55 0 cs.length u) := fr_upg (fr_refl _ _) (by decide) (by decide) (by decide)
    refine h1 hn _ (fr_trans (fr_mono f3 (by decide)) (fr_mono f4 (by decide))) (rb_trans b3 (rb_fr f4 (by decide))) (rr_fr r3 f4 (by decide) (by decide) (by decide) (by decide) (by decide) (by decide)) ⟨?_, ?_, ?_⟩
    · rw [up_g (by decide)]; exact c3.1
    · rw [xv_us, hz]; exact hu
    · exact sC_cong _ (fun j hj => up_j (by omega)) c3.2.2
  refine b_148_98 ⟨fun q => absurd q hy, fun _ => ⟨fun n4 => ?_, fun y4 => ?_⟩⟩
  · have n4' : rk y ≠ 4 := fun q => n4 (e4.mpr q)
    refine step _ (fun J3 f3 b3 r3 c3 => ⟨fun q => absurd q n4, fun _ => ⟨fun q => ?_, fun q => ?_⟩⟩)
    · rw [c3.1, in_cl (by omega)]
      have := l4.mp q
      refine ⟨in_in (by omega) (by omega), fin J3 false 0 (fun w => n4' w.1) rfl ?_ f3 b3 r3 c3⟩
      unfold cm
      rw [if_neg n4', if_pos (by omega)]
    · rw [c3.1, in_cl (by omega)]
      have := g4.mp q
      have hin : ma_in (Int32.ofNat cs.length) 8 := in_in (by omega) (by omega)
      have ecm : cm y c = c := by
        unfold cm
        rw [if_neg n4', if_neg (by omega)]
      have h55 : J3 55 0 cs.length = (if c = true then 1 else 0) := c3.2.1
      rw [h55]
      refine ⟨hin, fun w => ⟨hin, ?_⟩, fun w => ⟨hin, ?_⟩⟩
      · have hcf : c = false := by
          cases c with
          | false => rfl
          | true => exact absurd w (by decide)
        exact fin J3 false 0 (fun w => n4' w.1) rfl (by rw [ecm, hcf]) f3 b3 r3 c3
      · have hcf : c = true := by
          cases c with
          | true => rfl
          | false => exact absurd rfl w
        exact fin J3 true 1 (fun w => n4' w.1) rfl (by rw [ecm, hcf]) f3 b3 r3 c3
  · have y4' : rk y = 4 := e4.mp y4
    rw [h26, in_cl (by omega), hc0]
    refine ⟨in_in (by omega) (by omega), fun w => ?_, fun w => ?_⟩
    · have hcf : c = false := by
        cases c with
        | false => rfl
        | true => exact absurd w (by decide)
      refine step _ (fun J3 f3 b3 r3 c3 => ⟨fun q => ?_, fun q => absurd y4 q⟩)
      rw [c3.1, in_cl (by omega)]
      refine ⟨in_in (by omega) (by omega), fin J3 true 1 (fun w => by rw [hcf] at w; exact absurd w.2 (by decide)) rfl ?_ f3 b3 r3 c3⟩
      unfold cm
      rw [if_pos y4']
    · have hcf : c = true := by
        cases c with
        | true => rfl
        | false => exact absurd rfl w
      exact h0 ⟨y4', hcf⟩
theorem mo_148 (hR : tk_R J k) (hv : v < 18) (hl : x.1.length + x.2.2.length ≤ 160) (hw : sw x cs) (hr : rr v x J) (hc : rc c cs J)
    (h0 : (∀ y, bop (tk_t k) = some y → rk y = 4 ∧ c = true) → Q (some (.inl 0)) J o)
    (h1 : ∀ y, bop (tk_t k) = some y → ¬(rk y = 4 ∧ c = true) → ∀ J', fr [50, 54, 55, 1024, 1025, 1029] J J' → rb v J J' → rr v (y :: (sg (rk y) x).1, (sg (rk y) x).2.1, (sg (rk y) x).2.2) J' → rc (cm y c) cs J' → Q (some (.inl 1)) J' o) :
    Exm (d + 2) 148 [.inr (.inr (40, 0))] J o Q := by
  have main : ∀ y : Int32, y ≠ -1 → bop (tk_t k) = some y → Ex (d + 1 + 1) 148 (98, [vR 40 0, vI y], [], ma_mem J o, 0, 0) (ma_end Q) := by
    intro y hy hb
    exact mo_148y hv hl hw hr hc hy (fun w => h0 (fun y' hy' => by rw [hb] at hy'; cases hy'; exact w)) (h1 y hb)
  refine e_148 ?_
  rw [R_sy hR 43 (by decide), R_sy hR 45 (by decide), R_sy hR 42 (by decide), R_sy hR 60 (by decide), R_sy hR 61 (by decide), R_wd hR 4 8 (by decide) (by decide) (by decide) (by decide) (by decide) (by decide), R_wd hR 3 7 (by decide) (by decide) (by decide) (by decide) (by decide) (by decide)]
  refine ⟨fun c1 => ⟨fun c2 => ⟨fun c3 => ⟨fun c4 => ⟨fun c5 => ⟨fun c6 => ⟨fun c7 => ?_, fun c7 => main 10 (by decide) (by rw [c7]; decide)⟩, fun c6 => main 11 (by decide) (by rw [c6]; decide)⟩, fun c5 => main 14 (by decide) (by rw [c5]; decide)⟩, fun c4 => main 13 (by decide) (by rw [c4]; decide)⟩, fun c3 => main 17 (by decide) (by rw [c3]; decide)⟩, fun c2 => main 16 (by decide) (by rw [c2]; decide)⟩, fun c1 => main 15 (by decide) (by rw [c1]; decide)⟩
  refine b_148_98 ⟨fun _ => h0 (fun y hy => ?_), fun q => absurd rfl q⟩
  unfold bop at hy
  rw [if_neg c1, if_neg c2, if_neg c3, if_neg c4, if_neg c5, if_neg c6, if_neg c7] at hy
  cases hy
theorem mo_149 (hR : tk_R J k) (hv : v < 18) (hl : x.1.length + x.2.2.length ≤ 160) (hw : sw x cs) (hr : rr v x J) (hc : rc c cs J)
    (h0 : tk_t k ≠ 41 ∨ cs = [] → Q (some (.inl 0)) J o)
    (h1 : ∀ c1 cs1, cs = c1 :: cs1 → tk_t k = 41 → ∀ J', fr [50, 1024, 1025, 1026, 1029] J J' → rb v J J' → rr v (sg 7 ((sg 1 x).1.tail, (sg 1 x).2.1 - 1, (sg 1 x).2.2)) J' → rc c1 cs1 J' → sw ((sg 1 x).1.tail, (sg 1 x).2.1 - 1, (sg 1 x).2.2) cs1 → ((sg 1 x).1.tail).length + (sg 1 x).2.2.length ≤ x.1.length + x.2.2.length → Q (some (.inl 1)) J' o) :
    Exm (d + 2) 149 [.inr (.inr (40, 0))] J o Q := by
  refine e_149 ?_
  rw [R_sy hR 41 (by decide), hc.1]
  have h5 := sw_cs hw
  refine ⟨fun c1 => h0 (Or.inl c1), fun c1 => ⟨fun c2 => ?_, fun c2 => h0 (Or.inr ?_)⟩⟩
  · match cs, hw, hc, h1, h5, c2 with
    | [], _, _, _, _, c2 => exact absurd rfl c2
    | e1 :: cs1, hw, hc, h1, h5, _ =>
      refine mo_146 (r := 1) hv (by omega) hl (Nat.le_of_eq hw.1) (by have := hw.2.1; omega) hr (fun J1 f1 b1 r1 => ⟨rfl, ?_⟩)
      have hw1 := sw_sg (r := 1) hw
      have hlen := sg_len (r := 1) (x := x)
      obtain ⟨s', hs'⟩ := sf_30 x.1 x.2.1 x.2.2 hw.2.2.2 (by rw [hw.2.2.1]; show 1 ≤ cs1.length + 1; omega)
      have hs2 : (sg 1 x).1 = 30 :: s' := hs'
      obtain ⟨w1, w2, w3, w4⟩ := hw1
      rw [hs2] at w1 w3 w4 hlen
      have w1' : 1 + cd s' = (sg 1 x).2.1 := w1
      have w3' : 1 + c3 s' = cs1.length + 1 := w3
      have hl3 : s'.length + 1 + (sg 1 x).2.2.length = x.1.length + x.2.2.length := hlen
      have hcJ := rc_fr hc f1 (by decide) (by decide)
      obtain ⟨h24, hs, h25, h28, h29, ho⟩ := r1
      rw [hs2] at h24 hs
      have h24' : J1 40 0 24 = Int32.ofNat (s'.length + 1) := h24
      have h26' : J1 40 0 26 = Int32.ofNat (cs1.length + 1) := hcJ.1
      obtain ⟨a1, ha1⟩ : ∃ a1, (sg 1 x).2.1 = a1 + 1 := ⟨cd s', by omega⟩
      have h25' : J1 40 0 25 = Int32.ofNat (a1 + 1) := by rw [← ha1]; exact h25
      rw [h24', h26', h25', in_s1, in_s1, in_s1]
      have f2 : fr [1024, 1025, 1026] J1 (ma_up (ma_up (ma_up J1 40 0 24 (Int32.ofNat s'.length)) 40 0 26 (Int32.ofNat cs1.length)) 40 0 25 (Int32.ofNat a1)) := fr_up1 (fr_up1 (fr_up1 (fr_refl _ _) (by decide)) (by decide)) (by decide)
      have hsw : sw (s', a1, (sg 1 x).2.2) cs1 := ⟨by show cd s' = a1; omega, by show a1 ≤ 5; omega, by show c3 s' = _; omega, fun y hy => w4 y (List.mem_cons_of_mem _ hy)⟩
      have hr2 : rr v (s', a1, (sg 1 x).2.2) (ma_up (ma_up (ma_up J1 40 0 24 (Int32.ofNat s'.length)) 40 0 26 (Int32.ofNat cs1.length)) 40 0 25 (Int32.ofNat a1)) := by
        refine ⟨?_, ?_, ?_, ?_, ?_, fun i hi => ?_⟩
        · rw [up_j (by decide), up_j (by decide), xv_us]
        · exact sR_cong _ (fun j _ => fr_g f2 54 0 j (by decide) (by decide) (by decide)) hs.2
        · rw [xv_us]
        · rw [f2 40 0 28 (by decide)]; exact h28
        · rw [f2 40 0 29 (by decide)]; exact h29
        · rw [fr_g f2 50 0 _ (by decide) (by decide) (by decide)]; exact ho i hi
      refine mo_146 (r := 7) (x := (s', a1, (sg 1 x).2.2)) hv (by omega) (by show s'.length + (sg 1 x).2.2.length ≤ 160; omega) (Nat.le_of_eq hsw.1) (by have := hsw.2.1; show a1 < 100; omega) hr2 (fun J3 f3 b3 r3 => ⟨rfl, ?_⟩)
      have key : ((sg 1 x).1.tail, (sg 1 x).2.1 - 1, (sg 1 x).2.2) = (s', a1, (sg 1 x).2.2) := by rw [hs2, ha1]; rfl
      refine h1 e1 cs1 rfl c1 J3 (fr_trans (fr_trans (fr_mono f1 (by decide)) (fr_mono f2 (by decide))) (fr_mono f3 (by decide))) (rb_trans (rb_trans b1 (rb_fr f2 (by decide))) b3) (by rw [key]; exact r3) ?_ (by rw [key]; exact hsw) (by rw [hs2]; show s'.length + _ ≤ _; omega)
      refine rc_fr ⟨?_, ?_⟩ f3 (by decide) (by decide)
      · rw [up_j (by decide), xv_us]
      · exact sC_cong _ (fun j _ => fr_g f2 55 0 j (by decide) (by decide) (by decide)) hcJ.2.2
  · match cs, c2 with
    | [], _ => rfl
    | e1 :: cs1, c2 =>
      have h5' : cs1.length + 1 ≤ 5 := h5
      have := (in_eq (a := cs1.length + 1) (b := 0) (by omega) (by decide)).mp c2
      omega
theorem mo_150 {vv : Bool} (hR : tk_R J k) (hl : x.1.length < 170) (hw : sw x cs) (hr : rr v x J) (hc : rc c cs J)
    (h0 : x.2.1 = 5 ∨ (tk_t k ≠ 40 ∧ tk_t k ≠ 45 ∧ ¬(tk_t k = 9 ∧ vv = true)) → Q (some (.inl 0)) J o)
    (hp : tk_t k = 40 → x.2.1 ≠ 5 → ∀ J', fr [54, 55, 1024, 1025, 1026] J J' → rr v (30 :: x.1, x.2.1 + 1, x.2.2) J' → rc false (c :: cs) J' → Q (some (.inl 1)) J' o)
    (hm : tk_t k = 45 → x.2.1 ≠ 5 → ∀ J', fr [54, 55, 1024, 1025, 1026] J J' → rr v (18 :: x.1, x.2.1 + 1, x.2.2) J' → rc c cs J' → Q (some (.inl 1)) J' o)
    (hn : tk_t k = 9 → vv = true → x.2.1 ≠ 5 → ∀ J', fr [54, 55, 1024, 1025, 1026] J J' → rr v (12 :: x.1, x.2.1 + 1, x.2.2) J' → rc c cs J' → Q (some (.inl 1)) J' o) :
    Exm (d + 2) 150 [.inr (.inr (40, 0)), .inl (if vv = true then 1 else 0)] J o Q := by
  have h5 := sw_cs hw
  have h25 : J 40 0 25 = Int32.ofNat x.2.1 := hr.2.2.1
  have ha := hw.2.1
  have main : (tk_t k = 40 ∨ tk_t k = 45 ∨ (tk_t k = 9 ∧ vv = true)) → Ex (d + 1 + 1) 150 (36, [vR 40 0, vI (if vv = true then 1 else 0), vI 1], [], ma_mem J o, 0, 0) (ma_end Q) := by
    intro hk
    refine b_150_36 ⟨fun q => absurd q (by decide), fun _ => ?_⟩
    rw [h25, in_a1]
    refine ⟨fun n5 => ?_, fun e5 => h0 (Or.inl ((in_eq (b := 5) (by omega) (by decide)).mp e5))⟩
    have n5' : x.2.1 ≠ 5 := fun e => n5 (by rw [e]; rfl)
    have f1 : fr [1025] J (ma_up J 40 0 25 (Int32.ofNat (x.2.1 + 1))) := fr_up1 (fr_refl _ _) (by decide)
    have hR1 := R_fr hR f1 (by decide) (by decide) (by decide) (by decide)
    have hr1 : rr v (x.1, x.2.1 + 1, x.2.2) (ma_up J 40 0 25 (Int32.ofNat (x.2.1 + 1))) := by
      obtain ⟨a1, a2, a3, a4, a5, a6⟩ := hr
      refine ⟨?_, sR_cong _ (fun j _ => up_g (by decide)) a2, xv_us, ?_, ?_, fun i hi => ?_⟩
      · rw [up_j (by decide)]; exact a1
      · rw [up_j (by decide)]; exact a4
      · rw [up_j (by decide)]; exact a5
      · rw [up_g (by decide)]; exact a6 i hi
    have hc1 := rc_fr hc f1 (by decide) (by decide)
    refine b_150_60 ?_
    rw [R_sy hR1 40 (by decide)]
    refine ⟨fun n40 => ⟨fun n3 => ?_, fun e3 => ?_⟩, fun e40 => ?_⟩
    · have e45 : tk_t k = 45 := by
        rcases hk with e | e | e
        · exact absurd e n40
        · exact e
        · exact absurd ((R_wd hR1 5 9 (by decide) (by decide) (by decide) (by decide) (by decide) (by decide)).mpr e.1).1 n3
      refine mo_147 (x := (x.1, x.2.1 + 1, x.2.2)) (c := 18) hl hr1 (fun J2 f2 r2 => ⟨rfl, hm e45 n5' J2 (fr_trans (fr_mono f1 (by decide)) (fr_mono f2 (by decide))) r2 (rc_fr hc1 f2 (by decide) (by decide))⟩)
    · have e9 : tk_t k = 9 ∧ vv = true := by
        rcases hk with e | e | e
        · exact absurd e n40
        · have := ((R_sy hR1 45 (by decide)).mpr e).1
          rw [e3] at this
          exact absurd this (by decide)
        · exact e
      refine mo_147 (x := (x.1, x.2.1 + 1, x.2.2)) (c := 12) hl hr1 (fun J2 f2 r2 => ⟨rfl, hn e9.1 e9.2 n5' J2 (fr_trans (fr_mono f1 (by decide)) (fr_mono f2 (by decide))) r2 (rc_fr hc1 f2 (by decide) (by decide))⟩)
    · refine mo_147 (x := (x.1, x.2.1 + 1, x.2.2)) (c := 30) hl hr1 (fun J2 f2 r2 => ⟨rfl, ?_⟩)
      have hc2 := rc_fr hc1 f2 (by decide) (by decide)
      rw [hc2.1, in_a1, in_cl (by omega)]
      have f3 : fr [55, 1026] J2 (ma_up (ma_up J2 40 0 26 (Int32.ofNat (cs.length + 1))) 55 0 (cs.length + 1) 0) := fr_upg (fr_up1 (fr_refl _ _) (by decide)) (by decide) (by decide) (by decide)
      refine ⟨in_in (by omega) (by omega), hp e40 n5' _ (fr_trans (fr_trans (fr_mono f1 (by decide)) (fr_mono f2 (by decide))) (fr_mono f3 (by decide))) (rr_fr r2 f3 (by decide) (by decide) (by decide) (by decide) (by decide) (by decide)) ⟨?_, ?_, ?_⟩⟩
      · rw [up_g (by decide), xv_us]; rfl
      · show ma_up _ 55 0 (cs.length + 1) 0 55 0 (cs.length + 1) = _
        rw [xv_us]; rfl
      · refine sC_cong (c :: cs) (fun j hj => ?_) hc2.2
        have hj' : j < cs.length + 1 := hj
        rw [up_j (by omega), up_g (by decide)]
  have none_ : ¬(tk_t k = 40 ∨ tk_t k = 45 ∨ (tk_t k = 9 ∧ vv = true)) → Ex (d + 1 + 1) 150 (36, [vR 40 0, vI (if vv = true then 1 else 0), vI 0], [], ma_mem J o, 0, 0) (ma_end Q) := by
    intro hk
    refine b_150_36 ⟨fun _ => h0 (Or.inr ⟨fun e => hk (Or.inl e), fun e => hk (Or.inr (Or.inl e)), fun e => hk (Or.inr (Or.inr e))⟩), fun q => absurd rfl q⟩
  refine e_150 ?_
  rw [R_sy hR 40 (by decide), R_sy hR 45 (by decide), R_wd hR 5 9 (by decide) (by decide) (by decide) (by decide) (by decide) (by decide)]
  refine ⟨fun e => main (Or.inl e), fun n40 => ⟨fun e => main (Or.inr (Or.inl e)), fun n45 => ⟨fun ev => none_ ?_, fun ev => ⟨fun n9 => none_ ?_, fun e9 => main (Or.inr (Or.inr ⟨e9, ?_⟩))⟩⟩⟩⟩
  · rintro (q | q | q)
    · exact n40 q
    · exact n45 q
    · rw [if_pos q.2] at ev
      exact absurd ev (by decide)
  · rintro (q | q | q)
    · exact n40 q
    · exact n45 q
    · exact n9 q.1
  · cases vv with
    | true => rfl
    | false => exact absurd rfl ev
end SYN

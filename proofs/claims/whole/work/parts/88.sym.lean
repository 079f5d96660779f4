/-! ===== how the reference lays operators by, in memory ===== -/
def sR (J : ma_I) : List Int32 → Prop
  | [] => True
  | c :: s => J 54 0 s.length = c ∧ sR J s
def sC (J : ma_I) : List Bool → Prop
  | [] => True
  | c :: cs => J 55 0 cs.length = (if c = true then 1 else 0) ∧ sC J cs
theorem sR_cong {J J' : ma_I} : ∀ s : List Int32, (∀ j, j < s.length → J' 54 0 j = J 54 0 j) → sR J s → sR J' s := by
  intro s
  induction s with
  | nil => intro _ _; trivial
  | cons c s ih => intro h hs; exact ⟨(h s.length (Nat.lt_succ_self _)).trans hs.1, ih (fun j hj => h j (Nat.lt_succ_of_lt hj)) hs.2⟩
theorem sC_cong {J J' : ma_I} : ∀ s : List Bool, (∀ j, j < s.length → J' 55 0 j = J 55 0 j) → sC J s → sC J' s := by
  intro s
  induction s with
  | nil => intro _ _; trivial
  | cons c s ih => intro h hs; exact ⟨(h s.length (Nat.lt_succ_self _)).trans hs.1, ih (fun j hj => h j (Nat.lt_succ_of_lt hj)) hs.2⟩
theorem gd_ap1 {l : List Int32} {c : Int32} {i : Nat} (h : i < l.length) : (l ++ [c]).getD i 0 = l.getD i 0 := by
  rw [List.getD_eq_getElem?_getD, List.getElem?_append_left h, ← List.getD_eq_getElem?_getD]
theorem gd_ap2 {l : List Int32} {c : Int32} : (l ++ [c]).getD l.length 0 = c := by
  rw [List.getD_eq_getElem?_getD, List.getElem?_append_right (Nat.le_refl _), Nat.sub_self]
  rfl
/-- stack, depth and codes of row v -/
def rr (v : Nat) (x : sx) (J : ma_I) : Prop := J 40 0 24 = Int32.ofNat x.1.length ∧ sR J x.1 ∧ J 40 0 25 = Int32.ofNat x.2.1 ∧ J 40 0 28 = Int32.ofNat (160 * v) ∧ J 40 0 29 = Int32.ofNat x.2.2.length ∧ ∀ i, i < x.2.2.length → J 50 0 (160 * v + i) = x.2.2.getD i 0
def rc (c : Bool) (cs : List Bool) (J : ma_I) : Prop := J 40 0 26 = Int32.ofNat cs.length ∧ sC J (c :: cs)
def rb (v : Nat) (J J' : ma_I) : Prop := ∀ j, (j < 160 * v ∨ 160 * v + 160 ≤ j) → J' 50 0 j = J 50 0 j
theorem rb_trans {v : Nat} {J J' J'' : ma_I} (h : rb v J J') (h' : rb v J' J'') : rb v J J'' := fun j hj => (h' j hj).trans (h j hj)
theorem rb_fr {v : Nat} {l : List Nat} {J J' : ma_I} (h : fr l J J') (hl : 50 ∉ l) : rb v J J' := fun j _ => h 50 0 j hl
theorem rr_fr {v : Nat} {x : sx} {l : List Nat} {J J' : ma_I} (h : rr v x J) (hf : fr l J J') (h1 : 1024 ∉ l) (h2 : 54 ∉ l) (h3 : 1025 ∉ l) (h4 : 1028 ∉ l) (h5 : 1029 ∉ l) (h6 : 50 ∉ l) : rr v x J' := by
  obtain ⟨a1, a2, a3, a4, a5, a6⟩ := h
  refine ⟨?_, sR_cong _ (fun j _ => hf 54 0 j h2) a2, ?_, ?_, ?_, fun i hi => ?_⟩
  · rw [hf 40 0 24 h1]; exact a1
  · rw [hf 40 0 25 h3]; exact a3
  · rw [hf 40 0 28 h4]; exact a4
  · rw [hf 40 0 29 h5]; exact a5
  · rw [hf 50 0 _ h6]; exact a6 i hi
theorem rc_fr {c : Bool} {cs : List Bool} {l : List Nat} {J J' : ma_I} (h : rc c cs J) (hf : fr l J J') (h1 : 1026 ∉ l) (h2 : 55 ∉ l) : rc c cs J' := by
  refine ⟨?_, sC_cong _ (fun j _ => hf 55 0 j h2) h.2⟩
  rw [hf 40 0 26 h1]; exact h.1
def cd : List Int32 → Nat
  | [] => 0
  | c :: s => (if c = 12 ∨ c = 18 ∨ c = 30 then 1 else 0) + cd s
def c3 : List Int32 → Nat
  | [] => 0
  | c :: s => (if c = 30 then 1 else 0) + c3 s
section SYM
variable {d : Nat} {J : ma_I} {o : Nat} {Q : ma_Q} {v : Nat} {x : sx}
theorem mo_144 {c : Int32} (hv : v < 18) (hl : x.2.2.length < 160) (hr : rr v x J) (h : ∀ J', fr [50, 1029] J J' → rb v J J' → rr v (x.1, x.2.1, x.2.2 ++ [c]) J' → Q none J' o) : Exm d 144 [.inr (.inr (40, 0)), .inl c] J o Q := by
  obtain ⟨h24, hs, h25, h28, h29, ho⟩ := hr
  refine e_144 ?_
  rw [h28, h29, ← Int32.ofNat_add, in_cl (by omega), in_a1]
  refine ⟨in_in (by omega) (by omega), h _ (fr_up1 (fr_upg (fr_refl _ _) (by decide) (by decide) (by decide)) (by decide)) (fun j hj => ?_) ⟨?_, ?_, ?_, ?_, ?_, fun i hi => ?_⟩⟩
  · rw [up_g (by decide), up_j (by omega)]
  · rw [up_j (by decide), up_g (by decide)]; exact h24
  · exact sR_cong _ (fun j _ => by rw [up_g (by decide), up_g (by decide)]) hs
  · rw [up_j (by decide), up_g (by decide)]; exact h25
  · rw [up_j (by decide), up_g (by decide)]; exact h28
  · rw [xv_us]
    show _ = Int32.ofNat (x.2.2 ++ [c]).length
    rw [List.length_append]; rfl
  · have hi' : i < (x.2.2 ++ [c]).length := hi
    rw [List.length_append] at hi'
    have hi2 : i < x.2.2.length + 1 := hi'
    rw [up_g (by decide)]
    show _ = (x.2.2 ++ [c]).getD i 0
    by_cases e : i = x.2.2.length
    · subst e
      rw [xv_us, gd_ap2]
    · rw [up_j (by omega), gd_ap1 (by omega)]
      exact ho i (by omega)
theorem mo_146l {r : Nat} (hv : v < 18) (hr8 : r ≤ 8) : ∀ (s : List Int32) (a : Nat) (ou : List Int32) (J : ma_I), s.length + ou.length ≤ 160 → cd s ≤ a → a < 100 → rr v (s, a, ou) J → (∀ J', fr [50, 1024, 1025, 1029] J J' → rb v J J' → rr v (sf r s a ou) J' → Q none J' o) →
    Ex (d + 1) 146 (0, [vR 40 0, vI (Int32.ofNat r)], [], ma_mem J o, 0, 0) (ma_end Q) := by
  intro s
  induction s with
  | nil =>
    intro a ou J hl ha ha2 hr h
    have h24 : J 40 0 24 = 0 := hr.1
    refine b_146_0 ⟨fun _ => h J (fr_refl _ _) (fun _ _ => rfl) hr, fun c => absurd c (by rw [h24]; decide)⟩
  | cons c s ih =>
    intro a ou J hl ha ha2 hr h
    have hl' : s.length + 1 + ou.length ≤ 160 := hl
    obtain ⟨h24', hs, h25', h28, h29, ho⟩ := hr
    have h24 : J 40 0 24 = Int32.ofNat (s.length + 1) := h24'
    have h25 : J 40 0 25 = Int32.ofNat a := h25'
    have stop : c = 30 ∨ rk c < r → Q none J o := by
      intro q
      refine h J (fr_refl _ _) (fun _ _ => rfl) ?_
      unfold sf
      rw [if_pos q]
      exact ⟨h24', hs, h25', h28, h29, ho⟩
    have pop : ∀ (a' : Nat) (z : Int32), z = Int32.ofNat a' → (if c = 12 ∨ c = 18 then a - 1 else a) = a' → cd s ≤ a' → ¬(c = 30 ∨ rk c < r) → Exm d 144 [.inr (.inr (40, 0)), .inl c] (ma_up (ma_up J 40 0 24 (Int32.ofNat s.length)) 40 0 25 z) o (fun r' J1 p2 => r' = none ∧ Ex (d + 1) 146 (0, [vR 40 0, vI (Int32.ofNat r)], [], ma_mem J1 p2, 0, 0) (ma_end Q)) := by
      intro a' z hz ha' hcd hn
      refine mo_144 (x := (s, a', ou)) hv (by show ou.length < 160; omega) ⟨?_, ?_, ?_, ?_, ?_, fun i hi => ?_⟩ (fun J' f1 b1 r1 => ⟨rfl, ih a' (ou ++ [c]) J' ?_ hcd ?_ r1 (fun J2 f2 b2 r2 => h J2 ?_ ?_ ?_)⟩)
      · rw [up_j (by decide), xv_us]
      · exact sR_cong _ (fun j _ => by rw [up_g (by decide), up_g (by decide)]) hs.2
      · rw [xv_us]; exact hz
      · rw [up_j (by decide), up_j (by decide)]; exact h28
      · rw [up_j (by decide), up_j (by decide)]; exact h29
      · rw [up_g (by decide), up_g (by decide)]; exact ho i hi
      · rw [List.length_append]; show s.length + (ou.length + 1) ≤ 160; omega
      · rw [← ha']; split <;> omega
      · refine fr_trans (fr_trans (fr_up1 (fr_up1 (fr_refl _ _) (by decide)) (by decide)) (fr_mono f1 (by decide))) f2
      · refine rb_trans (rb_trans (fun j _ => ?_) b1) b2
        rw [up_g (by decide), up_g (by decide)]
      · unfold sf
        rw [if_neg hn, ha']
        exact r2
    have hcd : (if c = 12 ∨ c = 18 ∨ c = 30 then 1 else 0) + cd s ≤ a := ha
    refine b_146_0 ⟨fun q => ?_, fun _ => ?_⟩
    · rw [h24] at q
      have := (in_le (b := 0) (by omega) (by decide)).mp q
      omega
    · rw [h24, in_s1, in_cl (by omega), hs.1, rk_xv]
      have hin : ma_in (Int32.ofNat s.length) 170 := in_in (by omega) (by omega)
      refine ⟨hin, fun e => stop (Or.inl e), fun e => ⟨hin, fun q => stop (Or.inr ((in_lt (by have := rk_lt c; omega) (by omega)).mp q)), fun q => ?_⟩⟩
      have hq := (in_le (by omega) (by have := rk_lt c; omega)).mp q
      have hn : ¬(c = 30 ∨ rk c < r) := fun w => w.elim e (by omega)
      refine ⟨hin, fun e12 => ⟨hin, ?_⟩, fun e12 => ⟨hin, fun e18 => ⟨hin, ?_⟩, fun e18 => ⟨hin, ?_⟩⟩⟩
      · rw [if_pos (Or.inl e12)] at hcd
        refine pop (a - 1) _ ?_ (if_pos (Or.inl e12)) (by omega) hn
        obtain ⟨a1, rfl⟩ : ∃ a1, a = a1 + 1 := ⟨a - 1, by omega⟩
        rw [h25, in_s1]; rfl
      · refine pop a _ ?_ (if_neg (fun w => w.elim e12 e18)) (by omega) hn
        rw [h25, Int32.sub_zero]
      · rw [if_pos (Or.inr (Or.inl e18))] at hcd
        refine pop (a - 1) _ ?_ (if_pos (Or.inr e18)) (by omega) hn
        obtain ⟨a1, rfl⟩ : ∃ a1, a = a1 + 1 := ⟨a - 1, by omega⟩
        rw [h25, in_s1]; rfl
theorem mo_146 {r : Nat} (hv : v < 18) (hr8 : r ≤ 8) (hl : x.1.length + x.2.2.length ≤ 160) (hc : cd x.1 ≤ x.2.1) (ha : x.2.1 < 100) (hr : rr v x J) (h : ∀ J', fr [50, 1024, 1025, 1029] J J' → rb v J J' → rr v (sg r x) J' → Q none J' o) : Exm (d + 1) 146 [.inr (.inr (40, 0)), .inl (Int32.ofNat r)] J o Q := e_146 (mo_146l hv hr8 x.1 x.2.1 x.2.2 J hl hc ha hr h)
theorem mo_147 {c : Int32} (hl : x.1.length < 170) (hr : rr v x J) (h : ∀ J', fr [54, 1024] J J' → rr v (c :: x.1, x.2.1, x.2.2) J' → Q none J' o) : Exm d 147 [.inr (.inr (40, 0)), .inl c] J o Q := by
  obtain ⟨h24, hs, h25, h28, h29, ho⟩ := hr
  refine e_147 ?_
  rw [h24, in_cl (by omega), in_a1]
  refine ⟨in_in (by omega) hl, h _ (fr_up1 (fr_upg (fr_refl _ _) (by decide) (by decide) (by decide)) (by decide)) ⟨xv_us, ⟨?_, ?_⟩, ?_, ?_, ?_, fun i hi => ?_⟩⟩
  · rw [up_g (by decide), xv_us]
  · exact sR_cong _ (fun j hj => by rw [up_g (by decide), up_j (by omega)]) hs
  · rw [up_j (by decide), up_g (by decide)]; exact h25
  · rw [up_j (by decide), up_g (by decide)]; exact h28
  · rw [up_j (by decide), up_g (by decide)]; exact h29
  · rw [up_g (by decide), up_g (by decide)]; exact ho i hi
/-! what is counted -/
theorem sf_w {r : Nat} : ∀ (s : List Int32) (a : Nat) (ou : List Int32), (sf r s a ou).1.length + (sf r s a ou).2.2.length = s.length + ou.length ∧ (cd s = a → cd (sf r s a ou).1 = (sf r s a ou).2.1) ∧ (sf r s a ou).2.1 ≤ a ∧ c3 (sf r s a ou).1 = c3 s ∧ ((∀ c ∈ s, c = 30 ∨ 1 ≤ rk c) → ∀ c ∈ (sf r s a ou).1, c = 30 ∨ 1 ≤ rk c) := by
  intro s
  induction s with
  | nil => intro a ou; exact ⟨rfl, fun h => h, Nat.le_refl _, rfl, fun h => h⟩
  | cons c s ih =>
    intro a ou
    unfold sf
    by_cases q : c = 30 ∨ rk c < r
    · rw [if_pos q]
      exact ⟨rfl, fun h => h, Nat.le_refl _, rfl, fun h => h⟩
    · rw [if_neg q]
      have hc : c ≠ 30 := fun e => q (Or.inl e)
      obtain ⟨i1, i2, i3, i4, i5⟩ := ih (if c = 12 ∨ c = 18 then a - 1 else a) (ou ++ [c])
      refine ⟨?_, fun h => i2 ?_, Nat.le_trans i3 (by split <;> omega), ?_, fun h => i5 (fun y hy => h y (List.mem_cons_of_mem _ hy))⟩
      · rw [i1, List.length_append]
        show s.length + (ou.length + 1) = s.length + 1 + ou.length
        omega
      · have h' : (if c = 12 ∨ c = 18 ∨ c = 30 then 1 else 0) + cd s = a := h
        by_cases w : c = 12 ∨ c = 18
        · rw [if_pos w]
          rw [if_pos (w.elim Or.inl (fun e => Or.inr (Or.inl e)))] at h'
          omega
        · rw [if_neg w]
          rw [if_neg (fun e => e.elim (fun e => w (Or.inl e)) (fun e => e.elim (fun e => w (Or.inr e)) hc))] at h'
          omega
      · rw [i4]
        show c3 s = (if c = 30 then 1 else 0) + c3 s
        rw [if_neg hc]; omega
theorem c3_cd : ∀ s : List Int32, c3 s ≤ cd s := by
  intro s
  induction s with
  | nil => exact Nat.le_refl _
  | cons c s ih =>
    show (if c = 30 then 1 else 0) + c3 s ≤ (if c = 12 ∨ c = 18 ∨ c = 30 then 1 else 0) + cd s
    by_cases e : c = 30
    · rw [if_pos e, if_pos (Or.inr (Or.inr e))]; omega
    · rw [if_neg e]; split <;> omega
theorem sf_30 : ∀ (s : List Int32) (a : Nat) (ou : List Int32), (∀ c ∈ s, c = 30 ∨ 1 ≤ rk c) → 1 ≤ c3 s → ∃ s', (sf 1 s a ou).1 = 30 :: s' := by
  intro s
  induction s with
  | nil => intro a ou _ h; exact absurd h (by show ¬1 ≤ 0; omega)
  | cons c s ih =>
    intro a ou hok h
    unfold sf
    by_cases e : c = 30
    · rw [if_pos (Or.inl e), e]
      exact ⟨s, rfl⟩
    · have hk := (hok c List.mem_cons_self).resolve_left e
      rw [if_neg (fun q => q.elim e (by omega))]
      refine ih _ _ (fun y hy => hok y (List.mem_cons_of_mem _ hy)) ?_
      have h' : 1 ≤ (if c = 30 then 1 else 0) + c3 s := h
      rw [if_neg e] at h'
      omega
/-- what holds of what is laid by -/
def sw (x : sx) (cs : List Bool) : Prop := cd x.1 = x.2.1 ∧ x.2.1 ≤ 5 ∧ c3 x.1 = cs.length ∧ ∀ c ∈ x.1, c = 30 ∨ 1 ≤ rk c
theorem sw_sg {r : Nat} {cs : List Bool} (h : sw x cs) : sw (sg r x) cs := by
  obtain ⟨h1, h2, h3, h4⟩ := h
  obtain ⟨i1, i2, i3, i4, i5⟩ := sf_w (r := r) x.1 x.2.1 x.2.2
  exact ⟨i2 h1, Nat.le_trans i3 h2, i4.trans h3, i5 h4⟩
theorem sw_cs {cs : List Bool} (h : sw x cs) : cs.length ≤ 5 := by
  obtain ⟨h1, h2, h3, h4⟩ := h
  have := c3_cd x.1
  omega
theorem sg_len {r : Nat} : (sg r x).1.length + (sg r x).2.2.length = x.1.length + x.2.2.length := (sf_w x.1 x.2.1 x.2.2).1
end SYM

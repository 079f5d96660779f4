/-! ===== how the reference reads: operators laid by, without memory ===== -/
def rk (op : Int32) : Nat := if op = 10 then 1 else if op = 11 then 2 else if op = 12 then 3 else if op = 13 ∨ op = 14 then 4 else if op = 15 ∨ op = 16 then 5 else if op = 17 then 6 else if op = 18 then 7 else 0
theorem rk_xv (op : Int32) : xv_rk op = Int32.ofNat (rk op) := by
  unfold xv_rk rk
  by_cases c1 : op = 10
  · rw [if_pos c1, if_pos c1]; rfl
  rw [if_neg c1, if_neg c1]
  by_cases c2 : op = 11
  · rw [if_pos c2, if_pos c2]; rfl
  rw [if_neg c2, if_neg c2]
  by_cases c3 : op = 12
  · rw [if_pos c3, if_pos c3]; rfl
  rw [if_neg c3, if_neg c3]
  by_cases c4 : op = 13 ∨ op = 14
  · rw [if_pos c4, if_pos c4]; rfl
  rw [if_neg c4, if_neg c4]
  by_cases c5 : op = 15 ∨ op = 16
  · rw [if_pos c5, if_pos c5]; rfl
  rw [if_neg c5, if_neg c5]
  by_cases c6 : op = 17
  · rw [if_pos c6, if_pos c6]; rfl
  rw [if_neg c6, if_neg c6]
  by_cases c7 : op = 18
  · rw [if_pos c7, if_pos c7]; rfl
  rw [if_neg c7, if_neg c7]; rfl
theorem rk_lt (op : Int32) : rk op < 8 := by
  unfold rk
  split
  · omega
  split
  · omega
  split
  · omega
  split
  · omega
  split
  · omega
  split
  · omega
  split
  · omega
  omega
def bop (t : Int32) : Option Int32 := if t = 43 then some 15 else if t = 45 then some 16 else if t = 42 then some 17 else if t = 60 then some 13 else if t = 61 then some 14 else if t = 8 then some 11 else if t = 7 then some 10 else none
/-- what is laid by (the last first), depth, codes -/
abbrev sx := List Int32 × Nat × List Int32
def sf (r : Nat) : List Int32 → Nat → List Int32 → sx
  | [], a, o => ([], a, o)
  | c :: s, a, o => if c = 30 ∨ rk c < r then (c :: s, a, o) else sf r s (if c = 12 ∨ c = 18 then a - 1 else a) (o ++ [c])
def sg (r : Nat) (x : sx) : sx := sf r x.1 x.2.1 x.2.2
def tp (r : Nat) (s : List Int32) : Prop := ∀ c s', s = c :: s' → c = 30 ∨ rk c < r
theorem sg_tp {r : Nat} {s : List Int32} {a : Nat} {o : List Int32} (h : tp r s) : sg r (s, a, o) = (s, a, o) := by
  unfold sg
  match s, h with
  | [], _ => rfl
  | c :: s, h =>
    show (if c = 30 ∨ rk c < r then (c :: s, a, o) else _) = _
    rw [if_pos (h c s rfl)]
theorem sg_pop {r : Nat} {c : Int32} {s : List Int32} {a : Nat} {o : List Int32} (h1 : c ≠ 30) (h2 : r ≤ rk c) : sg r (c :: s, a, o) = sg r (s, (if c = 12 ∨ c = 18 then a - 1 else a), o ++ [c]) := by
  unfold sg
  show (if c = 30 ∨ rk c < r then (c :: s, a, o) else _) = _
  rw [if_neg (fun q => q.elim h1 (by omega))]
theorem sf_sf {r r' : Nat} (h : r ≤ r') : ∀ (s : List Int32) (a : Nat) (o : List Int32), sg r (sf r' s a o) = sf r s a o := by
  intro s
  induction s with
  | nil => intro a o; rfl
  | cons c s ih =>
    intro a o
    show sg r (if c = 30 ∨ rk c < r' then (c :: s, a, o) else _) = (if c = 30 ∨ rk c < r then (c :: s, a, o) else _)
    by_cases q : c = 30 ∨ rk c < r'
    · rw [if_pos q]; rfl
    · rw [if_neg q, if_neg (show ¬(c = 30 ∨ rk c < r) from fun w => q (w.elim Or.inl (fun w => Or.inr (by omega))))]
      exact ih _ _
theorem sg_sg {r r' : Nat} (h : r ≤ r') (x : sx) : sg r (sg r' x) = sg r x := sf_sf h _ _ _
theorem tp_mono {r r' : Nat} {s : List Int32} (h : tp r s) (hr : r ≤ r') : tp r' s := fun c s' e => (h c s' e).elim Or.inl (fun w => Or.inr (by omega))
theorem tp_cons {r : Nat} {c : Int32} {s : List Int32} (h : c = 30 ∨ rk c < r) : tp r (c :: s) := by
  intro c' s' e
  cases e
  exact h
def sy (b : Nat → Int32) (n : Nat) : Nat → Bool → Bool → tk → sx → Bool → List Bool → Option tr
  | 0, _, _, _, _, _, _ => none
  | m + 1, w, v, k, x, c, cs =>
    if w = true then
      (if tk_t k = 1 then sy b n m false v (tk_n2 b n k) (sg 7 (x.1, x.2.1, x.2.2 ++ [-1 - tk_v k])) c cs
      else if tk_t k = 2 then sy b n m false v (tk_n2 b n k) (sg 7 (x.1, x.2.1, x.2.2 ++ [tk_v k])) c cs
      else if x.2.1 = 5 then some (false, k, [])
      else if tk_t k = 40 then sy b n m true true (tk_n2 b n k) (30 :: x.1, x.2.1 + 1, x.2.2) false (c :: cs)
      else if tk_t k = 45 then sy b n m true false (tk_n2 b n k) (18 :: x.1, x.2.1 + 1, x.2.2) c cs
      else if tk_t k = 9 ∧ v = true then sy b n m true true (tk_n2 b n k) (12 :: x.1, x.2.1 + 1, x.2.2) c cs
      else some (false, k, []))
    else if tk_t k = 59 ∧ cs = [] then some (true, k, (sg 1 x).2.2)
    else match bop (tk_t k) with
      | some y => if rk y = 4 ∧ c = true then some (false, k, []) else sy b n m true (decide (rk y ≤ 2)) (tk_n2 b n k) (y :: (sg (rk y) x).1, (sg (rk y) x).2.1, (sg (rk y) x).2.2) (if rk y = 4 then true else if rk y < 4 then false else c) cs
      | none => match cs with
        | [] => some (false, k, [])
        | c1 :: cs1 => if tk_t k = 41 then sy b n m false v (tk_n2 b n k) (sg 7 ((sg 1 x).1.tail, (sg 1 x).2.1 - 1, (sg 1 x).2.2)) c1 cs1 else some (false, k, [])
section SYA
variable {b : Nat → Int32} {n : Nat}
def go (b : Nat → Int32) (n : Nat) (w v : Bool) (k : tk) (x : sx) (c : Bool) (cs : List Bool) (R : tr) : Prop := ∃ m, sy b n m w v k x c cs = some R
variable {v c : Bool} {k : tk} {s : List Int32} {a : Nat} {o : List Int32} {cs : List Bool} {R : tr} {x : sx}
theorem go_num (h : tk_t k = 1) (hg : go b n false v (tk_n2 b n k) (sg 7 (s, a, o ++ [-1 - tk_v k])) c cs R) : go b n true v k (s, a, o) c cs R := by
  obtain ⟨m, hm⟩ := hg
  refine ⟨m + 1, ?_⟩
  unfold sy
  rw [if_pos rfl, if_pos h]
  exact hm
theorem go_nam (h : tk_t k = 2) (hg : go b n false v (tk_n2 b n k) (sg 7 (s, a, o ++ [tk_v k])) c cs R) : go b n true v k (s, a, o) c cs R := by
  obtain ⟨m, hm⟩ := hg
  refine ⟨m + 1, ?_⟩
  unfold sy
  rw [if_pos rfl, if_neg (by rw [h]; decide), if_pos h]
  exact hm
theorem go_par (h : tk_t k = 40) (ha : a ≠ 5) (hg : go b n true true (tk_n2 b n k) (30 :: s, a + 1, o) false (c :: cs) R) : go b n true v k (s, a, o) c cs R := by
  obtain ⟨m, hm⟩ := hg
  refine ⟨m + 1, ?_⟩
  unfold sy
  rw [if_pos rfl, if_neg (by rw [h]; decide), if_neg (by rw [h]; decide), if_neg ha, if_pos h]
  exact hm
theorem go_min (h : tk_t k = 45) (ha : a ≠ 5) (hg : go b n true false (tk_n2 b n k) (18 :: s, a + 1, o) c cs R) : go b n true v k (s, a, o) c cs R := by
  obtain ⟨m, hm⟩ := hg
  refine ⟨m + 1, ?_⟩
  unfold sy
  rw [if_pos rfl, if_neg (by rw [h]; decide), if_neg (by rw [h]; decide), if_neg ha, if_neg (by rw [h]; decide), if_pos h]
  exact hm
theorem go_not (h : tk_t k = 9) (hv : v = true) (ha : a ≠ 5) (hg : go b n true true (tk_n2 b n k) (12 :: s, a + 1, o) c cs R) : go b n true v k (s, a, o) c cs R := by
  obtain ⟨m, hm⟩ := hg
  refine ⟨m + 1, ?_⟩
  unfold sy
  rw [if_pos rfl, if_neg (by rw [h]; decide), if_neg (by rw [h]; decide), if_neg ha, if_neg (by rw [h]; decide), if_neg (by rw [h]; decide), if_pos ⟨h, hv⟩]
  exact hm
theorem go_opf (h1 : tk_t k ≠ 1) (h2 : tk_t k ≠ 2) (h3 : a = 5 ∨ (tk_t k ≠ 40 ∧ tk_t k ≠ 45 ∧ ¬(tk_t k = 9 ∧ v = true))) : go b n true v k (s, a, o) c cs (false, k, []) := by
  refine ⟨1, ?_⟩
  unfold sy
  rw [if_pos rfl, if_neg h1, if_neg h2]
  by_cases ha : a = 5
  · rw [if_pos ha]
  · obtain ⟨q1, q2, q3⟩ := h3.resolve_left ha
    rw [if_neg ha, if_neg q1, if_neg q2, if_neg q3]
theorem bop_59 {t y : Int32} (h : bop t = some y) : t ≠ 59 := by
  intro e
  subst e
  have e : bop 59 = none := by decide
  rw [e] at h
  cases h
theorem go_bin {y : Int32} (h : bop (tk_t k) = some y) (hc : ¬(rk y = 4 ∧ c = true)) (hg : go b n true (decide (rk y ≤ 2)) (tk_n2 b n k) (y :: (sg (rk y) x).1, (sg (rk y) x).2.1, (sg (rk y) x).2.2) (if rk y = 4 then true else if rk y < 4 then false else c) cs R) : go b n false v k x c cs R := by
  obtain ⟨m, hm⟩ := hg
  refine ⟨m + 1, ?_⟩
  unfold sy
  rw [if_neg (by decide), if_neg (fun q => bop_59 h q.1), h]
  dsimp only
  rw [if_neg hc]
  exact hm
theorem go_cls {c1 : Bool} (h : tk_t k = 41) (hx : sg 1 x = (30 :: s, a + 1, o)) (hg : go b n false v (tk_n2 b n k) (sg 7 (s, a, o)) c1 cs R) : go b n false v k x c (c1 :: cs) R := by
  obtain ⟨m, hm⟩ := hg
  refine ⟨m + 1, ?_⟩
  have hb : bop (tk_t k) = none := by rw [h]; decide
  unfold sy
  rw [if_neg (by decide), if_neg (fun q => absurd q.2 (List.cons_ne_nil _ _)), hb]
  dsimp only
  rw [if_pos h, hx]
  exact hm
theorem go_end (h : tk_t k = 59) : go b n false v k x c [] (true, k, (sg 1 x).2.2) := by
  refine ⟨1, ?_⟩
  unfold sy
  rw [if_neg (by decide), if_pos ⟨h, rfl⟩]
/-- what the next token can't be, behind a level -/
def po (L : Nat) (k : tk) (c : Bool) : Prop := (L ≤ 1 → tk_t k ≠ 7) ∧ (L ≤ 2 → tk_t k ≠ 8) ∧ (L ≤ 3 → tk_t k = 60 ∨ tk_t k = 61 → c = true) ∧ (L ≤ 5 → tk_t k ≠ 43 ∧ tk_t k ≠ 45) ∧ (L ≤ 6 → tk_t k ≠ 42)
theorem go_ref (h : po 1 k c) (h1 : ¬(tk_t k = 59 ∧ cs = [])) (h2 : tk_t k ≠ 41 ∨ cs = []) : go b n false v k x c cs (false, k, []) := by
  refine ⟨1, ?_⟩
  obtain ⟨p1, p2, p3, p4, p5⟩ := h
  unfold sy
  rw [if_neg (by decide), if_neg h1]
  cases hb : bop (tk_t k) with
  | some y =>
    dsimp only
    unfold bop at hb
    rw [if_neg (p4 (by omega)).1, if_neg (p4 (by omega)).2, if_neg (p5 (by omega))] at hb
    by_cases c60 : tk_t k = 60
    · rw [if_pos c60] at hb
      cases hb
      rw [if_pos ⟨by decide, p3 (by omega) (Or.inl c60)⟩]
    rw [if_neg c60] at hb
    by_cases c61 : tk_t k = 61
    · rw [if_pos c61] at hb
      cases hb
      rw [if_pos ⟨by decide, p3 (by omega) (Or.inr c61)⟩]
    rw [if_neg c61, if_neg (p2 (by omega)), if_neg (p1 (by omega))] at hb
    cases hb
  | none =>
    match cs, h2 with
    | [], _ => rfl
    | c1 :: cs1, h2 =>
      dsimp only
      rw [if_neg (h2.resolve_right (List.cons_ne_nil _ _))]
end SYA

/-! ===== what was read before stays ===== -/
def ap (o1 : List Int32) (r : tr) : tr := (r.1, r.2.1, o1 ++ r.2.2)
theorem pb_ap {o1 : List Int32} {r : tr} {g : tk → List Int32 → tr} (hg : ∀ k o, g k (o1 ++ o) = ap o1 (g k o)) : pb (ap o1 r) g = ap o1 (pb r g) := by
  unfold pb
  by_cases c : r.1 = true
  · rw [if_pos c, if_pos (show (ap o1 r).1 = true from c)]; exact hg _ _
  · rw [if_neg c, if_neg (show ¬(ap o1 r).1 = true from c)]
theorem lp_ap {b : Nat → Int32} {n L : Nat} {k : tk} {o1 o2 : List Int32} {below again : tk → List Int32 → tr} (h1 : ∀ k o, below k (o1 ++ o) = ap o1 (below k o)) (h2 : ∀ k o, again k (o1 ++ o) = ap o1 (again k o)) : ps_lp L k (o1 ++ o2) b n below again = ap o1 (ps_lp L k o2 b n below again) := by
  unfold ps_lp
  cases ps_op L (tk_t k) with
  | none => rfl
  | some c =>
    dsimp only
    rw [h1]
    exact pb_ap (fun k' o' => by rw [List.append_assoc]; exact h2 k' (o' ++ [c]))
theorem ps_ap {b : Nat → Int32} {n : Nat} {o1 : List Int32} : ∀ (f L a : Nat) (k : tk) (o2 : List Int32), ps b n f L a k (o1 ++ o2) = ap o1 (ps b n f L a k o2) := by
  intro f
  induction f with
  | zero => intro L a k o2; rfl
  | succ f ih =>
    intro L a k o2
    have down : ∀ L1 L2, pb (ps b n f L1 a k (o1 ++ o2)) (ps b n f L2 a) = ap o1 (pb (ps b n f L1 a k o2) (ps b n f L2 a)) := by
      intro L1 L2
      rw [ih]
      exact pb_ap (fun k o => ih L2 a k o)
    have loop : ∀ L0 L1 L2, ps_lp L0 k (o1 ++ o2) b n (ps b n f L1 a) (ps b n f L2 a) = ap o1 (ps_lp L0 k o2 b n (ps b n f L1 a) (ps b n f L2 a)) := by
      intro L0 L1 L2
      exact lp_ap (fun k o => ih L1 a k o) (fun k o => ih L2 a k o)
    have pre : ∀ (L1 : Nat) (c : Int32), pb (ps b n f L1 (a + 1) (tk_n2 b n k) (o1 ++ o2)) (fun k' o' => (true, k', o' ++ [c])) = ap o1 (pb (ps b n f L1 (a + 1) (tk_n2 b n k) o2) (fun k' o' => (true, k', o' ++ [c]))) := by
      intro L1 c
      rw [ih]
      exact pb_ap (fun k' o' => by show (true, k', o1 ++ o' ++ [c]) = (true, k', o1 ++ (o' ++ [c])); rw [List.append_assoc])
    unfold ps
    by_cases q1 : L = 1
    · rw [if_pos q1, if_pos q1]; exact down 2 11
    rw [if_neg q1, if_neg q1]
    by_cases q2 : L = 2
    · rw [if_pos q2, if_pos q2]; exact down 3 12
    rw [if_neg q2, if_neg q2]
    by_cases q5 : L = 5
    · rw [if_pos q5, if_pos q5]; exact down 6 15
    rw [if_neg q5, if_neg q5]
    by_cases q6 : L = 6
    · rw [if_pos q6, if_pos q6]; exact down 7 16
    rw [if_neg q6, if_neg q6]
    by_cases q11 : L = 11
    · rw [if_pos q11, if_pos q11]; exact loop 1 2 11
    rw [if_neg q11, if_neg q11]
    by_cases q12 : L = 12
    · rw [if_pos q12, if_pos q12]; exact loop 2 3 12
    rw [if_neg q12, if_neg q12]
    by_cases q15 : L = 15
    · rw [if_pos q15, if_pos q15]; exact loop 5 6 15
    rw [if_neg q15, if_neg q15]
    by_cases q16 : L = 16
    · rw [if_pos q16, if_pos q16]; exact loop 6 7 16
    rw [if_neg q16, if_neg q16]
    by_cases q3 : L = 3
    · rw [if_pos q3, if_pos q3]
      by_cases c9 : tk_t k = 9
      · rw [if_pos c9, if_pos c9]
        by_cases ca : a < 5
        · rw [if_pos ca, if_pos ca]; exact pre 3 12
        · rw [if_neg ca, if_neg ca]; rfl
      · rw [if_neg c9, if_neg c9, ih]
        refine pb_ap (fun k' o' => ?_)
        have cmp : ∀ c : Int32, pb (ps b n f 5 a (tk_n2 b n k') (o1 ++ o')) (fun k2 o2 => (true, k2, o2 ++ [c])) = ap o1 (pb (ps b n f 5 a (tk_n2 b n k') o') (fun k2 o2 => (true, k2, o2 ++ [c]))) := by
          intro c
          rw [ih]
          exact pb_ap (fun k2 o2 => by show (true, k2, o1 ++ o2 ++ [c]) = (true, k2, o1 ++ (o2 ++ [c])); rw [List.append_assoc])
        by_cases c60 : tk_t k' = 60
        · rw [if_pos c60, if_pos c60]; exact cmp 13
        · rw [if_neg c60, if_neg c60]
          by_cases c61 : tk_t k' = 61
          · rw [if_pos c61, if_pos c61]; exact cmp 14
          · rw [if_neg c61, if_neg c61]; rfl
    rw [if_neg q3, if_neg q3]
    by_cases q7 : L = 7
    · rw [if_pos q7, if_pos q7]
      by_cases c1 : tk_t k = 1
      · rw [if_pos c1, if_pos c1]
        show (true, _, o1 ++ o2 ++ [_]) = (true, _, o1 ++ (o2 ++ [_]))
        rw [List.append_assoc]
      · rw [if_neg c1, if_neg c1]
        by_cases c2 : tk_t k = 2
        · rw [if_pos c2, if_pos c2]
          show (true, _, o1 ++ o2 ++ [_]) = (true, _, o1 ++ (o2 ++ [_]))
          rw [List.append_assoc]
        · rw [if_neg c2, if_neg c2]
          by_cases c45 : tk_t k = 45
          · rw [if_pos c45, if_pos c45]
            by_cases ca : a < 5
            · rw [if_pos ca, if_pos ca]; exact pre 7 18
            · rw [if_neg ca, if_neg ca]; rfl
          · rw [if_neg c45, if_neg c45]
            by_cases c40 : tk_t k = 40
            · rw [if_pos c40, if_pos c40]
              by_cases ca : a < 5
              · rw [if_pos ca, if_pos ca, ih]
                refine pb_ap (fun k' o' => ?_)
                by_cases c41 : tk_t k' = 41
                · rw [if_pos c41, if_pos c41]; rfl
                · rw [if_neg c41, if_neg c41]; rfl
              · rw [if_neg ca, if_neg ca]; rfl
            · rw [if_neg c40, if_neg c40]; rfl
    rw [if_neg q7, if_neg q7]
    rfl
theorem ps_nl {b : Nat → Int32} {n f L a : Nat} {k : tk} {out : List Int32} : ps b n f L a k out = ap out (ps b n f L a k []) := by
  have h := ps_ap (b := b) (n := n) (o1 := out) f L a k []
  rw [List.append_nil] at h
  exact h
/-- the three parts of a text: where it fails (or -1), what was read -/
def px (b : Nat → Int32) (n : Nat) : Nat → Nat → tk → List (List Int32) → Int32 × List (List Int32)
  | 0, _, k, cs => (if tk_t k ≠ 0 then Int32.ofNat (tk_s k) else -1, cs)
  | m + 1, p, k, cs => if tk_t k = Int32.ofNat (4 + p) then (if (ps b n (8 * n + 6) 1 0 (tk_n2 b n k) []).1 = true ∧ tk_t (ps b n (8 * n + 6) 1 0 (tk_n2 b n k) []).2.1 = 59 then px b n m (p + 1) (tk_n2 b n (ps b n (8 * n + 6) 1 0 (tk_n2 b n k) []).2.1) (cs ++ [(ps b n (8 * n + 6) 1 0 (tk_n2 b n k) []).2.2]) else (Int32.ofNat (tk_s (ps b n (8 * n + 6) 1 0 (tk_n2 b n k) []).2.1), cs)) else (Int32.ofNat (tk_s k), cs)

/-! ===== how a text is read ===== -/
abbrev tr := Bool × tk × List Int32
def tk_n2 (b : Nat → Int32) (n : Nat) (k : tk) : tk := tk_nx b n (tk_e k)
def pb (r : tr) (g : tk → List Int32 → tr) : tr := if r.1 = true then g r.2.1 r.2.2 else r
def ps_op (L : Nat) (t : Int32) : Option Int32 := if L = 1 ∧ t = 7 then some 10 else if L = 2 ∧ t = 8 then some 11 else if L = 5 ∧ t = 43 then some 15 else if L = 5 ∧ t = 45 then some 16 else if L = 6 ∧ t = 42 then some 17 else none
def ps_lp (L : Nat) (k : tk) (out : List Int32) (b : Nat → Int32) (n : Nat) (below : tk → List Int32 → tr) (again : tk → List Int32 → tr) : tr :=
  match ps_op L (tk_t k) with
  | none => (true, k, out)
  | some c => pb (below (tk_n2 b n k) out) (fun k' o' => again k' (o' ++ [c]))
/-- levels: 1 or, 2 and, 3 not and what compares, 5 sums, 6 products, 7 the rest; 10 more: what may follow there -/
def ps (b : Nat → Int32) (n : Nat) : Nat → Nat → Nat → tk → List Int32 → tr
  | 0, _, _, k, out => (false, k, out)
  | f + 1, L, a, k, out =>
    if L = 1 then pb (ps b n f 2 a k out) (ps b n f 11 a)
    else if L = 2 then pb (ps b n f 3 a k out) (ps b n f 12 a)
    else if L = 5 then pb (ps b n f 6 a k out) (ps b n f 15 a)
    else if L = 6 then pb (ps b n f 7 a k out) (ps b n f 16 a)
    else if L = 11 then ps_lp 1 k out b n (ps b n f 2 a) (ps b n f 11 a)
    else if L = 12 then ps_lp 2 k out b n (ps b n f 3 a) (ps b n f 12 a)
    else if L = 15 then ps_lp 5 k out b n (ps b n f 6 a) (ps b n f 15 a)
    else if L = 16 then ps_lp 6 k out b n (ps b n f 7 a) (ps b n f 16 a)
    else if L = 3 then
      (if tk_t k = 9 then (if a < 5 then pb (ps b n f 3 (a + 1) (tk_n2 b n k) out) (fun k' o' => (true, k', o' ++ [12])) else (false, k, out))
      else pb (ps b n f 5 a k out) (fun k' o' => if tk_t k' = 60 then pb (ps b n f 5 a (tk_n2 b n k') o') (fun k2 o2 => (true, k2, o2 ++ [13])) else if tk_t k' = 61 then pb (ps b n f 5 a (tk_n2 b n k') o') (fun k2 o2 => (true, k2, o2 ++ [14])) else (true, k', o')))
    else if L = 7 then
      (if tk_t k = 1 then (true, tk_n2 b n k, out ++ [-1 - tk_v k])
      else if tk_t k = 2 then (true, tk_n2 b n k, out ++ [tk_v k])
      else if tk_t k = 45 then (if a < 5 then pb (ps b n f 7 (a + 1) (tk_n2 b n k) out) (fun k' o' => (true, k', o' ++ [18])) else (false, k, out))
      else if tk_t k = 40 then (if a < 5 then pb (ps b n f 1 (a + 1) (tk_n2 b n k) out) (fun k' o' => if tk_t k' = 41 then (true, tk_n2 b n k', o') else (false, k', o')) else (false, k, out))
      else (false, k, out))
    else (false, k, out)
def tw (n : Nat) (k : tk) : Prop := tk_s k ≤ tk_e k ∧ tk_e k ≤ n ∧ (tk_t k ≠ 0 → tk_s k < tk_e k) ∧ (tk_t k = 1 → rg (tk_v k) 0 9999) ∧ (tk_t k = 2 → rg (tk_v k) 0 5)
theorem tw_no {n s e : Nat} {t v : Int32} (h1 : s < e) (h2 : e ≤ n) (k1 : t ≠ 1) (k2 : t ≠ 2) : tw n (s, e, t, v) := ⟨Nat.le_of_lt h1, h2, fun _ => h1, fun q => absurd q k1, fun q => absurd q k2⟩
theorem run_all {P : Int32 → Bool} {b : Nat → Int32} : ∀ r p j, p ≤ j → j < tk_run P b r p → P (b j) = true := by
  intro r
  induction r with
  | zero => intro p j h1 h2; unfold tk_run at h2; omega
  | succ r ih =>
    intro p j h1 h2
    unfold tk_run at h2
    by_cases c : P (b p) = true
    · rw [if_pos c] at h2
      by_cases e : j = p
      · rw [e]; exact c
      · exact ih (p + 1) j (by omega) h2
    · rw [if_neg c] at h2
      omega
theorem nv_rg {b : Nat → Int32} {s : Nat} : ∀ m, m ≤ 4 → (∀ j, j < m → tk_dg (b (s + j)) = true) → ∃ x : Nat, x < 10 ^ m ∧ tk_nv b s m = Int32.ofNat x := by
  intro m
  induction m with
  | zero => intro _ _; exact ⟨0, by decide, rfl⟩
  | succ m ih =>
    intro hm hd
    obtain ⟨x, hx, ex⟩ := ih (by omega) (fun j hj => hd j (by omega))
    have hdm := dg_iff.mp (hd m (by omega))
    obtain ⟨y, ey, hy1, hy2⟩ := rg_mk1 (a := 48) (b := 57) (by decide) (by decide) hdm.1 hdm.2
    have hp : 10 ^ (m + 1) = 10 * 10 ^ m := by rw [Nat.pow_succ, Nat.mul_comm]
    refine ⟨10 * x + y - 48, by omega, ?_⟩
    show 10 * tk_nv b s m + b (s + m) - 48 = _
    rw [ex, ey, Int32.ofNat_sub _ _ (by omega), Int32.ofNat_add, Int32.ofNat_mul]
    rfl
theorem run_gt {P : Int32 → Bool} {b : Nat → Int32} {r p : Nat} (hr : 0 < r) (h : P (b p) = true) : p < tk_run P b r p := by
  match r, hr with
  | r + 1, _ =>
    unfold tk_run
    rw [if_pos h]
    have := run_le (P := P) (b := b) r (p + 1)
    omega
theorem at_wf {b : Nat → Int32} {n s : Nat} (hs : s ≤ n) : tw n (tk_at b n s) ∧ tk_s (tk_at b n s) = s := by
  unfold tk_at
  by_cases c : s < n
  · rw [if_pos c]
    by_cases c1 : tk_al (b s) = true
    · rw [if_pos c1]
      have h1 := run_le (P := tk_al) (b := b) (n - s) s
      have h2 := run_gt (P := tk_al) (b := b) (r := n - s) (p := s) (by omega) c1
      cases hwd : tk_wd b s (tk_run tk_al b (n - s) s) with
      | none => exact ⟨tw_no h2 (by omega) (by decide) (by decide), rfl⟩
      | some i =>
        obtain ⟨-, hi, -, -⟩ := ft_some 12 0 i hwd
        dsimp only
        by_cases c6 : i < 6
        · rw [if_pos c6]
          exact ⟨⟨h1.1, by show tk_run _ _ _ _ ≤ n; omega, fun _ => h2, fun q => absurd q (by show ¬(2 : Int32) = 1; decide), fun _ => ⟨i, rfl, by omega, by omega⟩⟩, rfl⟩
        · rw [if_neg c6]
          exact ⟨tw_no h2 (by omega) (fun q => by have := (in_eq (b := 1) (by omega) (by decide)).mp q; omega) (fun q => by have := (in_eq (b := 2) (by omega) (by decide)).mp q; omega), rfl⟩
    · rw [if_neg c1]
      by_cases c2 : tk_dg (b s) = true
      · rw [if_pos c2]
        have h1 := run_le (P := tk_dg) (b := b) (n - s) s
        have h2 := run_gt (P := tk_dg) (b := b) (r := n - s) (p := s) (by omega) c2
        by_cases c4 : tk_run tk_dg b (n - s) s - s ≤ 4
        · rw [if_pos c4]
          refine ⟨⟨h1.1, by show tk_run _ _ _ _ ≤ n; omega, fun _ => h2, fun _ => ?_, fun q => absurd q (by show ¬(1 : Int32) = 2; decide)⟩, rfl⟩
          obtain ⟨x, hx, ex⟩ := nv_rg (b := b) (s := s) (tk_run tk_dg b (n - s) s - s) c4 (fun j hj => run_all (n - s) s (s + j) (by omega) (by omega))
          have hp : 10 ^ (tk_run tk_dg b (n - s) s - s) ≤ 10 ^ 4 := Nat.pow_le_pow_right (by decide) c4
          exact ⟨x, ex, by omega, by omega⟩
        · rw [if_neg c4]
          exact ⟨tw_no h2 (by omega) (by decide) (by decide), rfl⟩
      · rw [if_neg c2]
        by_cases c3 : tk_sg (b s) = true
        · rw [if_pos c3]
          have hk : b s ≠ 1 ∧ b s ≠ 2 := by rcases sg_iff.mp c3 with q | q | q | q | q | q | q | q <;> rw [q] <;> decide
          exact ⟨tw_no (by omega) (by omega) hk.1 hk.2, rfl⟩
        · rw [if_neg c3]
          exact ⟨tw_no (by omega) (by omega) (by decide) (by decide), rfl⟩
  · rw [if_neg c]
    exact ⟨⟨Nat.le_refl _, hs, fun q => absurd rfl q, fun q => absurd q (by show ¬(0 : Int32) = 1; decide), fun q => absurd q (by show ¬(0 : Int32) = 2; decide)⟩, rfl⟩
theorem nx_wf {b : Nat → Int32} {n p : Nat} (hp : p ≤ n) : tw n (tk_nx b n p) ∧ p ≤ tk_s (tk_nx b n p) := by
  have h1 := run_le (P := tk_ws) (b := b) (n - p) p
  have h2 := at_wf (b := b) (n := n) (s := tk_run tk_ws b (n - p) p) (by omega)
  unfold tk_nx
  refine ⟨h2.1, ?_⟩
  rw [h2.2]
  exact h1.1
theorem n2_wf {b : Nat → Int32} {n : Nat} {k : tk} (h : tw n k) : tw n (tk_n2 b n k) ∧ tk_s k ≤ tk_s (tk_n2 b n k) ∧ (tk_t k ≠ 0 → tk_s k < tk_s (tk_n2 b n k)) := by
  have h2 := nx_wf (b := b) (n := n) (p := tk_e k) h.2.1
  have h1 := h.1
  refine ⟨h2.1, ?_, fun q => ?_⟩
  · unfold tk_n2; omega
  · have := h.2.2.1 q
    unfold tk_n2; omega
/-- what reading leaves -/
def pg (n : Nat) (s0 l0 : Nat) (strict : Prop) (r : tr) : Prop := tw n r.2.1 ∧ s0 ≤ tk_s r.2.1 ∧ (r.1 = true → r.2.2.length + s0 ≤ l0 + tk_s r.2.1 ∧ (strict → s0 < tk_s r.2.1))
theorem pb_pg {n s0 l0 s1 l1 : Nat} {A B : Prop} {r : tr} {g : tk → List Int32 → tr} (h : pg n s1 l1 A r) (h01 : s0 ≤ s1) (hg : ∀ k o, tw n k → s1 ≤ tk_s k → o.length + s1 ≤ l1 + tk_s k → (A → s1 < tk_s k) → pg n s0 l0 B (g k o)) : pg n s0 l0 B (pb r g) := by
  unfold pb
  by_cases c : r.1 = true
  · rw [if_pos c]
    exact hg _ _ h.1 h.2.1 (h.2.2 c).1 (h.2.2 c).2
  · rw [if_neg c]
    exact ⟨h.1, Nat.le_trans h01 h.2.1, fun q => absurd q c⟩
theorem pg_wk {n s0 l0 s1 l1 : Nat} {A B : Prop} {r : tr} (h : pg n s1 l1 A r) (h1 : s0 ≤ s1) (h2 : l1 + s0 ≤ l0 + s1) (h3 : B → A ∨ s0 < s1) : pg n s0 l0 B r := by
  refine ⟨h.1, Nat.le_trans h1 h.2.1, fun q => ?_⟩
  obtain ⟨q1, q2⟩ := h.2.2 q
  have := h.2.1
  refine ⟨by omega, fun hb => ?_⟩
  rcases h3 hb with w | w
  · have := q2 w; omega
  · omega
theorem op_t {L : Nat} {t c : Int32} (h : ps_op L t = some c) : t ≠ 0 := by
  unfold ps_op at h
  intro e
  subst e
  rw [if_neg (fun q => absurd q.2 (by decide)), if_neg (fun q => absurd q.2 (by decide)), if_neg (fun q => absurd q.2 (by decide)), if_neg (fun q => absurd q.2 (by decide)), if_neg (fun q => absurd q.2 (by decide))] at h
  exact absurd h (by intro q; cases q)
theorem lp_pg {b : Nat → Int32} {n L : Nat} {k : tk} {out : List Int32} {below again : tk → List Int32 → tr} (hk : tw n k) (h1 : ∀ k o, tw n k → pg n (tk_s k) o.length True (below k o)) (h2 : ∀ k o, tw n k → pg n (tk_s k) o.length False (again k o)) : pg n (tk_s k) out.length False (ps_lp L k out b n below again) := by
  unfold ps_lp
  cases hop : ps_op L (tk_t k) with
  | none => exact ⟨hk, Nat.le_refl _, fun _ => ⟨Nat.le_refl _, fun q => q.elim⟩⟩
  | some c =>
    obtain ⟨n1, n2, n3⟩ := n2_wf (b := b) hk
    have n4 := n3 (op_t hop)
    have q := h1 (tk_n2 b n k) out n1
    refine pb_pg q n2 (fun k' o' w1 w2 w3 _ => pg_wk (h2 k' (o' ++ [c]) w1) (by omega) ?_ (fun w => w.elim))
    rw [List.length_append]
    show o'.length + 1 + tk_s k ≤ _
    omega
theorem ps_pg {b : Nat → Int32} {n : Nat} : ∀ (f L a : Nat) (k : tk) (out : List Int32), tw n k → pg n (tk_s k) out.length (L < 10) (ps b n f L a k out) := by
  intro f
  induction f with
  | zero => intro L a k out hk; exact ⟨hk, Nat.le_refl _, fun q => absurd q (by intro w; cases w)⟩
  | succ f ih =>
    intro L a k out hk
    have down : ∀ L1 L2, L1 < 10 → pg n (tk_s k) out.length (L < 10) (pb (ps b n f L1 a k out) (ps b n f L2 a)) := by
      intro L1 L2 h1
      refine pb_pg (ih L1 a k out hk) (Nat.le_refl _) (fun k' o' w1 w2 w3 w4 => pg_wk (ih L2 a k' o' w1) w2 (by omega) (fun _ => Or.inr (w4 h1)))
    have fail : pg n (tk_s k) out.length (L < 10) (false, k, out) := ⟨hk, Nat.le_refl _, fun q => absurd q (by intro w; cases w)⟩
    have loop : ∀ L0 L1 L2, L1 < 10 → ¬L < 10 → pg n (tk_s k) out.length (L < 10) (ps_lp L0 k out b n (ps b n f L1 a) (ps b n f L2 a)) := by
      intro L0 L1 L2 h1 h2
      refine pg_wk (lp_pg hk (fun k o w => pg_wk (ih L1 a k o w) (Nat.le_refl _) (Nat.le_refl _) (fun _ => Or.inl h1)) (fun k o w => pg_wk (ih L2 a k o w) (Nat.le_refl _) (Nat.le_refl _) (fun q => q.elim))) (Nat.le_refl _) (Nat.le_refl _) (fun q => absurd q h2)
    obtain ⟨n1, n2, n3⟩ := n2_wf (b := b) hk
    have one : ∀ (c : Int32), tk_t k ≠ 0 → pg n (tk_s k) out.length (L < 10) (true, tk_n2 b n k, out ++ [c]) := by
      intro c h0
      refine ⟨n1, n2, fun _ => ⟨?_, fun _ => n3 h0⟩⟩
      have := n3 h0
      rw [List.length_append]
      show out.length + 1 + tk_s k ≤ out.length + tk_s (tk_n2 b n k)
      omega
    have pre : ∀ (L1 : Nat) (c : Int32), tk_t k ≠ 0 → pg n (tk_s k) out.length (L < 10) (pb (ps b n f L1 (a + 1) (tk_n2 b n k) out) (fun k' o' => (true, k', o' ++ [c]))) := by
      intro L1 c h0
      have h3 := n3 h0
      refine pb_pg (ih L1 (a + 1) (tk_n2 b n k) out n1) n2 (fun k' o' w1 w2 w3 w4 => ⟨w1, by show tk_s k ≤ tk_s k'; omega, fun _ => ⟨?_, fun _ => by show tk_s k < tk_s k'; omega⟩⟩)
      rw [List.length_append]
      show o'.length + 1 + tk_s k ≤ out.length + tk_s k'
      omega
    have stop : ∀ k', k' = 9 ∨ k' = 1 ∨ k' = 2 ∨ k' = 45 ∨ k' = 40 → (k' : Int32) ≠ 0 := by
      intro k' hq
      rcases hq with q | q | q | q | q <;> subst q <;> decide
    unfold ps
    by_cases q1 : L = 1
    · rw [if_pos q1]; exact down 2 11 (by decide)
    rw [if_neg q1]
    by_cases q2 : L = 2
    · rw [if_pos q2]; exact down 3 12 (by decide)
    rw [if_neg q2]
    by_cases q5 : L = 5
    · rw [if_pos q5]; exact down 6 15 (by decide)
    rw [if_neg q5]
    by_cases q6 : L = 6
    · rw [if_pos q6]; exact down 7 16 (by decide)
    rw [if_neg q6]
    by_cases q11 : L = 11
    · rw [if_pos q11]; exact loop 1 2 11 (by decide) (by omega)
    rw [if_neg q11]
    by_cases q12 : L = 12
    · rw [if_pos q12]; exact loop 2 3 12 (by decide) (by omega)
    rw [if_neg q12]
    by_cases q15 : L = 15
    · rw [if_pos q15]; exact loop 5 6 15 (by decide) (by omega)
    rw [if_neg q15]
    by_cases q16 : L = 16
    · rw [if_pos q16]; exact loop 6 7 16 (by decide) (by omega)
    rw [if_neg q16]
    by_cases q3 : L = 3
    · rw [if_pos q3]
      by_cases c9 : tk_t k = 9
      · rw [if_pos c9]
        by_cases ca : a < 5
        · rw [if_pos ca]; exact pre 3 12 (stop _ (Or.inl c9))
        · rw [if_neg ca]; exact fail
      · rw [if_neg c9]
        refine pb_pg (ih 5 a k out hk) (Nat.le_refl _) (fun k' o' w1 w2 w3 w4 => ?_)
        have w5 := w4 (by decide)
        obtain ⟨m1, m2, m3⟩ := n2_wf (b := b) w1
        have cmp : ∀ c : Int32, tk_t k' ≠ 0 → pg n (tk_s k) out.length (L < 10) (pb (ps b n f 5 a (tk_n2 b n k') o') (fun k2 o2 => (true, k2, o2 ++ [c]))) := by
          intro c h0
          have h3 := m3 h0
          refine pb_pg (ih 5 a (tk_n2 b n k') o' m1) (by omega) (fun k2 o2 u1 u2 u3 u4 => ⟨u1, by show tk_s k ≤ tk_s k2; omega, fun _ => ⟨?_, fun _ => by show tk_s k < tk_s k2; omega⟩⟩)
          rw [List.length_append]
          show o2.length + 1 + tk_s k ≤ out.length + tk_s k2
          omega
        by_cases c60 : tk_t k' = 60
        · rw [if_pos c60]; exact cmp 13 (by rw [c60]; decide)
        · rw [if_neg c60]
          by_cases c61 : tk_t k' = 61
          · rw [if_pos c61]; exact cmp 14 (by rw [c61]; decide)
          · rw [if_neg c61]
            exact ⟨w1, w2, fun _ => ⟨w3, fun _ => w5⟩⟩
    rw [if_neg q3]
    by_cases q7 : L = 7
    · rw [if_pos q7]
      by_cases c1 : tk_t k = 1
      · rw [if_pos c1]; exact one _ (by rw [c1]; decide)
      · rw [if_neg c1]
        by_cases c2 : tk_t k = 2
        · rw [if_pos c2]; exact one _ (by rw [c2]; decide)
        · rw [if_neg c2]
          by_cases c45 : tk_t k = 45
          · rw [if_pos c45]
            by_cases ca : a < 5
            · rw [if_pos ca]; exact pre 7 18 (by rw [c45]; decide)
            · rw [if_neg ca]; exact fail
          · rw [if_neg c45]
            by_cases c40 : tk_t k = 40
            · rw [if_pos c40]
              by_cases ca : a < 5
              · rw [if_pos ca]
                have h3 := n3 (by rw [c40]; decide)
                refine pb_pg (ih 1 (a + 1) (tk_n2 b n k) out n1) n2 (fun k' o' w1 w2 w3 w4 => ?_)
                obtain ⟨m1, m2, m3⟩ := n2_wf (b := b) w1
                by_cases c41 : tk_t k' = 41
                · rw [if_pos c41]
                  exact ⟨m1, by show tk_s k ≤ tk_s (tk_n2 b n k'); omega, fun _ => ⟨by show o'.length + tk_s k ≤ out.length + tk_s (tk_n2 b n k'); omega, fun _ => by show tk_s k < tk_s (tk_n2 b n k'); omega⟩⟩
                · rw [if_neg c41]
                  exact ⟨w1, by show tk_s k ≤ tk_s k'; omega, fun q => absurd q (by intro w; cases w)⟩
              · rw [if_neg ca]; exact fail
            · rw [if_neg c40]; exact fail
    rw [if_neg q7]
    exact fail

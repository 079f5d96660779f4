/-! ===== how many things the codes of a text lay on each other ===== -/
def dh : Nat → List Int32 → Nat
  | h, [] => h
  | h, c :: l => dh (pu_nx c h) l
def dok (M : Nat) : Nat → List Int32 → Prop
  | _, [] => True
  | h, c :: l => pu_ok c h ∧ pu_nx c h ≤ M ∧ dok M (pu_nx c h) l
theorem dh_ap : ∀ (l1 : List Int32) (h : Nat) (l2 : List Int32), dh h (l1 ++ l2) = dh (dh h l1) l2 := by
  intro l1
  induction l1 with
  | nil => intro h l2; rfl
  | cons c l ih => intro h l2; exact ih (pu_nx c h) l2
theorem dok_ap {M : Nat} : ∀ (l1 : List Int32) (h : Nat) (l2 : List Int32), dok M h l1 → dok M (dh h l1) l2 → dok M h (l1 ++ l2) := by
  intro l1
  induction l1 with
  | nil => intro h l2 _ h2; exact h2
  | cons c l ih => intro h l2 h1 h2; exact ⟨h1.1, h1.2.1, ih (pu_nx c h) l2 h1.2.2 h2⟩
def dg (B i : Nat) (out : List Int32) (r : tr) : Prop := r.1 = true → ∃ l, r.2.2 = out ++ l ∧ ∀ h M, h + B ≤ M → dok M (h + i) l ∧ dh (h + i) l = h + 1
def hh (L a : Nat) : Nat := lv L + 5 * (5 - a)
theorem dg_f {B i : Nat} {out out' : List Int32} {k : tk} : dg B i out (false, k, out') := fun q => absurd q Bool.false_ne_true
theorem dg_pb {B i : Nat} {out : List Int32} {r : tr} {g : tk → List Int32 → tr} (h : r.1 = true → dg B i out (g r.2.1 r.2.2)) : dg B i out (pb r g) := by
  unfold pb
  by_cases c : r.1 = true
  · rw [if_pos c]; exact h c
  · rw [if_neg c]; exact fun q => absurd q c
theorem op_ok {L : Nat} {t y : Int32} (h : ps_op L t = some y) : (y = 10 ∨ y = 11 ∨ y = 13 ∨ y = 14 ∨ y = 15 ∨ y = 16 ∨ y = 17) := by
  unfold ps_op at h
  by_cases c1 : L = 1 ∧ t = 7
  · rw [if_pos c1] at h; cases h; decide
  rw [if_neg c1] at h
  by_cases c2 : L = 2 ∧ t = 8
  · rw [if_pos c2] at h; cases h; decide
  rw [if_neg c2] at h
  by_cases c3 : L = 5 ∧ t = 43
  · rw [if_pos c3] at h; cases h; decide
  rw [if_neg c3] at h
  by_cases c4 : L = 5 ∧ t = 45
  · rw [if_pos c4] at h; cases h; decide
  rw [if_neg c4] at h
  by_cases c5 : L = 6 ∧ t = 42
  · rw [if_pos c5] at h; cases h; decide
  rw [if_neg c5] at h
  cases h
theorem nx_bin {y : Int32} {h : Nat} (hy : y = 10 ∨ y = 11 ∨ y = 13 ∨ y = 14 ∨ y = 15 ∨ y = 16 ∨ y = 17) : pu_ok y (h + 2) ∧ pu_nx y (h + 2) = h + 1 := by
  refine ⟨Or.inr (Or.inr (Or.inr ⟨hy, by omega⟩)), ?_⟩
  unfold pu_nx
  have h1 : ¬y < 6 := by rcases hy with e | e | e | e | e | e | e <;> subst e <;> decide
  have h2 : ¬(y = 12 ∨ y = 18) := by rcases hy with e | e | e | e | e | e | e <;> subst e <;> decide
  rw [if_neg h1, if_neg h2]
  rfl
theorem nx_one {y : Int32} {h : Nat} (hy : y = 12 ∨ y = 18) : pu_ok y (h + 1) ∧ pu_nx y (h + 1) = h + 1 := by
  refine ⟨Or.inr (Or.inr (Or.inl ⟨hy, by omega⟩)), ?_⟩
  unfold pu_nx
  have h1 : ¬y < 6 := by rcases hy with e | e <;> subst e <;> decide
  rw [if_neg h1, if_pos hy]
section DEP
variable {b : Nat → Int32} {n : Nat}
theorem dep : ∀ (f : Nat), (∀ L a k out, (L = 1 ∨ L = 2 ∨ L = 3 ∨ L = 5 ∨ L = 6 ∨ L = 7) → a ≤ 5 → tw n k → dg (hh L a) 0 out (ps b n f L a k out)) ∧ (∀ L Lb a k out, s2 L Lb → a ≤ 5 → tw n k → dg (hh L a) 1 out (ps b n f (10 + L) a k out)) := by
  intro f
  induction f with
  | zero => exact ⟨fun L a k out _ _ _ => dg_f, fun L Lb a k out _ _ _ => dg_f⟩
  | succ f ih =>
    obtain ⟨i1, i2⟩ := ih
    have inL : ∀ {L Lb : Nat}, s2 L Lb → (Lb = 1 ∨ Lb = 2 ∨ Lb = 3 ∨ Lb = 5 ∨ Lb = 6 ∨ Lb = 7) ∧ ∀ a, hh L a = hh Lb a + 1 := by
      intro L Lb hL
      rcases hL with ⟨e1, e2⟩ | ⟨e1, e2⟩ | ⟨e1, e2⟩ | ⟨e1, e2⟩ <;> subst e1 <;> subst e2
      · exact ⟨by decide, fun a => by show 6 + 5 * (5 - a) = 5 + 5 * (5 - a) + 1; omega⟩
      · exact ⟨by decide, fun a => by show 5 + 5 * (5 - a) = 4 + 5 * (5 - a) + 1; omega⟩
      · exact ⟨by decide, fun a => by show 3 + 5 * (5 - a) = 2 + 5 * (5 - a) + 1; omega⟩
      · exact ⟨by decide, fun a => by show 2 + 5 * (5 - a) = 1 + 5 * (5 - a) + 1; omega⟩
    have down : ∀ {L Lb : Nat} (a k out), s2 L Lb → a ≤ 5 → tw n k → dg (hh L a) 0 out (ps b n (f + 1) L a k out) := by
      intro L Lb a k out hL ha hw
      obtain ⟨q1, q2⟩ := inL hL
      rw [ps_d hL]
      refine dg_pb (fun r1 r2 => ?_)
      obtain ⟨l1, e1, p1⟩ := i1 Lb a k out q1 ha hw r1
      obtain ⟨l2, e2, p2⟩ := i2 L Lb a _ _ hL ha (ps_pg (b := b) f Lb a k out hw).1 r2
      refine ⟨l1 ++ l2, by rw [e2, e1, List.append_assoc], fun h M hM => ?_⟩
      obtain ⟨u1, u2⟩ := p1 h M (by have := q2 a; omega)
      obtain ⟨u3, u4⟩ := p2 h M hM
      exact ⟨dok_ap _ _ _ u1 (by rw [u2]; exact u3), by rw [dh_ap, u2]; exact u4⟩
    refine ⟨fun L a k out hL ha hw => ?_, fun L Lb a k out hL ha hw => ?_⟩
    · obtain ⟨n1, n2, n3⟩ := n2_wf (b := b) hw
      rcases hL with e | e | e | e | e | e <;> subst e
      · exact down a k out (Or.inl ⟨rfl, rfl⟩) ha hw
      · exact down a k out (Or.inr (Or.inl ⟨rfl, rfl⟩)) ha hw
      · have heq : ps b n (f + 1) 3 a k out = (if tk_t k = 9 then (if a < 5 then pb (ps b n f 3 (a + 1) (tk_n2 b n k) out) (fun k' o' => (true, k', o' ++ [12])) else (false, k, out)) else pb (ps b n f 5 a k out) (fun k' o' => if tk_t k' = 60 then pb (ps b n f 5 a (tk_n2 b n k') o') (fun k2 o2 => (true, k2, o2 ++ [13])) else if tk_t k' = 61 then pb (ps b n f 5 a (tk_n2 b n k') o') (fun k2 o2 => (true, k2, o2 ++ [14])) else (true, k', o'))) := rfl
        rw [heq]
        have e3 : hh 3 a = 4 + 5 * (5 - a) := rfl
        have e5 : hh 5 a = 3 + 5 * (5 - a) := rfl
        by_cases c9 : tk_t k = 9
        · rw [if_pos c9]
          by_cases ca : a < 5
          · rw [if_pos ca]
            refine dg_pb (fun r1 _ => ?_)
            obtain ⟨l1, e1, p1⟩ := i1 3 (a + 1) _ out (by decide) (by omega) n1 r1
            refine ⟨l1 ++ [12], by show _ ++ [12] = _; rw [e1, List.append_assoc], fun h M hM => ?_⟩
            obtain ⟨u1, u2⟩ := p1 h M (by show h + (4 + 5 * (5 - (a + 1))) ≤ M; omega)
            obtain ⟨v1, v2⟩ := nx_one (y := 12) (h := h) (Or.inl rfl)
            refine ⟨dok_ap _ _ _ u1 ?_, ?_⟩
            · rw [u2]; exact ⟨v1, by rw [v2]; omega, trivial⟩
            · rw [dh_ap, u2]; exact v2
          · rw [if_neg ca]; exact dg_f
        · rw [if_neg c9]
          refine dg_pb (fun r1 => ?_)
          obtain ⟨l1, e1, p1⟩ := i1 5 a k out (by decide) ha hw r1
          have g1 := (ps_pg (b := b) f 5 a k out hw).1
          obtain ⟨m1, m2, m3⟩ := n2_wf (b := b) g1
          have cmp : ∀ y : Int32, (y = 13 ∨ y = 14) → dg (hh 3 a) 0 out (pb (ps b n f 5 a (tk_n2 b n (ps b n f 5 a k out).2.1) (ps b n f 5 a k out).2.2) (fun k2 o2 => (true, k2, o2 ++ [y]))) := by
            intro y hy
            refine dg_pb (fun r2 _ => ?_)
            obtain ⟨l2, e2, p2⟩ := i1 5 a _ (ps b n f 5 a k out).2.2 (by decide) ha m1 r2
            refine ⟨l1 ++ (l2 ++ [y]), by show _ ++ [y] = _; rw [e2, e1, List.append_assoc, List.append_assoc], fun h M hM => ?_⟩
            obtain ⟨u1, u2⟩ := p1 h M (by omega)
            obtain ⟨u3, u4⟩ := p2 (h + 1) M (by omega)
            obtain ⟨v1, v2⟩ := nx_bin (y := y) (h := h) (by rcases hy with e | e <;> subst e <;> decide)
            refine ⟨dok_ap _ _ _ u1 ?_, ?_⟩
            · rw [u2]
              refine dok_ap _ _ _ u3 ?_
              rw [show dh (h + 1) l2 = h + 2 from u4]
              exact ⟨v1, by rw [v2]; omega, trivial⟩
            · rw [dh_ap, u2, dh_ap, show dh (h + 1) l2 = h + 2 from u4]; exact v2
          by_cases c60 : tk_t (ps b n f 5 a k out).2.1 = 60
          · rw [if_pos c60]; exact cmp 13 (Or.inl rfl)
          rw [if_neg c60]
          by_cases c61 : tk_t (ps b n f 5 a k out).2.1 = 61
          · rw [if_pos c61]; exact cmp 14 (Or.inr rfl)
          rw [if_neg c61]
          exact fun _ => ⟨l1, e1, fun h M hM => p1 h M (by omega)⟩
      · exact down a k out (Or.inr (Or.inr (Or.inl ⟨rfl, rfl⟩))) ha hw
      · exact down a k out (Or.inr (Or.inr (Or.inr ⟨rfl, rfl⟩))) ha hw
      · have heq : ps b n (f + 1) 7 a k out = (if tk_t k = 1 then (true, tk_n2 b n k, out ++ [-1 - tk_v k])
          else if tk_t k = 2 then (true, tk_n2 b n k, out ++ [tk_v k])
          else if tk_t k = 45 then (if a < 5 then pb (ps b n f 7 (a + 1) (tk_n2 b n k) out) (fun k' o' => (true, k', o' ++ [18])) else (false, k, out))
          else if tk_t k = 40 then (if a < 5 then pb (ps b n f 1 (a + 1) (tk_n2 b n k) out) (fun k' o' => if tk_t k' = 41 then (true, tk_n2 b n k', o') else (false, k', o')) else (false, k, out))
          else (false, k, out)) := rfl
        rw [heq]
        have e7 : hh 7 a = 1 + 5 * (5 - a) := rfl
        have leaf : ∀ c : Int32, (∀ h, pu_ok c h) → c < 6 → dg (hh 7 a) 0 out (true, tk_n2 b n k, out ++ [c]) := by
          intro c hc h6 _
          refine ⟨[c], rfl, fun h M hM => ?_⟩
          have hnx : pu_nx c (h + 0) = h + 1 := by unfold pu_nx; rw [if_pos h6]
          exact ⟨⟨hc _, by rw [hnx]; omega, trivial⟩, hnx⟩
        by_cases c1 : tk_t k = 1
        · rw [if_pos c1]
          obtain ⟨z, ez, hz1, hz2⟩ := hw.2.2.2.1 c1
          have hlt : -1 - tk_v k < 0 ∧ -10000 ≤ -1 - tk_v k := by
            rw [ez, Int32.lt_iff_toInt_lt, Int32.le_iff_toInt_le, Int32.toInt_sub, in_ti (by omega)]
            have e1 : (-1 : Int32).toInt = -1 := by decide
            have e2 : (0 : Int32).toInt = 0 := by decide
            have e3 : (-10000 : Int32).toInt = -10000 := by decide
            rw [e1, e2, e3, Int.bmod_eq_of_le (by omega) (by omega)]
            omega
          exact leaf _ (fun h => Or.inl hlt) (Int32.lt_trans hlt.1 (by decide))
        rw [if_neg c1]
        by_cases c2 : tk_t k = 2
        · rw [if_pos c2]
          obtain ⟨z, ez, hz1, hz2⟩ := hw.2.2.2.2 c2
          have hlt : 0 ≤ tk_v k ∧ tk_v k < 6 := by rw [ez]; exact ⟨in_ge0 (by omega), (in_lt (b := 6) (by omega) (by decide)).mpr (by omega)⟩
          exact leaf _ (fun h => Or.inr (Or.inl hlt)) hlt.2
        rw [if_neg c2]
        by_cases c45 : tk_t k = 45
        · rw [if_pos c45]
          by_cases ca : a < 5
          · rw [if_pos ca]
            refine dg_pb (fun r1 _ => ?_)
            obtain ⟨l1, e1, p1⟩ := i1 7 (a + 1) _ out (by decide) (by omega) n1 r1
            refine ⟨l1 ++ [18], by show _ ++ [18] = _; rw [e1, List.append_assoc], fun h M hM => ?_⟩
            obtain ⟨u1, u2⟩ := p1 h M (by show h + (1 + 5 * (5 - (a + 1))) ≤ M; omega)
            obtain ⟨v1, v2⟩ := nx_one (y := 18) (h := h) (Or.inr rfl)
            refine ⟨dok_ap _ _ _ u1 ?_, ?_⟩
            · rw [u2]; exact ⟨v1, by rw [v2]; omega, trivial⟩
            · rw [dh_ap, u2]; exact v2
          · rw [if_neg ca]; exact dg_f
        rw [if_neg c45]
        by_cases c40 : tk_t k = 40
        · rw [if_pos c40]
          by_cases ca : a < 5
          · rw [if_pos ca]
            refine dg_pb (fun r1 => ?_)
            obtain ⟨l1, e1, p1⟩ := i1 1 (a + 1) _ out (by decide) (by omega) n1 r1
            by_cases c41 : tk_t (ps b n f 1 (a + 1) (tk_n2 b n k) out).2.1 = 41
            · rw [if_pos c41]
              exact fun _ => ⟨l1, e1, fun h M hM => p1 h M (by show h + (6 + 5 * (5 - (a + 1))) ≤ M; omega)⟩
            · rw [if_neg c41]; exact dg_f
          · rw [if_neg ca]; exact dg_f
        rw [if_neg c40]
        exact dg_f
    · obtain ⟨q1, q2⟩ := inL hL
      obtain ⟨n1, n2, n3⟩ := n2_wf (b := b) hw
      rw [ps_l hL]
      unfold ps_lp
      cases hop : ps_op L (tk_t k) with
      | none => exact fun _ => ⟨[], (List.append_nil _).symm, fun h M hM => ⟨trivial, rfl⟩⟩
      | some y =>
        refine dg_pb (fun r1 r2 => ?_)
        obtain ⟨l1, e1, p1⟩ := i1 Lb a _ out q1 ha n1 r1
        obtain ⟨l2, e2, p2⟩ := i2 L Lb a _ _ hL ha (ps_pg (b := b) f Lb a _ out n1).1 r2
        refine ⟨l1 ++ ([y] ++ l2), by rw [e2, e1, List.append_assoc, List.append_assoc], fun h M hM => ?_⟩
        obtain ⟨u1, u2⟩ := p1 (h + 1) M (by have := q2 a; omega)
        obtain ⟨u3, u4⟩ := p2 h M hM
        obtain ⟨v1, v2⟩ := nx_bin (y := y) (h := h) (op_ok hop)
        have u2' : dh (h + 1) l1 = h + 2 := u2
        refine ⟨dok_ap _ _ _ u1 ?_, ?_⟩
        · rw [u2']
          exact ⟨v1, by rw [v2]; have := q2 a; omega, by rw [v2]; exact u3⟩
        · rw [dh_ap, u2']
          show dh (pu_nx y (h + 2)) l2 = h + 1
          rw [v2]
          exact u4
theorem dok_at {M : Nat} : ∀ (l : List Int32) (h : Nat), dok M h l → ∀ k, k < l.length → pu_ok (l.getD k 0) (dh h (l.take k)) ∧ dh h (l.take (k + 1)) = pu_nx (l.getD k 0) (dh h (l.take k)) ∧ dh h (l.take (k + 1)) ≤ M := by
  intro l
  induction l with
  | nil => intro h _ k hk; exact absurd hk (Nat.not_lt_zero _)
  | cons c l ih =>
    intro h hd k hk
    match k, hk with
    | 0, _ => exact ⟨hd.1, rfl, hd.2.1⟩
    | k + 1, hk => exact ih (pu_nx c h) hd.2.2 k (Nat.lt_of_succ_lt_succ hk)
/-- codes that were read are one thing -/
theorem wf_of {σ : ma_I} {row : Nat} {ou : List Int32} (hz : rz row ou σ) (hl : ou.length ≤ 160) (h1 : dok 40 0 ou) (h2 : dh 0 ou = 1) : pu_wf σ row := by
  have hk : ∀ m, m ≤ ou.length → pu_dk σ row m = dh 0 (ou.take m) := by
    intro m
    induction m with
    | zero => intro _; rfl
    | succ m ih =>
      intro hm
      show pu_nx (σ 50 0 (160 * row + m)) (pu_dk σ row m) = _
      rw [ih (by omega), hz.2 m (by omega), (dok_at ou 0 h1 m (by omega)).2.1]
  refine ⟨ou.length, hz.1, hl, ?_, fun k hk2 => ?_⟩
  · rw [hk _ (Nat.le_refl _), List.take_length]; exact h2
  · obtain ⟨d1, d2, d3⟩ := dok_at ou 0 h1 k hk2
    rw [hk k (by omega), hk (k + 1) (by omega), hz.2 k hk2]
    exact ⟨d1, d3⟩
theorem dep1 {k : tk} (hw : tw n k) (h : (ps b n (8 * n + 6) 1 0 k []).1 = true) : dok 40 0 (ps b n (8 * n + 6) 1 0 k []).2.2 ∧ dh 0 (ps b n (8 * n + 6) 1 0 k []).2.2 = 1 := by
  obtain ⟨l, e, p⟩ := (dep (b := b) (n := n) (8 * n + 6)).1 1 0 k [] (by decide) (by omega) hw h
  rw [e]
  exact p 0 40 (by decide)
end DEP

/-! ===== both ways of reading are the same ===== -/
def bd (L : Nat) : Nat := if L = 3 then 4 else if L = 7 then 8 else L
def sq (b : Nat → Int32) (n L : Nat) (s : List Int32) (a : Nat) (c : Bool) (cs : List Bool) (r R : tr) : Prop :=
  (r.1 = true → ∀ (v' : Bool) (x' : sx) (c' : Bool), sg L x' = sg L (s, a, r.2.2) → po L r.2.1 c' → (5 ≤ L → c' = c) → go b n false v' r.2.1 x' c' cs R) ∧ (¬r.1 = true → R = (false, r.2.1, []))
def sL (b : Nat → Int32) (n f L : Nat) : Prop := ∀ (a : Nat) (k : tk) (out s : List Int32) (c : Bool) (cs : List Bool) (v : Bool) (R : tr), 8 * (n - tk_s k) + lv L ≤ f → tw n k → tp (bd L) s → a ≤ 5 → (L ≤ 3 → v = true ∧ c = false) → (3 < L → tk_t k ≠ 9 ∨ v = false) → sq b n L s a c cs (ps b n f L a k out) R → go b n true v k (s, a, out) c cs R
def sM (b : Nat → Int32) (n f L Lb : Nat) : Prop := ∀ (a : Nat) (k : tk) (out s : List Int32) (c c0 : Bool) (cs : List Bool) (v : Bool) (x : sx) (R : tr), 8 * (n - tk_s k) + 1 ≤ f → tw n k → tp L s → a ≤ 5 → sg L x = (s, a, out) → po Lb k c0 → (5 ≤ L → c0 = c) → sq b n L s a c cs (ps b n f (10 + L) a k out) R → go b n false v k x c0 cs R
def s2 (L Lb : Nat) : Prop := (L = 1 ∧ Lb = 2) ∨ (L = 2 ∧ Lb = 3) ∨ (L = 5 ∧ Lb = 6) ∨ (L = 6 ∧ Lb = 7)
section SYB
variable {b : Nat → Int32} {n : Nat}
theorem op_y {L : Nat} {t y : Int32} (h : ps_op L t = some y) : bop t = some y ∧ rk y = L ∧ y ≠ 30 ∧ y ≠ 12 ∧ y ≠ 18 := by
  unfold ps_op at h
  by_cases c1 : L = 1 ∧ t = 7
  · rw [if_pos c1] at h
    cases h
    rw [c1.1, c1.2]
    exact ⟨by decide, by decide, by decide, by decide, by decide⟩
  rw [if_neg c1] at h
  by_cases c2 : L = 2 ∧ t = 8
  · rw [if_pos c2] at h
    cases h
    rw [c2.1, c2.2]
    exact ⟨by decide, by decide, by decide, by decide, by decide⟩
  rw [if_neg c2] at h
  by_cases c3 : L = 5 ∧ t = 43
  · rw [if_pos c3] at h
    cases h
    rw [c3.1, c3.2]
    exact ⟨by decide, by decide, by decide, by decide, by decide⟩
  rw [if_neg c3] at h
  by_cases c4 : L = 5 ∧ t = 45
  · rw [if_pos c4] at h
    cases h
    rw [c4.1, c4.2]
    exact ⟨by decide, by decide, by decide, by decide, by decide⟩
  rw [if_neg c4] at h
  by_cases c5 : L = 6 ∧ t = 42
  · rw [if_pos c5] at h
    cases h
    rw [c5.1, c5.2]
    exact ⟨by decide, by decide, by decide, by decide, by decide⟩
  rw [if_neg c5] at h
  cases h
theorem op_none {L : Nat} {t : Int32} (h : ps_op L t = none) : (L = 1 → t ≠ 7) ∧ (L = 2 → t ≠ 8) ∧ (L = 5 → t ≠ 43 ∧ t ≠ 45) ∧ (L = 6 → t ≠ 42) := by
  unfold ps_op at h
  by_cases c1 : L = 1 ∧ t = 7
  · rw [if_pos c1] at h; cases h
  rw [if_neg c1] at h
  by_cases c2 : L = 2 ∧ t = 8
  · rw [if_pos c2] at h; cases h
  rw [if_neg c2] at h
  by_cases c3 : L = 5 ∧ t = 43
  · rw [if_pos c3] at h; cases h
  rw [if_neg c3] at h
  by_cases c4 : L = 5 ∧ t = 45
  · rw [if_pos c4] at h; cases h
  rw [if_neg c4] at h
  by_cases c5 : L = 6 ∧ t = 42
  · rw [if_pos c5] at h; cases h
  exact ⟨fun e q => c1 ⟨e, q⟩, fun e q => c2 ⟨e, q⟩, fun e => ⟨fun q => c3 ⟨e, q⟩, fun q => c4 ⟨e, q⟩⟩, fun e q => c5 ⟨e, q⟩⟩
theorem po_dn {L Lb : Nat} {k : tk} {c : Bool} (hL : s2 L Lb) (h : po Lb k c) (hn : ps_op L (tk_t k) = none) : po L k c := by
  obtain ⟨p1, p2, p3, p4, p5⟩ := h
  obtain ⟨n1, n2, n3, n4⟩ := op_none hn
  rcases hL with ⟨e1, e2⟩ | ⟨e1, e2⟩ | ⟨e1, e2⟩ | ⟨e1, e2⟩ <;> subst e1 <;> subst e2
  · exact ⟨fun _ => n1 rfl, fun _ => p2 (by omega), fun _ => p3 (by omega), fun _ => p4 (by omega), fun _ => p5 (by omega)⟩
  · exact ⟨fun q => absurd q (by omega), fun _ => n2 rfl, fun _ => p3 (by omega), fun _ => p4 (by omega), fun _ => p5 (by omega)⟩
  · exact ⟨fun q => absurd q (by omega), fun q => absurd q (by omega), fun q => absurd q (by omega), fun _ => n3 rfl, fun _ => p5 (by omega)⟩
  · exact ⟨fun q => absurd q (by omega), fun q => absurd q (by omega), fun q => absurd q (by omega), fun q => absurd q (by omega), fun _ => n4 rfl⟩
theorem s2_b {L Lb : Nat} (hL : s2 L Lb) : L < Lb ∧ Lb ≤ bd Lb ∧ bd L = L ∧ lv Lb ≤ 5 ∧ lv Lb + 1 ≤ lv L ∧ L ≠ 4 ∧ (Lb ≤ 3 ↔ L ≤ 2) ∧ (5 ≤ Lb ↔ 5 ≤ L) ∧ (L ≤ 3 ↔ L ≤ 2) ∧ (3 < L → 5 ≤ L) := by
  rcases hL with ⟨e1, e2⟩ | ⟨e1, e2⟩ | ⟨e1, e2⟩ | ⟨e1, e2⟩ <;> subst e1 <;> subst e2 <;> decide
theorem ps_l {f L Lb a : Nat} {k : tk} {out : List Int32} (hL : s2 L Lb) : ps b n (f + 1) (10 + L) a k out = ps_lp L k out b n (ps b n f Lb a) (ps b n f (10 + L) a) := by
  rcases hL with ⟨e1, e2⟩ | ⟨e1, e2⟩ | ⟨e1, e2⟩ | ⟨e1, e2⟩ <;> subst e1 <;> subst e2 <;> rfl
theorem ps_d {f L Lb a : Nat} {k : tk} {out : List Int32} (hL : s2 L Lb) : ps b n (f + 1) L a k out = pb (ps b n f Lb a k out) (ps b n f (10 + L) a) := by
  rcases hL with ⟨e1, e2⟩ | ⟨e1, e2⟩ | ⟨e1, e2⟩ | ⟨e1, e2⟩ <;> subst e1 <;> subst e2 <;> rfl
theorem sM_step {f L Lb : Nat} (hL : s2 L Lb) (hb : sL b n f Lb) (hm : sM b n f L Lb) : sM b n (f + 1) L Lb := by
  intro a k out s c c0 cs v x R hfu hw htp ha hx hpo hcc hq
  obtain ⟨b1, b2, b3, b4, b5, b6, b7, b8, b9, b10⟩ := s2_b hL
  rw [ps_l hL] at hq
  unfold ps_lp at hq
  cases hop : ps_op L (tk_t k) with
  | none =>
    rw [hop] at hq
    exact hq.1 rfl v x c0 (by rw [hx]; exact (sg_tp htp).symm) (po_dn hL hpo hop) hcc
  | some y =>
    rw [hop] at hq
    dsimp only at hq
    obtain ⟨y1, y2, y3, y4, y5⟩ := op_y hop
    obtain ⟨n1, n2, n3⟩ := n2_wf (b := b) hw
    have n4 := n3 (op_t hop)
    have hs2 : tk_s (tk_n2 b n k) ≤ n := Nat.le_trans n1.1 n1.2.1
    refine go_bin y1 (fun q => b6 (by omega)) ?_
    rw [y2, hx]
    obtain ⟨g1, g2, g3⟩ := ps_pg (b := b) f Lb a (tk_n2 b n k) out n1
    have hs3 : tk_s (ps b n f Lb a (tk_n2 b n k) out).2.1 ≤ n := Nat.le_trans g1.1 g1.2.1
    refine hb a (tk_n2 b n k) out (y :: s) _ cs _ R (by omega) n1 (tp_cons (Or.inr (by omega))) ha (fun q => ⟨decide_eq_true (by omega), ?_⟩) (fun q => Or.inr (decide_eq_false (by omega))) ⟨fun r1 v' x' c' e1 e2 e3 => ?_, fun r1 => ?_⟩
    · rw [if_neg b6, if_pos (by omega)]
    · unfold pb at hq
      rw [if_pos r1] at hq
      refine hm a _ _ s c c' cs v' x' R (by omega) g1 htp ha ?_ e2 (fun q => ?_) hq
      · rw [← sg_sg (Nat.le_of_lt b1) x', e1, sg_tp (tp_cons (Or.inr (by omega))), sg_pop y3 (by omega), if_neg (fun q => q.elim y4 y5), sg_tp htp]
      · rw [e3 (b8.mpr q), if_neg b6, if_neg (by omega)]
        exact hcc q
    · unfold pb at hq
      rw [if_neg r1] at hq
      exact hq.2 r1
theorem sL_step {f L Lb : Nat} (hL : s2 L Lb) (hb : sL b n f Lb) (hm : sM b n f L Lb) : sL b n (f + 1) L := by
  intro a k out s c cs v R hfu hw htp ha hv1 hv2 hq
  obtain ⟨b1, b2, b3, b4, b5, b6, b7, b8, b9, b10⟩ := s2_b hL
  rw [ps_d hL] at hq
  rw [b3] at htp
  obtain ⟨g1, g2, g3⟩ := ps_pg (b := b) f Lb a k out hw
  have hs3 : tk_s (ps b n f Lb a k out).2.1 ≤ n := Nat.le_trans g1.1 g1.2.1
  have hLb : Lb < 10 := by rcases hL with ⟨e1, e2⟩ | ⟨e1, e2⟩ | ⟨e1, e2⟩ | ⟨e1, e2⟩ <;> omega
  refine hb a k out s c cs v R (by omega) hw (tp_mono htp (by omega)) ha (fun q => hv1 (by omega)) (fun q => hv2 (by omega)) ⟨fun r1 v' x' c' e1 e2 e3 => ?_, fun r1 => ?_⟩
  · unfold pb at hq
    rw [if_pos r1] at hq
    have g4 := (g3 r1).2 hLb
    have := lv_pos (L := Lb)
    refine hm a _ _ s c c' cs v' x' R (by omega) g1 htp ha ?_ e2 (fun q => e3 (b8.mpr q)) hq
    rw [← sg_sg (Nat.le_of_lt b1) x', e1, sg_sg (Nat.le_of_lt b1), sg_tp htp]
  · unfold pb at hq
    rw [if_neg r1] at hq
    exact hq.2 r1
theorem s3_step {f : Nat} (h3 : sL b n f 3) (h5 : sL b n f 5) : sL b n (f + 1) 3 := by
  intro a k out s c cs v R hfu hw htp ha hv1 hv2 hq
  have htp4 : tp 4 s := htp
  obtain ⟨hv, hc⟩ := hv1 (Nat.le_refl _)
  have hfu' : 8 * (n - tk_s k) + 4 ≤ f + 1 := hfu
  have heq : ps b n (f + 1) 3 a k out = (if tk_t k = 9 then (if a < 5 then pb (ps b n f 3 (a + 1) (tk_n2 b n k) out) (fun k' o' => (true, k', o' ++ [12])) else (false, k, out)) else pb (ps b n f 5 a k out) (fun k' o' => if tk_t k' = 60 then pb (ps b n f 5 a (tk_n2 b n k') o') (fun k2 o2 => (true, k2, o2 ++ [13])) else if tk_t k' = 61 then pb (ps b n f 5 a (tk_n2 b n k') o') (fun k2 o2 => (true, k2, o2 ++ [14])) else (true, k', o'))) := rfl
  rw [heq] at hq
  by_cases c9 : tk_t k = 9
  · rw [if_pos c9] at hq
    obtain ⟨n1, n2, n3⟩ := n2_wf (b := b) hw
    have n4 := n3 (by rw [c9]; decide)
    have hs2 : tk_s (tk_n2 b n k) ≤ n := Nat.le_trans n1.1 n1.2.1
    by_cases ca : a < 5
    · rw [if_pos ca] at hq
      refine go_not c9 hv (by omega) ?_
      refine h3 (a + 1) (tk_n2 b n k) out (12 :: s) c cs true R (by show 8 * (n - tk_s (tk_n2 b n k)) + 4 ≤ f; omega) n1 (tp_cons (Or.inr (by decide))) (by omega) (fun _ => ⟨rfl, hc⟩) (fun q => absurd q (by omega)) ⟨fun r1 v' x' c' e1 e2 e3 => ?_, fun r1 => ?_⟩
      · unfold pb at hq
        rw [if_pos r1] at hq
        refine hq.1 rfl v' x' c' ?_ e2 (fun q => absurd q (by omega))
        rw [e1, sg_pop (by decide) (by decide), if_pos (Or.inl rfl)]
        rfl
      · unfold pb at hq
        rw [if_neg r1] at hq
        exact hq.2 r1
    · rw [if_neg ca] at hq
      rw [hq.2 Bool.false_ne_true]
      exact go_opf (by rw [c9]; decide) (by rw [c9]; decide) (Or.inl (by omega))
  · rw [if_neg c9] at hq
    obtain ⟨g1, g2, g3⟩ := ps_pg (b := b) f 5 a k out hw
    have hs3 : tk_s (ps b n f 5 a k out).2.1 ≤ n := Nat.le_trans g1.1 g1.2.1
    refine h5 a k out s c cs v R (by show 8 * (n - tk_s k) + 3 ≤ f; omega) hw (tp_mono htp4 (by decide)) ha (fun q => absurd q (by omega)) (fun _ => Or.inl c9) ⟨fun r1 v' x' c' e1 e2 e3 => ?_, fun r1 => ?_⟩
    · unfold pb at hq
      rw [if_pos r1] at hq
      have g4 := (g3 r1).2 (by decide)
      have hc' : c' = false := by rw [e3 (by omega)]; exact hc
      have e4 : sg 4 x' = (s, a, (ps b n f 5 a k out).2.2) := by rw [← sg_sg (show 4 ≤ 5 by omega) x', e1, sg_sg (by omega), sg_tp htp4]
      obtain ⟨m1, m2, m3⟩ := n2_wf (b := b) g1
      have hs4 : tk_s (tk_n2 b n (ps b n f 5 a k out).2.1) ≤ n := Nat.le_trans m1.1 m1.2.1
      have cmp : ∀ y : Int32, bop (tk_t (ps b n f 5 a k out).2.1) = some y → rk y = 4 → y ≠ 30 → ¬(y = 12 ∨ y = 18) → tk_t (ps b n f 5 a k out).2.1 ≠ 0 → sq b n 3 s a c cs (pb (ps b n f 5 a (tk_n2 b n (ps b n f 5 a k out).2.1) (ps b n f 5 a k out).2.2) (fun k2 o2 => (true, k2, o2 ++ [y]))) R → go b n false v' (ps b n f 5 a k out).2.1 x' c' cs R := by
        intro y hb1 hrk hy1 hy2 h0 hq2
        have m4 := m3 h0
        refine go_bin hb1 (fun q => by rw [hc'] at q; exact absurd q.2 (by decide)) ?_
        rw [hrk, e4]
        refine h5 a _ _ (y :: s) true cs _ R (by show 8 * (n - tk_s (tk_n2 b n (ps b n f 5 a k out).2.1)) + 3 ≤ f; omega) m1 (tp_cons (Or.inr (by show rk y < 5; omega))) ha (fun q => absurd q (by omega)) (fun _ => Or.inr (by decide)) ⟨fun r2 v2 x2 c2 e5 e6 e7 => ?_, fun r2 => ?_⟩
        · unfold pb at hq2
          rw [if_pos r2] at hq2
          refine hq2.1 rfl v2 x2 c2 ?_ ?_ (fun q => absurd q (by omega))
          · rw [← sg_sg (show 3 ≤ 5 by omega) x2, e5, sg_sg (by omega), sg_pop hy1 (by omega), if_neg hy2]
          · exact ⟨fun q => absurd q (by omega), fun q => absurd q (by omega), fun _ _ => e7 (by omega), fun _ => e6.2.2.2.1 (by omega), fun _ => e6.2.2.2.2 (by omega)⟩
        · unfold pb at hq2
          rw [if_neg r2] at hq2
          exact hq2.2 r2
      dsimp only at hq
      by_cases c60 : tk_t (ps b n f 5 a k out).2.1 = 60
      · rw [if_pos c60] at hq
        exact cmp 13 (by rw [c60]; decide) (by decide) (by decide) (by decide) (by rw [c60]; decide) hq
      rw [if_neg c60] at hq
      by_cases c61 : tk_t (ps b n f 5 a k out).2.1 = 61
      · rw [if_pos c61] at hq
        exact cmp 14 (by rw [c61]; decide) (by decide) (by decide) (by decide) (by rw [c61]; decide) hq
      rw [if_neg c61] at hq
      refine hq.1 rfl v' x' c' ?_ ⟨fun q => absurd q (by omega), fun q => absurd q (by omega), fun _ q => absurd q (fun w => w.elim c60 c61), fun _ => e2.2.2.2.1 (by omega), fun _ => e2.2.2.2.2 (by omega)⟩ (fun q => absurd q (by omega))
      rw [← sg_sg (show 3 ≤ 4 by omega) x', e4]
    · unfold pb at hq
      rw [if_neg r1] at hq
      exact hq.2 r1
theorem s7_step {f : Nat} (h7 : sL b n f 7) (h1 : sL b n f 1) : sL b n (f + 1) 7 := by
  intro a k out s c cs v R hfu hw htp ha hv1 hv2 hq
  have hfu' : 8 * (n - tk_s k) + 1 ≤ f + 1 := hfu
  have hv := hv2 (by omega)
  obtain ⟨n1, n2, n3⟩ := n2_wf (b := b) hw
  have hs2 : tk_s (tk_n2 b n k) ≤ n := Nat.le_trans n1.1 n1.2.1
  have po7 : ∀ (k' : tk) (c' : Bool), po 7 k' c' := fun k' c' => ⟨fun q => absurd q (by omega), fun q => absurd q (by omega), fun q => absurd q (by omega), fun q => absurd q (by omega), fun q => absurd q (by omega)⟩
  have heq : ps b n (f + 1) 7 a k out = (if tk_t k = 1 then (true, tk_n2 b n k, out ++ [-1 - tk_v k])
      else if tk_t k = 2 then (true, tk_n2 b n k, out ++ [tk_v k])
      else if tk_t k = 45 then (if a < 5 then pb (ps b n f 7 (a + 1) (tk_n2 b n k) out) (fun k' o' => (true, k', o' ++ [18])) else (false, k, out))
      else if tk_t k = 40 then (if a < 5 then pb (ps b n f 1 (a + 1) (tk_n2 b n k) out) (fun k' o' => if tk_t k' = 41 then (true, tk_n2 b n k', o') else (false, k', o')) else (false, k, out))
      else (false, k, out)) := rfl
  rw [heq] at hq
  by_cases c1 : tk_t k = 1
  · rw [if_pos c1] at hq
    exact go_num c1 (hq.1 rfl _ _ _ (sg_sg (Nat.le_refl _) _) (po7 _ _) (fun _ => rfl))
  rw [if_neg c1] at hq
  by_cases c2 : tk_t k = 2
  · rw [if_pos c2] at hq
    exact go_nam c2 (hq.1 rfl _ _ _ (sg_sg (Nat.le_refl _) _) (po7 _ _) (fun _ => rfl))
  rw [if_neg c2] at hq
  by_cases c45 : tk_t k = 45
  · rw [if_pos c45] at hq
    have n4 := n3 (by rw [c45]; decide)
    by_cases ca : a < 5
    · rw [if_pos ca] at hq
      refine go_min c45 (by omega) ?_
      refine h7 (a + 1) (tk_n2 b n k) out (18 :: s) c cs false R (by show 8 * (n - tk_s (tk_n2 b n k)) + 1 ≤ f; omega) n1 (tp_cons (Or.inr (by decide))) (by omega) (fun q => absurd q (by omega)) (fun _ => Or.inr rfl) ⟨fun r1 v' x' c' e1 e2 e3 => ?_, fun r1 => ?_⟩
      · unfold pb at hq
        rw [if_pos r1] at hq
        refine hq.1 rfl v' x' c' ?_ e2 e3
        rw [e1, sg_pop (by decide) (by decide), if_pos (Or.inr rfl)]
        rfl
      · unfold pb at hq
        rw [if_neg r1] at hq
        exact hq.2 r1
    · rw [if_neg ca] at hq
      rw [hq.2 Bool.false_ne_true]
      exact go_opf c1 c2 (Or.inl (by omega))
  rw [if_neg c45] at hq
  by_cases c40 : tk_t k = 40
  · rw [if_pos c40] at hq
    have n4 := n3 (by rw [c40]; decide)
    by_cases ca : a < 5
    · rw [if_pos ca] at hq
      refine go_par c40 (by omega) ?_
      refine h1 (a + 1) (tk_n2 b n k) out (30 :: s) false (c :: cs) true R (by show 8 * (n - tk_s (tk_n2 b n k)) + 6 ≤ f; omega) n1 (tp_cons (Or.inl rfl)) (by omega) (fun _ => ⟨rfl, rfl⟩) (fun q => absurd q (by omega)) ⟨fun r1 v' x' c' e1 e2 e3 => ?_, fun r1 => ?_⟩
      · unfold pb at hq
        rw [if_pos r1] at hq
        dsimp only at hq
        by_cases c41 : tk_t (ps b n f 1 (a + 1) (tk_n2 b n k) out).2.1 = 41
        · rw [if_pos c41] at hq
          refine go_cls c41 (e1.trans (sg_tp (tp_cons (Or.inl rfl)))) ?_
          exact hq.1 rfl _ _ _ (sg_sg (Nat.le_refl _) _) (po7 _ _) (fun _ => rfl)
        · rw [if_neg c41] at hq
          rw [hq.2 Bool.false_ne_true]
          exact go_ref e2 (fun q => absurd q.2 (List.cons_ne_nil _ _)) (Or.inl c41)
      · unfold pb at hq
        rw [if_neg r1] at hq
        exact hq.2 r1
    · rw [if_neg ca] at hq
      rw [hq.2 Bool.false_ne_true]
      exact go_opf c1 c2 (Or.inl (by omega))
  rw [if_neg c40] at hq
  rw [hq.2 Bool.false_ne_true]
  exact go_opf c1 c2 (Or.inr ⟨c40, c45, fun q => hv.elim (fun w => w q.1) (fun w => by rw [w] at q; exact absurd q.2 (by decide))⟩)
theorem syk : ∀ f, sL b n f 1 ∧ sL b n f 2 ∧ sL b n f 3 ∧ sL b n f 5 ∧ sL b n f 6 ∧ sL b n f 7 ∧ sM b n f 1 2 ∧ sM b n f 2 3 ∧ sM b n f 5 6 ∧ sM b n f 6 7 := by
  intro f
  induction f with
  | zero =>
    have hl : ∀ L, sL b n 0 L := by
      intro L a k out s c cs v R hfu
      have := lv_pos (L := L)
      omega
    have hm : ∀ L Lb, sM b n 0 L Lb := by
      intro L Lb a k out s c c0 cs v x R hfu
      omega
    exact ⟨hl 1, hl 2, hl 3, hl 5, hl 6, hl 7, hm 1 2, hm 2 3, hm 5 6, hm 6 7⟩
  | succ f ih =>
    obtain ⟨i1, i2, i3, i5, i6, i7, j1, j2, j5, j6⟩ := ih
    have t1 : s2 1 2 := Or.inl ⟨rfl, rfl⟩
    have t2 : s2 2 3 := Or.inr (Or.inl ⟨rfl, rfl⟩)
    have t5 : s2 5 6 := Or.inr (Or.inr (Or.inl ⟨rfl, rfl⟩))
    have t6 : s2 6 7 := Or.inr (Or.inr (Or.inr ⟨rfl, rfl⟩))
    exact ⟨sL_step t1 i2 j1, sL_step t2 i3 j2, s3_step i3 i5, sL_step t5 i6 j5, sL_step t6 i7 j6, s7_step i7 i1, sM_step t1 i2 j1, sM_step t2 i3 j2, sM_step t5 i6 j5, sM_step t6 i7 j6⟩
/-- a whole part -/
theorem sy_all {k : tk} (hw : tw n k) : go b n true true k ([], 0, []) false [] (if (ps b n (8 * n + 6) 1 0 k []).1 = true ∧ tk_t (ps b n (8 * n + 6) 1 0 k []).2.1 = 59 then (true, (ps b n (8 * n + 6) 1 0 k []).2.1, (ps b n (8 * n + 6) 1 0 k []).2.2) else (false, (ps b n (8 * n + 6) 1 0 k []).2.1, [])) := by
  have hnil : tp 1 ([] : List Int32) := fun c s' e => by cases e
  refine (syk (b := b) (n := n) (8 * n + 6)).1 0 k [] [] false [] true _ (by show 8 * (n - tk_s k) + 6 ≤ _; omega) hw hnil (by omega) (fun _ => ⟨rfl, rfl⟩) (fun q => absurd q (by omega)) ⟨fun r1 v' x' c' e1 e2 e3 => ?_, fun r1 => ?_⟩
  · by_cases c59 : tk_t (ps b n (8 * n + 6) 1 0 k []).2.1 = 59
    · rw [if_pos ⟨r1, c59⟩]
      have h := go_end (b := b) (n := n) (v := v') (x := x') (c := c') c59
      rw [e1, sg_tp hnil] at h
      exact h
    · rw [if_neg (fun q => c59 q.2)]
      exact go_ref e2 (fun q => c59 q.1) (Or.inr rfl)
  · rw [if_neg (fun q => r1 q.1)]
end SYB

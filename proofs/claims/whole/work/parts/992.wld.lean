/-! ===== the world with and without the script ===== -/
def ag (L : Nat) (xs : Nat → Int32) (M : ma_M) : ma_M := (fun g => if g = 1 then 1 else M.1 g, fun g i j => if g = 1 then lw_I0 L xs 1 i j else M.2.1 g i j, M.2.2)
theorem ag_0 {L : Nat} {xs : Nat → Int32} : ag L xs cn_M0 = lw_M0 L xs := by
  have h1 : (fun g => if g = 1 then 1 else cn_n g) = lw_n := by
    funext g
    match g with
    | 0 => rfl
    | 1 => rfl
    | 2 => rfl
    | 3 => rfl
    | g + 4 =>
      show (if g + 4 = 1 then 1 else ([0, 0, 13, 13] : List Nat).getD (g + 4) 0) = ([0, 1, 13, 13] : List Nat).getD (g + 4) 0
      rw [if_neg (by omega)]
      rfl
  have h2 : (fun g i j => if g = 1 then lw_I0 L xs 1 i j else lw_I0 0 (fun _ => 0) g i j) = lw_I0 L xs := by
    funext g i j
    match g with
    | 0 => rfl
    | 1 => rfl
    | 2 => rfl
    | 3 => rfl
    | g + 4 => rw [if_neg (by omega)]; rfl
  show ((fun g => if g = 1 then 1 else cn_n g), (fun g i j => if g = 1 then lw_I0 L xs 1 i j else lw_I0 0 (fun _ => 0) g i j), (fun _ _ _ => (0, 0))) = (lw_n, lw_I0 L xs, fun _ _ _ => (0, 0))
  rw [h1, h2]
theorem ag_mk {L : Nat} {xs : Nat → Int32} {M : ma_M} {g : Nat} (hg : g ≠ 1) : ma_mk (ag L xs M) g = ag L xs (ma_mk M g) := by
  have e : (ag L xs M).1 g = M.1 g := if_neg hg
  unfold ma_mk
  rw [e]
  have h1 : (fun h => if h = g then M.1 g + 1 else (ag L xs M).1 h) = (fun h => if h = 1 then 1 else if h = g then M.1 g + 1 else M.1 h) := by
    funext h
    show (if h = g then M.1 g + 1 else if h = 1 then 1 else M.1 h) = _
    by_cases e1 : h = g
    · rw [if_pos e1, if_neg (by omega), if_pos e1]
    · rw [if_neg e1]
      by_cases e2 : h = 1
      · rw [if_pos e2, if_pos e2]
      · rw [if_neg e2, if_neg e2, if_neg e1]
  have h2 : (fun x y z => if x = g then if y = M.1 g then 0 else (ag L xs M).2.1 x y z else (ag L xs M).2.1 x y z) = (fun x y z => if x = 1 then lw_I0 L xs 1 y z else if x = g then if y = M.1 g then 0 else M.2.1 x y z else M.2.1 x y z) := by
    funext x y z
    show (if x = g then if y = M.1 g then 0 else (if x = 1 then lw_I0 L xs 1 y z else M.2.1 x y z) else (if x = 1 then lw_I0 L xs 1 y z else M.2.1 x y z)) = _
    by_cases e1 : x = g
    · have e2 : x ≠ 1 := by omega
      rw [if_pos e1, if_neg e2, if_neg e2, if_pos e1]
    · rw [if_neg e1]
      by_cases e2 : x = 1
      · rw [if_pos e2, if_pos e2]
      · rw [if_neg e2, if_neg e2, if_neg e1]
  rw [h1, h2]
  rfl
section WLD
variable {p : Program} {l : Launch} {e : Env} {R : Room} {s : State} {m : MethodId} {args : Array Value} {below : List Frame} {meth : Method} {cd : Code} {H H' : Heap} {Q : State → Prop}
variable {s0 : State} {a0 : Array Value} {dC : Nat → ClassId} {dI : Nat → Nat → Nat} {adK adV : Nat → Nat} {ov : Value} {A A' : Nat → Nat → Nat} {M M' M2 : ma_M} {L : Nat} {xs : Nat → Int32}
theorem ln_g {M M' : ma_M} {g i : Nat} (hg : g ≠ 1) : ma_len M g i = ma_len M' g i := by
  unfold ma_len
  rw [sd_nb hg, cond_false, cond_false]
theorem W_drop (h : sd_W s0 dC dI adK adV ov A (ag L xs M) H) (h1 : M.1 1 = 0) (h4 : ∀ g i j, i < M.1 g → sd_rf g j = true → (M.2.2 g i j).1 ≠ 1) : sd_W s0 dC dI adK adV ov A M H := by
  obtain ⟨w1, w2, w3, w4, w5, w6, w7, w8, w9, w10⟩ := h
  have hn : ∀ g i, i < M.1 g → g ≠ 1 ∧ i < (ag L xs M).1 g := by
    intro g i hi
    have hg : g ≠ 1 := fun e => by rw [e, h1] at hi; exact absurd hi (Nat.not_lt_zero _)
    exact ⟨hg, by show i < if g = 1 then 1 else M.1 g; rw [if_neg hg]; exact hi⟩
  have hsl : ∀ g i, g ≠ 1 → sd_slot A ov M g i = sd_slot A ov (ag L xs M) g i := by
    intro g i hg
    funext j
    show (bif sd_rf g j then sd_r A ov (M.2.2 g i j) else .int (M.2.1 g i j)) = (bif sd_rf g j then sd_r A ov (M.2.2 g i j) else .int (if g = 1 then lw_I0 L xs 1 i j else M.2.1 g i j))
    rw [if_neg hg]
  have hln : ∀ g i, g ≠ 1 → ma_len M g i = ma_len (ag L xs M) g i := by
    intro g i hg
    exact ln_g hg
  refine ⟨fun g i hi h2 => ?_, fun g i hi => w2 g i (hn g i hi).2, fun g i h k a1 a2 a3 a4 e => w3 g i h k a1 a2 (hn g i a3).2 (hn h k a4).2 e, fun g i j hi hj => ?_, w5, w6, w7, fun g hg => ?_, w9, w10⟩
  · exact sd_at_keep (w1 g i (hn g i hi).2 h2) (hsl g i (hn g i hi).1) (hln g i (hn g i hi).1) rfl
  · have h5 := h4 g i j hi hj
    rcases w4 g i j (hn g i hi).2 hj with q | q | q
    · exact Or.inl q
    · exact Or.inr (Or.inl q)
    · refine Or.inr (Or.inr ?_)
      have q' : (M.2.2 g i j).2 < if (M.2.2 g i j).1 = 1 then 1 else M.1 (M.2.2 g i j).1 := q
      rw [if_neg h5] at q'
      exact q'
  · by_cases e : g = 1
    · rw [e]; exact h1
    · have := w8 g hg
      have q' : (if g = 1 then 1 else M.1 g) = 0 := this
      rw [if_neg e] at q'
      exact q'
theorem W_add (h0 : sd_W s0 dC dI adK adV ov A (ag L xs M) H) (h : sd_W s0 dC dI adK adV ov A' M' H') (h1 : M'.1 1 = 0) (hc : ∀ g, (ma_gk g = 0 → M'.1 g = 0) → M2.1 g = if g = 1 then 1 else M'.1 g)
    (hI : ∀ g i j, g ≠ 1 → M2.2.1 g i j = M'.2.1 g i j) (hI1 : ∀ i j, M2.2.1 1 i j = lw_I0 L xs 1 i j) (hR : ∀ g i j, i < M'.1 g → sd_rf g j = true → M2.2.2 g i j = M'.2.2 g i j) :
    sd_W s0 dC dI adK adV ov (fun g i => if g = 1 then A 1 i else A' g i) M2 H' := by
  obtain ⟨v1, v2, v3, v4, v5, v6, v7, v8, v9, v10⟩ := h0
  obtain ⟨w1, w2, w3, w4, w5, w6, w7, w8, w9, w10⟩ := h
  have hcn : ∀ g, M2.1 g = if g = 1 then 1 else M'.1 g := fun g => hc g (w8 g)
  have hv : ∀ g i, i < M2.1 g → (g = 1 ∧ i = 0) ∨ (g ≠ 1 ∧ i < M'.1 g) := by
    intro g i hi
    rw [hcn] at hi
    by_cases e : g = 1
    · rw [if_pos e] at hi; exact Or.inl ⟨e, by omega⟩
    · rw [if_neg e] at hi; exact Or.inr ⟨e, hi⟩
  have hA : ∀ g i, g ≠ 1 → (fun g i => if g = 1 then A 1 i else A' g i) g i = A' g i := fun g i hg => if_neg hg
  have ok1 : ∀ q : Nat × Nat, sd_ok M' q → q.1 ≠ 1 := by
    intro q hq e
    rcases hq with w | w | w
    · omega
    · omega
    · rw [e, h1] at w; exact absurd w (Nat.not_lt_zero _)
  have hsl : ∀ g i, g ≠ 1 → i < M'.1 g → sd_slot (fun g i => if g = 1 then A 1 i else A' g i) ov M2 g i = sd_slot A' ov M' g i := by
    intro g i hg hi
    funext j
    unfold sd_slot
    cases hr : sd_rf g j with
    | false =>
      rw [cond_false, cond_false, hI g i j hg]
    | true =>
      rw [cond_true, cond_true, hR g i j hi hr]
      have := ok1 _ (w4 g i j hi hr)
      unfold sd_r
      rw [hA _ _ this]
  have hb : A 1 0 < s0.heap.size := (v2 1 0 (by show 0 < (if (1 : Nat) = 1 then 1 else M.1 1); rw [if_pos rfl]; omega)).2.2 (by omega)
  refine ⟨fun g i hi h2 => ?_, fun g i hi => ?_, fun g i h k a1 a2 a3 a4 e => ?_, fun g i j hi hj => ?_, w5, w6, fun i hi => ?_, fun g hg => ?_, ?_, ?_⟩
  · rcases hv g i hi with ⟨rfl, rfl⟩ | ⟨hg, hi'⟩
    · refine sd_at_keep2 (v1 1 0 (by show 0 < (if (1 : Nat) = 1 then 1 else M.1 1); rw [if_pos rfl]; omega) (by omega)) rfl ?_ ?_ ?_
      · funext j
        have hr : sd_rf 1 j = false := sd_rf_low (by decide)
        unfold sd_slot
        rw [hr, cond_false, cond_false, hI1]
        rfl
      · show (M2.2.1 1 1 0).toNatClampNeg = (lw_I0 L xs 1 1 0).toNatClampNeg
        rw [hI1]
      · rw [w5 _ hb, v5 _ hb]
    · have hl : ma_len M2 g i = ma_len M' g i := ln_g hg
      exact sd_at_keep2 (w1 g i hi' h2) (hA g i hg) (hsl g i hg hi') hl rfl
  · rcases hv g i hi with ⟨rfl, rfl⟩ | ⟨hg, hi'⟩
    · exact ⟨Nat.lt_of_lt_of_le hb w6, fun h => absurd h (by omega), fun _ => hb⟩
    · rw [hA g i hg]; exact w2 g i hi'
  · rcases hv g i a3 with ⟨e1, -⟩ | ⟨hg, hi'⟩
    · omega
    · rcases hv h k a4 with ⟨e2, -⟩ | ⟨hh, hk'⟩
      · omega
      · rw [hA g i hg, hA h k hh] at e
        exact w3 g i h k a1 a2 hi' hk' e
  · rcases hv g i hi with ⟨rfl, rfl⟩ | ⟨hg, hi'⟩
    · have hr : sd_rf 1 j = false := sd_rf_low (by decide)
      rw [hr] at hj
      cases hj
    · rw [hR g i j hi' hj]
      have h5 := w4 g i j hi' hj
      have h6 := ok1 _ h5
      rcases h5 with q | q | q
      · exact Or.inl q
      · exact Or.inr (Or.inl q)
      · exact Or.inr (Or.inr (by rw [hcn, if_neg h6]; exact q))
  · exact w7 i hi
  · have e : g ≠ 1 := fun e => by rw [e] at hg; exact absurd hg (by decide)
    rw [hcn, if_neg e]
    exact w8 g hg
  · rw [hcn]; exact w9
  · rw [hcn]; exact w10
/-- a run without the script is one with it -/
theorem T_tr {d y : Nat} {as : List ma_V} (T : sd_T l s0 dC dI adK adV ov d y (ma_ini y as M) none M') (h1 : M.1 1 = 0) (h4 : ∀ g i j, i < M.1 g → sd_rf g j = true → (M.2.2 g i j).1 ≠ 1) (hvl : sd_vl M (ma_ini y as M).2.1) (h1' : M'.1 1 = 0) (hc : ∀ g, (ma_gk g = 0 → M'.1 g = 0) → M2.1 g = if g = 1 then 1 else M'.1 g)
    (hI : ∀ g i j, g ≠ 1 → M2.2.1 g i j = M'.2.1 g i j) (hI1 : ∀ i j, M2.2.1 1 i j = lw_I0 L xs 1 i j) (hR : ∀ g i j, i < M'.1 g → sd_rf g j = true → M2.2.2 g i j = M'.2.2 g i j) : sd_T l s0 dC dI adK adV ov d y (ma_ini y as (ag L xs M)) none M2 := by
  intro A p e R s m args below meth cd H locs Q ls F hRm B hE
  refine T A p e R s m args below meth cd H locs Q ls F hRm ⟨W_drop B.1 h1 h4, B.2.1, (fun v h => by cases h), hvl, B.2.2.2.2⟩ (fun A' H' locs' ls' pc' i a' b' w x ok lo ha hb hd hi => ?_)
  have hcn : ∀ g, M2.1 g = if g = 1 then 1 else M'.1 g := fun g => hc g (w.2.2.2.2.2.2.2.1 g)
  refine hE (fun g i => if g = 1 then A 1 i else A' g i) H' locs' ls' pc' i a' b' (W_add B.1 w h1' hc hI hI1 hR) ⟨fun g => ?_, fun g i hi => ?_⟩ (fun v h => by cases h) lo ha hb hd hi
  · rw [hcn]
    show (if g = 1 then 1 else M.1 g) ≤ _
    by_cases e : g = 1
    · rw [if_pos e, if_pos e]; exact Nat.le_refl _
    · rw [if_neg e, if_neg e]; exact x.1 g
  · have hi' : i < if g = 1 then 1 else M.1 g := hi
    by_cases e : g = 1
    · subst e
      exact if_pos rfl
    · rw [if_neg e] at hi'
      show (if g = 1 then A 1 i else A' g i) = A g i
      rw [if_neg e]
      exact x.2 g i hi'
end WLD

/-! ===== what depends on what ===== -/
theorem lv_cong {σ τ : ma_I} (h1 : ∀ k, τ 41 0 k = σ 41 0 k) (h2 : ∀ k, τ 42 0 k = σ 42 0 k) (d : Int32) : ∀ k, pu_lv τ d k = pu_lv σ d k := by
  intro k
  induction k with
  | zero => rfl
  | succ k ih => unfold pu_lv; rw [h1, h2, ih]
theorem li_cong {σ τ : ma_I} (h0 : τ 40 0 1 = σ 40 0 1) (h1 : ∀ k, τ 41 0 k = σ 41 0 k) (h2 : ∀ k, τ 42 0 k = σ 42 0 k) (d : Int32) : pu_li τ d = pu_li σ d := by
  unfold pu_li
  rw [h0]
  exact lv_cong h1 h2 d _
/-- an order is the same -/
def o_same (σ τ : ma_I) (o : Nat) : Prop := τ 43 0 o = σ 43 0 o ∧ τ 44 0 o = σ 44 0 o ∧ τ 45 0 o = σ 45 0 o ∧ τ 46 0 o = σ 46 0 o ∧ τ 47 0 o = σ 47 0 o ∧ τ 48 0 o = σ 48 0 o
theorem sn_cong {σ τ : ma_I} {o : Nat} (h : o_same σ τ o) (d : Int32) : pu_sn τ o d = pu_sn σ o d := by
  obtain ⟨h1, h2, h3, h4, h5, h6⟩ := h
  unfold pu_sn pu_sd pu_nw
  rw [h1, h2, h5, h6]
theorem ev_cong {σ τ : ma_I} (h : ∀ k, τ 50 0 k = σ 50 0 k) (row : Nat) (nm : Nat → Int32) : ∀ k, pu_ev τ row nm k = pu_ev σ row nm k := by
  intro k
  induction k with
  | zero => rfl
  | succ k ih => unfold pu_ev; rw [h, ih]
theorem dk_cong {σ τ : ma_I} (h : ∀ k, τ 50 0 k = σ 50 0 k) (row : Nat) : ∀ k, pu_dk τ row k = pu_dk σ row k := by
  intro k
  induction k with
  | zero => rfl
  | succ k ih => unfold pu_dk; rw [h, ih]
theorem wf_cong {σ τ : ma_I} (h : ∀ k, τ 50 0 k = σ 50 0 k) (h2 : ∀ k, τ 51 0 k = σ 51 0 k) {row : Nat} (hw : pu_wf σ row) : pu_wf τ row := by
  obtain ⟨m, a, b, c, e⟩ := hw
  refine ⟨m, by rw [h2]; exact a, b, by rw [dk_cong h]; exact c, fun k hk => ?_⟩
  rw [h, dk_cong h, dk_cong h]
  exact e k hk
/-- the texts and the rule are the same -/
def t_same (σ τ : ma_I) : Prop := τ 40 0 14 = σ 40 0 14 ∧ (∀ k, τ 50 0 k = σ 50 0 k) ∧ ∀ k, τ 51 0 k = σ 51 0 k
theorem sy_cong {σ τ : ma_I} (h : t_same σ τ) (p : Nat) (nm : Nat → Int32) : pu_sy τ p nm = pu_sy σ p nm := by
  obtain ⟨h1, h2, h3⟩ := h
  unfold pu_sy
  rw [h1, h3, ev_cong h2]
theorem ls_cong {σ τ : ma_I} {o : Nat} (ht : t_same σ τ) (h : o_same σ τ o) (a b c : Int32) : pu_ls τ o a b c = pu_ls σ o a b c := by
  obtain ⟨h1, h2, h3, h4, h5, h6⟩ := h
  unfold pu_ls
  rw [h1, h2, h3, sy_cong ht]
theorem co_cong {σ τ : ma_I} {o : Nat} (ht : t_same σ τ) (h : o_same σ τ o) : pu_co τ o = pu_co σ o := by
  obtain ⟨h1, h2, h3, h4, h5, h6⟩ := h
  unfold pu_co
  rw [h2, h3, h5, h6, sy_cong ht]
theorem by_cong {σ τ : ma_I} (hn : τ 40 0 4 = σ 40 0 4) (h : ∀ o, o < (σ 40 0 4).toNatClampNeg → o_same σ τ o) (hh : Int32) (d : Nat) (there : Int32) : pu_by τ hh d there = pu_by σ hh d there := by
  unfold pu_by
  rw [hn]
  refine ft_ext _ _ (fun j _ hj => ?_)
  have := h j (by omega)
  rw [this.2.2.1, sn_cong this]
/-- all by which letters go is the same, but for THICK -/
def g_same (σ τ : ma_I) : Prop := τ 40 0 1 = σ 40 0 1 ∧ (∀ k, τ 41 0 k = σ 41 0 k) ∧ (∀ k, τ 42 0 k = σ 42 0 k) ∧ τ 40 0 4 = σ 40 0 4 ∧ (∀ o, o < (σ 40 0 4).toNatClampNeg → o_same σ τ o) ∧ t_same σ τ
theorem go_cong {σ τ : ma_I} (h : g_same σ τ) (hk : τ 40 0 0 = σ 40 0 0) (there : Int32) (d0 : Nat) : ∀ (n : Nat) (w : pu_W), pu_go τ there d0 n w = pu_go σ there d0 n w := by
  obtain ⟨g1, g2, g3, g4, g5, g6⟩ := h
  intro n
  induction n with
  | zero => intro w; rfl
  | succ n ih =>
    intro w
    obtain ⟨hh, dd, s, was, used, rd⟩ := w
    unfold pu_go
    rw [li_cong g1 g2 g3, hk, by_cong g4 g5]
    cases hby : pu_by σ hh dd there with
    | none => dsimp only; rw [ih]
    | some b =>
      dsimp only
      have hb : b < (σ 40 0 4).toNatClampNeg := by
        unfold pu_by at hby
        have := (ft_some _ _ _ hby).2.1
        omega
      rw [ls_cong g6 (g5 b hb), (g5 b hb).2.2.2.1, ih]
theorem rn_cong {σ τ : ma_I} (h : g_same σ τ) (hk : τ 40 0 0 = σ 40 0 0) (a : Int32) (d0 : Nat) (there : Int32) : pu_rn τ a d0 there = pu_rn σ a d0 there := by
  unfold pu_rn
  rw [go_cong h hk]
/-- more THICK does no harm -/
theorem go_thick {σ τ : ma_I} (h : g_same σ τ) (hk : σ 40 0 0 ≤ τ 40 0 0) (there : Int32) (d0 : Nat) : ∀ (n : Nat) (w w' : pu_W), pu_go σ there d0 n w = some (0, w') → pu_go τ there d0 n w = some (0, w') := by
  obtain ⟨g1, g2, g3, g4, g5, g6⟩ := h
  intro n
  induction n with
  | zero => intro w w' h; cases h
  | succ n ih =>
    intro w w' hr
    obtain ⟨hh, dd, s, was, used, rd⟩ := w
    unfold pu_go at hr ⊢
    rw [li_cong g1 g2 g3, by_cong g4 g5]
    by_cases c1 : pu_li σ (Int32.ofNat (if dd < 99 then dd else 99)) = hh
    · rw [if_pos c1] at hr ⊢; exact hr
    · rw [if_neg c1] at hr ⊢
      by_cases c2 : σ 40 0 0 < Int32.ofNat s ∨ 100 ≤ dd
      · rw [if_pos c2] at hr
        have := congrArg (fun x => x.map (fun y => y.1)) hr
        exact absurd (show (1 : Int32) = 0 from Option.some.inj this) (by decide)
      · rw [if_neg c2] at hr
        have c3 : ¬(τ 40 0 0 < Int32.ofNat s ∨ 100 ≤ dd) := by
          rintro (e | e)
          · exact c2 (Or.inl (Int32.lt_of_le_of_lt hk e))
          · exact c2 (Or.inr e)
        rw [if_neg c3]
        cases hby : pu_by σ hh dd there with
        | none =>
          rw [hby] at hr
          dsimp only at hr ⊢
          by_cases c4 : dd = 99
          · rw [if_pos c4] at hr
            have := congrArg (fun x => x.map (fun y => y.1)) hr
            exact absurd (show (2 : Int32) = 0 from Option.some.inj this) (by decide)
          · rw [if_neg c4] at hr ⊢
            exact ih _ _ hr
        | some b =>
          rw [hby] at hr
          dsimp only at hr ⊢
          have hb : b < (σ 40 0 4).toNatClampNeg := by
            unfold pu_by at hby
            have := (ft_some _ _ _ hby).2.1
            omega
          rw [ls_cong g6 (g5 b hb), (g5 b hb).2.2.2.1]
          exact ih _ _ hr
theorem hs_thick {σ τ : ma_I} (hg : iv_g σ) (hg' : iv_g τ) (h : g_same σ τ) (hk : σ 40 0 0 ≤ τ 40 0 0) (a there : Int32) (k : Nat) (hp : pu_hs σ a there k = true) : pu_hs τ a there k = true := by
  unfold pu_hs at hp ⊢
  have e := of_decide_eq_true hp
  have h1 := rn_eq (there := there) (h := a) (d0 := k) hg
  have h2 := rn_eq (there := there) (h := a) (d0 := k) hg'
  have h1' : pu_go σ there k 300 (pu_w0 a k) = some (0, (pu_rn σ a k there).2) := by rw [h1, ← e]
  have h3 := go_thick h hk there k 300 _ _ h1'
  rw [h2] at h3
  rw [Option.some.inj h3]
  exact decide_eq_true rfl
theorem cn_mono {p q : Nat → Bool} : ∀ k, (∀ j, j < k → p j = true → q j = true) → cn p k ≤ cn q k := by
  intro k
  induction k with
  | zero => intro _; exact Nat.le_refl 0
  | succ k ih =>
    intro h
    have := ih (fun j hj => h j (by omega))
    unfold cn
    by_cases e : p k = true
    · rw [if_pos e, if_pos (h k (by omega) e)]; omega
    · rw [if_neg e]; split <;> omega
theorem cn_tail {p : Nat → Bool} : ∀ m k, cn p (k + m) ≤ cn p k + m := by
  intro m
  induction m with
  | zero => intro k; exact Nat.le_refl _
  | succ m ih =>
    intro k
    have := ih k
    have hu : cn p (k + (m + 1)) = if p (k + m) then cn p (k + m) + 1 else cn p (k + m) := rfl
    rw [hu]
    split <;> omega
theorem cn_add {p : Nat → Bool} : ∀ m k, cn p k ≤ cn p (k + m) := by
  intro m
  induction m with
  | zero => intro k; exact Nat.le_refl _
  | succ m ih =>
    intro k
    have := ih k
    have hu : cn p (k + (m + 1)) = if p (k + m) then cn p (k + m) + 1 else cn p (k + m) := rfl
    rw [hu]
    split <;> omega
/-! the cheapest that is enough -/
def pu_bs (A : Nat) (cost : Nat → Nat) (en : Nat → Bool) (b : Nat) : Prop := b ≤ A ∧ en b = true ∧ ∀ s, s ≤ A → en s = true → cost b < cost s ∨ (cost b = cost s ∧ b ≤ s)
theorem bs_uni {A : Nat} {cost : Nat → Nat} {en : Nat → Bool} {b c : Nat} (h : pu_bs A cost en b) (h' : pu_bs A cost en c) : b = c := by
  have h1 := h.2.2 c h'.1 h'.2.1
  have h2 := h'.2.2 b h.1 h.2.1
  omega
def pu_as (A : Nat) (cost : Nat → Nat) (en : Nat → Bool) : Nat → Nat × Nat
  | 0 => (A, cost A + 1)
  | k + 1 => if cost k < (pu_as A cost en k).2 ∧ en k = true then (k, cost k) else pu_as A cost en k
theorem as_inv {A : Nat} {cost : Nat → Nat} {en : Nat → Bool} : ∀ k, ((pu_as A cost en k) = (A, cost A + 1) ∧ ∀ s, s < k → en s = true → cost A < cost s) ∨ ((pu_as A cost en k).1 < k ∧ en (pu_as A cost en k).1 = true ∧ (pu_as A cost en k).2 = cost (pu_as A cost en k).1 ∧ (∀ s, s < k → en s = true → cost (pu_as A cost en k).1 < cost s ∨ (cost (pu_as A cost en k).1 = cost s ∧ (pu_as A cost en k).1 ≤ s)) ∧ cost (pu_as A cost en k).1 ≤ cost A) := by
  intro k
  induction k with
  | zero => left; exact ⟨rfl, fun s hs => by omega⟩
  | succ k ih =>
    have hu : pu_as A cost en (k + 1) = if cost k < (pu_as A cost en k).2 ∧ en k = true then (k, cost k) else pu_as A cost en k := rfl
    rw [hu]
    by_cases c : cost k < (pu_as A cost en k).2 ∧ en k = true
    · rw [if_pos c]
      right
      dsimp only
      rcases ih with ⟨h1, h2⟩ | ⟨h1, h2, h3, h4, h5⟩
      · rw [h1] at c
        dsimp only at c
        refine ⟨by omega, c.2, rfl, fun s hs he => ?_, by omega⟩
        by_cases e : s = k
        · subst e; right; exact ⟨rfl, Nat.le_refl _⟩
        · have := h2 s (by omega) he
          left; omega
      · rw [h3] at c
        refine ⟨by omega, c.2, rfl, fun s hs he => ?_, by omega⟩
        by_cases e : s = k
        · subst e; right; exact ⟨rfl, Nat.le_refl _⟩
        · have := h4 s (by omega) he
          left; omega
    · rw [if_neg c]
      rcases ih with ⟨h1, h2⟩ | ⟨h1, h2, h3, h4, h5⟩
      · left
        refine ⟨h1, fun s hs he => ?_⟩
        by_cases e : s = k
        · subst e
          rw [h1] at c
          dsimp only at c
          have : ¬cost s < cost A + 1 := fun hh => c ⟨hh, he⟩
          omega
        · exact h2 s (by omega) he
      · right
        refine ⟨by omega, h2, h3, fun s hs he => ?_, h5⟩
        by_cases e : s = k
        · subst e
          have : ¬cost s < cost (pu_as A cost en s).1 := fun hh => c ⟨by rw [h3]; exact hh, he⟩
          omega
        · exact h4 s (by omega) he
theorem as_ok {A : Nat} {cost : Nat → Nat} {en : Nat → Bool} (hA : en A = true) : pu_bs A cost en (pu_as A cost en (A + 1)).1 ∧ (pu_as A cost en (A + 1)).2 = cost (pu_as A cost en (A + 1)).1 := by
  rcases as_inv (A := A) (cost := cost) (en := en) (A + 1) with ⟨h1, h2⟩ | ⟨h1, h2, h3, h4, h5⟩
  · have := h2 A (by omega) hA
    omega
  · exact ⟨⟨by omega, h2, fun s hs he => h4 s (by omega) he⟩, h3⟩
def pu_ds (A : Nat) (cost : Nat → Nat) (en : Nat → Bool) : Nat → Nat × Nat
  | 0 => (A, cost A)
  | c + 1 => if cost (A - 1 - c) ≤ (pu_ds A cost en c).2 ∧ en (A - 1 - c) = true then (A - 1 - c, cost (A - 1 - c)) else pu_ds A cost en c
theorem ds_inv {A : Nat} {cost : Nat → Nat} {en : Nat → Bool} (hA : en A = true) : ∀ c, c ≤ A → A - c ≤ (pu_ds A cost en c).1 ∧ (pu_ds A cost en c).1 ≤ A ∧ en (pu_ds A cost en c).1 = true ∧ (pu_ds A cost en c).2 = cost (pu_ds A cost en c).1 ∧ ∀ s, A - c ≤ s → s ≤ A → en s = true → cost (pu_ds A cost en c).1 < cost s ∨ (cost (pu_ds A cost en c).1 = cost s ∧ (pu_ds A cost en c).1 ≤ s) := by
  intro c
  induction c with
  | zero => intro _; exact ⟨Nat.sub_le _ _, Nat.le_refl _, hA, rfl, fun s h1 h2 _ => by have : s = A := by omega
                                                                                        subst this; right; exact ⟨rfl, Nat.le_refl _⟩⟩
  | succ c ih =>
    intro hc
    obtain ⟨h1, h2, h3, h4, h5⟩ := ih (by omega)
    have hu : pu_ds A cost en (c + 1) = if cost (A - 1 - c) ≤ (pu_ds A cost en c).2 ∧ en (A - 1 - c) = true then (A - 1 - c, cost (A - 1 - c)) else pu_ds A cost en c := rfl
    rw [hu]
    by_cases cc : cost (A - 1 - c) ≤ (pu_ds A cost en c).2 ∧ en (A - 1 - c) = true
    · rw [if_pos cc]
      dsimp only
      rw [h4] at cc
      refine ⟨by omega, by omega, cc.2, rfl, fun s hs1 hs2 he => ?_⟩
      by_cases e : s = A - 1 - c
      · subst e; right; exact ⟨rfl, Nat.le_refl _⟩
      · have := h5 s (by omega) hs2 he
        omega
    · rw [if_neg cc]
      refine ⟨by omega, h2, h3, h4, fun s hs1 hs2 he => ?_⟩
      by_cases e : s = A - 1 - c
      · subst e
        have : ¬cost (A - 1 - c) ≤ cost (pu_ds A cost en c).1 := fun hh => cc ⟨by rw [h4]; exact hh, he⟩
        omega
      · exact h5 s (by omega) hs2 he
theorem ds_as {A : Nat} {cost : Nat → Nat} {en : Nat → Bool} (hA : en A = true) : pu_ds A cost en A = pu_as A cost en (A + 1) := by
  obtain ⟨h1, h2, h3, h4, h5⟩ := ds_inv (cost := cost) hA A (Nat.le_refl A)
  obtain ⟨h6, h7⟩ := as_ok (cost := cost) hA
  have e := bs_uni (⟨h2, h3, fun s hs he => h5 s (by omega) hs he⟩ : pu_bs A cost en (pu_ds A cost en A).1) h6
  rw [Prod.ext_iff]
  refine ⟨e, ?_⟩
  rw [h4, h7, e]

/-! ===== runs of the machine: fuel, steps, stretches ===== -/
theorem ma_sel_mono {κ κ' : ma_C → Option (Option ma_V × ma_M)} {df : Option ma_C} (h : ∀ c x, κ c = some x → κ' c = some x) : ∀ (al : List (Bool × ma_C)) (x : Option ma_V × ma_M), ma_sel κ none df al = some x → ma_sel κ' none df al = some x := by
  intro al
  induction al with
  | nil =>
    intro x hx
    cases df with
    | none => cases hx
    | some c => exact h c x hx
  | cons q r ih =>
    intro x hx
    unfold ma_sel at hx ⊢
    cases hq : q.1 with
    | true => rw [hq] at hx; exact h _ _ hx
    | false => rw [hq] at hx; exact ih x hx
theorem ma_go_mono : ∀ (n d y : Nat) (c : ma_C) (x : Option ma_V × ma_M), ma_go d n y c = some x → ma_go d (n + 1) y c = some x := by
  intro n
  induction n with
  | zero => intro d y c x h; cases d <;> cases h
  | succ n ih =>
    intro d y c x h
    unfold ma_go at h ⊢
    cases hs : ma_step y c with
    | inl al =>
      rw [hs] at h
      exact ma_sel_mono (fun c x hc => ih d y c x hc) al.1 x h
    | inr q =>
      rw [hs] at h
      cases q with
      | inl r => exact h
      | inr r =>
        obtain ⟨z, as, M, k⟩ := r
        cases d with
        | zero => cases h
        | succ d =>
          dsimp only at h ⊢
          cases hz : ma_go d n z (ma_ini z as M) with
          | none => rw [hz] at h; cases h
          | some u =>
            rw [hz] at h
            rw [ih d z _ u hz]
            dsimp only at h ⊢
            cases hp : ma_pick (mt_rk.getD z 0) u.1 with
            | none => rw [hp] at h; cases h
            | some v =>
              rw [hp] at h
              dsimp only at h ⊢
              exact ih _ _ _ _ h
theorem ma_go_le {n m d y : Nat} {c : ma_C} {x : Option ma_V × ma_M} (h : ma_go d n y c = some x) (hm : n ≤ m) : ma_go d m y c = some x := by
  induction hm with
  | refl => exact h
  | step _ ih => exact ma_go_mono _ _ _ _ _ ih
/-- more depth does no harm -/
theorem ma_go_deep : ∀ (n d y : Nat) (c : ma_C) (x : Option ma_V × ma_M), ma_go d n y c = some x → ma_go (d + 1) n y c = some x := by
  intro n
  induction n with
  | zero => intro d y c x h; cases d <;> cases h
  | succ n ih =>
    intro d y c x h
    unfold ma_go at h ⊢
    cases hs : ma_step y c with
    | inl al =>
      rw [hs] at h
      exact ma_sel_mono (fun c x hc => ih d y c x hc) al.1 x h
    | inr q =>
      rw [hs] at h
      cases q with
      | inl r => exact h
      | inr r =>
        obtain ⟨z, as, M, k⟩ := r
        cases d with
        | zero => cases h
        | succ d =>
          dsimp only at h ⊢
          cases hz : ma_go d n z (ma_ini z as M) with
          | none => rw [hz] at h; cases h
          | some u =>
            rw [hz] at h
            rw [ih d z _ u hz]
            dsimp only at h ⊢
            cases hp : ma_pick (mt_rk.getD z 0) u.1 with
            | none => rw [hp] at h; cases h
            | some v =>
              rw [hp] at h
              dsimp only at h ⊢
              exact ih _ _ _ _ h
theorem Ex.deep {d e y : Nat} {c : ma_C} {Q : Option ma_V → ma_M → Prop} (h : Ex d y c Q) (he : d ≤ e) : Ex e y c Q := by
  obtain ⟨n, r, M, h1, h2⟩ := h
  refine ⟨n, r, M, ?_, h2⟩
  induction he with
  | refl => exact h1
  | step _ ih => exact ma_go_deep _ _ _ _ _ ih
theorem Ex.mono {d y : Nat} {c : ma_C} {Q Q' : Option ma_V → ma_M → Prop} (h : Ex d y c Q) (hq : ∀ r M, Q r M → Q' r M) : Ex d y c Q' := by
  obtain ⟨n, r, M, h1, h2⟩ := h
  exact ⟨n, r, M, h1, hq _ _ h2⟩
theorem Ex.sel_aux {d y : Nat} {Q : Option ma_V → ma_M → Prop} {df : Option ma_C} : ∀ (al : List (Bool × ma_C)), ma_sel (fun c' => Ex d y c' Q) False df al → ∃ (n : Nat) (r : Option ma_V) (M : ma_M), ma_sel (ma_go d n y) none df al = some (r, M) ∧ Q r M := by
  intro al
  induction al with
  | nil =>
    intro h
    cases df with
    | none => exact h.elim
    | some c => exact h
  | cons q r ih =>
    intro h
    unfold ma_sel at h ⊢
    cases hq : q.1 with
    | true => rw [hq] at h; exact h
    | false => rw [hq] at h; exact ih h
theorem Ex.sel {d y : Nat} {c : ma_C} {Q : Option ma_V → ma_M → Prop} {df : Option ma_C} {al : List (Bool × ma_C)} (hs : ma_step y c = .inl (al, df)) (h : ma_sel (fun c' => Ex d y c' Q) False df al) : Ex d y c Q := by
  obtain ⟨n, r, M, h1, h2⟩ := Ex.sel_aux al h
  refine ⟨n + 1, r, M, ?_, h2⟩
  unfold ma_go
  rw [hs]
  exact h1
theorem Ex.ret {d y : Nat} {c : ma_C} {Q : Option ma_V → ma_M → Prop} {ok : Bool} {r : Option ma_V} {M : ma_M} (hs : ma_step y c = .inr (.inl (ok, r, M))) (hok : ok = true) (ha : c.2.2.2.2.1 ≤ (mt_mc.getD y (0, 0)).1) (hb : c.2.2.2.2.2 ≤ (mt_mc.getD y (0, 0)).2) (h : Q r M) : Ex d y c Q := by
  refine ⟨1, r, M, ?_, h⟩
  unfold ma_go
  rw [hs, hok]
  dsimp only
  rw [Nat.ble_eq_true_of_le ha, Nat.ble_eq_true_of_le hb]
  rfl
theorem Ex.call {d y z : Nat} {c : ma_C} {Q : Option ma_V → ma_M → Prop} {as : List ma_V} {M : ma_M} {k : ma_V → ma_M → ma_C} (hs : ma_step y c = .inr (.inr (z, as, M, k)))
    (h : Ex d z (ma_ini z as M) (fun r M' => ∃ v, ma_pick (mt_rk.getD z 0) r = some v ∧ Ex (d + 1) y (k v M') Q)) : Ex (d + 1) y c Q := by
  obtain ⟨n, r, M1, h1, v, h2, m, r2, M2, h3, h4⟩ := h
  refine ⟨n + m + 1, r2, M2, ?_, h4⟩
  unfold ma_go
  rw [hs]
  dsimp only
  rw [ma_go_le h1 (Nat.le_add_right n m)]
  dsimp only
  rw [h2]
  dsimp only
  exact ma_go_le h3 (Nat.le_add_left m n)
/-! the memory when all is made: the ints, which text is read into -/
def ma_n0 (g : Nat) : Nat := [0, 1, 13, 13, 0, 1, 1, 1, 1, 1, 1, 1, 4, 4, 1, 1, 1, 8, 1, 6, 6, 6, 6, 1, 1, 1, 1, 1, 1, 1, 8, 1, 1, 0, 0, 0, 0, 0, 0, 0, 1, 1, 1, 1, 1, 1, 1, 1, 1, 1, 1, 1, 1, 1, 1, 1, 1, 1, 1, 1, 1, 1, 1, 1, 1].getD g 0
def ma_R0 (o : Nat) : ma_R := fun g i j => match g with
  | 5 => [(6, 0), (7, 0), (8, 0), (9, 0), (10, 0), (11, 0)].getD j (0, 0)
  | 6 => [(0, 0), (0, 0), (14, 0), (15, 0), (0, 0), (16, 0), (0, 0), (18, 0), (0, 0), (23, 0), (24, 0), (25, 0), (26, 0)].getD j (0, 0)
  | 7 => [(0, 0), (0, 0), (0, 0), (0, 0), (27, 0), (28, 0), (0, 0), (29, 0)].getD j (0, 0)
  | 8 => (31, 0)
  | 9 => if i = 0 then [(8, 0), (19, o)].getD j (0, 0) else (0, 0)
  | 10 => (32, 0)
  | 11 => (12, j)
  | 12 => (13, i)
  | 16 => (17, j)
  | 18 => (19, j)
  | 19 => [(0, 0), (20, i), (21, i), (22, i)].getD j (0, 0)
  | 29 => (30, j)
  | 40 => [(0, 0), (0, 0), (41, 0), (42, 0), (0, 0), (43, 0), (44, 0), (45, 0), (46, 0), (47, 0), (48, 0), (49, 0), (0, 0), (0, 0), (0, 0), (50, 0), (51, 0), (0, 0), (0, 0), (0, 0), (0, 0), (52, 0), (53, 0), (54, 0), (0, 0), (0, 0), (0, 0), (55, 0), (0, 0), (0, 0), (56, 0), (57, 0), (58, 0), (0, 0), (0, 0), (0, 0), (0, 0), (0, 0), (59, 0), (0, 0), (0, 0), (0, 0), (0, 0), (60, 0), (61, 0), (62, 0), (63, 0), (64, 0)].getD j (0, 0)
  | _ => (0, 0)
def ma_mem (I : ma_I) (o : Nat) : ma_M := (ma_n0, I, ma_R0 o)
abbrev ma_Q : Type := Option ma_V → ma_I → Nat → Prop
/-- an end in that memory -/
def ma_end (Q : ma_Q) : Option ma_V → ma_M → Prop := fun r M => ∃ (I : ma_I) (o : Nat), M = ma_mem I o ∧ Q r I o
def Exm (d z : Nat) (as : List ma_V) (I : ma_I) (o : Nat) (Q : ma_Q) : Prop := Ex d z (ma_ini z as (ma_mem I o)) (ma_end Q)
theorem ma_end_mk {Q : ma_Q} {r : Option ma_V} {I : ma_I} {o : Nat} (h : Q r I o) : ma_end Q r (ma_mem I o) := ⟨I, o, rfl, h⟩
theorem Exm.deep {d e y : Nat} {as : List ma_V} {I : ma_I} {o : Nat} {Q : ma_Q} (h : Exm d y as I o Q) (he : d ≤ e) : Exm e y as I o Q := Ex.deep h he
theorem Exm.mono {d y : Nat} {as : List ma_V} {I : ma_I} {o : Nat} {Q Q' : ma_Q} (h : Exm d y as I o Q) (hq : ∀ r I o, Q r I o → Q' r I o) : Exm d y as I o Q' := Ex.mono h (fun r M h => by obtain ⟨I, o, e, h⟩ := h; exact ⟨I, o, e, hq _ _ _ h⟩)

/-! ===== the machine, an instruction at a time: memory, calls, returns ===== -/
/-- closed checks of a place, by the owner's number -/
def ck_gi (own k g j : Nat) : Bool := match ma_f4 k (mt_ft.getD own []) with
  | some (ci, j', _) => !(Nat.beq ci 13) && Nat.beq (ma_gk g) (100 + ci) && !(ma_rf ci j) && Nat.beq j' j
  | none => false
def ck_gr (own k g j : Nat) : Bool := match ma_f4 k (mt_ft.getD own []) with
  | some (ci, j', _) => !(Nat.beq ci 13) && Nat.beq (ma_gk g) (100 + ci) && ma_rf ci j && Nat.beq j' j
  | none => false
def ck_pi (own k g j : Nat) : Bool := match ma_f4 k (mt_ft.getD own []) with
  | some (ci, j', _) => Nat.beq (ma_gk g) (100 + ci) && !(ma_rf ci j) && !(ma_ff ci j) && !(ma_bf ci j) && Nat.beq j' j
  | none => false
def ck_pb (own k g j : Nat) : Bool := match ma_f4 k (mt_ft.getD own []) with
  | some (ci, j', _) => Nat.beq (ma_gk g) (100 + ci) && !(ma_rf ci j) && !(ma_ff ci j) && ma_bf ci j && Nat.beq j' j
  | none => false
section EXM
variable {d y pc : Nat} {L : List (Option ma_V)} {st : List ma_V} {I : ma_I} {o : Nat} {M : ma_M} {a b : Nat} {Q : Option ma_V → ma_M → Prop}
theorem ex_gi {own k g i j : Nat} (hf : ma_find pc (mt_prog.getD y []) = some (.getfield k, 3)) (ho : mt_own.getD y 0 = own) (hc : ck_gi own k g j = true) (h : Ex d y (pc + 3, L, .inl (I g i j) :: st, ma_mem I o, a, b) Q) : Ex d y (pc, L, .inr (.inr (g, i)) :: st, ma_mem I o, a, b) Q := by
  refine ex_do hf (al := []) (df := some (pc + 3, L, .inl (I g i j) :: st, ma_mem I o, a, b)) ?_ h
  show ma_gf pc L (.inr (.inr (g, i)) :: st) (ma_mem I o) a b (mt_own.getD y 0) k = _
  rw [ho]
  unfold ck_gi at hc
  unfold ma_gf
  cases hq : ma_f4 k (mt_ft.getD own []) with
  | none => rw [hq] at hc; cases hc
  | some q =>
    obtain ⟨ci, j', p⟩ := q
    rw [hq] at hc
    simp only [Bool.and_eq_true, Bool.not_eq_true'] at hc
    obtain ⟨⟨⟨h1, h2⟩, h3⟩, h4⟩ := hc
    have e := Nat.eq_of_beq_eq_true h4
    subst e
    dsimp only
    rw [h1, h2, h3]
    rfl
theorem ex_gr {own k g i j : Nat} (hf : ma_find pc (mt_prog.getD y []) = some (.getfield k, 3)) (ho : mt_own.getD y 0 = own) (hc : ck_gr own k g j = true) {q : Nat × Nat} (hr : ma_R0 o g i j = q) (h : Ex d y (pc + 3, L, .inr (.inr q) :: st, ma_mem I o, a, b) Q) : Ex d y (pc, L, .inr (.inr (g, i)) :: st, ma_mem I o, a, b) Q := by
  subst hr
  refine ex_do hf (al := []) (df := some (pc + 3, L, .inr (.inr (ma_R0 o g i j)) :: st, ma_mem I o, a, b)) ?_ h
  show ma_gf pc L (.inr (.inr (g, i)) :: st) (ma_mem I o) a b (mt_own.getD y 0) k = _
  rw [ho]
  unfold ck_gr at hc
  unfold ma_gf
  cases hq : ma_f4 k (mt_ft.getD own []) with
  | none => rw [hq] at hc; cases hc
  | some q =>
    obtain ⟨ci, j', p⟩ := q
    rw [hq] at hc
    simp only [Bool.and_eq_true, Bool.not_eq_true'] at hc
    obtain ⟨⟨⟨h1, h2⟩, h3⟩, h4⟩ := hc
    have e := Nat.eq_of_beq_eq_true h4
    subst e
    dsimp only
    rw [h1, h2, h3]
    rfl
theorem ex_pi {own k g i j : Nat} {v : Int32} (hf : ma_find pc (mt_prog.getD y []) = some (.putfield k, 3)) (ho : mt_own.getD y 0 = own) (hc : ck_pi own k g j = true) (h : Ex d y (pc + 3, L, st, ma_mem (ma_up I g i j v) o, a, b) Q) : Ex d y (pc, L, .inl v :: .inr (.inr (g, i)) :: st, ma_mem I o, a, b) Q := by
  refine ex_do hf (al := []) (df := some (pc + 3, L, st, ma_mem (ma_up I g i j v) o, a, b)) ?_ h
  show ma_pf pc L (.inl v :: .inr (.inr (g, i)) :: st) (ma_mem I o) a b y (mt_own.getD y 0) k = _
  rw [ho]
  unfold ck_pi at hc
  unfold ma_pf
  cases hq : ma_f4 k (mt_ft.getD own []) with
  | none => rw [hq] at hc; cases hc
  | some q =>
    obtain ⟨ci, j', p⟩ := q
    rw [hq] at hc
    simp only [Bool.and_eq_true, Bool.not_eq_true'] at hc
    obtain ⟨⟨⟨⟨h1, h2⟩, h3⟩, h4⟩, h5⟩ := hc
    have e := Nat.eq_of_beq_eq_true h5
    subst e
    dsimp only
    rw [h1, h2, h3, h4]
    rfl
theorem ex_pb {own k g i j : Nat} {v : Int32} (hf : ma_find pc (mt_prog.getD y []) = some (.putfield k, 3)) (ho : mt_own.getD y 0 = own) (hc : ck_pb own k g j = true) (h : (v = 0 ∨ v = 1) ∧ Ex d y (pc + 3, L, st, ma_mem (ma_up I g i j v) o, a, b) Q) : Ex d y (pc, L, .inl v :: .inr (.inr (g, i)) :: st, ma_mem I o, a, b) Q := by
  refine ex_do hf (al := [(ma_b01 v, (pc + 3, L, st, ma_mem (ma_up I g i j v) o, a, b))]) (df := none) ?_ ?_
  · show ma_pf pc L (.inl v :: .inr (.inr (g, i)) :: st) (ma_mem I o) a b y (mt_own.getD y 0) k = _
    rw [ho]
    unfold ck_pb at hc
    unfold ma_pf
    cases hq : ma_f4 k (mt_ft.getD own []) with
    | none => rw [hq] at hc; cases hc
    | some q =>
      obtain ⟨ci, j', p⟩ := q
      rw [hq] at hc
      simp only [Bool.and_eq_true, Bool.not_eq_true'] at hc
      obtain ⟨⟨⟨⟨h1, h2⟩, h3⟩, h4⟩, h5⟩ := hc
      have e := Nat.eq_of_beq_eq_true h5
      subst e
      dsimp only
      rw [h1, h2, h3, h4]
      rfl
  · have hv : ma_b01 v = true := by
      unfold ma_b01
      rcases h.1 with e | e <;> subst e <;> rfl
    unfold ma_sel
    rw [hv]
    exact h.2
/-- an index that is there -/
def ma_in (j : Int32) (n : Nat) : Prop := 0 ≤ j ∧ j.toNatClampNeg < n
theorem ma_in_ix {j : Int32} {n : Nat} (h : ma_in j n) : ma_ix j n = true := by
  unfold ma_ix
  rw [decide_eq_true h.1, decide_eq_true h.2]
  rfl
theorem ex_iald {g i n : Nat} {j : Int32} (hf : ma_find pc (mt_prog.getD y []) = some (.iaload, 1)) (hk : Nat.beq (ma_gk g) 1 = true) (hn : ma_len (ma_mem I o) g i = n) (h : ma_in j n ∧ Ex d y (pc + 1, L, .inl (I g i j.toNatClampNeg) :: st, ma_mem I o, a, b) Q) : Ex d y (pc, L, .inl j :: .inr (.inr (g, i)) :: st, ma_mem I o, a, b) Q := by
  refine ex_do hf (al := [(ma_ix j (ma_len (ma_mem I o) g i), (pc + 1, L, .inl (I g i j.toNatClampNeg) :: st, ma_mem I o, a, b))]) (df := none) ?_ ?_
  · show ma_ald pc L (.inl j :: .inr (.inr (g, i)) :: st) (ma_mem I o) a b 1 1 = _
    unfold ma_ald
    dsimp only
    rw [hk]
    rfl
  · unfold ma_sel
    rw [hn, ma_in_ix h.1]
    exact h.2
theorem ex_iast {g i n : Nat} {j v : Int32} (hf : ma_find pc (mt_prog.getD y []) = some (.iastore, 1)) (hk : (Nat.beq (ma_gk g) 1 && Nat.ble 5 g) = true) (hn : ma_gl g = n) (h : ma_in j n ∧ Ex d y (pc + 1, L, st, ma_mem (ma_up I g i j.toNatClampNeg v) o, a, b) Q) : Ex d y (pc, L, .inl v :: .inl j :: .inr (.inr (g, i)) :: st, ma_mem I o, a, b) Q := by
  refine ex_do hf (al := [(ma_ix j (ma_gl g) && true, (pc + 1, L, st, ma_mem (ma_up I g i j.toNatClampNeg v) o, a, b))]) (df := none) ?_ ?_
  · show ma_ast pc L (.inl v :: .inl j :: .inr (.inr (g, i)) :: st) (ma_mem I o) a b 1 (fun _ => true) = _
    unfold ma_ast
    dsimp only
    rw [hk]
    rfl
  · unfold ma_sel
    rw [hn, ma_in_ix h.1]
    exact h.2
end EXM

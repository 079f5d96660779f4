/-! ===== the remaining instructions, an instruction at a time ===== -/
section EXR
variable {d y pc : Nat} {L : List (Option ma_V)} {st : List ma_V} {I : ma_I} {o : Nat} {M : ma_M} {a b : Nat} {Q : Option ma_V → ma_M → Prop}
theorem ex_baload {g i n : Nat} {j : Int32} (hf : ma_find pc (mt_prog.getD y []) = some (.baload, 1)) (hk : (Nat.beq (ma_gk g) 2 || Nat.beq (ma_gk g) 4) = true) (hn : ma_len (ma_mem I o) g i = n) (h : ma_in j n ∧ Ex d y (pc + 1, L, .inl (I g i j.toNatClampNeg) :: st, ma_mem I o, a, b) Q) : Ex d y (pc, L, .inl j :: .inr (.inr (g, i)) :: st, ma_mem I o, a, b) Q := by
  refine ex_do hf (al := [(ma_ix j (ma_len (ma_mem I o) g i), (pc + 1, L, .inl (I g i j.toNatClampNeg) :: st, ma_mem I o, a, b))]) (df := none) ?_ ?_
  · show ma_ald pc L (.inl j :: .inr (.inr (g, i)) :: st) (ma_mem I o) a b 2 4 = _
    unfold ma_ald
    dsimp only
    rw [hk]
    rfl
  · unfold ma_sel
    rw [hn, ma_in_ix h.1]
    exact h.2
theorem ex_caload {g i n : Nat} {j : Int32} (hf : ma_find pc (mt_prog.getD y []) = some (.caload, 1)) (hk : (Nat.beq (ma_gk g) 3 || Nat.beq (ma_gk g) 3) = true) (hn : ma_len (ma_mem I o) g i = n) (h : ma_in j n ∧ Ex d y (pc + 1, L, .inl (I g i j.toNatClampNeg) :: st, ma_mem I o, a, b) Q) : Ex d y (pc, L, .inl j :: .inr (.inr (g, i)) :: st, ma_mem I o, a, b) Q := by
  refine ex_do hf (al := [(ma_ix j (ma_len (ma_mem I o) g i), (pc + 1, L, .inl (I g i j.toNatClampNeg) :: st, ma_mem I o, a, b))]) (df := none) ?_ ?_
  · show ma_ald pc L (.inl j :: .inr (.inr (g, i)) :: st) (ma_mem I o) a b 3 3 = _
    unfold ma_ald
    dsimp only
    rw [hk]
    rfl
  · unfold ma_sel
    rw [hn, ma_in_ix h.1]
    exact h.2
theorem ex_aaload {g i n : Nat} {j : Int32} (hf : ma_find pc (mt_prog.getD y []) = some (.aaload, 1)) (hk : (Nat.ble 10 (ma_gk g) && Nat.blt (ma_gk g) 100) = true) (hn : ma_gl g = n) {q : Nat × Nat} (hq : ma_R0 o g i j.toNatClampNeg = q) (h : ma_in j n ∧ Ex d y (pc + 1, L, .inr (.inr q) :: st, ma_mem I o, a, b) Q) : Ex d y (pc, L, .inl j :: .inr (.inr (g, i)) :: st, ma_mem I o, a, b) Q := by
  subst hq
  refine ex_do hf (al := [(ma_ix j (ma_gl g), (pc + 1, L, .inr (.inr (ma_R0 o g i j.toNatClampNeg)) :: st, ma_mem I o, a, b))]) (df := none) ?_ ?_
  · show ma_aad pc L (.inl j :: .inr (.inr (g, i)) :: st) (ma_mem I o) a b = _
    unfold ma_aad
    dsimp only
    rw [hk]
    rfl
  · unfold ma_sel
    rw [hn, ma_in_ix h.1]
    exact h.2
theorem ex_bastore {g i n : Nat} {j v : Int32} (hf : ma_find pc (mt_prog.getD y []) = some (.bastore, 1)) (hk : (Nat.beq (ma_gk g) 2 && Nat.ble 5 g) = true) (hn : ma_gl g = n) (h : ma_in j n ∧ (v = 0 ∨ v = 1) ∧ Ex d y (pc + 1, L, st, ma_mem (ma_up I g i j.toNatClampNeg v) o, a, b) Q) : Ex d y (pc, L, .inl v :: .inl j :: .inr (.inr (g, i)) :: st, ma_mem I o, a, b) Q := by
  refine ex_do hf (al := [(ma_ix j (ma_gl g) && ma_b01 v, (pc + 1, L, st, ma_mem (ma_up I g i j.toNatClampNeg v) o, a, b))]) (df := none) ?_ ?_
  · show ma_ast pc L (.inl v :: .inl j :: .inr (.inr (g, i)) :: st) (ma_mem I o) a b 2 ma_b01 = _
    unfold ma_ast
    dsimp only
    rw [hk]
    rfl
  · have hv : ma_b01 v = true := by
      unfold ma_b01
      rcases h.2.1 with e | e <;> subst e <;> rfl
    unfold ma_sel
    rw [hn, ma_in_ix h.1, hv]
    exact h.2.2
theorem ex_castore {g i n : Nat} {j v : Int32} (hf : ma_find pc (mt_prog.getD y []) = some (.castore, 1)) (hk : (Nat.beq (ma_gk g) 3 && Nat.ble 5 g) = true) (hn : ma_gl g = n) (h : ma_in j n ∧ v = (v.toUInt32 % 65536).toInt32 ∧ Ex d y (pc + 1, L, st, ma_mem (ma_up I g i j.toNatClampNeg v) o, a, b) Q) : Ex d y (pc, L, .inl v :: .inl j :: .inr (.inr (g, i)) :: st, ma_mem I o, a, b) Q := by
  refine ex_do hf (al := [(ma_ix j (ma_gl g) && decide (v = (v.toUInt32 % 65536).toInt32), (pc + 1, L, st, ma_mem (ma_up I g i j.toNatClampNeg v) o, a, b))]) (df := none) ?_ ?_
  · show ma_ast pc L (.inl v :: .inl j :: .inr (.inr (g, i)) :: st) (ma_mem I o) a b 3 (fun v => decide (v = (v.toUInt32 % 65536).toInt32)) = _
    unfold ma_ast
    dsimp only
    rw [hk]
    rfl
  · unfold ma_sel
    rw [hn, ma_in_ix h.1, decide_eq_true h.2.1]
    exact h.2.2
theorem ex_arraylength {g i n : Nat} (hf : ma_find pc (mt_prog.getD y []) = some (.arraylength, 1)) (hk : (Nat.ble 1 (ma_gk g) && Nat.blt (ma_gk g) 100) = true) (hn : ma_len (ma_mem I o) g i = n) (h : Ex d y (pc + 1, L, .inl (Int32.ofNat n) :: st, ma_mem I o, a, b) Q) : Ex d y (pc, L, .inr (.inr (g, i)) :: st, ma_mem I o, a, b) Q := by
  subst hn
  refine ex_do hf (al := []) (df := some (pc + 1, L, .inl (Int32.ofNat (ma_len (ma_mem I o) g i)) :: st, ma_mem I o, a, b)) ?_ h
  show ma_aln pc L (.inr (.inr (g, i)) :: st) (ma_mem I o) a b = _
  unfold ma_aln
  dsimp only
  rw [hk]
  rfl
theorem ex_pop {v : Int32} (hf : ma_find pc (mt_prog.getD y []) = some (.pop, 1)) (h : Ex d y (pc + 1, L, st, M, a, b) Q) : Ex d y (pc, L, .inl v :: st, M, a, b) Q :=
  ex_do hf (al := []) (df := some (pc + 1, L, st, M, a, b)) rfl h
theorem ex_dupi {v : Int32} (hf : ma_find pc (mt_prog.getD y []) = some (.dup, 1)) (h : Ex d y (pc + 1, L, .inl v :: .inl v :: st, M, a, b) Q) : Ex d y (pc, L, .inl v :: st, M, a, b) Q :=
  ex_do hf (al := []) (df := some (pc + 1, L, .inl v :: .inl v :: st, M, a, b)) rfl h
theorem ex_dupr {q : Nat × Nat} (hf : ma_find pc (mt_prog.getD y []) = some (.dup, 1)) (h : Ex d y (pc + 1, L, .inr (.inr q) :: .inr (.inr q) :: st, M, a, b) Q) : Ex d y (pc, L, .inr (.inr q) :: st, M, a, b) Q :=
  ex_do hf (al := []) (df := some (pc + 1, L, .inr (.inr q) :: .inr (.inr q) :: st, M, a, b)) rfl h
theorem ex_dup2 {v : Int32} {q : Nat × Nat} (hf : ma_find pc (mt_prog.getD y []) = some (.dup2, 1)) (h : Ex d y (pc + 1, L, .inl v :: .inr (.inr q) :: .inl v :: .inr (.inr q) :: st, M, a, b) Q) : Ex d y (pc, L, .inl v :: .inr (.inr q) :: st, M, a, b) Q :=
  ex_do hf (al := []) (df := some (pc + 1, L, .inl v :: .inr (.inr q) :: .inl v :: .inr (.inr q) :: st, M, a, b)) rfl h
theorem ex_lconst {c : Fin 2} {v : Int64} (hf : ma_find pc (mt_prog.getD y []) = some (.lconst c, 1)) (hv : Int64.ofNat c.val = v) (h : Ex d y (pc + 1, L, .inr (.inl v) :: st, M, a, b) Q) : Ex d y (pc, L, st, M, a, b) Q := by
  subst hv
  exact ex_do hf (al := []) (df := some (pc + 1, L, .inr (.inl (Int64.ofNat c.val)) :: st, M, a, b)) rfl h
theorem ex_i2l {x : Int32} (hf : ma_find pc (mt_prog.getD y []) = some (.i2l, 1)) (h : Ex d y (pc + 1, L, .inr (.inl x.toInt64) :: st, M, a, b) Q) : Ex d y (pc, L, .inl x :: st, M, a, b) Q :=
  ex_do hf (al := []) (df := some (pc + 1, L, .inr (.inl x.toInt64) :: st, M, a, b)) rfl h
theorem ex_l2i {x : Int64} (hf : ma_find pc (mt_prog.getD y []) = some (.l2i, 1)) (h : Ex d y (pc + 1, L, .inl x.toInt32 :: st, M, a, b) Q) : Ex d y (pc, L, .inr (.inl x) :: st, M, a, b) Q :=
  ex_do hf (al := []) (df := some (pc + 1, L, .inl x.toInt32 :: st, M, a, b)) rfl h
theorem ex_lcmp {x w : Int64} (hf : ma_find pc (mt_prog.getD y []) = some (.lcmp, 1)) (h : Ex d y (pc + 1, L, .inl (lg_cmp x w) :: st, M, a, b) Q) : Ex d y (pc, L, .inr (.inl w) :: .inr (.inl x) :: st, M, a, b) Q :=
  ex_do hf (al := []) (df := some (pc + 1, L, .inl (lg_cmp x w) :: st, M, a, b)) rfl h
theorem ex_ladd {x w : Int64} (hf : ma_find pc (mt_prog.getD y []) = some (.ladd, 1)) (h : Ex d y (pc + 1, L, .inr (.inl (x + w)) :: st, M, a, b) Q) : Ex d y (pc, L, .inr (.inl w) :: .inr (.inl x) :: st, M, a, b) Q :=
  ex_do hf (al := []) (df := some (pc + 1, L, .inr (.inl (x + w)) :: st, M, a, b)) rfl h
theorem ex_lmul {x w : Int64} (hf : ma_find pc (mt_prog.getD y []) = some (.lmul, 1)) (h : Ex d y (pc + 1, L, .inr (.inl (x * w)) :: st, M, a, b) Q) : Ex d y (pc, L, .inr (.inl w) :: .inr (.inl x) :: st, M, a, b) Q :=
  ex_do hf (al := []) (df := some (pc + 1, L, .inr (.inl (x * w)) :: st, M, a, b)) rfl h
theorem ex_ldiv {x w : Int64} (hf : ma_find pc (mt_prog.getD y []) = some (.ldiv, 1)) (h : w ≠ 0 ∧ Ex d y (pc + 1, L, .inr (.inl (x / w)) :: st, M, a, b) Q) : Ex d y (pc, L, .inr (.inl w) :: .inr (.inl x) :: st, M, a, b) Q := by
  refine ex_do hf (al := [(!(decide (w = 0)), (pc + 1, L, .inr (.inl (x / w)) :: st, M, a, b))]) (df := none) rfl ?_
  unfold ma_sel
  rw [decide_eq_false h.1]
  exact h.2
theorem ex_lrem {x w : Int64} (hf : ma_find pc (mt_prog.getD y []) = some (.lrem, 1)) (h : w ≠ 0 ∧ Ex d y (pc + 1, L, .inr (.inl (x - x / w * w)) :: st, M, a, b) Q) : Ex d y (pc, L, .inr (.inl w) :: .inr (.inl x) :: st, M, a, b) Q := by
  refine ex_do hf (al := [(!(decide (w = 0)), (pc + 1, L, .inr (.inl (x - x / w * w)) :: st, M, a, b))]) (df := none) rfl ?_
  unfold ma_sel
  rw [decide_eq_false h.1]
  exact h.2
end EXR

/-! ===== constants, Math, String's own fields, arraycopy, an instruction at a time ===== -/
section EXK
variable {d y pc : Nat} {L : List (Option ma_V)} {st : List ma_V} {I : ma_I} {o : Nat} {M : ma_M} {a b : Nat} {Q : Option ma_V → ma_M → Prop}
theorem ex_ldci {k own z : Nat} {v : Int32} (hf : ma_find pc (mt_prog.getD y []) = some (.ldc k, 2)) (ho : mt_own.getD y 0 = own) (hk : ma_fk k (mt_kt.getD own []) = some (v, z)) (h : Ex d y (pc + 2, L, .inl v :: st, M, a, b) Q) : Ex d y (pc, L, st, M, a, b) Q := by
  refine ex_do hf (al := []) (df := some (pc + 2, L, .inl v :: st, M, a, b)) ?_ h
  unfold ma_do
  dsimp only
  rw [ho, hk]
  rfl
theorem ex_ldcs {k own z q : Nat} (hf : ma_find pc (mt_prog.getD y []) = some (.ldc k, 2)) (ho : mt_own.getD y 0 = own) (hk : ma_fk k (mt_kt.getD own []) = none) (hq : ma_fk k (mt_st.getD own []) = some (q, z)) (h : Ex d y (pc + 2, L, .inr (.inr (2, q)) :: st, M, a, b) Q) : Ex d y (pc, L, st, M, a, b) Q := by
  refine ex_do hf (al := []) (df := some (pc + 2, L, .inr (.inr (2, q)) :: st, M, a, b)) ?_ h
  unfold ma_do
  dsimp only
  rw [ho, hk]
  dsimp only
  rw [hq]
  rfl
theorem ex_ldcw {k own z : Nat} {v : Int32} (hf : ma_find pc (mt_prog.getD y []) = some (.ldc_w k, 3)) (ho : mt_own.getD y 0 = own) (hk : ma_fk k (mt_kt.getD own []) = some (v, z)) (h : Ex d y (pc + 3, L, .inl v :: st, M, a, b) Q) : Ex d y (pc, L, st, M, a, b) Q := by
  refine ex_do hf (al := []) (df := some (pc + 3, L, .inl v :: st, M, a, b)) ?_ h
  unfold ma_do
  dsimp only
  rw [ho, hk]
  rfl
theorem ex_ldc2 {k own z : Nat} {v : Int64} (hf : ma_find pc (mt_prog.getD y []) = some (.ldc2_w k, 3)) (ho : mt_own.getD y 0 = own) (hk : ma_fk k (mt_lt.getD own []) = some (v, z)) (h : Ex d y (pc + 3, L, .inr (.inl v) :: st, M, a, b) Q) : Ex d y (pc, L, st, M, a, b) Q := by
  refine ex_do hf (al := []) (df := some (pc + 3, L, .inr (.inl v) :: st, M, a, b)) ?_ h
  unfold ma_do
  dsimp only
  rw [ho, hk]
  rfl
theorem ex_max {k own z p : Nat} {x w : Int32} (hf : ma_find pc (mt_prog.getD y []) = some (.invokestatic k, 3)) (ho : mt_own.getD y 0 = own) (hk : ma_f4 k (mt_ct.getD own []) = some (z, 8, p)) (hc : Nat.ble (ma_cat st) 8 = true) (ha : Nat.ble a (mt_mc.getD y (0, 0)).1 = true) (hb : Nat.ble b (mt_mc.getD y (0, 0)).2 = true) (h : Ex d y (pc + 3, L, .inl (if x < w then w else x) :: st, M, a, b) Q) : Ex d y (pc, L, .inl w :: .inl x :: st, M, a, b) Q := by
  refine ex_do hf (al := []) (df := some (pc + 3, L, .inl (if x < w then w else x) :: st, M, a, b)) ?_ h
  show ma_call pc L (.inl w :: .inl x :: st) M a b y (mt_own.getD y 0) k [0, 1, 7, 8, 9] = _
  unfold ma_call
  rw [ho, hk]
  dsimp only
  rw [hc, ha, hb]
  rfl
theorem ex_min {k own z p : Nat} {x w : Int32} (hf : ma_find pc (mt_prog.getD y []) = some (.invokestatic k, 3)) (ho : mt_own.getD y 0 = own) (hk : ma_f4 k (mt_ct.getD own []) = some (z, 9, p)) (hc : Nat.ble (ma_cat st) 8 = true) (ha : Nat.ble a (mt_mc.getD y (0, 0)).1 = true) (hb : Nat.ble b (mt_mc.getD y (0, 0)).2 = true) (h : Ex d y (pc + 3, L, .inl (if w < x then w else x) :: st, M, a, b) Q) : Ex d y (pc, L, .inl w :: .inl x :: st, M, a, b) Q := by
  refine ex_do hf (al := []) (df := some (pc + 3, L, .inl (if w < x then w else x) :: st, M, a, b)) ?_ h
  show ma_call pc L (.inl w :: .inl x :: st) M a b y (mt_own.getD y 0) k [0, 1, 7, 8, 9] = _
  unfold ma_call
  rw [ho, hk]
  dsimp only
  rw [hc, ha, hb]
  rfl
end EXK

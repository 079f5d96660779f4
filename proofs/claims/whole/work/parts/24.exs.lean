/-! ===== the last instructions ===== -/
section EXS
variable {d y pc : Nat} {L : List (Option ma_V)} {st : List ma_V} {I : ma_I} {o : Nat} {M : ma_M} {a b : Nat} {Q : Option ma_V → ma_M → Prop}
theorem ex_gsv {own k i z : Nat} (hf : ma_find pc (mt_prog.getD y []) = some (.getfield k, 3)) (ho : mt_own.getD y 0 = own) (hk : ma_f4 k (mt_ft.getD own []) = some (13, 0, z)) (h : Ex d y (pc + 3, L, .inr (.inr (3, i)) :: st, M, a, b) Q) : Ex d y (pc, L, .inr (.inr (2, i)) :: st, M, a, b) Q := by
  refine ex_do hf (al := []) (df := some (pc + 3, L, .inr (.inr (3, i)) :: st, M, a, b)) ?_ h
  show ma_gf pc L (.inr (.inr (2, i)) :: st) M a b (mt_own.getD y 0) k = _
  unfold ma_gf
  rw [ho, hk]
  rfl
theorem ex_gsc {own k i z : Nat} (hf : ma_find pc (mt_prog.getD y []) = some (.getfield k, 3)) (ho : mt_own.getD y 0 = own) (hk : ma_f4 k (mt_ft.getD own []) = some (13, 1, z)) (h : Ex d y (pc + 3, L, .inl 0 :: st, M, a, b) Q) : Ex d y (pc, L, .inr (.inr (2, i)) :: st, M, a, b) Q := by
  refine ex_do hf (al := []) (df := some (pc + 3, L, .inl 0 :: st, M, a, b)) ?_ h
  show ma_gf pc L (.inr (.inr (2, i)) :: st) M a b (mt_own.getD y 0) k = _
  unfold ma_gf
  rw [ho, hk]
  rfl
theorem ex_getc (hf : ma_find pc (mt_prog.getD y []) = some (.getstatic 38, 3)) (ho : mt_own.getD y 0 = 13) (h : Ex d y (pc + 3, L, .inl 1 :: st, M, a, b) Q) : Ex d y (pc, L, st, M, a, b) Q := by
  refine ex_do hf (al := []) (df := some (pc + 3, L, .inl 1 :: st, M, a, b)) ?_ h
  unfold ma_do
  dsimp only
  rw [ho]
  rfl
theorem ex_creturn {v : Int32} (hf : ma_find pc (mt_prog.getD y []) = some (.ireturn, 1)) (ht : mt_ret.getD y none = some .char) (ha : Nat.ble a (mt_mc.getD y (0, 0)).1 = true) (hb : Nat.ble b (mt_mc.getD y (0, 0)).2 = true) (h : v = (v.toUInt32 % 65536).toInt32 ∧ Q (some (.inl v)) M) : Ex d y (pc, L, [.inl v], M, a, b) Q :=
  ex_ret hf (ok := ma_rok (mt_ret.getD y none) v) rfl (by rw [ht]; exact decide_eq_true h.1) ha hb h.2
theorem ex_breturn {v : Int32} (hf : ma_find pc (mt_prog.getD y []) = some (.ireturn, 1)) (ht : mt_ret.getD y none = some .byte) (ha : Nat.ble a (mt_mc.getD y (0, 0)).1 = true) (hb : Nat.ble b (mt_mc.getD y (0, 0)).2 = true) (h : v.toInt8.toInt32 = v ∧ Q (some (.inl v)) M) : Ex d y (pc, L, [.inl v], M, a, b) Q :=
  ex_ret hf (ok := ma_rok (mt_ret.getD y none) v) rfl (by rw [ht]; exact decide_eq_true h.1) ha hb h.2
theorem ex_acp {k own z p g i h0 k0 : Nat} {n q w : Int32} (hf : ma_find pc (mt_prog.getD y []) = some (.invokestatic k, 3)) (ho : mt_own.getD y 0 = own) (hk : ma_f4 k (mt_ct.getD own []) = some (z, 7, p)) (hg : (Nat.beq (ma_gk g) 1 && Nat.beq (ma_gk h0) 1 && Nat.ble 5 g && Nat.ble 5 h0 && Nat.ble (ma_cat st) 8) = true)
    (h : (0 ≤ w ∧ 0 ≤ q ∧ 0 ≤ n ∧ w.toNatClampNeg + n.toNatClampNeg ≤ ma_gl g ∧ q.toNatClampNeg + n.toNatClampNeg ≤ ma_gl h0) ∧ Ex d y (pc + 3, L, st, ma_mem (ma_cpy I g i w.toNatClampNeg h0 k0 q.toNatClampNeg n.toNatClampNeg) o, a, b) Q) : Ex d y (pc, L, .inl n :: .inl q :: .inr (.inr (h0, k0)) :: .inl w :: .inr (.inr (g, i)) :: st, ma_mem I o, a, b) Q := by
  refine ex_do hf (al := [(decide (0 ≤ w) && decide (0 ≤ q) && decide (0 ≤ n) && decide (w.toNatClampNeg + n.toNatClampNeg ≤ ma_gl g) && decide (q.toNatClampNeg + n.toNatClampNeg ≤ ma_gl h0), (pc + 3, L, st, ma_mem (ma_cpy I g i w.toNatClampNeg h0 k0 q.toNatClampNeg n.toNatClampNeg) o, a, b))]) (df := none) ?_ ?_
  · show ma_call pc L (.inl n :: .inl q :: .inr (.inr (h0, k0)) :: .inl w :: .inr (.inr (g, i)) :: st) (ma_mem I o) a b y (mt_own.getD y 0) k [0, 1, 7, 8, 9] = _
    unfold ma_call
    rw [ho, hk]
    show ma_acp pc L (.inl n :: .inl q :: .inr (.inr (h0, k0)) :: .inl w :: .inr (.inr (g, i)) :: st) (ma_mem I o) a b = _
    unfold ma_acp
    dsimp only
    rw [hg]
    rfl
  · unfold ma_sel
    obtain ⟨⟨h1, h2, h3, h4, h5⟩, h6⟩ := h
    rw [decide_eq_true h1, decide_eq_true h2, decide_eq_true h3, decide_eq_true h4, decide_eq_true h5]
    exact h6
end EXS

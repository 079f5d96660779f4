/-! ===== rows for generated stretches ===== -/
def xv_b (p : Prop) [Decidable p] : Int32 := if p then 1 else 0
theorem xv_b1 {p : Prop} [Decidable p] (h : p) : xv_b p = 1 := if_pos h
theorem xv_b0 {p : Prop} [Decidable p] (h : ¬p) : xv_b p = 0 := if_neg h
theorem xv_b01 {p : Prop} [Decidable p] : xv_b p = 0 ∨ xv_b p = 1 := by
  by_cases h : p
  · exact Or.inr (xv_b1 h)
  · exact Or.inl (xv_b0 h)
theorem xv_beq0 {p : Prop} [Decidable p] : xv_b p = 0 ↔ ¬p := by
  by_cases h : p
  · rw [xv_b1 h]; exact ⟨fun e => absurd e (by decide), fun e => absurd h e⟩
  · rw [xv_b0 h]; exact ⟨fun _ => h, fun _ => rfl⟩
theorem xv_bne0 {p : Prop} [Decidable p] : xv_b p ≠ 0 ↔ p := by
  rw [ne_eq, xv_beq0]
  exact Decidable.not_not
theorem xv_beq1 {p : Prop} [Decidable p] : xv_b p = 1 ↔ p := by
  by_cases h : p
  · rw [xv_b1 h]; exact ⟨fun _ => h, fun _ => rfl⟩
  · rw [xv_b0 h]; exact ⟨fun e => absurd e (by decide), fun e => absurd e h⟩
theorem xv_nlt {x w : Int32} (h : ¬x < w) : w ≤ x := Int32.not_lt.mp h
theorem xv_nle {x w : Int32} (h : ¬x ≤ w) : w < x := Int32.not_le.mp h
theorem xv_ug {I : ma_I} {g i j g' i' j' : Nat} {v : Int32} (h : Nat.beq g' g = false) : ma_up I g i j v g' i' j' = I g' i' j' := if_neg (Nat.ne_of_beq_eq_false h)
theorem xv_ui {I : ma_I} {g i j i' j' : Nat} {v : Int32} (h : Nat.beq i' i = false) : ma_up I g i j v g i' j' = I g i' j' := by
  unfold ma_up; rw [if_pos rfl, if_neg (Nat.ne_of_beq_eq_false h)]
theorem xv_uj {I : ma_I} {g i j j' : Nat} {v : Int32} (h : Nat.beq j' j = false) : ma_up I g i j v g i j' = I g i j' := by
  unfold ma_up; rw [if_pos rfl, if_pos rfl, if_neg (Nat.ne_of_beq_eq_false h)]
theorem xv_us {I : ma_I} {g i j : Nat} {v : Int32} : ma_up I g i j v g i j = v := by
  unfold ma_up; rw [if_pos rfl, if_pos rfl, if_pos rfl]
section XV
variable {d y pc : Nat} {L : List (Option ma_V)} {st : List ma_V} {I : ma_I} {o : Nat} {M : ma_M} {Q : Option ma_V → ma_M → Prop}
theorem xv_iinc {k : Nat} {c : Int} {v w : Int32} {L' : List (Option ma_V)} (hf : ma_find pc (mt_prog.getD y []) = some (.iinc k c, 3)) (hl : L[k]? = some (some (.inl v))) (hw : Int32.ofInt c = w) (hL : ma_s1 L k (.inl (v + w)) = L') (h : Ex d y (pc + 3, L', st, M, 0, 0) Q) : Ex d y (pc, L, st, M, 0, 0) Q := by
  subst hw
  exact ex_iinc hf hl hL h
theorem xv_gi {own k g i j : Nat} {v : Int32} (hf : ma_find pc (mt_prog.getD y []) = some (.getfield k, 3)) (ho : mt_own.getD y 0 = own) (hc : ck_gi own k g j = true) (hv : I g i j = v) (h : Ex d y (pc + 3, L, .inl v :: st, ma_mem I o, 0, 0) Q) : Ex d y (pc, L, .inr (.inr (g, i)) :: st, ma_mem I o, 0, 0) Q := by
  subst hv
  exact ex_gi hf ho hc h
theorem xv_iald {g i n jn : Nat} {j v : Int32} (hf : ma_find pc (mt_prog.getD y []) = some (.iaload, 1)) (hk : Nat.beq (ma_gk g) 1 = true) (hn : ma_len (ma_mem I o) g i = n) (hj : j.toNatClampNeg = jn) (hv : I g i jn = v) (hi : ma_in j n) (h : Ex d y (pc + 1, L, .inl v :: st, ma_mem I o, 0, 0) Q) : Ex d y (pc, L, .inl j :: .inr (.inr (g, i)) :: st, ma_mem I o, 0, 0) Q := by
  subst hj
  subst hv
  exact ex_iald hf hk hn ⟨hi, h⟩
theorem xv_bald {g i n jn : Nat} {j v : Int32} (hf : ma_find pc (mt_prog.getD y []) = some (.baload, 1)) (hk : (Nat.beq (ma_gk g) 2 || Nat.beq (ma_gk g) 4) = true) (hn : ma_len (ma_mem I o) g i = n) (hj : j.toNatClampNeg = jn) (hv : I g i jn = v) (hi : ma_in j n) (h : Ex d y (pc + 1, L, .inl v :: st, ma_mem I o, 0, 0) Q) : Ex d y (pc, L, .inl j :: .inr (.inr (g, i)) :: st, ma_mem I o, 0, 0) Q := by
  subst hj
  subst hv
  exact ex_baload hf hk hn ⟨hi, h⟩
theorem xv_cald {g i n jn : Nat} {j v : Int32} (hf : ma_find pc (mt_prog.getD y []) = some (.caload, 1)) (hk : (Nat.beq (ma_gk g) 3 || Nat.beq (ma_gk g) 3) = true) (hn : ma_len (ma_mem I o) g i = n) (hj : j.toNatClampNeg = jn) (hv : I g i jn = v) (hi : ma_in j n) (h : Ex d y (pc + 1, L, .inl v :: st, ma_mem I o, 0, 0) Q) : Ex d y (pc, L, .inl j :: .inr (.inr (g, i)) :: st, ma_mem I o, 0, 0) Q := by
  subst hj
  subst hv
  exact ex_caload hf hk hn ⟨hi, h⟩
theorem xv_iast {g i n jn : Nat} {j v : Int32} (hf : ma_find pc (mt_prog.getD y []) = some (.iastore, 1)) (hk : (Nat.beq (ma_gk g) 1 && Nat.ble 5 g) = true) (hn : ma_gl g = n) (hj : j.toNatClampNeg = jn) (hi : ma_in j n) (h : Ex d y (pc + 1, L, st, ma_mem (ma_up I g i jn v) o, 0, 0) Q) : Ex d y (pc, L, .inl v :: .inl j :: .inr (.inr (g, i)) :: st, ma_mem I o, 0, 0) Q := by
  subst hj
  exact ex_iast hf hk hn ⟨hi, h⟩
theorem xv_bast {g i n jn : Nat} {j v : Int32} (hf : ma_find pc (mt_prog.getD y []) = some (.bastore, 1)) (hk : (Nat.beq (ma_gk g) 2 && Nat.ble 5 g) = true) (hn : ma_gl g = n) (hj : j.toNatClampNeg = jn) (hi : ma_in j n) (hv : v = 0 ∨ v = 1) (h : Ex d y (pc + 1, L, st, ma_mem (ma_up I g i jn v) o, 0, 0) Q) : Ex d y (pc, L, .inl v :: .inl j :: .inr (.inr (g, i)) :: st, ma_mem I o, 0, 0) Q := by
  subst hj
  exact ex_bastore hf hk hn ⟨hi, hv, h⟩
theorem xv_aald {g i n jn : Nat} {j : Int32} {q : Nat × Nat} (hf : ma_find pc (mt_prog.getD y []) = some (.aaload, 1)) (hk : (Nat.ble 10 (ma_gk g) && Nat.blt (ma_gk g) 100) = true) (hn : ma_gl g = n) (hj : j.toNatClampNeg = jn) (hq : ma_R0 o g i jn = q) (hi : ma_in j n) (h : Ex d y (pc + 1, L, .inr (.inr q) :: st, ma_mem I o, 0, 0) Q) : Ex d y (pc, L, .inl j :: .inr (.inr (g, i)) :: st, ma_mem I o, 0, 0) Q := by
  subst hj
  exact ex_aaload hf hk hn hq ⟨hi, h⟩
theorem xv_pb {own k g i j : Nat} {v : Int32} (hf : ma_find pc (mt_prog.getD y []) = some (.putfield k, 3)) (ho : mt_own.getD y 0 = own) (hc : ck_pb own k g j = true) (hv : v = 0 ∨ v = 1) (h : Ex d y (pc + 3, L, st, ma_mem (ma_up I g i j v) o, 0, 0) Q) : Ex d y (pc, L, .inl v :: .inr (.inr (g, i)) :: st, ma_mem I o, 0, 0) Q := ex_pb hf ho hc ⟨hv, h⟩
theorem xv_idiv {x w : Int32} (hf : ma_find pc (mt_prog.getD y []) = some (.idiv, 1)) (hw : w ≠ 0) (h : Ex d y (pc + 1, L, .inl (x / w) :: st, M, 0, 0) Q) : Ex d y (pc, L, .inl w :: .inl x :: st, M, 0, 0) Q := ex_idiv hf ⟨hw, h⟩
/-- the rest of a division -/
def xv_rm (x w : Int32) : Int32 := x - x / w * w
theorem xv_irem {x w : Int32} (hf : ma_find pc (mt_prog.getD y []) = some (.irem, 1)) (hw : w ≠ 0) (h : Ex d y (pc + 1, L, .inl (xv_rm x w) :: st, M, 0, 0) Q) : Ex d y (pc, L, .inl w :: .inl x :: st, M, 0, 0) Q := ex_irem hf ⟨hw, h⟩
def xv_us9 (x w : Int32) : Int32 := (x.toUInt32 >>> (w.toUInt32 &&& Int32.toUInt32 31)).toInt32
theorem xv_iushr {x w : Int32} (hf : ma_find pc (mt_prog.getD y []) = some (.iushr, 1)) (h : Ex d y (pc + 1, L, .inl (xv_us9 x w) :: st, M, 0, 0) Q) : Ex d y (pc, L, .inl w :: .inl x :: st, M, 0, 0) Q := ex_iushr hf h
theorem xv_ldiv {x w : Int64} (hf : ma_find pc (mt_prog.getD y []) = some (.ldiv, 1)) (hw : w ≠ 0) (h : Ex d y (pc + 1, L, .inr (.inl (x / w)) :: st, M, 0, 0) Q) : Ex d y (pc, L, .inr (.inl w) :: .inr (.inl x) :: st, M, 0, 0) Q := ex_ldiv hf ⟨hw, h⟩
def xv_rl (x w : Int64) : Int64 := x - x / w * w
theorem xv_lrem {x w : Int64} (hf : ma_find pc (mt_prog.getD y []) = some (.lrem, 1)) (hw : w ≠ 0) (h : Ex d y (pc + 1, L, .inr (.inl (xv_rl x w)) :: st, M, 0, 0) Q) : Ex d y (pc, L, .inr (.inl w) :: .inr (.inl x) :: st, M, 0, 0) Q := ex_lrem hf ⟨hw, h⟩
theorem xv_beq {off : Int} {t : Nat} {x : Int32} (hf : ma_find pc (mt_prog.getD y []) = some (.ifCond .eq off, 3)) (ht : (pc : Int) + off = Int.ofNat t) (h1 : x = 0 → Ex d y (t, L, st, M, 0, 0) Q) (h2 : x ≠ 0 → Ex d y (pc + 3, L, st, M, 0, 0) Q) : Ex d y (pc, L, .inl x :: st, M, 0, 0) Q := by
  refine ex_br hf ht (fun e => h1 ?_) (fun e => h2 ?_)
  · exact of_decide_eq_true e
  · exact of_decide_eq_false e
theorem xv_bne {off : Int} {t : Nat} {x : Int32} (hf : ma_find pc (mt_prog.getD y []) = some (.ifCond .ne off, 3)) (ht : (pc : Int) + off = Int.ofNat t) (h1 : x ≠ 0 → Ex d y (t, L, st, M, 0, 0) Q) (h2 : x = 0 → Ex d y (pc + 3, L, st, M, 0, 0) Q) : Ex d y (pc, L, .inl x :: st, M, 0, 0) Q := by
  refine ex_br hf ht (fun e => h1 ?_) (fun e => h2 ?_)
  · have e2 : (!(decide (x = 0))) = true := e
    intro e3
    rw [decide_eq_true e3] at e2
    cases e2
  · have e2 : (!(decide (x = 0))) = false := e
    exact of_decide_eq_true (by simpa using e2)
theorem xv_blt {off : Int} {t : Nat} {x : Int32} (hf : ma_find pc (mt_prog.getD y []) = some (.ifCond .lt off, 3)) (ht : (pc : Int) + off = Int.ofNat t) (h1 : x < 0 → Ex d y (t, L, st, M, 0, 0) Q) (h2 : 0 ≤ x → Ex d y (pc + 3, L, st, M, 0, 0) Q) : Ex d y (pc, L, .inl x :: st, M, 0, 0) Q := by
  refine ex_br hf ht (fun e => h1 ?_) (fun e => h2 ?_)
  · exact of_decide_eq_true e
  · exact xv_nlt (of_decide_eq_false e)
theorem xv_bge {off : Int} {t : Nat} {x : Int32} (hf : ma_find pc (mt_prog.getD y []) = some (.ifCond .ge off, 3)) (ht : (pc : Int) + off = Int.ofNat t) (h1 : 0 ≤ x → Ex d y (t, L, st, M, 0, 0) Q) (h2 : x < 0 → Ex d y (pc + 3, L, st, M, 0, 0) Q) : Ex d y (pc, L, .inl x :: st, M, 0, 0) Q := by
  refine ex_br hf ht (fun e => h1 ?_) (fun e => h2 ?_)
  · exact of_decide_eq_true e
  · exact xv_nle (of_decide_eq_false e)
theorem xv_bgt {off : Int} {t : Nat} {x : Int32} (hf : ma_find pc (mt_prog.getD y []) = some (.ifCond .gt off, 3)) (ht : (pc : Int) + off = Int.ofNat t) (h1 : 0 < x → Ex d y (t, L, st, M, 0, 0) Q) (h2 : x ≤ 0 → Ex d y (pc + 3, L, st, M, 0, 0) Q) : Ex d y (pc, L, .inl x :: st, M, 0, 0) Q := by
  refine ex_br hf ht (fun e => h1 ?_) (fun e => h2 ?_)
  · exact of_decide_eq_true e
  · exact xv_nlt (of_decide_eq_false e)
theorem xv_ble {off : Int} {t : Nat} {x : Int32} (hf : ma_find pc (mt_prog.getD y []) = some (.ifCond .le off, 3)) (ht : (pc : Int) + off = Int.ofNat t) (h1 : x ≤ 0 → Ex d y (t, L, st, M, 0, 0) Q) (h2 : 0 < x → Ex d y (pc + 3, L, st, M, 0, 0) Q) : Ex d y (pc, L, .inl x :: st, M, 0, 0) Q := by
  refine ex_br hf ht (fun e => h1 ?_) (fun e => h2 ?_)
  · exact of_decide_eq_true e
  · exact xv_nle (of_decide_eq_false e)
theorem xv_ceq {off : Int} {t : Nat} {x w : Int32} (hf : ma_find pc (mt_prog.getD y []) = some (.if_icmp .eq off, 3)) (ht : (pc : Int) + off = Int.ofNat t) (h1 : x = w → Ex d y (t, L, st, M, 0, 0) Q) (h2 : x ≠ w → Ex d y (pc + 3, L, st, M, 0, 0) Q) : Ex d y (pc, L, .inl w :: .inl x :: st, M, 0, 0) Q := by
  refine ex_ic hf ht (fun e => h1 ?_) (fun e => h2 ?_)
  · exact of_decide_eq_true e
  · exact of_decide_eq_false e
theorem xv_cne {off : Int} {t : Nat} {x w : Int32} (hf : ma_find pc (mt_prog.getD y []) = some (.if_icmp .ne off, 3)) (ht : (pc : Int) + off = Int.ofNat t) (h1 : x ≠ w → Ex d y (t, L, st, M, 0, 0) Q) (h2 : x = w → Ex d y (pc + 3, L, st, M, 0, 0) Q) : Ex d y (pc, L, .inl w :: .inl x :: st, M, 0, 0) Q := by
  refine ex_ic hf ht (fun e => h1 ?_) (fun e => h2 ?_)
  · have e2 : (!(decide (x = w))) = true := e
    intro e3
    rw [decide_eq_true e3] at e2
    cases e2
  · have e2 : (!(decide (x = w))) = false := e
    exact of_decide_eq_true (by simpa using e2)
theorem xv_clt {off : Int} {t : Nat} {x w : Int32} (hf : ma_find pc (mt_prog.getD y []) = some (.if_icmp .lt off, 3)) (ht : (pc : Int) + off = Int.ofNat t) (h1 : x < w → Ex d y (t, L, st, M, 0, 0) Q) (h2 : w ≤ x → Ex d y (pc + 3, L, st, M, 0, 0) Q) : Ex d y (pc, L, .inl w :: .inl x :: st, M, 0, 0) Q := by
  refine ex_ic hf ht (fun e => h1 ?_) (fun e => h2 ?_)
  · exact of_decide_eq_true e
  · exact xv_nlt (of_decide_eq_false e)
theorem xv_cge {off : Int} {t : Nat} {x w : Int32} (hf : ma_find pc (mt_prog.getD y []) = some (.if_icmp .ge off, 3)) (ht : (pc : Int) + off = Int.ofNat t) (h1 : w ≤ x → Ex d y (t, L, st, M, 0, 0) Q) (h2 : x < w → Ex d y (pc + 3, L, st, M, 0, 0) Q) : Ex d y (pc, L, .inl w :: .inl x :: st, M, 0, 0) Q := by
  refine ex_ic hf ht (fun e => h1 ?_) (fun e => h2 ?_)
  · exact of_decide_eq_true e
  · exact xv_nle (of_decide_eq_false e)
theorem xv_cgt {off : Int} {t : Nat} {x w : Int32} (hf : ma_find pc (mt_prog.getD y []) = some (.if_icmp .gt off, 3)) (ht : (pc : Int) + off = Int.ofNat t) (h1 : w < x → Ex d y (t, L, st, M, 0, 0) Q) (h2 : x ≤ w → Ex d y (pc + 3, L, st, M, 0, 0) Q) : Ex d y (pc, L, .inl w :: .inl x :: st, M, 0, 0) Q := by
  refine ex_ic hf ht (fun e => h1 ?_) (fun e => h2 ?_)
  · exact of_decide_eq_true e
  · exact xv_nlt (of_decide_eq_false e)
theorem xv_cle {off : Int} {t : Nat} {x w : Int32} (hf : ma_find pc (mt_prog.getD y []) = some (.if_icmp .le off, 3)) (ht : (pc : Int) + off = Int.ofNat t) (h1 : x ≤ w → Ex d y (t, L, st, M, 0, 0) Q) (h2 : w < x → Ex d y (pc + 3, L, st, M, 0, 0) Q) : Ex d y (pc, L, .inl w :: .inl x :: st, M, 0, 0) Q := by
  refine ex_ic hf ht (fun e => h1 ?_) (fun e => h2 ?_)
  · exact of_decide_eq_true e
  · exact xv_nle (of_decide_eq_false e)
/-- a branch that is known -/
theorem xv_bt {cd : Jvm.ClassFile.Cond} {off : Int} {t : Nat} {x : Int32} (hf : ma_find pc (mt_prog.getD y []) = some (.ifCond cd off, 3)) (ht : (pc : Int) + off = Int.ofNat t) (hc : ma_c1 cd x = true) (h : Ex d y (t, L, st, M, 0, 0) Q) : Ex d y (pc, L, .inl x :: st, M, 0, 0) Q := ex_br hf ht (fun _ => h) (fun e => by rw [hc] at e; cases e)
theorem xv_bf {cd : Jvm.ClassFile.Cond} {off : Int} {t : Nat} {x : Int32} (hf : ma_find pc (mt_prog.getD y []) = some (.ifCond cd off, 3)) (ht : (pc : Int) + off = Int.ofNat t) (hc : ma_c1 cd x = false) (h : Ex d y (pc + 3, L, st, M, 0, 0) Q) : Ex d y (pc, L, .inl x :: st, M, 0, 0) Q := ex_br hf ht (fun e => by rw [hc] at e; cases e) (fun _ => h)
theorem xv_ct {cd : Jvm.ClassFile.Cond} {off : Int} {t : Nat} {x w : Int32} (hf : ma_find pc (mt_prog.getD y []) = some (.if_icmp cd off, 3)) (ht : (pc : Int) + off = Int.ofNat t) (hc : ma_c2 cd x w = true) (h : Ex d y (t, L, st, M, 0, 0) Q) : Ex d y (pc, L, .inl w :: .inl x :: st, M, 0, 0) Q := ex_ic hf ht (fun _ => h) (fun e => by rw [hc] at e; cases e)
theorem xv_cf {cd : Jvm.ClassFile.Cond} {off : Int} {t : Nat} {x w : Int32} (hf : ma_find pc (mt_prog.getD y []) = some (.if_icmp cd off, 3)) (ht : (pc : Int) + off = Int.ofNat t) (hc : ma_c2 cd x w = false) (h : Ex d y (pc + 3, L, st, M, 0, 0) Q) : Ex d y (pc, L, .inl w :: .inl x :: st, M, 0, 0) Q := ex_ic hf ht (fun e => by rw [hc] at e; cases e) (fun _ => h)
theorem xv_peq {p : Prop} [Decidable p] {off : Int} {t : Nat} (hf : ma_find pc (mt_prog.getD y []) = some (.ifCond .eq off, 3)) (ht : (pc : Int) + off = Int.ofNat t) (h1 : ¬p → Ex d y (t, L, st, M, 0, 0) Q) (h2 : p → Ex d y (pc + 3, L, st, M, 0, 0) Q) : Ex d y (pc, L, .inl (xv_b p) :: st, M, 0, 0) Q :=
  xv_beq hf ht (fun e => h1 (xv_beq0.mp e)) (fun e => h2 (xv_bne0.mp e))
theorem xv_pne {p : Prop} [Decidable p] {off : Int} {t : Nat} (hf : ma_find pc (mt_prog.getD y []) = some (.ifCond .ne off, 3)) (ht : (pc : Int) + off = Int.ofNat t) (h1 : p → Ex d y (t, L, st, M, 0, 0) Q) (h2 : ¬p → Ex d y (pc + 3, L, st, M, 0, 0) Q) : Ex d y (pc, L, .inl (xv_b p) :: st, M, 0, 0) Q :=
  xv_bne hf ht (fun e => h1 (xv_bne0.mp e)) (fun e => h2 (xv_beq0.mp e))
/-- a switch -/
def xv_tk (pc : Nat) (df lo hi : Int) (l : List Int) : Bool := decide (-2147483648 ≤ lo) && decide (hi ≤ 2147483647) && decide (lo + l.length = hi + 1) && l.all (fun o => decide (0 ≤ (pc : Int) + o)) && decide (0 ≤ (pc : Int) + df)
def xv_tw (d y pc : Nat) (L : List (Option ma_V)) (st : List ma_V) (M : ma_M) (Q : Option ma_V → ma_M → Prop) (df : Int) (x : Int32) (lo : Int) (l : List Int) : Prop := ma_sel (fun c' => Ex d y c' Q) False (some (((pc : Int) + df).toNat, L, st, M, 0, 0)) (ma_sw pc L M 0 0 x st lo l)
theorem xv_ts {df lo hi : Int} {os : Array Int} {n : Nat} {x : Int32} {l : List Int} (hf : ma_find pc (mt_prog.getD y []) = some (.tableswitch df lo hi os, n)) (hl : os.toList = l) (hc : xv_tk pc df lo hi l = true) (h : xv_tw d y pc L st M Q df x lo l) : Ex d y (pc, L, .inl x :: st, M, 0, 0) Q := by
  subst hl
  refine ex_do hf ?_ h
  show ma_ts pc L (.inl x :: st) M 0 0 df lo hi os = _
  unfold ma_ts
  dsimp only
  unfold xv_tk at hc
  rw [hc]
  rfl
theorem xv_tc {df lo : Int} {x v : Int32} {off : Int} {l : List Int} {t : Nat} (hv : Int32.ofInt lo = v) (ht : ((pc : Int) + off).toNat = t) (h1 : x = v → Ex d y (t, L, st, M, 0, 0) Q) (h2 : x ≠ v → xv_tw d y pc L st M Q df x (lo + 1) l) : xv_tw d y pc L st M Q df x lo (off :: l) := by
  subst hv
  subst ht
  unfold xv_tw ma_sw ma_sel
  by_cases e : x = Int32.ofInt lo
  · rw [decide_eq_true e]; exact h1 e
  · rw [decide_eq_false e]; exact h2 e
theorem xv_tn {df lo : Int} {x : Int32} {t : Nat} (ht : ((pc : Int) + df).toNat = t) (h : Ex d y (t, L, st, M, 0, 0) Q) : xv_tw d y pc L st M Q df x lo [] := by
  subst ht
  exact h
theorem xv_ks0 {own k z na : Nat} {as rs : List ma_V} (hf : ma_find pc (mt_prog.getD y []) = some (.invokestatic k, 3)) (hc : ck_ca y own k z na 0 [0, 1, 7, 8, 9] = true) (hst : st = as.reverse ++ rs) (hna : as.length = na) (hal : Nat.ble (ma_args as).length (mt_ml.getD z 0) = true) (hcat : Nat.ble (ma_cat rs) 8 = true) (h : Exm d z as I o (fun r I' o' => r = none ∧ Ex (d + 1) y (pc + 3, L, rs, ma_mem I' o', 0, 0) Q)) : Ex (d + 1) y (pc, L, st, ma_mem I o, 0, 0) Q := by
  refine ex_cl hf rfl hc hst hna hal hcat (Or.inr rfl) rfl rfl (Exm.mono h (fun r I' o' hh => ?_))
  obtain ⟨hr, hE⟩ := hh
  subst hr
  exact ⟨.inl 0, rfl, hE⟩
theorem xv_ks1 {own k z na : Nat} {as rs : List ma_V} (hf : ma_find pc (mt_prog.getD y []) = some (.invokestatic k, 3)) (hc : ck_ca y own k z na 1 [0, 1, 7, 8, 9] = true) (hst : st = as.reverse ++ rs) (hna : as.length = na) (hal : Nat.ble (ma_args as).length (mt_ml.getD z 0) = true) (hcat : Nat.ble (ma_cat rs) 8 = true) (h : Exm d z as I o (fun r I' o' => ∃ v : Int32, r = some (.inl v) ∧ Ex (d + 1) y (pc + 3, L, .inl v :: rs, ma_mem I' o', 0, 0) Q)) : Ex (d + 1) y (pc, L, st, ma_mem I o, 0, 0) Q := by
  refine ex_cl hf rfl hc hst hna hal hcat (Or.inr rfl) rfl rfl (Exm.mono h (fun r I' o' hh => ?_))
  obtain ⟨v, hr, hE⟩ := hh
  subst hr
  exact ⟨_, rfl, hE⟩
theorem xv_ks2 {own k z na : Nat} {as rs : List ma_V} (hf : ma_find pc (mt_prog.getD y []) = some (.invokestatic k, 3)) (hc : ck_ca y own k z na 2 [0, 1, 7, 8, 9] = true) (hst : st = as.reverse ++ rs) (hna : as.length = na) (hal : Nat.ble (ma_args as).length (mt_ml.getD z 0) = true) (hcat : Nat.ble (ma_cat rs) 8 = true) (h : Exm d z as I o (fun r I' o' => ∃ v : Int64, r = some (.inr (.inl v)) ∧ Ex (d + 1) y (pc + 3, L, .inr (.inl v) :: rs, ma_mem I' o', 0, 0) Q)) : Ex (d + 1) y (pc, L, st, ma_mem I o, 0, 0) Q := by
  refine ex_cl hf rfl hc hst hna hal hcat (Or.inr rfl) rfl rfl (Exm.mono h (fun r I' o' hh => ?_))
  obtain ⟨v, hr, hE⟩ := hh
  subst hr
  exact ⟨_, rfl, hE⟩
theorem xv_ks3 {own k z na : Nat} {as rs : List ma_V} (hf : ma_find pc (mt_prog.getD y []) = some (.invokestatic k, 3)) (hc : ck_ca y own k z na 3 [0, 1, 7, 8, 9] = true) (hst : st = as.reverse ++ rs) (hna : as.length = na) (hal : Nat.ble (ma_args as).length (mt_ml.getD z 0) = true) (hcat : Nat.ble (ma_cat rs) 8 = true) (h : Exm d z as I o (fun r I' o' => ∃ v : Nat × Nat, r = some (.inr (.inr v)) ∧ Ex (d + 1) y (pc + 3, L, .inr (.inr v) :: rs, ma_mem I' o', 0, 0) Q)) : Ex (d + 1) y (pc, L, st, ma_mem I o, 0, 0) Q := by
  refine ex_cl hf rfl hc hst hna hal hcat (Or.inr rfl) rfl rfl (Exm.mono h (fun r I' o' hh => ?_))
  obtain ⟨v, hr, hE⟩ := hh
  subst hr
  exact ⟨_, rfl, hE⟩
theorem xv_kv0 {own k z na : Nat} {as rs : List ma_V} (hf : ma_find pc (mt_prog.getD y []) = some (.invokevirtual k, 3)) (hc : ck_ca y own k z na 0 [2, 3] = true) (hst : st = as.reverse ++ rs) (hna : as.length = na) (hal : Nat.ble (ma_args as).length (mt_ml.getD z 0) = true) (hcat : Nat.ble (ma_cat rs) 8 = true) (hrc : ma_rc z as = true) (h : Exm d z as I o (fun r I' o' => r = none ∧ Ex (d + 1) y (pc + 3, L, rs, ma_mem I' o', 0, 0) Q)) : Ex (d + 1) y (pc, L, st, ma_mem I o, 0, 0) Q := by
  refine ex_cl hf rfl hc hst hna hal hcat (Or.inl hrc) rfl rfl (Exm.mono h (fun r I' o' hh => ?_))
  obtain ⟨hr, hE⟩ := hh
  subst hr
  exact ⟨.inl 0, rfl, hE⟩
theorem xv_kv1 {own k z na : Nat} {as rs : List ma_V} (hf : ma_find pc (mt_prog.getD y []) = some (.invokevirtual k, 3)) (hc : ck_ca y own k z na 1 [2, 3] = true) (hst : st = as.reverse ++ rs) (hna : as.length = na) (hal : Nat.ble (ma_args as).length (mt_ml.getD z 0) = true) (hcat : Nat.ble (ma_cat rs) 8 = true) (hrc : ma_rc z as = true) (h : Exm d z as I o (fun r I' o' => ∃ v : Int32, r = some (.inl v) ∧ Ex (d + 1) y (pc + 3, L, .inl v :: rs, ma_mem I' o', 0, 0) Q)) : Ex (d + 1) y (pc, L, st, ma_mem I o, 0, 0) Q := by
  refine ex_cl hf rfl hc hst hna hal hcat (Or.inl hrc) rfl rfl (Exm.mono h (fun r I' o' hh => ?_))
  obtain ⟨v, hr, hE⟩ := hh
  subst hr
  exact ⟨_, rfl, hE⟩
theorem xv_kv2 {own k z na : Nat} {as rs : List ma_V} (hf : ma_find pc (mt_prog.getD y []) = some (.invokevirtual k, 3)) (hc : ck_ca y own k z na 2 [2, 3] = true) (hst : st = as.reverse ++ rs) (hna : as.length = na) (hal : Nat.ble (ma_args as).length (mt_ml.getD z 0) = true) (hcat : Nat.ble (ma_cat rs) 8 = true) (hrc : ma_rc z as = true) (h : Exm d z as I o (fun r I' o' => ∃ v : Int64, r = some (.inr (.inl v)) ∧ Ex (d + 1) y (pc + 3, L, .inr (.inl v) :: rs, ma_mem I' o', 0, 0) Q)) : Ex (d + 1) y (pc, L, st, ma_mem I o, 0, 0) Q := by
  refine ex_cl hf rfl hc hst hna hal hcat (Or.inl hrc) rfl rfl (Exm.mono h (fun r I' o' hh => ?_))
  obtain ⟨v, hr, hE⟩ := hh
  subst hr
  exact ⟨_, rfl, hE⟩
theorem xv_kv3 {own k z na : Nat} {as rs : List ma_V} (hf : ma_find pc (mt_prog.getD y []) = some (.invokevirtual k, 3)) (hc : ck_ca y own k z na 3 [2, 3] = true) (hst : st = as.reverse ++ rs) (hna : as.length = na) (hal : Nat.ble (ma_args as).length (mt_ml.getD z 0) = true) (hcat : Nat.ble (ma_cat rs) 8 = true) (hrc : ma_rc z as = true) (h : Exm d z as I o (fun r I' o' => ∃ v : Nat × Nat, r = some (.inr (.inr v)) ∧ Ex (d + 1) y (pc + 3, L, .inr (.inr v) :: rs, ma_mem I' o', 0, 0) Q)) : Ex (d + 1) y (pc, L, st, ma_mem I o, 0, 0) Q := by
  refine ex_cl hf rfl hc hst hna hal hcat (Or.inl hrc) rfl rfl (Exm.mono h (fun r I' o' hh => ?_))
  obtain ⟨v, hr, hE⟩ := hh
  subst hr
  exact ⟨_, rfl, hE⟩
theorem xv_kp0 {own k z na : Nat} {as rs : List ma_V} (hf : ma_find pc (mt_prog.getD y []) = some (.invokespecial k, 3)) (hc : ck_ca y own k z na 0 [4, 5, 6] = true) (hst : st = as.reverse ++ rs) (hna : as.length = na) (hal : Nat.ble (ma_args as).length (mt_ml.getD z 0) = true) (hcat : Nat.ble (ma_cat rs) 8 = true) (hrc : ma_rc z as = true) (h : Exm d z as I o (fun r I' o' => r = none ∧ Ex (d + 1) y (pc + 3, L, rs, ma_mem I' o', 0, 0) Q)) : Ex (d + 1) y (pc, L, st, ma_mem I o, 0, 0) Q := by
  refine ex_cl hf rfl hc hst hna hal hcat (Or.inl hrc) rfl rfl (Exm.mono h (fun r I' o' hh => ?_))
  obtain ⟨hr, hE⟩ := hh
  subst hr
  exact ⟨.inl 0, rfl, hE⟩
theorem xv_kp1 {own k z na : Nat} {as rs : List ma_V} (hf : ma_find pc (mt_prog.getD y []) = some (.invokespecial k, 3)) (hc : ck_ca y own k z na 1 [4, 5, 6] = true) (hst : st = as.reverse ++ rs) (hna : as.length = na) (hal : Nat.ble (ma_args as).length (mt_ml.getD z 0) = true) (hcat : Nat.ble (ma_cat rs) 8 = true) (hrc : ma_rc z as = true) (h : Exm d z as I o (fun r I' o' => ∃ v : Int32, r = some (.inl v) ∧ Ex (d + 1) y (pc + 3, L, .inl v :: rs, ma_mem I' o', 0, 0) Q)) : Ex (d + 1) y (pc, L, st, ma_mem I o, 0, 0) Q := by
  refine ex_cl hf rfl hc hst hna hal hcat (Or.inl hrc) rfl rfl (Exm.mono h (fun r I' o' hh => ?_))
  obtain ⟨v, hr, hE⟩ := hh
  subst hr
  exact ⟨_, rfl, hE⟩
theorem xv_kp2 {own k z na : Nat} {as rs : List ma_V} (hf : ma_find pc (mt_prog.getD y []) = some (.invokespecial k, 3)) (hc : ck_ca y own k z na 2 [4, 5, 6] = true) (hst : st = as.reverse ++ rs) (hna : as.length = na) (hal : Nat.ble (ma_args as).length (mt_ml.getD z 0) = true) (hcat : Nat.ble (ma_cat rs) 8 = true) (hrc : ma_rc z as = true) (h : Exm d z as I o (fun r I' o' => ∃ v : Int64, r = some (.inr (.inl v)) ∧ Ex (d + 1) y (pc + 3, L, .inr (.inl v) :: rs, ma_mem I' o', 0, 0) Q)) : Ex (d + 1) y (pc, L, st, ma_mem I o, 0, 0) Q := by
  refine ex_cl hf rfl hc hst hna hal hcat (Or.inl hrc) rfl rfl (Exm.mono h (fun r I' o' hh => ?_))
  obtain ⟨v, hr, hE⟩ := hh
  subst hr
  exact ⟨_, rfl, hE⟩
theorem xv_kp3 {own k z na : Nat} {as rs : List ma_V} (hf : ma_find pc (mt_prog.getD y []) = some (.invokespecial k, 3)) (hc : ck_ca y own k z na 3 [4, 5, 6] = true) (hst : st = as.reverse ++ rs) (hna : as.length = na) (hal : Nat.ble (ma_args as).length (mt_ml.getD z 0) = true) (hcat : Nat.ble (ma_cat rs) 8 = true) (hrc : ma_rc z as = true) (h : Exm d z as I o (fun r I' o' => ∃ v : Nat × Nat, r = some (.inr (.inr v)) ∧ Ex (d + 1) y (pc + 3, L, .inr (.inr v) :: rs, ma_mem I' o', 0, 0) Q)) : Ex (d + 1) y (pc, L, st, ma_mem I o, 0, 0) Q := by
  refine ex_cl hf rfl hc hst hna hal hcat (Or.inl hrc) rfl rfl (Exm.mono h (fun r I' o' hh => ?_))
  obtain ⟨v, hr, hE⟩ := hh
  subst hr
  exact ⟨_, rfl, hE⟩
/-- the reader's text -/
theorem xv_our (o k : Nat) : ma_ur (ma_R0 o) 9 0 1 (19, k) = ma_R0 k := by
  funext g i j
  unfold ma_ur
  by_cases hg : g = 9
  · subst hg
    rw [if_pos rfl]
    by_cases hi : i = 0
    · subst hi
      rw [if_pos rfl]
      match j with
      | 0 => rfl
      | 1 => rfl
      | _ + 2 => rfl
    · rw [if_neg hi]
      show (if i = 0 then _ else _) = (if i = 0 then _ else _)
      rw [if_neg hi, if_neg hi]
  · rw [if_neg hg]
    unfold ma_R0
    split <;> first | rfl | (exfalso; exact hg rfl)
theorem xv_out {own k q : Nat} (hf : ma_find pc (mt_prog.getD y []) = some (.putfield k, 3)) (ho : mt_own.getD y 0 = own) (hc : (match ma_f4 k (mt_ft.getD own []) with | some (ci, j, _) => Nat.beq (ma_gk 9) (100 + ci) && ma_rf ci j && !(ma_ff ci j) && Nat.beq j 1 | none => false) = true) (h : Ex d y (pc + 3, L, st, ma_mem I q, 0, 0) Q) : Ex d y (pc, L, .inr (.inr (19, q)) :: .inr (.inr (9, 0)) :: st, ma_mem I o, 0, 0) Q := by
  refine ex_do hf (al := []) (df := some (pc + 3, L, st, ma_mem I q, 0, 0)) ?_ h
  show ma_pf pc L (.inr (.inr (19, q)) :: .inr (.inr (9, 0)) :: st) (ma_mem I o) 0 0 y (mt_own.getD y 0) k = _
  rw [ho]
  unfold ma_pf
  cases hq : ma_f4 k (mt_ft.getD own []) with
  | none => rw [hq] at hc; cases hc
  | some x =>
    obtain ⟨ci, j, p⟩ := x
    rw [hq] at hc
    simp only [Bool.and_eq_true, Bool.not_eq_true'] at hc
    obtain ⟨⟨⟨h1, h2⟩, h3⟩, h4⟩ := hc
    have e := Nat.eq_of_beq_eq_true h4
    subst e
    dsimp only
    rw [h1, h2, h3]
    show ma_nx (pc + 3, L, st, (ma_n0, I, ma_ur (ma_R0 o) 9 0 1 (19, q)), 0, 0) = _
    rw [xv_our]
    rfl
theorem xv_gfm (hf : ma_find pc (mt_prog.getD y []) = some (.getstatic 1053, 3)) (ho : mt_own.getD y 0 = 13) (h : Ex d y (pc + 3, L, .inr (.inr (4, 0)) :: st, M, 0, 0) Q) : Ex d y (pc, L, st, M, 0, 0) Q := by
  refine ex_do hf (al := []) (df := some (pc + 3, L, .inr (.inr (4, 0)) :: st, M, 0, 0)) ?_ h
  unfold ma_do
  dsimp only
  rw [ho]
  rfl
def xv_cq (w q n : Int32) (a b : Nat) : Prop := 0 ≤ w ∧ 0 ≤ q ∧ 0 ≤ n ∧ w.toNatClampNeg + n.toNatClampNeg ≤ a ∧ q.toNatClampNeg + n.toNatClampNeg ≤ b
theorem xv_acp {k own z p g i h0 k0 gn hn pn qn nn : Nat} {n q w : Int32} (hf : ma_find pc (mt_prog.getD y []) = some (.invokestatic k, 3)) (ho : mt_own.getD y 0 = own) (hk : ma_f4 k (mt_ct.getD own []) = some (z, 7, p)) (hg : (Nat.beq (ma_gk g) 1 && Nat.beq (ma_gk h0) 1 && Nat.ble 5 g && Nat.ble 5 h0 && Nat.ble 0 8) = true) (e1 : w.toNatClampNeg = pn) (e2 : q.toNatClampNeg = qn) (e3 : n.toNatClampNeg = nn) (e4 : ma_gl g = gn) (e5 : ma_gl h0 = hn) (hq : xv_cq w q n gn hn)
    (h : Ex d y (pc + 3, L, [], ma_mem (ma_cpy I g i pn h0 k0 qn nn) o, 0, 0) Q) : Ex d y (pc, L, [.inl n, .inl q, .inr (.inr (h0, k0)), .inl w, .inr (.inr (g, i))], ma_mem I o, 0, 0) Q := by
  subst e1
  subst e2
  subst e3
  subst e4
  subst e5
  exact ex_acp hf ho hk hg ⟨hq, h⟩
/-! small functions that calls without effect reckon -/
def xv_lo (a b : Int32) : Int32 := if a < b then a else b
def xv_hi (a b : Int32) : Int32 := if b < a then a else b
def xv_al (n : Int32) : Int32 := 1 <<< (n &&& 31) - 1
def xv_wi (v lo hi : Int32) : Int32 := if v < lo then lo else if hi < v then hi else v
def xv_rk (op : Int32) : Int32 := if op = 10 then 1 else if op = 11 then 2 else if op = 12 then 3 else if op = 13 ∨ op = 14 then 4 else if op = 15 ∨ op = 16 then 5 else if op = 17 then 6 else if op = 18 then 7 else 0
abbrev xv_un (kind k : Int32) : Prop := kind = k ∨ k = 0 ∨ (kind = 3 ∧ k = 1) ∨ (kind = 4 ∧ k = 2)
abbrev xv_ho (size i n : Int32) : Prop := 0 ≤ i ∧ 0 ≤ n ∧ i ≤ size ∧ n ≤ size - i
abbrev xv_sg (b : Int32) : Prop := b = 40 ∨ b = 41 ∨ b = 42 ∨ b = 43 ∨ b = 45 ∨ b = 59 ∨ b = 60 ∨ b = 61
def xv_dn (op a b : Int32) : Int32 := if op = 15 then a + b else if op = 16 then a - b else if op = 17 then a * b else if op = 13 then xv_b (a < b) else if op = 14 then xv_b (a = b) else if op = 11 then xv_b (a ≠ 0 ∧ b ≠ 0) else xv_b (a ≠ 0 ∨ b ≠ 0)
end XV

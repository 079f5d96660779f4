/-! ===== the machine, an instruction at a time ===== -/
section EXI
variable {d y pc : Nat} {L : List (Option ma_V)} {st : List ma_V} {M : ma_M} {a b : Nat} {Q : Option ma_V → ma_M → Prop}
theorem ex_do {i : Instr} {n : Nat} {al : List (Bool × ma_C)} {df : Option ma_C} (hf : ma_find pc (mt_prog.getD y []) = some (i, n)) (hs : ma_do pc L st M a b y i = .inl (al, df)) (h : ma_sel (fun c' => Ex d y c' Q) False df al) : Ex d y (pc, L, st, M, a, b) Q :=
  Ex.sel (by show (match ma_find pc (mt_prog.getD y []) with | some (i, _) => ma_do pc L st M a b y i | none => ma_no) = _; rw [hf]; exact hs) h
theorem ex_iload_n {k : Fin 4} {v : Int32} (hf : ma_find pc (mt_prog.getD y []) = some (.iload_n k, 1)) (hl : L[k.val]? = some (some (.inl v))) (h : Ex d y (pc + 1, L, .inl v :: st, M, a, b) Q) : Ex d y (pc, L, st, M, a, b) Q := by
  refine ex_do hf (al := []) (df := some (pc + 1, L, .inl v :: st, M, a, b)) ?_ h
  show ma_ldi pc L st M a b k.val 1 = _
  unfold ma_ldi
  rw [hl]
  rfl
theorem ex_iload {k : Nat} {v : Int32} (hf : ma_find pc (mt_prog.getD y []) = some (.iload k, 2)) (hl : L[k]? = some (some (.inl v))) (h : Ex d y (pc + 2, L, .inl v :: st, M, a, b) Q) : Ex d y (pc, L, st, M, a, b) Q := by
  refine ex_do hf (al := []) (df := some (pc + 2, L, .inl v :: st, M, a, b)) ?_ h
  show ma_ldi pc L st M a b k 2 = _
  unfold ma_ldi
  rw [hl]
  rfl
theorem ex_lload_n {k : Fin 4} {v : Int64} (hf : ma_find pc (mt_prog.getD y []) = some (.lload_n k, 1)) (hl : L[k.val]? = some (some (.inr (.inl v)))) (h : Ex d y (pc + 1, L, .inr (.inl v) :: st, M, a, b) Q) : Ex d y (pc, L, st, M, a, b) Q := by
  refine ex_do hf (al := []) (df := some (pc + 1, L, .inr (.inl v) :: st, M, a, b)) ?_ h
  show ma_ldl pc L st M a b k.val 1 = _
  unfold ma_ldl
  rw [hl]
  rfl
theorem ex_lload {k : Nat} {v : Int64} (hf : ma_find pc (mt_prog.getD y []) = some (.lload k, 2)) (hl : L[k]? = some (some (.inr (.inl v)))) (h : Ex d y (pc + 2, L, .inr (.inl v) :: st, M, a, b) Q) : Ex d y (pc, L, st, M, a, b) Q := by
  refine ex_do hf (al := []) (df := some (pc + 2, L, .inr (.inl v) :: st, M, a, b)) ?_ h
  show ma_ldl pc L st M a b k 2 = _
  unfold ma_ldl
  rw [hl]
  rfl
theorem ex_aload_n {k : Fin 4} {q : Nat × Nat} (hf : ma_find pc (mt_prog.getD y []) = some (.aload_n k, 1)) (hl : L[k.val]? = some (some (.inr (.inr q)))) (hq : ma_nn q = true) (h : Ex d y (pc + 1, L, .inr (.inr q) :: st, M, a, b) Q) : Ex d y (pc, L, st, M, a, b) Q := by
  refine ex_do hf (al := []) (df := some (pc + 1, L, .inr (.inr q) :: st, M, a, b)) ?_ h
  show ma_lda pc L st M a b k.val 1 = _
  unfold ma_lda
  rw [hl]
  dsimp only
  rw [hq]
  rfl
theorem ex_aload {k : Nat} {q : Nat × Nat} (hf : ma_find pc (mt_prog.getD y []) = some (.aload k, 2)) (hl : L[k]? = some (some (.inr (.inr q)))) (hq : ma_nn q = true) (h : Ex d y (pc + 2, L, .inr (.inr q) :: st, M, a, b) Q) : Ex d y (pc, L, st, M, a, b) Q := by
  refine ex_do hf (al := []) (df := some (pc + 2, L, .inr (.inr q) :: st, M, a, b)) ?_ h
  show ma_lda pc L st M a b k 2 = _
  unfold ma_lda
  rw [hl]
  dsimp only
  rw [hq]
  rfl
theorem ex_istore_n {k : Fin 4} {v : Int32} {L' : List (Option ma_V)} (hf : ma_find pc (mt_prog.getD y []) = some (.istore_n k, 1)) (hl : Nat.blt k.val L.length = true) (hL : ma_s1 L k.val (.inl v) = L') (h : Ex d y (pc + 1, L', st, M, a, b) Q) : Ex d y (pc, L, .inl v :: st, M, a, b) Q := by
  subst hL
  refine ex_do hf (al := []) (df := some (pc + 1, ma_s1 L k.val (.inl v), st, M, a, b)) ?_ h
  show ma_sti pc L (.inl v :: st) M a b k.val 1 = _
  unfold ma_sti
  dsimp only
  rw [hl]
  rfl
theorem ex_istore {k : Nat} {v : Int32} {L' : List (Option ma_V)} (hf : ma_find pc (mt_prog.getD y []) = some (.istore k, 2)) (hl : Nat.blt k L.length = true) (hL : ma_s1 L k (.inl v) = L') (h : Ex d y (pc + 2, L', st, M, a, b) Q) : Ex d y (pc, L, .inl v :: st, M, a, b) Q := by
  subst hL
  refine ex_do hf (al := []) (df := some (pc + 2, ma_s1 L k (.inl v), st, M, a, b)) ?_ h
  show ma_sti pc L (.inl v :: st) M a b k 2 = _
  unfold ma_sti
  dsimp only
  rw [hl]
  rfl
theorem ex_lstore {k : Nat} {v : Int64} {L' : List (Option ma_V)} (hf : ma_find pc (mt_prog.getD y []) = some (.lstore k, 2)) (hl : Nat.blt (k + 1) L.length = true) (hL : ma_s2 L k (.inr (.inl v)) = L') (h : Ex d y (pc + 2, L', st, M, a, b) Q) : Ex d y (pc, L, .inr (.inl v) :: st, M, a, b) Q := by
  subst hL
  refine ex_do hf (al := []) (df := some (pc + 2, ma_s2 L k (.inr (.inl v)), st, M, a, b)) ?_ h
  show ma_stl pc L (.inr (.inl v) :: st) M a b k 2 = _
  unfold ma_stl
  dsimp only
  rw [hl]
  rfl
theorem ex_astore_n {k : Fin 4} {q : Nat × Nat} {L' : List (Option ma_V)} (hf : ma_find pc (mt_prog.getD y []) = some (.astore_n k, 1)) (hl : Nat.blt k.val L.length = true) (hq : ma_nn q = true) (hL : ma_s1 L k.val (.inr (.inr q)) = L') (h : Ex d y (pc + 1, L', st, M, a, b) Q) : Ex d y (pc, L, .inr (.inr q) :: st, M, a, b) Q := by
  subst hL
  refine ex_do hf (al := []) (df := some (pc + 1, ma_s1 L k.val (.inr (.inr q)), st, M, a, b)) ?_ h
  show ma_sta pc L (.inr (.inr q) :: st) M a b k.val 1 = _
  unfold ma_sta
  dsimp only
  rw [hl, hq]
  rfl
theorem ex_astore {k : Nat} {q : Nat × Nat} {L' : List (Option ma_V)} (hf : ma_find pc (mt_prog.getD y []) = some (.astore k, 2)) (hl : Nat.blt k L.length = true) (hq : ma_nn q = true) (hL : ma_s1 L k (.inr (.inr q)) = L') (h : Ex d y (pc + 2, L', st, M, a, b) Q) : Ex d y (pc, L, .inr (.inr q) :: st, M, a, b) Q := by
  subst hL
  refine ex_do hf (al := []) (df := some (pc + 2, ma_s1 L k (.inr (.inr q)), st, M, a, b)) ?_ h
  show ma_sta pc L (.inr (.inr q) :: st) M a b k 2 = _
  unfold ma_sta
  dsimp only
  rw [hl, hq]
  rfl
theorem ex_iinc {k : Nat} {c : Int} {v : Int32} {L' : List (Option ma_V)} (hf : ma_find pc (mt_prog.getD y []) = some (.iinc k c, 3)) (hl : L[k]? = some (some (.inl v))) (hL : ma_s1 L k (.inl (v + Int32.ofInt c)) = L') (h : Ex d y (pc + 3, L', st, M, a, b) Q) : Ex d y (pc, L, st, M, a, b) Q := by
  subst hL
  refine ex_do hf (al := []) (df := some (pc + 3, ma_s1 L k (.inl (v + Int32.ofInt c)), st, M, a, b)) ?_ h
  show ma_inc pc L st M a b k c = _
  unfold ma_inc
  rw [hl]
  rfl
theorem ex_iconst {c : Int} (hf : ma_find pc (mt_prog.getD y []) = some (.iconst c, 1)) {v : Int32} (hv : Int32.ofInt c = v) (h : Ex d y (pc + 1, L, .inl v :: st, M, a, b) Q) : Ex d y (pc, L, st, M, a, b) Q := by
  subst hv
  exact ex_do hf (al := []) (df := some (pc + 1, L, .inl (Int32.ofInt c) :: st, M, a, b)) rfl h
theorem ex_bipush {c : Int} (hf : ma_find pc (mt_prog.getD y []) = some (.bipush c, 2)) {v : Int32} (hv : (Int8.ofInt c).toInt32 = v) (h : Ex d y (pc + 2, L, .inl v :: st, M, a, b) Q) : Ex d y (pc, L, st, M, a, b) Q := by
  subst hv
  exact ex_do hf (al := []) (df := some (pc + 2, L, .inl ((Int8.ofInt c).toInt32) :: st, M, a, b)) rfl h
theorem ex_sipush {c : Int} (hf : ma_find pc (mt_prog.getD y []) = some (.sipush c, 3)) {v : Int32} (hv : (Int16.ofInt c).toInt32 = v) (h : Ex d y (pc + 3, L, .inl v :: st, M, a, b) Q) : Ex d y (pc, L, st, M, a, b) Q := by
  subst hv
  exact ex_do hf (al := []) (df := some (pc + 3, L, .inl ((Int16.ofInt c).toInt32) :: st, M, a, b)) rfl h
theorem ex_iadd {x w : Int32} (hf : ma_find pc (mt_prog.getD y []) = some (.iadd, 1)) (h : Ex d y (pc + 1, L, .inl (x + w) :: st, M, a, b) Q) : Ex d y (pc, L, .inl w :: .inl x :: st, M, a, b) Q :=
  ex_do hf (al := []) (df := some (pc + 1, L, .inl (x + w) :: st, M, a, b)) rfl h
theorem ex_isub {x w : Int32} (hf : ma_find pc (mt_prog.getD y []) = some (.isub, 1)) (h : Ex d y (pc + 1, L, .inl (x - w) :: st, M, a, b) Q) : Ex d y (pc, L, .inl w :: .inl x :: st, M, a, b) Q :=
  ex_do hf (al := []) (df := some (pc + 1, L, .inl (x - w) :: st, M, a, b)) rfl h
theorem ex_imul {x w : Int32} (hf : ma_find pc (mt_prog.getD y []) = some (.imul, 1)) (h : Ex d y (pc + 1, L, .inl (x * w) :: st, M, a, b) Q) : Ex d y (pc, L, .inl w :: .inl x :: st, M, a, b) Q :=
  ex_do hf (al := []) (df := some (pc + 1, L, .inl (x * w) :: st, M, a, b)) rfl h
theorem ex_iand {x w : Int32} (hf : ma_find pc (mt_prog.getD y []) = some (.iand, 1)) (h : Ex d y (pc + 1, L, .inl (x &&& w) :: st, M, a, b) Q) : Ex d y (pc, L, .inl w :: .inl x :: st, M, a, b) Q :=
  ex_do hf (al := []) (df := some (pc + 1, L, .inl (x &&& w) :: st, M, a, b)) rfl h
theorem ex_ior {x w : Int32} (hf : ma_find pc (mt_prog.getD y []) = some (.ior, 1)) (h : Ex d y (pc + 1, L, .inl (x ||| w) :: st, M, a, b) Q) : Ex d y (pc, L, .inl w :: .inl x :: st, M, a, b) Q :=
  ex_do hf (al := []) (df := some (pc + 1, L, .inl (x ||| w) :: st, M, a, b)) rfl h
theorem ex_ixor {x w : Int32} (hf : ma_find pc (mt_prog.getD y []) = some (.ixor, 1)) (h : Ex d y (pc + 1, L, .inl (x ^^^ w) :: st, M, a, b) Q) : Ex d y (pc, L, .inl w :: .inl x :: st, M, a, b) Q :=
  ex_do hf (al := []) (df := some (pc + 1, L, .inl (x ^^^ w) :: st, M, a, b)) rfl h
theorem ex_ishl {x w : Int32} (hf : ma_find pc (mt_prog.getD y []) = some (.ishl, 1)) (h : Ex d y (pc + 1, L, .inl (x <<< (w &&& 31)) :: st, M, a, b) Q) : Ex d y (pc, L, .inl w :: .inl x :: st, M, a, b) Q :=
  ex_do hf (al := []) (df := some (pc + 1, L, .inl (x <<< (w &&& 31)) :: st, M, a, b)) rfl h
theorem ex_ishr {x w : Int32} (hf : ma_find pc (mt_prog.getD y []) = some (.ishr, 1)) (h : Ex d y (pc + 1, L, .inl (x >>> (w &&& 31)) :: st, M, a, b) Q) : Ex d y (pc, L, .inl w :: .inl x :: st, M, a, b) Q :=
  ex_do hf (al := []) (df := some (pc + 1, L, .inl (x >>> (w &&& 31)) :: st, M, a, b)) rfl h
theorem ex_iushr {x w : Int32} (hf : ma_find pc (mt_prog.getD y []) = some (.iushr, 1)) (h : Ex d y (pc + 1, L, .inl ((x.toUInt32 >>> (w.toUInt32 &&& Int32.toUInt32 31)).toInt32) :: st, M, a, b) Q) : Ex d y (pc, L, .inl w :: .inl x :: st, M, a, b) Q :=
  ex_do hf (al := []) (df := some (pc + 1, L, .inl ((x.toUInt32 >>> (w.toUInt32 &&& Int32.toUInt32 31)).toInt32) :: st, M, a, b)) rfl h
theorem ex_idiv {x w : Int32} (hf : ma_find pc (mt_prog.getD y []) = some (.idiv, 1)) (h : w ≠ 0 ∧ Ex d y (pc + 1, L, .inl (x / w) :: st, M, a, b) Q) : Ex d y (pc, L, .inl w :: .inl x :: st, M, a, b) Q := by
  refine ex_do hf (al := [(!(decide (w = 0)), (pc + 1, L, .inl (x / w) :: st, M, a, b))]) (df := none) rfl ?_
  unfold ma_sel
  rw [decide_eq_false h.1]
  exact h.2
theorem ex_irem {x w : Int32} (hf : ma_find pc (mt_prog.getD y []) = some (.irem, 1)) (h : w ≠ 0 ∧ Ex d y (pc + 1, L, .inl (x - x / w * w) :: st, M, a, b) Q) : Ex d y (pc, L, .inl w :: .inl x :: st, M, a, b) Q := by
  refine ex_do hf (al := [(!(decide (w = 0)), (pc + 1, L, .inl (x - x / w * w) :: st, M, a, b))]) (df := none) rfl ?_
  unfold ma_sel
  rw [decide_eq_false h.1]
  exact h.2
theorem ex_ineg {x : Int32} (hf : ma_find pc (mt_prog.getD y []) = some (.ineg, 1)) (h : Ex d y (pc + 1, L, .inl (-x) :: st, M, a, b) Q) : Ex d y (pc, L, .inl x :: st, M, a, b) Q :=
  ex_do hf (al := []) (df := some (pc + 1, L, .inl (-x) :: st, M, a, b)) rfl h
theorem ex_i2b {x : Int32} (hf : ma_find pc (mt_prog.getD y []) = some (.i2b, 1)) (h : Ex d y (pc + 1, L, .inl (x.toInt8.toInt32) :: st, M, a, b) Q) : Ex d y (pc, L, .inl x :: st, M, a, b) Q :=
  ex_do hf (al := []) (df := some (pc + 1, L, .inl (x.toInt8.toInt32) :: st, M, a, b)) rfl h
theorem ex_i2s {x : Int32} (hf : ma_find pc (mt_prog.getD y []) = some (.i2s, 1)) (h : Ex d y (pc + 1, L, .inl (x.toInt16.toInt32) :: st, M, a, b) Q) : Ex d y (pc, L, .inl x :: st, M, a, b) Q :=
  ex_do hf (al := []) (df := some (pc + 1, L, .inl (x.toInt16.toInt32) :: st, M, a, b)) rfl h
theorem ex_i2c {x : Int32} (hf : ma_find pc (mt_prog.getD y []) = some (.i2c, 1)) (h : Ex d y (pc + 1, L, .inl ((x.toUInt32 % 65536).toInt32) :: st, M, a, b) Q) : Ex d y (pc, L, .inl x :: st, M, a, b) Q :=
  ex_do hf (al := []) (df := some (pc + 1, L, .inl ((x.toUInt32 % 65536).toInt32) :: st, M, a, b)) rfl h
theorem ex_goto {off : Int} {t : Nat} (hf : ma_find pc (mt_prog.getD y []) = some (.goto off, 3)) (ht : (pc : Int) + off = Int.ofNat t) (h : Ex d y (t, L, st, M, a, b) Q) : Ex d y (pc, L, st, M, a, b) Q := by
  refine ex_do hf (al := []) (df := some (t, L, st, M, a, b)) ?_ h
  show ma_go1 pc L st M a b off = _
  unfold ma_go1
  rw [ht]
  rfl
theorem ex_br {cd : Jvm.ClassFile.Cond} {off : Int} {t : Nat} {x : Int32} (hf : ma_find pc (mt_prog.getD y []) = some (.ifCond cd off, 3)) (ht : (pc : Int) + off = Int.ofNat t) (h1 : ma_c1 cd x = true → Ex d y (t, L, st, M, a, b) Q) (h2 : ma_c1 cd x = false → Ex d y (pc + 3, L, st, M, a, b) Q) : Ex d y (pc, L, .inl x :: st, M, a, b) Q := by
  refine ex_do hf (al := [(ma_c1 cd x, (t, L, st, M, a, b))]) (df := some (pc + 3, L, st, M, a, b)) ?_ ?_
  · show ma_if pc L (.inl x :: st) M a b cd off = _
    unfold ma_if
    rw [ht]
    rfl
  · unfold ma_sel
    cases hc : ma_c1 cd x with
    | true => exact h1 hc
    | false => exact h2 hc
theorem ex_ic {cd : Jvm.ClassFile.Cond} {off : Int} {t : Nat} {x w : Int32} (hf : ma_find pc (mt_prog.getD y []) = some (.if_icmp cd off, 3)) (ht : (pc : Int) + off = Int.ofNat t) (h1 : ma_c2 cd x w = true → Ex d y (t, L, st, M, a, b) Q) (h2 : ma_c2 cd x w = false → Ex d y (pc + 3, L, st, M, a, b) Q) : Ex d y (pc, L, .inl w :: .inl x :: st, M, a, b) Q := by
  refine ex_do hf (al := [(ma_c2 cd x w, (t, L, st, M, a, b))]) (df := some (pc + 3, L, st, M, a, b)) ?_ ?_
  · show ma_ic pc L (.inl w :: .inl x :: st) M a b cd off = _
    unfold ma_ic
    rw [ht]
    rfl
  · unfold ma_sel
    cases hc : ma_c2 cd x w with
    | true => exact h1 hc
    | false => exact h2 hc
end EXI

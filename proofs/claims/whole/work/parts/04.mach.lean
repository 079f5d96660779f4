/-! ===== the machine of this claim: values, memory, a step, runs. A reference is (group, number); group 0 is null ===== -/
abbrev ma_V : Type := Int32 ⊕ (Int64 ⊕ (Nat × Nat))
abbrev ma_I : Type := Nat → Nat → Nat → Int32
abbrev ma_R : Type := Nat → Nat → Nat → Nat × Nat
/-- how many cells a group has, the ints, the references -/
abbrev ma_M : Type := (Nat → Nat) × ma_I × ma_R
/-- pc, locals, operands, memory, cells and slots made by this call -/
abbrev ma_C : Type := Nat × List (Option ma_V) × List ma_V × ma_M × Nat × Nat
/-- what an instruction does: goes on by the first true alternative, or returns, or calls -/
abbrev ma_A : Type := (List (Bool × ma_C) × Option ma_C) ⊕ ((Bool × Option ma_V × ma_M) ⊕ (Nat × List ma_V × ma_M × (ma_V → ma_M → ma_C)))
def ma_nx (c : ma_C) : ma_A := .inl ([], some c)
def ma_gd (b : Bool) (c : ma_C) : ma_A := .inl ([(b, c)], none)
def ma_br (b : Bool) (c d : ma_C) : ma_A := .inl ([(b, c)], some d)
def ma_no : ma_A := .inl ([], none)
def ma_up (I : ma_I) (g i j : Nat) (v : Int32) : ma_I := fun a b c => if a = g then if b = i then if c = j then v else I a b c else I a b c else I a b c
def ma_ur (I : ma_R) (g i j : Nat) (v : Nat × Nat) : ma_R := fun a b c => if a = g then if b = i then if c = j then v else I a b c else I a b c else I a b c
def ma_find (pc : Nat) : List (Nat × Instr × Nat) → Option (Instr × Nat)
  | [] => none
  | q :: r => bif Nat.beq q.1 pc then some q.2 else ma_find pc r
def ma_f4 (k : Nat) : List (Nat × Nat × Nat × Nat) → Option (Nat × Nat × Nat)
  | [] => none
  | q :: r => bif Nat.beq q.1 k then some q.2 else ma_f4 k r
def ma_fk {α : Type} (k : Nat) : List (Nat × α × Nat) → Option (α × Nat)
  | [] => none
  | q :: r => bif Nat.beq q.1 k then some q.2 else ma_fk k r
def ma_fn (y pc : Nat) : List (Nat × Nat × Nat) → Option Nat
  | [] => none
  | q :: r => bif (Nat.beq q.1 y && Nat.beq q.2.1 pc) then some q.2.2 else ma_fn y pc r
def ma_gk (g : Nat) : Nat := mt_gk.getD g 0
def ma_gl (g : Nat) : Nat := mt_gl.getD g 0
def ma_len (M : ma_M) (g i : Nat) : Nat := bif Nat.beq g 1 then (M.2.1 1 1 0).toNatClampNeg else bif Nat.beq g 3 then (mt_sb.getD i []).length else ma_gl g
def ma_rf (ci j : Nat) : Bool := (mt_rf.getD ci []).getD j false
def ma_bf (ci j : Nat) : Bool := (mt_bf.getD ci []).getD j false
def ma_ff (ci j : Nat) : Bool := (mt_ff.getD ci []).getD j false
def ma_ix (j : Int32) (n : Nat) : Bool := decide (0 ≤ j) && decide (j.toNatClampNeg < n)
def ma_b01 (v : Int32) : Bool := decide (v = 0) || decide (v = 1)
def ma_clr (ls : List (Option ma_V)) (k : Nat) : List (Option ma_V) := match k with
  | 0 => ls
  | k + 1 => match ls[k]? with
    | some (some (.inr (.inl _))) => ls.set k none
    | _ => ls
def ma_s1 (ls : List (Option ma_V)) (k : Nat) (v : ma_V) : List (Option ma_V) := (ma_clr ls k).set k (some v)
def ma_s2 (ls : List (Option ma_V)) (k : Nat) (v : ma_V) : List (Option ma_V) := ((ma_clr ls k).set k (some v)).set (k + 1) none
def ma_cat : List ma_V → Nat
  | [] => 0
  | .inr (.inl _) :: r => 2 + ma_cat r
  | _ :: r => 1 + ma_cat r
def ma_args : List ma_V → List (Option ma_V)
  | [] => []
  | .inr (.inl v) :: r => some (.inr (.inl v)) :: none :: ma_args r
  | v :: r => some v :: ma_args r
/-- a reference that is there -/
def ma_nn (q : Nat × Nat) : Bool := !(Nat.beq q.1 0) && !(Nat.beq q.1 4)
section MA
variable (pc : Nat) (ls : List (Option ma_V)) (st : List ma_V) (M : ma_M) (a b : Nat)
def ma_ldi (k n : Nat) : ma_A := match ls[k]? with
  | some (some (.inl v)) => ma_nx (pc + n, ls, .inl v :: st, M, a, b)
  | _ => ma_no
def ma_ldl (k n : Nat) : ma_A := match ls[k]? with
  | some (some (.inr (.inl v))) => ma_nx (pc + n, ls, .inr (.inl v) :: st, M, a, b)
  | _ => ma_no
def ma_lda (k n : Nat) : ma_A := match ls[k]? with
  | some (some (.inr (.inr q))) => bif ma_nn q then ma_nx (pc + n, ls, .inr (.inr q) :: st, M, a, b) else ma_no
  | _ => ma_no
def ma_sti (k n : Nat) : ma_A := match st with
  | .inl v :: r => bif Nat.blt k ls.length then ma_nx (pc + n, ma_s1 ls k (.inl v), r, M, a, b) else ma_no
  | _ => ma_no
def ma_stl (k n : Nat) : ma_A := match st with
  | .inr (.inl v) :: r => bif Nat.blt (k + 1) ls.length then ma_nx (pc + n, ma_s2 ls k (.inr (.inl v)), r, M, a, b) else ma_no
  | _ => ma_no
def ma_sta (k n : Nat) : ma_A := match st with
  | .inr (.inr q) :: r => bif Nat.blt k ls.length && ma_nn q then ma_nx (pc + n, ma_s1 ls k (.inr (.inr q)), r, M, a, b) else ma_no
  | _ => ma_no
def ma_inc (k : Nat) (c : Int) : ma_A := match ls[k]? with
  | some (some (.inl v)) => ma_nx (pc + 3, ma_s1 ls k (.inl (v + Int32.ofInt c)), st, M, a, b)
  | _ => ma_no
def ma_pi (n : Nat) (v : Int32) : ma_A := ma_nx (pc + n, ls, .inl v :: st, M, a, b)
def ma_pl (n : Nat) (v : Int64) : ma_A := ma_nx (pc + n, ls, .inr (.inl v) :: st, M, a, b)
def ma_ii (f : Int32 → Int32 → Int32) : ma_A := match st with
  | .inl y :: .inl x :: r => ma_nx (pc + 1, ls, .inl (f x y) :: r, M, a, b)
  | _ => ma_no
def ma_iz (f : Int32 → Int32 → Int32) : ma_A := match st with
  | .inl y :: .inl x :: r => ma_gd (!(decide (y = 0))) (pc + 1, ls, .inl (f x y) :: r, M, a, b)
  | _ => ma_no
def ma_i1 (f : Int32 → Int32) : ma_A := match st with
  | .inl x :: r => ma_nx (pc + 1, ls, .inl (f x) :: r, M, a, b)
  | _ => ma_no
def ma_ll (f : Int64 → Int64 → Int64) : ma_A := match st with
  | .inr (.inl y) :: .inr (.inl x) :: r => ma_nx (pc + 1, ls, .inr (.inl (f x y)) :: r, M, a, b)
  | _ => ma_no
def ma_lz (f : Int64 → Int64 → Int64) : ma_A := match st with
  | .inr (.inl y) :: .inr (.inl x) :: r => ma_gd (!(decide (y = 0))) (pc + 1, ls, .inr (.inl (f x y)) :: r, M, a, b)
  | _ => ma_no
def ma_cmp : ma_A := match st with
  | .inr (.inl y) :: .inr (.inl x) :: r => ma_nx (pc + 1, ls, .inl (lg_cmp x y) :: r, M, a, b)
  | _ => ma_no
def ma_il2 : ma_A := match st with
  | .inl x :: r => ma_nx (pc + 1, ls, .inr (.inl x.toInt64) :: r, M, a, b)
  | _ => ma_no
def ma_li2 : ma_A := match st with
  | .inr (.inl x) :: r => ma_nx (pc + 1, ls, .inl x.toInt32 :: r, M, a, b)
  | _ => ma_no
def ma_go1 (off : Int) : ma_A := match (pc : Int) + off with
  | .ofNat t => ma_nx (t, ls, st, M, a, b)
  | _ => ma_no
def ma_c1 (cd : Jvm.ClassFile.Cond) (x : Int32) : Bool := match cd with
  | .eq => decide (x = 0) | .ne => !(decide (x = 0)) | .lt => decide (x < 0) | .ge => decide (0 ≤ x) | .gt => decide (0 < x) | .le => decide (x ≤ 0)
def ma_c2 (cd : Jvm.ClassFile.Cond) (x y : Int32) : Bool := match cd with
  | .eq => decide (x = y) | .ne => !(decide (x = y)) | .lt => decide (x < y) | .ge => decide (y ≤ x) | .gt => decide (y < x) | .le => decide (x ≤ y)
def ma_if (cd : Jvm.ClassFile.Cond) (off : Int) : ma_A := match (pc : Int) + off, st with
  | .ofNat t, .inl x :: r => ma_br (ma_c1 cd x) (t, ls, r, M, a, b) (pc + 3, ls, r, M, a, b)
  | _, _ => ma_no
def ma_ic (cd : Jvm.ClassFile.Cond) (off : Int) : ma_A := match (pc : Int) + off, st with
  | .ofNat t, .inl y :: .inl x :: r => ma_br (ma_c2 cd x y) (t, ls, r, M, a, b) (pc + 3, ls, r, M, a, b)
  | _, _ => ma_no
/-- the alternatives of a switch; all offsets lead to places -/
def ma_sw (x : Int32) (r : List ma_V) : Int → List Int → List (Bool × ma_C)
  | _, [] => []
  | lo, o :: os => (decide (x = Int32.ofInt lo), ((pc : Int) + o).toNat, ls, r, M, a, b) :: ma_sw x r (lo + 1) os
def ma_ts (df lo hi : Int) (os : Array Int) : ma_A := match st with
  | .inl x :: r => bif decide (-2147483648 ≤ lo) && decide (hi ≤ 2147483647) && decide (lo + os.toList.length = hi + 1) && os.toList.all (fun o => decide (0 ≤ (pc : Int) + o)) && decide (0 ≤ (pc : Int) + df) then
      .inl (ma_sw pc ls M a b x r lo os.toList, some (((pc : Int) + df).toNat, ls, r, M, a, b)) else ma_no
  | _ => ma_no
def ma_ald (k1 k2 : Nat) : ma_A := match st with
  | .inl j :: .inr (.inr (g, i)) :: r => bif Nat.beq (ma_gk g) k1 || Nat.beq (ma_gk g) k2 then ma_gd (ma_ix j (ma_len M g i)) (pc + 1, ls, .inl (M.2.1 g i j.toNatClampNeg) :: r, M, a, b) else ma_no
  | _ => ma_no
def ma_aad : ma_A := match st with
  | .inl j :: .inr (.inr (g, i)) :: r => bif Nat.ble 10 (ma_gk g) && Nat.blt (ma_gk g) 100 then ma_gd (ma_ix j (ma_gl g)) (pc + 1, ls, .inr (.inr (M.2.2 g i j.toNatClampNeg)) :: r, M, a, b) else ma_no
  | _ => ma_no
def ma_ast (k1 : Nat) (ok : Int32 → Bool) : ma_A := match st with
  | .inl v :: .inl j :: .inr (.inr (g, i)) :: r => bif Nat.beq (ma_gk g) k1 && Nat.ble 5 g then ma_gd (ma_ix j (ma_gl g) && ok v) (pc + 1, ls, r, (M.1, ma_up M.2.1 g i j.toNatClampNeg v, M.2.2), a, b) else ma_no
  | _ => ma_no
def ma_aas : ma_A := match st with
  | .inr (.inr (h, k)) :: .inl j :: .inr (.inr (g, i)) :: r => bif Nat.ble 10 (ma_gk g) && Nat.blt (ma_gk g) 100 && Nat.beq (ma_gk h) (ma_gk g + 90) && Nat.ble 5 g then ma_gd (ma_ix j (ma_gl g)) (pc + 1, ls, r, (M.1, M.2.1, ma_ur M.2.2 g i j.toNatClampNeg (h, k)), a, b) else ma_no
  | _ => ma_no
def ma_aln : ma_A := match st with
  | .inr (.inr (g, i)) :: r => bif Nat.ble 1 (ma_gk g) && Nat.blt (ma_gk g) 100 then ma_nx (pc + 1, ls, .inl (Int32.ofNat (ma_len M g i)) :: r, M, a, b) else ma_no
  | _ => ma_no
def ma_gf (own idx : Nat) : ma_A := match ma_f4 idx (mt_ft.getD own []), st with
  | some (ci, j, _), .inr (.inr (g, i)) :: r =>
    bif Nat.beq ci 13 then (bif Nat.beq g 2 then (bif Nat.beq j 0 then ma_nx (pc + 3, ls, .inr (.inr (3, i)) :: r, M, a, b) else ma_nx (pc + 3, ls, .inl 0 :: r, M, a, b)) else ma_no)
    else bif Nat.beq (ma_gk g) (100 + ci) then (bif ma_rf ci j then ma_nx (pc + 3, ls, .inr (.inr (M.2.2 g i j)) :: r, M, a, b) else ma_nx (pc + 3, ls, .inl (M.2.1 g i j) :: r, M, a, b)) else ma_no
  | _, _ => ma_no
def ma_pf (y own idx : Nat) : ma_A := match ma_f4 idx (mt_ft.getD own []), st with
  | some (ci, j, _), .inl v :: .inr (.inr (g, i)) :: r =>
    bif Nat.beq (ma_gk g) (100 + ci) && !(ma_rf ci j) && (!(ma_ff ci j) || (mt_ini.getD y false && Nat.beq own ci)) then (bif ma_bf ci j then ma_gd (ma_b01 v) (pc + 3, ls, r, (M.1, ma_up M.2.1 g i j v, M.2.2), a, b) else ma_nx (pc + 3, ls, r, (M.1, ma_up M.2.1 g i j v, M.2.2), a, b)) else ma_no
  | some (ci, j, _), .inr (.inr q) :: .inr (.inr (g, i)) :: r =>
    bif Nat.beq (ma_gk g) (100 + ci) && ma_rf ci j && ma_nn q && (!(ma_ff ci j) || (mt_ini.getD y false && Nat.beq own ci)) then ma_nx (pc + 3, ls, r, (M.1, M.2.1, ma_ur M.2.2 g i j q), a, b) else ma_no
  | _, _ => ma_no
/-- a new cell of a group: all 0, all null -/
def ma_mk (g : Nat) : ma_M := (fun h => if h = g then M.1 g + 1 else M.1 h, fun x y z => if x = g then if y = M.1 g then 0 else M.2.1 x y z else M.2.1 x y z, fun x y z => if x = g then if y = M.1 g then (0, 0) else M.2.2 x y z else M.2.2 x y z)
def ma_new (y : Nat) (k : Nat → Bool) : ma_A := match ma_fn y pc mt_nt with
  | some g => bif k g && Nat.ble (a + 1) (mt_mc.getD y (0, 0)).1 && Nat.ble (b + ma_gl g) (mt_mc.getD y (0, 0)).2 then ma_nx (pc + 3, ls, .inr (.inr (g, M.1 g)) :: st, ma_mk M g, a + 1, b + ma_gl g) else ma_no
  | none => ma_no
def ma_nwa (y n : Nat) (k : Nat → Bool) : ma_A := match ma_fn y pc mt_nt, st with
  | some g, .inl v :: r => bif k g && decide (v = Int32.ofNat (ma_gl g)) && Nat.ble (a + 1) (mt_mc.getD y (0, 0)).1 && Nat.ble (b + ma_gl g) (mt_mc.getD y (0, 0)).2 then ma_nx (pc + n, ls, .inr (.inr (g, M.1 g)) :: r, ma_mk M g, a + 1, b + ma_gl g) else ma_no
  | _, _ => ma_no
/-- what is copied from one row to another -/
def ma_cpy (I : ma_I) (g i p h k q n : Nat) : ma_I := fun x y z => if x = h then if y = k then if q ≤ z ∧ z < q + n then I g i (p + (z - q)) else I x y z else I x y z else I x y z
def ma_acp : ma_A := match st with
  | .inl n :: .inl q :: .inr (.inr (h, k)) :: .inl p :: .inr (.inr (g, i)) :: r => bif Nat.beq (ma_gk g) 1 && Nat.beq (ma_gk h) 1 && Nat.ble 5 g && Nat.ble 5 h && Nat.ble (ma_cat r) 8 then
      ma_gd (decide (0 ≤ p) && decide (0 ≤ q) && decide (0 ≤ n) && decide (p.toNatClampNeg + n.toNatClampNeg ≤ ma_gl g) && decide (q.toNatClampNeg + n.toNatClampNeg ≤ ma_gl h)) (pc + 3, ls, r, (M.1, ma_cpy M.2.1 g i p.toNatClampNeg h k q.toNatClampNeg n.toNatClampNeg, M.2.2), a, b) else ma_no
  | _ => ma_no
/-- the receiver's class -/
def ma_rc (z : Nat) : List ma_V → Bool
  | .inr (.inr (g, _)) :: _ => ma_nn (g, 0) && (Nat.beq (ma_gk g) (100 + mt_own.getD z 0) || (Nat.beq g 2 && Nat.beq (mt_own.getD z 0) 13))
  | _ => false
def ma_call (y0 own idx : Nat) (ks : List Nat) : ma_A := match ma_f4 idx (mt_ct.getD own []) with
  | some (z, k, _) =>
    bif !(ks.contains k) then ma_no
    else bif Nat.beq k 7 then ma_acp pc ls st M a b
    else bif Nat.beq k 8 then (match st with
      | .inl y :: .inl x :: r => bif Nat.ble (ma_cat r) 8 && Nat.ble a (mt_mc.getD y0 (0, 0)).1 && Nat.ble b (mt_mc.getD y0 (0, 0)).2 then ma_nx (pc + 3, ls, .inl (if x < y then y else x) :: r, M, a, b) else ma_no
      | _ => ma_no)
    else bif Nat.beq k 9 then (match st with
      | .inl y :: .inl x :: r => bif Nat.ble (ma_cat r) 8 && Nat.ble a (mt_mc.getD y0 (0, 0)).1 && Nat.ble b (mt_mc.getD y0 (0, 0)).2 then ma_nx (pc + 3, ls, .inl (if y < x then y else x) :: r, M, a, b) else ma_no
      | _ => ma_no)
    else bif Nat.beq k 6 then (match st with
      | .inr (.inr q) :: r => bif ma_nn q && Nat.ble (ma_cat r) 8 then ma_nx (pc + 3, ls, r, M, a, b) else ma_no
      | _ => ma_no)
    else bif Nat.ble (mt_na.getD z 0) st.length && Nat.ble (ma_args (st.take (mt_na.getD z 0)).reverse).length (mt_ml.getD z 0) && Nat.ble (ma_cat (st.drop (mt_na.getD z 0))) 8 && (Nat.blt k 2 || ma_rc z (st.take (mt_na.getD z 0)).reverse) && Nat.ble (a + (mt_mc.getD z (0, 0)).1) (mt_mc.getD y0 (0, 0)).1 && Nat.ble (b + (mt_mc.getD z (0, 0)).2) (mt_mc.getD y0 (0, 0)).2 then
      .inr (.inr (z, (st.take (mt_na.getD z 0)).reverse, M, fun v M' => (pc + 3, ls, (bif Nat.beq (mt_rk.getD z 0) 0 then st.drop (mt_na.getD z 0) else v :: st.drop (mt_na.getD z 0)), M', a + (mt_mc.getD z (0, 0)).1, b + (mt_mc.getD z (0, 0)).2)))
    else ma_no
  | none => ma_no
def ma_rok (t : Option FieldType) (v : Int32) : Bool := match t with
  | some .int => true
  | some .boolean => ma_b01 v
  | some .char => decide (v = (v.toUInt32 % 65536).toInt32)
  | some .byte => decide (v.toInt8.toInt32 = v)
  | _ => false
def ma_rlo (t : Option FieldType) : Bool := match t with
  | some .long => true
  | _ => false
def ma_rob (t : Option FieldType) : Bool := match t with
  | some (.object _) => true
  | _ => false
def ma_ret (y k : Nat) : ma_A := match k, st with
  | 0, [] => .inr (.inl ((mt_ret.getD y none).isNone, none, M))
  | 1, [.inl v] => .inr (.inl (ma_rok (mt_ret.getD y none) v, some (.inl v), M))
  | 2, [.inr (.inl v)] => .inr (.inl (ma_rlo (mt_ret.getD y none), some (.inr (.inl v)), M))
  | 3, [.inr (.inr q)] => .inr (.inl (ma_nn q && ma_rob (mt_ret.getD y none), some (.inr (.inr q)), M))
  | _, _ => ma_no
def ma_do (y : Nat) (i : Instr) : ma_A := match i with
  | .iload_n k => ma_ldi pc ls st M a b k 1
  | .iload k => ma_ldi pc ls st M a b k 2
  | .lload_n k => ma_ldl pc ls st M a b k 1
  | .lload k => ma_ldl pc ls st M a b k 2
  | .aload_n k => ma_lda pc ls st M a b k 1
  | .aload k => ma_lda pc ls st M a b k 2
  | .istore_n k => ma_sti pc ls st M a b k 1
  | .istore k => ma_sti pc ls st M a b k 2
  | .lstore_n k => ma_stl pc ls st M a b k 1
  | .lstore k => ma_stl pc ls st M a b k 2
  | .astore_n k => ma_sta pc ls st M a b k 1
  | .astore k => ma_sta pc ls st M a b k 2
  | .iinc k c => ma_inc pc ls st M a b k c
  | .iconst c => ma_pi pc ls st M a b 1 (Int32.ofInt c)
  | .bipush c => ma_pi pc ls st M a b 2 (Int8.ofInt c).toInt32
  | .sipush c => ma_pi pc ls st M a b 3 (Int16.ofInt c).toInt32
  | .lconst c => ma_pl pc ls st M a b 1 (Int64.ofNat c)
  | .ldc k => match ma_fk k (mt_kt.getD (mt_own.getD y 0) []) with
    | some (v, _) => ma_pi pc ls st M a b 2 v
    | none => match ma_fk k (mt_st.getD (mt_own.getD y 0) []) with
      | some (q, _) => ma_nx (pc + 2, ls, .inr (.inr (2, q)) :: st, M, a, b)
      | none => ma_no
  | .ldc_w k => match ma_fk k (mt_kt.getD (mt_own.getD y 0) []) with
    | some (v, _) => ma_pi pc ls st M a b 3 v
    | none => ma_no
  | .ldc2_w k => match ma_fk k (mt_lt.getD (mt_own.getD y 0) []) with
    | some (v, _) => ma_pl pc ls st M a b 3 v
    | none => ma_no
  | .iadd => ma_ii pc ls st M a b (fun x y => x + y)
  | .isub => ma_ii pc ls st M a b (fun x y => x - y)
  | .imul => ma_ii pc ls st M a b (fun x y => x * y)
  | .iand => ma_ii pc ls st M a b (fun x y => x &&& y)
  | .ior => ma_ii pc ls st M a b (fun x y => x ||| y)
  | .ixor => ma_ii pc ls st M a b (fun x y => x ^^^ y)
  | .ishl => ma_ii pc ls st M a b (fun x y => x <<< (y &&& 31))
  | .ishr => ma_ii pc ls st M a b (fun x y => x >>> (y &&& 31))
  | .iushr => ma_ii pc ls st M a b (fun x y => (x.toUInt32 >>> (y.toUInt32 &&& Int32.toUInt32 31)).toInt32)
  | .idiv => ma_iz pc ls st M a b (fun x y => x / y)
  | .irem => ma_iz pc ls st M a b (fun x y => x - x / y * y)
  | .ineg => ma_i1 pc ls st M a b (fun x => -x)
  | .i2b => ma_i1 pc ls st M a b (fun x => x.toInt8.toInt32)
  | .i2s => ma_i1 pc ls st M a b (fun x => x.toInt16.toInt32)
  | .i2c => ma_i1 pc ls st M a b (fun x => (x.toUInt32 % 65536).toInt32)
  | .ladd => ma_ll pc ls st M a b (fun x y => x + y)
  | .lmul => ma_ll pc ls st M a b (fun x y => x * y)
  | .ldiv => ma_lz pc ls st M a b (fun x y => x / y)
  | .lrem => ma_lz pc ls st M a b (fun x y => x - x / y * y)
  | .lcmp => ma_cmp pc ls st M a b
  | .i2l => ma_il2 pc ls st M a b
  | .l2i => ma_li2 pc ls st M a b
  | .goto o => ma_go1 pc ls st M a b o
  | .ifCond cd o => ma_if pc ls st M a b cd o
  | .if_icmp cd o => ma_ic pc ls st M a b cd o
  | .tableswitch df lo hi os => ma_ts pc ls st M a b df lo hi os
  | .pop => match st with
    | .inl _ :: r => ma_nx (pc + 1, ls, r, M, a, b)
    | _ => ma_no
  | .dup => match st with
    | .inr (.inl _) :: _ => ma_no
    | v :: r => ma_nx (pc + 1, ls, v :: v :: r, M, a, b)
    | _ => ma_no
  | .dup2 => match st with
    | .inl v :: .inr (.inr q) :: r => ma_nx (pc + 1, ls, .inl v :: .inr (.inr q) :: .inl v :: .inr (.inr q) :: r, M, a, b)
    | _ => ma_no
  | .iaload => ma_ald pc ls st M a b 1 1
  | .baload => ma_ald pc ls st M a b 2 4
  | .caload => ma_ald pc ls st M a b 3 3
  | .aaload => ma_aad pc ls st M a b
  | .iastore => ma_ast pc ls st M a b 1 (fun _ => true)
  | .bastore => ma_ast pc ls st M a b 2 ma_b01
  | .castore => ma_ast pc ls st M a b 3 (fun v => decide (v = (v.toUInt32 % 65536).toInt32))
  | .aastore => ma_aas pc ls st M a b
  | .arraylength => ma_aln pc ls st M a b
  | .getfield k => ma_gf pc ls st M a b (mt_own.getD y 0) k
  | .putfield k => ma_pf pc ls st M a b y (mt_own.getD y 0) k
  | .getstatic k => bif Nat.beq (mt_own.getD y 0) 13 && Nat.beq k 38 then ma_pi pc ls st M a b 3 1 else bif Nat.beq (mt_own.getD y 0) 13 && Nat.beq k 1053 then ma_nx (pc + 3, ls, .inr (.inr (4, 0)) :: st, M, a, b) else ma_no
  | .new k => ma_new pc ls st M a b y (fun g => Nat.ble 100 (ma_gk g) && Nat.blt (ma_gk g) 110)
  | .newarray t => ma_nwa pc ls st M a b y 2 (fun g => match t with | .int => Nat.beq (ma_gk g) 1 | .boolean => Nat.beq (ma_gk g) 2 | .char => Nat.beq (ma_gk g) 3 | _ => false)
  | .anewarray k => ma_nwa pc ls st M a b y 3 (fun g => Nat.ble 10 (ma_gk g) && Nat.blt (ma_gk g) 100)
  | .invokestatic k => ma_call pc ls st M a b y (mt_own.getD y 0) k [0, 1, 7, 8, 9]
  | .invokevirtual k => ma_call pc ls st M a b y (mt_own.getD y 0) k [2, 3]
  | .invokespecial k => ma_call pc ls st M a b y (mt_own.getD y 0) k [4, 5, 6]
  | .ireturn => ma_ret st M y 1
  | .lreturn => ma_ret st M y 2
  | .areturn => ma_ret st M y 3
  | .return_ => ma_ret st M y 0
  | _ => ma_no
end MA
def ma_step (y : Nat) (c : ma_C) : ma_A := match ma_find c.1 (mt_prog.getD y []) with
  | some (i, _) => ma_do c.1 c.2.1 c.2.2.1 c.2.2.2.1 c.2.2.2.2.1 c.2.2.2.2.2 y i
  | none => ma_no
def ma_sel {X : Type} (κ : ma_C → X) (no : X) (df : Option ma_C) : List (Bool × ma_C) → X
  | [] => match df with
    | some c => κ c
    | none => no
  | q :: r => bif q.1 then κ q.2 else ma_sel κ no df r
/-- what a call's answer must be -/
def ma_pick (k : Nat) (r : Option ma_V) : Option ma_V := match k, r with
  | 0, none => some (.inl 0)
  | 1, some (.inl v) => some (.inl v)
  | 2, some (.inr (.inl v)) => some (.inr (.inl v))
  | 3, some (.inr (.inr q)) => some (.inr (.inr q))
  | _, _ => none
/-- a call's start -/
def ma_ini (z : Nat) (as : List ma_V) (M : ma_M) : ma_C := (0, ma_args as ++ List.replicate (mt_ml.getD z 0 - (ma_args as).length) none, [], M, 0, 0)
def ma_go : Nat → Nat → Nat → ma_C → Option (Option ma_V × ma_M)
  | _, 0, _, _ => none
  | d, n + 1, y, c => match ma_step y c with
    | .inl (al, df) => ma_sel (ma_go d n y) none df al
    | .inr (.inl (ok, r, M)) => bif ok && Nat.ble c.2.2.2.2.1 (mt_mc.getD y (0, 0)).1 && Nat.ble c.2.2.2.2.2 (mt_mc.getD y (0, 0)).2 then some (r, M) else none
    | .inr (.inr (z, as, M, k)) => match d with
      | 0 => none
      | d' + 1 => match ma_go d' n z (ma_ini z as M) with
        | some (r, M') => match ma_pick (mt_rk.getD z 0) r with
          | some v => ma_go (d' + 1) n y (k v M')
          | none => none
        | none => none
/-- the method y, at depth d, comes from c to an end with Q -/
def Ex (d y : Nat) (c : ma_C) (Q : Option ma_V → ma_M → Prop) : Prop := ∃ (n : Nat) (r : Option ma_V) (M : ma_M), ma_go d n y c = some (r, M) ∧ Q r M

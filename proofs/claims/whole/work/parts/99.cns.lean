/-! ===== how both objects begin, without the script ===== -/
def cn_n (g : Nat) : Nat := [0, 0, 13, 13].getD g 0
def cn_M0 : ma_M := (cn_n, lw_I0 0 (fun _ => 0), fun _ _ _ => (0, 0))
def cn_get (x : Option (Option ma_V × ma_M)) : ma_M := match x with
  | some (_, M) => M
  | none => cn_M0
def cn_ok (x : Option (Option ma_V × ma_M)) : Bool := match x with
  | some (none, _) => true
  | _ => false
def cn_r1 : Option (Option ma_V × ma_M) := ma_go 200 20000 63 (ma_ini 63 [.inr (.inr (5, 0))] (ma_mk cn_M0 5))
def cn_M1 : ma_M := cn_get cn_r1
def cn_r2 : Option (Option ma_V × ma_M) := ma_go 200 20000 155 (ma_ini 155 [.inr (.inr (40, 0))] (ma_mk cn_M1 40))
def cn_M2 : ma_M := cn_get cn_r2
theorem cn_1 : cn_ok cn_r1 = true := by decide +kernel
def cn_nb (M : ma_M) : Bool := (List.range 65).all (fun g => Nat.beq g 1 || Nat.beq (M.1 g) (ma_n0 g))
def cn_rb (M : ma_M) : Bool := (List.range 65).all (fun g => (List.range (ma_n0 g)).all (fun i => (List.range 64).all (fun j => !(sd_rf g j) || (Nat.beq (M.2.2 g i j).1 (ma_R0 0 g i j).1 && Nat.beq (M.2.2 g i j).2 (ma_R0 0 g i j).2))))
def cn_cs : List (Nat × Nat × Nat × Int32) := [(40, 0, 0, 9), (40, 0, 1, 0), (40, 0, 4, 0), (40, 0, 12, 0), (40, 0, 13, 1), (40, 0, 14, 0), (40, 0, 42, 0), (6, 0, 0, 9), (6, 0, 1, 0), (6, 0, 4, 0), (6, 0, 6, 1), (6, 0, 8, 0), (7, 0, 0, 0), (8, 0, 0, 0), (51, 0, 0, 1), (51, 0, 1, 3), (51, 0, 2, 1), (50, 0, 0, -3), (50, 0, 160, -6), (50, 0, 161, 5), (50, 0, 162, 15), (50, 0, 320, -11), (21, 0, 0, 1), (21, 0, 1, 4), (21, 0, 2, 5), (20, 0, 0, 2), (20, 0, 1, 5), (20, 0, 2, 10005), (20, 0, 3, 10016), (20, 0, 4, 10)]
def cn_cb (I : ma_I) : Bool := cn_cs.all (fun c => decide (I c.1 c.2.1 c.2.2.1 = c.2.2.2))
def cn_hb (I : ma_I) : Bool := (List.range 100).all (fun k => decide (I 23 0 k = 0)) && (List.range 800).all (fun k => decide (I 24 0 k = 0))
def cn_sb (I : ma_I) : Bool := (List.range 4).all (fun s => decide (I 61 0 s = -1) && decide (I 62 0 s = 0) && decide (I 12 s 0 = -1) && decide (I 12 s 1 = 0) && (List.range 40).all (fun k => decide (I 13 s k = 0) && decide (I 63 0 (40 * s + k) = 0)))
def cn_all (x : Option (Option ma_V × ma_M)) : Bool := match x with
  | some (none, M) => cn_nb M && cn_rb M && cn_cb M.2.1 && cn_hb M.2.1 && cn_sb M.2.1
  | _ => false
theorem cn_2 : cn_all cn_r2 = true := by decide +kernel
def cn_wb (I : ma_I) : Bool := (List.range 13).all (fun i => decide (I 53 0 i = Int32.ofNat (tk_S i))) && (List.range 12).all (fun i => (List.range (tk_S (i + 1) - tk_S i)).all (fun k => decide (I 52 0 (tk_S i + k) = (tk_W i).getD k 0))) && (List.range 12).all (fun i => (List.range (tk_W i).length).all (fun k => decide (I 3 i k = (tk_W i).getD k 0)))
def cn_wds (x : Option (Option ma_V × ma_M)) : Bool := match x with
  | some (none, M) => cn_wb M.2.1
  | _ => false
theorem cn_3 : cn_wds cn_r2 = true := by decide +kernel
/-- no reference leads to the script -/
def cn_gb (M : ma_M) : Bool := (List.range 65).all (fun g => (List.range (M.1 g)).all (fun i => (List.range 64).all (fun j => !(sd_rf g j) || !(Nat.beq (M.2.2 g i j).1 1))))
def cn_gx (x : Option (Option ma_V × ma_M)) : Bool := match x with
  | some (none, M) => cn_gb M && Nat.beq (M.1 1) 0
  | _ => false
theorem cn_4 : cn_gx cn_r1 = true := by decide +kernel
theorem cn_5 : cn_gx cn_r2 = true := by decide +kernel

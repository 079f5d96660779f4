/-! ===== how both objects begin, without the script ===== -/
def cn_n (g : Nat) : Nat := [0, 0, 13, 13].getD g 0
def cn_M0 : ma_M := (cn_n, lw_I0 0 (fun _ => 0), fun _ _ _ => (0, 0))
def cn_get (x : Option (Option ma_V × ma_M)) : ma_M := match x with
  | some (_, M) => M
  | none => cn_M0
def cn_r1 : Option (Option ma_V × ma_M) := ma_go 1299 20000 63 (ma_ini 63 [.inr (.inr (5, 0))] (ma_mk cn_M0 5))
def cn_M1 : ma_M := cn_get cn_r1
def cn_r2 : Option (Option ma_V × ma_M) := ma_go 1299 20000 155 (ma_ini 155 [.inr (.inr (40, 0))] (ma_mk cn_M1 40))
def cn_M2 : ma_M := cn_get cn_r2
def cn_nb (M : ma_M) : Bool := (List.range 65).all (fun g => Nat.beq g 1 || Nat.beq (M.1 g) (ma_n0 g))
def cn_rb (M : ma_M) : Bool := (List.range 65).all (fun g => (List.range (ma_n0 g)).all (fun i => (List.range 64).all (fun j => !(sd_rf g j) || (Nat.beq (M.2.2 g i j).1 (ma_R0 0 g i j).1 && Nat.beq (M.2.2 g i j).2 (ma_R0 0 g i j).2))))
def cn_cs : List (Nat × Nat × Nat × Int32) := [(40, 0, 0, 9), (40, 0, 1, 0), (40, 0, 4, 0), (40, 0, 12, 0), (40, 0, 13, 1), (40, 0, 14, 0), (40, 0, 42, 0), (6, 0, 0, 9), (6, 0, 1, 0), (6, 0, 4, 0), (6, 0, 6, 1), (6, 0, 8, 0), (7, 0, 0, 0), (8, 0, 0, 0), (51, 0, 0, 1), (51, 0, 1, 3), (51, 0, 2, 1), (50, 0, 0, -3), (50, 0, 160, -6), (50, 0, 161, 5), (50, 0, 162, 15), (50, 0, 320, -11), (21, 0, 0, 1), (21, 0, 1, 4), (21, 0, 2, 5), (20, 0, 0, 2), (20, 0, 1, 5), (20, 0, 2, 10005), (20, 0, 3, 10016), (20, 0, 4, 10)]
def cn_cb (I : ma_I) : Bool := cn_cs.all (fun c => decide (I c.1 c.2.1 c.2.2.1 = c.2.2.2))
def cn_hb (I : ma_I) : Bool := (List.range 100).all (fun k => decide (I 23 0 k = 0)) && (List.range 800).all (fun k => decide (I 24 0 k = 0))
def cn_sb (I : ma_I) : Bool := (List.range 4).all (fun s => decide (I 61 0 s = -1) && decide (I 62 0 s = 0) && decide (I 12 s 0 = -1) && decide (I 12 s 1 = 0) && (List.range 40).all (fun k => decide (I 13 s k = 0) && decide (I 63 0 (40 * s + k) = 0)))
def cn_wb (I : ma_I) : Bool := (List.range 13).all (fun i => decide (I 53 0 i = Int32.ofNat (tk_S i))) && (List.range 12).all (fun i => (List.range (tk_S (i + 1) - tk_S i)).all (fun k => decide (I 52 0 (tk_S i + k) = (tk_W i).getD k 0))) && (List.range 12).all (fun i => (List.range (tk_W i).length).all (fun k => decide (I 3 i k = (tk_W i).getD k 0)))
/-- no reference leads to the script -/
def cn_gb (M : ma_M) : Bool := (List.range 65).all (fun g => (List.range (M.1 g)).all (fun i => (List.range 64).all (fun j => !(sd_rf g j) || !(Nat.beq (M.2.2 g i j).1 1))))
def cn_k1 (x : Option (Option ma_V × ma_M)) : Bool := match x with
  | some (none, M) => cn_gb M && Nat.beq (M.1 1) 0 && Nat.beq (M.1 40) 0
  | _ => false
def cn_k2 (x : Option (Option ma_V × ma_M)) : Bool := match x with
  | some (none, M) => cn_nb M && cn_rb M && cn_cb M.2.1 && cn_hb M.2.1 && cn_sb M.2.1 && cn_wb M.2.1 && Nat.beq (M.1 1) 0
  | _ => false
theorem cn_1 : cn_k1 cn_r1 = true := by decide +kernel
theorem cn_2 : cn_k2 cn_r2 = true := by decide +kernel
theorem cn_s1 : ∀ x, cn_k1 x = true → x = some (none, cn_get x) ∧ cn_gb (cn_get x) = true ∧ (cn_get x).1 1 = 0 ∧ (cn_get x).1 40 = 0
  | none, h => by cases h
  | some (some _, _), h => by cases h
  | some (none, M), h => by
    have h' : (cn_gb M && Nat.beq (M.1 1) 0 && Nat.beq (M.1 40) 0) = true := h
    rw [Bool.and_eq_true, Bool.and_eq_true] at h'
    exact ⟨rfl, h'.1.1, Nat.eq_of_beq_eq_true h'.1.2, Nat.eq_of_beq_eq_true h'.2⟩
theorem cn_s2 : ∀ x, cn_k2 x = true → x = some (none, cn_get x) ∧ cn_nb (cn_get x) = true ∧ cn_rb (cn_get x) = true ∧ cn_cb (cn_get x).2.1 = true ∧ cn_hb (cn_get x).2.1 = true ∧ cn_sb (cn_get x).2.1 = true ∧ cn_wb (cn_get x).2.1 = true ∧ (cn_get x).1 1 = 0
  | none, h => by cases h
  | some (some _, _), h => by cases h
  | some (none, M), h => by
    have h' : (cn_nb M && cn_rb M && cn_cb M.2.1 && cn_hb M.2.1 && cn_sb M.2.1 && cn_wb M.2.1 && Nat.beq (M.1 1) 0) = true := h
    rw [Bool.and_eq_true, Bool.and_eq_true, Bool.and_eq_true, Bool.and_eq_true, Bool.and_eq_true, Bool.and_eq_true] at h'
    obtain ⟨⟨⟨⟨⟨⟨a1, a2⟩, a3⟩, a4⟩, a5⟩, a6⟩, a7⟩ := h'
    exact ⟨rfl, a1, a2, a3, a4, a5, a6, Nat.eq_of_beq_eq_true a7⟩
/-- both objects can be made, and what is there then -/
theorem cn_ex : ∃ M1 M2 : ma_M, ma_go 1299 20000 63 (ma_ini 63 [.inr (.inr (5, 0))] (ma_mk cn_M0 5)) = some (none, M1) ∧ ma_go 1299 20000 155 (ma_ini 155 [.inr (.inr (40, 0))] (ma_mk M1 40)) = some (none, M2) ∧ (cn_gb M1 = true ∧ M1.1 1 = 0 ∧ M1.1 40 = 0) ∧ cn_nb M2 = true ∧ cn_rb M2 = true ∧ cn_cb M2.2.1 = true ∧ cn_hb M2.2.1 = true ∧ cn_sb M2.2.1 = true ∧ cn_wb M2.2.1 = true ∧ M2.1 1 = 0 :=
  ⟨cn_get cn_r1, cn_get cn_r2, (cn_s1 cn_r1 cn_1).1, (cn_s2 cn_r2 cn_2).1, (cn_s1 cn_r1 cn_1).2, (cn_s2 cn_r2 cn_2).2⟩

/-! ===== what the reference reckons, over its state ===== -/
def pu_lv (σ : ma_I) (d : Int32) : Nat → Int32
  | 0 => 0
  | k + 1 => if σ 41 0 k ≤ d then σ 42 0 k else pu_lv σ d k
def pu_li (σ : ma_I) (d : Int32) : Int32 := pu_lv σ d (σ 40 0 1).toNatClampNeg
def pu_sd (σ : ma_I) (o : Nat) (d : Int32) : Bool := decide (σ 47 0 o ≤ d ∧ d ≤ σ 48 0 o)
def pu_nw (σ : ma_I) (o : Nat) (d : Int32) : Bool := decide (xv_rm d (σ 44 0 o + 1) = 0)
def pu_sn (σ : ma_I) (o : Nat) (d : Int32) : Bool :=
  if σ 43 0 o = 2 then pu_sd σ o d && pu_nw σ o d
  else if σ 43 0 o = 3 then pu_sd σ o d && decide (d ≠ σ 47 0 o)
  else if σ 43 0 o = 4 then pu_sd σ o d && pu_nw σ o d || decide (σ 48 0 o < d ∧ d ≤ σ 48 0 o + σ 44 0 o)
  else if σ 43 0 o = 5 then decide (σ 47 0 o ≤ d)
  else pu_sd σ o d
/-- an operation on a stack -/
def pu_op (c : Int32) (nm : Nat → Int32) (s : List Int32) : List Int32 :=
  if c < 0 then (-1 - c) :: s
  else if c < 6 then nm c.toNatClampNeg :: s
  else match s with
    | [] => []
    | x :: r => if c = 12 then xv_b (x = 0) :: r else if c = 18 then (-x) :: r else match r with
      | [] => []
      | z :: q => xv_dn c z x :: q
def pu_ev (σ : ma_I) (row : Nat) (nm : Nat → Int32) : Nat → List Int32
  | 0 => []
  | k + 1 => pu_op (σ 50 0 (160 * row + k)) nm (pu_ev σ row nm k)
/-- a code that can stand over n things, and how many there are then -/
def pu_ok (c : Int32) (n : Nat) : Prop := (c < 0 ∧ -10000 ≤ c) ∨ (0 ≤ c ∧ c < 6) ∨ ((c = 12 ∨ c = 18) ∧ 1 ≤ n) ∨ ((c = 10 ∨ c = 11 ∨ c = 13 ∨ c = 14 ∨ c = 15 ∨ c = 16 ∨ c = 17) ∧ 2 ≤ n)
def pu_nx (c : Int32) (n : Nat) : Nat := if c < 6 then n + 1 else if c = 12 ∨ c = 18 then n else n - 1
def pu_dk (σ : ma_I) (row : Nat) : Nat → Nat
  | 0 => 0
  | k + 1 => pu_nx (σ 50 0 (160 * row + k)) (pu_dk σ row k)
/-- a row of codes that is one thing -/
def pu_wf (σ : ma_I) (row : Nat) : Prop := ∃ m : Nat, σ 51 0 row = Int32.ofNat m ∧ m ≤ 160 ∧ pu_dk σ row m = 1 ∧ ∀ k, k < m → pu_ok (σ 50 0 (160 * row + k)) (pu_dk σ row k) ∧ pu_dk σ row (k + 1) ≤ 40
def pu_nm (a b c d e f : Int32) : Nat → Int32 := fun k => match k with
  | 0 => a | 1 => b | 2 => c | 3 => d | 4 => e | _ => f
def pu_cp (p : Nat) (v : Int32) : Int32 := if p = 0 then xv_hi 1 (xv_lo 40 v) else if p = 1 then xv_hi 0 (xv_lo 99 v) else xv_hi 0 (xv_lo 999 v)
def pu_sy (σ : ma_I) (p : Nat) (nm : Nat → Int32) : Int32 := pu_cp p ((pu_ev σ (3 * (σ 40 0 14).toNatClampNeg + p) nm (σ 51 0 (3 * (σ 40 0 14).toNatClampNeg + p)).toNatClampNeg).headD 0)
def pu_ls (σ : ma_I) (o : Nat) (day stamps under : Int32) : Int32 :=
  if σ 43 0 o = 1 then pu_sy σ 0 (pu_nm day (σ 45 0 o) stamps (σ 44 0 o) (Int32.ofNat o) under) + σ 44 0 o
  else if σ 43 0 o = 3 then 2 * (pu_sy σ 0 (pu_nm day (σ 45 0 o) stamps (σ 44 0 o) (Int32.ofNat o) under) + σ 44 0 o)
  else if σ 43 0 o = 4 then pu_sy σ 0 (pu_nm day (σ 45 0 o) stamps (σ 44 0 o) (Int32.ofNat o) under) + 1
  else pu_sy σ 0 (pu_nm day (σ 45 0 o) stamps (σ 44 0 o) (Int32.ofNat o) under)
def pu_co (σ : ma_I) (o : Nat) : Int32 := pu_sy σ 1 (pu_nm (σ 47 0 o) (σ 45 0 o) 0 (σ 44 0 o) (Int32.ofNat o) (σ 48 0 o - σ 47 0 o))
/-- the first from k on, of c, that does -/
def pu_ft (p : Nat → Bool) : Nat → Nat → Option Nat
  | _, 0 => none
  | k, c + 1 => if p k then some k else pu_ft p (k + 1) c
def pu_by (σ : ma_I) (h : Int32) (d : Nat) (there : Int32) : Option Nat := pu_ft (fun o => bt there o && decide (σ 45 0 o = h) && pu_sn σ o (Int32.ofNat d)) 0 (σ 40 0 4).toNatClampNeg
/-- house, day, stamps, houses, orders used, round -/
abbrev pu_W : Type := Int32 × Nat × Nat × (Nat → Int32) × Int32 × Bool
def pu_go (σ : ma_I) (there : Int32) (d0 : Nat) : Nat → pu_W → Option (Int32 × pu_W)
  | 0, _ => none
  | n + 1, (h, d, s, was, used, rd) =>
    if pu_li σ (Int32.ofNat (if d < 99 then d else 99)) = h then some (0, h, d, s, was, used, rd)
    else if σ 40 0 0 < Int32.ofNat s ∨ 100 ≤ d then some (1, h, d, s, was, used, rd)
    else match pu_by σ h d there with
      | some o => pu_go σ there d0 n (σ 46 0 o, d + (pu_ls σ o (Int32.ofNat d) (Int32.ofNat s) (Int32.ofNat (d - d0))).toNatClampNeg, s + 1, (fun k => if k = s + 1 then σ 46 0 o else was k), used ||| 1 <<< (Int32.ofNat o &&& 31), rd || bt used o)
      | none => if d = 99 then some (2, h, d, s, was, used, rd) else pu_go σ there d0 n (h, d + 1, s, was, used, rd)
def pu_w0 (h : Int32) (d : Nat) : pu_W := (h, d, 0, fun _ => h, 0, false)
def pu_rn (σ : ma_I) (h : Int32) (d : Nat) (there : Int32) : Int32 × pu_W := (pu_go σ there d 300 (pu_w0 h d)).getD (0, pu_w0 h d)
/-! what the state keeps to -/
def iv_th (σ : ma_I) : Prop := rg (σ 40 0 0) 1 20
def iv_mv (σ : ma_I) : Prop := ∃ n : Nat, σ 40 0 1 = Int32.ofNat n ∧ n ≤ 6 ∧ ∀ k, k < n → rg (σ 41 0 k) 0 99 ∧ rg (σ 42 0 k) 0 7 ∧ (k + 1 < n → σ 41 0 k < σ 41 0 (k + 1))
def iv_o1 (σ : ma_I) (o : Nat) : Prop := rg (σ 43 0 o) 0 5 ∧ rg (σ 44 0 o) 0 9 ∧ rg (σ 45 0 o) 0 7 ∧ rg (σ 46 0 o) 0 7 ∧ σ 45 0 o ≠ σ 46 0 o ∧ ∃ f l : Nat, σ 47 0 o = Int32.ofNat f ∧ σ 48 0 o = Int32.ofNat l ∧ f ≤ l ∧ l ≤ 99
def iv_od (σ : ma_I) : Prop := ∃ n : Nat, σ 40 0 4 = Int32.ofNat n ∧ n ≤ 8 ∧ ∀ o, o < n → iv_o1 σ o
def iv_tx (σ : ma_I) : Prop := ∃ n r : Nat, σ 40 0 13 = Int32.ofNat n ∧ σ 40 0 14 = Int32.ofNat r ∧ n ≤ 6 ∧ r < n ∧ ∀ row, row < 3 * n → pu_wf σ row
def iv_g (σ : ma_I) : Prop := iv_th σ ∧ iv_mv σ ∧ iv_od σ ∧ iv_tx σ
/-! stacks in memory -/
def sr (A : Nat → Int32) : List Int32 → Prop
  | [] => True
  | x :: r => A r.length = x ∧ sr A r
theorem sr_cong {A B : Nat → Int32} : ∀ (s : List Int32), (∀ j, j < s.length → B j = A j) → sr A s → sr B s := by
  intro s
  induction s with
  | nil => intro _ _; trivial
  | cons x r ih =>
    intro h hs
    refine ⟨?_, ih (fun j hj => h j (Nat.lt_succ_of_lt hj)) hs.2⟩
    rw [h r.length (Nat.lt_succ_self _)]
    exact hs.1

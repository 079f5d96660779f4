/-! ===== numbers ===== -/
theorem in_a1 (k : Nat) : Int32.ofNat k + 1 = Int32.ofNat (k + 1) := (Int32.ofNat_add k 1).symm
theorem in_m1 (k : Nat) : Int32.ofNat (k + 1) + -1 = Int32.ofNat k := by
  rw [Int32.ofNat_add]
  show Int32.ofNat k + 1 + -1 = Int32.ofNat k
  rw [Int32.add_assoc]
  show Int32.ofNat k + 0 = _
  rw [Int32.add_zero]
theorem in_s1 (k : Nat) : Int32.ofNat (k + 1) - 1 = Int32.ofNat k := (Int32.ofNat_sub (k + 1) 1 (by omega)).symm
theorem in_lt {a b : Nat} (ha : a < 2147483648) (hb : b < 2147483648) : Int32.ofNat a < Int32.ofNat b ↔ a < b := Int32.ofNat_lt_iff_lt ha hb
theorem in_le {a b : Nat} (ha : a < 2147483648) (hb : b < 2147483648) : Int32.ofNat a ≤ Int32.ofNat b ↔ a ≤ b := Int32.ofNat_le_iff_le ha hb
theorem in_cl {a : Nat} (ha : a < 2147483648) : (Int32.ofNat a).toNatClampNeg = a := Int32.toNatClampNeg_ofNat_of_lt ha
theorem in_eq {a b : Nat} (ha : a < 2147483648) (hb : b < 2147483648) : Int32.ofNat a = Int32.ofNat b ↔ a = b := ⟨fun e => by have := congrArg Int32.toNatClampNeg e; rwa [in_cl ha, in_cl hb] at this, fun e => by rw [e]⟩
theorem in_ge0 {a : Nat} (ha : a < 2147483648) : (0 : Int32) ≤ Int32.ofNat a := (in_le (a := 0) (by decide) ha).mpr (Nat.zero_le a)
theorem in_in {a n : Nat} (ha : a < 2147483648) (h : a < n) : ma_in (Int32.ofNat a) n := ⟨in_ge0 ha, by rw [in_cl ha]; exact h⟩
theorem in_nm {a : Nat} (ha : a < 2147483648) : Int32.ofNat a ≠ -1 := fun e => by
  have h := in_ge0 ha
  rw [e] at h
  exact absurd h (by decide)
theorem in_ti {a : Nat} (ha : a < 2147483648) : (Int32.ofNat a).toInt = a := Int32.toInt_ofNat_of_lt ha
theorem in_ex {x : Int32} (h : 0 ≤ x) : ∃ n, n < 2147483648 ∧ x = Int32.ofNat n := ⟨x.toNatClampNeg, x.toNatClampNeg_lt, (Int32.ofNat_toNatClampNeg x h).symm⟩
theorem in_ub {x : Int32} {b : Nat} (hb : b < 2147483648) (h0 : 0 ≤ x) (h1 : x ≤ Int32.ofNat b) : ∃ n, n ≤ b ∧ x = Int32.ofNat n := by
  obtain ⟨n, hn, e⟩ := in_ex h0
  subst e
  exact ⟨n, (in_le hn hb).mp h1, rfl⟩
/-- a number between bounds -/
def rg (x : Int32) (a b : Nat) : Prop := ∃ n : Nat, x = Int32.ofNat n ∧ a ≤ n ∧ n ≤ b
theorem rg_mk {x : Int32} {b : Nat} (hb : b < 2147483648) (h0 : 0 ≤ x) (h1 : x ≤ Int32.ofNat b) : rg x 0 b := by
  obtain ⟨n, h, e⟩ := in_ub hb h0 h1
  exact ⟨n, e, Nat.zero_le n, h⟩
theorem rg_mk1 {x : Int32} {a b : Nat} (ha : a < 2147483648) (hb : b < 2147483648) (h0 : Int32.ofNat a ≤ x) (h1 : x ≤ Int32.ofNat b) : rg x a b := by
  obtain ⟨n, h, e⟩ := in_ub hb (Int32.le_trans (in_ge0 ha) h0) h1
  subst e
  exact ⟨n, rfl, (in_le ha (by omega)).mp h0, h⟩
theorem rg_lo {x : Int32} {a b : Nat} (hb : b < 2147483648) (h : rg x a b) : Int32.ofNat a ≤ x := by
  obtain ⟨n, e, h1, h2⟩ := h
  subst e
  exact (in_le (by omega) (by omega)).mpr h1
theorem rg_hi {x : Int32} {a b : Nat} (hb : b < 2147483648) (h : rg x a b) : x ≤ Int32.ofNat b := by
  obtain ⟨n, e, h1, h2⟩ := h
  subst e
  exact (in_le (by omega) (by omega)).mpr h2
theorem rg_ti {x : Int32} {a b : Nat} (hb : b < 2147483648) (h : rg x a b) : (a : Int) ≤ x.toInt ∧ x.toInt ≤ b := by
  obtain ⟨n, e, h1, h2⟩ := h
  subst e
  rw [in_ti (by omega)]
  omega
theorem rg_cl {x : Int32} {a b : Nat} (hb : b < 2147483648) (h : rg x a b) : x = Int32.ofNat x.toNatClampNeg ∧ a ≤ x.toNatClampNeg ∧ x.toNatClampNeg ≤ b := by
  obtain ⟨n, e, h1, h2⟩ := h
  subst e
  rw [in_cl (by omega)]
  exact ⟨rfl, h1, h2⟩
theorem rg_in {x : Int32} {a b n : Nat} (hb : b < 2147483648) (h : rg x a b) (hn : b < n) : ma_in x n := by
  obtain ⟨k, e, h1, h2⟩ := h
  subst e
  exact in_in (by omega) (by omega)
theorem rg_wd {x : Int32} {a b a' b' : Nat} (h : rg x a b) (ha : a' ≤ a) (hb : b ≤ b') : rg x a' b' := by
  obtain ⟨k, e, h1, h2⟩ := h
  exact ⟨k, e, by omega, by omega⟩
/-- a loop that counts up -/
theorem lp_up {P : Nat → Prop} (n : Nat) (hb : P n) (hs : ∀ k, k < n → P (k + 1) → P k) : ∀ k, k ≤ n → P k := by
  intro k hk
  obtain ⟨m, hm⟩ : ∃ m, n = k + m := ⟨n - k, by omega⟩
  induction m generalizing k with
  | zero => have : k = n := by omega
            rw [this]; exact hb
  | succ m ih => exact hs k (by omega) (ih (k + 1) (by omega) (by omega))
/-! ===== which cells a call changes; what is state ===== -/
def cl_c (g j : Nat) : Nat := if g = 40 then 1000 + j else if g = 8 then 2000 + j else g
/-- scratch -/
def cl_s : List Nat := [10, 32, 26, 22, 25, 2001, 2002, 2003, 2004, 54, 55, 56, 57, 58, 59, 64, 1017, 1018, 1019, 1020, 1024, 1025, 1026, 1028, 1029, 1033, 1034, 1035, 1036, 1037, 1039, 1040, 1041]
def fr (l : List Nat) (I I' : ma_I) : Prop := ∀ g i j, cl_c g j ∉ l → I' g i j = I g i j
def sv (I : ma_I) : ma_I := fun g i j => if cl_c g j ∈ cl_s then 0 else I g i j
theorem cl_g {g j : Nat} (h1 : g ≠ 40) (h2 : g ≠ 8) : cl_c g j = g := by unfold cl_c; rw [if_neg h1, if_neg h2]
theorem fr_refl (l : List Nat) (I : ma_I) : fr l I I := fun _ _ _ _ => rfl
theorem fr_trans {l : List Nat} {I I' I'' : ma_I} (h : fr l I I') (h' : fr l I' I'') : fr l I I'' := fun g i j hc => (h' g i j hc).trans (h g i j hc)
theorem fr_mono {l l' : List Nat} {I I' : ma_I} (h : fr l I I') (hl : ∀ c ∈ l, c ∈ l') : fr l' I I' := fun g i j hc => h g i j (fun hh => hc (hl _ hh))
theorem fr_up1 {l : List Nat} {I I' : ma_I} {g i j : Nat} {v : Int32} (h : fr l I I') (hc : cl_c g j ∈ l) : fr l I (ma_up I' g i j v) := by
  intro g' i' j' hh
  rw [← h g' i' j' hh]
  unfold ma_up
  by_cases e1 : g' = g
  · by_cases e2 : i' = i
    · by_cases e3 : j' = j
      · subst e1; subst e2; subst e3; exact absurd hc hh
      · rw [if_pos e1, if_pos e2, if_neg e3]
    · rw [if_pos e1, if_neg e2]
  · rw [if_neg e1]
theorem sv_ap {I : ma_I} {g i j : Nat} (h : cl_c g j ∉ cl_s) : sv I g i j = I g i j := if_neg h
theorem sv_fr {l : List Nat} {I I' : ma_I} (h : fr l I I') (hl : ∀ c ∈ l, c ∈ cl_s) : sv I' = sv I := by
  funext g i j
  unfold sv
  by_cases e : cl_c g j ∈ cl_s
  · rw [if_pos e, if_pos e]
  · rw [if_neg e, if_neg e]
    exact h g i j (fun hh => e (hl _ hh))
theorem sv_up {I : ma_I} {g i j : Nat} {v : Int32} (h : cl_c g j ∉ cl_s) : sv (ma_up I g i j v) = ma_up (sv I) g i j v := by
  funext g' i' j'
  unfold sv ma_up
  by_cases e1 : g' = g
  · by_cases e2 : i' = i
    · by_cases e3 : j' = j
      · subst e1; subst e2; subst e3; rw [if_neg h, if_pos rfl, if_pos rfl, if_pos rfl]; rw [if_pos rfl, if_pos rfl, if_pos rfl]
      · simp only [if_pos e1, if_pos e2, if_neg e3]
    · simp only [if_pos e1, if_neg e2]
  · simp only [if_neg e1]
theorem up_g {I : ma_I} {g i j g' i' j' : Nat} {v : Int32} (h : g' ≠ g) : ma_up I g i j v g' i' j' = I g' i' j' := if_neg h
theorem up_j {I : ma_I} {g i j i' j' : Nat} {v : Int32} (h : j' ≠ j) : ma_up I g i j v g i' j' = I g i' j' := by
  unfold ma_up; rw [if_pos rfl]
  by_cases e : i' = i
  · rw [if_pos e, if_neg h]
  · rw [if_neg e]
/-! bits -/
def bt (x : Int32) (i : Nat) : Bool := decide (x >>> (Int32.ofNat i &&& 31) &&& 1 = 1)

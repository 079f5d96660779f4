/-! ===== bits ===== -/
def bg (x : Int32) (i : Nat) : Bool := x.toBitVec.getLsbD i
theorem bg_and (x y : Int32) (i : Nat) : bg (x &&& y) i = (bg x i && bg y i) := by
  unfold bg
  rw [Int32.toBitVec_and, BitVec.getLsbD_and]
theorem bg_or (x y : Int32) (i : Nat) : bg (x ||| y) i = (bg x i || bg y i) := by
  unfold bg
  rw [Int32.toBitVec_or, BitVec.getLsbD_or]
theorem bg_nx (x : Int32) (i : Nat) (h : i < 32) : bg (x ^^^ -1) i = !(bg x i) := by
  unfold bg
  rw [Int32.toBitVec_xor, BitVec.getLsbD_xor]
  have : (-1 : Int32).toBitVec = BitVec.allOnes 32 := by decide
  rw [this, BitVec.getLsbD_allOnes, decide_eq_true h]
  simp
theorem bg_z (i : Nat) : bg 0 i = false := by
  unfold bg
  show (0#32).getLsbD i = false
  exact BitVec.getLsbD_zero
theorem bg_sh : ∀ k, k < 8 → ∀ i, i < 32 → bg (1 <<< (Int32.ofNat k &&& 31)) i = decide (i = k) := by decide +kernel
theorem bg_ext {x y : Int32} (h : ∀ i, i < 32 → bg x i = bg y i) : x = y := by
  apply Int32.toBitVec.inj
  apply BitVec.eq_of_getLsbD_eq
  intro i hi
  exact h i hi
theorem bg_lt (x : Int32) (h : ∀ i, 8 ≤ i → i < 32 → bg x i = false) : ∃ n : Nat, n < 256 ∧ x = Int32.ofNat n := by
  refine ⟨x.toBitVec.toNat % 256, by omega, ?_⟩
  apply bg_ext
  intro i hi
  have e : (Int32.ofNat (x.toBitVec.toNat % 256)).toBitVec = BitVec.ofNat 32 (x.toBitVec.toNat % 256) := rfl
  unfold bg
  rw [e, BitVec.getLsbD_ofNat]
  have : (x.toBitVec.toNat % 256).testBit i = (decide (i < 8) && x.toBitVec.toNat.testBit i) := by
    have h2 : 256 = 2 ^ 8 := rfl
    rw [h2, Nat.testBit_mod_two_pow]
  rw [this, decide_eq_true hi, Bool.true_and]
  by_cases h8 : i < 8
  · rw [decide_eq_true h8, Bool.true_and]
    rfl
  · rw [decide_eq_false h8, Bool.false_and]
    exact h i (by omega) hi
theorem bt_bg : ∀ (i : Nat), i < 9 → ∀ x : Int32, bt x i = bg x i := by
  intro i hi x
  have key : ∀ (w : BitVec 32), w &&& 1#32 = (if w.getLsbD 0 then 1#32 else 0#32) := by
    intro w
    apply BitVec.eq_of_getLsbD_eq
    intro j hj
    rw [BitVec.getLsbD_and]
    by_cases e : j = 0
    · subst e
      cases w.getLsbD 0 <;> rfl
    · have h1 : (1#32).getLsbD j = false := by
        rw [BitVec.getLsbD_one]
        simp [e]
      rw [h1, Bool.and_false]
      cases w.getLsbD 0
      · exact BitVec.getLsbD_zero.symm
      · exact h1.symm
  have h2 : (x >>> (Int32.ofNat i &&& 31)).toBitVec.getLsbD 0 = x.toBitVec.getLsbD i := by
    rw [Int32.toBitVec_shiftRight]
    have h3 : ((Int32.ofNat i &&& 31).toBitVec.smod 32).toNat = i := by
      revert i
      decide +kernel
    rw [BitVec.sshiftRight_eq', h3, BitVec.getLsbD_sshiftRight]
    have h4 : ¬ 32 ≤ 0 := by omega
    simp [show i < 32 by omega]
  have h5 : (x >>> (Int32.ofNat i &&& 31) &&& 1).toBitVec = (if x.toBitVec.getLsbD i then 1#32 else 0#32) := by
    rw [Int32.toBitVec_and]
    show (x >>> (Int32.ofNat i &&& 31)).toBitVec &&& 1#32 = _
    rw [key, h2]
  unfold bt bg
  cases hb : x.toBitVec.getLsbD i with
  | true =>
    rw [hb] at h5
    exact decide_eq_true (Int32.toBitVec.inj h5)
  | false =>
    rw [hb] at h5
    refine decide_eq_false (fun e => ?_)
    rw [e] at h5
    exact absurd h5 (by decide)
theorem bt_01 (x : Int32) (i : Nat) (hi : i < 9) : x >>> (Int32.ofNat i &&& 31) &&& 1 = 0 ↔ bt x i = false := by
  constructor
  · intro h
    unfold bt
    rw [h]
    decide
  · intro h
    unfold bt at h
    have h1 := of_decide_eq_false h
    generalize x >>> (Int32.ofNat i &&& 31) = y at h1
    have : ∀ w : Int32, w &&& 1 = 0 ∨ w &&& 1 = 1 := by
      intro w
      by_cases e : bg w 0 = true
      · right
        apply bg_ext
        intro j hj
        rw [bg_and]
        by_cases e0 : j = 0
        · subst e0; rw [e]; rfl
        · have h1 : bg 1 j = false := by
            unfold bg
            show (1#32).getLsbD j = false
            rw [BitVec.getLsbD_one]
            simp [e0]
          rw [h1, Bool.and_false]
      · left
        apply bg_ext
        intro j hj
        rw [bg_and]
        by_cases e0 : j = 0
        · subst e0
          rw [Bool.not_eq_true] at e
          rw [e]; rfl
        · have h1 : bg 1 j = false := by
            unfold bg
            show (1#32).getLsbD j = false
            rw [BitVec.getLsbD_one]
            simp [e0]
          rw [h1, Bool.and_false, bg_z]
    rcases this y with e | e
    · exact e
    · exact absurd e h1
def bc_f (a0 : Int32) : Int32 := ((((((((a0 - ((xv_us9 a0 (1 : Int32)) &&& (1431655765 : Int32))) &&& (858993459 : Int32)) + ((xv_us9 (a0 - ((xv_us9 a0 (1 : Int32)) &&& (1431655765 : Int32))) (2 : Int32)) &&& (858993459 : Int32))) + (xv_us9 (((a0 - ((xv_us9 a0 (1 : Int32)) &&& (1431655765 : Int32))) &&& (858993459 : Int32)) + ((xv_us9 (a0 - ((xv_us9 a0 (1 : Int32)) &&& (1431655765 : Int32))) (2 : Int32)) &&& (858993459 : Int32))) (4 : Int32))) &&& (252645135 : Int32)) + (xv_us9 (((((a0 - ((xv_us9 a0 (1 : Int32)) &&& (1431655765 : Int32))) &&& (858993459 : Int32)) + ((xv_us9 (a0 - ((xv_us9 a0 (1 : Int32)) &&& (1431655765 : Int32))) (2 : Int32)) &&& (858993459 : Int32))) + (xv_us9 (((a0 - ((xv_us9 a0 (1 : Int32)) &&& (1431655765 : Int32))) &&& (858993459 : Int32)) + ((xv_us9 (a0 - ((xv_us9 a0 (1 : Int32)) &&& (1431655765 : Int32))) (2 : Int32)) &&& (858993459 : Int32))) (4 : Int32))) &&& (252645135 : Int32)) (8 : Int32))) + (xv_us9 ((((((a0 - ((xv_us9 a0 (1 : Int32)) &&& (1431655765 : Int32))) &&& (858993459 : Int32)) + ((xv_us9 (a0 - ((xv_us9 a0 (1 : Int32)) &&& (1431655765 : Int32))) (2 : Int32)) &&& (858993459 : Int32))) + (xv_us9 (((a0 - ((xv_us9 a0 (1 : Int32)) &&& (1431655765 : Int32))) &&& (858993459 : Int32)) + ((xv_us9 (a0 - ((xv_us9 a0 (1 : Int32)) &&& (1431655765 : Int32))) (2 : Int32)) &&& (858993459 : Int32))) (4 : Int32))) &&& (252645135 : Int32)) + (xv_us9 (((((a0 - ((xv_us9 a0 (1 : Int32)) &&& (1431655765 : Int32))) &&& (858993459 : Int32)) + ((xv_us9 (a0 - ((xv_us9 a0 (1 : Int32)) &&& (1431655765 : Int32))) (2 : Int32)) &&& (858993459 : Int32))) + (xv_us9 (((a0 - ((xv_us9 a0 (1 : Int32)) &&& (1431655765 : Int32))) &&& (858993459 : Int32)) + ((xv_us9 (a0 - ((xv_us9 a0 (1 : Int32)) &&& (1431655765 : Int32))) (2 : Int32)) &&& (858993459 : Int32))) (4 : Int32))) &&& (252645135 : Int32)) (8 : Int32))) (16 : Int32))) &&& (63 : Int32))
theorem bc_ok : ∀ b : Fin 256, b.val ≠ 0 → bc_f ((Int32.ofNat b.val &&& -(Int32.ofNat b.val)) - 1) = pu_en (pu_ft (fun i => bg (Int32.ofNat b.val) i) 0 8) := by decide +kernel
/-! ===== how the class holds the state ===== -/
def pu_ec (c : Int32) : Int32 := if c < 0 then -1 - c else if c < 6 then 10000 + c else if c = 10 then 10012 else if c = 11 then 10013 else if c = 12 then 10011 else if c = 13 then 10014 else if c = 14 then 10015 else if c = 15 then 10016 else if c = 16 then 10017 else if c = 17 then 10018 else 10010
/-- a text -/
def rx_t (σ τ : ma_I) (t : Nat) : Prop := ∃ e : Nat → Nat, e 0 = 0 ∧ ∀ p, p < 3 → τ 21 t p = Int32.ofNat (e (p + 1)) ∧ e (p + 1) ≤ 160 ∧ e p ≤ e (p + 1) ∧ σ 51 0 (3 * t + p) = Int32.ofNat (e (p + 1) - e p) ∧ ∀ k, k < e (p + 1) - e p → τ 20 t (e p + k) = pu_ec (σ 50 0 (160 * (3 * t + p) + k))
def rx_o (σ τ : ma_I) (i : Nat) : Prop := τ 17 i 0 = σ 43 0 i ∧ τ 17 i 1 = σ 44 0 i ∧ τ 17 i 2 = σ 45 0 i ∧ τ 17 i 3 = σ 46 0 i ∧ τ 17 i 4 = σ 47 0 i ∧ τ 17 i 5 = σ 48 0 i
/-- all by which letters go -/
def rx_v (σ τ : ma_I) : Prop := τ 6 0 0 = σ 40 0 0 ∧ True ∧ τ 6 0 6 = σ 40 0 13 ∧ τ 6 0 8 = σ 40 0 14 ∧ (∀ i, i < (σ 40 0 4).toNatClampNeg → rx_o σ τ i) ∧ (∀ k, k < 100 → τ 23 0 k = pu_li σ (Int32.ofNat k)) ∧
  (∀ h k, h < 8 → k < 100 → ∀ i, i < 32 → bg (τ 24 0 (h * 100 + k)) i = (decide (i < (σ 40 0 4).toNatClampNeg) && decide (σ 45 0 i = Int32.ofNat h) && pu_sn σ i (Int32.ofNat k))) ∧ (∀ t, t < (σ 40 0 13).toNatClampNeg → rx_t σ τ t)
def rx_w (σ τ : ma_I) : Prop := rx_v σ τ ∧ τ 6 0 4 = σ 40 0 4

/-! ===== image and back: the cells, and the class ===== -/
def pu_kf (σ : ma_I) (i b : Nat) : Int32 := if b = 0 then σ 43 0 i else σ 60 0 (1 + 9 * b + i)
def rx_i (σ τ : ma_I) : Prop := τ 7 0 0 = σ 40 0 42 ∧ (σ 40 0 42 ≠ 0 → τ 7 0 1 = σ 60 0 0 ∧ τ 7 0 2 = σ 60 0 3 ∧ τ 7 0 3 = σ 60 0 1 ∧ τ 7 0 6 = σ 60 0 2 ∧ (∀ k, k < (σ 60 0 1).toNatClampNeg → τ 27 0 k = σ 41 0 k ∧ τ 28 0 k = σ 60 0 (4 + k)) ∧ ∀ i, i < (σ 60 0 2).toNatClampNeg → ∀ b, b < 6 → τ 30 i b = pu_kf σ i b)
def iv_k1 (σ : ma_I) (i : Nat) : Prop := rg (pu_kf σ i 1) 0 9 ∧ rg (pu_kf σ i 2) 0 7 ∧ rg (pu_kf σ i 3) 0 7 ∧ pu_kf σ i 2 ≠ pu_kf σ i 3 ∧ ∃ f l : Nat, pu_kf σ i 4 = Int32.ofNat f ∧ pu_kf σ i 5 = Int32.ofNat l ∧ f ≤ l ∧ l ≤ 99
def iv_i (σ : ma_I) : Prop := σ 40 0 42 ≠ 0 → rg (σ 60 0 0) 1 20 ∧ (∃ r : Nat, σ 60 0 3 = Int32.ofNat r ∧ r < (σ 40 0 13).toNatClampNeg) ∧ (∃ m : Nat, σ 60 0 1 = Int32.ofNat m ∧ m ≤ pu_nm0 σ ∧ ∀ k, k < m → rg (σ 60 0 (4 + k)) 0 7) ∧ ∃ n : Nat, σ 60 0 2 = Int32.ofNat n ∧ n ≤ pu_no σ ∧ ∀ i, i < n → iv_k1 σ i
section IMX
variable {d : Nat} {I : ma_I} {o : Nat} {Q : ma_Q} {σ : ma_I}
theorem im_o {g i j : Nat} (h : g ≠ 60) (h2 : ¬(g = 40 ∧ i = 0 ∧ j = 42)) : st_image σ g i j = σ g i j := by
  unfold st_image
  rw [cp_g h, cp_g h, cp_g h, cp_g h, cp_g h, cp_g h, up_g h, up_g h, up_g h, up_g h, up_ne h2]
theorem im_g {g i j : Nat} (h : g ≠ 60) (h2 : g ≠ 40) : st_image σ g i j = σ g i j := im_o h (fun e => h2 e.1)
theorem im_j {i j : Nat} (h : j ≠ 42) : st_image σ 40 i j = σ 40 i j := im_o (by decide) (fun e => h e.2.2)
theorem im_42 : st_image σ 40 0 42 = 1 := by
  unfold st_image
  rw [cp_g (by decide), cp_g (by decide), cp_g (by decide), cp_g (by decide), cp_g (by decide), cp_g (by decide), up_g (by decide), up_g (by decide), up_g (by decide), up_g (by decide), xv_us]
theorem im_n : st_image σ 60 0 0 = σ 40 0 0 ∧ st_image σ 60 0 1 = σ 40 0 1 ∧ st_image σ 60 0 2 = σ 40 0 4 ∧ st_image σ 60 0 3 = σ 40 0 14 := by
  unfold st_image
  refine ⟨?_, ?_, ?_, ?_⟩
  · rw [cp_z (by decide), cp_z (by decide), cp_z (by decide), cp_z (by decide), cp_z (by decide), cp_z (by decide), up_j (by decide), up_j (by decide), up_j (by decide), xv_us]
  · rw [cp_z (by decide), cp_z (by decide), cp_z (by decide), cp_z (by decide), cp_z (by decide), cp_z (by decide), up_j (by decide), up_j (by decide), xv_us]
  · rw [cp_z (by decide), cp_z (by decide), cp_z (by decide), cp_z (by decide), cp_z (by decide), cp_z (by decide), up_j (by decide), xv_us]
  · rw [cp_z (by decide), cp_z (by decide), cp_z (by decide), cp_z (by decide), cp_z (by decide), cp_z (by decide), xv_us]
theorem im_m {k : Nat} (hk : k < 6) : st_image σ 60 0 (4 + k) = σ 42 0 k := by
  unfold st_image
  rw [cp_z (by omega), cp_z (by omega), cp_z (by omega), cp_z (by omega), cp_z (by omega), cp_at (by omega) (by omega), up_g (by decide), up_g (by decide), up_g (by decide), up_g (by decide), up_g (by decide)]
  congr 1
  omega
theorem im_k {i b : Nat} (hi : i < 9) (hb : b < 6) : pu_kf (st_image σ) i b = σ (43 + b) 0 i := by
  unfold pu_kf
  match b, hb with
  | 0, _ => exact im_g (by decide) (by decide)
  | 1, _ =>
    rw [if_neg (by decide)]
    unfold st_image
    rw [cp_z (by omega), cp_z (by omega), cp_z (by omega), cp_z (by omega), cp_at (by omega) (by omega), cp_g (by decide), up_g (by decide), up_g (by decide), up_g (by decide), up_g (by decide), up_g (by decide)]
    congr 1
    omega
  | 2, _ =>
    rw [if_neg (by decide)]
    unfold st_image
    rw [cp_z (by omega), cp_z (by omega), cp_z (by omega), cp_at (by omega) (by omega), cp_g (by decide), cp_g (by decide), up_g (by decide), up_g (by decide), up_g (by decide), up_g (by decide), up_g (by decide)]
    congr 1
    omega
  | 3, _ =>
    rw [if_neg (by decide)]
    unfold st_image
    rw [cp_z (by omega), cp_z (by omega), cp_at (by omega) (by omega), cp_g (by decide), cp_g (by decide), cp_g (by decide), up_g (by decide), up_g (by decide), up_g (by decide), up_g (by decide), up_g (by decide)]
    congr 1
    omega
  | 4, _ =>
    rw [if_neg (by decide)]
    unfold st_image
    rw [cp_z (by omega), cp_at (by omega) (by omega), cp_g (by decide), cp_g (by decide), cp_g (by decide), cp_g (by decide), up_g (by decide), up_g (by decide), up_g (by decide), up_g (by decide), up_g (by decide)]
    congr 1
    omega
  | 5, _ =>
    rw [if_neg (by decide)]
    unfold st_image
    rw [cp_at (by omega) (by omega), cp_g (by decide), cp_g (by decide), cp_g (by decide), cp_g (by decide), cp_g (by decide), up_g (by decide), up_g (by decide), up_g (by decide), up_g (by decide), up_g (by decide)]
    congr 1
    omega
theorem bk_o {g i j : Nat} (h : g ≠ 42 ∧ g ≠ 44 ∧ g ≠ 45 ∧ g ≠ 46 ∧ g ≠ 47 ∧ g ≠ 48) (h2 : g = 40 → j ≠ 0 ∧ j ≠ 1 ∧ j ≠ 4 ∧ j ≠ 14) : pu_bk σ g i j = σ g i j := by
  unfold pu_bk
  rw [cp_g h.2.2.2.2.2, cp_g h.2.2.2.2.1, cp_g h.2.2.2.1, cp_g h.2.2.1, cp_g h.2.1, cp_g h.1, up_ne (fun e => (h2 e.1).2.2.2 e.2.2), up_ne (fun e => (h2 e.1).2.2.1 e.2.2), up_ne (fun e => (h2 e.1).2.1 e.2.2), up_ne (fun e => (h2 e.1).1 e.2.2)]
theorem bk_n : pu_bk σ 40 0 0 = σ 60 0 0 ∧ pu_bk σ 40 0 1 = σ 60 0 1 ∧ pu_bk σ 40 0 4 = σ 60 0 2 ∧ pu_bk σ 40 0 14 = σ 60 0 3 := by
  unfold pu_bk
  refine ⟨?_, ?_, ?_, ?_⟩
  · rw [cp_g (by decide), cp_g (by decide), cp_g (by decide), cp_g (by decide), cp_g (by decide), cp_g (by decide), up_j (by decide), up_j (by decide), up_j (by decide), xv_us]
  · rw [cp_g (by decide), cp_g (by decide), cp_g (by decide), cp_g (by decide), cp_g (by decide), cp_g (by decide), up_j (by decide), up_j (by decide), xv_us]
  · rw [cp_g (by decide), cp_g (by decide), cp_g (by decide), cp_g (by decide), cp_g (by decide), cp_g (by decide), up_j (by decide), xv_us]
  · rw [cp_g (by decide), cp_g (by decide), cp_g (by decide), cp_g (by decide), cp_g (by decide), cp_g (by decide), xv_us]
theorem bk_m {k : Nat} (hk : k < 6) : pu_bk σ 42 0 k = σ 60 0 (4 + k) := by
  unfold pu_bk
  rw [cp_g (by decide), cp_g (by decide), cp_g (by decide), cp_g (by decide), cp_g (by decide), cp_at (by omega) (by omega), up_g (by decide), up_g (by decide), up_g (by decide), up_g (by decide)]
  congr 1
theorem bk_k {i b : Nat} (hi : i < 9) (hb : b < 6) : pu_bk σ (43 + b) 0 i = pu_kf σ i b := by
  unfold pu_kf
  match b, hb with
  | 0, _ => exact bk_o (by decide) (fun e => absurd e (by decide))
  | 1, _ =>
    rw [if_neg (by decide)]
    unfold pu_bk
    rw [cp_g (by decide), cp_g (by decide), cp_g (by decide), cp_g (by decide), cp_at (by omega) (by omega), cp_g (by decide), up_g (by decide), up_g (by decide), up_g (by decide), up_g (by decide)]
    congr 1
  | 2, _ =>
    rw [if_neg (by decide)]
    unfold pu_bk
    rw [cp_g (by decide), cp_g (by decide), cp_g (by decide), cp_at (by omega) (by omega), cp_g (by decide), cp_g (by decide), up_g (by decide), up_g (by decide), up_g (by decide), up_g (by decide)]
    congr 1
  | 3, _ =>
    rw [if_neg (by decide)]
    unfold pu_bk
    rw [cp_g (by decide), cp_g (by decide), cp_at (by omega) (by omega), cp_g (by decide), cp_g (by decide), cp_g (by decide), up_g (by decide), up_g (by decide), up_g (by decide), up_g (by decide)]
    congr 1
  | 4, _ =>
    rw [if_neg (by decide)]
    unfold pu_bk
    rw [cp_g (by decide), cp_at (by omega) (by omega), cp_g (by decide), cp_g (by decide), cp_g (by decide), cp_g (by decide), up_g (by decide), up_g (by decide), up_g (by decide), up_g (by decide)]
    congr 1
  | 5, _ =>
    rw [if_neg (by decide)]
    unfold pu_bk
    rw [cp_at (by omega) (by omega), cp_g (by decide), cp_g (by decide), cp_g (by decide), cp_g (by decide), cp_g (by decide), up_g (by decide), up_g (by decide), up_g (by decide), up_g (by decide)]
    congr 1
theorem im_iv (hg : iv_g σ) : iv_g (st_image σ) := by
  obtain ⟨h1, h2, h3, h4⟩ := hg
  obtain ⟨n6, r6, hn6, hr6, h6, hrn, hw⟩ := h4
  refine ⟨?_, mv_cong (im_j (by decide)) (fun _ => im_g (by decide) (by decide)) (fun _ => im_g (by decide) (by decide)) h2, od_cong (im_j (by decide)) (fun _ _ => ⟨im_g (by decide) (by decide), im_g (by decide) (by decide), im_g (by decide) (by decide), im_g (by decide) (by decide), im_g (by decide) (by decide), im_g (by decide) (by decide)⟩) h3, tx_cong (σ := σ) (r := r6) (im_j (by decide)) (fun _ => im_g (by decide) (by decide)) (fun _ => im_g (by decide) (by decide)) (by rw [im_j (by decide)]; exact hr6) (by rw [hn6, in_cl (by omega)]; exact hrn) ⟨n6, r6, hn6, hr6, h6, hrn, hw⟩⟩
  unfold iv_th
  rw [im_j (by decide)]
  exact h1
theorem im_ii (hg : iv_g σ) : iv_i (st_image σ) := by
  intro _
  obtain ⟨h1, h2, h3, h4⟩ := hg
  obtain ⟨n6, r6, hn6, hr6, h6, hrn, hw⟩ := h4
  obtain ⟨e0, e1, e2, e3⟩ := im_n (σ := σ)
  obtain ⟨m6, hm, hmk⟩ := nm_le h2
  obtain ⟨a8, ha, -, -⟩ := A_le h3
  obtain ⟨n', hn', hn8', hon⟩ := h3
  have en : pu_no σ = n' := by unfold pu_no; rw [hn', in_cl (by omega)]
  rw [e0, e1, e2, e3, im_j (by decide)]
  refine ⟨h1, ⟨r6, hr6, by rw [hn6, in_cl (by omega)]; exact hrn⟩, ⟨pu_nm0 σ, hm, ?_, fun k hk => ?_⟩, ⟨pu_no σ, ha, ?_, fun i hi => ?_⟩⟩
  · unfold pu_nm0; rw [im_j (by decide)]; exact Nat.le_refl _
  · rw [im_m (by omega)]; exact (hmk k hk).2.1
  · unfold pu_no; rw [im_j (by decide)]; exact Nat.le_refl _
  · have q := hon i (by omega)
    unfold iv_k1
    rw [im_k (by omega) (by decide), im_k (by omega) (by decide), im_k (by omega) (by decide), im_k (by omega) (by decide), im_k (by omega) (by decide)]
    exact q.2
theorem kf_bk {i b : Nat} : pu_kf (pu_bk σ) i b = pu_kf σ i b := by
  unfold pu_kf
  rw [bk_o (by decide) (fun e => absurd e (by decide)), bk_o (by decide) (fun e => absurd e (by decide))]
theorem bk_iv (hg : iv_g σ) (hi : iv_i σ) (hk : σ 40 0 42 ≠ 0) : iv_g (pu_bk σ) := by
  obtain ⟨h1, h2, h3, h4⟩ := hg
  obtain ⟨n6, r6, hn6, hr6, h6, hrn, hw⟩ := h4
  obtain ⟨i0, ⟨r, ir, irn⟩, ⟨m, im, imn, imk⟩, ⟨n, ino, inn, ink⟩⟩ := hi hk
  obtain ⟨e0, e1, e2, e3⟩ := bk_n (σ := σ)
  obtain ⟨m6, hm, hmk⟩ := nm_le h2
  obtain ⟨a8, ha, -, -⟩ := A_le h3
  obtain ⟨n', hn', hn8', hon⟩ := h3
  have en : pu_no σ = n' := by unfold pu_no; rw [hn', in_cl (by omega)]
  refine ⟨?_, ⟨m, by rw [e1]; exact im, by omega, fun k hkm => ?_⟩, ⟨n, by rw [e2]; exact ino, by omega, fun i hin => ?_⟩, tx_cong (σ := σ) (r := r) (bk_o (by decide) (by decide)) (fun _ => bk_o (by decide) (fun e => absurd e (by decide))) (fun _ => bk_o (by decide) (fun e => absurd e (by decide))) (by rw [e3]; exact ir) irn ⟨n6, r6, hn6, hr6, h6, hrn, hw⟩⟩
  · unfold iv_th; rw [e0]; exact i0
  · have e41 : ∀ j, pu_bk σ 41 0 j = σ 41 0 j := fun j => bk_o (by decide) (fun e => absurd e (by decide))
    rw [e41, e41, bk_m (by omega)]
    obtain ⟨q1, q2, q3⟩ := hmk k (by omega)
    exact ⟨q1, imk k hkm, fun hh => q3 (by omega)⟩
  · have q := ink i hin
    have b0 := bk_k (σ := σ) (i := i) (b := 0) (by omega) (by decide)
    have b1 := bk_k (σ := σ) (i := i) (b := 1) (by omega) (by decide)
    have b2 := bk_k (σ := σ) (i := i) (b := 2) (by omega) (by decide)
    have b3 := bk_k (σ := σ) (i := i) (b := 3) (by omega) (by decide)
    have b4 := bk_k (σ := σ) (i := i) (b := 4) (by omega) (by decide)
    have b5 := bk_k (σ := σ) (i := i) (b := 5) (by omega) (by decide)
    unfold iv_o1
    rw [b0, b1, b2, b3, b4, b5]
    exact ⟨(hon i (by omega)).1, q⟩
theorem bk_ii (hi : iv_i σ) (hk : σ 40 0 42 ≠ 0) : iv_i (pu_bk σ) := by
  intro _
  obtain ⟨i0, ⟨r, ir, irn⟩, ⟨m, im, imn, imk⟩, ⟨n, ino, inn, ink⟩⟩ := hi hk
  obtain ⟨e0, e1, e2, e3⟩ := bk_n (σ := σ)
  have e60 : ∀ j, pu_bk σ 60 0 j = σ 60 0 j := fun j => bk_o (by decide) (fun e => absurd e (by decide))
  rw [e60, e60, e60, e60, bk_o (by decide) (by decide)]
  refine ⟨i0, ⟨r, ir, irn⟩, ⟨m, im, ?_, fun k hkm => ?_⟩, ⟨n, ino, ?_, fun i hin => ?_⟩⟩
  · unfold pu_nm0; rw [e1, im]
    by_cases hm : m < 2147483648
    · rw [in_cl hm]; exact Nat.le_refl _
    · exfalso
      have := (σ 40 0 1).toNatClampNeg_lt
      unfold pu_nm0 at imn
      omega
  · rw [e60]; exact imk k hkm
  · unfold pu_no; rw [e2, ino]
    by_cases hm : n < 2147483648
    · rw [in_cl hm]; exact Nat.le_refl _
    · exfalso
      have := (σ 40 0 4).toNatClampNeg_lt
      unfold pu_no at inn
      omega
  · unfold iv_k1
    rw [kf_bk, kf_bk, kf_bk, kf_bk, kf_bk]
    exact ink i hin
end IMX

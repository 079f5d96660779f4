/-! ===== what new states keep ===== -/
section STI
variable {σ : ma_I}
theorem nm_bd (h : iv_mv σ) : σ 40 0 1 = Int32.ofNat (pu_nm0 σ) ∧ pu_nm0 σ ≤ 6 := by
  obtain ⟨n, a, b, -⟩ := h
  unfold pu_nm0
  rw [a, in_cl (by omega)]
  exact ⟨rfl, b⟩
theorem no_bd (h : iv_od σ) : σ 40 0 4 = Int32.ofNat (pu_no σ) ∧ pu_no σ ≤ 8 := by
  obtain ⟨n, a, b, -⟩ := h
  unfold pu_no
  rw [a, in_cl (by omega)]
  exact ⟨rfl, b⟩
theorem st_move_iv {a b : Int32} (hg : iv_g σ) : iv_g (st_move σ a b) := by
  unfold st_move
  by_cases hc : (0 ≤ a ∧ a ≤ 99) ∧ (0 ≤ b ∧ b ≤ 7) ∧ ¬(0 < pu_nm0 σ ∧ a ≤ σ 41 0 (pu_nm0 σ - 1)) ∧ pu_nm0 σ ≠ 6
  · rw [if_pos hc]
    obtain ⟨g1, g2, g3, g4⟩ := hg
    have g4' := g4
    obtain ⟨n, r, q1, q2, q3, q4, -⟩ := g4'
    exact ⟨g1, mm_iv g2 hc.1 hc.2.1 hc.2.2.1 hc.2.2.2, od_cong rfl (fun _ _ => ⟨rfl, rfl, rfl, rfl, rfl, rfl⟩) g3, tx_cong (σ := σ) (τ := pu_mm σ (pu_nm0 σ) a b) (r := r) rfl (fun _ => rfl) (fun _ => rfl) q2 (by rw [q1, in_cl (by omega)]; exact q4) g4⟩
  · rw [if_neg hc]; exact hg
theorem st_move_f {a b : Int32} (hg : iv_g σ) : (∀ k, k < pu_nm0 σ → st_move σ a b 41 0 k = σ 41 0 k) ∧ pu_nm0 σ ≤ pu_nm0 (st_move σ a b) := by
  have hb := nm_bd hg.2.1
  unfold st_move
  by_cases hc : (0 ≤ a ∧ a ≤ 99) ∧ (0 ≤ b ∧ b ≤ 7) ∧ ¬(0 < pu_nm0 σ ∧ a ≤ σ 41 0 (pu_nm0 σ - 1)) ∧ pu_nm0 σ ≠ 6
  · rw [if_pos hc]
    refine ⟨fun k hk => ?_, ?_⟩
    · unfold pu_mm
      rw [up_g (by decide), up_g (by decide), up_j (by omega)]
    · show pu_nm0 σ ≤ (pu_mm σ (pu_nm0 σ) a b 40 0 1).toNatClampNeg
      unfold pu_mm
      rw [xv_us, in_cl (by omega)]
      omega
  · rw [if_neg hc]; exact ⟨fun _ _ => rfl, Nat.le_refl _⟩
theorem st_order_f {a b c : Int32} (hg : iv_g σ) : (∀ k, k < pu_no σ → st_order σ a b c 43 0 k = σ 43 0 k) ∧ pu_no σ ≤ pu_no (st_order σ a b c) := by
  have hb := no_bd hg.2.2.1
  unfold st_order
  by_cases hc : pu_okb a b c = true ∧ pu_no σ ≠ 8
  · rw [if_pos hc]
    refine ⟨fun k hk => ?_, ?_⟩
    · unfold pu_ad
      rw [up_g (by decide), up_g (by decide), up_g (by decide), up_g (by decide), up_g (by decide), up_g (by decide), up_j (by omega)]
    · show pu_no σ ≤ (pu_ad σ (pu_no σ) _ _ _ _ _ _ 40 0 4).toNatClampNeg
      unfold pu_ad
      rw [xv_us, in_cl (by omega)]
      omega
  · rw [if_neg hc]; exact ⟨fun _ _ => rfl, Nat.le_refl _⟩
theorem og_f {s : Nat} : ∀ (r : Nat) (σ : ma_I) (f came : Nat), iv_g σ → (∀ k, k < pu_no σ → (pu_og s r σ f came).2 43 0 k = σ 43 0 k) ∧ pu_no σ ≤ pu_no (pu_og s r σ f came).2 := by
  intro r
  induction r with
  | zero => intro σ f came h; exact ⟨fun _ _ => rfl, Nat.le_refl _⟩
  | succ r ih =>
    intro σ f came h
    unfold pu_og
    by_cases e : f + 3 ≤ pu_sz σ s
    · rw [if_pos e]
      obtain ⟨a1, a2⟩ := st_order_f (a := σ 63 0 (40 * s + f)) (b := σ 63 0 (40 * s + f + 1)) (c := σ 63 0 (40 * s + f + 2)) h
      obtain ⟨b1, b2⟩ := ih (st_order σ (σ 63 0 (40 * s + f)) (σ 63 0 (40 * s + f + 1)) (σ 63 0 (40 * s + f + 2))) (f + 3) (if 0 ≤ an_order σ (σ 63 0 (40 * s + f)) (σ 63 0 (40 * s + f + 1)) (σ 63 0 (40 * s + f + 2)) then came + 1 else came) (st_iv h)
      exact ⟨fun k hk => (b1 k (by omega)).trans (a1 k hk), Nat.le_trans a2 b2⟩
    · rw [if_neg e]; exact ⟨fun _ _ => rfl, Nat.le_refl _⟩
theorem st_orders_f {a b c n : Int32} (hg : iv_g σ) : (∀ k, k < pu_no σ → st_orders σ a b c n 43 0 k = σ 43 0 k) ∧ pu_no σ ≤ pu_no (st_orders σ a b c n) := by
  unfold st_orders
  by_cases e : pu_orc σ a b n = 0
  · rw [if_pos e]; exact og_f _ _ _ _ hg
  · rw [if_neg e]; exact ⟨fun _ _ => rfl, Nat.le_refl _⟩
theorem st_orders_iv {a b c n : Int32} (hg : iv_g σ) : iv_g (st_orders σ a b c n) := by
  unfold st_orders
  by_cases e : pu_orc σ a b n = 0
  · rw [if_pos e]; exact og_iv _ _ _ _ hg
  · rw [if_neg e]; exact hg
theorem st_sheet_iv {a b c : Int32} (h : iv_s σ) : iv_s (st_sheet σ a b c) := by
  unfold st_sheet
  by_cases hc : (0 ≤ a ∧ a ≤ 3) ∧ (-1 ≤ b ∧ b ≤ 2) ∧ (b = -1 ∨ (c ≤ 40 ∧ 0 ≤ c))
  · rw [if_pos hc]
    by_cases e : b = -1
    · rw [if_pos e]
      exact sh_iv h (Or.inl e) ⟨0, rfl, by omega, by omega⟩
    · rw [if_neg e]
      have hcc := hc.2.2.resolve_left e
      have h0 : 0 ≤ b := by
        have h1 := hc.2.1.1
        rw [Int32.le_iff_toInt_le] at h1 ⊢
        have e1 : (-1 : Int32).toInt = -1 := by decide
        have e2 : (0 : Int32).toInt = 0 := by decide
        rw [e1] at h1
        rw [e2]
        have : b.toInt ≠ -1 := fun q => e (Int32.toInt_inj.mp (by rw [q, e1]))
        omega
      exact sh_iv h (Or.inr (rg_mk (by decide) h0 hc.2.1.2)) (rg_mk (by decide) hcc.2 hcc.1)
  · rw [if_neg hc]; exact h
theorem st_cell_iv {a b c : Int32} (h : iv_s σ) : iv_s (st_cell σ a b c) := by
  unfold st_cell
  by_cases hc : (0 ≤ a ∧ a ≤ 3) ∧ σ 61 0 a.toNatClampNeg ≠ -1 ∧ (0 ≤ b ∧ b ≤ σ 62 0 a.toNatClampNeg - 1)
  · rw [if_pos hc]
    intro s hs
    rw [up_g (by decide), up_g (by decide)]
    exact h s hs
  · rw [if_neg hc]; exact h
theorem st_copy_iv {a i b j n : Int32} (h : iv_s σ) : iv_s (st_copy σ a i b j n) := by
  unfold st_copy
  by_cases hc : (0 ≤ a ∧ a ≤ 3) ∧ (0 ≤ b ∧ b ≤ 3) ∧ ¬(σ 61 0 a.toNatClampNeg = -1 ∨ σ 61 0 b.toNatClampNeg = -1) ∧ σ 61 0 a.toNatClampNeg = σ 61 0 b.toNatClampNeg ∧ xv_ho (σ 62 0 a.toNatClampNeg) i n ∧ xv_ho (σ 62 0 b.toNatClampNeg) j n
  · rw [if_pos hc]; exact cy_iv h
  · rw [if_neg hc]; exact h
theorem st_film_iv {a b c : Int32} (h : iv_s σ) : iv_s (st_film σ a b c) := by
  unfold st_film
  by_cases hc : (0 ≤ a ∧ a ≤ 3) ∧ (0 ≤ b ∧ b ≤ 7) ∧ (0 ≤ c ∧ c ≤ 99)
  · rw [if_pos hc]
    refine fk_iv h ?_
    unfold pu_fn
    split <;> omega
  · rw [if_neg hc]; exact h
end STI

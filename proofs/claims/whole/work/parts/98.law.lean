/-! ===== the law's loop ===== -/
theorem lg_same (x : Int64) : lg_cmp x x = 0 := by
  unfold lg_cmp
  simp
section LAW
variable {d : Nat} {Q : ma_Q}
theorem law_loop {L : Nat} (hL3 : L ≤ 3072) (hq : ∀ J p, Q (some (.inl 1)) J p) : ∀ (m v : Nat) (I : ma_I) (o : Nat), LW I → (I 1 1 0).toNatClampNeg = L → v ≤ L → L < v + m → Ex (d + 44 + 1) 192 (18, [vR 1 0, vR 5 0, vR 40 0, vI (Int32.ofNat v)], [], ma_mem I o, 93, 6687) (ma_end Q) := by
  intro m
  induction m with
  | zero => intro v I o h hL hv hm; omega
  | succ m ih =>
    intro v I o h hL hv hm
    have e6 : (Int32.ofNat L - 6).toInt = (L : Int) - 6 := by
      rw [Int32.toInt_sub, in_ti (by omega)]
      have e6 : (6 : Int32).toInt = 6 := by decide
      rw [e6, Int.bmod_eq_of_le (by omega) (by omega)]
    refine c_192_18 ⟨fun _ => hq I o, fun c => ?_⟩
    rw [hL, Int32.le_iff_toInt_le, e6, in_ti (by omega)] at c
    have hc : v + 6 ≤ L := by omega
    have a1 : Int32.ofNat v + 1 = Int32.ofNat (v + 1) := (Int32.ofNat_add v 1).symm
    have a2 : Int32.ofNat v + 2 = Int32.ofNat (v + 2) := (Int32.ofNat_add v 2).symm
    have a3 : Int32.ofNat v + 3 = Int32.ofNat (v + 3) := (Int32.ofNat_add v 3).symm
    have a4 : Int32.ofNat v + 4 = Int32.ofNat (v + 4) := (Int32.ofNat_add v 4).symm
    have a5 : Int32.ofNat v + 5 = Int32.ofNat (v + 5) := (Int32.ofNat_add v 5).symm
    have a6 : Int32.ofNat v + 6 = Int32.ofNat (v + 6) := (Int32.ofNat_add v 6).symm
    rw [a1, a2, a3, a4, a5, a6]
    have hin : ∀ c, c < 6 → ma_in (Int32.ofNat (v + c)) ((I 1 1 0).toNatClampNeg) := by
      intro c hc6
      rw [hL]
      exact in_in (by omega) (by omega)
    have i1 := hin 1 (by omega)
    have i2 := hin 2 (by omega)
    have i3 := hin 3 (by omega)
    have i4 := hin 4 (by omega)
    have i5 := hin 5 (by omega)
    have next : ∀ (J2 : ma_I) (p : Nat), (∀ i j, J2 1 i j = I 1 i j) → LW J2 → Ex (d + 44 + 1) 192 (18, [vR 1 0, vR 5 0, vR 40 0, vI (Int32.ofNat (v + 6))], [], ma_mem J2 p, 93, 6687) (ma_end Q) := by
      intro J2 p s2 h2
      exact ih (v + 6) J2 p h2 (by rw [s2]; exact hL) hc (by omega)
    refine ⟨hin 0 (by omega), ?_⟩
    refine ⟨fun _ => ?_, fun _ => ?_⟩
    · refine ⟨i1, i2, cl_move h (fun J1 o1 x s1 ps => ⟨x, rfl, ?_⟩)⟩
      simp only [s1]
      exact ⟨i1, i2, ps _ _ _ (fun J2 s2 lw => ⟨x, rfl, fun _ => next J2 o1 s2 lw, fun q => absurd (rfl) q⟩)⟩
    refine ⟨fun _ => ?_, fun _ => ?_⟩
    · refine ⟨i1, i2, i3, cl_order h (fun J1 o1 x s1 ps => ⟨x, rfl, ?_⟩)⟩
      simp only [s1]
      exact ⟨i1, i2, i3, ps _ _ _ (fun J2 s2 lw => ⟨x, rfl, fun _ => next J2 o1 s2 lw, fun q => absurd (rfl) q⟩)⟩
    refine ⟨fun _ => ?_, fun _ => ?_⟩
    · refine ⟨i1, i2, i3, cl_set h (fun J1 o1 x s1 ps => ⟨x, rfl, ?_⟩)⟩
      simp only [s1]
      exact ⟨i1, i2, i3, ps _ _ _ (fun J2 s2 lw => ⟨x, rfl, fun _ => next J2 o1 s2 lw, fun q => absurd (rfl) q⟩)⟩
    refine ⟨fun _ => ?_, fun _ => ?_⟩
    · refine ⟨i1, i2, cl_told h (fun J1 o1 x s1 ps => ⟨x, rfl, ?_⟩)⟩
      simp only [s1]
      exact ⟨i1, i2, ps _ _ _ (fun J2 s2 lw => ⟨x, rfl, fun _ => next J2 o1 s2 lw, fun q => absurd (rfl) q⟩)⟩
    refine ⟨fun _ => ?_, fun _ => ?_⟩
    · refine ⟨i1, cl_lives h (fun J1 o1 x s1 ps => ⟨x, rfl, ?_⟩)⟩
      simp only [s1]
      exact ⟨i1, ps _ _ _ (fun J2 s2 lw => ⟨x, rfl, fun _ => next J2 o1 s2 lw, fun q => absurd (rfl) q⟩)⟩
    refine ⟨fun _ => ?_, fun _ => ?_⟩
    · refine ⟨i1, i2, i3, cl_sends h (fun J1 o1 x s1 ps => ⟨x, rfl, ?_⟩)⟩
      simp only [s1]
      exact ⟨i1, i2, i3, ps _ _ _ (fun J2 s2 lw => ⟨x, rfl, fun _ => next J2 o1 s2 lw, fun q => absurd (rfl) q⟩)⟩
    refine ⟨fun _ => ?_, fun _ => ?_⟩
    · refine ⟨i1, cl_feed h (fun J1 o1 x s1 ps => ⟨x, rfl, ?_⟩)⟩
      simp only [s1]
      exact ⟨i1, ps _ _ _ (fun J2 s2 lw => ⟨x, rfl, fun _ => next J2 o1 s2 lw, fun q => absurd (rfl) q⟩)⟩
    refine ⟨fun _ => ?_, fun _ => ?_⟩
    · exact cl_text h (fun J1 o1 x s1 ps => ⟨x, rfl, ps _ _ _ (fun J2 s2 lw => ⟨x, rfl, fun _ => next J2 o1 s2 lw, fun q => absurd (rfl) q⟩)⟩)
    refine ⟨fun _ => ?_, fun _ => ?_⟩
    · refine ⟨i1, cl_force h (fun J1 o1 x s1 ps => ⟨x, rfl, ?_⟩)⟩
      simp only [s1]
      exact ⟨i1, ps _ _ _ (fun J2 s2 lw => ⟨x, rfl, fun _ => next J2 o1 s2 lw, fun q => absurd (rfl) q⟩)⟩
    refine ⟨fun _ => ?_, fun _ => ?_⟩
    · refine ⟨i1, i2, i3, cl_letter h (fun J1 o1 x s1 ps => ⟨x, rfl, ?_⟩)⟩
      simp only [s1]
      exact ⟨i1, i2, i3, ps _ _ _ (fun J2 s2 lw => ⟨x, rfl, fun _ => next J2 o1 s2 lw, fun q => absurd (rfl) q⟩)⟩
    refine ⟨fun _ => ?_, fun _ => ?_⟩
    · refine ⟨i1, i2, cl_reaches h (fun J1 o1 x s1 ps => ⟨x, rfl, ?_⟩)⟩
      simp only [s1]
      exact ⟨i1, i2, ps _ _ _ (fun J2 s2 lw => ⟨x, rfl, fun _ => next J2 o1 s2 lw, fun q => absurd (rfl) q⟩)⟩
    refine ⟨fun _ => ?_, fun _ => ?_⟩
    · refine ⟨i1, i2, cl_needless h (fun J1 o1 x s1 ps => ⟨x, rfl, ?_⟩)⟩
      simp only [s1]
      exact ⟨i1, i2, ps _ _ _ (fun J2 s2 lw => ⟨x, rfl, fun _ => next J2 o1 s2 lw, fun q => absurd (rfl) q⟩)⟩
    refine ⟨fun _ => ?_, fun _ => ?_⟩
    · refine ⟨i1, i2, i3, cl_one h (fun J1 o1 x s1 ps => ⟨x, rfl, ?_⟩)⟩
      simp only [s1]
      exact ⟨i1, i2, i3, ps _ _ _ (fun J2 s2 lw => ⟨x, rfl, fun _ => next J2 o1 s2 lw, fun q => absurd (rfl) q⟩)⟩
    refine ⟨fun _ => ?_, fun _ => ?_⟩
    · refine ⟨i1, cl_thicker h (fun J1 o1 x s1 ps => ⟨x, rfl, ?_⟩)⟩
      simp only [s1]
      exact ⟨i1, ps _ _ _ (fun J2 s2 lw => ⟨x, rfl, fun _ => next J2 o1 s2 lw, fun q => absurd (rfl) q⟩)⟩
    refine ⟨fun _ => ?_, fun _ => ?_⟩
    · refine ⟨i1, i2, cl_covers h (fun J1 o1 x s1 ps => ⟨x, rfl, ?_⟩)⟩
      simp only [s1]
      exact ⟨i1, i2, ps _ _ _ (fun J2 s2 lw => ⟨x, rfl, fun _ => next J2 o1 s2 lw, fun q => absurd (rfl) q⟩)⟩
    refine ⟨fun _ => ?_, fun _ => ?_⟩
    · refine ⟨i1, i2, i3, cl_film h (fun J1 o1 x s1 ps => ⟨x, rfl, ?_⟩)⟩
      simp only [s1]
      exact ⟨i1, i2, i3, ps _ _ _ (fun J2 s2 lw => ⟨x, rfl, fun _ => next J2 o1 s2 lw, fun q => absurd (rfl) q⟩)⟩
    refine ⟨fun _ => ?_, fun _ => ?_⟩
    · refine ⟨i1, i2, cl_drawn h (fun J1 o1 x s1 ps => ⟨x, rfl, ?_⟩)⟩
      simp only [s1]
      exact ⟨i1, i2, ps _ _ _ (fun J2 s2 lw => ⟨x, rfl, fun _ => next J2 o1 s2 lw, fun q => absurd (rfl) q⟩)⟩
    refine ⟨fun _ => ?_, fun _ => ?_⟩
    · refine ⟨i1, i2, i3, i4, i5, cl_chance h (fun J1 o1 x s1 ps => ⟨x, rfl, ?_⟩)⟩
      simp only [s1]
      exact ⟨i1, i2, i3, i4, i5, ps _ _ _ (fun J2 s2 lw => ⟨x, rfl, fun _ => next J2 o1 s2 lw, fun q => absurd (lg_same x) q⟩)⟩
    refine ⟨fun _ => ?_, fun _ => ?_⟩
    · exact cl_image h (fun J1 o1 x s1 ps => ⟨x, rfl, ps _ _ _ (fun J2 s2 lw => ⟨x, rfl, fun _ => next J2 o1 s2 lw, fun q => absurd (rfl) q⟩)⟩)
    refine ⟨fun _ => ?_, fun _ => ?_⟩
    · exact cl_back h (fun J1 o1 x s1 ps => ⟨x, rfl, ps _ _ _ (fun J2 s2 lw => ⟨x, rfl, fun _ => next J2 o1 s2 lw, fun q => absurd (rfl) q⟩)⟩)
    refine ⟨fun _ => ?_, fun _ => ?_⟩
    · refine ⟨i1, cl_count h (fun J1 o1 x s1 ps => ⟨x, rfl, ?_⟩)⟩
      simp only [s1]
      exact ⟨i1, ps _ _ _ (fun J2 s2 lw => ⟨x, rfl, fun _ => next J2 o1 s2 lw, fun q => absurd (rfl) q⟩)⟩
    refine ⟨fun _ => ?_, fun _ => ?_⟩
    · refine ⟨i1, i2, i3, cl_sheet h (fun J1 o1 x s1 ps => ⟨x, rfl, ?_⟩)⟩
      simp only [s1]
      exact ⟨i1, i2, i3, ps _ _ _ (fun J2 s2 lw => ⟨x, rfl, fun _ => next J2 o1 s2 lw, fun q => absurd (rfl) q⟩)⟩
    refine ⟨fun _ => ?_, fun _ => ?_⟩
    · refine ⟨i1, i2, i3, cl_cell h (fun J1 o1 x s1 ps => ⟨x, rfl, ?_⟩)⟩
      simp only [s1]
      exact ⟨i1, i2, i3, ps _ _ _ (fun J2 s2 lw => ⟨x, rfl, fun _ => next J2 o1 s2 lw, fun q => absurd (rfl) q⟩)⟩
    refine ⟨fun _ => ?_, fun _ => ?_⟩
    · refine ⟨i1, i2, i3, i4, i5, cl_copy h (fun J1 o1 x s1 ps => ⟨x, rfl, ?_⟩)⟩
      simp only [s1]
      exact ⟨i1, i2, i3, i4, i5, ps _ _ _ (fun J2 s2 lw => ⟨x, rfl, fun _ => next J2 o1 s2 lw, fun q => absurd (rfl) q⟩)⟩
    refine ⟨fun _ => ?_, fun _ => ?_⟩
    · refine ⟨i1, i2, i3, i4, cl_orders h (fun J1 o1 x s1 ps => ⟨x, rfl, ?_⟩)⟩
      simp only [s1]
      exact ⟨i1, i2, i3, i4, ps _ _ _ (fun J2 s2 lw => ⟨x, rfl, fun _ => next J2 o1 s2 lw, fun q => absurd (rfl) q⟩)⟩
    refine ⟨fun _ => ?_, fun _ => ?_⟩
    · refine ⟨i1, i2, cl_taken h (fun J1 o1 x s1 ps => ⟨x, rfl, ?_⟩)⟩
      simp only [s1]
      exact ⟨i1, i2, ps _ _ _ (fun J2 s2 lw => ⟨x, rfl, fun _ => next J2 o1 s2 lw, fun q => absurd (rfl) q⟩)⟩
    exact next I o (fun _ _ => rfl) h
end LAW

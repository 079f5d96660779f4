/-! ===== image and back of the class ===== -/
section IMC
variable {d : Nat} {I : ma_I} {o : Nat} {Q : ma_Q} {σ : ma_I}
theorem fr_cq {l : List Nat} {I' : ma_I} {g p h q n : Nat} (hf : fr l I I') (h1 : h ≠ 40) (h2 : h ≠ 8) (hl : h ∈ l) : fr l I (ma_cpy I' g 0 p h 0 q n) := fun x y z hc => by
  rw [cp_g (fun e => hc (by rw [e, cl_g h1 h2]; exact hl))]
  exact hf x y z hc
/-- six numbers taken over -/
def up6 (I : ma_I) (g i : Nat) (v : Nat → Int32) : ma_I := ma_up (ma_up (ma_up (ma_up (ma_up (ma_up I g i 0 (v 0)) g i 1 (v 1)) g i 2 (v 2)) g i 3 (v 3)) g i 4 (v 4)) g i 5 (v 5)
theorem up6_at {g i b : Nat} {v : Nat → Int32} (hb : b < 6) : up6 I g i v g i b = v b := by
  unfold up6
  match b, hb with
  | 0, _ => rw [up_j (by decide), up_j (by decide), up_j (by decide), up_j (by decide), up_j (by decide), xv_us]
  | 1, _ => rw [up_j (by decide), up_j (by decide), up_j (by decide), up_j (by decide), xv_us]
  | 2, _ => rw [up_j (by decide), up_j (by decide), up_j (by decide), xv_us]
  | 3, _ => rw [up_j (by decide), up_j (by decide), xv_us]
  | 4, _ => rw [up_j (by decide), xv_us]
  | 5, _ => rw [xv_us]
theorem up6_ne {g i x y z : Nat} {v : Nat → Int32} (h : ¬(x = g ∧ y = i)) : up6 I g i v x y z = I x y z := by
  unfold up6
  rw [up_ne (fun e => h ⟨e.1, e.2.1⟩), up_ne (fun e => h ⟨e.1, e.2.1⟩), up_ne (fun e => h ⟨e.1, e.2.1⟩), up_ne (fun e => h ⟨e.1, e.2.1⟩), up_ne (fun e => h ⟨e.1, e.2.1⟩), up_ne (fun e => h ⟨e.1, e.2.1⟩)]
theorem fr_up6 {l : List Nat} {I' : ma_I} {g i : Nat} {v : Nat → Int32} (hf : fr l I I') (h1 : g ≠ 40) (h2 : g ≠ 8) (hl : g ∈ l) : fr l I (up6 I' g i v) := fun x y z hc => by
  rw [up6_ne (fun e => hc (by rw [e.1, cl_g h1 h2]; exact hl))]
  exact hf x y z hc
theorem xs_1 (hg : iv_g σ) (hR : rx_w σ (sv I)) (hM : rx_m σ (sv I)) (h : ∀ I', fr [7, 27, 28, 30] I I' → rx_i (st_image σ) (sv I') → Q none I' o) : Exm (d + 2) 1 [.inr (.inr (7, 0)), .inr (.inr (6, 0))] I o Q := by
  obtain ⟨a8, ha, -, -⟩ := A_le hg.2.2.1
  obtain ⟨m6, hm, hmk⟩ := nm_le hg.2.1
  obtain ⟨⟨r0, -, r6, r8, ro, -, -, -⟩, r4⟩ := hR
  obtain ⟨m1, m2⟩ := hM
  rw [sv_6] at r0 r8 r4 m1
  rw [ha] at r4
  have hkd := e_1 (d := d + 1) (I := I) (o := o) (Q := Q)
  refine hkd ?_
  obtain ⟨X, hX⟩ : ∃ X, X = ma_up (ma_cpy (ma_cpy (ma_up (ma_up (ma_up (ma_up I 7 0 0 1) 7 0 1 (I 6 0 0)) 7 0 2 (I 6 0 8)) 7 0 3 (I 6 0 1)) 14 0 0 27 0 0 6) 15 0 0 28 0 0 6) 7 0 6 ((ma_cpy (ma_cpy (ma_up (ma_up (ma_up (ma_up I 7 0 0 1) 7 0 1 (I 6 0 0)) 7 0 2 (I 6 0 8)) 7 0 3 (I 6 0 1)) 14 0 0 27 0 0 6) 15 0 0 28 0 0 6) 6 0 4) := ⟨_, rfl⟩
  rw [← hX]
  have hfX : fr [7, 27, 28, 30] I X := by
    rw [hX]
    refine fr_upg (fr_cq (fr_cq (fr_upg (fr_upg (fr_upg (fr_upg (fr_refl _ _) ?_ ?_ ?_) ?_ ?_ ?_) ?_ ?_ ?_) ?_ ?_ ?_) ?_ ?_ ?_) ?_ ?_ ?_) ?_ ?_ ?_ <;> decide
  have x0 : X 7 0 0 = 1 := by rw [hX, up_j (by decide), cp_g (by decide), cp_g (by decide), up_j (by decide), up_j (by decide), up_j (by decide), xv_us]
  have x1 : X 7 0 1 = σ 40 0 0 := by rw [hX, up_j (by decide), cp_g (by decide), cp_g (by decide), up_j (by decide), up_j (by decide), xv_us]; exact r0
  have x2 : X 7 0 2 = σ 40 0 14 := by rw [hX, up_j (by decide), cp_g (by decide), cp_g (by decide), up_j (by decide), xv_us]; exact r8
  have x3 : X 7 0 3 = σ 40 0 1 := by rw [hX, up_j (by decide), cp_g (by decide), cp_g (by decide), xv_us]; exact m1
  have x6 : X 7 0 6 = Int32.ofNat (pu_no σ) := by rw [hX, xv_us, cp_g (by decide), cp_g (by decide), up_g (by decide), up_g (by decide), up_g (by decide), up_g (by decide)]; exact r4
  have x27 : ∀ k, k < 6 → X 27 0 k = I 14 0 k := fun k hk => by
    rw [hX, up_g (by decide), cp_g (by decide), cp_at (by omega) (by omega), up_g (by decide), up_g (by decide), up_g (by decide), up_g (by decide)]
    congr 1
    omega
  have x28 : ∀ k, k < 6 → X 28 0 k = I 15 0 k := fun k hk => by
    rw [hX, up_g (by decide), cp_at (by omega) (by omega), cp_g (by decide), up_g (by decide), up_g (by decide), up_g (by decide), up_g (by decide)]
    congr 1
    omega
  have key := lp_up (P := fun e => ∀ J, fr [30] X J → (∀ i, i < e → ∀ b, b < 6 → J 30 i b = I 17 i b) → Ex (d + 1 + 1) 1 (69, [vR 7 0, vR 6 0, vI (Int32.ofNat e)], [], ma_mem J o, 0, 0) (ma_end Q)) (pu_no σ) ?_ ?_
  · exact key 0 (by omega) X (fr_refl _ _) (fun i hi => by omega)
  · intro J hJ hb
    have j6 : J 7 0 6 = Int32.ofNat (pu_no σ) := by rw [fr_g hJ 7 0 6 (by decide) (by decide) (by decide)]; exact x6
    refine b_1_69 ⟨fun _ => h J (fr_trans hfX (fr_mono hJ (by decide))) ?_, fun c => ?_⟩
    · obtain ⟨e0, e1, e2, e3⟩ := im_n (σ := σ)
      refine ⟨?_, fun _ => ⟨?_, ?_, ?_, ?_, fun k hk => ?_, fun i hi b hb6 => ?_⟩⟩
      · rw [sv_7, im_42, fr_g hJ 7 0 0 (by decide) (by decide) (by decide)]; exact x0
      · rw [sv_7, e0, fr_g hJ 7 0 1 (by decide) (by decide) (by decide)]; exact x1
      · rw [sv_7, e3, fr_g hJ 7 0 2 (by decide) (by decide) (by decide)]; exact x2
      · rw [sv_7, e1, fr_g hJ 7 0 3 (by decide) (by decide) (by decide)]; exact x3
      · rw [sv_7, e2, j6]; exact ha.symm
      · rw [e1] at hk
        have hk' : k < pu_nm0 σ := hk
        have := m2 k hk'
        rw [sv_14, sv_15] at this
        rw [sv_27, sv_28, fr_g hJ 27 0 k (by decide) (by decide) (by decide), fr_g hJ 28 0 k (by decide) (by decide) (by decide), x27 k (by omega), x28 k (by omega), im_m (by omega), im_g (by decide) (by decide)]
        exact this
      · rw [e2] at hi
        have hi' : i < pu_no σ := hi
        rw [sv_30, hb i hi' b hb6, im_k (by omega) hb6]
        have := ro_iff.mp (ro i hi) b hb6
        rw [sv_17] at this
        exact this
    · rw [j6] at c
      exact absurd c Int32.lt_irrefl
  · intro e he ih J hJ hb
    have j6 : J 7 0 6 = Int32.ofNat (pu_no σ) := by rw [fr_g hJ 7 0 6 (by decide) (by decide) (by decide)]; exact x6
    refine b_1_69 ?_
    rw [j6, in_cl (by omega), in_a1]
    refine ⟨fun c => ?_, fun _ => ⟨in_in (by omega) (by omega), in_in (by omega) (by omega), ?_⟩⟩
    · have := (in_le (by omega) (by omega)).mp c
      omega
    · refine e_5_30_17 (e_4_30 ⟨rfl, rfl, ?_⟩)
      refine ih (up6 J 30 e (fun b => J 17 e b)) (fr_up6 hJ (by decide) (by decide) (by decide)) (fun i hi b hb6 => ?_)
      by_cases ei : i = e
      · subst ei
        rw [up6_at hb6, fr_g hJ 17 i b (by decide) (by decide) (by decide), fr_g hfX 17 i b (by decide) (by decide) (by decide)]
      · rw [up6_ne (fun q => ei q.2)]
        exact hb i (by omega) b hb6
theorem xs_103 (hg : iv_g σ) (hR : rx_w σ (sv I)) (hM : rx_m σ (sv I)) (h : ∀ I', fr [7, 27, 28, 30] I I' → rx_i (st_image σ) (sv I') → Q (some (.inl (σ 40 0 4))) I' o) : Exm (d + 3) 103 [.inr (.inr (5, 0))] I o Q := by
  refine e_103 (xs_1 hg hR hM (fun J hJ hrJ => ⟨rfl, ?_⟩))
  have h4 : J 6 0 4 = σ 40 0 4 := by
    have := hR.2
    rw [sv_6] at this
    rw [fr_g hJ 6 0 4 (by decide) (by decide) (by decide)]
    exact this
  rw [h4]
  exact h J hJ hrJ
end IMC

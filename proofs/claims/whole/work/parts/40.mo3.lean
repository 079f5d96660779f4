/-! ===== bounds of what a text says ===== -/
theorem cp_rg0 (v : Int32) : rg (pu_cp 0 v) 1 40 := by
  show rg (xv_hi 1 (xv_lo 40 v)) 1 40
  unfold xv_hi xv_lo
  refine rg_mk1 (by decide) (by decide) ?_ ?_
  · show (1 : Int32) ≤ _
    rw [Int32.le_iff_toInt_le]
    have e1 : (1 : Int32).toInt = 1 := rfl
    have e40 : (40 : Int32).toInt = 40 := rfl
    simp only [Int32.lt_iff_toInt_lt]
    repeat' split
    all_goals omega
  · show _ ≤ (40 : Int32)
    rw [Int32.le_iff_toInt_le]
    have e1 : (1 : Int32).toInt = 1 := rfl
    have e40 : (40 : Int32).toInt = 40 := rfl
    simp only [Int32.lt_iff_toInt_lt]
    repeat' split
    all_goals omega
theorem cp_rg1 (v : Int32) : rg (pu_cp 1 v) 0 99 := by
  show rg (xv_hi 0 (xv_lo 99 v)) 0 99
  unfold xv_hi xv_lo
  have e1 : (0 : Int32).toInt = 0 := rfl
  have e40 : (99 : Int32).toInt = 99 := rfl
  refine rg_mk (by decide) ?_ ?_
  · rw [Int32.le_iff_toInt_le]
    simp only [Int32.lt_iff_toInt_lt]
    repeat' split
    all_goals omega
  · show _ ≤ (99 : Int32)
    rw [Int32.le_iff_toInt_le]
    simp only [Int32.lt_iff_toInt_lt]
    repeat' split
    all_goals omega
theorem cp_rg2 (v : Int32) : rg (pu_cp 2 v) 0 999 := by
  show rg (xv_hi 0 (xv_lo 999 v)) 0 999
  unfold xv_hi xv_lo
  have e1 : (0 : Int32).toInt = 0 := rfl
  have e40 : (999 : Int32).toInt = 999 := rfl
  refine rg_mk (by decide) ?_ ?_
  · rw [Int32.le_iff_toInt_le]
    simp only [Int32.lt_iff_toInt_lt]
    repeat' split
    all_goals omega
  · show _ ≤ (999 : Int32)
    rw [Int32.le_iff_toInt_le]
    simp only [Int32.lt_iff_toInt_lt]
    repeat' split
    all_goals omega
theorem ls_rg {σ : ma_I} {k : Nat} {a b c : Int32} (h : rg (σ 44 0 k) 0 9) : rg (pu_ls σ k a b c) 1 98 := by
  unfold pu_ls
  obtain ⟨v, hv, h1, h2⟩ := cp_rg0 ((pu_ev σ (3 * (σ 40 0 14).toNatClampNeg + 0) (pu_nm a (σ 45 0 k) b (σ 44 0 k) (Int32.ofNat k) c) (σ 51 0 (3 * (σ 40 0 14).toNatClampNeg + 0)).toNatClampNeg).headD 0)
  have hs : pu_sy σ 0 (pu_nm a (σ 45 0 k) b (σ 44 0 k) (Int32.ofNat k) c) = Int32.ofNat v := hv
  obtain ⟨n, hn, -, h9⟩ := h
  rw [hs, hn]
  split
  · exact ⟨v + n, (Int32.ofNat_add v n).symm, by omega, by omega⟩
  · split
    · exact ⟨2 * (v + n), by rw [Int32.ofNat_mul, Int32.ofNat_add]; rfl, by omega, by omega⟩
    · split
      · exact ⟨v + 1, (Int32.ofNat_add v 1).symm, by omega, by omega⟩
      · exact ⟨v, rfl, by omega, by omega⟩
theorem ft_some {p : Nat → Bool} : ∀ (c k o : Nat), pu_ft p k c = some o → k ≤ o ∧ o < k + c ∧ p o = true ∧ ∀ j, k ≤ j → j < o → p j = false := by
  intro c
  induction c with
  | zero => intro k o h; cases h
  | succ c ih =>
    intro k o h
    unfold pu_ft at h
    split at h
    · rename_i hp
      cases h
      exact ⟨Nat.le_refl _, by omega, hp, fun j h1 h2 => by omega⟩
    · rename_i hp
      obtain ⟨h1, h2, h3, h4⟩ := ih _ _ h
      refine ⟨by omega, by omega, h3, fun j hj1 hj2 => ?_⟩
      by_cases e : j = k
      · subst e; simpa using hp
      · exact h4 j (by omega) hj2
theorem ft_none {p : Nat → Bool} : ∀ (c k : Nat), pu_ft p k c = none → ∀ j, k ≤ j → j < k + c → p j = false := by
  intro c
  induction c with
  | zero => intro k h j h1 h2; omega
  | succ c ih =>
    intro k h j h1 h2
    unfold pu_ft at h
    split at h
    · cases h
    · rename_i hp
      by_cases e : j = k
      · subst e; simpa using hp
      · exact ih _ h j (by omega) (by omega)
def pu_en : Option Nat → Int32
  | none => -1
  | some o => Int32.ofNat o
/-! ===== a letter ===== -/
/-- what the reference keeps of a letter's way -/
def mo_R (I : ma_I) (r : Int32 × pu_W) : Prop := I 40 0 36 = r.1 ∧ I 40 0 37 = Int32.ofNat r.2.2.1 ∧ I 40 0 33 = Int32.ofNat (r.2.2.2.1 + 1) ∧ (∀ k, k ≤ r.2.2.2.1 → I 58 0 k = r.2.2.2.2.1 k) ∧ I 40 0 34 = r.2.2.2.2.2.1 ∧ I 40 0 35 = xv_b (r.2.2.2.2.2.2 = true)
abbrev fr_go : List Nat := [56, 57, 58, 1033, 1034, 1035, 1036, 1037]
section MO3
variable {d : Nat} {I : ma_I} {o : Nat} {Q : ma_Q}
theorem mo_133 {k : Nat} {a b c : Int32} (hk : k < 9) (ht : iv_tx (mv I)) (h : ∀ I', fr [56, 57] I I' → Q (some (.inl (pu_ls (mv I) k a b c))) I' o) : Exm (d + 2) 133 [.inr (.inr (40, 0)), .inl (Int32.ofNat k), .inl a, .inl b, .inl c] I o Q := by
  have hi : ma_in (Int32.ofNat k) 9 := in_in (by omega) hk
  refine e_133 ⟨hi, hi, ?_⟩
  rw [in_cl (by omega)]
  refine mo_157 (p := 0) (by omega) ht (fun I' hf => ?_)
  have h' := h I' hf
  unfold pu_ls at h'
  simp only [mv_43, mv_44, mv_45] at h'
  have e43 : I' 43 0 k = I 43 0 k := fr_g hf 43 0 k (by decide) (by decide) (by decide)
  have e44 : I' 44 0 k = I 44 0 k := fr_g hf 44 0 k (by decide) (by decide) (by decide)
  rw [e43, e44]
  refine ⟨_, rfl, hi, fun c1 => ⟨hi, fun c3 => ⟨hi, fun c4 => ?_, fun c4 => ?_⟩, fun c3 => ⟨hi, ?_⟩⟩, fun c1 => ⟨hi, ?_⟩⟩
  · rw [if_neg c1, if_neg c3, if_neg c4] at h'; exact h'
  · rw [if_neg c1, if_neg c3, if_pos c4] at h'; exact h'
  · rw [if_neg c1, if_pos c3] at h'; exact h'
  · rw [if_pos c1] at h'; exact h'
theorem mo_134 {k : Nat} (hk : k < 9) (ht : iv_tx (mv I)) (h : ∀ I', fr [56, 57] I I' → Q (some (.inl (pu_co (mv I) k))) I' o) : Exm (d + 2) 134 [.inr (.inr (40, 0)), .inl (Int32.ofNat k)] I o Q := by
  have hi : ma_in (Int32.ofNat k) 9 := in_in (by omega) hk
  refine e_134 ⟨hi, hi, hi, hi, hi, ?_⟩
  rw [in_cl (by omega)]
  refine mo_157 (p := 1) (by omega) ht (fun I' hf => ⟨_, rfl, ?_⟩)
  have h' := h I' hf
  unfold pu_co at h'
  simp only [mv_47, mv_48, mv_44, mv_45] at h'
  exact h'
/-- the first order that sends it on -/
theorem mo_158i {a1 a2 a3 h0 : Int32} {dd n : Nat} {s : Int32} (ho : iv_od (mv I)) (hn : I 40 0 4 = Int32.ofNat n) (h8 : n ≤ 8)
    (h : Ex (d + 2) 158 (103, [vR 40 0, vI a1, vI a2, vI a3, vI h0, vI (Int32.ofNat dd), vI s, vI (pu_en (pu_by (mv I) h0 dd a3)), vI (-1)], [], ma_mem I o, 0, 0) (ma_end Q)) :
    Ex (d + 2) 158 (103, [vR 40 0, vI a1, vI a2, vI a3, vI h0, vI (Int32.ofNat dd), vI s, vI (-1), vI (Int32.ofNat n + -1)], [], ma_mem I o, 0, 0) (ma_end Q) := by
  have hby : pu_by (mv I) h0 dd a3 = pu_ft (fun o => bt a3 o && decide (mv I 45 0 o = h0) && pu_sn (mv I) o (Int32.ofNat dd)) 0 n := by
    unfold pu_by
    rw [mv_40_4, hn, in_cl (by omega)]
  rw [hby] at h
  have key : ∀ c, c ≤ n → Ex (d + 2) 158 (103, [vR 40 0, vI a1, vI a2, vI a3, vI h0, vI (Int32.ofNat dd), vI s, vI (pu_en (pu_ft (fun o => bt a3 o && decide (mv I 45 0 o = h0) && pu_sn (mv I) o (Int32.ofNat dd)) c (n - c))), vI (Int32.ofNat c + -1)], [], ma_mem I o, 0, 0) (ma_end Q) := by
    intro c
    induction c with
    | zero =>
      intro _
      exact h
    | succ k ih =>
      intro hk
      have hih := ih (by omega)
      obtain ⟨n', hn', hle, hon⟩ := ho
      rw [mv_40_4, hn, in_eq (by omega) (by omega)] at hn'
      subst hn'
      obtain ⟨-, ⟨m9, hm9, -, h99⟩, -⟩ := hon k (by omega)
      rw [mv_44] at hm9
      have h44 : I 44 0 k + 1 ≠ 0 := by
        rw [hm9, in_a1]
        intro e
        rw [show (0 : Int32) = Int32.ofNat 0 from rfl, in_eq (by omega) (by omega)] at e
        omega
      have e0 : n - k = (n - (k + 1)) + 1 := by omega
      rw [e0] at hih
      unfold pu_ft at hih
      rw [in_m1]
      refine b_158_103 ⟨fun c => absurd (in_ge0 (a := k) (by omega)) (Int32.not_le.mpr c), fun _ => ⟨fun c1 => ?_, fun c1 => ⟨in_in (by omega) (by omega), ?_⟩⟩⟩
      · rw [if_neg (by unfold bt; rw [decide_eq_false c1]; simp)] at hih
        exact hih
      · rw [in_cl (by omega)]
        refine ⟨fun c2 => ?_, fun c2 => ?_⟩
        · rw [if_neg (by rw [mv_45, decide_eq_false c2]; simp)] at hih
          exact hih
        · refine mo_132 (by omega) h44 ⟨_, rfl, fun c3 => ?_, fun c3 => ?_⟩
          · have c3' := xv_beq0.mp c3
            rw [if_neg (by intro hh; simp only [Bool.and_eq_true] at hh; exact c3' hh.2)] at hih
            exact hih
          · have c3' := xv_bne0.mp c3
            rw [if_pos (by unfold bt; rw [decide_eq_true c1, mv_45, decide_eq_true c2, c3']; rfl)] at hih
            exact hih
  have := key n (Nat.le_refl n)
  rw [Nat.sub_self] at this
  exact this
end MO3

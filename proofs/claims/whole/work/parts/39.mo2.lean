/-! ===== what a text says ===== -/
theorem ev_len {σ : ma_I} {row m : Nat} {nm : Nat → Int32} (hk : ∀ k, k < m → pu_ok (σ 50 0 (160 * row + k)) (pu_dk σ row k) ∧ pu_dk σ row (k + 1) ≤ 40) : ∀ k, k ≤ m → (pu_ev σ row nm k).length = pu_dk σ row k := by
  intro k
  induction k with
  | zero => intro _; rfl
  | succ k ih =>
    intro h
    have hl := ih (by omega)
    obtain ⟨hok, -⟩ := hk k (by omega)
    show (pu_op (σ 50 0 (160 * row + k)) nm (pu_ev σ row nm k)).length = pu_nx (σ 50 0 (160 * row + k)) (pu_dk σ row k)
    generalize hc : σ 50 0 (160 * row + k) = c at hok ⊢
    generalize hs : pu_ev σ row nm k = s at hl ⊢
    rw [← hl] at hok ⊢
    unfold pu_op pu_nx
    rcases hok with ⟨h1, -⟩ | ⟨h1, h2⟩ | ⟨h1, h2⟩ | ⟨h1, h2⟩
    · rw [if_pos h1, if_pos (Int32.lt_of_lt_of_le h1 (by decide))]
      rfl
    · rw [if_neg (Int32.not_lt.mpr h1), if_pos h2, if_pos h2]
      rfl
    · have e1 : ¬c < 0 := by rcases h1 with e | e <;> subst e <;> decide
      have e2 : ¬c < 6 := by rcases h1 with e | e <;> subst e <;> decide
      rw [if_neg e1, if_neg e2, if_neg e2, if_pos h1]
      match s, h2 with
      | x :: r, _ =>
        dsimp only
        rcases h1 with e | e
        · rw [if_pos e]; rfl
        · rw [if_neg (by subst e; decide), if_pos e]; rfl
    · have e1 : ¬c < 0 := by rcases h1 with e | e | e | e | e | e | e <;> subst e <;> decide
      have e2 : ¬c < 6 := by rcases h1 with e | e | e | e | e | e | e <;> subst e <;> decide
      have e3 : c ≠ 12 := by rcases h1 with e | e | e | e | e | e | e <;> subst e <;> decide
      have e4 : c ≠ 18 := by rcases h1 with e | e | e | e | e | e | e <;> subst e <;> decide
      rw [if_neg e1, if_neg e2, if_neg e2, if_neg (by rintro (e | e); exact e3 e; exact e4 e)]
      match s, h2 with
      | x :: z :: r, _ =>
        dsimp only
        rw [if_neg e3, if_neg e4]
        rfl
section MO2
variable {d : Nat} {I : ma_I} {o : Nat} {Q : ma_Q}
theorem mo_157 {p : Nat} {a2 a3 a4 a5 a6 a7 : Int32} (hp : p ≤ 2) (ht : iv_tx (mv I)) (h : ∀ I', fr [56, 57] I I' → Q (some (.inl (pu_sy (mv I) p (pu_nm a2 a3 a4 a5 a6 a7)))) I' o) : Exm (d + 1) 157 [.inr (.inr (40, 0)), .inl (Int32.ofNat p), .inl a2, .inl a3, .inl a4, .inl a5, .inl a6, .inl a7] I o Q := by
  obtain ⟨n, r, hn, hr, h6, hrn, hw⟩ := ht
  obtain ⟨m, hm, h160, hd1, hk⟩ := hw (3 * r + p) (by omega)
  refine e_157 ?_
  rw [mv_40_14] at hr
  have e8 : (3 : Int32) * I 40 0 14 + Int32.ofNat p = Int32.ofNat (3 * r + p) := by
    rw [hr, Int32.ofNat_add, Int32.ofNat_mul]
    rfl
  rw [e8]
  have hsy : pu_sy (mv I) p (pu_nm a2 a3 a4 a5 a6 a7) = pu_cp p ((pu_ev (mv I) (3 * r + p) (pu_nm a2 a3 a4 a5 a6 a7) m).headD 0) := by
    unfold pu_sy
    rw [mv_40_14, hr, in_cl (by omega), hm, in_cl (by omega)]
  rw [hsy] at h
  have hlen := ev_len (nm := pu_nm a2 a3 a4 a5 a6 a7) hk
  have hdk : ∀ k, k ≤ m → pu_dk (mv I) (3 * r + p) k ≤ 40 := by
    intro k hkm
    match k with
    | 0 => exact Nat.zero_le _
    | k + 1 => exact (hk k (by omega)).2
  have key := lp_up (P := fun k => ∀ I' (w : Option ma_V), fr [56, 57] I I' → (∀ j, j < 6 → I' 57 0 j = pu_nm a2 a3 a4 a5 a6 a7 j) → sr (I' 56 0) (pu_ev (mv I) (3 * r + p) (pu_nm a2 a3 a4 a5 a6 a7) k) →
    Ex (d + 1) 157 (62, [vR 40 0, vI (Int32.ofNat p), vI a2, vI a3, vI a4, vI a5, vI a6, vI a7, vI (Int32.ofNat (3 * r + p)), vI (Int32.ofNat (pu_dk (mv I) (3 * r + p) k)), vI (Int32.ofNat k), w], [], ma_mem I' o, 0, 0) (ma_end Q)) m ?_ ?_
  · refine key 0 (Nat.zero_le m) _ none ?_ ?_ trivial
    · refine fr_upg (fr_upg (fr_upg (fr_upg (fr_upg (fr_upg (fr_refl _ _) ?_ ?_ ?_) ?_ ?_ ?_) ?_ ?_ ?_) ?_ ?_ ?_) ?_ ?_ ?_) ?_ ?_ ?_ <;> decide
    · intro j hj
      match j, hj with
      | 0, _ => rfl
      | 1, _ => rfl
      | 2, _ => rfl
      | 3, _ => rfl
      | 4, _ => rfl
      | 5, _ => rfl
  · intro I' w hf hnm hs
    have e51 : I' 51 0 (Int32.ofNat (3 * r + p)).toNatClampNeg = Int32.ofNat m := by
      rw [in_cl (by omega), fr_g hf 51 0 _ (by decide) (by decide) (by decide), ← mv_51 I, hm]
    refine b_157_62 ⟨in_in (by omega) (by omega), fun _ => ?_, fun c => ?_⟩
    · have hl := hlen m (Nat.le_refl m)
      rw [hd1] at hl
      match hev : pu_ev (mv I) (3 * r + p) (pu_nm a2 a3 a4 a5 a6 a7) m, hl with
      | [v], _ =>
        rw [hev] at hs h
        have hv : I' 56 0 0 = v := hs.1
        rw [hv]
        have h' := h I' hf
        rcases (by omega : p = 0 ∨ p = 1 ∨ p = 2) with e | e | e
        · subst e
          exact ⟨fun c => absurd rfl c, fun _ => ⟨fun c => absurd rfl c, fun _ => h'⟩⟩
        · subst e
          exact ⟨fun _ => ⟨fun _ => ⟨fun c => absurd rfl c, fun _ => h'⟩, fun c => absurd c (by decide)⟩, fun c => absurd c (by decide)⟩
        · subst e
          exact ⟨fun _ => ⟨fun _ => ⟨fun _ => h', fun c => absurd c (by decide)⟩, fun c => absurd c (by decide)⟩, fun c => absurd c (by decide)⟩
    · rw [e51] at c
      exact absurd c Int32.lt_irrefl
  · intro k hkm ih I' w hf hnm hs
    have e51 : I' 51 0 (Int32.ofNat (3 * r + p)).toNatClampNeg = Int32.ofNat m := by
      rw [in_cl (by omega), fr_g hf 51 0 _ (by decide) (by decide) (by decide), ← mv_51 I, hm]
    obtain ⟨hok, h40⟩ := hk k hkm
    have hl := hlen k (by omega)
    have hd := hdk k (by omega)
    have ei : (160 : Int32) * Int32.ofNat (3 * r + p) + Int32.ofNat k = Int32.ofNat (160 * (3 * r + p) + k) := in_ma 160 (3 * r + p) k
    refine b_157_62 ⟨in_in (by omega) (by omega), fun c => ?_, fun _ => ?_⟩
    · rw [e51, in_le (by omega) (by omega)] at c
      omega
    rw [ei, in_cl (by omega), fr_g hf 50 0 _ (by decide) (by decide) (by decide), ← mv_50 I]
    refine ⟨in_in (by omega) (by omega), ?_⟩
    have hnx : pu_dk (mv I) (3 * r + p) (k + 1) = pu_nx (mv I 50 0 (160 * (3 * r + p) + k)) (pu_dk (mv I) (3 * r + p) k) := rfl
    have hex : pu_ev (mv I) (3 * r + p) (pu_nm a2 a3 a4 a5 a6 a7) (k + 1) = pu_op (mv I 50 0 (160 * (3 * r + p) + k)) (pu_nm a2 a3 a4 a5 a6 a7) (pu_ev (mv I) (3 * r + p) (pu_nm a2 a3 a4 a5 a6 a7) k) := rfl
    rw [hnx] at ih h40
    rw [hex] at ih
    generalize mv I 50 0 (160 * (3 * r + p) + k) = c at hok ih h40 ⊢
    generalize pu_dk (mv I) (3 * r + p) k = n at hok ih h40 hl hd ⊢
    generalize pu_ev (mv I) (3 * r + p) (pu_nm a2 a3 a4 a5 a6 a7) k = s at ih hl hs
    have hfu : ∀ j v, fr [56, 57] I (ma_up I' 56 0 j v) := fun j v => fr_upg hf (by decide) (by decide) (by decide)
    have hnu : ∀ v0 v, ∀ j, j < 6 → ma_up I' 56 0 v0 v 57 0 j = pu_nm a2 a3 a4 a5 a6 a7 j := fun v0 v j hj => by
      rw [up_g (by decide)]
      exact hnm j hj
    rw [in_a1, in_cl (by omega)]
    rcases hok with ⟨h1, -⟩ | ⟨h1, h2⟩ | ⟨h1, h2⟩ | ⟨h1, h2⟩
    · refine ⟨fun c => absurd h1 (Int32.not_lt.mpr c), fun _ => ⟨in_in (by omega) (by omega), ?_⟩⟩
      have e6 : c < 6 := Int32.lt_of_lt_of_le h1 (by decide)
      have ih' := ih (ma_up I' 56 0 n (-1 - c)) (vI c) (hfu _ _) (hnu _ _) (by
        unfold pu_op
        rw [if_pos h1]
        exact sr_pu hs hl)
      unfold pu_nx at ih'
      rw [if_pos e6] at ih'
      rw [in_a1]
      exact ih'
    · refine ⟨fun _ => ⟨fun c => absurd h2 (Int32.not_lt.mpr c), fun _ => ?_⟩, fun c => absurd c (Int32.not_lt.mpr h1)⟩
      obtain ⟨q, hq6, hq⟩ := in_ub (b := 5) (by decide) h1 (by
        have : c < 6 := h2
        rw [Int32.lt_iff_toInt_lt] at this
        rw [Int32.le_iff_toInt_le]
        have e1 : (6 : Int32).toInt = 6 := rfl
        have e2 : (Int32.ofNat 5).toInt = 5 := rfl
        omega)
      subst hq
      refine ⟨in_in (by omega) (by omega), in_in (by omega) (by omega), ?_⟩
      rw [in_cl (by omega)] at *
      rw [hnm q (by omega)]
      have ih' := ih (ma_up I' 56 0 n (pu_nm a2 a3 a4 a5 a6 a7 q)) (vI (Int32.ofNat q)) (hfu _ _) (hnu _ _) (by
        unfold pu_op
        rw [if_neg (Int32.not_lt.mpr h1), if_pos h2, in_cl (by omega)]
        exact sr_pu hs hl)
      unfold pu_nx at ih'
      rw [if_pos h2] at ih'
      rw [in_a1]
      exact ih'
    · have e1 : ¬c < 0 := by rcases h1 with e | e <;> subst e <;> decide
      have e2 : ¬c < 6 := by rcases h1 with e | e <;> subst e <;> decide
      match s, hl, hs, (by omega : 1 ≤ s.length) with
      | x :: q, hl, hs, _ =>
        have hn' : n = q.length + 1 := hl.symm
        subst hn'
        rw [in_s1, in_cl (by omega)]
        have hx : I' 56 0 q.length = x := hs.1
        rw [hx]
        unfold pu_nx at ih
        rw [if_neg e2, if_pos h1] at ih
        unfold pu_op at ih
        rw [if_neg e1, if_neg e2] at ih
        dsimp only at ih
        refine ⟨fun _ => ⟨fun _ => ⟨fun c12 => ⟨fun c18 => ?_, fun c18 => ?_⟩, fun c12 => ?_⟩, fun c => absurd c e2⟩, fun c => absurd c e1⟩
        · rcases h1 with e | e
          · exact absurd e c12
          · exact absurd e c18
        · refine ⟨in_in (by omega) (by omega), in_in (by omega) (by omega), ?_⟩
          rw [if_neg c12, if_pos c18] at ih
          exact ih _ _ (hfu _ _) (hnu _ _) (sr_pu hs.2 rfl)
        · rw [if_pos c12] at ih
          refine ⟨in_in (by omega) (by omega), fun hx0 => ⟨in_in (by omega) (by omega), ?_⟩, fun hx0 => ⟨in_in (by omega) (by omega), ?_⟩⟩
          · rw [xv_b0 hx0] at ih
            exact ih _ _ (hfu _ _) (hnu _ _) (sr_pu hs.2 rfl)
          · rw [xv_b1 hx0] at ih
            exact ih _ _ (hfu _ _) (hnu _ _) (sr_pu hs.2 rfl)
    · have e1 : ¬c < 0 := by rcases h1 with e | e | e | e | e | e | e <;> subst e <;> decide
      have e2 : ¬c < 6 := by rcases h1 with e | e | e | e | e | e | e <;> subst e <;> decide
      have e3 : c ≠ 12 := by rcases h1 with e | e | e | e | e | e | e <;> subst e <;> decide
      have e4 : c ≠ 18 := by rcases h1 with e | e | e | e | e | e | e <;> subst e <;> decide
      match s, hl, hs, (by omega : 2 ≤ s.length) with
      | x :: z :: q, hl, hs, _ =>
        have hn' : n = q.length + 1 + 1 := hl.symm
        subst hn'
        rw [in_m1, in_s1, in_cl (by omega), in_cl (by omega)]
        have hx : I' 56 0 (q.length + 1) = x := hs.1
        have hz : I' 56 0 q.length = z := hs.2.1
        rw [hx, hz]
        unfold pu_nx at ih
        rw [if_neg e2, if_neg (by rintro (e | e); exact e3 e; exact e4 e)] at ih
        unfold pu_op at ih
        rw [if_neg e1, if_neg e2] at ih
        dsimp only at ih
        rw [if_neg e3, if_neg e4] at ih
        refine ⟨fun _ => ⟨fun _ => ⟨fun c12 => ⟨fun c18 => ⟨in_in (by omega) (by omega), in_in (by omega) (by omega), in_in (by omega) (by omega), ?_⟩, fun c18 => absurd c18 e4⟩, fun c12 => absurd c12 e3⟩, fun c => absurd c e2⟩, fun c => absurd c e1⟩
        exact ih _ _ (hfu _ _) (hnu _ _) (sr_pu hs.2.2 rfl)
end MO2

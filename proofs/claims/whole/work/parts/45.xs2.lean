/-! ===== what a text says, in the class ===== -/
section XS3
variable {d : Nat} {I : ma_I} {o : Nat} {Q : ma_Q} {t : Nat} {v1 v4 v5 v6 v7 v8 : Int32} {w8 : Option ma_V}
/-- a number or a name -/
theorem rk_77d {v3 : Int32} (hne : v5 < 10010) (h1 : 10000 ≤ v5 → ma_in (v5 - 10000) 6 ∧ Ex d 55 (278, [vR 19 t, vI v1, vR 26 0, vI v3, vI v4, vI v5, vI v6, vI v7, vI (I 26 0 (v5 - 10000).toNatClampNeg)], [], ma_mem I o, 0, 0) (ma_end Q)) (h2 : v5 < 10000 → Ex d 55 (278, [vR 19 t, vI v1, vR 26 0, vI v3, vI v4, vI v5, vI v6, vI v7, vI v5], [], ma_mem I o, 0, 0) (ma_end Q)) :
    Ex d 55 (77, [vR 19 t, vI v1, vR 26 0, vI v3, vI v4, vI v5, vI v6, vI v7, w8], [], ma_mem I o, 0, 0) (ma_end Q) := by
  have hn : ∀ m : Int32, 10010 ≤ m → v5 ≠ m := fun m hm e => by
    subst e
    exact absurd hne (Int32.not_lt.mpr hm)
  refine b_55_19_26_77 ?_
  refine ⟨fun c => absurd c (hn _ (by decide)), fun _ => ?_⟩
  refine ⟨fun c => absurd c (hn _ (by decide)), fun _ => ?_⟩
  refine ⟨fun c => absurd c (hn _ (by decide)), fun _ => ?_⟩
  refine ⟨fun c => absurd c (hn _ (by decide)), fun _ => ?_⟩
  refine ⟨fun c => absurd c (hn _ (by decide)), fun _ => ?_⟩
  refine ⟨fun c => absurd c (hn _ (by decide)), fun _ => ?_⟩
  refine ⟨fun c => absurd c (hn _ (by decide)), fun _ => ?_⟩
  refine ⟨fun c => absurd c (hn _ (by decide)), fun _ => ?_⟩
  refine ⟨fun c => absurd c (hn _ (by decide)), fun _ => ?_⟩
  exact ⟨h1, h2⟩
theorem rk_push {n : Nat} (hn : n < 40) (h5 : v5 < 10010) (h : Ex d 55 (20, [vR 19 t, vI v1, vR 26 0, vI (Int32.ofNat (n + 1)), vI (v4 + 1), vI v5, vI v6, vI v7, vI v8], [], ma_mem (ma_up I 22 t n v8) o, 0, 0) (ma_end Q)) : Ex d 55 (278, [vR 19 t, vI v1, vR 26 0, vI (Int32.ofNat n), vI v4, vI v5, vI v6, vI v7, vI v8], [], ma_mem I o, 0, 0) (ma_end Q) := by
  refine b_55_19_26_278 ⟨fun c => absurd h5 (Int32.not_lt.mpr c), fun _ => ?_⟩
  rw [in_a1, in_s1, in_cl (by omega)]
  refine ⟨fun c => ?_, fun _ => ⟨fun c => ?_, fun _ => ⟨in_in (by omega) (by omega), h⟩⟩⟩
  · have := (in_lt (b := 1) (by omega) (by decide)).mp c
    omega
  · have := (in_lt (a := 40) (by decide) (by omega)).mp c
    omega
theorem rk_same {n : Nat} (hn : n < 40) (h5 : 10010 ≤ v5) (h6 : v5 ≤ 10011) (h : Ex d 55 (20, [vR 19 t, vI v1, vR 26 0, vI (Int32.ofNat (n + 1)), vI (v4 + 1), vI v5, vI v6, vI v7, vI v8], [], ma_mem (ma_up I 22 t n v8) o, 0, 0) (ma_end Q)) : Ex d 55 (278, [vR 19 t, vI v1, vR 26 0, vI (Int32.ofNat (n + 1)), vI v4, vI v5, vI v6, vI v7, vI v8], [], ma_mem I o, 0, 0) (ma_end Q) := by
  refine b_55_19_26_278 ⟨fun _ => ⟨fun _ => ?_, fun c => absurd h6 (Int32.not_le.mpr c)⟩, fun c => absurd h5 (Int32.not_le.mpr c)⟩
  rw [in_s1, in_cl (by omega)]
  refine ⟨fun c => ?_, fun _ => ⟨fun c => ?_, fun _ => ⟨in_in (by omega) (by omega), h⟩⟩⟩
  · have := (in_lt (b := 1) (by omega) (by decide)).mp c
    omega
  · have := (in_lt (a := 40) (by decide) (by omega)).mp c
    omega
theorem rk_pop {n : Nat} (hn : n < 40) (h5 : 10011 < v5) (h : Ex d 55 (20, [vR 19 t, vI v1, vR 26 0, vI (Int32.ofNat (n + 1)), vI (v4 + 1), vI v5, vI v6, vI v7, vI v8], [], ma_mem (ma_up I 22 t n v8) o, 0, 0) (ma_end Q)) : Ex d 55 (278, [vR 19 t, vI v1, vR 26 0, vI (Int32.ofNat (n + 1 + 1)), vI v4, vI v5, vI v6, vI v7, vI v8], [], ma_mem I o, 0, 0) (ma_end Q) := by
  refine b_55_19_26_278 ⟨fun _ => ⟨fun c => absurd h5 (Int32.not_lt.mpr c), fun _ => ?_⟩, fun c => absurd (Int32.lt_trans (by decide : (10010 : Int32) < 10011) h5) (fun e => absurd (Int32.lt_trans c e) Int32.lt_irrefl)⟩
  rw [in_m1, in_s1, in_cl (by omega)]
  refine ⟨fun c => ?_, fun _ => ⟨fun c => ?_, fun _ => ⟨in_in (by omega) (by omega), h⟩⟩⟩
  · have := (in_lt (b := 1) (by omega) (by decide)).mp c
    omega
  · have := (in_lt (a := 40) (by decide) (by omega)).mp c
    omega
end XS3
theorem bx_of {p : Prop} [Decidable p] {Q : Int32 → Prop} (h : Q (xv_b p)) : (p → Q 1) ∧ (¬p → Q 0) := ⟨fun c => by rw [xv_b1 c] at h; exact h, fun c => by rw [xv_b0 c] at h; exact h⟩
section XS4
variable {d : Nat} {I : ma_I} {o : Nat} {Q : ma_Q} {σ : ma_I}
theorem xs_55 {p t : Nat} {nm : Nat → Int32} (hp : p ≤ 2) (htx : iv_tx σ) (hR : rx_v σ (sv I)) (ht : σ 40 0 14 = Int32.ofNat t) (htn : t < (σ 40 0 13).toNatClampNeg) (hnm : ∀ j, j < 6 → I 26 0 j = nm j)
    (h : ∀ I', fr [22] I I' → Q (some (.inl ((pu_ev σ (3 * t + p) nm (σ 51 0 (3 * t + p)).toNatClampNeg).headD 0))) I' o) : Exm d 55 [.inr (.inr (19, t)), .inl (Int32.ofNat p), .inr (.inr (26, 0))] I o Q := by
  obtain ⟨n6, r6, hn6, hr6, h6, hrn, hw⟩ := htx
  rw [hn6, in_cl (by omega)] at htn
  obtain ⟨e, he0, he⟩ := hR.2.2.2.2.2.2.2 t (by rw [hn6, in_cl (by omega)]; exact htn)
  obtain ⟨m, hm, h160, hd1, hk⟩ := hw (3 * t + p) (by omega)
  obtain ⟨hend, he160, hle, hm2, hcode⟩ := he p (by omega)
  have hmm : m = e (p + 1) - e p := by
    rw [hm] at hm2
    exact (in_eq (by omega) (by omega)).mp hm2
  rw [sv_21] at hend
  rw [hm, in_cl (by omega)] at h
  have hlen := ev_len (nm := nm) hk
  have hdk : ∀ k, k ≤ m → pu_dk σ (3 * t + p) k ≤ 40 := by
    intro k hkm
    match k with
    | 0 => exact Nat.zero_le _
    | k + 1 => exact (hk k (by omega)).2
  have key := lp_up (P := fun k => ∀ I' (w5 w6 w7 w8 : Option ma_V), fr [22] I I' → sr (I' 22 t) (pu_ev σ (3 * t + p) nm k) →
    Ex d 55 (20, [vR 19 t, vI (Int32.ofNat p), vR 26 0, vI (Int32.ofNat (pu_dk σ (3 * t + p) k)), vI (Int32.ofNat (e p + k)), w5, w6, w7, w8], [], ma_mem I' o, 0, 0) (ma_end Q)) m ?_ ?_
  · have hstart := key 0 (Nat.zero_le m) I none none none none (fr_refl _ _) trivial
    refine e_55_19_26 ⟨fun c => ?_, fun c => ?_⟩
    · match p, c, he, hp, hstart with
      | 0, c, _, _, _ => exact absurd rfl c
      | q + 1, _, he, hp, hstart =>
        rw [in_s1, in_cl (by omega)]
        have := (he q (by omega)).1
        rw [sv_21] at this
        rw [this]
        exact ⟨in_in (by omega) (by omega), hstart⟩
    · have : p = 0 := (in_eq (b := 0) (by omega) (by decide)).mp c
      subst this
      rw [he0] at hstart
      exact hstart
  · intro I' w5 w6 w7 w8 hf hs
    have e21 : I' 21 t (Int32.ofNat p).toNatClampNeg = Int32.ofNat (e (p + 1)) := by
      rw [in_cl (by omega), fr_g hf 21 t p (by decide) (by decide) (by decide)]; exact hend
    refine b_55_19_26_20 ⟨in_in (by omega) (by omega), fun _ => ?_, fun c => ?_⟩
    · have hl := hlen m (Nat.le_refl m)
      rw [hd1] at hl
      match hev : pu_ev σ (3 * t + p) nm m, hl with
      | [v], _ =>
        rw [hev] at hs h
        have hv : I' 22 t 0 = v := hs.1
        rw [hv]
        exact h I' hf
    · rw [e21, in_lt (by omega) (by omega)] at c
      omega
  · intro k hkm ih I' w5 w6 w7 w8 hf hs
    have e21 : I' 21 t (Int32.ofNat p).toNatClampNeg = Int32.ofNat (e (p + 1)) := by
      rw [in_cl (by omega), fr_g hf 21 t p (by decide) (by decide) (by decide)]; exact hend
    obtain ⟨hok, h40⟩ := hk k hkm
    have hl := hlen k (by omega)
    have hd := hdk k (by omega)
    have hc := hcode k (by omega)
    rw [sv_20] at hc
    have hnx : pu_dk σ (3 * t + p) (k + 1) = pu_nx (σ 50 0 (160 * (3 * t + p) + k)) (pu_dk σ (3 * t + p) k) := rfl
    have hex : pu_ev σ (3 * t + p) nm (k + 1) = pu_op (σ 50 0 (160 * (3 * t + p) + k)) nm (pu_ev σ (3 * t + p) nm k) := rfl
    rw [hnx] at ih h40
    rw [hex] at ih
    have hcI : I' 20 t (e p + k) = pu_ec (σ 50 0 (160 * (3 * t + p) + k)) := by
      rw [fr_g hf 20 t _ (by decide) (by decide) (by decide)]; exact hc
    have hnm' : ∀ j, j < 6 → I' 26 0 j = nm j := fun j hj => by rw [fr_g hf 26 0 j (by decide) (by decide) (by decide)]; exact hnm j hj
    generalize σ 50 0 (160 * (3 * t + p) + k) = c at hok ih h40 hcI
    generalize pu_dk σ (3 * t + p) k = n at hok ih h40 hl hd ⊢
    generalize pu_ev σ (3 * t + p) nm k = s at ih hl hs
    have hfu : ∀ j v, fr [22] I (ma_up I' 22 t j v) := fun j v => fr_upg hf (by decide) (by decide) (by decide)
    -- right and left
    have hgo : (∀ x7 w8', Ex d 55 (77, [vR 19 t, vI (Int32.ofNat p), vR 26 0, vI (Int32.ofNat n), vI (Int32.ofNat (e p + k)), vI (pu_ec c), vI (s.headD 0), vI x7, w8'], [], ma_mem I' o, 0, 0) (ma_end Q) ∨ x7 ≠ s.tail.headD 0) → Ex d 55 (20, [vR 19 t, vI (Int32.ofNat p), vR 26 0, vI (Int32.ofNat n), vI (Int32.ofNat (e p + k)), w5, w6, w7, w8], [], ma_mem I' o, 0, 0) (ma_end Q) := by
      intro hx
      have hx58 : ∀ w7' w8', Ex d 55 (58, [vR 19 t, vI (Int32.ofNat p), vR 26 0, vI (Int32.ofNat n), vI (Int32.ofNat (e p + k)), vI (pu_ec c), vI (s.headD 0), w7', w8'], [], ma_mem I' o, 0, 0) (ma_end Q) := by
        intro w7' w8'
        refine b_55_19_26_58 ⟨fun c1 => ?_, fun c1 => ?_⟩
        · have hn1 := (in_le (b := 1) (by omega) (by decide)).mp c1
          rcases hx 0 w8' with hh | hh
          · exact hh
          · exfalso
            match s, hl with
            | [], _ => exact hh rfl
            | [_], _ => exact hh rfl
            | _ :: _ :: r, hl => simp only [List.length_cons] at hl; omega
        · have hn1 := (in_lt (a := 1) (by decide) (by omega)).mp c1
          match s, hl, hs, hx with
          | [], hl, _, _ => simp only [List.length_nil] at hl; omega
          | [_], hl, _, _ => simp only [List.length_cons, List.length_nil] at hl; omega
          | x :: z :: r, hl, hs, hx =>
            simp only [List.length_cons] at hl
            have e2 : Int32.ofNat n - 2 = Int32.ofNat r.length := by
              rw [show n = r.length + 2 by omega]
              exact (Int32.ofNat_sub (r.length + 2) 2 (by omega)).symm
            rw [e2, in_cl (by omega)]
            refine ⟨in_in (by omega) (by omega), ?_⟩
            have hz : I' 22 t r.length = z := hs.2.1
            rw [hz]
            rcases hx z w8' with hh | hh
            · exact hh
            · exact absurd rfl hh
      refine b_55_19_26_20 ⟨in_in (by omega) (by omega), fun c1 => ?_, fun _ => ?_⟩
      · rw [e21, in_le (by omega) (by omega)] at c1
        omega
      · rw [in_cl (by omega), hcI]
        refine ⟨in_in (by omega) (by omega), fun c1 => ?_, fun c1 => ?_⟩
        · have hn1 := (in_le (b := 0) (by omega) (by decide)).mp c1
          match s, hl, hx58 with
          | [], _, hx58 => exact hx58 _ _
          | _ :: r, hl, _ => simp only [List.length_cons] at hl; omega
        · have hn1 := (in_lt (a := 0) (by decide) (by omega)).mp c1
          match s, hl, hs, hx58 with
          | [], hl, _, _ => simp only [List.length_nil] at hl; omega
          | x :: r, hl, hs, hx58 =>
            simp only [List.length_cons] at hl
            have e2 : Int32.ofNat n - 1 = Int32.ofNat r.length := by
              rw [show n = r.length + 1 by omega]
              exact in_s1 _
            rw [e2, in_cl (by omega)]
            refine ⟨in_in (by omega) (by omega), ?_⟩
            have hxx : I' 22 t r.length = x := hs.1
            rw [hxx]
            exact hx58 _ _
    have ea : Int32.ofNat (e p + k) + 1 = Int32.ofNat (e p + (k + 1)) := in_a1 (e p + k)
    refine hgo (fun x7 w8' => ?_)
    by_cases hx7n : x7 ≠ s.tail.headD 0
    · exact Or.inr hx7n
    have hx7 : x7 = s.tail.headD 0 := Decidable.not_not.mp hx7n
    left
    rcases hok with ⟨h1, h1'⟩ | ⟨h1, h2⟩ | ⟨h1, h2⟩ | ⟨h1, h2⟩
    · have e5 : pu_ec c = -1 - c := if_pos h1
      have hrng : (-1 - c) < 10000 := by
        rw [Int32.lt_iff_toInt_lt] at *
        rw [Int32.le_iff_toInt_le] at h1'
        have a0 : (0 : Int32).toInt = 0 := rfl
        have a1 : (-10000 : Int32).toInt = -10000 := rfl
        have a2 : (10000 : Int32).toInt = 10000 := rfl
        have a3 : (-1 : Int32).toInt = -1 := rfl
        rw [Int32.toInt_sub, a3, a2, Int.bmod_eq_of_le (by omega) (by omega)]
        omega
      rw [e5]
      have h10 : (-1 - c) < 10010 := Int32.lt_of_lt_of_le hrng (by decide)
      refine rk_77d h10 (fun c1 => absurd hrng (Int32.not_lt.mpr c1)) (fun _ => ?_)
      have e6 : c < 6 := Int32.lt_of_lt_of_le h1 (by decide)
      unfold pu_nx at ih h40
      rw [if_pos e6] at ih h40
      refine rk_push (by omega) h10 ?_
      rw [ea]
      refine ih _ _ _ _ _ (hfu _ _) ?_
      unfold pu_op
      rw [if_pos h1]
      exact sr_pu hs hl
    · obtain ⟨q, hq6, hq⟩ := in_ub (b := 5) (by decide) h1 (by
        have : c < 6 := h2
        rw [Int32.lt_iff_toInt_lt] at this
        rw [Int32.le_iff_toInt_le]
        have e1 : (6 : Int32).toInt = 6 := rfl
        have e2 : (Int32.ofNat 5).toInt = 5 := rfl
        omega)
      subst hq
      have e5 : pu_ec (Int32.ofNat q) = Int32.ofNat (10000 + q) := by
        unfold pu_ec
        rw [if_neg (Int32.not_lt.mpr h1), if_pos h2, Int32.ofNat_add]
        rfl
      rw [e5]
      have h10 : Int32.ofNat (10000 + q) < 10010 := (in_lt (b := 10010) (by omega) (by decide)).mpr (by omega)
      have es : Int32.ofNat (10000 + q) - 10000 = Int32.ofNat q := by
        have := (Int32.ofNat_sub (10000 + q) 10000 (by omega)).symm
        rw [Nat.add_sub_cancel_left] at this
        exact this
      refine rk_77d h10 (fun _ => ?_) (fun c1 => ?_)
      · rw [es, in_cl (by omega), hnm' q (by omega)]
        refine ⟨in_in (by omega) (by omega), ?_⟩
        unfold pu_nx at ih h40
        rw [if_pos h2] at ih h40
        refine rk_push (by omega) h10 ?_
        rw [ea]
        refine ih _ _ _ _ _ (hfu _ _) ?_
        unfold pu_op
        rw [if_neg (Int32.not_lt.mpr h1), if_pos h2, in_cl (by omega)]
        exact sr_pu hs hl
      · have := (in_lt (b := 10000) (by omega) (by decide)).mp c1
        omega
    · have e1 : ¬c < 0 := by rcases h1 with e | e <;> subst e <;> decide
      have e2 : ¬c < 6 := by rcases h1 with e | e <;> subst e <;> decide
      match s, hl, hs, hx7, (by omega : 1 ≤ s.length) with
      | x :: q, hl, hs, hx7, _ =>
        have hn' : n = q.length + 1 := hl.symm
        subst hn'
        unfold pu_nx at ih h40
        rw [if_neg e2, if_pos h1] at ih h40
        unfold pu_op at ih
        rw [if_neg e1, if_neg e2] at ih
        dsimp only at ih
        rcases h1 with e | e
        · subst e
          rw [if_pos rfl] at ih
          have e5 : pu_ec 12 = 10011 := by decide
          rw [e5]
          have ih1 := fun w5 w6 w7 w8 => ih (ma_up I' 22 t q.length (xv_b (x = 0))) w5 w6 w7 w8 (hfu _ _) (sr_pu hs.2 rfl)
          refine b_55_19_26_77 ⟨fun c => absurd c (by decide), fun _ => ⟨fun _ => ⟨fun c => ?_, fun c => ?_⟩, fun c => absurd rfl c⟩⟩
          · refine rk_same (by omega) (by decide) (by decide) ?_
            rw [ea]
            rw [xv_b0 (show ¬x = 0 from c)] at ih1
            exact ih1 _ _ _ _
          · refine rk_same (by omega) (by decide) (by decide) ?_
            rw [ea]
            rw [xv_b1 (show x = 0 from c)] at ih1
            exact ih1 _ _ _ _
        · subst e
          rw [if_neg (by decide), if_pos rfl] at ih
          have e5 : pu_ec 18 = 10010 := by decide
          rw [e5]
          refine b_55_19_26_77 ⟨fun _ => ?_, fun c => absurd rfl c⟩
          refine rk_same (by omega) (by decide) (by decide) ?_
          rw [ea]
          exact ih _ _ _ _ _ (hfu _ _) (sr_pu hs.2 rfl)
    · have e1 : ¬c < 0 := by rcases h1 with e | e | e | e | e | e | e <;> subst e <;> decide
      have e2 : ¬c < 6 := by rcases h1 with e | e | e | e | e | e | e <;> subst e <;> decide
      have e3 : c ≠ 12 := by rcases h1 with e | e | e | e | e | e | e <;> subst e <;> decide
      have e4 : c ≠ 18 := by rcases h1 with e | e | e | e | e | e | e <;> subst e <;> decide
      match s, hl, hs, hx7, (by omega : 2 ≤ s.length) with
      | x :: z :: q, hl, hs, hx7, _ =>
        have hn' : n = q.length + 1 + 1 := hl.symm
        subst hn'
        have hx7' : x7 = z := hx7
        subst hx7'
        unfold pu_nx at ih h40
        rw [if_neg e2, if_neg (by rintro (e | e); exact e3 e; exact e4 e)] at ih h40
        unfold pu_op at ih
        rw [if_neg e1, if_neg e2] at ih
        dsimp only at ih
        rw [if_neg e3, if_neg e4] at ih
        have ih1 := fun w5 w6 w7 w8 => ih (ma_up I' 22 t q.length (xv_dn c x7 x)) w5 w6 w7 w8 (hfu _ _) (sr_pu hs.2.2 rfl)
        have hfin : ∀ (w5 w6 w7 : Int32) (v : Int32), v = xv_dn c x7 x → 10011 < w5 → Ex d 55 (278, [vR 19 t, vI (Int32.ofNat p), vR 26 0, vI (Int32.ofNat (q.length + 1 + 1)), vI (Int32.ofNat (e p + k)), vI w5, vI w6, vI w7, vI v], [], ma_mem I' o, 0, 0) (ma_end Q) := by
          intro w5 w6 w7 v hv h5
          subst hv
          refine rk_pop (by omega) h5 ?_
          rw [ea]
          exact ih1 _ _ _ _
        show Ex d 55 (77, [vR 19 t, vI (Int32.ofNat p), vR 26 0, vI (Int32.ofNat (q.length + 1 + 1)), vI (Int32.ofNat (e p + k)), vI (pu_ec c), vI x, vI x7, w8'], [], ma_mem I' o, 0, 0) (ma_end Q)
        rcases h1 with e | e | e | e | e | e | e <;> subst e
        · have e5 : pu_ec 10 = 10012 := by decide
          have ed : xv_dn 10 x7 x = xv_b (x7 ≠ 0 ∨ x ≠ 0) := rfl
          rw [e5]
          refine b_55_19_26_77 ⟨fun c => absurd c (by decide), fun _ => ⟨fun c => absurd c (by decide), fun _ => ⟨fun _ => ⟨fun c => ?_, fun c => ⟨fun c2 => ?_, fun c2 => ?_⟩⟩, fun c => absurd rfl c⟩⟩⟩
          · exact hfin _ _ _ _ (by rw [ed, xv_b1 (Or.inl c)]) (by decide)
          · exact hfin _ _ _ _ (by rw [ed, xv_b0 (by rintro (hh | hh); exact hh c; exact hh c2)]) (by decide)
          · exact hfin _ _ _ _ (by rw [ed, xv_b1 (Or.inr c2)]) (by decide)
        · have e5 : pu_ec 11 = 10013 := by decide
          have ed : xv_dn 11 x7 x = xv_b (x7 ≠ 0 ∧ x ≠ 0) := rfl
          rw [e5]
          refine b_55_19_26_77 ⟨fun c => absurd c (by decide), fun _ => ⟨fun c => absurd c (by decide), fun _ => ⟨fun c => absurd c (by decide), fun _ => ⟨fun _ => ⟨fun c => ?_, fun c => ⟨fun c2 => ?_, fun c2 => ?_⟩⟩, fun c => absurd rfl c⟩⟩⟩⟩
          · exact hfin _ _ _ _ (by rw [ed, xv_b0 (fun hh => hh.1 c)]) (by decide)
          · exact hfin _ _ _ _ (by rw [ed, xv_b0 (fun hh => hh.2 c2)]) (by decide)
          · exact hfin _ _ _ _ (by rw [ed, xv_b1 ⟨c, c2⟩]) (by decide)
        · have e5 : pu_ec 13 = 10014 := by decide
          have ed : xv_dn 13 x7 x = xv_b (x7 < x) := rfl
          rw [e5]
          refine b_55_19_26_77 ⟨fun c => absurd c (by decide), fun _ => ⟨fun c => absurd c (by decide), fun _ => ⟨fun c => absurd c (by decide), fun _ => ⟨fun c => absurd c (by decide), fun _ => ⟨fun _ => ⟨fun c => ?_, fun c => ?_⟩, fun c => absurd rfl c⟩⟩⟩⟩⟩
          · exact hfin _ _ _ _ (by rw [ed, xv_b0 (Int32.not_lt.mpr c)]) (by decide)
          · exact hfin _ _ _ _ (by rw [ed, xv_b1 c]) (by decide)
        · have e5 : pu_ec 14 = 10015 := by decide
          have ed : xv_dn 14 x7 x = xv_b (x7 = x) := rfl
          rw [e5]
          refine b_55_19_26_77 ⟨fun c => absurd c (by decide), fun _ => ⟨fun c => absurd c (by decide), fun _ => ⟨fun c => absurd c (by decide), fun _ => ⟨fun c => absurd c (by decide), fun _ => ⟨fun c => absurd c (by decide), fun _ => ⟨fun _ => ⟨fun c => ?_, fun c => ?_⟩, fun c => absurd rfl c⟩⟩⟩⟩⟩⟩
          · exact hfin _ _ _ _ (by rw [ed, xv_b0 c]) (by decide)
          · exact hfin _ _ _ _ (by rw [ed, xv_b1 c]) (by decide)
        · have e5 : pu_ec 15 = 10016 := by decide
          rw [e5]
          refine b_55_19_26_77 ⟨fun c => absurd c (by decide), fun _ => ⟨fun c => absurd c (by decide), fun _ => ⟨fun c => absurd c (by decide), fun _ => ⟨fun c => absurd c (by decide), fun _ => ⟨fun c => absurd c (by decide), fun _ => ⟨fun c => absurd c (by decide), fun _ => ⟨fun _ => ?_, fun c => absurd rfl c⟩⟩⟩⟩⟩⟩⟩
          exact hfin _ _ _ _ rfl (by decide)
        · have e5 : pu_ec 16 = 10017 := by decide
          rw [e5]
          refine b_55_19_26_77 ⟨fun c => absurd c (by decide), fun _ => ⟨fun c => absurd c (by decide), fun _ => ⟨fun c => absurd c (by decide), fun _ => ⟨fun c => absurd c (by decide), fun _ => ⟨fun c => absurd c (by decide), fun _ => ⟨fun c => absurd c (by decide), fun _ => ⟨fun c => absurd c (by decide), fun _ => ⟨fun _ => ?_, fun c => absurd rfl c⟩⟩⟩⟩⟩⟩⟩⟩
          exact hfin _ _ _ _ rfl (by decide)
        · have e5 : pu_ec 17 = 10018 := by decide
          rw [e5]
          refine b_55_19_26_77 ⟨fun c => absurd c (by decide), fun _ => ⟨fun c => absurd c (by decide), fun _ => ⟨fun c => absurd c (by decide), fun _ => ⟨fun c => absurd c (by decide), fun _ => ⟨fun c => absurd c (by decide), fun _ => ⟨fun c => absurd c (by decide), fun _ => ⟨fun c => absurd c (by decide), fun _ => ⟨fun c => absurd c (by decide), fun _ => ⟨fun _ => ?_, fun c => absurd rfl c⟩⟩⟩⟩⟩⟩⟩⟩⟩
          exact hfin _ _ _ _ rfl (by decide)
end XS4

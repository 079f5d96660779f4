/-! ===== the state, cell by cell ===== -/
abbrev vI (x : Int32) : Option ma_V := some (.inl x)
abbrev vR (g i : Nat) : Option ma_V := some (.inr (.inr (g, i)))
theorem sv_1 (I : ma_I) (i j : Nat) : sv I 1 i j = I 1 i j := sv_ap (by rw [cl_g (by decide) (by decide)]; decide)
theorem sv_2 (I : ma_I) (i j : Nat) : sv I 2 i j = I 2 i j := sv_ap (by rw [cl_g (by decide) (by decide)]; decide)
theorem sv_3 (I : ma_I) (i j : Nat) : sv I 3 i j = I 3 i j := sv_ap (by rw [cl_g (by decide) (by decide)]; decide)
theorem sv_4 (I : ma_I) (i j : Nat) : sv I 4 i j = I 4 i j := sv_ap (by rw [cl_g (by decide) (by decide)]; decide)
theorem sv_5 (I : ma_I) (i j : Nat) : sv I 5 i j = I 5 i j := sv_ap (by rw [cl_g (by decide) (by decide)]; decide)
theorem sv_6 (I : ma_I) (i j : Nat) : sv I 6 i j = I 6 i j := sv_ap (by rw [cl_g (by decide) (by decide)]; decide)
theorem sv_7 (I : ma_I) (i j : Nat) : sv I 7 i j = I 7 i j := sv_ap (by rw [cl_g (by decide) (by decide)]; decide)
theorem sv_9 (I : ma_I) (i j : Nat) : sv I 9 i j = I 9 i j := sv_ap (by rw [cl_g (by decide) (by decide)]; decide)
theorem sv_11 (I : ma_I) (i j : Nat) : sv I 11 i j = I 11 i j := sv_ap (by rw [cl_g (by decide) (by decide)]; decide)
theorem sv_12 (I : ma_I) (i j : Nat) : sv I 12 i j = I 12 i j := sv_ap (by rw [cl_g (by decide) (by decide)]; decide)
theorem sv_13 (I : ma_I) (i j : Nat) : sv I 13 i j = I 13 i j := sv_ap (by rw [cl_g (by decide) (by decide)]; decide)
theorem sv_14 (I : ma_I) (i j : Nat) : sv I 14 i j = I 14 i j := sv_ap (by rw [cl_g (by decide) (by decide)]; decide)
theorem sv_15 (I : ma_I) (i j : Nat) : sv I 15 i j = I 15 i j := sv_ap (by rw [cl_g (by decide) (by decide)]; decide)
theorem sv_16 (I : ma_I) (i j : Nat) : sv I 16 i j = I 16 i j := sv_ap (by rw [cl_g (by decide) (by decide)]; decide)
theorem sv_17 (I : ma_I) (i j : Nat) : sv I 17 i j = I 17 i j := sv_ap (by rw [cl_g (by decide) (by decide)]; decide)
theorem sv_18 (I : ma_I) (i j : Nat) : sv I 18 i j = I 18 i j := sv_ap (by rw [cl_g (by decide) (by decide)]; decide)
theorem sv_19 (I : ma_I) (i j : Nat) : sv I 19 i j = I 19 i j := sv_ap (by rw [cl_g (by decide) (by decide)]; decide)
theorem sv_20 (I : ma_I) (i j : Nat) : sv I 20 i j = I 20 i j := sv_ap (by rw [cl_g (by decide) (by decide)]; decide)
theorem sv_21 (I : ma_I) (i j : Nat) : sv I 21 i j = I 21 i j := sv_ap (by rw [cl_g (by decide) (by decide)]; decide)
theorem sv_23 (I : ma_I) (i j : Nat) : sv I 23 i j = I 23 i j := sv_ap (by rw [cl_g (by decide) (by decide)]; decide)
theorem sv_24 (I : ma_I) (i j : Nat) : sv I 24 i j = I 24 i j := sv_ap (by rw [cl_g (by decide) (by decide)]; decide)
theorem sv_27 (I : ma_I) (i j : Nat) : sv I 27 i j = I 27 i j := sv_ap (by rw [cl_g (by decide) (by decide)]; decide)
theorem sv_28 (I : ma_I) (i j : Nat) : sv I 28 i j = I 28 i j := sv_ap (by rw [cl_g (by decide) (by decide)]; decide)
theorem sv_29 (I : ma_I) (i j : Nat) : sv I 29 i j = I 29 i j := sv_ap (by rw [cl_g (by decide) (by decide)]; decide)
theorem sv_30 (I : ma_I) (i j : Nat) : sv I 30 i j = I 30 i j := sv_ap (by rw [cl_g (by decide) (by decide)]; decide)
theorem sv_31 (I : ma_I) (i j : Nat) : sv I 31 i j = I 31 i j := sv_ap (by rw [cl_g (by decide) (by decide)]; decide)
theorem sv_41 (I : ma_I) (i j : Nat) : sv I 41 i j = I 41 i j := sv_ap (by rw [cl_g (by decide) (by decide)]; decide)
theorem sv_42 (I : ma_I) (i j : Nat) : sv I 42 i j = I 42 i j := sv_ap (by rw [cl_g (by decide) (by decide)]; decide)
theorem sv_43 (I : ma_I) (i j : Nat) : sv I 43 i j = I 43 i j := sv_ap (by rw [cl_g (by decide) (by decide)]; decide)
theorem sv_44 (I : ma_I) (i j : Nat) : sv I 44 i j = I 44 i j := sv_ap (by rw [cl_g (by decide) (by decide)]; decide)
theorem sv_45 (I : ma_I) (i j : Nat) : sv I 45 i j = I 45 i j := sv_ap (by rw [cl_g (by decide) (by decide)]; decide)
theorem sv_46 (I : ma_I) (i j : Nat) : sv I 46 i j = I 46 i j := sv_ap (by rw [cl_g (by decide) (by decide)]; decide)
theorem sv_47 (I : ma_I) (i j : Nat) : sv I 47 i j = I 47 i j := sv_ap (by rw [cl_g (by decide) (by decide)]; decide)
theorem sv_48 (I : ma_I) (i j : Nat) : sv I 48 i j = I 48 i j := sv_ap (by rw [cl_g (by decide) (by decide)]; decide)
theorem sv_49 (I : ma_I) (i j : Nat) : sv I 49 i j = I 49 i j := sv_ap (by rw [cl_g (by decide) (by decide)]; decide)
theorem sv_50 (I : ma_I) (i j : Nat) : sv I 50 i j = I 50 i j := sv_ap (by rw [cl_g (by decide) (by decide)]; decide)
theorem sv_51 (I : ma_I) (i j : Nat) : sv I 51 i j = I 51 i j := sv_ap (by rw [cl_g (by decide) (by decide)]; decide)
theorem sv_52 (I : ma_I) (i j : Nat) : sv I 52 i j = I 52 i j := sv_ap (by rw [cl_g (by decide) (by decide)]; decide)
theorem sv_53 (I : ma_I) (i j : Nat) : sv I 53 i j = I 53 i j := sv_ap (by rw [cl_g (by decide) (by decide)]; decide)
theorem sv_60 (I : ma_I) (i j : Nat) : sv I 60 i j = I 60 i j := sv_ap (by rw [cl_g (by decide) (by decide)]; decide)
theorem sv_61 (I : ma_I) (i j : Nat) : sv I 61 i j = I 61 i j := sv_ap (by rw [cl_g (by decide) (by decide)]; decide)
theorem sv_62 (I : ma_I) (i j : Nat) : sv I 62 i j = I 62 i j := sv_ap (by rw [cl_g (by decide) (by decide)]; decide)
theorem sv_63 (I : ma_I) (i j : Nat) : sv I 63 i j = I 63 i j := sv_ap (by rw [cl_g (by decide) (by decide)]; decide)
theorem sv_40_0 (I : ma_I) (i : Nat) : sv I 40 i 0 = I 40 i 0 := sv_ap (by decide)
theorem sv_40_1 (I : ma_I) (i : Nat) : sv I 40 i 1 = I 40 i 1 := sv_ap (by decide)
theorem sv_40_4 (I : ma_I) (i : Nat) : sv I 40 i 4 = I 40 i 4 := sv_ap (by decide)
theorem sv_40_12 (I : ma_I) (i : Nat) : sv I 40 i 12 = I 40 i 12 := sv_ap (by decide)
theorem sv_40_13 (I : ma_I) (i : Nat) : sv I 40 i 13 = I 40 i 13 := sv_ap (by decide)
theorem sv_40_14 (I : ma_I) (i : Nat) : sv I 40 i 14 = I 40 i 14 := sv_ap (by decide)
theorem sv_40_42 (I : ma_I) (i : Nat) : sv I 40 i 42 = I 40 i 42 := sv_ap (by decide)
theorem sv_8_0 (I : ma_I) (i : Nat) : sv I 8 i 0 = I 8 i 0 := sv_ap (by decide)
theorem fr_g {l : List Nat} {I I' : ma_I} (h : fr l I I') (g i j : Nat) (h1 : g ≠ 40) (h2 : g ≠ 8) (h3 : g ∉ l) : I' g i j = I g i j := h g i j (by rw [cl_g h1 h2]; exact h3)
theorem fr_upg {l : List Nat} {I I' : ma_I} {g i j : Nat} {v : Int32} (h : fr l I I') (h1 : g ≠ 40) (h2 : g ≠ 8) (h3 : g ∈ l) : fr l I (ma_up I' g i j v) := fr_up1 h (by rw [cl_g h1 h2]; exact h3)
theorem sr_pu {I : ma_I} {g i n : Nat} {s : List Int32} {v : Int32} (h : sr (I g i) s) (hn : s.length = n) : sr (ma_up I g i n v g i) (v :: s) := by
  subst hn
  refine ⟨xv_us, sr_cong s (fun j hj => ?_) h⟩
  exact up_j (by omega)
theorem in_ma (a b k : Nat) : Int32.ofNat a * Int32.ofNat b + Int32.ofNat k = Int32.ofNat (a * b + k) := by rw [Int32.ofNat_add, Int32.ofNat_mul]
/-- the reference's state alone -/
def mv (I : ma_I) : ma_I := fun g i j => if g < 40 then 0 else sv I g i j
theorem mv_ap {I : ma_I} {g i j : Nat} (hg : 40 ≤ g) (h : cl_c g j ∉ cl_s) : mv I g i j = I g i j := by
  unfold mv
  rw [if_neg (by omega)]
  exact sv_ap h
theorem mv_fr {l : List Nat} {I I' : ma_I} (h : fr l I I') (hl : ∀ c ∈ l, c ∈ cl_s) : mv I' = mv I := by
  unfold mv
  rw [sv_fr h hl]
theorem mv_cl {I I' : ma_I} (h : ∀ g i j, 40 ≤ g → I' g i j = I g i j) : mv I' = mv I := by
  funext g i j
  unfold mv sv
  by_cases e : g < 40
  · rw [if_pos e, if_pos e]
  · rw [if_neg e, if_neg e, h g i j (by omega)]
theorem mv_up {I : ma_I} {g i j : Nat} {v : Int32} (hg : 40 ≤ g) (h : cl_c g j ∉ cl_s) : mv (ma_up I g i j v) = ma_up (mv I) g i j v := by
  unfold mv
  rw [sv_up h]
  funext g' i' j'
  unfold ma_up
  by_cases e : g' < 40
  · rw [if_pos e, if_neg (by omega)]; exact (if_pos e).symm
  · simp only [if_neg e]
theorem mv_41 (I : ma_I) (i j : Nat) : mv I 41 i j = I 41 i j := mv_ap (by decide) (by rw [cl_g (by decide) (by decide)]; decide)
theorem mv_42 (I : ma_I) (i j : Nat) : mv I 42 i j = I 42 i j := mv_ap (by decide) (by rw [cl_g (by decide) (by decide)]; decide)
theorem mv_43 (I : ma_I) (i j : Nat) : mv I 43 i j = I 43 i j := mv_ap (by decide) (by rw [cl_g (by decide) (by decide)]; decide)
theorem mv_44 (I : ma_I) (i j : Nat) : mv I 44 i j = I 44 i j := mv_ap (by decide) (by rw [cl_g (by decide) (by decide)]; decide)
theorem mv_45 (I : ma_I) (i j : Nat) : mv I 45 i j = I 45 i j := mv_ap (by decide) (by rw [cl_g (by decide) (by decide)]; decide)
theorem mv_46 (I : ma_I) (i j : Nat) : mv I 46 i j = I 46 i j := mv_ap (by decide) (by rw [cl_g (by decide) (by decide)]; decide)
theorem mv_47 (I : ma_I) (i j : Nat) : mv I 47 i j = I 47 i j := mv_ap (by decide) (by rw [cl_g (by decide) (by decide)]; decide)
theorem mv_48 (I : ma_I) (i j : Nat) : mv I 48 i j = I 48 i j := mv_ap (by decide) (by rw [cl_g (by decide) (by decide)]; decide)
theorem mv_49 (I : ma_I) (i j : Nat) : mv I 49 i j = I 49 i j := mv_ap (by decide) (by rw [cl_g (by decide) (by decide)]; decide)
theorem mv_50 (I : ma_I) (i j : Nat) : mv I 50 i j = I 50 i j := mv_ap (by decide) (by rw [cl_g (by decide) (by decide)]; decide)
theorem mv_51 (I : ma_I) (i j : Nat) : mv I 51 i j = I 51 i j := mv_ap (by decide) (by rw [cl_g (by decide) (by decide)]; decide)
theorem mv_52 (I : ma_I) (i j : Nat) : mv I 52 i j = I 52 i j := mv_ap (by decide) (by rw [cl_g (by decide) (by decide)]; decide)
theorem mv_53 (I : ma_I) (i j : Nat) : mv I 53 i j = I 53 i j := mv_ap (by decide) (by rw [cl_g (by decide) (by decide)]; decide)
theorem mv_60 (I : ma_I) (i j : Nat) : mv I 60 i j = I 60 i j := mv_ap (by decide) (by rw [cl_g (by decide) (by decide)]; decide)
theorem mv_61 (I : ma_I) (i j : Nat) : mv I 61 i j = I 61 i j := mv_ap (by decide) (by rw [cl_g (by decide) (by decide)]; decide)
theorem mv_62 (I : ma_I) (i j : Nat) : mv I 62 i j = I 62 i j := mv_ap (by decide) (by rw [cl_g (by decide) (by decide)]; decide)
theorem mv_63 (I : ma_I) (i j : Nat) : mv I 63 i j = I 63 i j := mv_ap (by decide) (by rw [cl_g (by decide) (by decide)]; decide)
theorem mv_40_0 (I : ma_I) (i : Nat) : mv I 40 i 0 = I 40 i 0 := mv_ap (by decide) (by decide)
theorem mv_40_1 (I : ma_I) (i : Nat) : mv I 40 i 1 = I 40 i 1 := mv_ap (by decide) (by decide)
theorem mv_40_4 (I : ma_I) (i : Nat) : mv I 40 i 4 = I 40 i 4 := mv_ap (by decide) (by decide)
theorem mv_40_12 (I : ma_I) (i : Nat) : mv I 40 i 12 = I 40 i 12 := mv_ap (by decide) (by decide)
theorem mv_40_13 (I : ma_I) (i : Nat) : mv I 40 i 13 = I 40 i 13 := mv_ap (by decide) (by decide)
theorem mv_40_14 (I : ma_I) (i : Nat) : mv I 40 i 14 = I 40 i 14 := mv_ap (by decide) (by decide)
theorem mv_40_42 (I : ma_I) (i : Nat) : mv I 40 i 42 = I 40 i 42 := mv_ap (by decide) (by decide)

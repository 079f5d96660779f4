/-! ===== image and back ===== -/
theorem cp_0 {J : ma_I} {g p h q : Nat} : ma_cpy J g 0 p h 0 q 0 = J := by
  funext x y z
  unfold ma_cpy
  by_cases e1 : x = h
  · rw [if_pos e1]
    by_cases e2 : y = 0
    · rw [if_pos e2, if_neg (by omega)]
    · rw [if_neg e2]
  · rw [if_neg e1]
theorem cp_at {J : ma_I} {g p h q n z : Nat} (h1 : q ≤ z) (h2 : z < q + n) : ma_cpy J g 0 p h 0 q n h 0 z = J g 0 (p + (z - q)) := by
  unfold ma_cpy
  rw [if_pos rfl, if_pos rfl, if_pos ⟨h1, h2⟩]
theorem cp_ne {J : ma_I} {g p h q n x y z : Nat} (hn : ¬(x = h ∧ y = 0 ∧ q ≤ z ∧ z < q + n)) : ma_cpy J g 0 p h 0 q n x y z = J x y z := by
  unfold ma_cpy
  by_cases e1 : x = h
  · rw [if_pos e1]
    by_cases e2 : y = 0
    · rw [if_pos e2, if_neg (fun q => hn ⟨e1, e2, q⟩)]
    · rw [if_neg e2]
  · rw [if_neg e1]
theorem cp_g {J : ma_I} {g p h q n x y z : Nat} (hn : x ≠ h) : ma_cpy J g 0 p h 0 q n x y z = J x y z := cp_ne (fun e => hn e.1)
theorem cp_z {J : ma_I} {g p h q n y z : Nat} (hn : ¬(q ≤ z ∧ z < q + n)) : ma_cpy J g 0 p h 0 q n h y z = J h y z := cp_ne (fun e => hn e.2.2)
theorem cp_s {J : ma_I} {g p h q n a b : Nat} (hgh : g ≠ h) (ha : a = p + n) (hb : b = q + n) : ma_up (ma_cpy J g 0 p h 0 q n) h 0 b (ma_cpy J g 0 p h 0 q n g 0 a) = ma_cpy J g 0 p h 0 q (n + 1) := by
  subst ha; subst hb
  rw [cp_g hgh]
  funext x y z
  by_cases e : x = h ∧ y = 0 ∧ z = q + n
  · obtain ⟨e1, e2, e3⟩ := e
    subst e1; subst e2; subst e3
    rw [xv_us, cp_at (by omega) (by omega)]
    congr 1
    omega
  · rw [up_ne e]
    by_cases e2 : x = h ∧ y = 0 ∧ q ≤ z ∧ z < q + n
    · obtain ⟨e1, e3, e4, e5⟩ := e2
      subst e1; subst e3
      rw [cp_at e4 e5, cp_at e4 (by omega)]
    · rw [cp_ne e2, cp_ne (fun hh => e2 ⟨hh.1, hh.2.1, hh.2.2.1, by
        have : z ≠ q + n := fun q => e ⟨hh.1, hh.2.1, q⟩
        omega⟩)]
theorem mv_cpy {J : ma_I} {g p h q n : Nat} (h1 : 40 < g) (h2 : 40 < h) (hg : g ∉ cl_s) (hh : h ∉ cl_s) : mv (ma_cpy J g 0 p h 0 q n) = ma_cpy (mv J) g 0 p h 0 q n := by
  have ap : ∀ (K : ma_I) x, 40 < x → x ∉ cl_s → ∀ y z, mv K x y z = K x y z := fun K x hx hc y z => mv_ap (by omega) (by rw [cl_g (by omega) (by omega)]; exact hc)
  funext x y z
  by_cases e : x = h ∧ y = 0 ∧ q ≤ z ∧ z < q + n
  · obtain ⟨e1, e2, e3, e4⟩ := e
    subst e1; subst e2
    rw [ap _ _ h2 hh, cp_at e3 e4, cp_at e3 e4, ap _ _ h1 hg]
  · rw [cp_ne e]
    unfold mv sv
    rw [cp_ne e]
def st_image (σ : ma_I) : ma_I := ma_cpy (ma_cpy (ma_cpy (ma_cpy (ma_cpy (ma_cpy (ma_up (ma_up (ma_up (ma_up (ma_up σ 40 0 42 1) 60 0 0 (σ 40 0 0)) 60 0 1 (σ 40 0 1)) 60 0 2 (σ 40 0 4)) 60 0 3 (σ 40 0 14)) 42 0 0 60 0 4 6) 44 0 0 60 0 10 9) 45 0 0 60 0 19 9) 46 0 0 60 0 28 9) 47 0 0 60 0 37 9) 48 0 0 60 0 46 9
def pu_bk (σ : ma_I) : ma_I := ma_cpy (ma_cpy (ma_cpy (ma_cpy (ma_cpy (ma_cpy (ma_up (ma_up (ma_up (ma_up σ 40 0 0 (σ 60 0 0)) 40 0 1 (σ 60 0 1)) 40 0 4 (σ 60 0 2)) 40 0 14 (σ 60 0 3)) 60 0 4 42 0 0 6) 60 0 10 44 0 0 9) 60 0 19 45 0 0 9) 60 0 28 46 0 0 9) 60 0 37 47 0 0 9) 60 0 46 48 0 0 9
def st_back (σ : ma_I) : ma_I := if σ 40 0 42 ≠ 0 then pu_bk σ else σ
def an_back (σ : ma_I) : Int32 := if σ 40 0 42 ≠ 0 then σ 60 0 2 else -3
section IMG
variable {d : Nat} {I : ma_I} {o : Nat} {Q : ma_Q} {σ : ma_I}
theorem mo_174_42_60 (h : Q none (ma_cpy I 42 0 0 60 0 4 6) o) : Exm d 174 [.inr (.inr (42, 0)), .inr (.inr (60, 0)), .inl 4, .inl 0] I o Q := by
  refine e_174_42_60 ⟨fun c => absurd rfl c, fun _ => ?_⟩
  have key := lp_up (P := fun e => Ex d 174 (16, [vR 42 0, vR 60 0, vI 4, vI 0, vI (Int32.ofNat 6), vI (Int32.ofNat e)], [], ma_mem (ma_cpy I 42 0 0 60 0 4 e) o, 0, 0) (ma_end Q)) 6 ?_ ?_
  · have := key 0 (by omega)
    rw [cp_0] at this
    exact this
  · exact b_174_42_60_16 ⟨fun _ => h, fun c => absurd c (by decide)⟩
  · intro e he ih
    have e1 : (4 : Int32) + Int32.ofNat e = Int32.ofNat (4 + e) := (Int32.ofNat_add 4 e).symm
    refine b_174_42_60_16 ⟨fun c => ?_, fun _ => ⟨fun c => ?_, fun _ => ⟨fun c => absurd rfl c, fun _ => ?_⟩⟩⟩
    · have := (in_le (by omega) (by omega)).mp c
      omega
    · have := (in_le (a := 9) (by decide) (by omega)).mp c
      omega
    · rw [e1, in_cl (by omega), in_cl (by omega), in_a1, cp_s (by decide) (by omega) rfl]
      exact ⟨in_in (by omega) (by omega), in_in (by omega) (by omega), ih⟩
theorem mo_174_44_60 (h : Q none (ma_cpy I 44 0 0 60 0 10 9) o) : Exm d 174 [.inr (.inr (44, 0)), .inr (.inr (60, 0)), .inl 10, .inl 0] I o Q := by
  refine e_174_44_60 ⟨fun c => absurd rfl c, fun _ => ?_⟩
  have key := lp_up (P := fun e => Ex d 174 (16, [vR 44 0, vR 60 0, vI 10, vI 0, vI (Int32.ofNat 9), vI (Int32.ofNat e)], [], ma_mem (ma_cpy I 44 0 0 60 0 10 e) o, 0, 0) (ma_end Q)) 9 ?_ ?_
  · have := key 0 (by omega)
    rw [cp_0] at this
    exact this
  · exact b_174_44_60_16 ⟨fun _ => h, fun c => absurd c (by decide)⟩
  · intro e he ih
    have e1 : (10 : Int32) + Int32.ofNat e = Int32.ofNat (10 + e) := (Int32.ofNat_add 10 e).symm
    refine b_174_44_60_16 ⟨fun c => ?_, fun _ => ⟨fun c => ?_, fun _ => ⟨fun c => absurd rfl c, fun _ => ?_⟩⟩⟩
    · have := (in_le (by omega) (by omega)).mp c
      omega
    · have := (in_le (a := 9) (by decide) (by omega)).mp c
      omega
    · rw [e1, in_cl (by omega), in_cl (by omega), in_a1, cp_s (by decide) (by omega) rfl]
      exact ⟨in_in (by omega) (by omega), in_in (by omega) (by omega), ih⟩
theorem mo_174_45_60 (h : Q none (ma_cpy I 45 0 0 60 0 19 9) o) : Exm d 174 [.inr (.inr (45, 0)), .inr (.inr (60, 0)), .inl 19, .inl 0] I o Q := by
  refine e_174_45_60 ⟨fun c => absurd rfl c, fun _ => ?_⟩
  have key := lp_up (P := fun e => Ex d 174 (16, [vR 45 0, vR 60 0, vI 19, vI 0, vI (Int32.ofNat 9), vI (Int32.ofNat e)], [], ma_mem (ma_cpy I 45 0 0 60 0 19 e) o, 0, 0) (ma_end Q)) 9 ?_ ?_
  · have := key 0 (by omega)
    rw [cp_0] at this
    exact this
  · exact b_174_45_60_16 ⟨fun _ => h, fun c => absurd c (by decide)⟩
  · intro e he ih
    have e1 : (19 : Int32) + Int32.ofNat e = Int32.ofNat (19 + e) := (Int32.ofNat_add 19 e).symm
    refine b_174_45_60_16 ⟨fun c => ?_, fun _ => ⟨fun c => ?_, fun _ => ⟨fun c => absurd rfl c, fun _ => ?_⟩⟩⟩
    · have := (in_le (by omega) (by omega)).mp c
      omega
    · have := (in_le (a := 9) (by decide) (by omega)).mp c
      omega
    · rw [e1, in_cl (by omega), in_cl (by omega), in_a1, cp_s (by decide) (by omega) rfl]
      exact ⟨in_in (by omega) (by omega), in_in (by omega) (by omega), ih⟩
theorem mo_174_46_60 (h : Q none (ma_cpy I 46 0 0 60 0 28 9) o) : Exm d 174 [.inr (.inr (46, 0)), .inr (.inr (60, 0)), .inl 28, .inl 0] I o Q := by
  refine e_174_46_60 ⟨fun c => absurd rfl c, fun _ => ?_⟩
  have key := lp_up (P := fun e => Ex d 174 (16, [vR 46 0, vR 60 0, vI 28, vI 0, vI (Int32.ofNat 9), vI (Int32.ofNat e)], [], ma_mem (ma_cpy I 46 0 0 60 0 28 e) o, 0, 0) (ma_end Q)) 9 ?_ ?_
  · have := key 0 (by omega)
    rw [cp_0] at this
    exact this
  · exact b_174_46_60_16 ⟨fun _ => h, fun c => absurd c (by decide)⟩
  · intro e he ih
    have e1 : (28 : Int32) + Int32.ofNat e = Int32.ofNat (28 + e) := (Int32.ofNat_add 28 e).symm
    refine b_174_46_60_16 ⟨fun c => ?_, fun _ => ⟨fun c => ?_, fun _ => ⟨fun c => absurd rfl c, fun _ => ?_⟩⟩⟩
    · have := (in_le (by omega) (by omega)).mp c
      omega
    · have := (in_le (a := 9) (by decide) (by omega)).mp c
      omega
    · rw [e1, in_cl (by omega), in_cl (by omega), in_a1, cp_s (by decide) (by omega) rfl]
      exact ⟨in_in (by omega) (by omega), in_in (by omega) (by omega), ih⟩
theorem mo_174_47_60 (h : Q none (ma_cpy I 47 0 0 60 0 37 9) o) : Exm d 174 [.inr (.inr (47, 0)), .inr (.inr (60, 0)), .inl 37, .inl 0] I o Q := by
  refine e_174_47_60 ⟨fun c => absurd rfl c, fun _ => ?_⟩
  have key := lp_up (P := fun e => Ex d 174 (16, [vR 47 0, vR 60 0, vI 37, vI 0, vI (Int32.ofNat 9), vI (Int32.ofNat e)], [], ma_mem (ma_cpy I 47 0 0 60 0 37 e) o, 0, 0) (ma_end Q)) 9 ?_ ?_
  · have := key 0 (by omega)
    rw [cp_0] at this
    exact this
  · exact b_174_47_60_16 ⟨fun _ => h, fun c => absurd c (by decide)⟩
  · intro e he ih
    have e1 : (37 : Int32) + Int32.ofNat e = Int32.ofNat (37 + e) := (Int32.ofNat_add 37 e).symm
    refine b_174_47_60_16 ⟨fun c => ?_, fun _ => ⟨fun c => ?_, fun _ => ⟨fun c => absurd rfl c, fun _ => ?_⟩⟩⟩
    · have := (in_le (by omega) (by omega)).mp c
      omega
    · have := (in_le (a := 9) (by decide) (by omega)).mp c
      omega
    · rw [e1, in_cl (by omega), in_cl (by omega), in_a1, cp_s (by decide) (by omega) rfl]
      exact ⟨in_in (by omega) (by omega), in_in (by omega) (by omega), ih⟩
theorem mo_174_48_60 (h : Q none (ma_cpy I 48 0 0 60 0 46 9) o) : Exm d 174 [.inr (.inr (48, 0)), .inr (.inr (60, 0)), .inl 46, .inl 0] I o Q := by
  refine e_174_48_60 ⟨fun c => absurd rfl c, fun _ => ?_⟩
  have key := lp_up (P := fun e => Ex d 174 (16, [vR 48 0, vR 60 0, vI 46, vI 0, vI (Int32.ofNat 9), vI (Int32.ofNat e)], [], ma_mem (ma_cpy I 48 0 0 60 0 46 e) o, 0, 0) (ma_end Q)) 9 ?_ ?_
  · have := key 0 (by omega)
    rw [cp_0] at this
    exact this
  · exact b_174_48_60_16 ⟨fun _ => h, fun c => absurd c (by decide)⟩
  · intro e he ih
    have e1 : (46 : Int32) + Int32.ofNat e = Int32.ofNat (46 + e) := (Int32.ofNat_add 46 e).symm
    refine b_174_48_60_16 ⟨fun c => ?_, fun _ => ⟨fun c => ?_, fun _ => ⟨fun c => absurd rfl c, fun _ => ?_⟩⟩⟩
    · have := (in_le (by omega) (by omega)).mp c
      omega
    · have := (in_le (a := 9) (by decide) (by omega)).mp c
      omega
    · rw [e1, in_cl (by omega), in_cl (by omega), in_a1, cp_s (by decide) (by omega) rfl]
      exact ⟨in_in (by omega) (by omega), in_in (by omega) (by omega), ih⟩
theorem mo_174_60_42 (h : Q none (ma_cpy I 60 0 4 42 0 0 6) o) : Exm d 174 [.inr (.inr (60, 0)), .inr (.inr (42, 0)), .inl 4, .inl 1] I o Q := by
  refine e_174_60_42 ⟨fun _ => ?_, fun c => absurd c (by decide)⟩
  have key := lp_up (P := fun e => Ex d 174 (16, [vR 60 0, vR 42 0, vI 4, vI 1, vI (Int32.ofNat 6), vI (Int32.ofNat e)], [], ma_mem (ma_cpy I 60 0 4 42 0 0 e) o, 0, 0) (ma_end Q)) 6 ?_ ?_
  · have := key 0 (by omega)
    rw [cp_0] at this
    exact this
  · exact b_174_60_42_16 ⟨fun _ => h, fun c => absurd c (by decide)⟩
  · intro e he ih
    have e1 : (4 : Int32) + Int32.ofNat e = Int32.ofNat (4 + e) := (Int32.ofNat_add 4 e).symm
    refine b_174_60_42_16 ⟨fun c => ?_, fun _ => ⟨fun c => ?_, fun _ => ⟨fun _ => ?_, fun c => absurd c (by decide)⟩⟩⟩
    · have := (in_le (by omega) (by omega)).mp c
      omega
    · have := (in_le (a := 9) (by decide) (by omega)).mp c
      omega
    · rw [e1, in_cl (by omega), in_cl (by omega), in_a1, cp_s (by decide) rfl (by omega)]
      exact ⟨in_in (by omega) (by omega), in_in (by omega) (by omega), ih⟩
theorem mo_174_60_44 (h : Q none (ma_cpy I 60 0 10 44 0 0 9) o) : Exm d 174 [.inr (.inr (60, 0)), .inr (.inr (44, 0)), .inl 10, .inl 1] I o Q := by
  refine e_174_60_44 ⟨fun _ => ?_, fun c => absurd c (by decide)⟩
  have key := lp_up (P := fun e => Ex d 174 (16, [vR 60 0, vR 44 0, vI 10, vI 1, vI (Int32.ofNat 9), vI (Int32.ofNat e)], [], ma_mem (ma_cpy I 60 0 10 44 0 0 e) o, 0, 0) (ma_end Q)) 9 ?_ ?_
  · have := key 0 (by omega)
    rw [cp_0] at this
    exact this
  · exact b_174_60_44_16 ⟨fun _ => h, fun c => absurd c (by decide)⟩
  · intro e he ih
    have e1 : (10 : Int32) + Int32.ofNat e = Int32.ofNat (10 + e) := (Int32.ofNat_add 10 e).symm
    refine b_174_60_44_16 ⟨fun c => ?_, fun _ => ⟨fun c => ?_, fun _ => ⟨fun _ => ?_, fun c => absurd c (by decide)⟩⟩⟩
    · have := (in_le (by omega) (by omega)).mp c
      omega
    · have := (in_le (a := 9) (by decide) (by omega)).mp c
      omega
    · rw [e1, in_cl (by omega), in_cl (by omega), in_a1, cp_s (by decide) rfl (by omega)]
      exact ⟨in_in (by omega) (by omega), in_in (by omega) (by omega), ih⟩
theorem mo_174_60_45 (h : Q none (ma_cpy I 60 0 19 45 0 0 9) o) : Exm d 174 [.inr (.inr (60, 0)), .inr (.inr (45, 0)), .inl 19, .inl 1] I o Q := by
  refine e_174_60_45 ⟨fun _ => ?_, fun c => absurd c (by decide)⟩
  have key := lp_up (P := fun e => Ex d 174 (16, [vR 60 0, vR 45 0, vI 19, vI 1, vI (Int32.ofNat 9), vI (Int32.ofNat e)], [], ma_mem (ma_cpy I 60 0 19 45 0 0 e) o, 0, 0) (ma_end Q)) 9 ?_ ?_
  · have := key 0 (by omega)
    rw [cp_0] at this
    exact this
  · exact b_174_60_45_16 ⟨fun _ => h, fun c => absurd c (by decide)⟩
  · intro e he ih
    have e1 : (19 : Int32) + Int32.ofNat e = Int32.ofNat (19 + e) := (Int32.ofNat_add 19 e).symm
    refine b_174_60_45_16 ⟨fun c => ?_, fun _ => ⟨fun c => ?_, fun _ => ⟨fun _ => ?_, fun c => absurd c (by decide)⟩⟩⟩
    · have := (in_le (by omega) (by omega)).mp c
      omega
    · have := (in_le (a := 9) (by decide) (by omega)).mp c
      omega
    · rw [e1, in_cl (by omega), in_cl (by omega), in_a1, cp_s (by decide) rfl (by omega)]
      exact ⟨in_in (by omega) (by omega), in_in (by omega) (by omega), ih⟩
theorem mo_174_60_46 (h : Q none (ma_cpy I 60 0 28 46 0 0 9) o) : Exm d 174 [.inr (.inr (60, 0)), .inr (.inr (46, 0)), .inl 28, .inl 1] I o Q := by
  refine e_174_60_46 ⟨fun _ => ?_, fun c => absurd c (by decide)⟩
  have key := lp_up (P := fun e => Ex d 174 (16, [vR 60 0, vR 46 0, vI 28, vI 1, vI (Int32.ofNat 9), vI (Int32.ofNat e)], [], ma_mem (ma_cpy I 60 0 28 46 0 0 e) o, 0, 0) (ma_end Q)) 9 ?_ ?_
  · have := key 0 (by omega)
    rw [cp_0] at this
    exact this
  · exact b_174_60_46_16 ⟨fun _ => h, fun c => absurd c (by decide)⟩
  · intro e he ih
    have e1 : (28 : Int32) + Int32.ofNat e = Int32.ofNat (28 + e) := (Int32.ofNat_add 28 e).symm
    refine b_174_60_46_16 ⟨fun c => ?_, fun _ => ⟨fun c => ?_, fun _ => ⟨fun _ => ?_, fun c => absurd c (by decide)⟩⟩⟩
    · have := (in_le (by omega) (by omega)).mp c
      omega
    · have := (in_le (a := 9) (by decide) (by omega)).mp c
      omega
    · rw [e1, in_cl (by omega), in_cl (by omega), in_a1, cp_s (by decide) rfl (by omega)]
      exact ⟨in_in (by omega) (by omega), in_in (by omega) (by omega), ih⟩
theorem mo_174_60_47 (h : Q none (ma_cpy I 60 0 37 47 0 0 9) o) : Exm d 174 [.inr (.inr (60, 0)), .inr (.inr (47, 0)), .inl 37, .inl 1] I o Q := by
  refine e_174_60_47 ⟨fun _ => ?_, fun c => absurd c (by decide)⟩
  have key := lp_up (P := fun e => Ex d 174 (16, [vR 60 0, vR 47 0, vI 37, vI 1, vI (Int32.ofNat 9), vI (Int32.ofNat e)], [], ma_mem (ma_cpy I 60 0 37 47 0 0 e) o, 0, 0) (ma_end Q)) 9 ?_ ?_
  · have := key 0 (by omega)
    rw [cp_0] at this
    exact this
  · exact b_174_60_47_16 ⟨fun _ => h, fun c => absurd c (by decide)⟩
  · intro e he ih
    have e1 : (37 : Int32) + Int32.ofNat e = Int32.ofNat (37 + e) := (Int32.ofNat_add 37 e).symm
    refine b_174_60_47_16 ⟨fun c => ?_, fun _ => ⟨fun c => ?_, fun _ => ⟨fun _ => ?_, fun c => absurd c (by decide)⟩⟩⟩
    · have := (in_le (by omega) (by omega)).mp c
      omega
    · have := (in_le (a := 9) (by decide) (by omega)).mp c
      omega
    · rw [e1, in_cl (by omega), in_cl (by omega), in_a1, cp_s (by decide) rfl (by omega)]
      exact ⟨in_in (by omega) (by omega), in_in (by omega) (by omega), ih⟩
theorem mo_174_60_48 (h : Q none (ma_cpy I 60 0 46 48 0 0 9) o) : Exm d 174 [.inr (.inr (60, 0)), .inr (.inr (48, 0)), .inl 46, .inl 1] I o Q := by
  refine e_174_60_48 ⟨fun _ => ?_, fun c => absurd c (by decide)⟩
  have key := lp_up (P := fun e => Ex d 174 (16, [vR 60 0, vR 48 0, vI 46, vI 1, vI (Int32.ofNat 9), vI (Int32.ofNat e)], [], ma_mem (ma_cpy I 60 0 46 48 0 0 e) o, 0, 0) (ma_end Q)) 9 ?_ ?_
  · have := key 0 (by omega)
    rw [cp_0] at this
    exact this
  · exact b_174_60_48_16 ⟨fun _ => h, fun c => absurd c (by decide)⟩
  · intro e he ih
    have e1 : (46 : Int32) + Int32.ofNat e = Int32.ofNat (46 + e) := (Int32.ofNat_add 46 e).symm
    refine b_174_60_48_16 ⟨fun c => ?_, fun _ => ⟨fun c => ?_, fun _ => ⟨fun _ => ?_, fun c => absurd c (by decide)⟩⟩⟩
    · have := (in_le (by omega) (by omega)).mp c
      omega
    · have := (in_le (a := 9) (by decide) (by omega)).mp c
      omega
    · rw [e1, in_cl (by omega), in_cl (by omega), in_a1, cp_s (by decide) rfl (by omega)]
      exact ⟨in_in (by omega) (by omega), in_in (by omega) (by omega), ih⟩
theorem fr_cp {l : List Nat} {I' : ma_I} {g p h q n : Nat} (hf : fr l I I') (hh : 40 < h) (hl : h ∈ l) : fr l I (ma_cpy I' g 0 p h 0 q n) := fun x y z hc => by
  rw [cp_g (fun e => hc (by rw [e, cl_g (by omega) (by omega)]; exact hl))]
  exact hf x y z hc
theorem mo_175 (h : ∀ I', fr [60, 1042] I I' → mv I' = st_image (mv I) → Q (some (.inl (mv I 40 0 4))) I' o) : Exm (d + 1) 175 [.inr (.inr (40, 0))] I o Q := by
  refine e_175 ?_
  refine mo_174_42_60 ⟨rfl, mo_174_44_60 ⟨rfl, mo_174_45_60 ⟨rfl, mo_174_46_60 ⟨rfl, mo_174_47_60 ⟨rfl, mo_174_48_60 ⟨rfl, ?_⟩⟩⟩⟩⟩⟩
  have hf : ∀ J, fr [60, 1042] I J → ∀ g p q n, fr [60, 1042] I (ma_cpy J g 0 p 60 0 q n) := fun J hJ g p q n => fr_cp hJ (by decide) (by decide)
  have h4 : ∀ J, J = ma_cpy (ma_cpy (ma_cpy (ma_cpy (ma_cpy (ma_cpy (ma_up (ma_up (ma_up (ma_up (ma_up I 40 0 42 1) 60 0 0 (I 40 0 0)) 60 0 1 (I 40 0 1)) 60 0 2 (I 40 0 4)) 60 0 3 (I 40 0 14)) 42 0 0 60 0 4 6) 44 0 0 60 0 10 9) 45 0 0 60 0 19 9) 46 0 0 60 0 28 9) 47 0 0 60 0 37 9) 48 0 0 60 0 46 9 → fr [60, 1042] I J ∧ mv J = st_image (mv I) := by
    intro J hJ
    subst hJ
    refine ⟨hf _ (hf _ (hf _ (hf _ (hf _ (hf _ ?_ _ _ _ _) _ _ _ _) _ _ _ _) _ _ _ _) _ _ _ _) _ _ _ _, ?_⟩
    · exact fr_upg (fr_upg (fr_upg (fr_upg (fr_up1 (fr_refl _ _) (by decide)) (by decide) (by decide) (by decide)) (by decide) (by decide) (by decide)) (by decide) (by decide) (by decide)) (by decide) (by decide) (by decide)
    · unfold st_image
      rw [mv_cpy (by decide) (by decide) (by decide) (by decide), mv_cpy (by decide) (by decide) (by decide) (by decide), mv_cpy (by decide) (by decide) (by decide) (by decide), mv_cpy (by decide) (by decide) (by decide) (by decide), mv_cpy (by decide) (by decide) (by decide) (by decide), mv_cpy (by decide) (by decide) (by decide) (by decide), mv_up (by decide) (by decide), mv_up (by decide) (by decide), mv_up (by decide) (by decide), mv_up (by decide) (by decide), mv_up (by decide) (by decide), mv_40_0, mv_40_1, mv_40_4, mv_40_14]
  obtain ⟨a, b⟩ := h4 _ rfl
  have := h _ a b
  rw [mv_40_4] at this
  rw [a 40 0 4 (by decide)]
  exact this
theorem mo_176 (h : ∀ I', fr [42, 44, 45, 46, 47, 48, 1000, 1001, 1004, 1014] I I' → mv I' = st_back (mv I) → Q (some (.inl (an_back (mv I)))) I' o) : Exm (d + 1) 176 [.inr (.inr (40, 0))] I o Q := by
  unfold st_back an_back at h
  rw [mv_40_42] at h
  refine e_176 ⟨fun c => ?_, fun c => ?_⟩
  · rw [if_pos c, if_pos c] at h
    refine mo_174_60_42 ⟨rfl, mo_174_60_44 ⟨rfl, mo_174_60_45 ⟨rfl, mo_174_60_46 ⟨rfl, mo_174_60_47 ⟨rfl, mo_174_60_48 ⟨rfl, ?_⟩⟩⟩⟩⟩⟩
    have h4 : ∀ J, J = ma_cpy (ma_cpy (ma_cpy (ma_cpy (ma_cpy (ma_cpy (ma_up (ma_up (ma_up (ma_up I 40 0 0 (I 60 0 0)) 40 0 1 (I 60 0 1)) 40 0 4 (I 60 0 2)) 40 0 14 (I 60 0 3)) 60 0 4 42 0 0 6) 60 0 10 44 0 0 9) 60 0 19 45 0 0 9) 60 0 28 46 0 0 9) 60 0 37 47 0 0 9) 60 0 46 48 0 0 9 → fr [42, 44, 45, 46, 47, 48, 1000, 1001, 1004, 1014] I J ∧ mv J = pu_bk (mv I) ∧ J 40 0 4 = I 60 0 2 := by
      intro J hJ
      subst hJ
      refine ⟨?_, ?_, ?_⟩
      · refine fr_cp (fr_cp (fr_cp (fr_cp (fr_cp (fr_cp ?_ (by decide) (by decide)) (by decide) (by decide)) (by decide) (by decide)) (by decide) (by decide)) (by decide) (by decide)) (by decide) (by decide)
        exact fr_up1 (fr_up1 (fr_up1 (fr_up1 (fr_refl _ _) (by decide)) (by decide)) (by decide)) (by decide)
      · unfold pu_bk
        rw [mv_cpy (by decide) (by decide) (by decide) (by decide), mv_cpy (by decide) (by decide) (by decide) (by decide), mv_cpy (by decide) (by decide) (by decide) (by decide), mv_cpy (by decide) (by decide) (by decide) (by decide), mv_cpy (by decide) (by decide) (by decide) (by decide), mv_cpy (by decide) (by decide) (by decide) (by decide), mv_up (by decide) (by decide), mv_up (by decide) (by decide), mv_up (by decide) (by decide), mv_up (by decide) (by decide), mv_60, mv_60, mv_60, mv_60]
      · rw [cp_g (by decide), cp_g (by decide), cp_g (by decide), cp_g (by decide), cp_g (by decide), cp_g (by decide), up_j (by decide), xv_us]
    obtain ⟨a, b, e⟩ := h4 _ rfl
    rw [e]
    have := h _ a b
    rw [mv_60] at this
    exact this
  · rw [if_neg (fun q => q c), if_neg (fun q => q c)] at h
    exact h I (fr_refl _ _) rfl
end IMG

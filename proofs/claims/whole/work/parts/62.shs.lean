/-! ===== sheet, cell, copy, film ===== -/
def pu_sh (σ : ma_I) (s : Nat) (b n : Int32) : ma_I := fun g i j => if g = 63 ∧ i = 0 ∧ 40 * s ≤ j ∧ j < 40 * s + 40 then 0 else ma_up (ma_up σ 61 0 s b) 62 0 s n g i j
def an_sheet (a b c : Int32) : Int32 := if 0 ≤ a ∧ a ≤ 3 then if -1 ≤ b ∧ b ≤ 2 then if b = -1 then 1 else if 40 < c then -2 else if c < 0 then -14 else 1 else -2 else -2
def st_sheet (σ : ma_I) (a b c : Int32) : ma_I := if (0 ≤ a ∧ a ≤ 3) ∧ (-1 ≤ b ∧ b ≤ 2) ∧ (b = -1 ∨ (c ≤ 40 ∧ 0 ≤ c)) then pu_sh σ a.toNatClampNeg b (if b = -1 then 0 else c) else σ
theorem sh_61 {σ : ma_I} {s : Nat} {b n : Int32} {k : Nat} : pu_sh σ s b n 61 0 k = if k = s then b else σ 61 0 k := by
  unfold pu_sh
  rw [if_neg (fun h => absurd h.1 (by decide)), up_g (by decide)]
  by_cases e : k = s
  · subst e; rw [xv_us, if_pos rfl]
  · rw [up_j e, if_neg e]
theorem sh_62 {σ : ma_I} {s : Nat} {b n : Int32} {k : Nat} : pu_sh σ s b n 62 0 k = if k = s then n else σ 62 0 k := by
  unfold pu_sh
  rw [if_neg (fun h => absurd h.1 (by decide))]
  by_cases e : k = s
  · subst e; rw [xv_us, if_pos rfl]
  · rw [up_j e, if_neg e, up_g (by decide)]
theorem sh_63 {σ : ma_I} {s : Nat} {b n : Int32} {k : Nat} : pu_sh σ s b n 63 0 k = if 40 * s ≤ k ∧ k < 40 * s + 40 then 0 else σ 63 0 k := by
  unfold pu_sh
  by_cases e : 40 * s ≤ k ∧ k < 40 * s + 40
  · rw [if_pos ⟨rfl, rfl, e⟩, if_pos e]
  · rw [if_neg (fun h => e h.2.2), if_neg e, up_g (by decide), up_g (by decide)]
theorem sh_o {σ : ma_I} {s : Nat} {b n : Int32} {g i j : Nat} (h1 : g ≠ 61) (h2 : g ≠ 62) (h3 : g ≠ 63) : pu_sh σ s b n g i j = σ g i j := by
  unfold pu_sh
  rw [if_neg (fun h => h3 h.1), up_g h2, up_g h1]
theorem sh_iv {σ : ma_I} {s : Nat} {b n : Int32} (h : iv_s σ) (hb : b = -1 ∨ rg b 0 2) (hn : rg n 0 40) : iv_s (pu_sh σ s b n) := by
  intro k hk
  rw [sh_61, sh_62]
  by_cases e : k = s
  · rw [if_pos e, if_pos e]; exact ⟨hb, hn⟩
  · rw [if_neg e, if_neg e]; exact h k hk
theorem so_of {b : Int32} (h : -1 ≤ b ∧ b ≤ 2) (hn : b ≠ -1) : rg b 0 2 := by
  refine rg_mk (by decide) ?_ h.2
  rw [Int32.le_iff_toInt_le] at h ⊢
  have e1 : (-1 : Int32).toInt = -1 := rfl
  have e0 : (0 : Int32).toInt = 0 := rfl
  have h2 : b.toInt ≠ -1 := fun e => hn (Int32.toInt.inj (by rw [e]; rfl))
  omega
section SHS
variable {d : Nat} {I : ma_I} {o : Nat} {Q : ma_Q} {σ : ma_I}
theorem xs_38 {s : Nat} {b n : Int32} (h : ∀ I', fr [12, 13] I I' → (∀ s' j, s' ≠ s → I' 12 s' j = I 12 s' j ∧ I' 13 s' j = I 13 s' j) → I' 12 s 0 = b → I' 12 s 1 = n → (∀ k, k < 40 → I' 13 s k = 0) → Q none I' o) : Exm d 38 [.inr (.inr (12, s)), .inl b, .inl n] I o Q := by
  refine e_38 ?_
  have key := lp_up (P := fun k => ∀ I', fr [12, 13] I I' → (∀ s' j, s' ≠ s → I' 12 s' j = I 12 s' j ∧ I' 13 s' j = I 13 s' j) → I' 12 s 0 = b → I' 12 s 1 = n → (∀ j, j < k → I' 13 s j = 0) → Ex d 38 (12, [vR 12 s, vI b, vI n, vI (Int32.ofNat k)], [], ma_mem I' o, 0, 0) (ma_end Q)) 40 ?_ ?_
  · refine key 0 (by omega) _ (fr_upg (fr_upg (fr_refl _ _) (by decide) (by decide) (by decide)) (by decide) (by decide) (by decide)) (fun s' j hs => ⟨?_, ?_⟩) ?_ xv_us (fun j hj => by omega)
    · rw [up_ne (fun e => hs e.2.1), up_ne (fun e => hs e.2.1)]
    · rw [up_g (by decide), up_g (by decide)]
    · rw [up_j (by decide), xv_us]
  · intro I' h1 h2 h3 h4 h5
    exact b_38_12 ⟨fun _ => h I' h1 h2 h3 h4 h5, fun c => absurd c (by decide)⟩
  · intro k hk ih I' h1 h2 h3 h4 h5
    refine b_38_12 ⟨fun c => ?_, fun _ => ⟨in_in (by omega) (by omega), ?_⟩⟩
    · have := (in_le (a := 40) (by decide) (by omega)).mp c
      omega
    · rw [in_a1, in_cl (by omega)]
      refine ih _ (fr_upg h1 (by decide) (by decide) (by decide)) (fun s' j hs => ⟨?_, ?_⟩) (by rw [up_g (by decide)]; exact h3) (by rw [up_g (by decide)]; exact h4) (fun j hj => ?_)
      · rw [up_g (by decide)]; exact (h2 s' j hs).1
      · rw [up_ne (fun e => hs e.2.1)]; exact (h2 s' j hs).2
      · by_cases e : j = k
        · subst e; exact xv_us
        · rw [up_j e]; exact h5 j (by omega)
theorem rs_sh {s : Nat} {b n : Int32} {K : ma_I} (hs : s < 4) (hS : rx_s σ (sv I)) (h2 : ∀ s' j, s' ≠ s → K 12 s' j = I 12 s' j ∧ K 13 s' j = I 13 s' j) (h3 : K 12 s 0 = b) (h4 : K 12 s 1 = n) (h5 : ∀ k, k < 40 → K 13 s k = 0) : rx_s (pu_sh σ s b n) (sv K) := by
  intro s' hs'
  rw [sv_12, sv_12, sh_61, sh_62]
  by_cases e : s' = s
  · subst e
    rw [if_pos rfl, if_pos rfl]
    refine ⟨h3, h4, fun k hk => ?_⟩
    rw [sv_13, sh_63, if_pos ⟨by omega, by omega⟩]
    exact h5 k hk
  · rw [if_neg e, if_neg e, (h2 s' 0 e).1, (h2 s' 1 e).1]
    obtain ⟨q1, q2, q3⟩ := hS s' hs'
    rw [sv_12] at q1 q2
    refine ⟨q1, q2, fun k hk => ?_⟩
    rw [sv_13, sh_63, if_neg (by omega), (h2 s' k e).2]
    have := q3 k hk
    rw [sv_13] at this
    exact this
theorem xs_106 {a b c : Int32} (hS : rx_s σ (sv I)) (h : ∀ I', fr [12, 13] I I' → rx_s (st_sheet σ a b c) (sv I') → Q (some (.inl (an_sheet a b c))) I' o) : Exm (d + 2) 106 [.inr (.inr (5, 0)), .inl a, .inl b, .inl c] I o Q := by
  have hno : ∀ x, an_sheet a b c = x → ¬((0 ≤ a ∧ a ≤ 3) ∧ (-1 ≤ b ∧ b ≤ 2) ∧ (b = -1 ∨ (c ≤ 40 ∧ 0 ≤ c))) → Q (some (.inl x)) I o := by
    intro x hx hc
    have := h I (fr_refl _ _) (by unfold st_sheet; rw [if_neg hc]; exact hS)
    rw [hx] at this
    exact this
  have hyes : (0 ≤ a ∧ a ≤ 3) → (-1 ≤ b ∧ b ≤ 2) → (b = -1 ∨ (c ≤ 40 ∧ 0 ≤ c)) → ∀ n, n = (if b = -1 then 0 else c) → ma_in a 4 ∧ Exm (d + 1) 38 [.inr (.inr (12, a.toNatClampNeg)), .inl b, .inl n] I o (fun r J1 p2 => r = none ∧ Q (some (.inl 1)) J1 p2) := by
    intro ca cb cc n hn
    have hst : st_sheet σ a b c = pu_sh σ a.toNatClampNeg b n := by unfold st_sheet; rw [if_pos ⟨ca, cb, cc⟩, hn]
    have han : an_sheet a b c = 1 := by
      unfold an_sheet
      rw [if_pos ca, if_pos cb]
      by_cases e : b = -1
      · rw [if_pos e]
      · rcases cc with q | q
        · exact absurd q e
        · rw [if_neg e, if_neg (Int32.not_lt.mpr q.1), if_neg (Int32.not_lt.mpr q.2)]
    obtain ⟨s, hs, e⟩ := sh_of ca
    subst e
    rw [hst, han, in_cl (by omega)] at h
    rw [in_cl (by omega)]
    exact ⟨in_in (by omega) (by omega), xs_38 (fun I' h1 h2 h3 h4 h5 => ⟨rfl, h I' h1 (rs_sh hs hS h2 h3 h4 h5)⟩)⟩
  refine e_106 ⟨fun ca => hno _ (if_neg ca) (fun q => ca q.1), fun ca => ⟨fun cb => ⟨fun c1 => ⟨fun c2 => ⟨fun c3 => hyes ca cb (Or.inr ⟨c2, c3⟩) c (if_neg c1).symm, fun c3 => hno _ ?_ (fun q => ?_)⟩, fun c2 => hno _ ?_ (fun q => ?_)⟩, fun c1 => ?_⟩, fun cb => hno _ (by unfold an_sheet; rw [if_pos ca, if_neg cb]) (fun q => cb q.2.1)⟩⟩
  · unfold an_sheet; rw [if_pos ca, if_pos cb, if_neg c1, if_neg (Int32.not_lt.mpr c2), if_pos c3]
  · rcases q.2.2 with q | q
    · exact c1 q
    · exact Int32.not_lt.mpr q.2 c3
  · unfold an_sheet; rw [if_pos ca, if_pos cb, if_neg c1, if_pos c2]
  · rcases q.2.2 with q | q
    · exact c1 q
    · exact Int32.not_lt.mpr q.1 c2
  · have := hyes ca cb (Or.inl c1) 0 (if_pos c1).symm
    rw [c1] at this
    exact this
/-- all items of a sheet are 0 -/
theorem mo_179z {s : Nat} {b c : Int32} {J : ma_I} (hs : s < 4) (h : Q (some (.inl 1)) (fun g i j => if g = 63 ∧ i = 0 ∧ 40 * s ≤ j ∧ j < 40 * s + 40 then 0 else J g i j) o) : Ex (d + 2) 179 (65, [vR 40 0, vI (Int32.ofNat s), vI b, vI c, vI 0], [], ma_mem J o, 0, 0) (ma_end Q) := by
  have key := lp_up (P := fun k => Ex (d + 2) 179 (65, [vR 40 0, vI (Int32.ofNat s), vI b, vI c, vI (Int32.ofNat k)], [], ma_mem (fun g i j => if g = 63 ∧ i = 0 ∧ 40 * s ≤ j ∧ j < 40 * s + k then 0 else J g i j) o, 0, 0) (ma_end Q)) 40 ?_ ?_
  · have := key 0 (by omega)
    have e : (fun g i j => if g = 63 ∧ i = 0 ∧ 40 * s ≤ j ∧ j < 40 * s + 0 then 0 else J g i j) = J := by
      funext g i j
      rw [if_neg (by omega)]
    rw [e] at this
    exact this
  · exact b_179_65 ⟨fun _ => h, fun c => absurd c (by decide)⟩
  · intro k hk ih
    have ei : (40 : Int32) * Int32.ofNat s + Int32.ofNat k = Int32.ofNat (40 * s + k) := in_ma 40 s k
    refine b_179_65 ⟨fun c => ?_, fun _ => ?_⟩
    · have := (in_le (a := 40) (by decide) (by omega)).mp c
      omega
    · rw [ei, in_cl (by omega), in_a1]
      refine ⟨in_in (by omega) (by omega), ?_⟩
      have e : ma_up (fun g i j => if g = 63 ∧ i = 0 ∧ 40 * s ≤ j ∧ j < 40 * s + k then 0 else J g i j) 63 0 (40 * s + k) 0 = (fun g i j => if g = 63 ∧ i = 0 ∧ 40 * s ≤ j ∧ j < 40 * s + (k + 1) then 0 else J g i j) := by
        funext g i j
        by_cases e : g = 63 ∧ i = 0 ∧ j = 40 * s + k
        · obtain ⟨e1, e2, e3⟩ := e
          subst e1; subst e2; subst e3
          rw [xv_us, if_pos ⟨rfl, rfl, by omega, by omega⟩]
        · rw [up_ne e]
          by_cases e2 : g = 63 ∧ i = 0 ∧ 40 * s ≤ j ∧ j < 40 * s + k
          · rw [if_pos e2, if_pos ⟨e2.1, e2.2.1, e2.2.2.1, by omega⟩]
          · rw [if_neg e2, if_neg (fun q => e2 ⟨q.1, q.2.1, q.2.2.1, by
              have : j ≠ 40 * s + k := fun hh => e ⟨q.1, q.2.1, hh⟩
              omega⟩)]
      rw [e]
      exact ih
theorem mo_179s {s : Nat} {b n : Int32} {K : ma_I} : mv (fun g i j => if g = 63 ∧ i = 0 ∧ 40 * s ≤ j ∧ j < 40 * s + 40 then 0 else ma_up (ma_up K 61 0 s b) 62 0 s n g i j) = pu_sh (mv K) s b n := by
  have e1 : ma_up (ma_up (mv K) 61 0 s b) 62 0 s n = mv (ma_up (ma_up K 61 0 s b) 62 0 s n) := by
    rw [mv_up (by omega) (by rw [cl_g (by decide) (by decide)]; decide), mv_up (by omega) (by rw [cl_g (by decide) (by decide)]; decide)]
  unfold pu_sh
  rw [e1]
  funext g i j
  unfold mv sv
  by_cases e : g = 63 ∧ i = 0 ∧ 40 * s ≤ j ∧ j < 40 * s + 40
  · rw [if_pos e]
    obtain ⟨q1, q2, q3, q4⟩ := e
    subst q1
    rw [if_neg (by decide), if_neg (by rw [cl_g (by decide) (by decide)]; decide)]
    exact if_pos ⟨rfl, q2, q3, q4⟩
  · simp only [if_neg e]
theorem mo_179 {a b c : Int32} (h : ∀ I', fr [61, 62, 63] I I' → mv I' = st_sheet (mv I) a b c → Q (some (.inl (an_sheet a b c))) I' o) : Exm (d + 2) 179 [.inr (.inr (40, 0)), .inl a, .inl b, .inl c] I o Q := by
  have hno : ∀ x, an_sheet a b c = x → ¬((0 ≤ a ∧ a ≤ 3) ∧ (-1 ≤ b ∧ b ≤ 2) ∧ (b = -1 ∨ (c ≤ 40 ∧ 0 ≤ c))) → Q (some (.inl x)) I o := by
    intro x hx hc
    have := h I (fr_refl _ _) (if_neg hc).symm
    rw [hx] at this
    exact this
  have hyes : (0 ≤ a ∧ a ≤ 3) → (-1 ≤ b ∧ b ≤ 2) → (b = -1 ∨ (c ≤ 40 ∧ 0 ≤ c)) → Ex (d + 2) 179 (40, [vR 40 0, vI a, vI b, vI c, none], [], ma_mem I o, 0, 0) (ma_end Q) := by
    intro ca cb cc
    have han : an_sheet a b c = 1 := by
      unfold an_sheet
      rw [if_pos ca, if_pos cb]
      by_cases e : b = -1
      · rw [if_pos e]
      · rcases cc with q | q
        · exact absurd q e
        · rw [if_neg e, if_neg (Int32.not_lt.mpr q.1), if_neg (Int32.not_lt.mpr q.2)]
    rw [han] at h
    have hst : st_sheet (mv I) a b c = pu_sh (mv I) a.toNatClampNeg b (if b = -1 then 0 else c) := if_pos ⟨ca, cb, cc⟩
    rw [hst] at h
    obtain ⟨s, hs, e⟩ := sh_of ca
    subst e
    rw [in_cl (by omega)] at h
    have hfr : ∀ n : Int32, fr [61, 62, 63] I (fun g i j => if g = 63 ∧ i = 0 ∧ 40 * s ≤ j ∧ j < 40 * s + 40 then 0 else ma_up (ma_up I 61 0 s b) 62 0 s n g i j) := by
      intro n g i j hc
      have n1 : g ≠ 63 := fun e => hc (by rw [e, cl_g (by decide) (by decide)]; decide)
      have n2 : g ≠ 62 := fun e => hc (by rw [e, cl_g (by decide) (by decide)]; decide)
      have n3 : g ≠ 61 := fun e => hc (by rw [e, cl_g (by decide) (by decide)]; decide)
      show (if g = 63 ∧ i = 0 ∧ 40 * s ≤ j ∧ j < 40 * s + 40 then 0 else ma_up (ma_up I 61 0 s b) 62 0 s n g i j) = _
      rw [if_neg (fun q => n1 q.1), up_g n2, up_g n3]
    have hin : ma_in (Int32.ofNat s) 4 := in_in (by omega) (by omega)
    refine b_179_40 ?_
    rw [in_cl (by omega)]
    refine ⟨hin, fun c1 => ⟨hin, mo_179z hs (h _ (hfr c) ?_)⟩, fun c1 => ⟨hin, mo_179z hs (h _ (hfr 0) ?_)⟩⟩
    · rw [mo_179s, if_neg (fun e => by rw [e] at c1; exact absurd c1 (by decide))]
    · have hb : b = -1 := by
        by_cases e : b = -1
        · exact e
        · exact absurd c1 (Int32.not_lt.mpr (rg_lo (by decide) (so_of cb e)))
      rw [mo_179s, if_pos hb]
  refine e_179 ⟨fun ca => hno _ (if_neg ca) (fun q => ca q.1), fun ca => ⟨fun cb => hno _ (by unfold an_sheet; rw [if_pos ca, if_neg cb]) (fun q => cb q.2.1), fun cb => ⟨fun c1 => ⟨fun _ => hyes ca cb (Or.inl ?_), fun q => absurd c1 (Int32.not_lt.mpr q)⟩, fun c1 => ⟨fun c2 => ⟨fun q => absurd c1 (Int32.not_le.mpr q), fun _ => ⟨fun c3 => hyes ca cb (Or.inr ⟨c2, c3⟩), fun c3 => hno _ ?_ (fun q => ?_)⟩⟩, fun c2 => hno _ ?_ (fun q => ?_)⟩⟩⟩⟩
  · by_cases e : b = -1
    · exact e
    · exact absurd c1 (Int32.not_lt.mpr (rg_lo (by decide) (so_of cb e)))
  · have hb : b ≠ -1 := fun e => by rw [e] at c1; exact absurd c1 (by decide)
    unfold an_sheet; rw [if_pos ca, if_pos cb, if_neg hb, if_neg (Int32.not_lt.mpr c2), if_pos c3]
  · rcases q.2.2 with q | q
    · rw [q] at c1; exact absurd c1 (by decide)
    · exact Int32.not_lt.mpr q.2 c3
  · have hb : b ≠ -1 := fun e => by rw [e] at c1; exact absurd c1 (by decide)
    unfold an_sheet; rw [if_pos ca, if_pos cb, if_neg hb, if_pos c2]
  · rcases q.2.2 with q | q
    · rw [q] at c1; exact absurd c1 (by decide)
    · exact Int32.not_lt.mpr q.1 c2
/-! cell -/
def pu_pt (so v : Int32) : Int32 := if so = 0 then (Int32.toInt8 v).toInt32 else if so = 1 then (Int32.toInt16 v).toInt32 else v
def an_cell (σ : ma_I) (a b : Int32) : Int32 := if 0 ≤ a ∧ a ≤ 3 then if σ 61 0 a.toNatClampNeg = -1 then -11 else if 0 ≤ b ∧ b ≤ σ 62 0 a.toNatClampNeg - 1 then 1 else -12 else -2
def st_cell (σ : ma_I) (a b c : Int32) : ma_I := if (0 ≤ a ∧ a ≤ 3) ∧ σ 61 0 a.toNatClampNeg ≠ -1 ∧ (0 ≤ b ∧ b ≤ σ 62 0 a.toNatClampNeg - 1) then ma_up σ 63 0 (40 * a.toNatClampNeg + b.toNatClampNeg) (pu_pt (σ 61 0 a.toNatClampNeg) c) else σ
theorem xs_39 {s k : Nat} {c so : Int32} (hk : k < 40) (e12 : I 12 s 0 = so) (h : Q none (ma_up I 13 s k (pu_pt so c)) o) : Exm d 39 [.inr (.inr (12, s)), .inl (Int32.ofNat k), .inl c] I o Q := by
  have hin : ma_in (Int32.ofNat k) 40 := in_in (by omega) (by omega)
  unfold pu_pt at h
  refine e_39 ?_
  rw [e12, in_cl (by omega)]
  refine ⟨fun n0 => ⟨fun n1 => ?_, fun e => ?_⟩, fun e => ?_⟩
  · rw [if_neg n0, if_neg n1] at h; exact ⟨hin, h⟩
  · rw [if_neg n0, if_pos e] at h; exact ⟨hin, h⟩
  · rw [if_pos e] at h; exact ⟨hin, h⟩
theorem rs_up {s k : Nat} {v : Int32} {J : ma_I} (hs : s < 4) (hk : k < 40) (hS : rx_s σ (sv J)) : rx_s (ma_up σ 63 0 (40 * s + k) v) (sv (ma_up J 13 s k v)) := by
  intro s' hs'
  obtain ⟨q1, q2, q3⟩ := hS s' hs'
  rw [sv_12] at q1 q2
  rw [sv_12, sv_12, up_g (by decide), up_g (by decide), up_g (by decide), up_g (by decide)]
  refine ⟨q1, q2, fun j hj => ?_⟩
  have := q3 j hj
  rw [sv_13] at this
  rw [sv_13]
  by_cases e : s' = s ∧ j = k
  · obtain ⟨e1, e2⟩ := e
    subst e1; subst e2
    rw [xv_us, xv_us]
  · rw [up_ne (fun q => e ⟨q.2.1, q.2.2⟩), up_j (by omega)]
    exact this
theorem xs_107 {a b c : Int32} (hiv : iv_s σ) (hS : rx_s σ (sv I)) (h : ∀ I', fr [12, 13] I I' → rx_s (st_cell σ a b c) (sv I') → Q (some (.inl (an_cell σ a b))) I' o) : Exm (d + 2) 107 [.inr (.inr (5, 0)), .inl a, .inl b, .inl c] I o Q := by
  have hno : ∀ x, an_cell σ a b = x → ¬((0 ≤ a ∧ a ≤ 3) ∧ σ 61 0 a.toNatClampNeg ≠ -1 ∧ (0 ≤ b ∧ b ≤ σ 62 0 a.toNatClampNeg - 1)) → Q (some (.inl x)) I o := by
    intro x hx hc
    have := h I (fr_refl _ _) (by unfold st_cell; rw [if_neg hc]; exact hS)
    rw [hx] at this
    exact this
  refine e_107 ⟨fun ca => ?_, fun ca => hno _ (if_neg ca) (fun q => ca q.1)⟩
  obtain ⟨s, hs, e⟩ := sh_of ca
  have hck : a.toNatClampNeg = s := by rw [e, in_cl (by omega)]
  obtain ⟨q1, q2, q3⟩ := hS s hs
  rw [sv_12] at q1 q2
  rw [hck] at hno ⊢
  rw [q1, q2]
  refine ⟨by rw [e]; exact in_in (by omega) (by omega), fun c1 => ⟨fun c2 => ?_, fun c2 => hno _ (by unfold an_cell; rw [if_pos ca, hck, if_neg c1, if_neg c2]) (fun q => c2 q.2.2)⟩, fun c1 => hno _ (by unfold an_cell; rw [if_pos ca, hck, if_pos c1]) (fun q => q.2.1 c1)⟩
  have hst : st_cell σ a b c = ma_up σ 63 0 (40 * s + b.toNatClampNeg) (pu_pt (σ 61 0 s) c) := by unfold st_cell; rw [hck, if_pos ⟨ca, c1, c2⟩]
  have han : an_cell σ a b = 1 := by unfold an_cell; rw [if_pos ca, hck, if_neg c1, if_pos c2]
  rw [hst, han] at h
  obtain ⟨-, ⟨n, hn, -, hn40⟩⟩ := hiv s hs
  rw [hn] at c2
  obtain ⟨k, hk, ek⟩ := or_of (by omega) c2
  rw [ek, in_cl (by omega)] at h
  rw [ek]
  exact xs_39 (by omega) q1 ⟨rfl, h _ (fr_upg (fr_refl _ _) (by decide) (by decide) (by decide)) (rs_up hs (by omega) hS)⟩
theorem mo_180 {a b c : Int32} (hiv : iv_s (mv I)) (h : ∀ I', fr [63] I I' → mv I' = st_cell (mv I) a b c → Q (some (.inl (an_cell (mv I) a b))) I' o) : Exm (d + 2) 180 [.inr (.inr (40, 0)), .inl a, .inl b, .inl c] I o Q := by
  have hno : ∀ x, an_cell (mv I) a b = x → ¬((0 ≤ a ∧ a ≤ 3) ∧ mv I 61 0 a.toNatClampNeg ≠ -1 ∧ (0 ≤ b ∧ b ≤ mv I 62 0 a.toNatClampNeg - 1)) → Q (some (.inl x)) I o := by
    intro x hx hc
    have := h I (fr_refl _ _) (if_neg hc).symm
    rw [hx] at this
    exact this
  refine e_180 ⟨fun ca => ?_, fun ca => hno _ (if_neg ca) (fun q => ca q.1)⟩
  obtain ⟨s, hs, e⟩ := sh_of ca
  have hck : a.toNatClampNeg = s := by rw [e, in_cl (by omega)]
  obtain ⟨hso, ⟨n, hn, -, hn40⟩⟩ := hiv s hs
  have e61 : I 61 0 s = mv I 61 0 s := (mv_61 I 0 s).symm
  have e62 : I 62 0 s = mv I 62 0 s := (mv_62 I 0 s).symm
  have hin : ma_in a 4 := by rw [e]; exact in_in (by omega) (by omega)
  rw [hck] at hno ⊢
  rw [e61, e62]
  refine ⟨hin, fun c1 => ⟨hin, fun c2 => ?_, fun c2 => hno _ ?_ (fun q => c2 q.2.2)⟩, fun c1 => hno _ ?_ (fun q => q.2.1 ?_)⟩
  · have n1 : mv I 61 0 s ≠ -1 := fun q => by rw [q] at c1; exact absurd c1 (by decide)
    have hst : st_cell (mv I) a b c = ma_up (mv I) 63 0 (40 * s + b.toNatClampNeg) (pu_pt (mv I 61 0 s) c) := by unfold st_cell; rw [hck, if_pos ⟨ca, n1, c2⟩]
    have han : an_cell (mv I) a b = 1 := by unfold an_cell; rw [if_pos ca, hck, if_neg n1, if_pos c2]
    rw [hst, han] at h
    rw [hn] at c2
    obtain ⟨k, hk, ek⟩ := or_of (by omega) c2
    have ei : (40 : Int32) * Int32.ofNat s + Int32.ofNat k = Int32.ofNat (40 * s + k) := in_ma 40 s k
    have hin2 : ma_in (Int32.ofNat (40 * s + k)) 160 := in_in (by omega) (by omega)
    rw [ek, in_cl (by omega)] at h
    rw [e, ek, ei, in_cl (by omega)]
    have h' := h (ma_up I 63 0 (40 * s + k) (pu_pt (mv I 61 0 s) c)) (fr_upg (fr_refl _ _) (by decide) (by decide) (by decide)) (mv_up (by omega) (by rw [cl_g (by decide) (by decide)]; decide))
    unfold pu_pt at h'
    rw [e] at hin
    refine ⟨hin, fun n0 => ⟨hin, fun n2 => ⟨hin2, ?_⟩, fun e1 => ⟨hin2, ?_⟩⟩, fun e0 => ⟨hin2, ?_⟩⟩
    · rw [if_neg n0, if_neg n2] at h'; exact h'
    · rw [if_neg n0, if_pos e1] at h'; exact h'
    · rw [if_pos e0] at h'; exact h'
  · have n1 : mv I 61 0 s ≠ -1 := fun q => by rw [q] at c1; exact absurd c1 (by decide)
    unfold an_cell; rw [if_pos ca, hck, if_neg n1, if_neg c2]
  · have hm : mv I 61 0 s = -1 := by
      rcases hso with w | w
      · exact w
      · exact absurd c1 (Int32.not_lt.mpr (rg_lo (by decide) w))
    unfold an_cell; rw [if_pos ca, hck, if_pos hm]
  · rcases hso with w | w
    · exact w
    · exact absurd c1 (Int32.not_lt.mpr (rg_lo (by decide) w))
end SHS

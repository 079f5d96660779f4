/-! ===== copy, film ===== -/
def pu_cy (σ : ma_I) (s i o j n : Nat) : ma_I := fun g x y => if g = 63 ∧ x = 0 ∧ 40 * o + j ≤ y ∧ y < 40 * o + j + n then σ 63 0 (40 * s + i + (y - (40 * o + j))) else σ g x y
def an_copy (σ : ma_I) (a i b j n : Int32) : Int32 := if 0 ≤ a ∧ a ≤ 3 then if 0 ≤ b ∧ b ≤ 3 then if σ 61 0 a.toNatClampNeg = -1 ∨ σ 61 0 b.toNatClampNeg = -1 then -11 else if σ 61 0 a.toNatClampNeg ≠ σ 61 0 b.toNatClampNeg then -13 else if xv_ho (σ 62 0 a.toNatClampNeg) i n ∧ xv_ho (σ 62 0 b.toNatClampNeg) j n then n else -12 else -2 else -2
def st_copy (σ : ma_I) (a i b j n : Int32) : ma_I := if (0 ≤ a ∧ a ≤ 3) ∧ (0 ≤ b ∧ b ≤ 3) ∧ ¬(σ 61 0 a.toNatClampNeg = -1 ∨ σ 61 0 b.toNatClampNeg = -1) ∧ σ 61 0 a.toNatClampNeg = σ 61 0 b.toNatClampNeg ∧ xv_ho (σ 62 0 a.toNatClampNeg) i n ∧ xv_ho (σ 62 0 b.toNatClampNeg) j n then pu_cy σ a.toNatClampNeg i.toNatClampNeg b.toNatClampNeg j.toNatClampNeg n.toNatClampNeg else σ
theorem ho_nat {m : Nat} {i n : Int32} (hm : m ≤ 40) (h : xv_ho (Int32.ofNat m) i n) : ∃ i' n', i = Int32.ofNat i' ∧ n = Int32.ofNat n' ∧ i' + n' ≤ m := by
  obtain ⟨h1, h2, h3, h4⟩ := h
  obtain ⟨i', hi', e1⟩ := in_ub (by omega) h1 h3
  subst e1
  rw [← Int32.ofNat_sub _ _ hi'] at h4
  obtain ⟨n', hn', e2⟩ := in_ub (by omega) h2 h4
  exact ⟨i', n', rfl, e2, by omega⟩
theorem ho_of_mo {m : Nat} {i n : Int32} (hm : m ≤ 40) (h1 : 0 ≤ i) (h2 : 0 ≤ n) (h3 : n ≤ Int32.ofNat m - i) : xv_ho (Int32.ofNat m) i n := by
  refine ⟨h1, h2, ?_, h3⟩
  have h4 := Int32.le_trans h2 h3
  rw [Int32.le_iff_toInt_le] at h1 h4 ⊢
  have e0 : (0 : Int32).toInt = 0 := rfl
  have hi := Int32.toInt_lt i
  rw [Int32.toInt_sub, in_ti (by omega), Int.bmod_eq_of_le (by omega) (by omega)] at h4
  rw [in_ti (by omega)]
  omega
theorem cy_iv {σ : ma_I} {s i o j n : Nat} (h : iv_s σ) : iv_s (pu_cy σ s i o j n) := by
  intro k hk
  have e1 : pu_cy σ s i o j n 61 0 k = σ 61 0 k := if_neg (fun q => absurd q.1 (by decide))
  have e2 : pu_cy σ s i o j n 62 0 k = σ 62 0 k := if_neg (fun q => absurd q.1 (by decide))
  rw [e1, e2]
  exact h k hk
section CPY
variable {d : Nat} {I : ma_I} {o : Nat} {Q : ma_Q} {σ : ma_I}
theorem xs_108 {a i b j n : Int32} (hiv : iv_s σ) (hS : rx_s σ (sv I)) (h : ∀ I', fr [12, 13] I I' → rx_s (st_copy σ a i b j n) (sv I') → Q (some (.inl (an_copy σ a i b j n))) I' o) : Exm (d + 2) 108 [.inr (.inr (5, 0)), .inl a, .inl i, .inl b, .inl j, .inl n] I o Q := by
  have hno : ∀ x, an_copy σ a i b j n = x → ¬((0 ≤ a ∧ a ≤ 3) ∧ (0 ≤ b ∧ b ≤ 3) ∧ ¬(σ 61 0 a.toNatClampNeg = -1 ∨ σ 61 0 b.toNatClampNeg = -1) ∧ σ 61 0 a.toNatClampNeg = σ 61 0 b.toNatClampNeg ∧ xv_ho (σ 62 0 a.toNatClampNeg) i n ∧ xv_ho (σ 62 0 b.toNatClampNeg) j n) → Q (some (.inl x)) I o := by
    intro x hx hc
    have := h I (fr_refl _ _) (by unfold st_copy; rw [if_neg hc]; exact hS)
    rw [hx] at this
    exact this
  refine e_108 ⟨fun ca => hno _ (if_neg ca) (fun q => ca q.1), fun ca => ⟨fun cb => ?_, fun cb => hno _ (by unfold an_copy; rw [if_pos ca, if_neg cb]) (fun q => cb q.2.1)⟩⟩
  obtain ⟨s, hs, ea⟩ := sh_of ca
  obtain ⟨t, ht, eb⟩ := sh_of cb
  have hca : a.toNatClampNeg = s := by rw [ea, in_cl (by omega)]
  have hcb : b.toNatClampNeg = t := by rw [eb, in_cl (by omega)]
  obtain ⟨q1, q2, q3⟩ := hS s hs
  obtain ⟨p1, p2, p3⟩ := hS t ht
  rw [sv_12] at q1 q2 p1 p2
  rw [hca, hcb] at hno ⊢
  rw [q1, q2, p1, p2]
  refine ⟨by rw [ea]; exact in_in (by omega) (by omega), by rw [eb]; exact in_in (by omega) (by omega), fun c1 => hno _ ?_ (fun q => q.2.2.1 (Or.inl c1)), fun c1 => ⟨fun c2 => ⟨fun c3 => ⟨fun c4 => hno _ ?_ (fun q => c4 q.2.2.2.2.1), fun c4 => ⟨fun c5 => ?_, fun c5 => hno _ ?_ (fun q => c5 q.2.2.2.2.2)⟩⟩, fun c3 => hno _ ?_ (fun q => c3 q.2.2.2.1)⟩, fun c2 => hno _ ?_ (fun q => q.2.2.1 (Or.inr c2))⟩⟩
  · unfold an_copy; rw [if_pos ca, if_pos cb, hca, hcb, if_pos (Or.inl c1)]
  · unfold an_copy; rw [if_pos ca, if_pos cb, hca, hcb, if_neg (by rintro (q | q); exact c1 q; exact c2 q), if_neg (fun q => q c3), if_neg (fun q => c4 q.1)]
  · have hst : st_copy σ a i b j n = pu_cy σ s i.toNatClampNeg t j.toNatClampNeg n.toNatClampNeg := by unfold st_copy; rw [hca, hcb, if_pos ⟨ca, cb, by rintro (q | q); exact c1 q; exact c2 q, c3, c4, c5⟩]
    have han : an_copy σ a i b j n = n := by unfold an_copy; rw [if_pos ca, if_pos cb, hca, hcb, if_neg (by rintro (q | q); exact c1 q; exact c2 q), if_neg (fun q => q c3), if_pos ⟨c4, c5⟩]
    rw [hst, han] at h
    obtain ⟨-, ⟨ms, hms, -, hms40⟩⟩ := hiv s hs
    obtain ⟨-, ⟨mt, hmt, -, hmt40⟩⟩ := hiv t ht
    rw [hms] at c4
    rw [hmt] at c5
    obtain ⟨i', n', ei, en, hin⟩ := ho_nat hms40 c4
    obtain ⟨j', n2, ej, en2, hjn⟩ := ho_nat hmt40 c5
    have : n2 = n' := by rw [en, in_eq (by omega) (by omega)] at en2; exact en2.symm
    subst this
    subst ei
    subst ej
    subst en
    rw [in_cl (by omega), in_cl (by omega), in_cl (by omega)] at h ⊢
    refine ⟨⟨in_ge0 (by omega), in_ge0 (by omega), in_ge0 (by omega), by rw [in_cl (by omega), in_cl (by omega)]; omega, by rw [in_cl (by omega), in_cl (by omega)]; omega⟩, ?_⟩
    refine h _ ?_ ?_
    · intro g x y hc
      have n13 : g ≠ 13 := fun e => hc (by rw [e, cl_g (by decide) (by decide)]; decide)
      exact if_neg n13
    · intro u hu
      obtain ⟨w1, w2, w3⟩ := hS u hu
      rw [sv_12] at w1 w2
      have e1 : pu_cy σ s i' t j' n2 61 0 u = σ 61 0 u := if_neg (fun q => absurd q.1 (by decide))
      have e2 : pu_cy σ s i' t j' n2 62 0 u = σ 62 0 u := if_neg (fun q => absurd q.1 (by decide))
      rw [sv_12, sv_12, e1, e2]
      refine ⟨w1, w2, fun k hk => ?_⟩
      have w3k := w3 k hk
      rw [sv_13] at w3k
      rw [sv_13]
      show (if 13 = 13 then if u = t then if j' ≤ k ∧ k < j' + n2 then I 13 s (i' + (k - j')) else I 13 u k else I 13 u k else I 13 u k) = (if 63 = 63 ∧ 0 = 0 ∧ 40 * t + j' ≤ 40 * u + k ∧ 40 * u + k < 40 * t + j' + n2 then σ 63 0 (40 * s + i' + (40 * u + k - (40 * t + j'))) else σ 63 0 (40 * u + k))
      rw [if_pos rfl]
      by_cases e : u = t
      · subst e
        rw [if_pos rfl]
        by_cases e3 : j' ≤ k ∧ k < j' + n2
        · rw [if_pos e3, if_pos ⟨rfl, rfl, by omega, by omega⟩]
          have := q3 (i' + (k - j')) (by omega)
          rw [sv_13] at this
          rw [this]
          congr 1
          omega
        · rw [if_neg e3, if_neg (fun q => e3 ⟨by omega, by omega⟩)]
          exact w3k
      · rw [if_neg e, if_neg (fun q => by have := q.2.2; omega)]
        exact w3k
  · unfold an_copy; rw [if_pos ca, if_pos cb, hca, hcb, if_neg (by rintro (q | q); exact c1 q; exact c2 q), if_neg (fun q => q c3), if_neg (fun q => c5 q.2)]
  · unfold an_copy; rw [if_pos ca, if_pos cb, hca, hcb, if_neg (by rintro (q | q); exact c1 q; exact c2 q), if_pos c3]
  · unfold an_copy; rw [if_pos ca, if_pos cb, hca, hcb, if_pos (Or.inr c2)]
theorem mo_181 {a i b j n : Int32} (hiv : iv_s (mv I)) (h : ∀ I', fr [63, 64] I I' → mv I' = st_copy (mv I) a i b j n → Q (some (.inl (an_copy (mv I) a i b j n))) I' o) : Exm (d + 2) 181 [.inr (.inr (40, 0)), .inl a, .inl i, .inl b, .inl j, .inl n] I o Q := by
  have hno : ∀ x, an_copy (mv I) a i b j n = x → ¬((0 ≤ a ∧ a ≤ 3) ∧ (0 ≤ b ∧ b ≤ 3) ∧ ¬(mv I 61 0 a.toNatClampNeg = -1 ∨ mv I 61 0 b.toNatClampNeg = -1) ∧ mv I 61 0 a.toNatClampNeg = mv I 61 0 b.toNatClampNeg ∧ xv_ho (mv I 62 0 a.toNatClampNeg) i n ∧ xv_ho (mv I 62 0 b.toNatClampNeg) j n) → Q (some (.inl x)) I o := by
    intro x hx hc
    have := h I (fr_refl _ _) (if_neg hc).symm
    rw [hx] at this
    exact this
  refine e_181 ⟨fun ca => hno _ (if_neg ca) (fun q => ca q.1), fun ca => ⟨fun cb => ?_, fun cb => hno _ (by unfold an_copy; rw [if_pos ca, if_neg cb]) (fun q => cb q.2.1)⟩⟩
  obtain ⟨s, hs, ea⟩ := sh_of ca
  obtain ⟨t, ht, eb⟩ := sh_of cb
  have hca : a.toNatClampNeg = s := by rw [ea, in_cl (by omega)]
  have hcb : b.toNatClampNeg = t := by rw [eb, in_cl (by omega)]
  have hia : ma_in a 4 := by rw [ea]; exact in_in (by omega) (by omega)
  have hib : ma_in b 4 := by rw [eb]; exact in_in (by omega) (by omega)
  obtain ⟨so1, ⟨ms, hms, -, hms40⟩⟩ := hiv s hs
  obtain ⟨so2, ⟨mt, hmt, -, hmt40⟩⟩ := hiv t ht
  have neg1 : ∀ x : Int32, (x = -1 ∨ rg x 0 2) → (x < 0 ↔ x = -1) := by
    intro x hx
    constructor
    · intro hl
      rcases hx with w | w
      · exact w
      · exact absurd hl (Int32.not_lt.mpr (rg_lo (by decide) w))
    · intro e; rw [e]; decide
  rw [hca, hcb] at hno ⊢
  rw [← mv_61 I 0 s, ← mv_61 I 0 t, ← mv_62 I 0 s, ← mv_62 I 0 t]
  have hA : ∀ P : Prop, xv_ho (mv I 62 0 s) i n ∧ xv_ho (mv I 62 0 t) j n → P → P := fun _ _ p => p
  refine ⟨hia, fun c1 => hno _ ?_ (fun q => q.2.2.1 (Or.inl ((neg1 _ so1).mp c1))), fun c1 => ⟨hib, fun c2 => ⟨hia, hib, fun c3 => ?_, fun c3 => hno _ ?_ (fun q => c3 q.2.2.2.1)⟩, fun c2 => hno _ ?_ (fun q => q.2.2.1 (Or.inr ((neg1 _ so2).mp c2)))⟩⟩
  · unfold an_copy; rw [if_pos ca, if_pos cb, hca, hcb, if_pos (Or.inl ((neg1 _ so1).mp c1))]
  · have n1 : ¬(mv I 61 0 s = -1 ∨ mv I 61 0 t = -1) := by
      rintro (q | q)
      · rw [q] at c1; exact absurd c1 (by decide)
      · rw [q] at c2; exact absurd c2 (by decide)
    have hbad : ¬(xv_ho (mv I 62 0 s) i n ∧ xv_ho (mv I 62 0 t) j n) → Q (some (.inl (-12))) I o := fun hh => hno _ (by unfold an_copy; rw [if_pos ca, if_pos cb, hca, hcb, if_neg n1, if_neg (fun q => q c3), if_neg hh]) (fun q => hh q.2.2.2.2)
    refine ⟨fun c4 => hbad (fun q => Int32.not_lt.mpr q.1.2.1 c4), fun c4 => ⟨fun c5 => hbad (fun q => Int32.not_lt.mpr q.1.1 c5), fun c5 => ⟨fun c6 => hbad (fun q => Int32.not_lt.mpr q.2.1 c6), fun c6 => ⟨hia, fun c7 => hbad (fun q => Int32.not_lt.mpr q.1.2.2.2 c7), fun c7 => ⟨hib, fun c8 => ?_, fun c8 => hbad (fun q => Int32.not_lt.mpr q.2.2.2.2 c8)⟩⟩⟩⟩⟩
    have h1 : xv_ho (mv I 62 0 s) i n := by rw [hms] at c7 ⊢; exact ho_of_mo hms40 c5 c4 c7
    have h2 : xv_ho (mv I 62 0 t) j n := by rw [hmt] at c8 ⊢; exact ho_of_mo hmt40 c6 c4 c8
    have hst : st_copy (mv I) a i b j n = pu_cy (mv I) s i.toNatClampNeg t j.toNatClampNeg n.toNatClampNeg := by unfold st_copy; rw [hca, hcb, if_pos ⟨ca, cb, n1, c3, h1, h2⟩]
    have han : an_copy (mv I) a i b j n = n := by unfold an_copy; rw [if_pos ca, if_pos cb, hca, hcb, if_neg n1, if_neg (fun q => q c3), if_pos ⟨h1, h2⟩]
    rw [hst, han] at h
    rw [hms] at h1
    rw [hmt] at h2
    obtain ⟨i', n', ei, en, hin⟩ := ho_nat hms40 h1
    obtain ⟨j', n2, ej, en2, hjn⟩ := ho_nat hmt40 h2
    have : n2 = n' := by rw [en, in_eq (by omega) (by omega)] at en2; exact en2.symm
    subst this
    subst ei
    subst ej
    subst en
    subst ea
    subst eb
    rw [in_cl (by omega), in_cl (by omega), in_cl (by omega)] at h
    have key2 : ∀ K : ma_I, fr [63, 64] I K → (∀ k, k < n2 → K 64 0 k = mv I 63 0 (40 * s + i' + k)) → (∀ x y, K 63 x y = I 63 x y) → Ex (d + 2) 181 (140, [vR 40 0, vI (Int32.ofNat s), vI (Int32.ofNat i'), vI (Int32.ofNat t), vI (Int32.ofNat j'), vI (Int32.ofNat n2), vI 0], [], ma_mem K o, 0, 0) (ma_end Q) := by
      intro K hK hK64 hK63
      have key := lp_up (P := fun k => ∀ L : ma_I, fr [63, 64] I L → (∀ k, k < n2 → L 64 0 k = mv I 63 0 (40 * s + i' + k)) → (∀ x y, L 63 x y = if x = 0 ∧ 40 * t + j' ≤ y ∧ y < 40 * t + j' + k then mv I 63 0 (40 * s + i' + (y - (40 * t + j'))) else I 63 x y) → Ex (d + 2) 181 (140, [vR 40 0, vI (Int32.ofNat s), vI (Int32.ofNat i'), vI (Int32.ofNat t), vI (Int32.ofNat j'), vI (Int32.ofNat n2), vI (Int32.ofNat k)], [], ma_mem L o, 0, 0) (ma_end Q)) n2 ?_ ?_
      · refine key 0 (by omega) K hK hK64 (fun x y => ?_)
        rw [if_neg (by omega)]
        exact hK63 x y
      · intro L hL _ hL63
        refine b_181_140 ⟨fun _ => h L hL ?_, fun c => absurd c Int32.lt_irrefl⟩
        funext g x y
        by_cases eg : g = 63
        · subst eg
          rw [mv_63, hL63]
          show _ = (if 63 = 63 ∧ x = 0 ∧ 40 * t + j' ≤ y ∧ y < 40 * t + j' + n2 then mv I 63 0 (40 * s + i' + (y - (40 * t + j'))) else mv I 63 x y)
          rw [mv_63 I x y]
          by_cases e : x = 0 ∧ 40 * t + j' ≤ y ∧ y < 40 * t + j' + n2
          · rw [if_pos e, if_pos ⟨rfl, e⟩]
          · rw [if_neg e, if_neg (fun q => e q.2)]
        · have e1 : pu_cy (mv I) s i' t j' n2 g x y = mv I g x y := if_neg (fun q => eg q.1)
          rw [e1]
          unfold mv sv
          by_cases e40 : g < 40
          · rw [if_pos e40, if_pos e40]
          rw [if_neg e40, if_neg e40]
          by_cases ec : cl_c g y ∈ cl_s
          · rw [if_pos ec, if_pos ec]
          · rw [if_neg ec, if_neg ec]
            refine hL g x y (fun hh => ?_)
            simp only [List.mem_cons, List.not_mem_nil, or_false] at hh
            rcases hh with hh | hh
            · unfold cl_c at hh
              split at hh
              · omega
              · split at hh
                · omega
                · exact eg hh
            · exact ec (by rw [hh]; decide)
      · intro k hk ih L hL hL64 hL63
        have ei : (40 : Int32) * Int32.ofNat t + Int32.ofNat j' + Int32.ofNat k = Int32.ofNat (40 * t + j' + k) := by
          rw [show (40 : Int32) = Int32.ofNat 40 from rfl, in_ma, ← Int32.ofNat_add]
        refine b_181_140 ⟨fun c => ?_, fun _ => ?_⟩
        · have := (in_le (by omega) (by omega)).mp c
          omega
        · rw [ei, in_cl (by omega), in_cl (by omega), in_a1, hL64 k hk]
          refine ⟨in_in (by omega) (by omega), in_in (by omega) (by omega), ih _ (fr_upg hL (by decide) (by decide) (by decide)) (fun q hq => by rw [up_g (by decide)]; exact hL64 q hq) (fun x y => ?_)⟩
          by_cases e : x = 0 ∧ y = 40 * t + j' + k
          · obtain ⟨e1, e2⟩ := e
            subst e1; subst e2
            rw [xv_us, if_pos ⟨rfl, by omega, by omega⟩]
            congr 1
            omega
          · rw [up_ne (fun q => e ⟨q.2.1, q.2.2⟩), hL63]
            by_cases e2 : x = 0 ∧ 40 * t + j' ≤ y ∧ y < 40 * t + j' + k
            · rw [if_pos e2, if_pos ⟨e2.1, e2.2.1, by omega⟩]
            · rw [if_neg e2, if_neg (fun q => e2 ⟨q.1, q.2.1, by
                have : y ≠ 40 * t + j' + k := fun hh => e ⟨q.1, hh⟩
                omega⟩)]
    have key := lp_up (P := fun k => ∀ K : ma_I, fr [63, 64] I K → (∀ q, q < k → K 64 0 q = mv I 63 0 (40 * s + i' + q)) → (∀ x y, K 63 x y = I 63 x y) → Ex (d + 2) 181 (103, [vR 40 0, vI (Int32.ofNat s), vI (Int32.ofNat i'), vI (Int32.ofNat t), vI (Int32.ofNat j'), vI (Int32.ofNat n2), vI (Int32.ofNat k)], [], ma_mem K o, 0, 0) (ma_end Q)) n2 ?_ ?_
    · exact key 0 (by omega) I (fr_refl _ _) (fun q hq => by omega) (fun _ _ => rfl)
    · intro K hK hK64 hK63
      exact b_181_103 ⟨fun _ => key2 K hK hK64 hK63, fun c => absurd c Int32.lt_irrefl⟩
    · intro k hk ih K hK hK64 hK63
      have ei : (40 : Int32) * Int32.ofNat s + Int32.ofNat i' + Int32.ofNat k = Int32.ofNat (40 * s + i' + k) := by
        rw [show (40 : Int32) = Int32.ofNat 40 from rfl, in_ma, ← Int32.ofNat_add]
      refine b_181_103 ⟨fun c => ?_, fun _ => ?_⟩
      · have := (in_le (by omega) (by omega)).mp c
        omega
      · rw [ei, in_cl (by omega), in_cl (by omega), in_a1, hK63]
        refine ⟨in_in (by omega) (by omega), in_in (by omega) (by omega), ih _ (fr_upg hK (by decide) (by decide) (by decide)) (fun q hq => ?_) (fun x y => by rw [up_g (by decide)]; exact hK63 x y)⟩
        by_cases e : q = k
        · subst e; rw [xv_us, mv_63]
        · rw [up_j e]; exact hK64 q (by omega)
  · have n1 : ¬(mv I 61 0 s = -1 ∨ mv I 61 0 t = -1) := by
      rintro (q | q)
      · rw [q] at c1; exact absurd c1 (by decide)
      · rw [q] at c2; exact absurd c2 (by decide)
    unfold an_copy; rw [if_pos ca, if_pos cb, hca, hcb, if_neg n1, if_pos c3]
  · unfold an_copy; rw [if_pos ca, if_pos cb, hca, hcb, if_pos (Or.inr ((neg1 _ so2).mp c2))]
end CPY

/-! ===== orders ===== -/
def pu_og (s : Nat) : Nat → ma_I → Nat → Nat → Int32 × ma_I
  | 0, σ, _, came => (Int32.ofNat came, σ)
  | r + 1, σ, f, came => if f + 3 ≤ pu_sz σ s then pu_og s r (st_order σ (σ 63 0 (40 * s + f)) (σ 63 0 (40 * s + f + 1)) (σ 63 0 (40 * s + f + 2))) (f + 3) (if 0 ≤ an_order σ (σ 63 0 (40 * s + f)) (σ 63 0 (40 * s + f + 1)) (σ 63 0 (40 * s + f + 2)) then came + 1 else came) else (-12, σ)
def pu_fr (c : Int32) : Nat := if 0 ≤ c then c.toNatClampNeg else 1000
def pu_orc (σ : ma_I) (a b n : Int32) : Int32 := if 0 ≤ a ∧ a ≤ 3 then if 0 ≤ b ∧ b ≤ 2 then if 0 ≤ n ∧ n ≤ 8 then if σ 61 0 a.toNatClampNeg = -1 then -11 else if σ 61 0 a.toNatClampNeg = b then 0 else -13 else -2 else -2 else -2
def an_orders (σ : ma_I) (a b c n : Int32) : Int32 := if pu_orc σ a b n = 0 then (pu_og a.toNatClampNeg n.toNatClampNeg σ (pu_fr c) 0).1 else pu_orc σ a b n
def st_orders (σ : ma_I) (a b c n : Int32) : ma_I := if pu_orc σ a b n = 0 then (pu_og a.toNatClampNeg n.toNatClampNeg σ (pu_fr c) 0).2 else σ
theorem so_o {σ : ma_I} {a b c : Int32} {g i j : Nat} (h : g < 40 ∨ g = 41 ∨ g = 42 ∨ 48 < g ∨ (g = 40 ∧ j ≠ 4)) : st_order σ a b c g i j = σ g i j := by
  unfold st_order
  by_cases e : pu_okb a b c = true ∧ pu_no σ ≠ 8
  · rw [if_pos e]
    unfold pu_ad
    rw [up_ne (fun q => by omega), up_ne (fun q => by omega), up_ne (fun q => by omega), up_ne (fun q => by omega), up_ne (fun q => by omega), up_ne (fun q => by omega), up_ne (fun q => by omega)]
  · rw [if_neg e]
theorem so_s {σ : ma_I} {a b c : Int32} (h : iv_s σ) : iv_s (st_order σ a b c) := by
  intro k hk
  rw [so_o (by omega), so_o (by omega)]
  exact h k hk
theorem so_rs {σ τ : ma_I} {a b c : Int32} (h : rx_s σ τ) : rx_s (st_order σ a b c) τ := by
  intro s hs
  rw [so_o (by omega), so_o (by omega)]
  obtain ⟨q1, q2, q3⟩ := h s hs
  exact ⟨q1, q2, fun k hk => by rw [so_o (by omega)]; exact q3 k hk⟩
theorem so_sz {σ : ma_I} {a b c : Int32} {s : Nat} : pu_sz (st_order σ a b c) s = pu_sz σ s := by
  unfold pu_sz
  rw [so_o (by omega)]
theorem og_iv {s : Nat} : ∀ (r : Nat) (σ : ma_I) (f came : Nat), iv_g σ → iv_g (pu_og s r σ f came).2 := by
  intro r
  induction r with
  | zero => intro σ f came h; exact h
  | succ r ih =>
    intro σ f came h
    unfold pu_og
    by_cases e : f + 3 ≤ pu_sz σ s
    · rw [if_pos e]; exact ih _ _ _ (st_iv h)
    · rw [if_neg e]; exact h
theorem og_o {s : Nat} {g i j : Nat} (h : g < 40 ∨ g = 41 ∨ g = 42 ∨ 48 < g ∨ (g = 40 ∧ j ≠ 4)) : ∀ (r : Nat) (σ : ma_I) (f came : Nat), (pu_og s r σ f came).2 g i j = σ g i j := by
  intro r
  induction r with
  | zero => intro σ f came; rfl
  | succ r ih =>
    intro σ f came
    unfold pu_og
    by_cases e : f + 3 ≤ pu_sz σ s
    · rw [if_pos e, ih, so_o h]
    · rw [if_neg e]
theorem an_or_lt {σ : ma_I} {a b c : Int32} : (0 ≤ an_order σ a b c ∨ an_order σ a b c < 0) := by
  by_cases h : 0 ≤ an_order σ a b c
  · exact Or.inl h
  · exact Or.inr (xv_nle h)
section ORS
variable {d : Nat} {I : ma_I} {o : Nat} {Q : ma_Q}
theorem ho_3 {m f : Nat} {at' : Int32} (hm : m ≤ 40) (h : (at' = Int32.ofNat f ∧ f < 2147483648) ∨ (at' < 0 ∧ 1000 ≤ f)) : xv_ho (Int32.ofNat m) at' 3 ↔ f + 3 ≤ m := by
  constructor
  · intro hh
    rcases h with ⟨e, hf⟩ | ⟨e, -⟩
    · obtain ⟨i', n', ei, en, hin⟩ := ho_nat hm hh
      rw [e, in_eq hf (by omega)] at ei
      have := (in_eq (a := 3) (by decide) (by omega)).mp en
      omega
    · exact absurd e (Int32.not_lt.mpr hh.1)
  · intro hh
    rcases h with ⟨e, hf⟩ | ⟨-, e⟩
    · subst e
      refine ⟨in_ge0 hf, by decide, (in_le hf (by omega)).mpr (by omega), ?_⟩
      rw [← Int32.ofNat_sub _ _ (by omega)]
      exact (in_le (a := 3) (by decide) (by omega)).mpr (by omega)
    · omega
theorem xs_109l {s : Nat} {a b c n : Int32} {N : Nat} (hs : s < 4) (hN : N ≤ 8) (hnn : n = Int32.ofNat N) : ∀ (r k : Nat) (σ : ma_I) (f came : Nat) (at' : Int32) (J : ma_I), k + r = N → came ≤ 8 + k → iv_g σ → iv_s σ → rx_w σ (sv J) → rx_s σ (sv J) → ((at' = Int32.ofNat f ∧ f < 2147483648) ∨ (at' < 0 ∧ 1000 ≤ f)) →
    (∀ I', fr [24, 17, 6] J I' → (∀ j, j ≠ 4 → I' 6 0 j = J 6 0 j) → rx_w (pu_og s r σ f came).2 (sv I') → Q (some (.inl (pu_og s r σ f came).1)) I' o) →
    Ex (d + 5) 109 (71, [vR 5 0, vI a, vI b, vI c, vI n, vR 12 s, vI (Int32.ofNat came), vI at', vI (Int32.ofNat k)], [], ma_mem J o, 0, 0) (ma_end Q) := by
  subst hnn
  intro r
  induction r with
  | zero =>
    intro k σ f came at' J hk hcm hg hiv hR hS hat h
    have : k = N := by omega
    subst this
    exact b_109_71 ⟨fun _ => h J (fr_refl _ _) (fun _ _ => rfl) hR, fun c => absurd c Int32.lt_irrefl⟩
  | succ r ih =>
    intro k σ f came at' J hk hcm hg hiv hR hS hat h
    obtain ⟨-, ⟨m, hm, -, hm40⟩⟩ := hiv s hs
    have hsz : pu_sz σ s = m := by unfold pu_sz; rw [hm, in_cl (by omega)]
    have j12 : J 12 s 1 = Int32.ofNat m := by have := (hS s hs).2.1; rw [sv_12, hm] at this; exact this
    unfold pu_og at h
    refine b_109_71 ⟨fun cc => ?_, fun _ => ?_⟩
    · have := (in_le (by omega) (by omega)).mp cc
      omega
    · rw [j12]
      refine ⟨fun cc => ?_, fun cc => ?_⟩
      · have hf := (ho_3 hm40 hat).mp cc
        rw [if_pos (by rw [hsz]; exact hf)] at h
        have hat' : at' = Int32.ofNat f := by
          rcases hat with ⟨e, -⟩ | ⟨-, e⟩
          · exact e
          · omega
        subst hat'
        have e1 : Int32.ofNat f + 1 = Int32.ofNat (f + 1) := in_a1 f
        have e2 : Int32.ofNat f + 2 = Int32.ofNat (f + 2) := (Int32.ofNat_add f 2).symm
        have e3 : Int32.ofNat f + 3 = Int32.ofNat (f + 3) := (Int32.ofNat_add f 3).symm
        have q3 := (hS s hs).2.2
        have w0 := q3 f (by omega)
        have w1 := q3 (f + 1) (by omega)
        have w2 := q3 (f + 2) (by omega)
        rw [sv_13] at w0 w1 w2
        rw [e1, e2, e3, in_cl (by omega), in_cl (by omega), in_cl (by omega), w0, w1, w2, in_a1]
        refine ⟨in_in (by omega) (by omega), in_in (by omega) (by omega), in_in (by omega) (by omega), ?_⟩
        show Exm (d + 4) 66 [.inr (.inr (5, 0)), .inl (σ 63 0 (40 * s + f)), .inl (σ 63 0 (40 * s + f + 1)), .inl (σ 63 0 (40 * s + f + 2))] J o _
        refine xs_66 hg hR (fun K hK hK6 hRK => ⟨_, rfl, ?_⟩)
        have hSK : rx_s (st_order σ (σ 63 0 (40 * s + f)) (σ 63 0 (40 * s + f + 1)) (σ 63 0 (40 * s + f + 2))) (sv K) := so_rs (rs_fr hK (by decide) (by decide) hS)
        have hcont : ∀ came', came' = (if 0 ≤ an_order σ (σ 63 0 (40 * s + f)) (σ 63 0 (40 * s + f + 1)) (σ 63 0 (40 * s + f + 2)) then came + 1 else came) → Ex (d + 5) 109 (71, [vR 5 0, vI a, vI b, vI c, vI (Int32.ofNat N), vR 12 s, vI (Int32.ofNat came'), vI (Int32.ofNat (f + 3)), vI (Int32.ofNat (k + 1))], [], ma_mem K o, 0, 0) (ma_end Q) := by
          intro came' hc'
          rw [← hc'] at h
          refine ih (k + 1) _ (f + 3) came' (Int32.ofNat (f + 3)) K (by omega) (by rw [hc']; split <;> omega) (st_iv hg) (so_s hiv) hRK hSK (Or.inl ⟨rfl, by omega⟩) (fun L hL hL6 hRL => ?_)
          exact h L (fr_trans hK hL) (fun j hj => by rw [hL6 j hj, hK6 j hj]) hRL
        refine ⟨fun c1 => hcont came (if_neg (Int32.not_le.mpr c1)).symm, fun c1 => ?_⟩
        rw [in_a1]
        exact hcont (came + 1) (if_pos c1).symm
      · have hf : ¬f + 3 ≤ m := fun q => cc ((ho_3 hm40 hat).mpr q)
        rw [if_neg (by rw [hsz]; exact hf)] at h
        exact h J (fr_refl _ _) (fun _ _ => rfl) hR
theorem fr_at (c : Int32) : (c = Int32.ofNat (pu_fr c) ∧ pu_fr c < 2147483648) ∨ (c < 0 ∧ 1000 ≤ pu_fr c) := by
  unfold pu_fr
  by_cases h : 0 ≤ c
  · rw [if_pos h]
    exact Or.inl ⟨(Int32.ofNat_toNatClampNeg c h).symm, c.toNatClampNeg_lt⟩
  · rw [if_neg h]
    exact Or.inr ⟨xv_nle h, Nat.le_refl _⟩
theorem xs_109 {σ : ma_I} {a b c n : Int32} (hg : iv_g σ) (hiv : iv_s σ) (hR : rx_w σ (sv I)) (hS : rx_s σ (sv I)) (h : ∀ I', fr [24, 17, 6] I I' → (∀ j, j ≠ 4 → I' 6 0 j = I 6 0 j) → rx_w (st_orders σ a b c n) (sv I') → Q (some (.inl (an_orders σ a b c n))) I' o) : Exm (d + 5) 109 [.inr (.inr (5, 0)), .inl a, .inl b, .inl c, .inl n] I o Q := by
  have hno : ∀ x, pu_orc σ a b n = x → x ≠ 0 → Q (some (.inl x)) I o := by
    intro x hx h0
    have h1 : ¬pu_orc σ a b n = 0 := by rw [hx]; exact h0
    have := h I (fr_refl _ _) (fun _ _ => rfl) (by unfold st_orders; rw [if_neg h1]; exact hR)
    unfold an_orders at this
    rw [if_neg h1, hx] at this
    exact this
  refine e_109 ⟨fun ca => hno _ (if_neg ca) (by decide), fun ca => ⟨fun cb => hno _ (by unfold pu_orc; rw [if_pos ca, if_neg cb]) (by decide), fun cb => ⟨fun cn => ?_, fun cn => hno _ (by unfold pu_orc; rw [if_pos ca, if_pos cb, if_neg cn]) (by decide)⟩⟩⟩
  obtain ⟨s, hs, ea⟩ := sh_of ca
  have hca : a.toNatClampNeg = s := by rw [ea, in_cl (by omega)]
  have e12 : I 12 s 0 = σ 61 0 s := by have := (hS s hs).1; rw [sv_12] at this; exact this
  rw [hca, e12]
  refine ⟨by rw [ea]; exact in_in (by omega) (by omega), fun c1 => ⟨fun c2 => ?_, fun c2 => hno _ (by unfold pu_orc; rw [if_pos ca, if_pos cb, if_pos cn, hca, if_neg c1, if_neg c2]) (by decide)⟩, fun c1 => hno _ (by unfold pu_orc; rw [if_pos ca, if_pos cb, if_pos cn, hca, if_pos c1]) (by decide)⟩
  have horc : pu_orc σ a b n = 0 := by unfold pu_orc; rw [if_pos ca, if_pos cb, if_pos cn, hca, if_neg c1, if_pos c2]
  unfold an_orders st_orders at h
  rw [if_pos horc, if_pos horc, hca] at h
  obtain ⟨N, hN, en⟩ := in_ub (b := 8) (by decide) cn.1 cn.2
  rw [en, in_cl (by omega)] at h
  rw [en]
  exact xs_109l hs hN rfl N 0 σ (pu_fr c) 0 c I (by omega) (by omega) hg hiv hR hS (fr_at c) h
theorem lc_lt {x y : Int64} : lg_cmp x y < 0 ↔ x < y := by
  have := lg_cmp_ge x y
  constructor
  · intro h
    exact Int64.not_le.mp (fun q => Int32.not_lt.mpr (this.mpr q) h)
  · intro h
    exact xv_nle (fun q => absurd (this.mp q) (Int64.not_le.mpr h))
theorem mo_182l {s : Nat} {a b c n : Int32} {N : Nat} (hs : s < 4) (hN : N ≤ 8) (hnn : n = Int32.ofNat N) : ∀ (r k : Nat) (f came : Nat) (J : ma_I) (w7 w9 : Option ma_V), k + r = N → came ≤ 8 + k → iv_g (mv J) → iv_s (mv J) → ((c = Int32.ofNat (f - 3 * k) ∧ 3 * k ≤ f ∧ f - 3 * k < 2147483648) ∨ (c < 0 ∧ 1000 ≤ f ∧ k = 0)) →
    (∀ I', fr [43, 44, 45, 46, 47, 48, 1004] J I' → mv I' = (pu_og s r (mv J) f came).2 → Q (some (.inl (pu_og s r (mv J) f came).1)) I' o) →
    Ex (d + 3) 182 (61, [vR 40 0, vI (Int32.ofNat s), vI b, vI c, vI n, vI (Int32.ofNat came), vI (Int32.ofNat k), w7, none, w9], [], ma_mem J o, 0, 0) (ma_end Q) := by
  subst hnn
  intro r
  induction r with
  | zero =>
    intro k f came J w7 w9 hk hcm hg hiv hat h
    have : k = N := by omega
    subst this
    exact b_182_61 ⟨fun _ => h J (fr_refl _ _) rfl, fun c => absurd c Int32.lt_irrefl⟩
  | succ r ih =>
    intro k f came J w7 w9 hk hcm hg hiv hat h
    obtain ⟨-, ⟨m, hm, -, hm40⟩⟩ := hiv s hs
    have hsz : pu_sz (mv J) s = m := by unfold pu_sz; rw [hm, in_cl (by omega)]
    have j62 : J 62 0 s = Int32.ofNat m := by rw [mv_62] at hm; exact hm
    unfold pu_og at h
    have hti : (Int32.toInt64 c + 3 * Int32.toInt64 (Int32.ofNat k)).toInt = c.toInt + 3 * k := by
      have hc1 := Int32.toInt_lt c
      have hc2 := Int32.le_toInt c
      have h3 : (3 : Int64).toInt = 3 := rfl
      have hm3 : (3 * Int32.toInt64 (Int32.ofNat k)).toInt = 3 * k := by
        rw [Int64.toInt_mul, Int32.toInt_toInt64, in_ti (by omega), h3, Int.bmod_eq_of_le (by omega) (by omega)]
      rw [Int64.toInt_add, hm3, Int32.toInt_toInt64, Int.bmod_eq_of_le (by omega) (by omega)]
    have hti2 : (Int32.toInt64 c + 3 * Int32.toInt64 (Int32.ofNat k) + 2).toInt = c.toInt + 3 * k + 2 := by
      have hc1 := Int32.toInt_lt c
      have hc2 := Int32.le_toInt c
      have h2 : (2 : Int64).toInt = 2 := rfl
      rw [Int64.toInt_add, hti, h2, Int.bmod_eq_of_le (by omega) (by omega)]
    have hsz64 : (Int32.toInt64 (Int32.ofNat m)).toInt = m := by rw [Int32.toInt_toInt64, in_ti (by omega)]
    have z64 : (0 : Int64).toInt = 0 := rfl
    refine b_182_61 ⟨fun cc => ?_, fun _ => ?_⟩
    · have := (in_le (by omega) (by omega)).mp cc
      omega
    · rw [in_cl (by omega), j62, lc_lt, lc_lt, lg_cmp_ge, lg_cmp_ge, Int64.lt_iff_toInt_lt, Int64.lt_iff_toInt_lt, Int64.le_iff_toInt_le, Int64.le_iff_toInt_le, hti, hti2, hsz64, z64]
      have hbad : ¬f + 3 ≤ m → Q (some (.inl (-12))) J o := by
        intro hf
        rw [if_neg (by rw [hsz]; exact hf)] at h
        exact h J (fr_refl _ _) rfl
      have hcI : (c = Int32.ofNat (f - 3 * k) ∧ 3 * k ≤ f ∧ f - 3 * k < 2147483648 → c.toInt = ((f - 3 * k : Nat) : Int)) := fun q => by rw [q.1, in_ti q.2.2]
      refine ⟨fun c1 => hbad ?_, fun c1 => ⟨in_in (by omega) (by omega), fun c2 => ?_, fun c2 => hbad ?_⟩⟩
      · rcases hat with ⟨e, e1, e2⟩ | ⟨e, e1, e2⟩
        · have hlt := e2; by_cases hltt : True
          · have := hcI ⟨e, e1, e2⟩
            omega
          · exact absurd trivial hltt
        · omega
      · rcases hat with ⟨e, e1, e2⟩ | ⟨e, e1, e2⟩
        · have hlt := e2; by_cases hltt : True
          · have hcc := hcI ⟨e, e1, e2⟩
            have hf : f + 3 ≤ m := by omega
            rw [if_pos (by rw [hsz]; exact hf)] at h
            have e32 : Int64.toInt32 (Int32.toInt64 c + 3 * Int32.toInt64 (Int32.ofNat k)) = Int32.ofNat f := by
              apply Int32.toInt.inj
              rw [in_ti (by omega)]
              have : (Int64.toInt32 (Int32.toInt64 c + 3 * Int32.toInt64 (Int32.ofNat k))).toInt = (Int32.toInt64 c + 3 * Int32.toInt64 (Int32.ofNat k)).toInt.bmod (2 ^ 32) := Int64.toInt_toInt32 _
              rw [this, hti, Int.bmod_eq_of_le (by omega) (by omega)]
              omega
            have ei : (40 : Int32) * Int32.ofNat s + Int32.ofNat f = Int32.ofNat (40 * s + f) := in_ma 40 s f
            have ei1 : Int32.ofNat (40 * s + f) + 1 = Int32.ofNat (40 * s + f + 1) := in_a1 _
            have ei2 : Int32.ofNat (40 * s + f) + 2 = Int32.ofNat (40 * s + f + 2) := (Int32.ofNat_add _ 2).symm
            rw [e32, ei, ei1, ei2, in_cl (by omega), in_cl (by omega), in_cl (by omega), ← mv_63 J 0 (40 * s + f), ← mv_63 J 0 (40 * s + f + 1), ← mv_63 J 0 (40 * s + f + 2), in_a1, in_a1, Int32.add_zero]
            refine ⟨in_in (by omega) (by omega), in_in (by omega) (by omega), in_in (by omega) (by omega), ?_⟩
            refine mo_126 hg (fun K hK hmK => ⟨_, rfl, ?_⟩)
            have hcont : ∀ came', came' = (if 0 ≤ an_order (mv J) (mv J 63 0 (40 * s + f)) (mv J 63 0 (40 * s + f + 1)) (mv J 63 0 (40 * s + f + 2)) then came + 1 else came) → ∀ u7 u9, Ex (d + 3) 182 (61, [vR 40 0, vI (Int32.ofNat s), vI b, vI c, vI (Int32.ofNat N), vI (Int32.ofNat came'), vI (Int32.ofNat (k + 1)), u7, none, u9], [], ma_mem K o, 0, 0) (ma_end Q) := by
              intro came' hc' u7 u9
              rw [← hc'] at h
              refine ih (k + 1) (f + 3) came' K u7 u9 (by omega) (by rw [hc']; split <;> omega) (by rw [hmK]; exact st_iv hg) (by rw [hmK]; exact so_s hiv) (Or.inl ⟨by rw [e]; congr 1; omega, by omega, by omega⟩) (fun L hL hmL => ?_)
              rw [hmK] at hmL ⊢
              exact h L (fr_trans hK hL) hmL
            refine ⟨fun c3 => hcont came (if_neg (Int32.not_le.mpr c3)).symm _ _, fun c3 => hcont (came + 1) (if_pos c3).symm _ _⟩
          · exact absurd trivial hltt
        · exfalso
          rw [Int32.lt_iff_toInt_lt] at e
          have z : (0 : Int32).toInt = 0 := rfl
          omega
      · rcases hat with ⟨e, e1, e2⟩ | ⟨e, e1, e2⟩
        · have hlt := e2; by_cases hltt : True
          · have := hcI ⟨e, e1, e2⟩
            omega
          · exact absurd trivial hltt
        · omega
theorem mo_182 {a b c n : Int32} (hg : iv_g (mv I)) (hiv : iv_s (mv I)) (h : ∀ I', fr [43, 44, 45, 46, 47, 48, 1004] I I' → mv I' = st_orders (mv I) a b c n → Q (some (.inl (an_orders (mv I) a b c n))) I' o) : Exm (d + 3) 182 [.inr (.inr (40, 0)), .inl a, .inl b, .inl c, .inl n] I o Q := by
  have hno : ∀ x, pu_orc (mv I) a b n = x → x ≠ 0 → Q (some (.inl x)) I o := by
    intro x hx h0
    have h1 : ¬pu_orc (mv I) a b n = 0 := by rw [hx]; exact h0
    have := h I (fr_refl _ _) (if_neg h1).symm
    unfold an_orders at this
    rw [if_neg h1, hx] at this
    exact this
  refine e_182 ⟨fun ca => hno _ (if_neg ca) (by decide), fun ca => ⟨fun cb => hno _ (by unfold pu_orc; rw [if_pos ca, if_neg cb]) (by decide), fun cb => ⟨fun cn => ?_, fun cn => hno _ (by unfold pu_orc; rw [if_pos ca, if_pos cb, if_neg cn]) (by decide)⟩⟩⟩
  obtain ⟨s, hs, ea⟩ := sh_of ca
  have hca : a.toNatClampNeg = s := by rw [ea, in_cl (by omega)]
  obtain ⟨hso, -⟩ := hiv s hs
  have hin : ma_in a 4 := by rw [ea]; exact in_in (by omega) (by omega)
  rw [hca, ← mv_61 I 0 s]
  refine ⟨hin, fun c1 => ⟨hin, fun c2 => ?_, fun c2 => hno _ ?_ (by decide)⟩, fun c1 => hno _ ?_ (by decide)⟩
  · have n1 : mv I 61 0 s ≠ -1 := fun q => by rw [q] at c1; exact absurd c1 (by decide)
    have horc : pu_orc (mv I) a b n = 0 := by unfold pu_orc; rw [if_pos ca, if_pos cb, if_pos cn, hca, if_neg n1, if_pos c2]
    unfold an_orders st_orders at h
    rw [if_pos horc, if_pos horc, hca] at h
    obtain ⟨N, hN, en⟩ := in_ub (b := 8) (by decide) cn.1 cn.2
    rw [en, in_cl (by omega)] at h
    rw [en, ea]
    refine mo_182l (a := a) hs hN rfl N 0 (pu_fr c) 0 I none none (by omega) (by omega) hg hiv ?_ h
    rcases fr_at c with ⟨e1, e2⟩ | ⟨e1, e2⟩
    · exact Or.inl ⟨e1, by omega, by omega⟩
    · exact Or.inr ⟨e1, e2, rfl⟩
  · have n1 : mv I 61 0 s ≠ -1 := fun q => by rw [q] at c1; exact absurd c1 (by decide)
    unfold pu_orc; rw [if_pos ca, if_pos cb, if_pos cn, hca, if_neg n1, if_neg c2]
  · have hm1 : mv I 61 0 s = -1 := by
      rcases hso with w | w
      · exact w
      · exact absurd c1 (Int32.not_lt.mpr (rg_lo (by decide) w))
    unfold pu_orc; rw [if_pos ca, if_pos cb, if_pos cn, hca, if_pos hm1]
end ORS

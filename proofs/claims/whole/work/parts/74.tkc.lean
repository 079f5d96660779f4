/-! ===== tokens of the class ===== -/
def tk_M (I : ma_I) : Prop := ∀ i, i < 12 → ∀ k, k < (tk_W i).length → I 3 i k = (tk_W i).getD k 0
theorem W_sb : ∀ i, i < 12 → mt_sb.getD i [] = tk_W i := by decide
theorem W_ch : ∀ i, i < 12 → ∀ k, k < (tk_W i).length → (Int32.toUInt32 ((tk_W i).getD k 0 &&& 255) % 65536).toInt32 = (tk_W i).getD k 0 ∧ (Int32.toUInt32 ((Int32.toUInt32 ((tk_W i).getD k 0 &&& 255) % 65536).toInt32) % 65536).toInt32 = (tk_W i).getD k 0 := by decide +kernel
theorem W_sh : ∀ i, i < 12 → Int32.ofNat (tk_W i).length >>> ((0 : Int32) &&& 31) = Int32.ofNat (tk_W i).length := by decide +kernel
theorem W_l6 : ∀ i, i < 12 → (tk_W i).length ≤ 6 := by decide
section TKC
variable {d : Nat} {I : ma_I} {o : Nat} {Q : ma_Q} {σ : ma_I} {n : Nat}
theorem xs_50 {i : Nat} (hi : i < 12) (h : Q (some (.inr (.inr (2, i)))) I o) : Exm d 50 [.inl (Int32.ofNat i)] I o Q := by
  match i, hi with
  | 0, _ => exact e_50 ⟨fun _ => h, fun c => absurd rfl c⟩
  | 1, _ => exact e_50 ⟨fun c => absurd c (by decide), fun _ => ⟨fun _ => h, fun c => absurd rfl c⟩⟩
  | 2, _ => exact e_50 ⟨fun c => absurd c (by decide), fun _ => ⟨fun c => absurd c (by decide), fun _ => ⟨fun _ => h, fun c => absurd rfl c⟩⟩⟩
  | 3, _ => exact e_50 ⟨fun c => absurd c (by decide), fun _ => ⟨fun c => absurd c (by decide), fun _ => ⟨fun c => absurd c (by decide), fun _ => ⟨fun _ => h, fun c => absurd rfl c⟩⟩⟩⟩
  | 4, _ => exact e_50 ⟨fun c => absurd c (by decide), fun _ => ⟨fun c => absurd c (by decide), fun _ => ⟨fun c => absurd c (by decide), fun _ => ⟨fun c => absurd c (by decide), fun _ => ⟨fun _ => h, fun c => absurd rfl c⟩⟩⟩⟩⟩
  | 5, _ => exact e_50 ⟨fun c => absurd c (by decide), fun _ => ⟨fun c => absurd c (by decide), fun _ => ⟨fun c => absurd c (by decide), fun _ => ⟨fun c => absurd c (by decide), fun _ => ⟨fun c => absurd c (by decide), fun _ => ⟨fun _ => h, fun c => absurd rfl c⟩⟩⟩⟩⟩⟩
  | 6, _ => exact e_50 ⟨fun c => absurd c (by decide), fun _ => ⟨fun c => absurd c (by decide), fun _ => ⟨fun c => absurd c (by decide), fun _ => ⟨fun c => absurd c (by decide), fun _ => ⟨fun c => absurd c (by decide), fun _ => ⟨fun c => absurd c (by decide), fun _ => ⟨fun _ => h, fun c => absurd rfl c⟩⟩⟩⟩⟩⟩⟩
  | 7, _ => exact e_50 ⟨fun c => absurd c (by decide), fun _ => ⟨fun c => absurd c (by decide), fun _ => ⟨fun c => absurd c (by decide), fun _ => ⟨fun c => absurd c (by decide), fun _ => ⟨fun c => absurd c (by decide), fun _ => ⟨fun c => absurd c (by decide), fun _ => ⟨fun c => absurd c (by decide), fun _ => ⟨fun _ => h, fun c => absurd rfl c⟩⟩⟩⟩⟩⟩⟩⟩
  | 8, _ => exact e_50 ⟨fun c => absurd c (by decide), fun _ => ⟨fun c => absurd c (by decide), fun _ => ⟨fun c => absurd c (by decide), fun _ => ⟨fun c => absurd c (by decide), fun _ => ⟨fun c => absurd c (by decide), fun _ => ⟨fun c => absurd c (by decide), fun _ => ⟨fun c => absurd c (by decide), fun _ => ⟨fun c => absurd c (by decide), fun _ => ⟨fun _ => h, fun c => absurd rfl c⟩⟩⟩⟩⟩⟩⟩⟩⟩
  | 9, _ => exact e_50 ⟨fun c => absurd c (by decide), fun _ => ⟨fun c => absurd c (by decide), fun _ => ⟨fun c => absurd c (by decide), fun _ => ⟨fun c => absurd c (by decide), fun _ => ⟨fun c => absurd c (by decide), fun _ => ⟨fun c => absurd c (by decide), fun _ => ⟨fun c => absurd c (by decide), fun _ => ⟨fun c => absurd c (by decide), fun _ => ⟨fun c => absurd c (by decide), fun _ => ⟨fun _ => h, fun c => absurd rfl c⟩⟩⟩⟩⟩⟩⟩⟩⟩⟩
  | 10, _ => exact e_50 ⟨fun c => absurd c (by decide), fun _ => ⟨fun c => absurd c (by decide), fun _ => ⟨fun c => absurd c (by decide), fun _ => ⟨fun c => absurd c (by decide), fun _ => ⟨fun c => absurd c (by decide), fun _ => ⟨fun c => absurd c (by decide), fun _ => ⟨fun c => absurd c (by decide), fun _ => ⟨fun c => absurd c (by decide), fun _ => ⟨fun c => absurd c (by decide), fun _ => ⟨fun c => absurd c (by decide), fun _ => ⟨fun _ => h, fun c => absurd rfl c⟩⟩⟩⟩⟩⟩⟩⟩⟩⟩⟩
  | 11, _ => exact e_50 ⟨fun c => absurd c (by decide), fun _ => ⟨fun c => absurd c (by decide), fun _ => ⟨fun c => absurd c (by decide), fun _ => ⟨fun c => absurd c (by decide), fun _ => ⟨fun c => absurd c (by decide), fun _ => ⟨fun c => absurd c (by decide), fun _ => ⟨fun c => absurd c (by decide), fun _ => ⟨fun c => absurd c (by decide), fun _ => ⟨fun c => absurd c (by decide), fun _ => ⟨fun c => absurd c (by decide), fun _ => ⟨fun c => absurd c (by decide), fun _ => h⟩⟩⟩⟩⟩⟩⟩⟩⟩⟩⟩
theorem xs_185 {q : Nat} (hq : q < 12) (h : Q (some (.inl (Int32.ofNat (tk_W q).length))) I o) : Exm (d + 1) 185 [.inr (.inr (2, q))] I o Q := by
  refine e_185 (e_187 ⟨by decide, _, rfl, ?_⟩)
  rw [W_sb q hq, W_sh q hq]
  exact h
theorem xs_186 {q k : Nat} (hM : tk_M I) (hq : q < 12) (hk : k < (tk_W q).length) (h : Q (some (.inl ((tk_W q).getD k 0))) I o) : Exm (d + 3) 186 [.inr (.inr (2, q)), .inl (Int32.ofNat k)] I o Q := by
  have h6 := W_l6 q hq
  obtain ⟨c1, c2⟩ := W_ch q hq k hk
  refine e_186 (e_188 ⟨_, rfl, fun c => absurd c (by decide), fun _ => ?_⟩)
  refine e_190_3 (e_189 (e_191_4 ⟨fun c => ?_, fun _ => ⟨fun _ => ⟨_, rfl, rfl, ?_⟩, fun c => ?_⟩⟩))
  · exact absurd c (Int32.not_lt.mpr (in_ge0 (by omega)))
  · rw [W_sb q hq, in_cl (by omega), hM q hq k hk, c2, c1]
    refine ⟨in_in (by omega) hk, rfl, _, rfl, ?_, h⟩
    rw [← c1, c2, c1]
  · rw [W_sb q hq] at c
    have := (in_le (by omega) (by omega)).mp c
    omega
/-- is the word spelt -/
theorem xs_48 {q s e : Nat} {b : Nat → Int32} (hM : tk_M I) (hq : q < 12) (hs : I 8 0 2 = Int32.ofNat s) (he : I 8 0 4 = Int32.ofNat e) (hse : s ≤ e) (hen : e ≤ n) (hn : n ≤ 160) (hb : ∀ k, k < n → I 31 0 k = b k) (h : Q (some (.inl (if tk_is b s e q = true then 1 else 0))) I o) : Exm (d + 4) 48 [.inr (.inr (8, 0)), .inr (.inr (2, q))] I o Q := by
  have h6 := W_l6 q hq
  refine e_48 (xs_185 hq ⟨_, rfl, ?_⟩)
  have hsub : I 8 0 4 - I 8 0 2 = Int32.ofNat (e - s) := by rw [he, hs, Int32.ofNat_sub _ _ hse]
  rw [hsub]
  refine ⟨fun c => ?_, fun c => ?_⟩
  · have hl : (tk_W q).length = e - s := (in_eq (by omega) (by omega)).mp c
    have key : ∀ (r k : Nat), k + r = (tk_W q).length → (∀ m, m < k → b (s + m) = (tk_W q).getD m 0) → Ex (d + 3 + 1) 48 (20, [vR 8 0, vR 2 q, vI (Int32.ofNat k)], [], ma_mem I o, 0, 0) (ma_end Q) := by
      intro r
      induction r with
      | zero =>
        intro k hk hm
        refine b_48_20 (xs_185 hq ⟨_, rfl, fun _ => ?_, fun c => ?_⟩)
        · rw [if_pos (is_of.mpr ⟨hl.symm, fun m h1 => hm m (by omega)⟩)] at h
          exact h
        · have := (in_lt (by omega) (by omega)).mp c
          omega
      | succ r ih =>
        intro k hk hm
        refine b_48_20 (xs_185 hq ⟨_, rfl, fun c => ?_, fun _ => xs_186 hM hq (by omega) ⟨_, rfl, ?_⟩⟩)
        · have := (in_le (by omega) (by omega)).mp c
          omega
        · have e1 : I 8 0 2 + Int32.ofNat k = Int32.ofNat (s + k) := by rw [hs]; exact (Int32.ofNat_add s k).symm
          rw [e1, in_cl (by omega), hb (s + k) (by omega), in_a1]
          refine ⟨in_in (by omega) (by omega), fun c2 => ih (k + 1) (by omega) (fun m hm2 => ?_), fun c2 => ?_⟩
          · by_cases em : m = k
            · subst em; exact c2.symm
            · exact hm m (by omega)
          · rw [if_neg (fun w => c2 ((is_of.mp w).2 k (by omega)).symm)] at h
            exact h
    exact key (tk_W q).length 0 (by omega) (fun m hm => by omega)
  · rw [if_neg (fun w => c (by rw [(is_of.mp w).1]))] at h
    exact h
/-- what the words have told the class -/
def wc_i (b : Nat → Int32) (s e v : Nat) (J : ma_I) : Prop := (∀ i, i < v → tk_is b s e i = false) ∧ J 8 0 1 = 3 ∨ ∃ i, i < 12 ∧ tk_is b s e i = true ∧ J 8 0 1 = (if i < 6 then 2 else Int32.ofNat (i - 2)) ∧ J 8 0 3 = Int32.ofNat i
theorem xs_46b {s e : Nat} {b : Nat → Int32} (hM : tk_M I) (hs : I 8 0 2 = Int32.ofNat s) (he : I 8 0 4 = Int32.ofNat e) (hse : s ≤ e) (hen : e ≤ n) (hn : n ≤ 160) (hb : ∀ k, k < n → I 31 0 k = b k)
    (h : ∀ J, fr [2001, 2003] I J → wc_i b s e 12 J → Q none J o) :
    ∀ (r v : Nat) (J : ma_I), v + r = 12 → fr [2001, 2003] I J → wc_i b s e v J → Ex (d + 5) 46 (50, [vR 8 0, vI (Int32.ofNat v)], [], ma_mem J o, 0, 0) (ma_end Q) := by
  intro r
  induction r with
  | zero =>
    intro v J hv hf hw
    have : v = 12 := by omega
    subst this
    exact b_46_50 ⟨fun _ => h J hf hw, fun c => absurd c (by decide)⟩
  | succ r ih =>
    intro v J hv hf hw
    refine b_46_50 ⟨fun c => ?_, fun _ => ⟨fun c => ?_, fun c => ?_⟩⟩
    · have := (in_le (a := 12) (by decide) (by omega)).mp c
      omega
    · rcases hw with ⟨-, q⟩ | q
      · exact absurd q c
      · exact h J hf (Or.inr q)
    · have hnot : ∀ i, i < v → tk_is b s e i = false := by
        rcases hw with ⟨q, -⟩ | ⟨i, hi, -, q, -⟩
        · exact q
        · rw [c] at q
          by_cases c6 : i < 6
          · rw [if_pos c6] at q; exact absurd q (by decide)
          · rw [if_neg c6] at q
            have := (in_eq (a := 3) (by decide) (by omega)).mp q
            omega
      refine xs_50 (by omega : v < 12) ⟨_, rfl, ?_⟩
      have hMJ : tk_M J := fun i hi k hk => by rw [fr_g hf 3 i k (by decide) (by decide) (by decide)]; exact hM i hi k hk
      refine xs_48 (n := n) (s := s) (e := e) (b := b) hMJ (by omega) (by rw [hf 8 0 2 (by decide)]; exact hs) (by rw [hf 8 0 4 (by decide)]; exact he) hse hen hn (fun k hk => by rw [fr_g hf 31 0 k (by decide) (by decide) (by decide)]; exact hb k hk) ⟨_, rfl, fun c2 => ?_, fun c2 => ?_⟩
      · rw [in_a1]
        refine ih (v + 1) J (by omega) hf (Or.inl ⟨fun i hi => ?_, c⟩)
        by_cases ei : i = v
        · subst ei
          cases hq : tk_is b s e i with
          | false => rfl
          | true => rw [if_pos hq] at c2; exact absurd c2 (by decide)
        · exact hnot i (by omega)
      · have hq : tk_is b s e v = true := by
          cases hq : tk_is b s e v with
          | true => rfl
          | false => rw [if_neg (by rw [hq]; decide)] at c2; exact absurd rfl c2
        have h6 : ((6 : Int32) ≤ Int32.ofNat v ↔ 6 ≤ v) := in_le (a := 6) (by decide) (by omega)
        have h6' : (Int32.ofNat v < (6 : Int32) ↔ v < 6) := in_lt (b := 6) (by omega) (by decide)
        rw [in_a1, h6, h6']
        refine ⟨fun c6 => ?_, fun c6 => ?_⟩
        · have e1 : (4 : Int32) + Int32.ofNat v - 6 = Int32.ofNat (v - 2) := by
            have : ∀ v, v < 12 → 6 ≤ v → (4 : Int32) + Int32.ofNat v - 6 = Int32.ofNat (v - 2) := by decide +kernel
            exact this v (by omega) c6
          rw [e1]
          refine ih (v + 1) _ (by omega) (fr_up1 (fr_up1 hf (by decide)) (by decide)) (Or.inr ⟨v, by omega, hq, ?_, xv_us⟩)
          rw [up_j (by decide), xv_us, if_neg (by omega)]
        · refine ih (v + 1) _ (by omega) (fr_up1 (fr_up1 hf (by decide)) (by decide)) (Or.inr ⟨v, by omega, hq, ?_, xv_us⟩)
          rw [up_j (by decide), xv_us, if_pos c6]
end TKC

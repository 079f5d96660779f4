/-! ===== tokens of a text ===== -/
def tk_run (P : Int32 → Bool) (b : Nat → Int32) : Nat → Nat → Nat
  | 0, p => p
  | r + 1, p => if P (b p) = true then tk_run P b r (p + 1) else p
theorem run_le {P : Int32 → Bool} {b : Nat → Int32} : ∀ r p, p ≤ tk_run P b r p ∧ tk_run P b r p ≤ p + r := by
  intro r
  induction r with
  | zero => intro p; exact ⟨Nat.le_refl _, Nat.le_refl _⟩
  | succ r ih =>
    intro p
    unfold tk_run
    split
    · have := ih (p + 1); omega
    · omega
def tk_ws (c : Int32) : Bool := decide (c = 32 ∨ c = 10)
def tk_al (c : Int32) : Bool := decide (97 ≤ c ∧ c ≤ 122)
def tk_dg (c : Int32) : Bool := decide (48 ≤ c ∧ c ≤ 57)
def tk_sg (c : Int32) : Bool := decide (xv_sg c)
/-- the words -/
def tk_W : Nat → List Int32
  | 0 => [100, 97, 121]
  | 1 => [104, 111, 117, 115, 101]
  | 2 => [115, 116, 97, 109, 112, 115]
  | 3 => [110, 117, 109, 98, 101, 114]
  | 4 => [111, 114, 100, 101, 114]
  | 5 => [108, 111, 110, 103]
  | 6 => [116, 97, 107, 101, 115]
  | 7 => [99, 111, 115, 116, 115]
  | 8 => [109, 105, 110, 100, 115]
  | 9 => [111, 114]
  | 10 => [97, 110, 100]
  | _ => [110, 111, 116]
/-- where they begin, one behind the other -/
def tk_S : Nat → Nat
  | 0 => 0
  | 1 => 3
  | 2 => 8
  | 3 => 14
  | 4 => 20
  | 5 => 25
  | 6 => 29
  | 7 => 34
  | 8 => 39
  | 9 => 44
  | 10 => 46
  | 11 => 49
  | _ => 52
def tk_L (b : Nat → Int32) (s e : Nat) : List Int32 := (List.range (e - s)).map (fun k => b (s + k))
def tk_is (b : Nat → Int32) (s e i : Nat) : Bool := decide (tk_L b s e = tk_W i)
def tk_wd (b : Nat → Int32) (s e : Nat) : Option Nat := pu_ft (tk_is b s e) 0 12
theorem W_inj : ∀ i, i < 12 → ∀ j, j < 12 → tk_W i = tk_W j → i = j := by decide
theorem W_len : ∀ i, i < 12 → (tk_W i).length = tk_S (i + 1) - tk_S i ∧ tk_S i ≤ tk_S (i + 1) ∧ tk_S (i + 1) ≤ 52 := by decide
/-- the value of a number -/
def tk_nv (b : Nat → Int32) (s : Nat) : Nat → Int32
  | 0 => 0
  | k + 1 => 10 * tk_nv b s k + b (s + k) - 48
abbrev tk := Nat × Nat × Int32 × Int32
def tk_s (k : tk) : Nat := k.1
def tk_e (k : tk) : Nat := k.2.1
def tk_t (k : tk) : Int32 := k.2.2.1
def tk_v (k : tk) : Int32 := k.2.2.2
/-- the token that begins at s -/
def tk_at (b : Nat → Int32) (n s : Nat) : tk :=
  if s < n then
    if tk_al (b s) = true then
      match tk_wd b s (tk_run tk_al b (n - s) s) with
      | none => ⟨s, tk_run tk_al b (n - s) s, 3, 0⟩
      | some i => if i < 6 then ⟨s, tk_run tk_al b (n - s) s, 2, Int32.ofNat i⟩ else ⟨s, tk_run tk_al b (n - s) s, Int32.ofNat (i - 2), 0⟩
    else if tk_dg (b s) = true then
      if tk_run tk_dg b (n - s) s - s ≤ 4 then ⟨s, tk_run tk_dg b (n - s) s, 1, tk_nv b s (tk_run tk_dg b (n - s) s - s)⟩ else ⟨s, tk_run tk_dg b (n - s) s, 3, 0⟩
    else if tk_sg (b s) = true then ⟨s, s + 1, b s, 0⟩ else ⟨s, s + 1, 3, 0⟩
  else ⟨s, s, 0, 0⟩
def tk_nx (b : Nat → Int32) (n p : Nat) : tk := tk_at b n (tk_run tk_ws b (n - p) p)
/-- how the reference holds a token -/
def tk_R (J : ma_I) (k : tk) : Prop := J 40 0 20 = Int32.ofNat (tk_s k) ∧ J 40 0 17 = Int32.ofNat (tk_e k) ∧
  (if tk_t k = 0 then J 40 0 18 = 5 else if tk_t k = 1 then J 40 0 18 = 1 ∧ J 40 0 19 = tk_v k else if tk_t k = 2 then J 40 0 18 = 2 ∧ J 40 0 19 = tk_v k else if tk_t k = 3 then J 40 0 18 = 6 else if tk_t k ≤ 9 then J 40 0 18 = 3 ∧ J 40 0 19 = tk_t k - 4 else J 40 0 18 = 4 ∧ J 40 0 19 = tk_t k)
/-- how the class holds it -/
def tk_C (J : ma_I) (k : tk) : Prop := J 8 0 2 = Int32.ofNat (tk_s k) ∧ J 8 0 4 = Int32.ofNat (tk_e k) ∧ J 8 0 1 = tk_t k ∧ (tk_t k = 1 ∨ tk_t k = 2 → J 8 0 3 = tk_v k)
/-- the words of the reference -/
def tk_K (J : ma_I) : Prop := (∀ i, i ≤ 12 → J 53 0 i = Int32.ofNat (tk_S i)) ∧ ∀ i, i < 12 → ∀ k, k < tk_S (i + 1) - tk_S i → J 52 0 (tk_S i + k) = (tk_W i).getD k 0
section TOK
variable {d : Nat} {I : ma_I} {o : Nat} {Q : ma_Q} {σ : ma_I} {n : Nat}
theorem mo_137 {p : Nat} (hn : I 40 0 12 = Int32.ofNat n) (hn1 : n ≤ 160) (hp : p ≤ n) (h : Q (some (.inl (if p < n ∧ tk_al (I 49 0 p) = true then 1 else 0))) I o) : Exm d 137 [.inr (.inr (40, 0)), .inl (Int32.ofNat p)] I o Q := by
  refine e_137 ?_
  rw [hn, in_cl (by omega)]
  unfold tk_al at h
  refine ⟨fun c => ?_, fun c => ⟨?_, fun c2 => ?_, fun c2 => ⟨?_, fun c3 => ?_, fun c3 => ?_⟩⟩⟩
  · have := (in_le (by omega) (by omega)).mp c
    rw [if_neg (by omega)] at h; exact h
  · have := (in_lt (by omega) (by omega)).mp c
    exact in_in (by omega) (by omega)
  · rw [if_neg (fun q => by have := (of_decide_eq_true q.2).1; exact absurd c2 (Int32.not_lt.mpr this))] at h; exact h
  · have := (in_lt (by omega) (by omega)).mp c
    exact in_in (by omega) (by omega)
  · rw [if_neg (fun q => by have := (of_decide_eq_true q.2).2; exact absurd c3 (Int32.not_lt.mpr this))] at h; exact h
  · have := (in_lt (by omega) (by omega)).mp c
    rw [if_pos ⟨this, decide_eq_true ⟨c2, c3⟩⟩] at h; exact h
theorem mo_138 {p : Nat} (hn : I 40 0 12 = Int32.ofNat n) (hn1 : n ≤ 160) (hp : p ≤ n) (h : Q (some (.inl (if p < n ∧ tk_dg (I 49 0 p) = true then 1 else 0))) I o) : Exm d 138 [.inr (.inr (40, 0)), .inl (Int32.ofNat p)] I o Q := by
  refine e_138 ?_
  rw [hn, in_cl (by omega)]
  unfold tk_dg at h
  refine ⟨fun c => ?_, fun c => ⟨?_, fun c2 => ?_, fun c2 => ⟨?_, fun c3 => ?_, fun c3 => ?_⟩⟩⟩
  · have := (in_le (by omega) (by omega)).mp c
    rw [if_neg (by omega)] at h; exact h
  · have := (in_lt (by omega) (by omega)).mp c
    exact in_in (by omega) (by omega)
  · rw [if_neg (fun q => by have := (of_decide_eq_true q.2).1; exact absurd c2 (Int32.not_lt.mpr this))] at h; exact h
  · have := (in_lt (by omega) (by omega)).mp c
    exact in_in (by omega) (by omega)
  · rw [if_neg (fun q => by have := (of_decide_eq_true q.2).2; exact absurd c3 (Int32.not_lt.mpr this))] at h; exact h
  · have := (in_lt (by omega) (by omega)).mp c
    rw [if_pos ⟨this, decide_eq_true ⟨c2, c3⟩⟩] at h; exact h
/-- what of a token the reference writes -/
abbrev fr_tk : List Nat := [1017, 1018, 1019, 1020]
theorem L_len {b : Nat → Int32} {s e : Nat} : (tk_L b s e).length = e - s := by unfold tk_L; rw [List.length_map, List.length_range]
theorem L_get {b : Nat → Int32} {s e k : Nat} (hk : k < e - s) : (tk_L b s e).getD k 0 = b (s + k) := by
  unfold tk_L
  rw [List.getD_eq_getElem?_getD, List.getElem?_map, List.getElem?_range hk]
  rfl
theorem is_of {b : Nat → Int32} {s e i : Nat} : tk_is b s e i = true ↔ e - s = (tk_W i).length ∧ ∀ k, k < e - s → b (s + k) = (tk_W i).getD k 0 := by
  unfold tk_is
  rw [decide_eq_true_iff]
  constructor
  · intro h
    refine ⟨by rw [← h, L_len], fun k hk => by rw [← h, L_get hk]⟩
  · rintro ⟨h1, h2⟩
    apply List.ext_getElem
    · rw [L_len]; exact h1
    · intro k hk1 hk2
      have e1 := L_get (b := b) (s := s) (e := e) (k := k) (by rw [L_len] at hk1; exact hk1)
      have e2 := h2 k (by rw [L_len] at hk1; exact hk1)
      rw [List.getD_eq_getElem?_getD, List.getElem?_eq_getElem hk1] at e1
      rw [List.getD_eq_getElem?_getD, List.getElem?_eq_getElem hk2] at e2
      exact e1.trans e2
end TOK

/-! ===== all levels together ===== -/
section CRK
variable {I0 : ma_I} {q : Nat} {n : Nat} {b : Nat → Int32}
theorem lv_pos {L : Nat} : 1 ≤ lv L := by
  unfold lv
  split
  · omega
  split
  · omega
  split
  · omega
  split
  · omega
  split
  · omega
  omega
theorem bel_0 {D m L a : Nat} : bel I0 b n q D m L a 0 := by
  intro f' k out J Q hf hfu
  have := lv_pos (L := L)
  omega
theorem crk (hB : cb I0 b n) : ∀ (m a : Nat), a + m = 5 → ∀ (D f : Nat), 7 + 6 * m ≤ D → bel I0 b n q D 36 7 a f ∧ bel I0 b n q (D + 1) 35 6 a f ∧ bel I0 b n q (D + 2) 34 5 a f ∧ bel I0 b n q (D + 3) 33 3 a f ∧ bel I0 b n q (D + 4) 32 2 a f ∧ bel I0 b n q (D + 5) 31 1 a f := by
  intro m
  induction m with
  | zero =>
    intro a ham
    have h36 : ∀ D f, 7 ≤ D → bel I0 b n q D 36 7 a f := by
      intro D f hD
      obtain ⟨d, rfl⟩ : ∃ d, D = d + 7 := ⟨D - 7, by omega⟩
      match f with
      | 0 => exact bel_0
      | f + 1 => exact bel36 hB (by omega) (fun h => by omega) (fun h => by omega)
    have h35 : ∀ D f, 7 ≤ D → bel I0 b n q (D + 1) 35 6 a f := by
      intro D f hD
      obtain ⟨d, rfl⟩ : ∃ d, D = d + 6 := ⟨D - 6, by omega⟩
      match f with
      | 0 => exact bel_0
      | f + 1 => exact bel35 hB (h36 (d + 6) f hD)
    have h34 : ∀ D f, 7 ≤ D → bel I0 b n q (D + 2) 34 5 a f := by
      intro D f hD
      obtain ⟨d, rfl⟩ : ∃ d, D = d + 5 := ⟨D - 5, by omega⟩
      match f with
      | 0 => exact bel_0
      | f + 1 => exact bel34 hB (h35 (d + 5) f hD)
    have h33 : ∀ D f, 7 ≤ D → bel I0 b n q (D + 3) 33 3 a f := by
      intro D f hD
      obtain ⟨d, rfl⟩ : ∃ d, D = d + 4 := ⟨D - 4, by omega⟩
      match f with
      | 0 => exact bel_0
      | f + 1 => exact bel33 hB (by omega) (h34 (d + 4) f hD) (fun h => by omega)
    have h32 : ∀ D f, 7 ≤ D → bel I0 b n q (D + 4) 32 2 a f := by
      intro D f hD
      obtain ⟨d, rfl⟩ : ∃ d, D = d + 3 := ⟨D - 3, by omega⟩
      match f with
      | 0 => exact bel_0
      | f + 1 => exact bel32 hB (h33 (d + 3) f hD)
    have h31 : ∀ D f, 7 ≤ D → bel I0 b n q (D + 5) 31 1 a f := by
      intro D f hD
      obtain ⟨d, rfl⟩ : ∃ d, D = d + 2 := ⟨D - 2, by omega⟩
      match f with
      | 0 => exact bel_0
      | f + 1 => exact bel31 hB (h32 (d + 2) f hD)
    intro D f hD
    exact ⟨h36 D f hD, h35 D f hD, h34 D f hD, h33 D f hD, h32 D f hD, h31 D f hD⟩
  | succ m ih =>
    intro a ham
    have up := ih (a + 1) (by omega)
    have h36 : ∀ D f, 7 + 6 * (m + 1) ≤ D → bel I0 b n q D 36 7 a f := by
      intro D f hD
      obtain ⟨d, rfl⟩ : ∃ d, D = d + 7 := ⟨D - 7, by omega⟩
      match f with
      | 0 => exact bel_0
      | f + 1 => exact bel36 hB (by omega) (fun _ => (up (d + 6) f (by omega)).1) (fun _ => (up (d + 1) f (by omega)).2.2.2.2.2)
    have h35 : ∀ D f, 7 + 6 * (m + 1) ≤ D → bel I0 b n q (D + 1) 35 6 a f := by
      intro D f hD
      obtain ⟨d, rfl⟩ : ∃ d, D = d + 6 := ⟨D - 6, by omega⟩
      match f with
      | 0 => exact bel_0
      | f + 1 => exact bel35 hB (h36 (d + 6) f hD)
    have h34 : ∀ D f, 7 + 6 * (m + 1) ≤ D → bel I0 b n q (D + 2) 34 5 a f := by
      intro D f hD
      obtain ⟨d, rfl⟩ : ∃ d, D = d + 5 := ⟨D - 5, by omega⟩
      match f with
      | 0 => exact bel_0
      | f + 1 => exact bel34 hB (h35 (d + 5) f hD)
    have h33 : ∀ D f, 7 + 6 * (m + 1) ≤ D → bel I0 b n q (D + 3) 33 3 a f := by
      intro D f hD
      obtain ⟨d, rfl⟩ : ∃ d, D = d + 4 := ⟨D - 4, by omega⟩
      match f with
      | 0 => exact bel_0
      | f + 1 => exact bel33 hB (by omega) (h34 (d + 4) f hD) (fun _ => (up (d + 3) f (by omega)).2.2.2.1)
    have h32 : ∀ D f, 7 + 6 * (m + 1) ≤ D → bel I0 b n q (D + 4) 32 2 a f := by
      intro D f hD
      obtain ⟨d, rfl⟩ : ∃ d, D = d + 3 := ⟨D - 3, by omega⟩
      match f with
      | 0 => exact bel_0
      | f + 1 => exact bel32 hB (h33 (d + 3) f hD)
    have h31 : ∀ D f, 7 + 6 * (m + 1) ≤ D → bel I0 b n q (D + 5) 31 1 a f := by
      intro D f hD
      obtain ⟨d, rfl⟩ : ∃ d, D = d + 2 := ⟨D - 2, by omega⟩
      match f with
      | 0 => exact bel_0
      | f + 1 => exact bel31 hB (h32 (d + 2) f hD)
    intro D f hD
    exact ⟨h36 D f hD, h35 D f hD, h34 D f hD, h33 D f hD, h32 D f hD, h31 D f hD⟩
/-- what is joined by 'or', outside of brackets -/
theorem xs_31 {d : Nat} {k : tk} {out : List Int32} {J : ma_I} {Q : ma_Q} (hB : cb I0 b n) (hw : tw n k) (hlen : out.length ≤ tk_s k) (hc : cx I0 q k out J) (hp : cp I0 q (ps b n (8 * n + 6) 1 0 k out) Q) : Exm (d + 42) 31 [.inr (.inr (9, 0)), .inl 0] J q Q :=
  (crk hB 5 0 rfl (d + 37) (8 * n + 6) (by omega)).2.2.2.2.2 (8 * n + 6) k out J Q (Nat.le_refl _) (by show 8 * (n - tk_s k) + 6 ≤ _; omega) hw hlen hc hp
end CRK

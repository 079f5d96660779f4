/-! ===== how the class reads ===== -/
def cf (I0 : ma_I) (q : Nat) (k : tk) (J : ma_I) : Prop := fr [2001, 2002, 2003, 2004, 19, 20] I0 J ∧ (∀ t, t ≠ q → ∀ j, J 20 t j = I0 20 t j) ∧ tk_C J k ∧ ∃ m : Nat, m ≤ 160 ∧ J 19 q 0 = Int32.ofNat m
def cx (I0 : ma_I) (q : Nat) (k : tk) (out : List Int32) (J : ma_I) : Prop := cf I0 q k J ∧ J 19 q 0 = Int32.ofNat out.length ∧ ∀ i, i < out.length → J 20 q i = pu_ec (out.getD i 0)
/-- what holds of tape and words all the while -/
def cb (I0 : ma_I) (b : Nat → Int32) (n : Nat) : Prop := tk_M I0 ∧ I0 8 0 0 = Int32.ofNat n ∧ n ≤ 160 ∧ ∀ k, k < n → I0 31 0 k = b k
section CRD
variable {d : Nat} {I0 J : ma_I} {q : Nat} {Q : ma_Q} {n : Nat} {b : Nat → Int32} {k : tk} {out : List Int32}
theorem ck_1 (hB : cb I0 b n) (hw : tw n k) (hf : fr [2001, 2002, 2003, 2004, 19, 20] I0 J) (hC : tk_C J k) (h : ∀ J', fr [2001, 2002, 2003, 2004] J J' → tk_C J' (tk_n2 b n k) → Q none J' q) : Exm (d + 6) 45 [.inr (.inr (8, 0))] J q Q := by
  obtain ⟨h1, h2, h3, h4⟩ := hB
  refine xs_45 (n := n) (b := b) (p := tk_e k) (fun i hi m hm => ?_) ?_ h3 hw.2.1 hC.2.1 (fun m hm => ?_) h
  · rw [fr_g hf 3 i m (by decide) (by decide) (by decide)]; exact h1 i hi m hm
  · rw [hf 8 0 0 (by decide)]; exact h2
  · rw [fr_g hf 31 0 m (by decide) (by decide) (by decide)]; exact h4 m hm
theorem cf_next (hB : cb I0 b n) (hw : tw n k) (hc : cf I0 q k J) (h : ∀ J', cf I0 q (tk_n2 b n k) J' → Q none J' q) : Exm (d + 6) 45 [.inr (.inr (8, 0))] J q Q := by
  obtain ⟨c1, c2, c3, m, c4, c5⟩ := hc
  refine ck_1 hB hw c1 c3 (fun J' hJ hC => h J' ⟨fr_trans c1 (fr_mono hJ (by decide)), fun t ht j => ?_, hC, m, c4, ?_⟩)
  · rw [fr_g hJ 20 t j (by decide) (by decide) (by decide)]; exact c2 t ht j
  · rw [fr_g hJ 19 q 0 (by decide) (by decide) (by decide)]; exact c5
theorem cx_next (hB : cb I0 b n) (hw : tw n k) (hc : cx I0 q k out J) (h : ∀ J', cx I0 q (tk_n2 b n k) out J' → Q none J' q) : Exm (d + 6) 45 [.inr (.inr (8, 0))] J q Q := by
  obtain ⟨⟨c1, c2, c3, m, c4, c5⟩, c6, c7⟩ := hc
  refine ck_1 hB hw c1 c3 (fun J' hJ hC => h J' ⟨⟨fr_trans c1 (fr_mono hJ (by decide)), fun t ht j => ?_, hC, m, c4, ?_⟩, ?_, fun i hi => ?_⟩)
  · rw [fr_g hJ 20 t j (by decide) (by decide) (by decide)]; exact c2 t ht j
  · rw [fr_g hJ 19 q 0 (by decide) (by decide) (by decide)]; exact c5
  · rw [fr_g hJ 19 q 0 (by decide) (by decide) (by decide)]; exact c6
  · rw [fr_g hJ 20 q i (by decide) (by decide) (by decide)]; exact c7 i hi
theorem cf_add {v : Int32} (hc : cf I0 q k J) (h : ∀ J', cf I0 q k J' → Q none J' q) : Exm d 53 [.inr (.inr (19, q)), .inl v] J q Q := by
  obtain ⟨c1, c2, c3, m, c4, c5⟩ := hc
  refine e_53 ?_
  rw [c5, in_cl (by omega), in_a1]
  refine ⟨fun _ => h J ⟨c1, c2, c3, m, c4, c5⟩, fun c => ?_⟩
  have hm := (in_lt (b := 160) (by omega) (by decide)).mp c
  refine ⟨in_in (by omega) hm, h _ ⟨fr_upg (fr_upg c1 (by decide) (by decide) (by decide)) (by decide) (by decide) (by decide), fun t ht j => ?_, ?_, m + 1, by omega, xv_us⟩⟩
  · rw [up_g (by decide), up_ne (fun e => ht e.2.1)]; exact c2 t ht j
  · unfold tk_C
    rw [up_g (by decide), up_g (by decide), up_g (by decide), up_g (by decide), up_g (by decide), up_g (by decide), up_g (by decide), up_g (by decide)]
    exact c3
theorem cx_add {c : Int32} (hl : out.length < 160) (hc : cx I0 q k out J) (h : ∀ J', cx I0 q k (out ++ [c]) J' → Q none J' q) : Exm d 53 [.inr (.inr (19, q)), .inl (pu_ec c)] J q Q := by
  obtain ⟨⟨c1, c2, c3, m, c4, c5⟩, c6, c7⟩ := hc
  refine e_53 ?_
  rw [c6, in_cl (by omega), in_a1]
  refine ⟨fun cc => ?_, fun _ => ⟨in_in (by omega) hl, h _ ⟨⟨fr_upg (fr_upg c1 (by decide) (by decide) (by decide)) (by decide) (by decide) (by decide), fun t ht j => ?_, ?_, out.length + 1, by omega, xv_us⟩, ?_, fun i hi => ?_⟩⟩⟩
  · have := (in_le (a := 160) (by decide) (by omega)).mp cc
    omega
  · rw [up_g (by decide), up_ne (fun e => ht e.2.1)]; exact c2 t ht j
  · unfold tk_C
    rw [up_g (by decide), up_g (by decide), up_g (by decide), up_g (by decide), up_g (by decide), up_g (by decide), up_g (by decide), up_g (by decide)]
    exact c3
  · rw [xv_us, List.length_append]; rfl
  · rw [List.length_append] at hi
    have hi' : i < out.length + 1 := hi
    rw [up_g (by decide), List.getD_eq_getElem?_getD]
    by_cases e : i = out.length
    · subst e
      rw [xv_us, List.getElem?_append_right (Nat.le_refl _), Nat.sub_self]
      rfl
    · rw [up_j e, List.getElem?_append_left (by omega), ← List.getD_eq_getElem?_getD]
      exact c7 i (by omega)
end CRD

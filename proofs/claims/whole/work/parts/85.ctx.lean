/-! ===== the three parts of a text, in the class ===== -/
abbrev fr_ct : List Nat := [2001, 2002, 2003, 2004, 19, 20, 21]
def cw (I0 : ma_I) (q : Nat) (J : ma_I) : Prop := fr fr_ct I0 J ∧ ∀ t, t ≠ q → ∀ j, J 20 t j = I0 20 t j ∧ J 21 t j = I0 21 t j
/-- how the class holds the parts that were read -/
def cl (q : Nat) (cs : List (List Int32)) (J : ma_I) : Prop := (∀ i, i < cs.flatten.length → J 20 q i = pu_ec (cs.flatten.getD i 0)) ∧ ∀ p, p < cs.length → J 21 q p = Int32.ofNat (cs.take (p + 1)).flatten.length
theorem fl_ap {cs : List (List Int32)} {c : List Int32} : (cs ++ [c]).flatten = cs.flatten ++ c := by simp
theorem tk_ap1 {cs : List (List Int32)} {c : List Int32} {p : Nat} (h : p < cs.length) : (cs ++ [c]).take (p + 1) = cs.take (p + 1) := List.take_append_of_le_length h
theorem tk_ap2 {cs : List (List Int32)} {c : List Int32} : (cs ++ [c]).take (cs.length + 1) = cs ++ [c] := List.take_of_length_le (by rw [List.length_append]; exact Nat.le_refl _)
section CTX
variable {d : Nat} {I0 : ma_I} {q : Nat} {n : Nat} {b : Nat → Int32}
theorem cb_fr {J : ma_I} (hB : cb I0 b n) (hf : fr fr_ct I0 J) : cb J b n := by
  obtain ⟨h1, h2, h3, h4⟩ := hB
  refine ⟨fun i hi m hm => ?_, ?_, h3, fun m hm => ?_⟩
  · rw [fr_g hf 3 i m (by decide) (by decide) (by decide)]; exact h1 i hi m hm
  · rw [hf 8 0 0 (by decide)]; exact h2
  · rw [fr_g hf 31 0 m (by decide) (by decide) (by decide)]; exact h4 m hm
theorem loop30 (hB : cb I0 b n) {Q : ma_Q} : ∀ (m p : Nat) (k : tk) (cs : List (List Int32)) (J : ma_I), m + p = 3 → tw n k → cs.length = p → cs.flatten.length ≤ tk_s k → cw I0 q J → tk_C J k → J 19 q 0 = Int32.ofNat cs.flatten.length → cl q cs J →
    ((px b n m p k cs).1 = -1 → ∀ J, cw I0 q J → (px b n m p k cs).2.length = 3 → (px b n m p k cs).2.flatten.length ≤ 160 → cl q (px b n m p k cs).2 J → Q (some (.inl (-1))) J q) →
    ((px b n m p k cs).1 ≠ -1 → ∀ J, cw I0 q J → Q (some (.inl (px b n m p k cs).1)) J q) →
    Ex (d + 42 + 1) 30 (21, [vR 9 0, vR 19 q, vI (Int32.ofNat p)], [], ma_mem J q, 0, 0) (ma_end Q) := by
  intro m
  have hn := hB.2.2.1
  induction m with
  | zero =>
    intro p k cs J hmp hw hp hlen hcw hC h19 hcl hy hz
    have hp3 : p = 3 := by omega
    have hs : tk_s k ≤ n := Nat.le_trans hw.1 hw.2.1
    unfold px at hy hz
    refine b_30_21 ⟨fun _ => ?_, fun c => ?_⟩
    · rw [hC.2.2.1, hC.1]
      refine ⟨fun c => ?_, fun c => ?_⟩
      · rw [if_pos c] at hz
        exact hz (in_nm (by omega)) J hcw
      · rw [if_neg (fun q => q c)] at hy
        exact hy rfl J hcw (by show cs.length = 3; omega) (by show cs.flatten.length ≤ 160; omega) hcl
    · have := (in_lt (b := 3) (by omega) (by decide)).mp c
      omega
  | succ m ih =>
    intro p k cs J hmp hw hp hlen hcw hC h19 hcl hy hz
    have hs : tk_s k ≤ n := Nat.le_trans hw.1 hw.2.1
    have e4 : (4 : Int32) + Int32.ofNat p = Int32.ofNat (4 + p) := (Int32.ofNat_add 4 p).symm
    unfold px at hy hz
    refine b_30_21 ⟨fun c => ?_, fun _ => ?_⟩
    · have := (in_le (a := 3) (by decide) (by omega)).mp c
      omega
    rw [hC.2.2.1, hC.1, e4]
    refine ⟨fun c => ?_, fun c => ?_⟩
    · rw [if_pos c] at hy hz
      obtain ⟨n1, n2, n3⟩ := n2_wf (b := b) hw
      have hBJ := cb_fr hB hcw.1
      have hcx : cx J q k cs.flatten J := ⟨⟨fr_refl _ _, fun _ _ _ => rfl, hC, cs.flatten.length, by omega, h19⟩, h19, hcl.1⟩
      refine cx_next hBJ hw hcx (fun J1 hc1 => ⟨rfl, ?_⟩)
      have hpg := ps_pg (b := b) (8 * n + 6) 1 0 (tk_n2 b n k) cs.flatten n1
      have hap := ps_nl (b := b) (n := n) (f := 8 * n + 6) (L := 1) (a := 0) (k := tk_n2 b n k) (out := cs.flatten)
      obtain ⟨g1, g2, g3⟩ := hpg
      have fin : ∀ (J' : ma_I) (k' : tk), cf J q k' J' → cw I0 q J' := by
        intro J' k' hc
        refine ⟨fr_trans hcw.1 (fr_mono hc.1 (by decide)), fun t ht j => ⟨?_, ?_⟩⟩
        · rw [hc.2.1 t ht j]; exact (hcw.2 t ht j).1
        · rw [fr_g hc.1 21 t j (by decide) (by decide) (by decide)]; exact (hcw.2 t ht j).2
      have hs3 : tk_s (ps b n (8 * n + 6) 1 0 (tk_n2 b n k) cs.flatten).2.1 ≤ n := Nat.le_trans g1.1 g1.2.1
      have ek : (ps b n (8 * n + 6) 1 0 (tk_n2 b n k) cs.flatten).2.1 = (ps b n (8 * n + 6) 1 0 (tk_n2 b n k) []).2.1 := by rw [hap]; rfl
      have eb : (ps b n (8 * n + 6) 1 0 (tk_n2 b n k) cs.flatten).1 = (ps b n (8 * n + 6) 1 0 (tk_n2 b n k) []).1 := by rw [hap]; rfl
      have eo : (ps b n (8 * n + 6) 1 0 (tk_n2 b n k) cs.flatten).2.2 = cs.flatten ++ (ps b n (8 * n + 6) 1 0 (tk_n2 b n k) []).2.2 := by rw [hap]; rfl
      refine xs_31 hBJ n1 (by omega) hc1 ⟨fun r1 J3 hc3 => ⟨_, rfl, fun c0 => absurd c0 (by decide), fun _ => ?_⟩, fun r1 J3 hc3 => ⟨_, rfl, fun _ => ?_, fun c0 => absurd rfl c0⟩⟩
      · rw [hc3.1.2.2.1.2.2.1, hc3.1.2.2.1.1]
        have g4 := (g3 r1).1
        refine ⟨fun c59 => ?_, fun c59 => ?_⟩
        · rw [ek] at c59
          rw [eb] at r1
          rw [if_pos ⟨r1, c59⟩] at hy hz
          refine cx_next hBJ g1 hc3 (fun J6 hc6 => ⟨rfl, ?_⟩)
          refine e_54 ⟨in_in (by omega) (by omega), rfl, ?_⟩
          rw [in_cl (by omega), in_a1]
          obtain ⟨m1, m2, m3⟩ := n2_wf (b := b) g1
          have hw6 := fin J6 _ hc6.1
          rw [← ek] at hy hz
          have efl : (cs ++ [(ps b n (8 * n + 6) 1 0 (tk_n2 b n k) []).2.2]).flatten = (ps b n (8 * n + 6) 1 0 (tk_n2 b n k) cs.flatten).2.2 := by rw [fl_ap, eo]
          refine ih (p + 1) _ _ _ (by omega) m1 (by rw [List.length_append, hp]; rfl) ?_ ?_ ?_ ?_ ?_ hy hz
          · rw [efl]; omega
          · refine ⟨fr_upg hw6.1 (by decide) (by decide) (by decide), fun t ht j => ⟨?_, ?_⟩⟩
            · rw [up_g (by decide)]; exact (hw6.2 t ht j).1
            · rw [up_ne (fun e => ht e.2.1)]; exact (hw6.2 t ht j).2
          · unfold tk_C
            rw [up_g (by decide), up_g (by decide), up_g (by decide), up_g (by decide)]
            exact hc6.1.2.2.1
          · rw [up_g (by decide), hc6.2.1, efl]
          · refine ⟨fun i hi => ?_, fun p' hp' => ?_⟩
            · rw [efl] at hi ⊢
              rw [up_g (by decide)]
              exact hc6.2.2 i hi
            · rw [List.length_append] at hp'
              have hp2 : p' < cs.length + 1 := hp'
              by_cases e : p' = p
              · subst e
                rw [xv_us, hc6.2.1, ← hp, tk_ap2, efl]
              · rw [up_j e, tk_ap1 (by omega), fr_g hc6.1.1 21 q p' (by decide) (by decide) (by decide)]
                exact hcl.2 p' (by omega)
        · rw [ek] at c59 ⊢
          rw [if_neg (fun q => c59 q.2)] at hz
          refine hz (in_nm ?_) J3 (fin J3 _ hc3.1)
          rw [← ek]; omega
      · rw [hc3.2.2.1.1, ek]
        rw [eb] at r1
        rw [if_neg (fun q => r1 q.1)] at hz
        refine hz (in_nm ?_) J3 (fin J3 _ hc3)
        rw [← ek]; omega
    · rw [if_neg c] at hz
      exact hz (in_nm (by omega)) J hcw
theorem xs_30 {I : ma_I} {o : Nat} {Q : ma_Q} (hB : cb I b n)
    (hy : (px b n 3 0 (tk_nx b n 0) []).1 = -1 → ∀ J, cw I q J → (px b n 3 0 (tk_nx b n 0) []).2.length = 3 → (px b n 3 0 (tk_nx b n 0) []).2.flatten.length ≤ 160 → cl q (px b n 3 0 (tk_nx b n 0) []).2 J → Q (some (.inl (-1))) J q)
    (hz : (px b n 3 0 (tk_nx b n 0) []).1 ≠ -1 → ∀ J, cw I q J → Q (some (.inl (px b n 3 0 (tk_nx b n 0) []).1)) J q) : Exm (d + 43) 30 [.inr (.inr (9, 0)), .inr (.inr (19, q))] I o Q := by
  refine e_30 (e_52 ⟨rfl, ?_⟩)
  refine e_44 ?_
  obtain ⟨h1, h2, h3, h4⟩ := hB
  have hf : fr fr_ct I (ma_up (ma_up I 19 q 0 0) 8 0 4 0) := fr_up1 (fr_upg (fr_refl _ _) (by decide) (by decide) (by decide)) (by decide)
  obtain ⟨k1, k2, k3, k4⟩ := cb_fr ⟨h1, h2, h3, h4⟩ hf
  refine xs_45 (n := n) (b := b) (p := 0) k1 k2 h3 (by omega) xv_us k4 (fun J hJ hC => ⟨rfl, rfl, ?_⟩)
  have hJ2 : fr fr_ct (ma_up (ma_up I 19 q 0 0) 8 0 4 0) J := fr_mono hJ (by decide)
  refine loop30 ⟨h1, h2, h3, h4⟩ 3 0 _ [] J rfl (nx_wf (b := b) (n := n) (p := 0) (by omega)).1 rfl (Nat.zero_le _) ⟨fr_trans hf hJ2, fun t ht j => ⟨?_, ?_⟩⟩ hC ?_ ⟨fun i hi => absurd hi (Nat.not_lt_zero _), fun p hp => absurd hp (Nat.not_lt_zero _)⟩ hy hz
  · rw [fr_g hJ 20 t j (by decide) (by decide) (by decide), up_g (by decide), up_g (by decide)]
  · rw [fr_g hJ 21 t j (by decide) (by decide) (by decide), up_g (by decide), up_g (by decide)]
  · rw [fr_g hJ 19 q 0 (by decide) (by decide) (by decide), up_g (by decide), xv_us]; rfl
end CTX

/-! ===== numbers, names, minus, brackets ===== -/
section CRO
variable {d : Nat} {I0 : ma_I} {q : Nat} {n : Nat} {b : Nat → Int32} {a : Nat}
theorem ec_num {x : Nat} (h : x ≤ 9999) : pu_ec (-1 - Int32.ofNat x) = Int32.ofNat x := by
  have hneg : (-1 : Int32) - Int32.ofNat x < 0 := by
    rw [Int32.lt_iff_toInt_lt, Int32.toInt_sub, in_ti (by omega)]
    have e1 : (-1 : Int32).toInt = -1 := rfl
    have e0 : (0 : Int32).toInt = 0 := rfl
    rw [e1, e0, Int.bmod_eq_of_le (by omega) (by omega)]
    omega
  unfold pu_ec
  rw [if_pos hneg]
  apply Int32.toInt.inj
  have e1 : (-1 : Int32).toInt = -1 := rfl
  rw [Int32.toInt_sub, Int32.toInt_sub, in_ti (by omega), e1, Int.bmod_eq_of_le (n := -1 - (x : Int)) (by omega) (by omega), Int.bmod_eq_of_le (by omega) (by omega)]
  omega
theorem ec_nam : ∀ x, x < 6 → pu_ec (Int32.ofNat x) = 10000 + Int32.ofNat x := by decide +kernel
theorem bel36 {f : Nat} (hB : cb I0 b n) (ha : a ≤ 5) (h36 : a < 5 → bel I0 b n q (d + 6) 36 7 (a + 1) f) (h31 : a < 5 → bel I0 b n q (d + 6) 31 1 (a + 1) f) : bel I0 b n q (d + 7) 36 7 a (f + 1) := by
  intro f' k out J Q hf hfu hw hlen hc hp
  have hn := hB.2.2.1
  match f', hf, hfu, hp with
  | 0, _, hfu, _ => exact absurd hfu (by show ¬8 * (n - tk_s k) + 1 ≤ 0; omega)
  | g + 1, hf, hfu, hp =>
    have hfu' : 8 * (n - tk_s k) + 1 ≤ g + 1 := hfu
    have heq : ps b n (g + 1) 7 a k out = (if tk_t k = 1 then (true, tk_n2 b n k, out ++ [-1 - tk_v k])
      else if tk_t k = 2 then (true, tk_n2 b n k, out ++ [tk_v k])
      else if tk_t k = 45 then (if a < 5 then pb (ps b n g 7 (a + 1) (tk_n2 b n k) out) (fun k' o' => (true, k', o' ++ [18])) else (false, k, out))
      else if tk_t k = 40 then (if a < 5 then pb (ps b n g 1 (a + 1) (tk_n2 b n k) out) (fun k' o' => if tk_t k' = 41 then (true, tk_n2 b n k', o') else (false, k', o')) else (false, k, out))
      else (false, k, out)) := rfl
    rw [heq] at hp
    have ht : J 8 0 1 = tk_t k := hc.1.2.2.1.2.2.1
    have hv : tk_t k = 1 ∨ tk_t k = 2 → J 8 0 3 = tk_v k := hc.1.2.2.1.2.2.2
    have hs : tk_s k ≤ n := Nat.le_trans hw.1 hw.2.1
    have h5 : (Int32.ofNat a < (5 : Int32) ↔ a < 5) := in_lt (b := 5) (by omega) (by decide)
    have h5' : ((5 : Int32) ≤ Int32.ofNat a ↔ 5 ≤ a) := in_le (a := 5) (by decide) (by omega)
    obtain ⟨n1, n2, n3⟩ := n2_wf (b := b) hw
    have hs2 : tk_s (tk_n2 b n k) ≤ n := Nat.le_trans n1.1 n1.2.1
    have fail : ∀ r : tr, r = (false, k, out) → cp I0 q r Q → Q (some (.inl 0)) J q := fun r hr hq => by
      subst hr
      exact hq.2 (by intro w; cases w) J hc.1
    refine e_36 ?_
    rw [ht, h5, h5', in_a1]
    refine ⟨fun c => ⟨fun w => absurd c w, fun _ => ?_⟩, fun c => ⟨fun c2 => ⟨fun c45 => ⟨fun c5 => ⟨fun w => absurd c45 w, fun _ => ?_⟩, fun c5 => ?_⟩, fun c45 => ⟨fun c40 => ?_, fun c40 => ⟨fun c5 => ⟨fun _ => ?_, fun w => absurd w c45⟩, fun c5 => ?_⟩⟩⟩, fun c2 => ⟨fun _ => ?_, fun w => absurd w c⟩⟩⟩
    · rw [if_pos c] at hp
      obtain ⟨x, ex, -, hx⟩ := hw.2.2.2.1 c
      have e1 : J 8 0 3 = pu_ec (-1 - tk_v k) := by rw [hv (Or.inl c), ex, ec_num hx]
      have n4 := n3 (by rw [c]; decide)
      rw [e1]
      exact cx_add (by omega) hc (fun J5 hc5 => ⟨rfl, cx_next hB hw hc5 (fun J7 hc7 => ⟨rfl, hp.1 rfl J7 hc7⟩)⟩)
    · rw [if_neg c, if_neg c2, if_pos c45, if_pos c5] at hp
      have n4 := n3 (by rw [c45]; decide)
      have hpg := ps_pg (b := b) g 7 (a + 1) (tk_n2 b n k) out n1
      refine cx_next hB hw hc (fun J1 hc1 => ⟨rfl, ?_⟩)
      refine h36 c5 g (tk_n2 b n k) out J1 _ (by omega) (by show 8 * (n - tk_s (tk_n2 b n k)) + 1 ≤ g; omega) n1 (by omega) hc1 ⟨fun r1 J3 hc3 => ⟨_, rfl, ?_⟩, fun r1 J3 hc3 => ⟨_, rfl, ?_⟩⟩
      · rw [pb_t r1] at hp
        obtain ⟨u1, u2, u3⟩ := hpg
        obtain ⟨u4, u5⟩ := u3 r1
        have u6 := u5 (by decide)
        have hs3 : tk_s (ps b n g 7 (a + 1) (tk_n2 b n k) out).2.1 ≤ n := Nat.le_trans u1.1 u1.2.1
        exact cx_add (c := 18) (by omega) hc3 (fun J6 hc6 => ⟨rfl, Or.inr rfl, hp.1 rfl J6 hc6⟩)
      · rw [pb_f r1] at hp
        exact cf_add hc3 (fun J6 hc6 => ⟨rfl, Or.inl rfl, hp.2 r1 J6 hc6⟩)
    · rw [if_neg c, if_neg c2, if_pos c45, if_neg (by omega)] at hp
      exact fail _ rfl hp
    · rw [if_neg c, if_neg c2, if_neg c45, if_neg c40] at hp
      exact fail _ rfl hp
    · rw [if_neg c, if_neg c2, if_neg c45, if_pos c40, if_pos c5] at hp
      have n4 := n3 (by rw [c40]; decide)
      have hpg := ps_pg (b := b) g 1 (a + 1) (tk_n2 b n k) out n1
      refine cx_next hB hw hc (fun J1 hc1 => ⟨rfl, ?_⟩)
      refine h31 c5 g (tk_n2 b n k) out J1 _ (by omega) (by show 8 * (n - tk_s (tk_n2 b n k)) + 6 ≤ g; omega) n1 (by omega) hc1 ⟨fun r1 J3 hc3 => ⟨_, rfl, fun w => absurd w (by decide), fun _ => ?_⟩, fun r1 J3 hc3 => ⟨_, rfl, fun _ => ?_, fun w => absurd rfl w⟩⟩
      · rw [pb_t r1] at hp
        have ht3 : J3 8 0 1 = tk_t (ps b n g 1 (a + 1) (tk_n2 b n k) out).2.1 := hc3.1.2.2.1.2.2.1
        rw [ht3]
        refine ⟨fun c41 => ?_, fun c41 => ?_⟩
        · rw [if_pos c41] at hp
          exact cx_next hB hpg.1 hc3 (fun J4 hc4 => ⟨rfl, hp.1 rfl J4 hc4⟩)
        · rw [if_neg c41] at hp
          exact hp.2 (by intro w; cases w) J3 hc3.1
      · rw [pb_f r1] at hp
        exact hp.2 r1 J3 hc3
    · rw [if_neg c, if_neg c2, if_neg c45, if_pos c40, if_neg (by omega)] at hp
      exact fail _ rfl hp
    · rw [if_neg c, if_pos c2] at hp
      obtain ⟨x, ex, -, hx⟩ := hw.2.2.2.2 c2
      have e1 : (10000 : Int32) + J 8 0 3 = pu_ec (tk_v k) := by rw [hv (Or.inr c2), ex, ec_nam x (by omega)]
      have n4 := n3 (by rw [c2]; decide)
      rw [e1]
      exact cx_add (by omega) hc (fun J5 hc5 => ⟨rfl, cx_next hB hw hc5 (fun J7 hc7 => ⟨rfl, hp.1 rfl J7 hc7⟩)⟩)
end CRO

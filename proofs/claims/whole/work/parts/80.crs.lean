/-! ===== sums ===== -/
section CRS
variable {d : Nat} {I0 : ma_I} {q : Nat} {n : Nat} {b : Nat → Int32} {a : Nat}
theorem loop34 {f : Nat} (hB : cb I0 b n) (hbel : bel I0 b n q (d + 6) 35 6 a f) : ∀ (f' : Nat) (k : tk) (out : List Int32) (J : ma_I) (Q : ma_Q) (i : Nat) (w : Option ma_V), f' ≤ f + 1 → 8 * (n - tk_s k) + 1 ≤ f' → tw n k → out.length ≤ tk_s k → i ≤ tk_s k → cx I0 q k out J → cp I0 q (ps b n f' 15 a k out) Q →
    Ex (d + 6 + 1) 34 (8, [vR 9 0, vI (Int32.ofNat a), vI 1, vI (Int32.ofNat i), w], [], ma_mem J q, 0, 0) (ma_end Q) := by
  have hn := hB.2.2.1
  intro f'
  induction f' with
  | zero => intro k out J Q i w _ h; omega
  | succ g ih =>
    intro k out J Q i w hg hfu hw hlen hi hc hp
    have ht : J 8 0 1 = tk_t k := hc.1.2.2.1.2.2.1
    have hs : tk_s k ≤ n := Nat.le_trans hw.1 hw.2.1
    have heq : ps b n (g + 1) 15 a k out = ps_lp 5 k out b n (ps b n g 6 a) (ps b n g 15 a) := rfl
    rw [heq] at hp
    unfold ps_lp at hp
    have big : tk_t k ≠ 0 → ¬(160 : Int32) ≤ Int32.ofNat i := by
      intro c c2
      have := (in_le (a := 160) (by decide) (by omega)).mp c2
      have hlt := hw.2.2.1 c
      have := hw.2.1
      omega
    have go : ∀ c : Int32, ps_op 5 (tk_t k) = some c → tk_t k ≠ 0 → Ex (d + 6 + 1) 34 (66, [vR 9 0, vI (Int32.ofNat a), vI 1, vI (Int32.ofNat i), vI (pu_ec c)], [], ma_mem J q, 0, 0) (ma_end Q) := by
      intro c hop h0
      rw [hop] at hp
      dsimp only at hp
      obtain ⟨n1, n2, n3⟩ := n2_wf (b := b) hw
      have n4 := n3 h0
      have hs2 : tk_s (tk_n2 b n k) ≤ n := Nat.le_trans n1.1 n1.2.1
      refine b_34_66 (cx_next hB hw hc (fun J1 hc1 => ⟨rfl, ?_⟩))
      have hpg := ps_pg (b := b) g 6 a (tk_n2 b n k) out n1
      refine hbel g (tk_n2 b n k) out J1 _ (by omega) (by show 8 * (n - tk_s (tk_n2 b n k)) + 2 ≤ g; omega) n1 (by omega) hc1 ⟨fun r1 J3 hc3 => ⟨_, rfl, ?_⟩, fun r1 J3 hc3 => ⟨_, rfl, ?_⟩⟩
      · unfold pb at hp
        rw [if_pos r1] at hp
        obtain ⟨g1, g2, g3⟩ := hpg
        obtain ⟨g4, g5⟩ := g3 r1
        have g6 := g5 (by decide)
        have hs3 : tk_s (ps b n g 6 a (tk_n2 b n k) out).2.1 ≤ n := Nat.le_trans g1.1 g1.2.1
        refine cx_add (c := c) (by omega) hc3 (fun J6 hc6 => ⟨rfl, ?_⟩)
        rw [in_a1]
        refine ih _ _ J6 Q (i + 1) _ (by omega) (by omega) g1 ?_ (by omega) hc6 hp
        rw [List.length_append]
        show _ + 1 ≤ _
        omega
      · unfold pb at hp
        rw [if_neg r1] at hp
        refine cf_add hc3 (fun J6 hc6 => ⟨rfl, ?_⟩)
        exact b_34_8 ⟨fun _ => ⟨Or.inl rfl, hp.2 r1 J6 hc6⟩, fun c => absurd rfl c⟩
    refine b_34_8 ⟨fun c => absurd c (by decide), fun _ => ?_⟩
    rw [ht]
    refine ⟨fun c => ⟨fun c2 => absurd c2 (big (by rw [c]; decide)), fun _ => ⟨fun c3 => absurd c c3, fun _ => ?_⟩⟩, fun c => ⟨fun c2 => ?_, fun c2 => ⟨fun c3 => absurd c3 (big (by rw [c2]; decide)), fun _ => ⟨fun _ => ?_, fun c4 => absurd c4 c⟩⟩⟩⟩
    · exact go 15 (by unfold ps_op; rw [if_neg (by omega), if_neg (by omega), if_pos ⟨rfl, c⟩]) (by rw [c]; decide)
    · have hop : ps_op 5 (tk_t k) = none := by
        unfold ps_op
        rw [if_neg (by omega), if_neg (by omega), if_neg (fun w => c w.2), if_neg (fun w => c2 w.2), if_neg (by omega)]
      rw [hop] at hp
      exact ⟨Or.inr rfl, hp.1 rfl J hc⟩
    · exact go 16 (by unfold ps_op; rw [if_neg (by omega), if_neg (by omega), if_neg (fun w => c w.2), if_pos ⟨rfl, c2⟩]) (by rw [c2]; decide)
theorem bel34 {f : Nat} (hB : cb I0 b n) (hbel : bel I0 b n q (d + 6) 35 6 a f) : bel I0 b n q (d + 7) 34 5 a (f + 1) := by
  intro f' k out J Q hf hfu hw hlen hc hp
  match f', hf, hfu, hp with
  | 0, _, hfu, _ => exact absurd hfu (by show ¬8 * (n - tk_s k) + 3 ≤ 0; omega)
  | g + 1, hf, hfu, hp =>
    have hfu' : 8 * (n - tk_s k) + 3 ≤ g + 1 := hfu
    have heq : ps b n (g + 1) 5 a k out = pb (ps b n g 6 a k out) (ps b n g 15 a) := rfl
    rw [heq] at hp
    have hpg := ps_pg (b := b) g 6 a k out hw
    refine e_34 (hbel g k out J _ (by omega) (by show 8 * (n - tk_s k) + 2 ≤ g; omega) hw hlen hc ⟨fun r1 J1 hc1 => ⟨_, rfl, ?_⟩, fun r1 J1 hc1 => ⟨_, rfl, ?_⟩⟩)
    · unfold pb at hp
      rw [if_pos r1] at hp
      obtain ⟨g1, g2, g3⟩ := hpg
      obtain ⟨g4, g5⟩ := g3 r1
      have g6 := g5 (by decide)
      have hs3 : tk_s (ps b n g 6 a k out).2.1 ≤ n := Nat.le_trans g1.1 g1.2.1
      exact loop34 hB hbel g _ _ J1 Q 0 none (by omega) (by omega) g1 (by omega) (by omega) hc1 hp
    · unfold pb at hp
      rw [if_neg r1] at hp
      exact b_34_8 ⟨fun _ => ⟨Or.inl rfl, hp.2 r1 J1 hc1⟩, fun c => absurd rfl c⟩
end CRS

/-! ===== not, and what compares ===== -/
section CRN
variable {d : Nat} {I0 : ma_I} {q : Nat} {n : Nat} {b : Nat → Int32} {a : Nat}
theorem pb_t {r : tr} {g : tk → List Int32 → tr} (h : r.1 = true) : pb r g = g r.2.1 r.2.2 := if_pos h
theorem pb_f {r : tr} {g : tk → List Int32 → tr} (h : ¬r.1 = true) : pb r g = r := if_neg h
theorem bel33 {f : Nat} (hB : cb I0 b n) (ha : a ≤ 5) (h34 : bel I0 b n q (d + 6) 34 5 a f) (h33 : a < 5 → bel I0 b n q (d + 6) 33 3 (a + 1) f) : bel I0 b n q (d + 7) 33 3 a (f + 1) := by
  intro f' k out J Q hf hfu hw hlen hc hp
  have hn := hB.2.2.1
  match f', hf, hfu, hp with
  | 0, _, hfu, _ => exact absurd hfu (by show ¬8 * (n - tk_s k) + 4 ≤ 0; omega)
  | g + 1, hf, hfu, hp =>
    have hfu' : 8 * (n - tk_s k) + 4 ≤ g + 1 := hfu
    have heq : ps b n (g + 1) 3 a k out = (if tk_t k = 9 then (if a < 5 then pb (ps b n g 3 (a + 1) (tk_n2 b n k) out) (fun k' o' => (true, k', o' ++ [12])) else (false, k, out))
      else pb (ps b n g 5 a k out) (fun k' o' => if tk_t k' = 60 then pb (ps b n g 5 a (tk_n2 b n k') o') (fun k2 o2 => (true, k2, o2 ++ [13])) else if tk_t k' = 61 then pb (ps b n g 5 a (tk_n2 b n k') o') (fun k2 o2 => (true, k2, o2 ++ [14])) else (true, k', o'))) := rfl
    rw [heq] at hp
    have ht : J 8 0 1 = tk_t k := hc.1.2.2.1.2.2.1
    have hs : tk_s k ≤ n := Nat.le_trans hw.1 hw.2.1
    have h5 : (Int32.ofNat a < (5 : Int32) ↔ a < 5) := in_lt (b := 5) (by omega) (by decide)
    have h5' : ((5 : Int32) ≤ Int32.ofNat a ↔ 5 ≤ a) := in_le (a := 5) (by decide) (by omega)
    refine e_33 ?_
    rw [ht, h5, h5', in_a1]
    refine ⟨fun c => ?_, fun c => ⟨fun c5 => ?_, fun c5 => ?_⟩⟩
    · rw [if_neg c] at hp
      have hpg := ps_pg (b := b) g 5 a k out hw
      refine h34 g k out J _ (by omega) (by show 8 * (n - tk_s k) + 3 ≤ g; omega) hw hlen hc ⟨fun r1 J1 hc1 => ⟨_, rfl, fun w => absurd w (by decide), fun _ => ?_⟩, fun r1 J1 hc1 => ⟨_, rfl, fun _ => ?_, fun w => absurd rfl w⟩⟩
      · rw [pb_t r1] at hp
        obtain ⟨g1, g2, g3⟩ := hpg
        obtain ⟨g4, g5⟩ := g3 r1
        have g6 := g5 (by decide)
        obtain ⟨k', hk'⟩ : ∃ k', k' = (ps b n g 5 a k out).2.1 := ⟨_, rfl⟩
        obtain ⟨o', ho'⟩ : ∃ o', o' = (ps b n g 5 a k out).2.2 := ⟨_, rfl⟩
        rw [← hk', ← ho'] at hp hc1
        rw [← hk'] at g1 g2 g4 g6
        rw [← ho'] at g4
        have ht1 : J1 8 0 1 = tk_t k' := hc1.1.2.2.1.2.2.1
        have hs1 : tk_s k' ≤ n := Nat.le_trans g1.1 g1.2.1
        obtain ⟨m1, m2, m3⟩ := n2_wf (b := b) g1
        have hs2 : tk_s (tk_n2 b n k') ≤ n := Nat.le_trans m1.1 m1.2.1
        have go : ∀ c : Int32, tk_t k' ≠ 0 → cp I0 q (pb (ps b n g 5 a (tk_n2 b n k') o') (fun k2 o2 => (true, k2, o2 ++ [c]))) Q → Ex (d + 6 + 1) 33 (102, [vR 9 0, vI (Int32.ofNat a), vI 1, vI (pu_ec c)], [], ma_mem J1 q, 0, 0) (ma_end Q) := by
          intro c h0 hp2
          have m4 := m3 h0
          have hpg2 := ps_pg (b := b) g 5 a (tk_n2 b n k') o' m1
          refine b_33_102 (cx_next hB g1 hc1 (fun J2 hc2 => ⟨rfl, ?_⟩))
          refine h34 g (tk_n2 b n k') o' J2 _ (by omega) (by show 8 * (n - tk_s (tk_n2 b n k')) + 3 ≤ g; omega) m1 (by omega) hc2 ⟨fun r2 J3 hc3 => ⟨_, rfl, ?_⟩, fun r2 J3 hc3 => ⟨_, rfl, ?_⟩⟩
          · unfold pb at hp2
            rw [if_pos r2] at hp2
            obtain ⟨u1, u2, u3⟩ := hpg2
            obtain ⟨u4, u5⟩ := u3 r2
            have hs3 : tk_s (ps b n g 5 a (tk_n2 b n k') o').2.1 ≤ n := Nat.le_trans u1.1 u1.2.1
            have u6 := u5 (by decide)
            exact cx_add (c := c) (by omega) hc3 (fun J6 hc6 => ⟨rfl, Or.inr rfl, hp2.1 rfl J6 hc6⟩)
          · unfold pb at hp2
            rw [if_neg r2] at hp2
            exact cf_add hc3 (fun J6 hc6 => ⟨rfl, Or.inl rfl, hp2.2 r2 J6 hc6⟩)
        rw [ht1]
        refine ⟨fun c6 => ⟨fun w => absurd c6 w, fun _ => ?_⟩, fun c6 => ⟨fun c7 => ?_, fun c7 => ⟨fun _ => ?_, fun w => absurd w c6⟩⟩⟩
        · rw [if_pos c6] at hp
          exact go 13 (by rw [c6]; decide) hp
        · rw [if_neg c6, if_neg c7] at hp
          exact ⟨Or.inr rfl, hp.1 rfl J1 hc1⟩
        · rw [if_neg c6, if_pos c7] at hp
          exact go 14 (by rw [c7]; decide) hp
      · unfold pb at hp
        rw [if_neg r1] at hp
        exact ⟨Or.inl rfl, hp.2 r1 J1 hc1⟩
    · rw [if_pos c, if_pos c5] at hp
      obtain ⟨n1, n2, n3⟩ := n2_wf (b := b) hw
      have n4 := n3 (by rw [c]; decide)
      have hs2 : tk_s (tk_n2 b n k) ≤ n := Nat.le_trans n1.1 n1.2.1
      have hpg := ps_pg (b := b) g 3 (a + 1) (tk_n2 b n k) out n1
      refine cx_next hB hw hc (fun J1 hc1 => ⟨rfl, ?_⟩)
      refine h33 c5 g (tk_n2 b n k) out J1 _ (by omega) (by show 8 * (n - tk_s (tk_n2 b n k)) + 4 ≤ g; omega) n1 (by omega) hc1 ⟨fun r1 J3 hc3 => ⟨_, rfl, ?_⟩, fun r1 J3 hc3 => ⟨_, rfl, ?_⟩⟩
      · unfold pb at hp
        rw [if_pos r1] at hp
        obtain ⟨u1, u2, u3⟩ := hpg
        obtain ⟨u4, u5⟩ := u3 r1
        have u6 := u5 (by decide)
        have hs3 : tk_s (ps b n g 3 (a + 1) (tk_n2 b n k) out).2.1 ≤ n := Nat.le_trans u1.1 u1.2.1
        exact cx_add (c := 12) (by omega) hc3 (fun J6 hc6 => ⟨rfl, Or.inr rfl, hp.1 rfl J6 hc6⟩)
      · unfold pb at hp
        rw [if_neg r1] at hp
        exact cf_add hc3 (fun J6 hc6 => ⟨rfl, Or.inl rfl, hp.2 r1 J6 hc6⟩)
    · rw [if_pos c, if_neg (by omega)] at hp
      exact hp.2 (by intro w; cases w) J hc.1
end CRN

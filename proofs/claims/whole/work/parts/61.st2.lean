/-! ===== set in the reference; feed, force, count, taken ===== -/
section ST2
variable {d : Nat} {I : ma_I} {o : Nat} {Q : ma_Q} {σ : ma_I}
theorem mo_128o {k : Nat} {a c : Int32} (hk : k < 9) (ha : 1 ≤ a ∧ a ≤ 5) (h : Q (some (.inl (xv_b (pu_cb (mv I) k a c = true)))) I o) : Exm (d + 2) 128 [.inr (.inr (40, 0)), .inl a, .inl (Int32.ofNat k), .inl c] I o Q := by
  have hin : ma_in (Int32.ofNat k) 9 := in_in (by omega) (by omega)
  have hq : ∀ x, xv_b (pu_cb (mv I) k a c = true) = x → Q (some (.inl x)) I o := fun x e => e ▸ h
  unfold pu_cb at hq
  simp only [mv_45, mv_46, mv_47, mv_48] at hq
  have n0 : a ≠ 0 := fun e => by rw [e] at ha; exact absurd ha.1 (by decide)
  have hx : a ≠ 1 → a ≠ 2 → a ≠ 3 → a ≠ 4 → a ≠ 5 → False := by
    intro n1 n2 n3 n4 n5
    obtain ⟨m, e, h1, h2⟩ := rg_mk1 (a := 1) (b := 5) (by decide) (by decide) ha.1 ha.2
    rcases (by omega : m = 1 ∨ m = 2 ∨ m = 3 ∨ m = 4 ∨ m = 5) with w | w | w | w | w <;> subst w
    · exact n1 e
    · exact n2 e
    · exact n3 e
    · exact n4 e
    · exact n5 e
  refine e_128 ?_
  rw [in_cl (by omega)]
  refine ⟨fun e => absurd e n0, fun _ => ⟨fun e => hq _ ?_, fun n1 => ⟨fun e => ⟨fun c1 => hq _ ?_, fun c1 => ⟨hin, fun c2 => hq _ ?_, fun c2 => hq _ ?_⟩⟩, fun n2 => ⟨fun e => ⟨fun c1 => hq _ ?_, fun c1 => ⟨hin, fun c2 => hq _ ?_, fun c2 => hq _ ?_⟩⟩, fun n3 => ⟨fun e => ⟨hin, hq _ ?_⟩, fun n4 => ⟨fun e => ⟨hin, hq _ ?_⟩, fun n5 => (hx n1 n2 n3 n4 n5).elim⟩⟩⟩⟩⟩⟩
  all_goals first | (simp_all [xv_b]; done) | (simp_all [xv_b]; intro h1 h2; exact absurd (c1 h1) (Int32.not_lt.mpr h2))
theorem it_nn {k : Nat} {a c : Int32} (hi : iv_o1 σ k) (h : 1 ≤ a ∧ a ≤ 5) : pu_it σ k a ≠ -100 := by
  obtain ⟨m, e, h1, h2⟩ := rg_mk1 (a := 1) (b := 5) (by decide) (by decide) h.1 h.2
  obtain ⟨q1, q2, q3, q4, q5, f, l, q6, q7, q8, q9⟩ := hi
  have hn : ∀ x : Nat, x < 1000 → Int32.ofNat x ≠ -100 := fun x hx e => by
    have := in_ge0 (a := x) (by omega)
    rw [e] at this
    exact absurd this (by decide)
  unfold pu_it
  rcases (by omega : m = 1 ∨ m = 2 ∨ m = 3 ∨ m = 4 ∨ m = 5) with w | w | w | w | w <;> subst w <;> subst e
  · rw [if_pos (by decide)]; obtain ⟨x, ex, -, hx⟩ := q2; rw [ex]; exact hn x (by omega)
  · rw [if_neg (by decide), if_pos (by decide)]; obtain ⟨x, ex, -, hx⟩ := q3; rw [ex]; exact hn x (by omega)
  · rw [if_neg (by decide), if_neg (by decide), if_pos (by decide)]; obtain ⟨x, ex, -, hx⟩ := q4; rw [ex]; exact hn x (by omega)
  · rw [if_neg (by decide), if_neg (by decide), if_neg (by decide), if_pos (by decide), q6]; exact hn f (by omega)
  · rw [if_neg (by decide), if_neg (by decide), if_neg (by decide), if_neg (by decide), if_pos (by decide), q7]; exact hn l (by omega)
theorem mo_129 {a b c : Int32} (hg : iv_g (mv I)) (h : ∀ I', fr [44, 45, 46, 47, 48, 42, 1000] I I' → mv I' = st_set (mv I) a b c → Q (some (.inl (an_set (mv I) a b c))) I' o) : Exm (d + 3) 129 [.inr (.inr (40, 0)), .inl a, .inl b, .inl c] I o Q := by
  obtain ⟨h6, hnm, hkm⟩ := nm_le hg.2.1
  have hno4 := A_le hg.2.2.1
  have hno : ∀ x, an_set (mv I) a b c = x → st_set (mv I) a b c = mv I → Q (some (.inl x)) I o := by
    intro x hx hst
    have := h I (fr_refl _ _) hst.symm
    rw [hx] at this
    exact this
  have hcb0 : ¬(1 ≤ a ∧ a ≤ 5) → ∀ k, pu_cb (mv I) k a c = false := by
    intro hc k
    unfold pu_cb
    rw [if_neg (fun e => hc (by rw [e]; decide)), if_neg (fun e => hc (by rw [e]; decide)), if_neg (fun e => hc (by rw [e]; decide)), if_neg (fun e => hc (by rw [e]; decide)), if_neg (fun e => hc (by rw [e]; decide))]
  refine e_129 ⟨fun c06 => ?_, fun c06 => ?_⟩
  · have n0 : a ≠ 0 := fun e => c06 (by rw [e]; decide)
    have n6 : a ≠ 6 := fun e => c06 (by rw [e]; decide)
    have hb := hcb0 (fun q => c06 ⟨Int32.le_trans (by decide) q.1, Int32.le_trans q.2 (by decide)⟩) b.toNatClampNeg
    refine hno _ ?_ ?_
    · unfold an_set; rw [if_neg n0, if_neg n6, if_neg (fun q => by rw [hb] at q; exact absurd q.2 (by decide))]
    · unfold st_set; rw [if_neg n0, if_neg n6, if_neg (fun q => by rw [hb] at q; exact absurd q.2 (by decide))]
  refine mo_127 hg ⟨_, rfl, fun ct => ?_, fun ct => ?_⟩
  · -- told answers -100
    unfold an_told at ct
    by_cases c0 : a = 0
    · rw [if_pos c0] at ct
      exfalso
      have := rg_lo (by decide) hg.1
      rw [ct] at this
      exact absurd this (by decide)
    rw [if_neg c0] at ct
    by_cases c6 : a = 6
    · rw [if_pos c6] at ct
      by_cases cb : 0 ≤ b ∧ b ≤ mv I 40 0 1 - 1
      · rw [if_pos cb] at ct
        exfalso
        rw [hnm] at cb
        obtain ⟨k, hk2, e⟩ := or_of (by omega) cb
        rw [e, in_cl (by omega)] at ct
        have := rg_lo (by decide) (hkm k hk2).2.1
        rw [ct] at this
        exact absurd this (by decide)
      · refine hno _ ?_ ?_
        · unfold an_set; rw [if_neg c0, if_pos c6, if_neg (fun q => cb q.1)]
        · unfold st_set; rw [if_neg c0, if_pos c6, if_neg (fun q => cb q.1)]
    rw [if_neg c6, if_neg (fun e => by rw [e] at c06; exact absurd c06.2 (by decide))] at ct
    by_cases cb : 0 ≤ b ∧ b ≤ mv I 40 0 4 - 1
    · rw [if_pos cb] at ct
      exfalso
      have c15 : 1 ≤ a ∧ a ≤ 5 := by
        obtain ⟨m, hm, e⟩ := in_ub (b := 6) (by decide) c06.1 c06.2
        have : m ≠ 0 := fun e2 => c0 (by rw [e, e2]; rfl)
        have : m ≠ 6 := fun e2 => c6 (by rw [e, e2]; rfl)
        rw [e]
        exact ⟨(in_le (a := 1) (by decide) (by omega)).mpr (by omega), (in_le (b := 5) (by omega) (by decide)).mpr (by omega)⟩
      rw [hno4.2.1] at cb
      obtain ⟨k, hk2, e⟩ := or_of (by have := hno4.1; omega) cb
      obtain ⟨n', hn', hn8', hon⟩ := hg.2.2.1
      have en : n' = pu_no (mv I) := by unfold pu_no; rw [hn', in_cl (by omega)]
      rw [e, in_cl (by have := hno4.1; omega)] at ct
      exact it_nn (c := c) (hon k (by omega)) c15 ct
    · refine hno _ ?_ ?_
      · unfold an_set; rw [if_neg c0, if_neg c6, if_neg (fun q => cb q.1)]
      · unfold st_set; rw [if_neg c0, if_neg c6, if_neg (fun q => cb q.1)]
  · -- told answers
    by_cases c0 : a = 0
    · subst c0
      refine e_128 ⟨fun _ => ⟨_, rfl, fun c1 => ⟨fun _ => ?_, fun q => absurd rfl q⟩, fun c1 => ?_⟩, fun q => absurd rfl q⟩
      · have cc := xv_bne0.mp c1
        have := h (ma_up I 40 0 0 c) (fr_up1 (fr_refl _ _) (by decide)) (by unfold st_set; rw [if_pos rfl, if_pos cc, mv_up (by omega) (by decide)])
        unfold an_set at this
        rw [if_pos rfl, if_pos cc] at this
        exact this
      · have cc := xv_beq0.mp c1
        exact hno _ (by unfold an_set; rw [if_pos rfl, if_neg cc]) (by unfold st_set; rw [if_pos rfl, if_neg cc])
    by_cases c6 : a = 6
    · subst c6
      have cb : 0 ≤ b ∧ b ≤ mv I 40 0 1 - 1 := by
        by_cases cb : 0 ≤ b ∧ b ≤ mv I 40 0 1 - 1
        · exact cb
        · exfalso
          apply ct
          unfold an_told
          rw [if_neg (by decide), if_pos rfl, if_neg cb]
      have han : an_told (mv I) b 6 = mv I 42 0 b.toNatClampNeg := by unfold an_told; rw [if_neg (by decide), if_pos rfl, if_pos cb]
      rw [han]
      have cb' := cb
      rw [hnm] at cb'
      obtain ⟨k, hk2, e⟩ := or_of (by omega) cb'
      have hin : ma_in b 6 := by rw [e]; exact in_in (by omega) (by omega)
      refine e_128 ⟨fun q => absurd q (by decide), fun _ => ⟨fun q => absurd q (by decide), fun _ => ⟨fun q => absurd q (by decide), fun _ => ⟨fun q => absurd q (by decide), fun _ => ⟨fun q => absurd q (by decide), fun _ => ⟨fun q => absurd q (by decide), fun _ => ⟨_, rfl, fun c1 => ?_, fun c1 => ?_⟩⟩⟩⟩⟩⟩⟩
      · have cc := xv_bne0.mp c1
        refine ⟨fun q => absurd q (by decide), fun _ => ⟨fun q => absurd q (by decide), fun _ => ⟨fun q => absurd q (by decide), fun _ => ⟨fun q => absurd q (by decide), fun _ => ⟨fun q => absurd q (by decide), fun _ => ⟨fun q => absurd q (by decide), fun _ => ⟨hin, ?_⟩⟩⟩⟩⟩⟩⟩
        have := h (ma_up I 42 0 b.toNatClampNeg c) (fr_upg (fr_refl _ _) (by decide) (by decide) (by decide)) (by unfold st_set; rw [if_neg (by decide), if_pos rfl, if_pos ⟨cb, cc⟩, mv_up (by omega) (by rw [cl_g (by decide) (by decide)]; decide)])
        unfold an_set at this
        rw [if_neg (by decide), if_pos rfl, if_pos ⟨cb, cc⟩] at this
        exact this
      · have cc := xv_beq0.mp c1
        exact hno _ (by unfold an_set; rw [if_neg (by decide), if_pos rfl, if_neg (fun q => cc q.2)]) (by unfold st_set; rw [if_neg (by decide), if_pos rfl, if_neg (fun q => cc q.2)])
    have c15 : 1 ≤ a ∧ a ≤ 5 := by
      obtain ⟨m, hm, e⟩ := in_ub (b := 6) (by decide) c06.1 c06.2
      have : m ≠ 0 := fun e2 => c0 (by rw [e, e2]; rfl)
      have : m ≠ 6 := fun e2 => c6 (by rw [e, e2]; rfl)
      rw [e]
      exact ⟨(in_le (a := 1) (by decide) (by omega)).mpr (by omega), (in_le (b := 5) (by omega) (by decide)).mpr (by omega)⟩
    have n8 : a ≠ 8 := fun e => by rw [e] at c06; exact absurd c06.2 (by decide)
    have cb : 0 ≤ b ∧ b ≤ mv I 40 0 4 - 1 := by
      by_cases cb : 0 ≤ b ∧ b ≤ mv I 40 0 4 - 1
      · exact cb
      · exfalso
        apply ct
        unfold an_told
        rw [if_neg c0, if_neg c6, if_neg n8, if_neg cb]
    have han : an_told (mv I) b a = pu_it (mv I) b.toNatClampNeg a := by unfold an_told; rw [if_neg c0, if_neg c6, if_neg n8, if_pos cb]
    rw [han]
    have cb' := cb
    rw [hno4.2.1] at cb'
    obtain ⟨k, hk2, e⟩ := or_of (by have := hno4.1; omega) cb'
    have hk8 : k < 8 := by have := hno4.1; omega
    have hck : b.toNatClampNeg = k := by rw [e, in_cl (by omega)]
    have hin : ma_in b 9 := by rw [e]; exact in_in (by omega) (by omega)
    rw [hck]
    have e' : b = Int32.ofNat k := e
    rw [e']
    refine mo_128o (by omega) c15 ⟨_, rfl, fun c1 => ?_, fun c1 => ?_⟩
    · have hcb := xv_bne0.mp c1
      obtain ⟨m, hm1, hm5, em, -⟩ := cb_of hcb
      have hgo : Q (some (.inl (pu_it (mv I) k a))) (ma_up I (43 + m) 0 k c) o := by
        have := h (ma_up I (43 + m) 0 k c) (fr_upg (fr_refl _ _) (by omega) (by omega) (by rcases (by omega : m = 1 ∨ m = 2 ∨ m = 3 ∨ m = 4 ∨ m = 5) with w | w | w | w | w <;> subst w <;> decide)) (by
          unfold st_set
          rw [if_neg c0, if_neg c6, hck, if_pos ⟨cb, hcb⟩, em, in_cl (by omega), mv_up (by omega) (by rw [cl_g (by omega) (by omega)]; rcases (by omega : m = 1 ∨ m = 2 ∨ m = 3 ∨ m = 4 ∨ m = 5) with w | w | w | w | w <;> subst w <;> decide)])
        unfold an_set at this
        rw [if_neg c0, if_neg c6, hck, if_pos ⟨cb, hcb⟩] at this
        exact this
      rw [e'] at hin
      rcases (by omega : m = 1 ∨ m = 2 ∨ m = 3 ∨ m = 4 ∨ m = 5) with w | w | w | w | w <;> subst w <;> subst em
      · exact ⟨fun q => absurd q (by decide), fun _ => ⟨fun _ => ⟨hin, hgo⟩, fun q => absurd rfl q⟩⟩
      · exact ⟨fun q => absurd q (by decide), fun _ => ⟨fun q => absurd q (by decide), fun _ => ⟨fun _ => ⟨hin, hgo⟩, fun q => absurd rfl q⟩⟩⟩
      · exact ⟨fun q => absurd q (by decide), fun _ => ⟨fun q => absurd q (by decide), fun _ => ⟨fun q => absurd q (by decide), fun _ => ⟨fun _ => ⟨hin, hgo⟩, fun q => absurd rfl q⟩⟩⟩⟩
      · exact ⟨fun q => absurd q (by decide), fun _ => ⟨fun q => absurd q (by decide), fun _ => ⟨fun q => absurd q (by decide), fun _ => ⟨fun q => absurd q (by decide), fun _ => ⟨fun _ => ⟨hin, hgo⟩, fun q => absurd rfl q⟩⟩⟩⟩⟩
      · exact ⟨fun q => absurd q (by decide), fun _ => ⟨fun q => absurd q (by decide), fun _ => ⟨fun q => absurd q (by decide), fun _ => ⟨fun q => absurd q (by decide), fun _ => ⟨fun q => absurd q (by decide), fun _ => ⟨fun _ => ⟨hin, hgo⟩, fun q => absurd rfl q⟩⟩⟩⟩⟩⟩
    · have hcb := xv_beq0.mp c1
      exact hno _ (by unfold an_set; rw [if_neg c0, if_neg c6, hck, if_neg (fun q => hcb q.2)]) (by unfold st_set; rw [if_neg c0, if_neg c6, hck, if_neg (fun q => hcb q.2)])
end ST2

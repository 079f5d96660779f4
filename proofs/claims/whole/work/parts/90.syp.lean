/-! ===== a part, in the reference ===== -/
abbrev fr_rt : List Nat := [1017, 1018, 1019, 1020, 1024, 1025, 1026, 1028, 1029, 50, 51, 54, 55]
/-- tape and words of the reference -/
def rt (I0 : ma_I) (b : Nat → Int32) (n : Nat) : Prop := I0 40 0 12 = Int32.ofNat n ∧ n ≤ 160 ∧ tk_K I0 ∧ b = fun k => I0 49 0 k
/-- what else a part leaves -/
def ra (I0 : ma_I) (v : Nat) (J : ma_I) : Prop := fr fr_rt I0 J ∧ rb v I0 J ∧ ∀ j, j ≠ v → J 51 0 j = I0 51 0 j
/-- row v holds these codes -/
def rz (v : Nat) (ou : List Int32) (J : ma_I) : Prop := J 51 0 v = Int32.ofNat ou.length ∧ ∀ i, i < ou.length → J 50 0 (160 * v + i) = ou.getD i 0
section SYP
variable {d : Nat} {I0 : ma_I} {o : Nat} {Q : ma_Q} {v : Nat} {b : Nat → Int32} {n : Nat}
theorem ra_tr {l : List Nat} {J J' : ma_I} (h : ra I0 v J) (hf : fr l J J') (hb : rb v J J') (h51 : 51 ∉ l) (hl : ∀ c ∈ l, c ∈ fr_rt) : ra I0 v J' := ⟨fr_trans h.1 (fr_mono hf hl), rb_trans h.2.1 hb, fun j hj => (hf 51 0 j h51).trans (h.2.2 j hj)⟩
theorem rt_K (hB : rt I0 b n) {J : ma_I} (hf : fr fr_rt I0 J) : J 40 0 12 = Int32.ofNat n ∧ tk_K J ∧ b = fun k => J 49 0 k := by
  obtain ⟨h1, h2, h3, h4⟩ := hB
  refine ⟨?_, ⟨fun i hi => ?_, fun i hi k hk => ?_⟩, ?_⟩
  · rw [hf 40 0 12 (by decide)]; exact h1
  · rw [fr_g hf 53 0 _ (by decide) (by decide) (by decide)]; exact h3.1 i hi
  · rw [fr_g hf 52 0 _ (by decide) (by decide) (by decide)]; exact h3.2 i hi k hk
  · rw [h4]
    funext k
    exact (fr_g hf 49 0 k (by decide) (by decide) (by decide)).symm
theorem nxt {J : ma_I} {p : Nat} (hB : rt I0 b n) (hf : fr fr_rt I0 J) (h17 : J 40 0 17 = Int32.ofNat p) (hp : p ≤ n) (h : ∀ J', fr fr_tk J J' → tk_R J' (tk_nx b n p) → Q none J' o) : Exm (d + 2) 141 [.inr (.inr (40, 0))] J o Q := by
  obtain ⟨h1, h2, h3⟩ := rt_K hB hf
  refine mo_141 h1 hB.2.1 hp h2 h17 (fun J' f1 r1 => h J' f1 ?_)
  rw [h3]
  exact r1
theorem nx151 {J : ma_I} {k : tk} {v1 v2 v3 : Int32} {w4 : Option ma_V} (hB : rt I0 b n) (hf : fr fr_rt I0 J) (h17 : J 40 0 17 = Int32.ofNat (tk_e k)) (hw : tw n k) (h : ∀ J', fr fr_tk J J' → tk_R J' (tk_n2 b n k) → Ex (d + 2 + 1) 151 (40, [vR 40 0, vI v1, vI v2, vI v3, w4], [], ma_mem J' o, 0, 0) (ma_end Q)) : Ex (d + 2 + 1) 151 (208, [vR 40 0, vI v1, vI v2, vI v3, w4], [], ma_mem J o, 0, 0) (ma_end Q) :=
  b_151_208 (nxt hB hf h17 hw.2.1 (fun J' f1 r1 => ⟨rfl, h J' f1 r1⟩))
theorem mo_151l (hB : rt I0 b n) (hv : v < 18) : ∀ (m : Nat) (w vv : Bool) (k : tk) (x : sx) (c : Bool) (cs : List Bool) (J : ma_I) (w4 : Option ma_V) (R : tr), sy b n m w vv k x c cs = some R → ra I0 v J → tk_R J k → tw n k → x.1.length + x.2.2.length ≤ tk_s k → sw x cs → rr v x J → rc c cs J →
    (R.1 = true → ∀ J', ra I0 v J' → rz v R.2.2 J' → tk_R J' R.2.1 → tw n R.2.1 → Q (some (.inl 1)) J' o) → (¬R.1 = true → ∀ J', ra I0 v J' → tk_R J' R.2.1 → tw n R.2.1 → Q (some (.inl 0)) J' o) →
    Ex (d + 2 + 1) 151 (40, [vR 40 0, vI (Int32.ofNat v), vI (if w = true then 1 else 0), vI (if vv = true then 1 else 0), w4], [], ma_mem J o, 0, 0) (ma_end Q) := by
  have hn := hB.2.1
  intro m
  induction m with
  | zero => intro w vv k x c cs J w4 R h; cases h
  | succ m ih =>
    intro w vv k x c cs J w4 R hsy hra hR hw hlen hsw hr hc hy hz
    have hs : tk_s k ≤ n := Nat.le_trans hw.1 hw.2.1
    have h17 : J 40 0 17 = Int32.ofNat (tk_e k) := hR.2.1
    obtain ⟨n1, n2, n3⟩ := n2_wf (b := b) hw
    have fail : ∀ J' : ma_I, R = (false, k, []) → ra I0 v J' → tk_R J' k → Q (some (.inl 0)) J' o := by
      intro J' e h1 h2
      subst e
      exact hz Bool.false_ne_true J' h1 h2 hw
    have next : ∀ (w' vv' : Bool) (x' : sx) (c' : Bool) (cs' : List Bool) (J' : ma_I) (w4' : Option ma_V) (l : List Nat), sy b n m w' vv' (tk_n2 b n k) x' c' cs' = some R → tk_t k ≠ 0 → fr l J J' → rb v J J' → (51 ∉ l ∧ 1017 ∉ l) → (∀ c ∈ l, c ∈ fr_rt) → x'.1.length + x'.2.2.length ≤ x.1.length + x.2.2.length + 1 → sw x' cs' → rr v x' J' → rc c' cs' J' →
        Ex (d + 2 + 1) 151 (208, [vR 40 0, vI (Int32.ofNat v), vI (if w' = true then 1 else 0), vI (if vv' = true then 1 else 0), w4'], [], ma_mem J' o, 0, 0) (ma_end Q) := by
      intro w' vv' x' c' cs' J' w4' l hs1 ht hf hb hl1 hl2 hlx hsw' hr' hc'
      have hra' := ra_tr hra hf hb hl1.1 hl2
      refine nx151 (k := k) hB hra'.1 (by rw [hf 40 0 17 hl1.2]; exact h17) hw (fun J2 f2 r2 => ?_)
      have hlt := n3 ht
      exact ih w' vv' (tk_n2 b n k) x' c' cs' J2 w4' R hs1 (ra_tr hra' f2 (rb_fr f2 (by decide)) (by decide) (by decide)) r2 n1 (by omega) hsw' (rr_fr hr' f2 (by decide) (by decide) (by decide) (by decide) (by decide) (by decide)) (rc_fr hc' f2 (by decide) (by decide)) hy hz
    unfold sy at hsy
    cases w with
    | true =>
      rw [if_pos rfl] at hsy
      have num : ∀ z : Int32, tk_t k ≠ 0 → sy b n m false vv (tk_n2 b n k) (sg 7 (x.1, x.2.1, x.2.2 ++ [z])) c cs = some R → Exm (d + 2) 144 [.inr (.inr (40, 0)), .inl z] J o (fun r J18 p19 => r = none ∧ Exm (d + 2) 146 [.inr (.inr (40, 0)), .inl 7] J18 p19 (fun r J20 p21 => r = none ∧ Ex (d + 2 + 1) 151 (208, [vR 40 0, vI (Int32.ofNat v), vI 0, vI (if vv = true then 1 else 0), w4], [], ma_mem J20 p21, 0, 0) (ma_end Q))) := by
        intro z ht hs1
        have hlt := hw.2.2.1 ht
        have hen := hw.2.1
        have hlz : (x.2.2 ++ [z]).length = x.2.2.length + 1 := by rw [List.length_append]; rfl
        refine mo_144 hv (by omega) hr (fun J1 f1 b1 r1 => ⟨rfl, ?_⟩)
        have hsw1 : sw (x.1, x.2.1, x.2.2 ++ [z]) cs := hsw
        refine mo_146 (r := 7) (x := (x.1, x.2.1, x.2.2 ++ [z])) hv (by omega) (by show x.1.length + (x.2.2 ++ [z]).length ≤ 160; omega) (Nat.le_of_eq hsw1.1) (by have := hsw1.2.1; omega) r1 (fun J2 f2 b2 r2 => ⟨rfl, ?_⟩)
        have hsl := sg_len (r := 7) (x := (x.1, x.2.1, x.2.2 ++ [z]))
        refine next false vv _ c cs J2 w4 [50, 1024, 1025, 1029] hs1 ht (fr_trans (fr_mono f1 (by decide)) f2) (rb_trans b1 b2) (by decide) (by decide) ?_ (sw_sg hsw1) r2 (rc_fr (rc_fr hc f1 (by decide) (by decide)) f2 (by decide) (by decide))
        rw [hsl]
        show x.1.length + (x.2.2 ++ [z]).length ≤ _
        omega
      refine b_151_40 ⟨fun q => absurd q (by decide), fun _ => ⟨fun e1 => ⟨fun q => absurd e1 q, fun _ => ?_⟩, fun m1 => ⟨fun m2 => ⟨fun q => absurd q (by decide), fun _ => ?_⟩, fun e2 => ⟨fun _ => ?_, fun q => absurd q m1⟩⟩⟩⟩
      · have t1 := (R_n1 hR).mp e1
        rw [if_pos t1] at hsy
        rw [R_v hR (Or.inl t1)]
        exact num _ (by rw [t1]; decide) hsy
      · have t1 : tk_t k ≠ 1 := fun q => m1 ((R_n1 hR).mpr q)
        have t2 : tk_t k ≠ 2 := fun q => m2 ((R_n2 hR).mpr q)
        rw [if_neg t1, if_neg t2] at hsy
        have q45 := R_sy hR 45 (by decide)
        have hsl : x.1.length < 170 := by omega
        refine mo_150 hR hsl hsw hr hc (fun h0 => ⟨_, rfl, fun q => absurd rfl q, fun _ => ?_⟩) (fun e40 n5 J1 f1 r1 c1 => ⟨_, rfl, fun _ => ⟨fun e45 => ?_, fun _ => ?_⟩, fun q => absurd q (by decide)⟩) (fun e45 n5 J1 f1 r1 c1 => ⟨_, rfl, fun _ => ⟨fun _ => ?_, fun n45 => absurd (q45.mpr e45) n45⟩, fun q => absurd q (by decide)⟩) (fun e9 ev n5 J1 f1 r1 c1 => ⟨_, rfl, fun _ => ⟨fun e45 => ?_, fun _ => ?_⟩, fun q => absurd q (by decide)⟩)
        · refine fail J ?_ hra hR
          by_cases h5 : x.2.1 = 5
          · rw [if_pos h5] at hsy
            exact (Option.some.inj hsy).symm
          · obtain ⟨q1, q2, q3⟩ := h0.resolve_left h5
            rw [if_neg h5, if_neg q1, if_neg q2, if_neg q3] at hsy
            exact (Option.some.inj hsy).symm
        · have e45 := q45.mp e45; rw [e40] at e45; exact absurd e45 (by decide)
        · rw [if_neg n5, if_pos e40] at hsy
          refine next true true _ false (c :: cs) J1 _ [54, 55, 1024, 1025, 1026] hsy (by rw [e40]; decide) f1 (rb_fr f1 (by decide)) (by decide) (by decide) (by show x.1.length + 1 + x.2.2.length ≤ _; omega) ⟨?_, ?_, ?_, ?_⟩ r1 c1
          · show 1 + cd x.1 = x.2.1 + 1; have := hsw.1; omega
          · show x.2.1 + 1 ≤ 5; have := hsw.2.1; omega
          · show 1 + c3 x.1 = cs.length + 1; have := hsw.2.2.1; omega
          · intro y hy
            rcases List.mem_cons.mp hy with e | e
            · exact Or.inl e
            · exact hsw.2.2.2 y e
        · rw [if_neg n5, if_neg (by rw [e45]; decide), if_pos e45] at hsy
          refine next true false _ c cs J1 _ [54, 55, 1024, 1025, 1026] hsy (by rw [e45]; decide) f1 (rb_fr f1 (by decide)) (by decide) (by decide) (by show x.1.length + 1 + x.2.2.length ≤ _; omega) ⟨?_, ?_, ?_, ?_⟩ r1 c1
          · show 1 + cd x.1 = x.2.1 + 1; have := hsw.1; omega
          · show x.2.1 + 1 ≤ 5; have := hsw.2.1; omega
          · show 0 + c3 x.1 = cs.length; have := hsw.2.2.1; omega
          · intro y hy
            rcases List.mem_cons.mp hy with e | e
            · rw [e]; exact Or.inr (by decide)
            · exact hsw.2.2.2 y e
        · have e45 := q45.mp e45; rw [e9] at e45; exact absurd e45 (by decide)
        · rw [if_neg n5, if_neg (by rw [e9]; decide), if_neg (by rw [e9]; decide), if_pos ⟨e9, ev⟩] at hsy
          refine next true true _ c cs J1 _ [54, 55, 1024, 1025, 1026] hsy (by rw [e9]; decide) f1 (rb_fr f1 (by decide)) (by decide) (by decide) (by show x.1.length + 1 + x.2.2.length ≤ _; omega) ⟨?_, ?_, ?_, ?_⟩ r1 c1
          · show 1 + cd x.1 = x.2.1 + 1; have := hsw.1; omega
          · show x.2.1 + 1 ≤ 5; have := hsw.2.1; omega
          · show 0 + c3 x.1 = cs.length; have := hsw.2.2.1; omega
          · intro y hy
            rcases List.mem_cons.mp hy with e | e
            · rw [e]; exact Or.inr (by decide)
            · exact hsw.2.2.2 y e
      · have t2 := (R_n2 hR).mp e2
        rw [if_neg (by rw [t2]; decide), if_pos t2] at hsy
        rw [R_v hR (Or.inr t2)]
        exact num _ (by rw [t2]; decide) hsy
    | false =>
      rw [if_neg Bool.false_ne_true] at hsy
      have P : ¬(tk_t k = 59 ∧ cs = []) → Exm (d + 2) 148 [.inr (.inr (40, 0))] J o (fun r J1 p2 => ∃ x3 : Int32, r = some (.inl x3) ∧
            (x3 = 0 →
              Exm (d + 2) 149 [.inr (.inr (40, 0))] J1 p2 (fun r J4 p5 => ∃ x6 : Int32, r = some (.inl x6) ∧
                (x6 ≠ 0 →
                  Ex (d + 2 + 1) 151 (208, [vR 40 0, vI (Int32.ofNat v), vI 0, vI (if vv = true then 1 else 0), w4], [], ma_mem J4 p5, 0, 0) (ma_end Q)) ∧
                (x6 = 0 →
                  Q (some (.inl 0)) J4 p5))) ∧
            (x3 ≠ 0 →
              (J1 40 0 18 = 3 ∧ J1 40 0 19 = 4 →
                Ex (d + 2 + 1) 151 (208, [vR 40 0, vI (Int32.ofNat v), vI 1, vI 1, w4], [], ma_mem J1 p2, 0, 0) (ma_end Q)) ∧
              (¬(J1 40 0 18 = 3 ∧ J1 40 0 19 = 4) →
                (¬(J1 40 0 18 = 3 ∧ J1 40 0 19 = 3) →
                  Ex (d + 2 + 1) 151 (208, [vR 40 0, vI (Int32.ofNat v), vI 1, vI 0, w4], [], ma_mem J1 p2, 0, 0) (ma_end Q)) ∧
                (J1 40 0 18 = 3 ∧ J1 40 0 19 = 3 →
                  Ex (d + 2 + 1) 151 (208, [vR 40 0, vI (Int32.ofNat v), vI 1, vI 1, w4], [], ma_mem J1 p2, 0, 0) (ma_end Q))))) := by
        intro h59
        rw [if_neg h59] at hsy
        refine mo_148 hR hv (by omega) hsw hr hc (fun h0 => ⟨_, rfl, fun _ => ?_, fun q => absurd rfl q⟩) (fun y hb hnc J1 f1 b1 r1 c1 => ⟨_, rfl, fun q => absurd q (by decide), fun _ => ?_⟩)
        · refine mo_149 hR hv (by omega) hsw hr hc (fun h1 => ⟨_, rfl, fun q => absurd rfl q, fun _ => ?_⟩) (fun c1 cs1 ecs e41 J1 f1 b1 r1 hc1 hsw1 hl1 => ⟨_, rfl, fun _ => ?_, fun q => absurd q (by decide)⟩)
          · refine fail J ?_ hra hR
            cases hb : bop (tk_t k) with
            | some y =>
              rw [hb] at hsy
              dsimp only at hsy
              rw [if_pos (h0 y hb)] at hsy
              exact (Option.some.inj hsy).symm
            | none =>
              rw [hb] at hsy
              match cs, h1, hsy with
              | [], _, hsy => exact (Option.some.inj hsy).symm
              | c1 :: cs1, h1, hsy =>
                dsimp only at hsy
                rw [if_neg (h1.resolve_right (List.cons_ne_nil _ _))] at hsy
                exact (Option.some.inj hsy).symm
          · have hb : bop (tk_t k) = none := by rw [e41]; decide
            rw [hb, ecs] at hsy
            dsimp only at hsy
            rw [if_pos e41] at hsy
            have hsl := sg_len (r := 7) (x := ((sg 1 x).1.tail, (sg 1 x).2.1 - 1, (sg 1 x).2.2))
            refine next false vv _ c1 cs1 J1 w4 [50, 1024, 1025, 1026, 1029] hsy (by rw [e41]; decide) f1 b1 (by decide) (by decide) ?_ (sw_sg hsw1) r1 hc1
            rw [hsl]
            show (sg 1 x).1.tail.length + (sg 1 x).2.2.length ≤ _
            omega
        · rw [hb] at hsy
          dsimp only at hsy
          rw [if_neg hnc] at hsy
          have hR1 := R_fr hR f1 (by decide) (by decide) (by decide) (by decide)
          rw [R_wd hR1 4 8 (by decide) (by decide) (by decide) (by decide) (by decide) (by decide), R_wd hR1 3 7 (by decide) (by decide) (by decide) (by decide) (by decide) (by decide)]
          have hsl := sg_len (r := rk y) (x := x)
          have hswy := sw_sg (r := rk y) hsw
          have hyk : y ≠ 12 ∧ y ≠ 18 ∧ y ≠ 30 ∧ 1 ≤ rk y ∧ (rk y ≤ 2 ↔ tk_t k = 8 ∨ tk_t k = 7) ∧ tk_t k ≠ 0 := by
            unfold bop at hb
            by_cases q1 : tk_t k = 43
            · rw [if_pos q1] at hb; cases hb; rw [q1]; decide
            rw [if_neg q1] at hb
            by_cases q2 : tk_t k = 45
            · rw [if_pos q2] at hb; cases hb; rw [q2]; decide
            rw [if_neg q2] at hb
            by_cases q3 : tk_t k = 42
            · rw [if_pos q3] at hb; cases hb; rw [q3]; decide
            rw [if_neg q3] at hb
            by_cases q4 : tk_t k = 60
            · rw [if_pos q4] at hb; cases hb; rw [q4]; decide
            rw [if_neg q4] at hb
            by_cases q5 : tk_t k = 61
            · rw [if_pos q5] at hb; cases hb; rw [q5]; decide
            rw [if_neg q5] at hb
            by_cases q6 : tk_t k = 8
            · rw [if_pos q6] at hb; cases hb; rw [q6]; decide
            rw [if_neg q6] at hb
            by_cases q7 : tk_t k = 7
            · rw [if_pos q7] at hb; cases hb; rw [q7]; decide
            rw [if_neg q7] at hb
            cases hb
          obtain ⟨y1, y2, y3, y4, y5, y6⟩ := hyk
          have cont : ∀ (vv' : Bool), decide (rk y ≤ 2) = vv' → Ex (d + 2 + 1) 151 (208, [vR 40 0, vI (Int32.ofNat v), vI (if true = true then 1 else 0), vI (if vv' = true then 1 else 0), w4], [], ma_mem J1 o, 0, 0) (ma_end Q) := by
            intro vv' he
            rw [he] at hsy
            refine next true vv' _ (cm y c) cs J1 w4 [50, 54, 55, 1024, 1025, 1029] hsy y6 f1 b1 (by decide) (by decide) (by show (sg (rk y) x).1.length + 1 + (sg (rk y) x).2.2.length ≤ _; omega) ⟨?_, hswy.2.1, ?_, ?_⟩ r1 c1
            · show (if y = 12 ∨ y = 18 ∨ y = 30 then 1 else 0) + cd (sg (rk y) x).1 = (sg (rk y) x).2.1
              rw [if_neg (fun q => q.elim y1 (fun q => q.elim y2 y3)), hswy.1]; omega
            · show (if y = 30 then 1 else 0) + c3 (sg (rk y) x).1 = cs.length
              rw [if_neg y3, hswy.2.2.1]; omega
            · intro z hz
              rcases List.mem_cons.mp hz with e | e
              · rw [e]; exact Or.inr y4
              · exact hswy.2.2.2 z e
          refine ⟨fun e8 => cont true (decide_eq_true (y5.mpr (Or.inl e8))), fun n8 => ⟨fun n7 => cont false (decide_eq_false (fun q => (y5.mp q).elim n8 n7)), fun e7 => cont true (decide_eq_true (y5.mpr (Or.inr e7)))⟩⟩
      refine b_151_40 ⟨fun _ => ⟨fun _ => ?_, fun q => absurd rfl q⟩, fun q => absurd rfl q⟩
      rw [R_sy hR 59 (by decide), hc.1]
      refine ⟨fun n59 => P (fun q => n59 q.1), fun e59 => ⟨fun nop => P (fun q => nop (by rw [q.2]; rfl)), fun eop => ?_⟩⟩
      have hcs : cs = [] := by
        have h5 := sw_cs hsw
        have := (in_eq (b := 0) (by omega) (by decide)).mp eop
        exact List.length_eq_zero_iff.mp this
      rw [if_pos ⟨e59, hcs⟩] at hsy
      have hRR := (Option.some.inj hsy).symm
      refine mo_146 (r := 1) hv (by omega) (by omega) (Nat.le_of_eq hsw.1) (by have := hsw.2.1; omega) hr (fun J1 f1 b1 r1 => ⟨rfl, in_in (by omega) hv, ?_⟩)
      obtain ⟨a1, a2, a3, a4, a5, a6⟩ := r1
      rw [in_cl (by omega), a5]
      subst hRR
      have hra1 := ra_tr hra f1 b1 (by decide) (by decide)
      have f2 : fr [51] J1 (ma_up J1 51 0 v (Int32.ofNat (sg 1 x).2.2.length)) := fr_upg (fr_refl _ _) (by decide) (by decide) (by decide)
      refine hy rfl _ ⟨fr_trans hra1.1 (fr_mono f2 (by decide)), rb_trans hra1.2.1 (rb_fr f2 (by decide)), fun j hj => ?_⟩ ⟨xv_us, fun i hi => ?_⟩ (R_fr (R_fr hR f1 (by decide) (by decide) (by decide) (by decide)) f2 (by decide) (by decide) (by decide) (by decide)) hw
      · rw [up_j hj]; exact hra1.2.2 j hj
      · rw [up_g (by decide)]; exact a6 i hi
theorem mo_151 {k : tk} {J : ma_I} (hB : rt I0 b n) (hv : v < 18) (hra : ra I0 v J) (hR : tk_R J k) (hw : tw n k)
    (hy : (ps b n (8 * n + 6) 1 0 k []).1 = true → tk_t (ps b n (8 * n + 6) 1 0 k []).2.1 = 59 → ∀ J', ra I0 v J' → rz v (ps b n (8 * n + 6) 1 0 k []).2.2 J' → tk_R J' (ps b n (8 * n + 6) 1 0 k []).2.1 → Q (some (.inl 1)) J' o)
    (hz : ¬((ps b n (8 * n + 6) 1 0 k []).1 = true ∧ tk_t (ps b n (8 * n + 6) 1 0 k []).2.1 = 59) → ∀ J', ra I0 v J' → tk_R J' (ps b n (8 * n + 6) 1 0 k []).2.1 → Q (some (.inl 0)) J' o) : Exm (d + 3) 151 [.inr (.inr (40, 0)), .inl (Int32.ofNat v)] J o Q := by
  refine e_151 ?_
  have e160 : (160 : Int32) * Int32.ofNat v = Int32.ofNat (160 * v) := (Int32.ofNat_mul 160 v).symm
  rw [e160]
  obtain ⟨m, hm⟩ := sy_all (b := b) hw
  have f1 : fr [1024, 1025, 1026, 1028, 1029, 55] J (ma_up (ma_up (ma_up (ma_up (ma_up (ma_up J 40 0 28 (Int32.ofNat (160 * v))) 40 0 29 0) 40 0 24 0) 40 0 25 0) 40 0 26 0) 55 0 0 0) := fr_upg (fr_up1 (fr_up1 (fr_up1 (fr_up1 (fr_up1 (fr_refl _ _) (by decide)) (by decide)) (by decide)) (by decide)) (by decide)) (by decide) (by decide) (by decide)
  refine mo_151l hB hv m true true k ([], 0, []) false [] _ none _ hm (ra_tr hra f1 (rb_fr f1 (by decide)) (by decide) (by decide)) (R_fr hR f1 (by decide) (by decide) (by decide) (by decide)) hw (Nat.zero_le _) ⟨rfl, by decide, rfl, fun c hc => absurd hc List.not_mem_nil⟩ ⟨?_, trivial, ?_, ?_, ?_, fun i hi => absurd hi (Nat.not_lt_zero _)⟩ ⟨?_, ?_, trivial⟩ (fun r1 J' h1 h2 h3 h4 => ?_) (fun r1 J' h1 h3 h4 => ?_)
  · rw [up_g (by decide), up_j (by decide), up_j (by decide), xv_us]; rfl
  · rw [up_g (by decide), up_j (by decide), xv_us]; rfl
  · rw [up_g (by decide), up_j (by decide), up_j (by decide), up_j (by decide), up_j (by decide), xv_us]
  · rw [up_g (by decide), up_j (by decide), up_j (by decide), up_j (by decide), xv_us]; rfl
  · rw [up_g (by decide), xv_us]; rfl
  · show ma_up _ 55 0 0 0 55 0 0 = 0
    rw [xv_us]
  · by_cases c : (ps b n (8 * n + 6) 1 0 k []).1 = true ∧ tk_t (ps b n (8 * n + 6) 1 0 k []).2.1 = 59
    · rw [if_pos c] at h2 h3
      exact hy c.1 c.2 J' h1 h2 h3
    · rw [if_neg c] at r1
      exact absurd r1 Bool.false_ne_true
  · by_cases c : (ps b n (8 * n + 6) 1 0 k []).1 = true ∧ tk_t (ps b n (8 * n + 6) 1 0 k []).2.1 = 59
    · rw [if_pos c] at r1
      exact absurd rfl r1
    · rw [if_neg c] at h3
      exact hz c J' h1 h3
end SYP

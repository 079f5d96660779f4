/-! ===== the law behind its constructors: what was made there counts on ===== -/
theorem mc_192a : Nat.ble 93 (mt_mc.getD 192 (0, 0)).1 = true := by decide +kernel
theorem mc_192b : Nat.ble 6687 (mt_mc.getD 192 (0, 0)).2 = true := by decide +kernel
section YV
variable {d y pc : Nat} {L : List (Option ma_V)} {st : List ma_V} {I : ma_I} {o : Nat} {M : ma_M} {Q : Option ma_V → ma_M → Prop}
def yv_tw (d y pc : Nat) (L : List (Option ma_V)) (st : List ma_V) (M : ma_M) (Q : Option ma_V → ma_M → Prop) (df : Int) (x : Int32) (lo : Int) (l : List Int) : Prop := ma_sel (fun c' => Ex d y c' Q) False (some (((pc : Int) + df).toNat, L, st, M, 93, 6687)) (ma_sw pc L M 93 6687 x st lo l)
theorem yv_beq {off : Int} {t : Nat} {x : Int32} (hf : ma_find pc (mt_prog.getD y []) = some (.ifCond .eq off, 3)) (ht : (pc : Int) + off = Int.ofNat t) (h1 : x = 0 → Ex d y (t, L, st, M, 93, 6687) Q) (h2 : x ≠ 0 → Ex d y (pc + 3, L, st, M, 93, 6687) Q) : Ex d y (pc, L, .inl x :: st, M, 93, 6687) Q := by
  refine ex_br hf ht (fun e => h1 ?_) (fun e => h2 ?_)
  · exact of_decide_eq_true e
  · exact of_decide_eq_false e
theorem yv_ceq {off : Int} {t : Nat} {x w : Int32} (hf : ma_find pc (mt_prog.getD y []) = some (.if_icmp .eq off, 3)) (ht : (pc : Int) + off = Int.ofNat t) (h1 : x = w → Ex d y (t, L, st, M, 93, 6687) Q) (h2 : x ≠ w → Ex d y (pc + 3, L, st, M, 93, 6687) Q) : Ex d y (pc, L, .inl w :: .inl x :: st, M, 93, 6687) Q := by
  refine ex_ic hf ht (fun e => h1 ?_) (fun e => h2 ?_)
  · exact of_decide_eq_true e
  · exact of_decide_eq_false e
theorem yv_cgt {off : Int} {t : Nat} {x w : Int32} (hf : ma_find pc (mt_prog.getD y []) = some (.if_icmp .gt off, 3)) (ht : (pc : Int) + off = Int.ofNat t) (h1 : w < x → Ex d y (t, L, st, M, 93, 6687) Q) (h2 : x ≤ w → Ex d y (pc + 3, L, st, M, 93, 6687) Q) : Ex d y (pc, L, .inl w :: .inl x :: st, M, 93, 6687) Q := by
  refine ex_ic hf ht (fun e => h1 ?_) (fun e => h2 ?_)
  · exact of_decide_eq_true e
  · exact xv_nlt (of_decide_eq_false e)
theorem yv_iald {g i n jn : Nat} {j v : Int32} (hf : ma_find pc (mt_prog.getD y []) = some (.iaload, 1)) (hk : Nat.beq (ma_gk g) 1 = true) (hn : ma_len (ma_mem I o) g i = n) (hj : j.toNatClampNeg = jn) (hv : I g i jn = v) (hi : ma_in j n) (h : Ex d y (pc + 1, L, .inl v :: st, ma_mem I o, 93, 6687) Q) : Ex d y (pc, L, .inl j :: .inr (.inr (g, i)) :: st, ma_mem I o, 93, 6687) Q := by
  subst hj
  subst hv
  exact ex_iald hf hk hn ⟨hi, h⟩
theorem yv_iinc {k : Nat} {c : Int} {v w : Int32} {L' : List (Option ma_V)} (hf : ma_find pc (mt_prog.getD y []) = some (.iinc k c, 3)) (hl : L[k]? = some (some (.inl v))) (hw : Int32.ofInt c = w) (hL : ma_s1 L k (.inl (v + w)) = L') (h : Ex d y (pc + 3, L', st, M, 93, 6687) Q) : Ex d y (pc, L, st, M, 93, 6687) Q := by
  subst hw
  exact ex_iinc hf hl hL h
theorem yv_kv1 {own k z na : Nat} {as rs : List ma_V} (hf : ma_find pc (mt_prog.getD 192 []) = some (.invokevirtual k, 3)) (hc : ck_ca 192 own k z na 1 [2, 3] = true) (hst : st = as.reverse ++ rs) (hna : as.length = na) (hal : Nat.ble (ma_args as).length (mt_ml.getD z 0) = true) (hcat : Nat.ble (ma_cat rs) 8 = true) (hrc : ma_rc z as = true) (h : Exm d z as I o (fun r I' o' => ∃ v : Int32, r = some (.inl v) ∧ Ex (d + 1) 192 (pc + 3, L, .inl v :: rs, ma_mem I' o', 93, 6687) Q)) : Ex (d + 1) 192 (pc, L, st, ma_mem I o, 93, 6687) Q := by
  refine ex_cl hf rfl hc hst hna hal hcat (Or.inl hrc) mc_192a mc_192b (Exm.mono h (fun r I' o' hh => ?_))
  obtain ⟨v, hr, hE⟩ := hh
  subst hr
  exact ⟨_, rfl, hE⟩
theorem yv_kv2 {own k z na : Nat} {as rs : List ma_V} (hf : ma_find pc (mt_prog.getD 192 []) = some (.invokevirtual k, 3)) (hc : ck_ca 192 own k z na 2 [2, 3] = true) (hst : st = as.reverse ++ rs) (hna : as.length = na) (hal : Nat.ble (ma_args as).length (mt_ml.getD z 0) = true) (hcat : Nat.ble (ma_cat rs) 8 = true) (hrc : ma_rc z as = true) (h : Exm d z as I o (fun r I' o' => ∃ v : Int64, r = some (.inr (.inl v)) ∧ Ex (d + 1) 192 (pc + 3, L, .inr (.inl v) :: rs, ma_mem I' o', 93, 6687) Q)) : Ex (d + 1) 192 (pc, L, st, ma_mem I o, 93, 6687) Q := by
  refine ex_cl hf rfl hc hst hna hal hcat (Or.inl hrc) mc_192a mc_192b (Exm.mono h (fun r I' o' hh => ?_))
  obtain ⟨v, hr, hE⟩ := hh
  subst hr
  exact ⟨_, rfl, hE⟩
theorem yv_tc {df lo : Int} {x v : Int32} {off : Int} {l : List Int} {t : Nat} (hv : Int32.ofInt lo = v) (ht : ((pc : Int) + off).toNat = t) (h1 : x = v → Ex d y (t, L, st, M, 93, 6687) Q) (h2 : x ≠ v → yv_tw d y pc L st M Q df x (lo + 1) l) : yv_tw d y pc L st M Q df x lo (off :: l) := by
  subst hv
  subst ht
  unfold yv_tw ma_sw ma_sel
  by_cases e : x = Int32.ofInt lo
  · rw [decide_eq_true e]; exact h1 e
  · rw [decide_eq_false e]; exact h2 e
theorem yv_tn {df lo : Int} {x : Int32} {t : Nat} (ht : ((pc : Int) + df).toNat = t) (h : Ex d y (t, L, st, M, 93, 6687) Q) : yv_tw d y pc L st M Q df x lo [] := by
  subst ht
  exact h
theorem yv_ts {df lo hi : Int} {os : Array Int} {n : Nat} {x : Int32} {l : List Int} (hf : ma_find pc (mt_prog.getD y []) = some (.tableswitch df lo hi os, n)) (hl : os.toList = l) (hc : xv_tk pc df lo hi l = true) (h : yv_tw d y pc L st M Q df x lo l) : Ex d y (pc, L, .inl x :: st, M, 93, 6687) Q := by
  subst hl
  refine ex_do hf ?_ h
  show ma_ts pc L (.inl x :: st) M 93 6687 df lo hi os = _
  unfold ma_ts
  dsimp only
  unfold xv_tk at hc
  rw [hc]
  rfl
end YV
theorem c_192_16 {d : Nat} {I : ma_I} {o : Nat} {Q : ma_Q} 
  (h :
    Ex (d + 1) 192 (18, [some (.inr (.inr (1, 0))), some (.inr (.inr (5, 0))), some (.inr (.inr (40, 0))), some (.inl (0 : Int32))], [], ma_mem I o, 93, 6687) (ma_end Q)) :
  Ex (d + 1) 192 (16, [some (.inr (.inr (1, 0))), some (.inr (.inr (5, 0))), some (.inr (.inr (40, 0))), none], [], ma_mem I o, 93, 6687) (ma_end Q) := by
  refine ex_iconst (pc := 16) (fr_get fo_192_0 8 rfl) ic_0 ?_
  refine ex_istore_n (pc := 17) (fr_get fo_192_0 9 rfl) rfl (L' := [some (.inr (.inr (1, 0))), some (.inr (.inr (5, 0))), some (.inr (.inr (40, 0))), some (.inl (0 : Int32))]) rfl ?_
  exact h

theorem c_192_18 {d : Nat} {I : ma_I} {o : Nat} {Q : ma_Q} {v3 : Int32}
  (h :
    ((Int32.ofNat ((I 1 1 0).toNatClampNeg)) - (6 : Int32) < v3 →
      Q (some (.inl (1 : Int32))) I o) ∧
    (v3 ≤ (Int32.ofNat ((I 1 1 0).toNatClampNeg)) - (6 : Int32) →
      ma_in v3 ((I 1 1 0).toNatClampNeg) ∧
      ((I 1 0 v3.toNatClampNeg) &&& (31 : Int32) = (0 : Int32) →
        ma_in (v3 + (1 : Int32)) ((I 1 1 0).toNatClampNeg) ∧
        ma_in (v3 + (2 : Int32)) ((I 1 1 0).toNatClampNeg) ∧
        Exm (d) 64 [.inr (.inr (5, 0)), .inl (I 1 0 ((v3 + (1 : Int32)).toNatClampNeg)), .inl (I 1 0 ((v3 + (2 : Int32)).toNatClampNeg))] I o (fun r J1 p2 => ∃ x3 : Int32, r = some (.inl x3) ∧
          ma_in (v3 + (1 : Int32)) ((J1 1 1 0).toNatClampNeg) ∧
          ma_in (v3 + (2 : Int32)) ((J1 1 1 0).toNatClampNeg) ∧
          Exm (d) 124 [.inr (.inr (40, 0)), .inl (J1 1 0 ((v3 + (1 : Int32)).toNatClampNeg)), .inl (J1 1 0 ((v3 + (2 : Int32)).toNatClampNeg))] J1 p2 (fun r J4 p5 => ∃ x6 : Int32, r = some (.inl x6) ∧
            (x3 = x6 →
              Ex (d + 1) 192 (18, [some (.inr (.inr (1, 0))), some (.inr (.inr (5, 0))), some (.inr (.inr (40, 0))), some (.inl (v3 + (6 : Int32)))], [], ma_mem J4 p5, 93, 6687) (ma_end Q)) ∧
            (x3 ≠ x6 →
              Q (some (.inl (0 : Int32))) J4 p5)))) ∧
      ((I 1 0 v3.toNatClampNeg) &&& (31 : Int32) ≠ (0 : Int32) →
        ((I 1 0 v3.toNatClampNeg) &&& (31 : Int32) = (1 : Int32) →
          ma_in (v3 + (1 : Int32)) ((I 1 1 0).toNatClampNeg) ∧
          ma_in (v3 + (2 : Int32)) ((I 1 1 0).toNatClampNeg) ∧
          ma_in (v3 + (3 : Int32)) ((I 1 1 0).toNatClampNeg) ∧
          Exm (d) 65 [.inr (.inr (5, 0)), .inl (I 1 0 ((v3 + (1 : Int32)).toNatClampNeg)), .inl (I 1 0 ((v3 + (2 : Int32)).toNatClampNeg)), .inl (I 1 0 ((v3 + (3 : Int32)).toNatClampNeg))] I o (fun r J7 p8 => ∃ x9 : Int32, r = some (.inl x9) ∧
            ma_in (v3 + (1 : Int32)) ((J7 1 1 0).toNatClampNeg) ∧
            ma_in (v3 + (2 : Int32)) ((J7 1 1 0).toNatClampNeg) ∧
            ma_in (v3 + (3 : Int32)) ((J7 1 1 0).toNatClampNeg) ∧
            Exm (d) 126 [.inr (.inr (40, 0)), .inl (J7 1 0 ((v3 + (1 : Int32)).toNatClampNeg)), .inl (J7 1 0 ((v3 + (2 : Int32)).toNatClampNeg)), .inl (J7 1 0 ((v3 + (3 : Int32)).toNatClampNeg))] J7 p8 (fun r J10 p11 => ∃ x12 : Int32, r = some (.inl x12) ∧
              (x9 = x12 →
                Ex (d + 1) 192 (18, [some (.inr (.inr (1, 0))), some (.inr (.inr (5, 0))), some (.inr (.inr (40, 0))), some (.inl (v3 + (6 : Int32)))], [], ma_mem J10 p11, 93, 6687) (ma_end Q)) ∧
              (x9 ≠ x12 →
                Q (some (.inl (0 : Int32))) J10 p11)))) ∧
        ((I 1 0 v3.toNatClampNeg) &&& (31 : Int32) ≠ (1 : Int32) →
          ((I 1 0 v3.toNatClampNeg) &&& (31 : Int32) = (2 : Int32) →
            ma_in (v3 + (1 : Int32)) ((I 1 1 0).toNatClampNeg) ∧
            ma_in (v3 + (2 : Int32)) ((I 1 1 0).toNatClampNeg) ∧
            ma_in (v3 + (3 : Int32)) ((I 1 1 0).toNatClampNeg) ∧
            Exm (d) 67 [.inr (.inr (5, 0)), .inl (I 1 0 ((v3 + (1 : Int32)).toNatClampNeg)), .inl (I 1 0 ((v3 + (2 : Int32)).toNatClampNeg)), .inl (I 1 0 ((v3 + (3 : Int32)).toNatClampNeg))] I o (fun r J13 p14 => ∃ x15 : Int32, r = some (.inl x15) ∧
              ma_in (v3 + (1 : Int32)) ((J13 1 1 0).toNatClampNeg) ∧
              ma_in (v3 + (2 : Int32)) ((J13 1 1 0).toNatClampNeg) ∧
              ma_in (v3 + (3 : Int32)) ((J13 1 1 0).toNatClampNeg) ∧
              Exm (d) 129 [.inr (.inr (40, 0)), .inl (J13 1 0 ((v3 + (1 : Int32)).toNatClampNeg)), .inl (J13 1 0 ((v3 + (2 : Int32)).toNatClampNeg)), .inl (J13 1 0 ((v3 + (3 : Int32)).toNatClampNeg))] J13 p14 (fun r J16 p17 => ∃ x18 : Int32, r = some (.inl x18) ∧
                (x15 = x18 →
                  Ex (d + 1) 192 (18, [some (.inr (.inr (1, 0))), some (.inr (.inr (5, 0))), some (.inr (.inr (40, 0))), some (.inl (v3 + (6 : Int32)))], [], ma_mem J16 p17, 93, 6687) (ma_end Q)) ∧
                (x15 ≠ x18 →
                  Q (some (.inl (0 : Int32))) J16 p17)))) ∧
          ((I 1 0 v3.toNatClampNeg) &&& (31 : Int32) ≠ (2 : Int32) →
            ((I 1 0 v3.toNatClampNeg) &&& (31 : Int32) = (3 : Int32) →
              ma_in (v3 + (1 : Int32)) ((I 1 1 0).toNatClampNeg) ∧
              ma_in (v3 + (2 : Int32)) ((I 1 1 0).toNatClampNeg) ∧
              Exm (d) 69 [.inr (.inr (5, 0)), .inl (I 1 0 ((v3 + (1 : Int32)).toNatClampNeg)), .inl (I 1 0 ((v3 + (2 : Int32)).toNatClampNeg))] I o (fun r J19 p20 => ∃ x21 : Int32, r = some (.inl x21) ∧
                ma_in (v3 + (1 : Int32)) ((J19 1 1 0).toNatClampNeg) ∧
                ma_in (v3 + (2 : Int32)) ((J19 1 1 0).toNatClampNeg) ∧
                Exm (d) 127 [.inr (.inr (40, 0)), .inl (J19 1 0 ((v3 + (1 : Int32)).toNatClampNeg)), .inl (J19 1 0 ((v3 + (2 : Int32)).toNatClampNeg))] J19 p20 (fun r J22 p23 => ∃ x24 : Int32, r = some (.inl x24) ∧
                  (x21 = x24 →
                    Ex (d + 1) 192 (18, [some (.inr (.inr (1, 0))), some (.inr (.inr (5, 0))), some (.inr (.inr (40, 0))), some (.inl (v3 + (6 : Int32)))], [], ma_mem J22 p23, 93, 6687) (ma_end Q)) ∧
                  (x21 ≠ x24 →
                    Q (some (.inl (0 : Int32))) J22 p23)))) ∧
            ((I 1 0 v3.toNatClampNeg) &&& (31 : Int32) ≠ (3 : Int32) →
              ((I 1 0 v3.toNatClampNeg) &&& (31 : Int32) = (4 : Int32) →
                ma_in (v3 + (1 : Int32)) ((I 1 1 0).toNatClampNeg) ∧
                Exm (d) 70 [.inr (.inr (5, 0)), .inl (I 1 0 ((v3 + (1 : Int32)).toNatClampNeg))] I o (fun r J25 p26 => ∃ x27 : Int32, r = some (.inl x27) ∧
                  ma_in (v3 + (1 : Int32)) ((J25 1 1 0).toNatClampNeg) ∧
                  Exm (d) 131 [.inr (.inr (40, 0)), .inl (J25 1 0 ((v3 + (1 : Int32)).toNatClampNeg))] J25 p26 (fun r J28 p29 => ∃ x30 : Int32, r = some (.inl x30) ∧
                    (x27 = x30 →
                      Ex (d + 1) 192 (18, [some (.inr (.inr (1, 0))), some (.inr (.inr (5, 0))), some (.inr (.inr (40, 0))), some (.inl (v3 + (6 : Int32)))], [], ma_mem J28 p29, 93, 6687) (ma_end Q)) ∧
                    (x27 ≠ x30 →
                      Q (some (.inl (0 : Int32))) J28 p29)))) ∧
              ((I 1 0 v3.toNatClampNeg) &&& (31 : Int32) ≠ (4 : Int32) →
                ((I 1 0 v3.toNatClampNeg) &&& (31 : Int32) = (5 : Int32) →
                  ma_in (v3 + (1 : Int32)) ((I 1 1 0).toNatClampNeg) ∧
                  ma_in (v3 + (2 : Int32)) ((I 1 1 0).toNatClampNeg) ∧
                  ma_in (v3 + (3 : Int32)) ((I 1 1 0).toNatClampNeg) ∧
                  Exm (d) 71 [.inr (.inr (5, 0)), .inl (I 1 0 ((v3 + (1 : Int32)).toNatClampNeg)), .inl (I 1 0 ((v3 + (2 : Int32)).toNatClampNeg)), .inl (I 1 0 ((v3 + (3 : Int32)).toNatClampNeg))] I o (fun r J31 p32 => ∃ x33 : Int32, r = some (.inl x33) ∧
                    ma_in (v3 + (1 : Int32)) ((J31 1 1 0).toNatClampNeg) ∧
                    ma_in (v3 + (2 : Int32)) ((J31 1 1 0).toNatClampNeg) ∧
                    ma_in (v3 + (3 : Int32)) ((J31 1 1 0).toNatClampNeg) ∧
                    Exm (d) 135 [.inr (.inr (40, 0)), .inl (J31 1 0 ((v3 + (1 : Int32)).toNatClampNeg)), .inl (J31 1 0 ((v3 + (2 : Int32)).toNatClampNeg)), .inl (J31 1 0 ((v3 + (3 : Int32)).toNatClampNeg))] J31 p32 (fun r J34 p35 => ∃ x36 : Int32, r = some (.inl x36) ∧
                      (x33 = x36 →
                        Ex (d + 1) 192 (18, [some (.inr (.inr (1, 0))), some (.inr (.inr (5, 0))), some (.inr (.inr (40, 0))), some (.inl (v3 + (6 : Int32)))], [], ma_mem J34 p35, 93, 6687) (ma_end Q)) ∧
                      (x33 ≠ x36 →
                        Q (some (.inl (0 : Int32))) J34 p35)))) ∧
                ((I 1 0 v3.toNatClampNeg) &&& (31 : Int32) ≠ (5 : Int32) →
                  ((I 1 0 v3.toNatClampNeg) &&& (31 : Int32) = (6 : Int32) →
                    ma_in (v3 + (1 : Int32)) ((I 1 1 0).toNatClampNeg) ∧
                    Exm (d) 72 [.inr (.inr (5, 0)), .inl (I 1 0 ((v3 + (1 : Int32)).toNatClampNeg))] I o (fun r J37 p38 => ∃ x39 : Int32, r = some (.inl x39) ∧
                      ma_in (v3 + (1 : Int32)) ((J37 1 1 0).toNatClampNeg) ∧
                      Exm (d) 136 [.inr (.inr (40, 0)), .inl (J37 1 0 ((v3 + (1 : Int32)).toNatClampNeg))] J37 p38 (fun r J40 p41 => ∃ x42 : Int32, r = some (.inl x42) ∧
                        (x39 = x42 →
                          Ex (d + 1) 192 (18, [some (.inr (.inr (1, 0))), some (.inr (.inr (5, 0))), some (.inr (.inr (40, 0))), some (.inl (v3 + (6 : Int32)))], [], ma_mem J40 p41, 93, 6687) (ma_end Q)) ∧
                        (x39 ≠ x42 →
                          Q (some (.inl (0 : Int32))) J40 p41)))) ∧
                  ((I 1 0 v3.toNatClampNeg) &&& (31 : Int32) ≠ (6 : Int32) →
                    ((I 1 0 v3.toNatClampNeg) &&& (31 : Int32) = (7 : Int32) →
                      Exm (d) 73 [.inr (.inr (5, 0))] I o (fun r J43 p44 => ∃ x45 : Int32, r = some (.inl x45) ∧
                        Exm (d) 153 [.inr (.inr (40, 0))] J43 p44 (fun r J46 p47 => ∃ x48 : Int32, r = some (.inl x48) ∧
                          (x45 = x48 →
                            Ex (d + 1) 192 (18, [some (.inr (.inr (1, 0))), some (.inr (.inr (5, 0))), some (.inr (.inr (40, 0))), some (.inl (v3 + (6 : Int32)))], [], ma_mem J46 p47, 93, 6687) (ma_end Q)) ∧
                          (x45 ≠ x48 →
                            Q (some (.inl (0 : Int32))) J46 p47)))) ∧
                    ((I 1 0 v3.toNatClampNeg) &&& (31 : Int32) ≠ (7 : Int32) →
                      ((I 1 0 v3.toNatClampNeg) &&& (31 : Int32) = (8 : Int32) →
                        ma_in (v3 + (1 : Int32)) ((I 1 1 0).toNatClampNeg) ∧
                        Exm (d) 74 [.inr (.inr (5, 0)), .inl (I 1 0 ((v3 + (1 : Int32)).toNatClampNeg))] I o (fun r J49 p50 => ∃ x51 : Int32, r = some (.inl x51) ∧
                          ma_in (v3 + (1 : Int32)) ((J49 1 1 0).toNatClampNeg) ∧
                          Exm (d) 154 [.inr (.inr (40, 0)), .inl (J49 1 0 ((v3 + (1 : Int32)).toNatClampNeg))] J49 p50 (fun r J52 p53 => ∃ x54 : Int32, r = some (.inl x54) ∧
                            (x51 = x54 →
                              Ex (d + 1) 192 (18, [some (.inr (.inr (1, 0))), some (.inr (.inr (5, 0))), some (.inr (.inr (40, 0))), some (.inl (v3 + (6 : Int32)))], [], ma_mem J52 p53, 93, 6687) (ma_end Q)) ∧
                            (x51 ≠ x54 →
                              Q (some (.inl (0 : Int32))) J52 p53)))) ∧
                      ((I 1 0 v3.toNatClampNeg) &&& (31 : Int32) ≠ (8 : Int32) →
                        ((I 1 0 v3.toNatClampNeg) &&& (31 : Int32) = (9 : Int32) →
                          ma_in (v3 + (1 : Int32)) ((I 1 1 0).toNatClampNeg) ∧
                          ma_in (v3 + (2 : Int32)) ((I 1 1 0).toNatClampNeg) ∧
                          ma_in (v3 + (3 : Int32)) ((I 1 1 0).toNatClampNeg) ∧
                          Exm (d) 75 [.inr (.inr (5, 0)), .inl (I 1 0 ((v3 + (1 : Int32)).toNatClampNeg)), .inl (I 1 0 ((v3 + (2 : Int32)).toNatClampNeg)), .inl (I 1 0 ((v3 + (3 : Int32)).toNatClampNeg))] I o (fun r J55 p56 => ∃ x57 : Int32, r = some (.inl x57) ∧
                            ma_in (v3 + (1 : Int32)) ((J55 1 1 0).toNatClampNeg) ∧
                            ma_in (v3 + (2 : Int32)) ((J55 1 1 0).toNatClampNeg) ∧
                            ma_in (v3 + (3 : Int32)) ((J55 1 1 0).toNatClampNeg) ∧
                            Exm (d) 160 [.inr (.inr (40, 0)), .inl (J55 1 0 ((v3 + (1 : Int32)).toNatClampNeg)), .inl (J55 1 0 ((v3 + (2 : Int32)).toNatClampNeg)), .inl (J55 1 0 ((v3 + (3 : Int32)).toNatClampNeg))] J55 p56 (fun r J58 p59 => ∃ x60 : Int32, r = some (.inl x60) ∧
                              (x57 = x60 →
                                Ex (d + 1) 192 (18, [some (.inr (.inr (1, 0))), some (.inr (.inr (5, 0))), some (.inr (.inr (40, 0))), some (.inl (v3 + (6 : Int32)))], [], ma_mem J58 p59, 93, 6687) (ma_end Q)) ∧
                              (x57 ≠ x60 →
                                Q (some (.inl (0 : Int32))) J58 p59)))) ∧
                        ((I 1 0 v3.toNatClampNeg) &&& (31 : Int32) ≠ (9 : Int32) →
                          ((I 1 0 v3.toNatClampNeg) &&& (31 : Int32) = (10 : Int32) →
                            ma_in (v3 + (1 : Int32)) ((I 1 1 0).toNatClampNeg) ∧
                            ma_in (v3 + (2 : Int32)) ((I 1 1 0).toNatClampNeg) ∧
                            Exm (d) 76 [.inr (.inr (5, 0)), .inl (I 1 0 ((v3 + (1 : Int32)).toNatClampNeg)), .inl (I 1 0 ((v3 + (2 : Int32)).toNatClampNeg))] I o (fun r J61 p62 => ∃ x63 : Int32, r = some (.inl x63) ∧
                              ma_in (v3 + (1 : Int32)) ((J61 1 1 0).toNatClampNeg) ∧
                              ma_in (v3 + (2 : Int32)) ((J61 1 1 0).toNatClampNeg) ∧
                              Exm (d) 162 [.inr (.inr (40, 0)), .inl (J61 1 0 ((v3 + (1 : Int32)).toNatClampNeg)), .inl (J61 1 0 ((v3 + (2 : Int32)).toNatClampNeg))] J61 p62 (fun r J64 p65 => ∃ x66 : Int32, r = some (.inl x66) ∧
                                (x63 = x66 →
                                  Ex (d + 1) 192 (18, [some (.inr (.inr (1, 0))), some (.inr (.inr (5, 0))), some (.inr (.inr (40, 0))), some (.inl (v3 + (6 : Int32)))], [], ma_mem J64 p65, 93, 6687) (ma_end Q)) ∧
                                (x63 ≠ x66 →
                                  Q (some (.inl (0 : Int32))) J64 p65)))) ∧
                          ((I 1 0 v3.toNatClampNeg) &&& (31 : Int32) ≠ (10 : Int32) →
                            ((I 1 0 v3.toNatClampNeg) &&& (31 : Int32) = (11 : Int32) →
                              ma_in (v3 + (1 : Int32)) ((I 1 1 0).toNatClampNeg) ∧
                              ma_in (v3 + (2 : Int32)) ((I 1 1 0).toNatClampNeg) ∧
                              Exm (d) 84 [.inr (.inr (5, 0)), .inl (I 1 0 ((v3 + (1 : Int32)).toNatClampNeg)), .inl (I 1 0 ((v3 + (2 : Int32)).toNatClampNeg))] I o (fun r J67 p68 => ∃ x69 : Int32, r = some (.inl x69) ∧
                                ma_in (v3 + (1 : Int32)) ((J67 1 1 0).toNatClampNeg) ∧
                                ma_in (v3 + (2 : Int32)) ((J67 1 1 0).toNatClampNeg) ∧
                                Exm (d) 164 [.inr (.inr (40, 0)), .inl (J67 1 0 ((v3 + (1 : Int32)).toNatClampNeg)), .inl (J67 1 0 ((v3 + (2 : Int32)).toNatClampNeg))] J67 p68 (fun r J70 p71 => ∃ x72 : Int32, r = some (.inl x72) ∧
                                  (x69 = x72 →
                                    Ex (d + 1) 192 (18, [some (.inr (.inr (1, 0))), some (.inr (.inr (5, 0))), some (.inr (.inr (40, 0))), some (.inl (v3 + (6 : Int32)))], [], ma_mem J70 p71, 93, 6687) (ma_end Q)) ∧
                                  (x69 ≠ x72 →
                                    Q (some (.inl (0 : Int32))) J70 p71)))) ∧
                            ((I 1 0 v3.toNatClampNeg) &&& (31 : Int32) ≠ (11 : Int32) →
                              ((I 1 0 v3.toNatClampNeg) &&& (31 : Int32) = (12 : Int32) →
                                ma_in (v3 + (1 : Int32)) ((I 1 1 0).toNatClampNeg) ∧
                                ma_in (v3 + (2 : Int32)) ((I 1 1 0).toNatClampNeg) ∧
                                ma_in (v3 + (3 : Int32)) ((I 1 1 0).toNatClampNeg) ∧
                                Exm (d) 88 [.inr (.inr (5, 0)), .inl (I 1 0 ((v3 + (1 : Int32)).toNatClampNeg)), .inl (I 1 0 ((v3 + (2 : Int32)).toNatClampNeg)), .inl (I 1 0 ((v3 + (3 : Int32)).toNatClampNeg))] I o (fun r J73 p74 => ∃ x75 : Int32, r = some (.inl x75) ∧
                                  ma_in (v3 + (1 : Int32)) ((J73 1 1 0).toNatClampNeg) ∧
                                  ma_in (v3 + (2 : Int32)) ((J73 1 1 0).toNatClampNeg) ∧
                                  ma_in (v3 + (3 : Int32)) ((J73 1 1 0).toNatClampNeg) ∧
                                  Exm (d) 165 [.inr (.inr (40, 0)), .inl (J73 1 0 ((v3 + (1 : Int32)).toNatClampNeg)), .inl (J73 1 0 ((v3 + (2 : Int32)).toNatClampNeg)), .inl (J73 1 0 ((v3 + (3 : Int32)).toNatClampNeg))] J73 p74 (fun r J76 p77 => ∃ x78 : Int32, r = some (.inl x78) ∧
                                    (x75 = x78 →
                                      Ex (d + 1) 192 (18, [some (.inr (.inr (1, 0))), some (.inr (.inr (5, 0))), some (.inr (.inr (40, 0))), some (.inl (v3 + (6 : Int32)))], [], ma_mem J76 p77, 93, 6687) (ma_end Q)) ∧
                                    (x75 ≠ x78 →
                                      Q (some (.inl (0 : Int32))) J76 p77)))) ∧
                              ((I 1 0 v3.toNatClampNeg) &&& (31 : Int32) ≠ (12 : Int32) →
                                ((I 1 0 v3.toNatClampNeg) &&& (31 : Int32) = (13 : Int32) →
                                  ma_in (v3 + (1 : Int32)) ((I 1 1 0).toNatClampNeg) ∧
                                  Exm (d) 90 [.inr (.inr (5, 0)), .inl (I 1 0 ((v3 + (1 : Int32)).toNatClampNeg))] I o (fun r J79 p80 => ∃ x81 : Int32, r = some (.inl x81) ∧
                                    ma_in (v3 + (1 : Int32)) ((J79 1 1 0).toNatClampNeg) ∧
                                    Exm (d) 166 [.inr (.inr (40, 0)), .inl (J79 1 0 ((v3 + (1 : Int32)).toNatClampNeg))] J79 p80 (fun r J82 p83 => ∃ x84 : Int32, r = some (.inl x84) ∧
                                      (x81 = x84 →
                                        Ex (d + 1) 192 (18, [some (.inr (.inr (1, 0))), some (.inr (.inr (5, 0))), some (.inr (.inr (40, 0))), some (.inl (v3 + (6 : Int32)))], [], ma_mem J82 p83, 93, 6687) (ma_end Q)) ∧
                                      (x81 ≠ x84 →
                                        Q (some (.inl (0 : Int32))) J82 p83)))) ∧
                                ((I 1 0 v3.toNatClampNeg) &&& (31 : Int32) ≠ (13 : Int32) →
                                  ((I 1 0 v3.toNatClampNeg) &&& (31 : Int32) = (14 : Int32) →
                                    ma_in (v3 + (1 : Int32)) ((I 1 1 0).toNatClampNeg) ∧
                                    ma_in (v3 + (2 : Int32)) ((I 1 1 0).toNatClampNeg) ∧
                                    Exm (d) 91 [.inr (.inr (5, 0)), .inl (I 1 0 ((v3 + (1 : Int32)).toNatClampNeg)), .inl (I 1 0 ((v3 + (2 : Int32)).toNatClampNeg))] I o (fun r J85 p86 => ∃ x87 : Int32, r = some (.inl x87) ∧
                                      ma_in (v3 + (1 : Int32)) ((J85 1 1 0).toNatClampNeg) ∧
                                      ma_in (v3 + (2 : Int32)) ((J85 1 1 0).toNatClampNeg) ∧
                                      Exm (d) 168 [.inr (.inr (40, 0)), .inl (J85 1 0 ((v3 + (1 : Int32)).toNatClampNeg)), .inl (J85 1 0 ((v3 + (2 : Int32)).toNatClampNeg))] J85 p86 (fun r J88 p89 => ∃ x90 : Int32, r = some (.inl x90) ∧
                                        (x87 = x90 →
                                          Ex (d + 1) 192 (18, [some (.inr (.inr (1, 0))), some (.inr (.inr (5, 0))), some (.inr (.inr (40, 0))), some (.inl (v3 + (6 : Int32)))], [], ma_mem J88 p89, 93, 6687) (ma_end Q)) ∧
                                        (x87 ≠ x90 →
                                          Q (some (.inl (0 : Int32))) J88 p89)))) ∧
                                  ((I 1 0 v3.toNatClampNeg) &&& (31 : Int32) ≠ (14 : Int32) →
                                    ((I 1 0 v3.toNatClampNeg) &&& (31 : Int32) = (15 : Int32) →
                                      ma_in (v3 + (1 : Int32)) ((I 1 1 0).toNatClampNeg) ∧
                                      ma_in (v3 + (2 : Int32)) ((I 1 1 0).toNatClampNeg) ∧
                                      ma_in (v3 + (3 : Int32)) ((I 1 1 0).toNatClampNeg) ∧
                                      Exm (d) 98 [.inr (.inr (5, 0)), .inl (I 1 0 ((v3 + (1 : Int32)).toNatClampNeg)), .inl (I 1 0 ((v3 + (2 : Int32)).toNatClampNeg)), .inl (I 1 0 ((v3 + (3 : Int32)).toNatClampNeg))] I o (fun r J91 p92 => ∃ x93 : Int32, r = some (.inl x93) ∧
                                        ma_in (v3 + (1 : Int32)) ((J91 1 1 0).toNatClampNeg) ∧
                                        ma_in (v3 + (2 : Int32)) ((J91 1 1 0).toNatClampNeg) ∧
                                        ma_in (v3 + (3 : Int32)) ((J91 1 1 0).toNatClampNeg) ∧
                                        Exm (d) 169 [.inr (.inr (40, 0)), .inl (J91 1 0 ((v3 + (1 : Int32)).toNatClampNeg)), .inl (J91 1 0 ((v3 + (2 : Int32)).toNatClampNeg)), .inl (J91 1 0 ((v3 + (3 : Int32)).toNatClampNeg))] J91 p92 (fun r J94 p95 => ∃ x96 : Int32, r = some (.inl x96) ∧
                                          (x93 = x96 →
                                            Ex (d + 1) 192 (18, [some (.inr (.inr (1, 0))), some (.inr (.inr (5, 0))), some (.inr (.inr (40, 0))), some (.inl (v3 + (6 : Int32)))], [], ma_mem J94 p95, 93, 6687) (ma_end Q)) ∧
                                          (x93 ≠ x96 →
                                            Q (some (.inl (0 : Int32))) J94 p95)))) ∧
                                    ((I 1 0 v3.toNatClampNeg) &&& (31 : Int32) ≠ (15 : Int32) →
                                      ((I 1 0 v3.toNatClampNeg) &&& (31 : Int32) = (16 : Int32) →
                                        ma_in (v3 + (1 : Int32)) ((I 1 1 0).toNatClampNeg) ∧
                                        ma_in (v3 + (2 : Int32)) ((I 1 1 0).toNatClampNeg) ∧
                                        Exm (d) 99 [.inr (.inr (5, 0)), .inl (I 1 0 ((v3 + (1 : Int32)).toNatClampNeg)), .inl (I 1 0 ((v3 + (2 : Int32)).toNatClampNeg))] I o (fun r J97 p98 => ∃ x99 : Int32, r = some (.inl x99) ∧
                                          ma_in (v3 + (1 : Int32)) ((J97 1 1 0).toNatClampNeg) ∧
                                          ma_in (v3 + (2 : Int32)) ((J97 1 1 0).toNatClampNeg) ∧
                                          Exm (d) 171 [.inr (.inr (40, 0)), .inl (J97 1 0 ((v3 + (1 : Int32)).toNatClampNeg)), .inl (J97 1 0 ((v3 + (2 : Int32)).toNatClampNeg))] J97 p98 (fun r J100 p101 => ∃ x102 : Int32, r = some (.inl x102) ∧
                                            (x99 = x102 →
                                              Ex (d + 1) 192 (18, [some (.inr (.inr (1, 0))), some (.inr (.inr (5, 0))), some (.inr (.inr (40, 0))), some (.inl (v3 + (6 : Int32)))], [], ma_mem J100 p101, 93, 6687) (ma_end Q)) ∧
                                            (x99 ≠ x102 →
                                              Q (some (.inl (0 : Int32))) J100 p101)))) ∧
                                      ((I 1 0 v3.toNatClampNeg) &&& (31 : Int32) ≠ (16 : Int32) →
                                        ((I 1 0 v3.toNatClampNeg) &&& (31 : Int32) = (17 : Int32) →
                                          ma_in (v3 + (1 : Int32)) ((I 1 1 0).toNatClampNeg) ∧
                                          ma_in (v3 + (2 : Int32)) ((I 1 1 0).toNatClampNeg) ∧
                                          ma_in (v3 + (3 : Int32)) ((I 1 1 0).toNatClampNeg) ∧
                                          ma_in (v3 + (4 : Int32)) ((I 1 1 0).toNatClampNeg) ∧
                                          ma_in (v3 + (5 : Int32)) ((I 1 1 0).toNatClampNeg) ∧
                                          Exm (d) 101 [.inr (.inr (5, 0)), .inl (I 1 0 ((v3 + (1 : Int32)).toNatClampNeg)), .inl (I 1 0 ((v3 + (2 : Int32)).toNatClampNeg)), .inl (I 1 0 ((v3 + (3 : Int32)).toNatClampNeg)), .inl (I 1 0 ((v3 + (4 : Int32)).toNatClampNeg)), .inl (I 1 0 ((v3 + (5 : Int32)).toNatClampNeg))] I o (fun r J103 p104 => ∃ x105 : Int64, r = some (.inr (.inl x105)) ∧
                                            ma_in (v3 + (1 : Int32)) ((J103 1 1 0).toNatClampNeg) ∧
                                            ma_in (v3 + (2 : Int32)) ((J103 1 1 0).toNatClampNeg) ∧
                                            ma_in (v3 + (3 : Int32)) ((J103 1 1 0).toNatClampNeg) ∧
                                            ma_in (v3 + (4 : Int32)) ((J103 1 1 0).toNatClampNeg) ∧
                                            ma_in (v3 + (5 : Int32)) ((J103 1 1 0).toNatClampNeg) ∧
                                            Exm (d) 173 [.inr (.inr (40, 0)), .inl (J103 1 0 ((v3 + (1 : Int32)).toNatClampNeg)), .inl (J103 1 0 ((v3 + (2 : Int32)).toNatClampNeg)), .inl (J103 1 0 ((v3 + (3 : Int32)).toNatClampNeg)), .inl (J103 1 0 ((v3 + (4 : Int32)).toNatClampNeg)), .inl (J103 1 0 ((v3 + (5 : Int32)).toNatClampNeg))] J103 p104 (fun r J106 p107 => ∃ x108 : Int64, r = some (.inr (.inl x108)) ∧
                                              (lg_cmp x105 x108 = 0 →
                                                Ex (d + 1) 192 (18, [some (.inr (.inr (1, 0))), some (.inr (.inr (5, 0))), some (.inr (.inr (40, 0))), some (.inl (v3 + (6 : Int32)))], [], ma_mem J106 p107, 93, 6687) (ma_end Q)) ∧
                                              (lg_cmp x105 x108 ≠ 0 →
                                                Q (some (.inl (0 : Int32))) J106 p107)))) ∧
                                        ((I 1 0 v3.toNatClampNeg) &&& (31 : Int32) ≠ (17 : Int32) →
                                          ((I 1 0 v3.toNatClampNeg) &&& (31 : Int32) = (18 : Int32) →
                                            Exm (d) 103 [.inr (.inr (5, 0))] I o (fun r J109 p110 => ∃ x111 : Int32, r = some (.inl x111) ∧
                                              Exm (d) 175 [.inr (.inr (40, 0))] J109 p110 (fun r J112 p113 => ∃ x114 : Int32, r = some (.inl x114) ∧
                                                (x111 = x114 →
                                                  Ex (d + 1) 192 (18, [some (.inr (.inr (1, 0))), some (.inr (.inr (5, 0))), some (.inr (.inr (40, 0))), some (.inl (v3 + (6 : Int32)))], [], ma_mem J112 p113, 93, 6687) (ma_end Q)) ∧
                                                (x111 ≠ x114 →
                                                  Q (some (.inl (0 : Int32))) J112 p113)))) ∧
                                          ((I 1 0 v3.toNatClampNeg) &&& (31 : Int32) ≠ (18 : Int32) →
                                            ((I 1 0 v3.toNatClampNeg) &&& (31 : Int32) = (19 : Int32) →
                                              Exm (d) 104 [.inr (.inr (5, 0))] I o (fun r J115 p116 => ∃ x117 : Int32, r = some (.inl x117) ∧
                                                Exm (d) 176 [.inr (.inr (40, 0))] J115 p116 (fun r J118 p119 => ∃ x120 : Int32, r = some (.inl x120) ∧
                                                  (x117 = x120 →
                                                    Ex (d + 1) 192 (18, [some (.inr (.inr (1, 0))), some (.inr (.inr (5, 0))), some (.inr (.inr (40, 0))), some (.inl (v3 + (6 : Int32)))], [], ma_mem J118 p119, 93, 6687) (ma_end Q)) ∧
                                                  (x117 ≠ x120 →
                                                    Q (some (.inl (0 : Int32))) J118 p119)))) ∧
                                            ((I 1 0 v3.toNatClampNeg) &&& (31 : Int32) ≠ (19 : Int32) →
                                              ((I 1 0 v3.toNatClampNeg) &&& (31 : Int32) = (20 : Int32) →
                                                ma_in (v3 + (1 : Int32)) ((I 1 1 0).toNatClampNeg) ∧
                                                Exm (d) 105 [.inr (.inr (5, 0)), .inl (I 1 0 ((v3 + (1 : Int32)).toNatClampNeg))] I o (fun r J121 p122 => ∃ x123 : Int32, r = some (.inl x123) ∧
                                                  ma_in (v3 + (1 : Int32)) ((J121 1 1 0).toNatClampNeg) ∧
                                                  Exm (d) 177 [.inr (.inr (40, 0)), .inl (J121 1 0 ((v3 + (1 : Int32)).toNatClampNeg))] J121 p122 (fun r J124 p125 => ∃ x126 : Int32, r = some (.inl x126) ∧
                                                    (x123 = x126 →
                                                      Ex (d + 1) 192 (18, [some (.inr (.inr (1, 0))), some (.inr (.inr (5, 0))), some (.inr (.inr (40, 0))), some (.inl (v3 + (6 : Int32)))], [], ma_mem J124 p125, 93, 6687) (ma_end Q)) ∧
                                                    (x123 ≠ x126 →
                                                      Q (some (.inl (0 : Int32))) J124 p125)))) ∧
                                              ((I 1 0 v3.toNatClampNeg) &&& (31 : Int32) ≠ (20 : Int32) →
                                                ((I 1 0 v3.toNatClampNeg) &&& (31 : Int32) = (21 : Int32) →
                                                  ma_in (v3 + (1 : Int32)) ((I 1 1 0).toNatClampNeg) ∧
                                                  ma_in (v3 + (2 : Int32)) ((I 1 1 0).toNatClampNeg) ∧
                                                  ma_in (v3 + (3 : Int32)) ((I 1 1 0).toNatClampNeg) ∧
                                                  Exm (d) 106 [.inr (.inr (5, 0)), .inl (I 1 0 ((v3 + (1 : Int32)).toNatClampNeg)), .inl (I 1 0 ((v3 + (2 : Int32)).toNatClampNeg)), .inl (I 1 0 ((v3 + (3 : Int32)).toNatClampNeg))] I o (fun r J127 p128 => ∃ x129 : Int32, r = some (.inl x129) ∧
                                                    ma_in (v3 + (1 : Int32)) ((J127 1 1 0).toNatClampNeg) ∧
                                                    ma_in (v3 + (2 : Int32)) ((J127 1 1 0).toNatClampNeg) ∧
                                                    ma_in (v3 + (3 : Int32)) ((J127 1 1 0).toNatClampNeg) ∧
                                                    Exm (d) 179 [.inr (.inr (40, 0)), .inl (J127 1 0 ((v3 + (1 : Int32)).toNatClampNeg)), .inl (J127 1 0 ((v3 + (2 : Int32)).toNatClampNeg)), .inl (J127 1 0 ((v3 + (3 : Int32)).toNatClampNeg))] J127 p128 (fun r J130 p131 => ∃ x132 : Int32, r = some (.inl x132) ∧
                                                      (x129 = x132 →
                                                        Ex (d + 1) 192 (18, [some (.inr (.inr (1, 0))), some (.inr (.inr (5, 0))), some (.inr (.inr (40, 0))), some (.inl (v3 + (6 : Int32)))], [], ma_mem J130 p131, 93, 6687) (ma_end Q)) ∧
                                                      (x129 ≠ x132 →
                                                        Q (some (.inl (0 : Int32))) J130 p131)))) ∧
                                                ((I 1 0 v3.toNatClampNeg) &&& (31 : Int32) ≠ (21 : Int32) →
                                                  ((I 1 0 v3.toNatClampNeg) &&& (31 : Int32) = (22 : Int32) →
                                                    ma_in (v3 + (1 : Int32)) ((I 1 1 0).toNatClampNeg) ∧
                                                    ma_in (v3 + (2 : Int32)) ((I 1 1 0).toNatClampNeg) ∧
                                                    ma_in (v3 + (3 : Int32)) ((I 1 1 0).toNatClampNeg) ∧
                                                    Exm (d) 107 [.inr (.inr (5, 0)), .inl (I 1 0 ((v3 + (1 : Int32)).toNatClampNeg)), .inl (I 1 0 ((v3 + (2 : Int32)).toNatClampNeg)), .inl (I 1 0 ((v3 + (3 : Int32)).toNatClampNeg))] I o (fun r J133 p134 => ∃ x135 : Int32, r = some (.inl x135) ∧
                                                      ma_in (v3 + (1 : Int32)) ((J133 1 1 0).toNatClampNeg) ∧
                                                      ma_in (v3 + (2 : Int32)) ((J133 1 1 0).toNatClampNeg) ∧
                                                      ma_in (v3 + (3 : Int32)) ((J133 1 1 0).toNatClampNeg) ∧
                                                      Exm (d) 180 [.inr (.inr (40, 0)), .inl (J133 1 0 ((v3 + (1 : Int32)).toNatClampNeg)), .inl (J133 1 0 ((v3 + (2 : Int32)).toNatClampNeg)), .inl (J133 1 0 ((v3 + (3 : Int32)).toNatClampNeg))] J133 p134 (fun r J136 p137 => ∃ x138 : Int32, r = some (.inl x138) ∧
                                                        (x135 = x138 →
                                                          Ex (d + 1) 192 (18, [some (.inr (.inr (1, 0))), some (.inr (.inr (5, 0))), some (.inr (.inr (40, 0))), some (.inl (v3 + (6 : Int32)))], [], ma_mem J136 p137, 93, 6687) (ma_end Q)) ∧
                                                        (x135 ≠ x138 →
                                                          Q (some (.inl (0 : Int32))) J136 p137)))) ∧
                                                  ((I 1 0 v3.toNatClampNeg) &&& (31 : Int32) ≠ (22 : Int32) →
                                                    ((I 1 0 v3.toNatClampNeg) &&& (31 : Int32) = (23 : Int32) →
                                                      ma_in (v3 + (1 : Int32)) ((I 1 1 0).toNatClampNeg) ∧
                                                      ma_in (v3 + (2 : Int32)) ((I 1 1 0).toNatClampNeg) ∧
                                                      ma_in (v3 + (3 : Int32)) ((I 1 1 0).toNatClampNeg) ∧
                                                      ma_in (v3 + (4 : Int32)) ((I 1 1 0).toNatClampNeg) ∧
                                                      ma_in (v3 + (5 : Int32)) ((I 1 1 0).toNatClampNeg) ∧
                                                      Exm (d) 108 [.inr (.inr (5, 0)), .inl (I 1 0 ((v3 + (1 : Int32)).toNatClampNeg)), .inl (I 1 0 ((v3 + (2 : Int32)).toNatClampNeg)), .inl (I 1 0 ((v3 + (3 : Int32)).toNatClampNeg)), .inl (I 1 0 ((v3 + (4 : Int32)).toNatClampNeg)), .inl (I 1 0 ((v3 + (5 : Int32)).toNatClampNeg))] I o (fun r J139 p140 => ∃ x141 : Int32, r = some (.inl x141) ∧
                                                        ma_in (v3 + (1 : Int32)) ((J139 1 1 0).toNatClampNeg) ∧
                                                        ma_in (v3 + (2 : Int32)) ((J139 1 1 0).toNatClampNeg) ∧
                                                        ma_in (v3 + (3 : Int32)) ((J139 1 1 0).toNatClampNeg) ∧
                                                        ma_in (v3 + (4 : Int32)) ((J139 1 1 0).toNatClampNeg) ∧
                                                        ma_in (v3 + (5 : Int32)) ((J139 1 1 0).toNatClampNeg) ∧
                                                        Exm (d) 181 [.inr (.inr (40, 0)), .inl (J139 1 0 ((v3 + (1 : Int32)).toNatClampNeg)), .inl (J139 1 0 ((v3 + (2 : Int32)).toNatClampNeg)), .inl (J139 1 0 ((v3 + (3 : Int32)).toNatClampNeg)), .inl (J139 1 0 ((v3 + (4 : Int32)).toNatClampNeg)), .inl (J139 1 0 ((v3 + (5 : Int32)).toNatClampNeg))] J139 p140 (fun r J142 p143 => ∃ x144 : Int32, r = some (.inl x144) ∧
                                                          (x141 = x144 →
                                                            Ex (d + 1) 192 (18, [some (.inr (.inr (1, 0))), some (.inr (.inr (5, 0))), some (.inr (.inr (40, 0))), some (.inl (v3 + (6 : Int32)))], [], ma_mem J142 p143, 93, 6687) (ma_end Q)) ∧
                                                          (x141 ≠ x144 →
                                                            Q (some (.inl (0 : Int32))) J142 p143)))) ∧
                                                    ((I 1 0 v3.toNatClampNeg) &&& (31 : Int32) ≠ (23 : Int32) →
                                                      ((I 1 0 v3.toNatClampNeg) &&& (31 : Int32) = (24 : Int32) →
                                                        ma_in (v3 + (1 : Int32)) ((I 1 1 0).toNatClampNeg) ∧
                                                        ma_in (v3 + (2 : Int32)) ((I 1 1 0).toNatClampNeg) ∧
                                                        ma_in (v3 + (3 : Int32)) ((I 1 1 0).toNatClampNeg) ∧
                                                        ma_in (v3 + (4 : Int32)) ((I 1 1 0).toNatClampNeg) ∧
                                                        Exm (d) 109 [.inr (.inr (5, 0)), .inl (I 1 0 ((v3 + (1 : Int32)).toNatClampNeg)), .inl (I 1 0 ((v3 + (2 : Int32)).toNatClampNeg)), .inl (I 1 0 ((v3 + (3 : Int32)).toNatClampNeg)), .inl (I 1 0 ((v3 + (4 : Int32)).toNatClampNeg))] I o (fun r J145 p146 => ∃ x147 : Int32, r = some (.inl x147) ∧
                                                          ma_in (v3 + (1 : Int32)) ((J145 1 1 0).toNatClampNeg) ∧
                                                          ma_in (v3 + (2 : Int32)) ((J145 1 1 0).toNatClampNeg) ∧
                                                          ma_in (v3 + (3 : Int32)) ((J145 1 1 0).toNatClampNeg) ∧
                                                          ma_in (v3 + (4 : Int32)) ((J145 1 1 0).toNatClampNeg) ∧
                                                          Exm (d) 182 [.inr (.inr (40, 0)), .inl (J145 1 0 ((v3 + (1 : Int32)).toNatClampNeg)), .inl (J145 1 0 ((v3 + (2 : Int32)).toNatClampNeg)), .inl (J145 1 0 ((v3 + (3 : Int32)).toNatClampNeg)), .inl (J145 1 0 ((v3 + (4 : Int32)).toNatClampNeg))] J145 p146 (fun r J148 p149 => ∃ x150 : Int32, r = some (.inl x150) ∧
                                                            (x147 = x150 →
                                                              Ex (d + 1) 192 (18, [some (.inr (.inr (1, 0))), some (.inr (.inr (5, 0))), some (.inr (.inr (40, 0))), some (.inl (v3 + (6 : Int32)))], [], ma_mem J148 p149, 93, 6687) (ma_end Q)) ∧
                                                            (x147 ≠ x150 →
                                                              Q (some (.inl (0 : Int32))) J148 p149)))) ∧
                                                      ((I 1 0 v3.toNatClampNeg) &&& (31 : Int32) ≠ (24 : Int32) →
                                                        ((I 1 0 v3.toNatClampNeg) &&& (31 : Int32) = (25 : Int32) →
                                                          ma_in (v3 + (1 : Int32)) ((I 1 1 0).toNatClampNeg) ∧
                                                          ma_in (v3 + (2 : Int32)) ((I 1 1 0).toNatClampNeg) ∧
                                                          Exm (d) 110 [.inr (.inr (5, 0)), .inl (I 1 0 ((v3 + (1 : Int32)).toNatClampNeg)), .inl (I 1 0 ((v3 + (2 : Int32)).toNatClampNeg))] I o (fun r J151 p152 => ∃ x153 : Int32, r = some (.inl x153) ∧
                                                            ma_in (v3 + (1 : Int32)) ((J151 1 1 0).toNatClampNeg) ∧
                                                            ma_in (v3 + (2 : Int32)) ((J151 1 1 0).toNatClampNeg) ∧
                                                            Exm (d) 183 [.inr (.inr (40, 0)), .inl (J151 1 0 ((v3 + (1 : Int32)).toNatClampNeg)), .inl (J151 1 0 ((v3 + (2 : Int32)).toNatClampNeg))] J151 p152 (fun r J154 p155 => ∃ x156 : Int32, r = some (.inl x156) ∧
                                                              (x153 = x156 →
                                                                Ex (d + 1) 192 (18, [some (.inr (.inr (1, 0))), some (.inr (.inr (5, 0))), some (.inr (.inr (40, 0))), some (.inl (v3 + (6 : Int32)))], [], ma_mem J154 p155, 93, 6687) (ma_end Q)) ∧
                                                              (x153 ≠ x156 →
                                                                Q (some (.inl (0 : Int32))) J154 p155)))) ∧
                                                        ((I 1 0 v3.toNatClampNeg) &&& (31 : Int32) ≠ (25 : Int32) →
                                                          Ex (d + 1) 192 (18, [some (.inr (.inr (1, 0))), some (.inr (.inr (5, 0))), some (.inr (.inr (40, 0))), some (.inl (v3 + (6 : Int32)))], [], ma_mem I o, 93, 6687) (ma_end Q))))))))))))))))))))))))))))) :
  Ex (d + 1) 192 (18, [some (.inr (.inr (1, 0))), some (.inr (.inr (5, 0))), some (.inr (.inr (40, 0))), some (.inl v3)], [], ma_mem I o, 93, 6687) (ma_end Q) := by
  refine ex_iload_n (pc := 18) (fr_get fo_192_0 10 rfl) rfl ?_
  refine ex_aload_n (pc := 19) (fr_get fo_192_0 11 rfl) rfl rfl ?_
  refine ex_arraylength (pc := 20) (fr_get fo_192_0 12 rfl) gz_1 (n := (I 1 1 0).toNatClampNeg) rfl ?_
  refine ex_bipush (pc := 21) (fr_get fo_192_0 13 rfl) bp_6 ?_
  refine ex_isub (pc := 23) (fr_get fo_192_0 14 rfl) ?_
  refine yv_cgt (pc := 24) (fr_get fo_192_0 15 rfl) (t := 1067) rfl (fun c => ?_) (fun c => ?_)
  · replace h := h.1 c
    refine ex_iconst (pc := 1067) (fr_get fo_192_48 9 rfl) ic_1 ?_
    exact ex_zreturn (pc := 1068) (fr_get fo_192_48 10 rfl) rt_192 mc_192a mc_192b ⟨Or.inr rfl, ma_end_mk h⟩
  · replace h := h.2 c
    refine ex_aload_n (pc := 27) (fr_get fo_192_1 0 rfl) rfl rfl ?_
    refine ex_iload_n (pc := 28) (fr_get fo_192_1 1 rfl) rfl ?_
    refine yv_iald (pc := 29) (fr_get fo_192_1 2 rfl) gk_1 (n := (I 1 1 0).toNatClampNeg) rfl rfl rfl h.1 ?_
    replace h := h.2
    refine ex_bipush (pc := 30) (fr_get fo_192_1 3 rfl) bp_31 ?_
    refine ex_iand (pc := 32) (fr_get fo_192_1 4 rfl) ?_
    refine yv_ts (pc := 33) (fr_get fo_192_1 5 rfl) (l := [119, 152, 195, 238, 271, 294, 337, 360, 373, 396, 439, 472, 505, 548, 571, 604, 647, 680, 744, 757, 770, 793, 836, 879, 942, 995]) rfl tk_192_33 ?_
    refine yv_tc (t := 152) ic_0 rfl (fun c => ?_) (fun c => ?_)
    · replace h := h.1 c
      refine ex_aload_n (pc := 152) (fr_get fo_192_1 6 rfl) rfl rfl ?_
      refine ex_aload_n (pc := 153) (fr_get fo_192_1 7 rfl) rfl rfl ?_
      refine ex_iload_n (pc := 154) (fr_get fo_192_1 8 rfl) rfl ?_
      refine ex_iconst (pc := 155) (fr_get fo_192_1 9 rfl) ic_1 ?_
      refine ex_iadd (pc := 156) (fr_get fo_192_1 10 rfl) ?_
      refine yv_iald (pc := 157) (fr_get fo_192_1 11 rfl) gk_1 (n := (I 1 1 0).toNatClampNeg) rfl rfl rfl h.1 ?_
      replace h := h.2
      refine ex_aload_n (pc := 158) (fr_get fo_192_1 12 rfl) rfl rfl ?_
      refine ex_iload_n (pc := 159) (fr_get fo_192_1 13 rfl) rfl ?_
      refine ex_iconst (pc := 160) (fr_get fo_192_1 14 rfl) ic_2 ?_
      refine ex_iadd (pc := 161) (fr_get fo_192_1 15 rfl) ?_
      refine yv_iald (pc := 162) (fr_get fo_192_2 0 rfl) gk_1 (n := (I 1 1 0).toNatClampNeg) rfl rfl rfl h.1 ?_
      replace h := h.2
      refine yv_kv1 (pc := 163) (fr_get fo_192_2 1 rfl) cc_192_13 (as := [.inr (.inr (5, 0)), .inl (I 1 0 ((v3 + (1 : Int32)).toNatClampNeg)), .inl (I 1 0 ((v3 + (2 : Int32)).toNatClampNeg))]) (rs := []) rfl rfl rfl rfl rfl ?_
      refine h.mono (fun r J1 p2 h => ?_)
      obtain ⟨x3, hr, h⟩ := h
      refine ⟨x3, hr, ?_⟩
      refine ex_aload_n (pc := 166) (fr_get fo_192_2 2 rfl) rfl rfl ?_
      refine ex_aload_n (pc := 167) (fr_get fo_192_2 3 rfl) rfl rfl ?_
      refine ex_iload_n (pc := 168) (fr_get fo_192_2 4 rfl) rfl ?_
      refine ex_iconst (pc := 169) (fr_get fo_192_2 5 rfl) ic_1 ?_
      refine ex_iadd (pc := 170) (fr_get fo_192_2 6 rfl) ?_
      refine yv_iald (pc := 171) (fr_get fo_192_2 7 rfl) gk_1 (n := (J1 1 1 0).toNatClampNeg) rfl rfl rfl h.1 ?_
      replace h := h.2
      refine ex_aload_n (pc := 172) (fr_get fo_192_2 8 rfl) rfl rfl ?_
      refine ex_iload_n (pc := 173) (fr_get fo_192_2 9 rfl) rfl ?_
      refine ex_iconst (pc := 174) (fr_get fo_192_2 10 rfl) ic_2 ?_
      refine ex_iadd (pc := 175) (fr_get fo_192_2 11 rfl) ?_
      refine yv_iald (pc := 176) (fr_get fo_192_2 12 rfl) gk_1 (n := (J1 1 1 0).toNatClampNeg) rfl rfl rfl h.1 ?_
      replace h := h.2
      refine yv_kv1 (pc := 177) (fr_get fo_192_2 13 rfl) cc_192_17 (as := [.inr (.inr (40, 0)), .inl (J1 1 0 ((v3 + (1 : Int32)).toNatClampNeg)), .inl (J1 1 0 ((v3 + (2 : Int32)).toNatClampNeg))]) (rs := [.inl x3]) rfl rfl rfl rfl rfl ?_
      refine h.mono (fun r J4 p5 h => ?_)
      obtain ⟨x6, hr, h⟩ := h
      refine ⟨x6, hr, ?_⟩
      refine yv_ceq (pc := 180) (fr_get fo_192_2 14 rfl) (t := 1061) rfl (fun c => ?_) (fun c => ?_)
      · replace h := h.1 c
        refine yv_iinc (pc := 1061) (fr_get fo_192_48 7 rfl) rfl ic_6 (L' := [some (.inr (.inr (1, 0))), some (.inr (.inr (5, 0))), some (.inr (.inr (40, 0))), some (.inl (v3 + (6 : Int32)))]) rfl ?_
        refine ex_goto (pc := 1064) (fr_get fo_192_48 8 rfl) (t := 18) rfl ?_
        exact h
      · replace h := h.2 c
        refine ex_iconst (pc := 183) (fr_get fo_192_2 15 rfl) ic_0 ?_
        exact ex_zreturn (pc := 184) (fr_get fo_192_3 0 rfl) rt_192 mc_192a mc_192b ⟨Or.inl rfl, ma_end_mk h⟩
    · replace h := h.2 c
      refine yv_tc (t := 185) ic_1 rfl (fun c => ?_) (fun c => ?_)
      · replace h := h.1 c
        refine ex_aload_n (pc := 185) (fr_get fo_192_3 1 rfl) rfl rfl ?_
        refine ex_aload_n (pc := 186) (fr_get fo_192_3 2 rfl) rfl rfl ?_
        refine ex_iload_n (pc := 187) (fr_get fo_192_3 3 rfl) rfl ?_
        refine ex_iconst (pc := 188) (fr_get fo_192_3 4 rfl) ic_1 ?_
        refine ex_iadd (pc := 189) (fr_get fo_192_3 5 rfl) ?_
        refine yv_iald (pc := 190) (fr_get fo_192_3 6 rfl) gk_1 (n := (I 1 1 0).toNatClampNeg) rfl rfl rfl h.1 ?_
        replace h := h.2
        refine ex_aload_n (pc := 191) (fr_get fo_192_3 7 rfl) rfl rfl ?_
        refine ex_iload_n (pc := 192) (fr_get fo_192_3 8 rfl) rfl ?_
        refine ex_iconst (pc := 193) (fr_get fo_192_3 9 rfl) ic_2 ?_
        refine ex_iadd (pc := 194) (fr_get fo_192_3 10 rfl) ?_
        refine yv_iald (pc := 195) (fr_get fo_192_3 11 rfl) gk_1 (n := (I 1 1 0).toNatClampNeg) rfl rfl rfl h.1 ?_
        replace h := h.2
        refine ex_aload_n (pc := 196) (fr_get fo_192_3 12 rfl) rfl rfl ?_
        refine ex_iload_n (pc := 197) (fr_get fo_192_3 13 rfl) rfl ?_
        refine ex_iconst (pc := 198) (fr_get fo_192_3 14 rfl) ic_3 ?_
        refine ex_iadd (pc := 199) (fr_get fo_192_3 15 rfl) ?_
        refine yv_iald (pc := 200) (fr_get fo_192_4 0 rfl) gk_1 (n := (I 1 1 0).toNatClampNeg) rfl rfl rfl h.1 ?_
        replace h := h.2
        refine yv_kv1 (pc := 201) (fr_get fo_192_4 1 rfl) cc_192_18 (as := [.inr (.inr (5, 0)), .inl (I 1 0 ((v3 + (1 : Int32)).toNatClampNeg)), .inl (I 1 0 ((v3 + (2 : Int32)).toNatClampNeg)), .inl (I 1 0 ((v3 + (3 : Int32)).toNatClampNeg))]) (rs := []) rfl rfl rfl rfl rfl ?_
        refine h.mono (fun r J7 p8 h => ?_)
        obtain ⟨x9, hr, h⟩ := h
        refine ⟨x9, hr, ?_⟩
        refine ex_aload_n (pc := 204) (fr_get fo_192_4 2 rfl) rfl rfl ?_
        refine ex_aload_n (pc := 205) (fr_get fo_192_4 3 rfl) rfl rfl ?_
        refine ex_iload_n (pc := 206) (fr_get fo_192_4 4 rfl) rfl ?_
        refine ex_iconst (pc := 207) (fr_get fo_192_4 5 rfl) ic_1 ?_
        refine ex_iadd (pc := 208) (fr_get fo_192_4 6 rfl) ?_
        refine yv_iald (pc := 209) (fr_get fo_192_4 7 rfl) gk_1 (n := (J7 1 1 0).toNatClampNeg) rfl rfl rfl h.1 ?_
        replace h := h.2
        refine ex_aload_n (pc := 210) (fr_get fo_192_4 8 rfl) rfl rfl ?_
        refine ex_iload_n (pc := 211) (fr_get fo_192_4 9 rfl) rfl ?_
        refine ex_iconst (pc := 212) (fr_get fo_192_4 10 rfl) ic_2 ?_
        refine ex_iadd (pc := 213) (fr_get fo_192_4 11 rfl) ?_
        refine yv_iald (pc := 214) (fr_get fo_192_4 12 rfl) gk_1 (n := (J7 1 1 0).toNatClampNeg) rfl rfl rfl h.1 ?_
        replace h := h.2
        refine ex_aload_n (pc := 215) (fr_get fo_192_4 13 rfl) rfl rfl ?_
        refine ex_iload_n (pc := 216) (fr_get fo_192_4 14 rfl) rfl ?_
        refine ex_iconst (pc := 217) (fr_get fo_192_4 15 rfl) ic_3 ?_
        refine ex_iadd (pc := 218) (fr_get fo_192_5 0 rfl) ?_
        refine yv_iald (pc := 219) (fr_get fo_192_5 1 rfl) gk_1 (n := (J7 1 1 0).toNatClampNeg) rfl rfl rfl h.1 ?_
        replace h := h.2
        refine yv_kv1 (pc := 220) (fr_get fo_192_5 2 rfl) cc_192_22 (as := [.inr (.inr (40, 0)), .inl (J7 1 0 ((v3 + (1 : Int32)).toNatClampNeg)), .inl (J7 1 0 ((v3 + (2 : Int32)).toNatClampNeg)), .inl (J7 1 0 ((v3 + (3 : Int32)).toNatClampNeg))]) (rs := [.inl x9]) rfl rfl rfl rfl rfl ?_
        refine h.mono (fun r J10 p11 h => ?_)
        obtain ⟨x12, hr, h⟩ := h
        refine ⟨x12, hr, ?_⟩
        refine yv_ceq (pc := 223) (fr_get fo_192_5 3 rfl) (t := 1061) rfl (fun c => ?_) (fun c => ?_)
        · replace h := h.1 c
          refine yv_iinc (pc := 1061) (fr_get fo_192_48 7 rfl) rfl ic_6 (L' := [some (.inr (.inr (1, 0))), some (.inr (.inr (5, 0))), some (.inr (.inr (40, 0))), some (.inl (v3 + (6 : Int32)))]) rfl ?_
          refine ex_goto (pc := 1064) (fr_get fo_192_48 8 rfl) (t := 18) rfl ?_
          exact h
        · replace h := h.2 c
          refine ex_iconst (pc := 226) (fr_get fo_192_5 4 rfl) ic_0 ?_
          exact ex_zreturn (pc := 227) (fr_get fo_192_5 5 rfl) rt_192 mc_192a mc_192b ⟨Or.inl rfl, ma_end_mk h⟩
      · replace h := h.2 c
        refine yv_tc (t := 228) ic_2 rfl (fun c => ?_) (fun c => ?_)
        · replace h := h.1 c
          refine ex_aload_n (pc := 228) (fr_get fo_192_5 6 rfl) rfl rfl ?_
          refine ex_aload_n (pc := 229) (fr_get fo_192_5 7 rfl) rfl rfl ?_
          refine ex_iload_n (pc := 230) (fr_get fo_192_5 8 rfl) rfl ?_
          refine ex_iconst (pc := 231) (fr_get fo_192_5 9 rfl) ic_1 ?_
          refine ex_iadd (pc := 232) (fr_get fo_192_5 10 rfl) ?_
          refine yv_iald (pc := 233) (fr_get fo_192_5 11 rfl) gk_1 (n := (I 1 1 0).toNatClampNeg) rfl rfl rfl h.1 ?_
          replace h := h.2
          refine ex_aload_n (pc := 234) (fr_get fo_192_5 12 rfl) rfl rfl ?_
          refine ex_iload_n (pc := 235) (fr_get fo_192_5 13 rfl) rfl ?_
          refine ex_iconst (pc := 236) (fr_get fo_192_5 14 rfl) ic_2 ?_
          refine ex_iadd (pc := 237) (fr_get fo_192_5 15 rfl) ?_
          refine yv_iald (pc := 238) (fr_get fo_192_6 0 rfl) gk_1 (n := (I 1 1 0).toNatClampNeg) rfl rfl rfl h.1 ?_
          replace h := h.2
          refine ex_aload_n (pc := 239) (fr_get fo_192_6 1 rfl) rfl rfl ?_
          refine ex_iload_n (pc := 240) (fr_get fo_192_6 2 rfl) rfl ?_
          refine ex_iconst (pc := 241) (fr_get fo_192_6 3 rfl) ic_3 ?_
          refine ex_iadd (pc := 242) (fr_get fo_192_6 4 rfl) ?_
          refine yv_iald (pc := 243) (fr_get fo_192_6 5 rfl) gk_1 (n := (I 1 1 0).toNatClampNeg) rfl rfl rfl h.1 ?_
          replace h := h.2
          refine yv_kv1 (pc := 244) (fr_get fo_192_6 6 rfl) cc_192_23 (as := [.inr (.inr (5, 0)), .inl (I 1 0 ((v3 + (1 : Int32)).toNatClampNeg)), .inl (I 1 0 ((v3 + (2 : Int32)).toNatClampNeg)), .inl (I 1 0 ((v3 + (3 : Int32)).toNatClampNeg))]) (rs := []) rfl rfl rfl rfl rfl ?_
          refine h.mono (fun r J13 p14 h => ?_)
          obtain ⟨x15, hr, h⟩ := h
          refine ⟨x15, hr, ?_⟩
          refine ex_aload_n (pc := 247) (fr_get fo_192_6 7 rfl) rfl rfl ?_
          refine ex_aload_n (pc := 248) (fr_get fo_192_6 8 rfl) rfl rfl ?_
          refine ex_iload_n (pc := 249) (fr_get fo_192_6 9 rfl) rfl ?_
          refine ex_iconst (pc := 250) (fr_get fo_192_6 10 rfl) ic_1 ?_
          refine ex_iadd (pc := 251) (fr_get fo_192_6 11 rfl) ?_
          refine yv_iald (pc := 252) (fr_get fo_192_6 12 rfl) gk_1 (n := (J13 1 1 0).toNatClampNeg) rfl rfl rfl h.1 ?_
          replace h := h.2
          refine ex_aload_n (pc := 253) (fr_get fo_192_6 13 rfl) rfl rfl ?_
          refine ex_iload_n (pc := 254) (fr_get fo_192_6 14 rfl) rfl ?_
          refine ex_iconst (pc := 255) (fr_get fo_192_6 15 rfl) ic_2 ?_
          refine ex_iadd (pc := 256) (fr_get fo_192_7 0 rfl) ?_
          refine yv_iald (pc := 257) (fr_get fo_192_7 1 rfl) gk_1 (n := (J13 1 1 0).toNatClampNeg) rfl rfl rfl h.1 ?_
          replace h := h.2
          refine ex_aload_n (pc := 258) (fr_get fo_192_7 2 rfl) rfl rfl ?_
          refine ex_iload_n (pc := 259) (fr_get fo_192_7 3 rfl) rfl ?_
          refine ex_iconst (pc := 260) (fr_get fo_192_7 4 rfl) ic_3 ?_
          refine ex_iadd (pc := 261) (fr_get fo_192_7 5 rfl) ?_
          refine yv_iald (pc := 262) (fr_get fo_192_7 6 rfl) gk_1 (n := (J13 1 1 0).toNatClampNeg) rfl rfl rfl h.1 ?_
          replace h := h.2
          refine yv_kv1 (pc := 263) (fr_get fo_192_7 7 rfl) cc_192_26 (as := [.inr (.inr (40, 0)), .inl (J13 1 0 ((v3 + (1 : Int32)).toNatClampNeg)), .inl (J13 1 0 ((v3 + (2 : Int32)).toNatClampNeg)), .inl (J13 1 0 ((v3 + (3 : Int32)).toNatClampNeg))]) (rs := [.inl x15]) rfl rfl rfl rfl rfl ?_
          refine h.mono (fun r J16 p17 h => ?_)
          obtain ⟨x18, hr, h⟩ := h
          refine ⟨x18, hr, ?_⟩
          refine yv_ceq (pc := 266) (fr_get fo_192_7 8 rfl) (t := 1061) rfl (fun c => ?_) (fun c => ?_)
          · replace h := h.1 c
            refine yv_iinc (pc := 1061) (fr_get fo_192_48 7 rfl) rfl ic_6 (L' := [some (.inr (.inr (1, 0))), some (.inr (.inr (5, 0))), some (.inr (.inr (40, 0))), some (.inl (v3 + (6 : Int32)))]) rfl ?_
            refine ex_goto (pc := 1064) (fr_get fo_192_48 8 rfl) (t := 18) rfl ?_
            exact h
          · replace h := h.2 c
            refine ex_iconst (pc := 269) (fr_get fo_192_7 9 rfl) ic_0 ?_
            exact ex_zreturn (pc := 270) (fr_get fo_192_7 10 rfl) rt_192 mc_192a mc_192b ⟨Or.inl rfl, ma_end_mk h⟩
        · replace h := h.2 c
          refine yv_tc (t := 271) ic_3 rfl (fun c => ?_) (fun c => ?_)
          · replace h := h.1 c
            refine ex_aload_n (pc := 271) (fr_get fo_192_7 11 rfl) rfl rfl ?_
            refine ex_aload_n (pc := 272) (fr_get fo_192_7 12 rfl) rfl rfl ?_
            refine ex_iload_n (pc := 273) (fr_get fo_192_7 13 rfl) rfl ?_
            refine ex_iconst (pc := 274) (fr_get fo_192_7 14 rfl) ic_1 ?_
            refine ex_iadd (pc := 275) (fr_get fo_192_7 15 rfl) ?_
            refine yv_iald (pc := 276) (fr_get fo_192_8 0 rfl) gk_1 (n := (I 1 1 0).toNatClampNeg) rfl rfl rfl h.1 ?_
            replace h := h.2
            refine ex_aload_n (pc := 277) (fr_get fo_192_8 1 rfl) rfl rfl ?_
            refine ex_iload_n (pc := 278) (fr_get fo_192_8 2 rfl) rfl ?_
            refine ex_iconst (pc := 279) (fr_get fo_192_8 3 rfl) ic_2 ?_
            refine ex_iadd (pc := 280) (fr_get fo_192_8 4 rfl) ?_
            refine yv_iald (pc := 281) (fr_get fo_192_8 5 rfl) gk_1 (n := (I 1 1 0).toNatClampNeg) rfl rfl rfl h.1 ?_
            replace h := h.2
            refine yv_kv1 (pc := 282) (fr_get fo_192_8 6 rfl) cc_192_27 (as := [.inr (.inr (5, 0)), .inl (I 1 0 ((v3 + (1 : Int32)).toNatClampNeg)), .inl (I 1 0 ((v3 + (2 : Int32)).toNatClampNeg))]) (rs := []) rfl rfl rfl rfl rfl ?_
            refine h.mono (fun r J19 p20 h => ?_)
            obtain ⟨x21, hr, h⟩ := h
            refine ⟨x21, hr, ?_⟩
            refine ex_aload_n (pc := 285) (fr_get fo_192_8 7 rfl) rfl rfl ?_
            refine ex_aload_n (pc := 286) (fr_get fo_192_8 8 rfl) rfl rfl ?_
            refine ex_iload_n (pc := 287) (fr_get fo_192_8 9 rfl) rfl ?_
            refine ex_iconst (pc := 288) (fr_get fo_192_8 10 rfl) ic_1 ?_
            refine ex_iadd (pc := 289) (fr_get fo_192_8 11 rfl) ?_
            refine yv_iald (pc := 290) (fr_get fo_192_8 12 rfl) gk_1 (n := (J19 1 1 0).toNatClampNeg) rfl rfl rfl h.1 ?_
            replace h := h.2
            refine ex_aload_n (pc := 291) (fr_get fo_192_8 13 rfl) rfl rfl ?_
            refine ex_iload_n (pc := 292) (fr_get fo_192_8 14 rfl) rfl ?_
            refine ex_iconst (pc := 293) (fr_get fo_192_8 15 rfl) ic_2 ?_
            refine ex_iadd (pc := 294) (fr_get fo_192_9 0 rfl) ?_
            refine yv_iald (pc := 295) (fr_get fo_192_9 1 rfl) gk_1 (n := (J19 1 1 0).toNatClampNeg) rfl rfl rfl h.1 ?_
            replace h := h.2
            refine yv_kv1 (pc := 296) (fr_get fo_192_9 2 rfl) cc_192_30 (as := [.inr (.inr (40, 0)), .inl (J19 1 0 ((v3 + (1 : Int32)).toNatClampNeg)), .inl (J19 1 0 ((v3 + (2 : Int32)).toNatClampNeg))]) (rs := [.inl x21]) rfl rfl rfl rfl rfl ?_
            refine h.mono (fun r J22 p23 h => ?_)
            obtain ⟨x24, hr, h⟩ := h
            refine ⟨x24, hr, ?_⟩
            refine yv_ceq (pc := 299) (fr_get fo_192_9 3 rfl) (t := 1061) rfl (fun c => ?_) (fun c => ?_)
            · replace h := h.1 c
              refine yv_iinc (pc := 1061) (fr_get fo_192_48 7 rfl) rfl ic_6 (L' := [some (.inr (.inr (1, 0))), some (.inr (.inr (5, 0))), some (.inr (.inr (40, 0))), some (.inl (v3 + (6 : Int32)))]) rfl ?_
              refine ex_goto (pc := 1064) (fr_get fo_192_48 8 rfl) (t := 18) rfl ?_
              exact h
            · replace h := h.2 c
              refine ex_iconst (pc := 302) (fr_get fo_192_9 4 rfl) ic_0 ?_
              exact ex_zreturn (pc := 303) (fr_get fo_192_9 5 rfl) rt_192 mc_192a mc_192b ⟨Or.inl rfl, ma_end_mk h⟩
          · replace h := h.2 c
            refine yv_tc (t := 304) ic_4 rfl (fun c => ?_) (fun c => ?_)
            · replace h := h.1 c
              refine ex_aload_n (pc := 304) (fr_get fo_192_9 6 rfl) rfl rfl ?_
              refine ex_aload_n (pc := 305) (fr_get fo_192_9 7 rfl) rfl rfl ?_
              refine ex_iload_n (pc := 306) (fr_get fo_192_9 8 rfl) rfl ?_
              refine ex_iconst (pc := 307) (fr_get fo_192_9 9 rfl) ic_1 ?_
              refine ex_iadd (pc := 308) (fr_get fo_192_9 10 rfl) ?_
              refine yv_iald (pc := 309) (fr_get fo_192_9 11 rfl) gk_1 (n := (I 1 1 0).toNatClampNeg) rfl rfl rfl h.1 ?_
              replace h := h.2
              refine yv_kv1 (pc := 310) (fr_get fo_192_9 12 rfl) cc_192_31 (as := [.inr (.inr (5, 0)), .inl (I 1 0 ((v3 + (1 : Int32)).toNatClampNeg))]) (rs := []) rfl rfl rfl rfl rfl ?_
              refine h.mono (fun r J25 p26 h => ?_)
              obtain ⟨x27, hr, h⟩ := h
              refine ⟨x27, hr, ?_⟩
              refine ex_aload_n (pc := 313) (fr_get fo_192_9 13 rfl) rfl rfl ?_
              refine ex_aload_n (pc := 314) (fr_get fo_192_9 14 rfl) rfl rfl ?_
              refine ex_iload_n (pc := 315) (fr_get fo_192_9 15 rfl) rfl ?_
              refine ex_iconst (pc := 316) (fr_get fo_192_10 0 rfl) ic_1 ?_
              refine ex_iadd (pc := 317) (fr_get fo_192_10 1 rfl) ?_
              refine yv_iald (pc := 318) (fr_get fo_192_10 2 rfl) gk_1 (n := (J25 1 1 0).toNatClampNeg) rfl rfl rfl h.1 ?_
              replace h := h.2
              refine yv_kv1 (pc := 319) (fr_get fo_192_10 3 rfl) cc_192_35 (as := [.inr (.inr (40, 0)), .inl (J25 1 0 ((v3 + (1 : Int32)).toNatClampNeg))]) (rs := [.inl x27]) rfl rfl rfl rfl rfl ?_
              refine h.mono (fun r J28 p29 h => ?_)
              obtain ⟨x30, hr, h⟩ := h
              refine ⟨x30, hr, ?_⟩
              refine yv_ceq (pc := 322) (fr_get fo_192_10 4 rfl) (t := 1061) rfl (fun c => ?_) (fun c => ?_)
              · replace h := h.1 c
                refine yv_iinc (pc := 1061) (fr_get fo_192_48 7 rfl) rfl ic_6 (L' := [some (.inr (.inr (1, 0))), some (.inr (.inr (5, 0))), some (.inr (.inr (40, 0))), some (.inl (v3 + (6 : Int32)))]) rfl ?_
                refine ex_goto (pc := 1064) (fr_get fo_192_48 8 rfl) (t := 18) rfl ?_
                exact h
              · replace h := h.2 c
                refine ex_iconst (pc := 325) (fr_get fo_192_10 5 rfl) ic_0 ?_
                exact ex_zreturn (pc := 326) (fr_get fo_192_10 6 rfl) rt_192 mc_192a mc_192b ⟨Or.inl rfl, ma_end_mk h⟩
            · replace h := h.2 c
              refine yv_tc (t := 327) ic_5 rfl (fun c => ?_) (fun c => ?_)
              · replace h := h.1 c
                refine ex_aload_n (pc := 327) (fr_get fo_192_10 7 rfl) rfl rfl ?_
                refine ex_aload_n (pc := 328) (fr_get fo_192_10 8 rfl) rfl rfl ?_
                refine ex_iload_n (pc := 329) (fr_get fo_192_10 9 rfl) rfl ?_
                refine ex_iconst (pc := 330) (fr_get fo_192_10 10 rfl) ic_1 ?_
                refine ex_iadd (pc := 331) (fr_get fo_192_10 11 rfl) ?_
                refine yv_iald (pc := 332) (fr_get fo_192_10 12 rfl) gk_1 (n := (I 1 1 0).toNatClampNeg) rfl rfl rfl h.1 ?_
                replace h := h.2
                refine ex_aload_n (pc := 333) (fr_get fo_192_10 13 rfl) rfl rfl ?_
                refine ex_iload_n (pc := 334) (fr_get fo_192_10 14 rfl) rfl ?_
                refine ex_iconst (pc := 335) (fr_get fo_192_10 15 rfl) ic_2 ?_
                refine ex_iadd (pc := 336) (fr_get fo_192_11 0 rfl) ?_
                refine yv_iald (pc := 337) (fr_get fo_192_11 1 rfl) gk_1 (n := (I 1 1 0).toNatClampNeg) rfl rfl rfl h.1 ?_
                replace h := h.2
                refine ex_aload_n (pc := 338) (fr_get fo_192_11 2 rfl) rfl rfl ?_
                refine ex_iload_n (pc := 339) (fr_get fo_192_11 3 rfl) rfl ?_
                refine ex_iconst (pc := 340) (fr_get fo_192_11 4 rfl) ic_3 ?_
                refine ex_iadd (pc := 341) (fr_get fo_192_11 5 rfl) ?_
                refine yv_iald (pc := 342) (fr_get fo_192_11 6 rfl) gk_1 (n := (I 1 1 0).toNatClampNeg) rfl rfl rfl h.1 ?_
                replace h := h.2
                refine yv_kv1 (pc := 343) (fr_get fo_192_11 7 rfl) cc_192_36 (as := [.inr (.inr (5, 0)), .inl (I 1 0 ((v3 + (1 : Int32)).toNatClampNeg)), .inl (I 1 0 ((v3 + (2 : Int32)).toNatClampNeg)), .inl (I 1 0 ((v3 + (3 : Int32)).toNatClampNeg))]) (rs := []) rfl rfl rfl rfl rfl ?_
                refine h.mono (fun r J31 p32 h => ?_)
                obtain ⟨x33, hr, h⟩ := h
                refine ⟨x33, hr, ?_⟩
                refine ex_aload_n (pc := 346) (fr_get fo_192_11 8 rfl) rfl rfl ?_
                refine ex_aload_n (pc := 347) (fr_get fo_192_11 9 rfl) rfl rfl ?_
                refine ex_iload_n (pc := 348) (fr_get fo_192_11 10 rfl) rfl ?_
                refine ex_iconst (pc := 349) (fr_get fo_192_11 11 rfl) ic_1 ?_
                refine ex_iadd (pc := 350) (fr_get fo_192_11 12 rfl) ?_
                refine yv_iald (pc := 351) (fr_get fo_192_11 13 rfl) gk_1 (n := (J31 1 1 0).toNatClampNeg) rfl rfl rfl h.1 ?_
                replace h := h.2
                refine ex_aload_n (pc := 352) (fr_get fo_192_11 14 rfl) rfl rfl ?_
                refine ex_iload_n (pc := 353) (fr_get fo_192_11 15 rfl) rfl ?_
                refine ex_iconst (pc := 354) (fr_get fo_192_12 0 rfl) ic_2 ?_
                refine ex_iadd (pc := 355) (fr_get fo_192_12 1 rfl) ?_
                refine yv_iald (pc := 356) (fr_get fo_192_12 2 rfl) gk_1 (n := (J31 1 1 0).toNatClampNeg) rfl rfl rfl h.1 ?_
                replace h := h.2
                refine ex_aload_n (pc := 357) (fr_get fo_192_12 3 rfl) rfl rfl ?_
                refine ex_iload_n (pc := 358) (fr_get fo_192_12 4 rfl) rfl ?_
                refine ex_iconst (pc := 359) (fr_get fo_192_12 5 rfl) ic_3 ?_
                refine ex_iadd (pc := 360) (fr_get fo_192_12 6 rfl) ?_
                refine yv_iald (pc := 361) (fr_get fo_192_12 7 rfl) gk_1 (n := (J31 1 1 0).toNatClampNeg) rfl rfl rfl h.1 ?_
                replace h := h.2
                refine yv_kv1 (pc := 362) (fr_get fo_192_12 8 rfl) cc_192_39 (as := [.inr (.inr (40, 0)), .inl (J31 1 0 ((v3 + (1 : Int32)).toNatClampNeg)), .inl (J31 1 0 ((v3 + (2 : Int32)).toNatClampNeg)), .inl (J31 1 0 ((v3 + (3 : Int32)).toNatClampNeg))]) (rs := [.inl x33]) rfl rfl rfl rfl rfl ?_
                refine h.mono (fun r J34 p35 h => ?_)
                obtain ⟨x36, hr, h⟩ := h
                refine ⟨x36, hr, ?_⟩
                refine yv_ceq (pc := 365) (fr_get fo_192_12 9 rfl) (t := 1061) rfl (fun c => ?_) (fun c => ?_)
                · replace h := h.1 c
                  refine yv_iinc (pc := 1061) (fr_get fo_192_48 7 rfl) rfl ic_6 (L' := [some (.inr (.inr (1, 0))), some (.inr (.inr (5, 0))), some (.inr (.inr (40, 0))), some (.inl (v3 + (6 : Int32)))]) rfl ?_
                  refine ex_goto (pc := 1064) (fr_get fo_192_48 8 rfl) (t := 18) rfl ?_
                  exact h
                · replace h := h.2 c
                  refine ex_iconst (pc := 368) (fr_get fo_192_12 10 rfl) ic_0 ?_
                  exact ex_zreturn (pc := 369) (fr_get fo_192_12 11 rfl) rt_192 mc_192a mc_192b ⟨Or.inl rfl, ma_end_mk h⟩
              · replace h := h.2 c
                refine yv_tc (t := 370) ic_6 rfl (fun c => ?_) (fun c => ?_)
                · replace h := h.1 c
                  refine ex_aload_n (pc := 370) (fr_get fo_192_12 12 rfl) rfl rfl ?_
                  refine ex_aload_n (pc := 371) (fr_get fo_192_12 13 rfl) rfl rfl ?_
                  refine ex_iload_n (pc := 372) (fr_get fo_192_12 14 rfl) rfl ?_
                  refine ex_iconst (pc := 373) (fr_get fo_192_12 15 rfl) ic_1 ?_
                  refine ex_iadd (pc := 374) (fr_get fo_192_13 0 rfl) ?_
                  refine yv_iald (pc := 375) (fr_get fo_192_13 1 rfl) gk_1 (n := (I 1 1 0).toNatClampNeg) rfl rfl rfl h.1 ?_
                  replace h := h.2
                  refine yv_kv1 (pc := 376) (fr_get fo_192_13 2 rfl) cc_192_40 (as := [.inr (.inr (5, 0)), .inl (I 1 0 ((v3 + (1 : Int32)).toNatClampNeg))]) (rs := []) rfl rfl rfl rfl rfl ?_
                  refine h.mono (fun r J37 p38 h => ?_)
                  obtain ⟨x39, hr, h⟩ := h
                  refine ⟨x39, hr, ?_⟩
                  refine ex_aload_n (pc := 379) (fr_get fo_192_13 3 rfl) rfl rfl ?_
                  refine ex_aload_n (pc := 380) (fr_get fo_192_13 4 rfl) rfl rfl ?_
                  refine ex_iload_n (pc := 381) (fr_get fo_192_13 5 rfl) rfl ?_
                  refine ex_iconst (pc := 382) (fr_get fo_192_13 6 rfl) ic_1 ?_
                  refine ex_iadd (pc := 383) (fr_get fo_192_13 7 rfl) ?_
                  refine yv_iald (pc := 384) (fr_get fo_192_13 8 rfl) gk_1 (n := (J37 1 1 0).toNatClampNeg) rfl rfl rfl h.1 ?_
                  replace h := h.2
                  refine yv_kv1 (pc := 385) (fr_get fo_192_13 9 rfl) cc_192_43 (as := [.inr (.inr (40, 0)), .inl (J37 1 0 ((v3 + (1 : Int32)).toNatClampNeg))]) (rs := [.inl x39]) rfl rfl rfl rfl rfl ?_
                  refine h.mono (fun r J40 p41 h => ?_)
                  obtain ⟨x42, hr, h⟩ := h
                  refine ⟨x42, hr, ?_⟩
                  refine yv_ceq (pc := 388) (fr_get fo_192_13 10 rfl) (t := 1061) rfl (fun c => ?_) (fun c => ?_)
                  · replace h := h.1 c
                    refine yv_iinc (pc := 1061) (fr_get fo_192_48 7 rfl) rfl ic_6 (L' := [some (.inr (.inr (1, 0))), some (.inr (.inr (5, 0))), some (.inr (.inr (40, 0))), some (.inl (v3 + (6 : Int32)))]) rfl ?_
                    refine ex_goto (pc := 1064) (fr_get fo_192_48 8 rfl) (t := 18) rfl ?_
                    exact h
                  · replace h := h.2 c
                    refine ex_iconst (pc := 391) (fr_get fo_192_13 11 rfl) ic_0 ?_
                    exact ex_zreturn (pc := 392) (fr_get fo_192_13 12 rfl) rt_192 mc_192a mc_192b ⟨Or.inl rfl, ma_end_mk h⟩
                · replace h := h.2 c
                  refine yv_tc (t := 393) ic_7 rfl (fun c => ?_) (fun c => ?_)
                  · replace h := h.1 c
                    refine ex_aload_n (pc := 393) (fr_get fo_192_13 13 rfl) rfl rfl ?_
                    refine yv_kv1 (pc := 394) (fr_get fo_192_13 14 rfl) cc_192_44 (as := [.inr (.inr (5, 0))]) (rs := []) rfl rfl rfl rfl rfl ?_
                    refine h.mono (fun r J43 p44 h => ?_)
                    obtain ⟨x45, hr, h⟩ := h
                    refine ⟨x45, hr, ?_⟩
                    refine ex_aload_n (pc := 397) (fr_get fo_192_13 15 rfl) rfl rfl ?_
                    refine yv_kv1 (pc := 398) (fr_get fo_192_14 0 rfl) cc_192_48 (as := [.inr (.inr (40, 0))]) (rs := [.inl x45]) rfl rfl rfl rfl rfl ?_
                    refine h.mono (fun r J46 p47 h => ?_)
                    obtain ⟨x48, hr, h⟩ := h
                    refine ⟨x48, hr, ?_⟩
                    refine yv_ceq (pc := 401) (fr_get fo_192_14 1 rfl) (t := 1061) rfl (fun c => ?_) (fun c => ?_)
                    · replace h := h.1 c
                      refine yv_iinc (pc := 1061) (fr_get fo_192_48 7 rfl) rfl ic_6 (L' := [some (.inr (.inr (1, 0))), some (.inr (.inr (5, 0))), some (.inr (.inr (40, 0))), some (.inl (v3 + (6 : Int32)))]) rfl ?_
                      refine ex_goto (pc := 1064) (fr_get fo_192_48 8 rfl) (t := 18) rfl ?_
                      exact h
                    · replace h := h.2 c
                      refine ex_iconst (pc := 404) (fr_get fo_192_14 2 rfl) ic_0 ?_
                      exact ex_zreturn (pc := 405) (fr_get fo_192_14 3 rfl) rt_192 mc_192a mc_192b ⟨Or.inl rfl, ma_end_mk h⟩
                  · replace h := h.2 c
                    refine yv_tc (t := 406) ic_8 rfl (fun c => ?_) (fun c => ?_)
                    · replace h := h.1 c
                      refine ex_aload_n (pc := 406) (fr_get fo_192_14 4 rfl) rfl rfl ?_
                      refine ex_aload_n (pc := 407) (fr_get fo_192_14 5 rfl) rfl rfl ?_
                      refine ex_iload_n (pc := 408) (fr_get fo_192_14 6 rfl) rfl ?_
                      refine ex_iconst (pc := 409) (fr_get fo_192_14 7 rfl) ic_1 ?_
                      refine ex_iadd (pc := 410) (fr_get fo_192_14 8 rfl) ?_
                      refine yv_iald (pc := 411) (fr_get fo_192_14 9 rfl) gk_1 (n := (I 1 1 0).toNatClampNeg) rfl rfl rfl h.1 ?_
                      replace h := h.2
                      refine yv_kv1 (pc := 412) (fr_get fo_192_14 10 rfl) cc_192_49 (as := [.inr (.inr (5, 0)), .inl (I 1 0 ((v3 + (1 : Int32)).toNatClampNeg))]) (rs := []) rfl rfl rfl rfl rfl ?_
                      refine h.mono (fun r J49 p50 h => ?_)
                      obtain ⟨x51, hr, h⟩ := h
                      refine ⟨x51, hr, ?_⟩
                      refine ex_aload_n (pc := 415) (fr_get fo_192_14 11 rfl) rfl rfl ?_
                      refine ex_aload_n (pc := 416) (fr_get fo_192_14 12 rfl) rfl rfl ?_
                      refine ex_iload_n (pc := 417) (fr_get fo_192_14 13 rfl) rfl ?_
                      refine ex_iconst (pc := 418) (fr_get fo_192_14 14 rfl) ic_1 ?_
                      refine ex_iadd (pc := 419) (fr_get fo_192_14 15 rfl) ?_
                      refine yv_iald (pc := 420) (fr_get fo_192_15 0 rfl) gk_1 (n := (J49 1 1 0).toNatClampNeg) rfl rfl rfl h.1 ?_
                      replace h := h.2
                      refine yv_kv1 (pc := 421) (fr_get fo_192_15 1 rfl) cc_192_52 (as := [.inr (.inr (40, 0)), .inl (J49 1 0 ((v3 + (1 : Int32)).toNatClampNeg))]) (rs := [.inl x51]) rfl rfl rfl rfl rfl ?_
                      refine h.mono (fun r J52 p53 h => ?_)
                      obtain ⟨x54, hr, h⟩ := h
                      refine ⟨x54, hr, ?_⟩
                      refine yv_ceq (pc := 424) (fr_get fo_192_15 2 rfl) (t := 1061) rfl (fun c => ?_) (fun c => ?_)
                      · replace h := h.1 c
                        refine yv_iinc (pc := 1061) (fr_get fo_192_48 7 rfl) rfl ic_6 (L' := [some (.inr (.inr (1, 0))), some (.inr (.inr (5, 0))), some (.inr (.inr (40, 0))), some (.inl (v3 + (6 : Int32)))]) rfl ?_
                        refine ex_goto (pc := 1064) (fr_get fo_192_48 8 rfl) (t := 18) rfl ?_
                        exact h
                      · replace h := h.2 c
                        refine ex_iconst (pc := 427) (fr_get fo_192_15 3 rfl) ic_0 ?_
                        exact ex_zreturn (pc := 428) (fr_get fo_192_15 4 rfl) rt_192 mc_192a mc_192b ⟨Or.inl rfl, ma_end_mk h⟩
                    · replace h := h.2 c
                      refine yv_tc (t := 429) ic_9 rfl (fun c => ?_) (fun c => ?_)
                      · replace h := h.1 c
                        refine ex_aload_n (pc := 429) (fr_get fo_192_15 5 rfl) rfl rfl ?_
                        refine ex_aload_n (pc := 430) (fr_get fo_192_15 6 rfl) rfl rfl ?_
                        refine ex_iload_n (pc := 431) (fr_get fo_192_15 7 rfl) rfl ?_
                        refine ex_iconst (pc := 432) (fr_get fo_192_15 8 rfl) ic_1 ?_
                        refine ex_iadd (pc := 433) (fr_get fo_192_15 9 rfl) ?_
                        refine yv_iald (pc := 434) (fr_get fo_192_15 10 rfl) gk_1 (n := (I 1 1 0).toNatClampNeg) rfl rfl rfl h.1 ?_
                        replace h := h.2
                        refine ex_aload_n (pc := 435) (fr_get fo_192_15 11 rfl) rfl rfl ?_
                        refine ex_iload_n (pc := 436) (fr_get fo_192_15 12 rfl) rfl ?_
                        refine ex_iconst (pc := 437) (fr_get fo_192_15 13 rfl) ic_2 ?_
                        refine ex_iadd (pc := 438) (fr_get fo_192_15 14 rfl) ?_
                        refine yv_iald (pc := 439) (fr_get fo_192_15 15 rfl) gk_1 (n := (I 1 1 0).toNatClampNeg) rfl rfl rfl h.1 ?_
                        replace h := h.2
                        refine ex_aload_n (pc := 440) (fr_get fo_192_16 0 rfl) rfl rfl ?_
                        refine ex_iload_n (pc := 441) (fr_get fo_192_16 1 rfl) rfl ?_
                        refine ex_iconst (pc := 442) (fr_get fo_192_16 2 rfl) ic_3 ?_
                        refine ex_iadd (pc := 443) (fr_get fo_192_16 3 rfl) ?_
                        refine yv_iald (pc := 444) (fr_get fo_192_16 4 rfl) gk_1 (n := (I 1 1 0).toNatClampNeg) rfl rfl rfl h.1 ?_
                        replace h := h.2
                        refine yv_kv1 (pc := 445) (fr_get fo_192_16 5 rfl) cc_192_53 (as := [.inr (.inr (5, 0)), .inl (I 1 0 ((v3 + (1 : Int32)).toNatClampNeg)), .inl (I 1 0 ((v3 + (2 : Int32)).toNatClampNeg)), .inl (I 1 0 ((v3 + (3 : Int32)).toNatClampNeg))]) (rs := []) rfl rfl rfl rfl rfl ?_
                        refine h.mono (fun r J55 p56 h => ?_)
                        obtain ⟨x57, hr, h⟩ := h
                        refine ⟨x57, hr, ?_⟩
                        refine ex_aload_n (pc := 448) (fr_get fo_192_16 6 rfl) rfl rfl ?_
                        refine ex_aload_n (pc := 449) (fr_get fo_192_16 7 rfl) rfl rfl ?_
                        refine ex_iload_n (pc := 450) (fr_get fo_192_16 8 rfl) rfl ?_
                        refine ex_iconst (pc := 451) (fr_get fo_192_16 9 rfl) ic_1 ?_
                        refine ex_iadd (pc := 452) (fr_get fo_192_16 10 rfl) ?_
                        refine yv_iald (pc := 453) (fr_get fo_192_16 11 rfl) gk_1 (n := (J55 1 1 0).toNatClampNeg) rfl rfl rfl h.1 ?_
                        replace h := h.2
                        refine ex_aload_n (pc := 454) (fr_get fo_192_16 12 rfl) rfl rfl ?_
                        refine ex_iload_n (pc := 455) (fr_get fo_192_16 13 rfl) rfl ?_
                        refine ex_iconst (pc := 456) (fr_get fo_192_16 14 rfl) ic_2 ?_
                        refine ex_iadd (pc := 457) (fr_get fo_192_16 15 rfl) ?_
                        refine yv_iald (pc := 458) (fr_get fo_192_17 0 rfl) gk_1 (n := (J55 1 1 0).toNatClampNeg) rfl rfl rfl h.1 ?_
                        replace h := h.2
                        refine ex_aload_n (pc := 459) (fr_get fo_192_17 1 rfl) rfl rfl ?_
                        refine ex_iload_n (pc := 460) (fr_get fo_192_17 2 rfl) rfl ?_
                        refine ex_iconst (pc := 461) (fr_get fo_192_17 3 rfl) ic_3 ?_
                        refine ex_iadd (pc := 462) (fr_get fo_192_17 4 rfl) ?_
                        refine yv_iald (pc := 463) (fr_get fo_192_17 5 rfl) gk_1 (n := (J55 1 1 0).toNatClampNeg) rfl rfl rfl h.1 ?_
                        replace h := h.2
                        refine yv_kv1 (pc := 464) (fr_get fo_192_17 6 rfl) cc_192_56 (as := [.inr (.inr (40, 0)), .inl (J55 1 0 ((v3 + (1 : Int32)).toNatClampNeg)), .inl (J55 1 0 ((v3 + (2 : Int32)).toNatClampNeg)), .inl (J55 1 0 ((v3 + (3 : Int32)).toNatClampNeg))]) (rs := [.inl x57]) rfl rfl rfl rfl rfl ?_
                        refine h.mono (fun r J58 p59 h => ?_)
                        obtain ⟨x60, hr, h⟩ := h
                        refine ⟨x60, hr, ?_⟩
                        refine yv_ceq (pc := 467) (fr_get fo_192_17 7 rfl) (t := 1061) rfl (fun c => ?_) (fun c => ?_)
                        · replace h := h.1 c
                          refine yv_iinc (pc := 1061) (fr_get fo_192_48 7 rfl) rfl ic_6 (L' := [some (.inr (.inr (1, 0))), some (.inr (.inr (5, 0))), some (.inr (.inr (40, 0))), some (.inl (v3 + (6 : Int32)))]) rfl ?_
                          refine ex_goto (pc := 1064) (fr_get fo_192_48 8 rfl) (t := 18) rfl ?_
                          exact h
                        · replace h := h.2 c
                          refine ex_iconst (pc := 470) (fr_get fo_192_17 8 rfl) ic_0 ?_
                          exact ex_zreturn (pc := 471) (fr_get fo_192_17 9 rfl) rt_192 mc_192a mc_192b ⟨Or.inl rfl, ma_end_mk h⟩
                      · replace h := h.2 c
                        refine yv_tc (t := 472) ic_10 rfl (fun c => ?_) (fun c => ?_)
                        · replace h := h.1 c
                          refine ex_aload_n (pc := 472) (fr_get fo_192_17 10 rfl) rfl rfl ?_
                          refine ex_aload_n (pc := 473) (fr_get fo_192_17 11 rfl) rfl rfl ?_
                          refine ex_iload_n (pc := 474) (fr_get fo_192_17 12 rfl) rfl ?_
                          refine ex_iconst (pc := 475) (fr_get fo_192_17 13 rfl) ic_1 ?_
                          refine ex_iadd (pc := 476) (fr_get fo_192_17 14 rfl) ?_
                          refine yv_iald (pc := 477) (fr_get fo_192_17 15 rfl) gk_1 (n := (I 1 1 0).toNatClampNeg) rfl rfl rfl h.1 ?_
                          replace h := h.2
                          refine ex_aload_n (pc := 478) (fr_get fo_192_18 0 rfl) rfl rfl ?_
                          refine ex_iload_n (pc := 479) (fr_get fo_192_18 1 rfl) rfl ?_
                          refine ex_iconst (pc := 480) (fr_get fo_192_18 2 rfl) ic_2 ?_
                          refine ex_iadd (pc := 481) (fr_get fo_192_18 3 rfl) ?_
                          refine yv_iald (pc := 482) (fr_get fo_192_18 4 rfl) gk_1 (n := (I 1 1 0).toNatClampNeg) rfl rfl rfl h.1 ?_
                          replace h := h.2
                          refine yv_kv1 (pc := 483) (fr_get fo_192_18 5 rfl) cc_192_57 (as := [.inr (.inr (5, 0)), .inl (I 1 0 ((v3 + (1 : Int32)).toNatClampNeg)), .inl (I 1 0 ((v3 + (2 : Int32)).toNatClampNeg))]) (rs := []) rfl rfl rfl rfl rfl ?_
                          refine h.mono (fun r J61 p62 h => ?_)
                          obtain ⟨x63, hr, h⟩ := h
                          refine ⟨x63, hr, ?_⟩
                          refine ex_aload_n (pc := 486) (fr_get fo_192_18 6 rfl) rfl rfl ?_
                          refine ex_aload_n (pc := 487) (fr_get fo_192_18 7 rfl) rfl rfl ?_
                          refine ex_iload_n (pc := 488) (fr_get fo_192_18 8 rfl) rfl ?_
                          refine ex_iconst (pc := 489) (fr_get fo_192_18 9 rfl) ic_1 ?_
                          refine ex_iadd (pc := 490) (fr_get fo_192_18 10 rfl) ?_
                          refine yv_iald (pc := 491) (fr_get fo_192_18 11 rfl) gk_1 (n := (J61 1 1 0).toNatClampNeg) rfl rfl rfl h.1 ?_
                          replace h := h.2
                          refine ex_aload_n (pc := 492) (fr_get fo_192_18 12 rfl) rfl rfl ?_
                          refine ex_iload_n (pc := 493) (fr_get fo_192_18 13 rfl) rfl ?_
                          refine ex_iconst (pc := 494) (fr_get fo_192_18 14 rfl) ic_2 ?_
                          refine ex_iadd (pc := 495) (fr_get fo_192_18 15 rfl) ?_
                          refine yv_iald (pc := 496) (fr_get fo_192_19 0 rfl) gk_1 (n := (J61 1 1 0).toNatClampNeg) rfl rfl rfl h.1 ?_
                          replace h := h.2
                          refine yv_kv1 (pc := 497) (fr_get fo_192_19 1 rfl) cc_192_60 (as := [.inr (.inr (40, 0)), .inl (J61 1 0 ((v3 + (1 : Int32)).toNatClampNeg)), .inl (J61 1 0 ((v3 + (2 : Int32)).toNatClampNeg))]) (rs := [.inl x63]) rfl rfl rfl rfl rfl ?_
                          refine h.mono (fun r J64 p65 h => ?_)
                          obtain ⟨x66, hr, h⟩ := h
                          refine ⟨x66, hr, ?_⟩
                          refine yv_ceq (pc := 500) (fr_get fo_192_19 2 rfl) (t := 1061) rfl (fun c => ?_) (fun c => ?_)
                          · replace h := h.1 c
                            refine yv_iinc (pc := 1061) (fr_get fo_192_48 7 rfl) rfl ic_6 (L' := [some (.inr (.inr (1, 0))), some (.inr (.inr (5, 0))), some (.inr (.inr (40, 0))), some (.inl (v3 + (6 : Int32)))]) rfl ?_
                            refine ex_goto (pc := 1064) (fr_get fo_192_48 8 rfl) (t := 18) rfl ?_
                            exact h
                          · replace h := h.2 c
                            refine ex_iconst (pc := 503) (fr_get fo_192_19 3 rfl) ic_0 ?_
                            exact ex_zreturn (pc := 504) (fr_get fo_192_19 4 rfl) rt_192 mc_192a mc_192b ⟨Or.inl rfl, ma_end_mk h⟩
                        · replace h := h.2 c
                          refine yv_tc (t := 505) ic_11 rfl (fun c => ?_) (fun c => ?_)
                          · replace h := h.1 c
                            refine ex_aload_n (pc := 505) (fr_get fo_192_19 5 rfl) rfl rfl ?_
                            refine ex_aload_n (pc := 506) (fr_get fo_192_19 6 rfl) rfl rfl ?_
                            refine ex_iload_n (pc := 507) (fr_get fo_192_19 7 rfl) rfl ?_
                            refine ex_iconst (pc := 508) (fr_get fo_192_19 8 rfl) ic_1 ?_
                            refine ex_iadd (pc := 509) (fr_get fo_192_19 9 rfl) ?_
                            refine yv_iald (pc := 510) (fr_get fo_192_19 10 rfl) gk_1 (n := (I 1 1 0).toNatClampNeg) rfl rfl rfl h.1 ?_
                            replace h := h.2
                            refine ex_aload_n (pc := 511) (fr_get fo_192_19 11 rfl) rfl rfl ?_
                            refine ex_iload_n (pc := 512) (fr_get fo_192_19 12 rfl) rfl ?_
                            refine ex_iconst (pc := 513) (fr_get fo_192_19 13 rfl) ic_2 ?_
                            refine ex_iadd (pc := 514) (fr_get fo_192_19 14 rfl) ?_
                            refine yv_iald (pc := 515) (fr_get fo_192_19 15 rfl) gk_1 (n := (I 1 1 0).toNatClampNeg) rfl rfl rfl h.1 ?_
                            replace h := h.2
                            refine yv_kv1 (pc := 516) (fr_get fo_192_20 0 rfl) cc_192_61 (as := [.inr (.inr (5, 0)), .inl (I 1 0 ((v3 + (1 : Int32)).toNatClampNeg)), .inl (I 1 0 ((v3 + (2 : Int32)).toNatClampNeg))]) (rs := []) rfl rfl rfl rfl rfl ?_
                            refine h.mono (fun r J67 p68 h => ?_)
                            obtain ⟨x69, hr, h⟩ := h
                            refine ⟨x69, hr, ?_⟩
                            refine ex_aload_n (pc := 519) (fr_get fo_192_20 1 rfl) rfl rfl ?_
                            refine ex_aload_n (pc := 520) (fr_get fo_192_20 2 rfl) rfl rfl ?_
                            refine ex_iload_n (pc := 521) (fr_get fo_192_20 3 rfl) rfl ?_
                            refine ex_iconst (pc := 522) (fr_get fo_192_20 4 rfl) ic_1 ?_
                            refine ex_iadd (pc := 523) (fr_get fo_192_20 5 rfl) ?_
                            refine yv_iald (pc := 524) (fr_get fo_192_20 6 rfl) gk_1 (n := (J67 1 1 0).toNatClampNeg) rfl rfl rfl h.1 ?_
                            replace h := h.2
                            refine ex_aload_n (pc := 525) (fr_get fo_192_20 7 rfl) rfl rfl ?_
                            refine ex_iload_n (pc := 526) (fr_get fo_192_20 8 rfl) rfl ?_
                            refine ex_iconst (pc := 527) (fr_get fo_192_20 9 rfl) ic_2 ?_
                            refine ex_iadd (pc := 528) (fr_get fo_192_20 10 rfl) ?_
                            refine yv_iald (pc := 529) (fr_get fo_192_20 11 rfl) gk_1 (n := (J67 1 1 0).toNatClampNeg) rfl rfl rfl h.1 ?_
                            replace h := h.2
                            refine yv_kv1 (pc := 530) (fr_get fo_192_20 12 rfl) cc_192_64 (as := [.inr (.inr (40, 0)), .inl (J67 1 0 ((v3 + (1 : Int32)).toNatClampNeg)), .inl (J67 1 0 ((v3 + (2 : Int32)).toNatClampNeg))]) (rs := [.inl x69]) rfl rfl rfl rfl rfl ?_
                            refine h.mono (fun r J70 p71 h => ?_)
                            obtain ⟨x72, hr, h⟩ := h
                            refine ⟨x72, hr, ?_⟩
                            refine yv_ceq (pc := 533) (fr_get fo_192_20 13 rfl) (t := 1061) rfl (fun c => ?_) (fun c => ?_)
                            · replace h := h.1 c
                              refine yv_iinc (pc := 1061) (fr_get fo_192_48 7 rfl) rfl ic_6 (L' := [some (.inr (.inr (1, 0))), some (.inr (.inr (5, 0))), some (.inr (.inr (40, 0))), some (.inl (v3 + (6 : Int32)))]) rfl ?_
                              refine ex_goto (pc := 1064) (fr_get fo_192_48 8 rfl) (t := 18) rfl ?_
                              exact h
                            · replace h := h.2 c
                              refine ex_iconst (pc := 536) (fr_get fo_192_20 14 rfl) ic_0 ?_
                              exact ex_zreturn (pc := 537) (fr_get fo_192_20 15 rfl) rt_192 mc_192a mc_192b ⟨Or.inl rfl, ma_end_mk h⟩
                          · replace h := h.2 c
                            refine yv_tc (t := 538) ic_12 rfl (fun c => ?_) (fun c => ?_)
                            · replace h := h.1 c
                              refine ex_aload_n (pc := 538) (fr_get fo_192_21 0 rfl) rfl rfl ?_
                              refine ex_aload_n (pc := 539) (fr_get fo_192_21 1 rfl) rfl rfl ?_
                              refine ex_iload_n (pc := 540) (fr_get fo_192_21 2 rfl) rfl ?_
                              refine ex_iconst (pc := 541) (fr_get fo_192_21 3 rfl) ic_1 ?_
                              refine ex_iadd (pc := 542) (fr_get fo_192_21 4 rfl) ?_
                              refine yv_iald (pc := 543) (fr_get fo_192_21 5 rfl) gk_1 (n := (I 1 1 0).toNatClampNeg) rfl rfl rfl h.1 ?_
                              replace h := h.2
                              refine ex_aload_n (pc := 544) (fr_get fo_192_21 6 rfl) rfl rfl ?_
                              refine ex_iload_n (pc := 545) (fr_get fo_192_21 7 rfl) rfl ?_
                              refine ex_iconst (pc := 546) (fr_get fo_192_21 8 rfl) ic_2 ?_
                              refine ex_iadd (pc := 547) (fr_get fo_192_21 9 rfl) ?_
                              refine yv_iald (pc := 548) (fr_get fo_192_21 10 rfl) gk_1 (n := (I 1 1 0).toNatClampNeg) rfl rfl rfl h.1 ?_
                              replace h := h.2
                              refine ex_aload_n (pc := 549) (fr_get fo_192_21 11 rfl) rfl rfl ?_
                              refine ex_iload_n (pc := 550) (fr_get fo_192_21 12 rfl) rfl ?_
                              refine ex_iconst (pc := 551) (fr_get fo_192_21 13 rfl) ic_3 ?_
                              refine ex_iadd (pc := 552) (fr_get fo_192_21 14 rfl) ?_
                              refine yv_iald (pc := 553) (fr_get fo_192_21 15 rfl) gk_1 (n := (I 1 1 0).toNatClampNeg) rfl rfl rfl h.1 ?_
                              replace h := h.2
                              refine yv_kv1 (pc := 554) (fr_get fo_192_22 0 rfl) cc_192_65 (as := [.inr (.inr (5, 0)), .inl (I 1 0 ((v3 + (1 : Int32)).toNatClampNeg)), .inl (I 1 0 ((v3 + (2 : Int32)).toNatClampNeg)), .inl (I 1 0 ((v3 + (3 : Int32)).toNatClampNeg))]) (rs := []) rfl rfl rfl rfl rfl ?_
                              refine h.mono (fun r J73 p74 h => ?_)
                              obtain ⟨x75, hr, h⟩ := h
                              refine ⟨x75, hr, ?_⟩
                              refine ex_aload_n (pc := 557) (fr_get fo_192_22 1 rfl) rfl rfl ?_
                              refine ex_aload_n (pc := 558) (fr_get fo_192_22 2 rfl) rfl rfl ?_
                              refine ex_iload_n (pc := 559) (fr_get fo_192_22 3 rfl) rfl ?_
                              refine ex_iconst (pc := 560) (fr_get fo_192_22 4 rfl) ic_1 ?_
                              refine ex_iadd (pc := 561) (fr_get fo_192_22 5 rfl) ?_
                              refine yv_iald (pc := 562) (fr_get fo_192_22 6 rfl) gk_1 (n := (J73 1 1 0).toNatClampNeg) rfl rfl rfl h.1 ?_
                              replace h := h.2
                              refine ex_aload_n (pc := 563) (fr_get fo_192_22 7 rfl) rfl rfl ?_
                              refine ex_iload_n (pc := 564) (fr_get fo_192_22 8 rfl) rfl ?_
                              refine ex_iconst (pc := 565) (fr_get fo_192_22 9 rfl) ic_2 ?_
                              refine ex_iadd (pc := 566) (fr_get fo_192_22 10 rfl) ?_
                              refine yv_iald (pc := 567) (fr_get fo_192_22 11 rfl) gk_1 (n := (J73 1 1 0).toNatClampNeg) rfl rfl rfl h.1 ?_
                              replace h := h.2
                              refine ex_aload_n (pc := 568) (fr_get fo_192_22 12 rfl) rfl rfl ?_
                              refine ex_iload_n (pc := 569) (fr_get fo_192_22 13 rfl) rfl ?_
                              refine ex_iconst (pc := 570) (fr_get fo_192_22 14 rfl) ic_3 ?_
                              refine ex_iadd (pc := 571) (fr_get fo_192_22 15 rfl) ?_
                              refine yv_iald (pc := 572) (fr_get fo_192_23 0 rfl) gk_1 (n := (J73 1 1 0).toNatClampNeg) rfl rfl rfl h.1 ?_
                              replace h := h.2
                              refine yv_kv1 (pc := 573) (fr_get fo_192_23 1 rfl) cc_192_68 (as := [.inr (.inr (40, 0)), .inl (J73 1 0 ((v3 + (1 : Int32)).toNatClampNeg)), .inl (J73 1 0 ((v3 + (2 : Int32)).toNatClampNeg)), .inl (J73 1 0 ((v3 + (3 : Int32)).toNatClampNeg))]) (rs := [.inl x75]) rfl rfl rfl rfl rfl ?_
                              refine h.mono (fun r J76 p77 h => ?_)
                              obtain ⟨x78, hr, h⟩ := h
                              refine ⟨x78, hr, ?_⟩
                              refine yv_ceq (pc := 576) (fr_get fo_192_23 2 rfl) (t := 1061) rfl (fun c => ?_) (fun c => ?_)
                              · replace h := h.1 c
                                refine yv_iinc (pc := 1061) (fr_get fo_192_48 7 rfl) rfl ic_6 (L' := [some (.inr (.inr (1, 0))), some (.inr (.inr (5, 0))), some (.inr (.inr (40, 0))), some (.inl (v3 + (6 : Int32)))]) rfl ?_
                                refine ex_goto (pc := 1064) (fr_get fo_192_48 8 rfl) (t := 18) rfl ?_
                                exact h
                              · replace h := h.2 c
                                refine ex_iconst (pc := 579) (fr_get fo_192_23 3 rfl) ic_0 ?_
                                exact ex_zreturn (pc := 580) (fr_get fo_192_23 4 rfl) rt_192 mc_192a mc_192b ⟨Or.inl rfl, ma_end_mk h⟩
                            · replace h := h.2 c
                              refine yv_tc (t := 581) ic_13 rfl (fun c => ?_) (fun c => ?_)
                              · replace h := h.1 c
                                refine ex_aload_n (pc := 581) (fr_get fo_192_23 5 rfl) rfl rfl ?_
                                refine ex_aload_n (pc := 582) (fr_get fo_192_23 6 rfl) rfl rfl ?_
                                refine ex_iload_n (pc := 583) (fr_get fo_192_23 7 rfl) rfl ?_
                                refine ex_iconst (pc := 584) (fr_get fo_192_23 8 rfl) ic_1 ?_
                                refine ex_iadd (pc := 585) (fr_get fo_192_23 9 rfl) ?_
                                refine yv_iald (pc := 586) (fr_get fo_192_23 10 rfl) gk_1 (n := (I 1 1 0).toNatClampNeg) rfl rfl rfl h.1 ?_
                                replace h := h.2
                                refine yv_kv1 (pc := 587) (fr_get fo_192_23 11 rfl) cc_192_69 (as := [.inr (.inr (5, 0)), .inl (I 1 0 ((v3 + (1 : Int32)).toNatClampNeg))]) (rs := []) rfl rfl rfl rfl rfl ?_
                                refine h.mono (fun r J79 p80 h => ?_)
                                obtain ⟨x81, hr, h⟩ := h
                                refine ⟨x81, hr, ?_⟩
                                refine ex_aload_n (pc := 590) (fr_get fo_192_23 12 rfl) rfl rfl ?_
                                refine ex_aload_n (pc := 591) (fr_get fo_192_23 13 rfl) rfl rfl ?_
                                refine ex_iload_n (pc := 592) (fr_get fo_192_23 14 rfl) rfl ?_
                                refine ex_iconst (pc := 593) (fr_get fo_192_23 15 rfl) ic_1 ?_
                                refine ex_iadd (pc := 594) (fr_get fo_192_24 0 rfl) ?_
                                refine yv_iald (pc := 595) (fr_get fo_192_24 1 rfl) gk_1 (n := (J79 1 1 0).toNatClampNeg) rfl rfl rfl h.1 ?_
                                replace h := h.2
                                refine yv_kv1 (pc := 596) (fr_get fo_192_24 2 rfl) cc_192_72 (as := [.inr (.inr (40, 0)), .inl (J79 1 0 ((v3 + (1 : Int32)).toNatClampNeg))]) (rs := [.inl x81]) rfl rfl rfl rfl rfl ?_
                                refine h.mono (fun r J82 p83 h => ?_)
                                obtain ⟨x84, hr, h⟩ := h
                                refine ⟨x84, hr, ?_⟩
                                refine yv_ceq (pc := 599) (fr_get fo_192_24 3 rfl) (t := 1061) rfl (fun c => ?_) (fun c => ?_)
                                · replace h := h.1 c
                                  refine yv_iinc (pc := 1061) (fr_get fo_192_48 7 rfl) rfl ic_6 (L' := [some (.inr (.inr (1, 0))), some (.inr (.inr (5, 0))), some (.inr (.inr (40, 0))), some (.inl (v3 + (6 : Int32)))]) rfl ?_
                                  refine ex_goto (pc := 1064) (fr_get fo_192_48 8 rfl) (t := 18) rfl ?_
                                  exact h
                                · replace h := h.2 c
                                  refine ex_iconst (pc := 602) (fr_get fo_192_24 4 rfl) ic_0 ?_
                                  exact ex_zreturn (pc := 603) (fr_get fo_192_24 5 rfl) rt_192 mc_192a mc_192b ⟨Or.inl rfl, ma_end_mk h⟩
                              · replace h := h.2 c
                                refine yv_tc (t := 604) ic_14 rfl (fun c => ?_) (fun c => ?_)
                                · replace h := h.1 c
                                  refine ex_aload_n (pc := 604) (fr_get fo_192_24 6 rfl) rfl rfl ?_
                                  refine ex_aload_n (pc := 605) (fr_get fo_192_24 7 rfl) rfl rfl ?_
                                  refine ex_iload_n (pc := 606) (fr_get fo_192_24 8 rfl) rfl ?_
                                  refine ex_iconst (pc := 607) (fr_get fo_192_24 9 rfl) ic_1 ?_
                                  refine ex_iadd (pc := 608) (fr_get fo_192_24 10 rfl) ?_
                                  refine yv_iald (pc := 609) (fr_get fo_192_24 11 rfl) gk_1 (n := (I 1 1 0).toNatClampNeg) rfl rfl rfl h.1 ?_
                                  replace h := h.2
                                  refine ex_aload_n (pc := 610) (fr_get fo_192_24 12 rfl) rfl rfl ?_
                                  refine ex_iload_n (pc := 611) (fr_get fo_192_24 13 rfl) rfl ?_
                                  refine ex_iconst (pc := 612) (fr_get fo_192_24 14 rfl) ic_2 ?_
                                  refine ex_iadd (pc := 613) (fr_get fo_192_24 15 rfl) ?_
                                  refine yv_iald (pc := 614) (fr_get fo_192_25 0 rfl) gk_1 (n := (I 1 1 0).toNatClampNeg) rfl rfl rfl h.1 ?_
                                  replace h := h.2
                                  refine yv_kv1 (pc := 615) (fr_get fo_192_25 1 rfl) cc_192_73 (as := [.inr (.inr (5, 0)), .inl (I 1 0 ((v3 + (1 : Int32)).toNatClampNeg)), .inl (I 1 0 ((v3 + (2 : Int32)).toNatClampNeg))]) (rs := []) rfl rfl rfl rfl rfl ?_
                                  refine h.mono (fun r J85 p86 h => ?_)
                                  obtain ⟨x87, hr, h⟩ := h
                                  refine ⟨x87, hr, ?_⟩
                                  refine ex_aload_n (pc := 618) (fr_get fo_192_25 2 rfl) rfl rfl ?_
                                  refine ex_aload_n (pc := 619) (fr_get fo_192_25 3 rfl) rfl rfl ?_
                                  refine ex_iload_n (pc := 620) (fr_get fo_192_25 4 rfl) rfl ?_
                                  refine ex_iconst (pc := 621) (fr_get fo_192_25 5 rfl) ic_1 ?_
                                  refine ex_iadd (pc := 622) (fr_get fo_192_25 6 rfl) ?_
                                  refine yv_iald (pc := 623) (fr_get fo_192_25 7 rfl) gk_1 (n := (J85 1 1 0).toNatClampNeg) rfl rfl rfl h.1 ?_
                                  replace h := h.2
                                  refine ex_aload_n (pc := 624) (fr_get fo_192_25 8 rfl) rfl rfl ?_
                                  refine ex_iload_n (pc := 625) (fr_get fo_192_25 9 rfl) rfl ?_
                                  refine ex_iconst (pc := 626) (fr_get fo_192_25 10 rfl) ic_2 ?_
                                  refine ex_iadd (pc := 627) (fr_get fo_192_25 11 rfl) ?_
                                  refine yv_iald (pc := 628) (fr_get fo_192_25 12 rfl) gk_1 (n := (J85 1 1 0).toNatClampNeg) rfl rfl rfl h.1 ?_
                                  replace h := h.2
                                  refine yv_kv1 (pc := 629) (fr_get fo_192_25 13 rfl) cc_192_76 (as := [.inr (.inr (40, 0)), .inl (J85 1 0 ((v3 + (1 : Int32)).toNatClampNeg)), .inl (J85 1 0 ((v3 + (2 : Int32)).toNatClampNeg))]) (rs := [.inl x87]) rfl rfl rfl rfl rfl ?_
                                  refine h.mono (fun r J88 p89 h => ?_)
                                  obtain ⟨x90, hr, h⟩ := h
                                  refine ⟨x90, hr, ?_⟩
                                  refine yv_ceq (pc := 632) (fr_get fo_192_25 14 rfl) (t := 1061) rfl (fun c => ?_) (fun c => ?_)
                                  · replace h := h.1 c
                                    refine yv_iinc (pc := 1061) (fr_get fo_192_48 7 rfl) rfl ic_6 (L' := [some (.inr (.inr (1, 0))), some (.inr (.inr (5, 0))), some (.inr (.inr (40, 0))), some (.inl (v3 + (6 : Int32)))]) rfl ?_
                                    refine ex_goto (pc := 1064) (fr_get fo_192_48 8 rfl) (t := 18) rfl ?_
                                    exact h
                                  · replace h := h.2 c
                                    refine ex_iconst (pc := 635) (fr_get fo_192_25 15 rfl) ic_0 ?_
                                    exact ex_zreturn (pc := 636) (fr_get fo_192_26 0 rfl) rt_192 mc_192a mc_192b ⟨Or.inl rfl, ma_end_mk h⟩
                                · replace h := h.2 c
                                  refine yv_tc (t := 637) ic_15 rfl (fun c => ?_) (fun c => ?_)
                                  · replace h := h.1 c
                                    refine ex_aload_n (pc := 637) (fr_get fo_192_26 1 rfl) rfl rfl ?_
                                    refine ex_aload_n (pc := 638) (fr_get fo_192_26 2 rfl) rfl rfl ?_
                                    refine ex_iload_n (pc := 639) (fr_get fo_192_26 3 rfl) rfl ?_
                                    refine ex_iconst (pc := 640) (fr_get fo_192_26 4 rfl) ic_1 ?_
                                    refine ex_iadd (pc := 641) (fr_get fo_192_26 5 rfl) ?_
                                    refine yv_iald (pc := 642) (fr_get fo_192_26 6 rfl) gk_1 (n := (I 1 1 0).toNatClampNeg) rfl rfl rfl h.1 ?_
                                    replace h := h.2
                                    refine ex_aload_n (pc := 643) (fr_get fo_192_26 7 rfl) rfl rfl ?_
                                    refine ex_iload_n (pc := 644) (fr_get fo_192_26 8 rfl) rfl ?_
                                    refine ex_iconst (pc := 645) (fr_get fo_192_26 9 rfl) ic_2 ?_
                                    refine ex_iadd (pc := 646) (fr_get fo_192_26 10 rfl) ?_
                                    refine yv_iald (pc := 647) (fr_get fo_192_26 11 rfl) gk_1 (n := (I 1 1 0).toNatClampNeg) rfl rfl rfl h.1 ?_
                                    replace h := h.2
                                    refine ex_aload_n (pc := 648) (fr_get fo_192_26 12 rfl) rfl rfl ?_
                                    refine ex_iload_n (pc := 649) (fr_get fo_192_26 13 rfl) rfl ?_
                                    refine ex_iconst (pc := 650) (fr_get fo_192_26 14 rfl) ic_3 ?_
                                    refine ex_iadd (pc := 651) (fr_get fo_192_26 15 rfl) ?_
                                    refine yv_iald (pc := 652) (fr_get fo_192_27 0 rfl) gk_1 (n := (I 1 1 0).toNatClampNeg) rfl rfl rfl h.1 ?_
                                    replace h := h.2
                                    refine yv_kv1 (pc := 653) (fr_get fo_192_27 1 rfl) cc_192_77 (as := [.inr (.inr (5, 0)), .inl (I 1 0 ((v3 + (1 : Int32)).toNatClampNeg)), .inl (I 1 0 ((v3 + (2 : Int32)).toNatClampNeg)), .inl (I 1 0 ((v3 + (3 : Int32)).toNatClampNeg))]) (rs := []) rfl rfl rfl rfl rfl ?_
                                    refine h.mono (fun r J91 p92 h => ?_)
                                    obtain ⟨x93, hr, h⟩ := h
                                    refine ⟨x93, hr, ?_⟩
                                    refine ex_aload_n (pc := 656) (fr_get fo_192_27 2 rfl) rfl rfl ?_
                                    refine ex_aload_n (pc := 657) (fr_get fo_192_27 3 rfl) rfl rfl ?_
                                    refine ex_iload_n (pc := 658) (fr_get fo_192_27 4 rfl) rfl ?_
                                    refine ex_iconst (pc := 659) (fr_get fo_192_27 5 rfl) ic_1 ?_
                                    refine ex_iadd (pc := 660) (fr_get fo_192_27 6 rfl) ?_
                                    refine yv_iald (pc := 661) (fr_get fo_192_27 7 rfl) gk_1 (n := (J91 1 1 0).toNatClampNeg) rfl rfl rfl h.1 ?_
                                    replace h := h.2
                                    refine ex_aload_n (pc := 662) (fr_get fo_192_27 8 rfl) rfl rfl ?_
                                    refine ex_iload_n (pc := 663) (fr_get fo_192_27 9 rfl) rfl ?_
                                    refine ex_iconst (pc := 664) (fr_get fo_192_27 10 rfl) ic_2 ?_
                                    refine ex_iadd (pc := 665) (fr_get fo_192_27 11 rfl) ?_
                                    refine yv_iald (pc := 666) (fr_get fo_192_27 12 rfl) gk_1 (n := (J91 1 1 0).toNatClampNeg) rfl rfl rfl h.1 ?_
                                    replace h := h.2
                                    refine ex_aload_n (pc := 667) (fr_get fo_192_27 13 rfl) rfl rfl ?_
                                    refine ex_iload_n (pc := 668) (fr_get fo_192_27 14 rfl) rfl ?_
                                    refine ex_iconst (pc := 669) (fr_get fo_192_27 15 rfl) ic_3 ?_
                                    refine ex_iadd (pc := 670) (fr_get fo_192_28 0 rfl) ?_
                                    refine yv_iald (pc := 671) (fr_get fo_192_28 1 rfl) gk_1 (n := (J91 1 1 0).toNatClampNeg) rfl rfl rfl h.1 ?_
                                    replace h := h.2
                                    refine yv_kv1 (pc := 672) (fr_get fo_192_28 2 rfl) cc_192_80 (as := [.inr (.inr (40, 0)), .inl (J91 1 0 ((v3 + (1 : Int32)).toNatClampNeg)), .inl (J91 1 0 ((v3 + (2 : Int32)).toNatClampNeg)), .inl (J91 1 0 ((v3 + (3 : Int32)).toNatClampNeg))]) (rs := [.inl x93]) rfl rfl rfl rfl rfl ?_
                                    refine h.mono (fun r J94 p95 h => ?_)
                                    obtain ⟨x96, hr, h⟩ := h
                                    refine ⟨x96, hr, ?_⟩
                                    refine yv_ceq (pc := 675) (fr_get fo_192_28 3 rfl) (t := 1061) rfl (fun c => ?_) (fun c => ?_)
                                    · replace h := h.1 c
                                      refine yv_iinc (pc := 1061) (fr_get fo_192_48 7 rfl) rfl ic_6 (L' := [some (.inr (.inr (1, 0))), some (.inr (.inr (5, 0))), some (.inr (.inr (40, 0))), some (.inl (v3 + (6 : Int32)))]) rfl ?_
                                      refine ex_goto (pc := 1064) (fr_get fo_192_48 8 rfl) (t := 18) rfl ?_
                                      exact h
                                    · replace h := h.2 c
                                      refine ex_iconst (pc := 678) (fr_get fo_192_28 4 rfl) ic_0 ?_
                                      exact ex_zreturn (pc := 679) (fr_get fo_192_28 5 rfl) rt_192 mc_192a mc_192b ⟨Or.inl rfl, ma_end_mk h⟩
                                  · replace h := h.2 c
                                    refine yv_tc (t := 680) ic_16 rfl (fun c => ?_) (fun c => ?_)
                                    · replace h := h.1 c
                                      refine ex_aload_n (pc := 680) (fr_get fo_192_28 6 rfl) rfl rfl ?_
                                      refine ex_aload_n (pc := 681) (fr_get fo_192_28 7 rfl) rfl rfl ?_
                                      refine ex_iload_n (pc := 682) (fr_get fo_192_28 8 rfl) rfl ?_
                                      refine ex_iconst (pc := 683) (fr_get fo_192_28 9 rfl) ic_1 ?_
                                      refine ex_iadd (pc := 684) (fr_get fo_192_28 10 rfl) ?_
                                      refine yv_iald (pc := 685) (fr_get fo_192_28 11 rfl) gk_1 (n := (I 1 1 0).toNatClampNeg) rfl rfl rfl h.1 ?_
                                      replace h := h.2
                                      refine ex_aload_n (pc := 686) (fr_get fo_192_28 12 rfl) rfl rfl ?_
                                      refine ex_iload_n (pc := 687) (fr_get fo_192_28 13 rfl) rfl ?_
                                      refine ex_iconst (pc := 688) (fr_get fo_192_28 14 rfl) ic_2 ?_
                                      refine ex_iadd (pc := 689) (fr_get fo_192_28 15 rfl) ?_
                                      refine yv_iald (pc := 690) (fr_get fo_192_29 0 rfl) gk_1 (n := (I 1 1 0).toNatClampNeg) rfl rfl rfl h.1 ?_
                                      replace h := h.2
                                      refine yv_kv1 (pc := 691) (fr_get fo_192_29 1 rfl) cc_192_81 (as := [.inr (.inr (5, 0)), .inl (I 1 0 ((v3 + (1 : Int32)).toNatClampNeg)), .inl (I 1 0 ((v3 + (2 : Int32)).toNatClampNeg))]) (rs := []) rfl rfl rfl rfl rfl ?_
                                      refine h.mono (fun r J97 p98 h => ?_)
                                      obtain ⟨x99, hr, h⟩ := h
                                      refine ⟨x99, hr, ?_⟩
                                      refine ex_aload_n (pc := 694) (fr_get fo_192_29 2 rfl) rfl rfl ?_
                                      refine ex_aload_n (pc := 695) (fr_get fo_192_29 3 rfl) rfl rfl ?_
                                      refine ex_iload_n (pc := 696) (fr_get fo_192_29 4 rfl) rfl ?_
                                      refine ex_iconst (pc := 697) (fr_get fo_192_29 5 rfl) ic_1 ?_
                                      refine ex_iadd (pc := 698) (fr_get fo_192_29 6 rfl) ?_
                                      refine yv_iald (pc := 699) (fr_get fo_192_29 7 rfl) gk_1 (n := (J97 1 1 0).toNatClampNeg) rfl rfl rfl h.1 ?_
                                      replace h := h.2
                                      refine ex_aload_n (pc := 700) (fr_get fo_192_29 8 rfl) rfl rfl ?_
                                      refine ex_iload_n (pc := 701) (fr_get fo_192_29 9 rfl) rfl ?_
                                      refine ex_iconst (pc := 702) (fr_get fo_192_29 10 rfl) ic_2 ?_
                                      refine ex_iadd (pc := 703) (fr_get fo_192_29 11 rfl) ?_
                                      refine yv_iald (pc := 704) (fr_get fo_192_29 12 rfl) gk_1 (n := (J97 1 1 0).toNatClampNeg) rfl rfl rfl h.1 ?_
                                      replace h := h.2
                                      refine yv_kv1 (pc := 705) (fr_get fo_192_29 13 rfl) cc_192_84 (as := [.inr (.inr (40, 0)), .inl (J97 1 0 ((v3 + (1 : Int32)).toNatClampNeg)), .inl (J97 1 0 ((v3 + (2 : Int32)).toNatClampNeg))]) (rs := [.inl x99]) rfl rfl rfl rfl rfl ?_
                                      refine h.mono (fun r J100 p101 h => ?_)
                                      obtain ⟨x102, hr, h⟩ := h
                                      refine ⟨x102, hr, ?_⟩
                                      refine yv_ceq (pc := 708) (fr_get fo_192_29 14 rfl) (t := 1061) rfl (fun c => ?_) (fun c => ?_)
                                      · replace h := h.1 c
                                        refine yv_iinc (pc := 1061) (fr_get fo_192_48 7 rfl) rfl ic_6 (L' := [some (.inr (.inr (1, 0))), some (.inr (.inr (5, 0))), some (.inr (.inr (40, 0))), some (.inl (v3 + (6 : Int32)))]) rfl ?_
                                        refine ex_goto (pc := 1064) (fr_get fo_192_48 8 rfl) (t := 18) rfl ?_
                                        exact h
                                      · replace h := h.2 c
                                        refine ex_iconst (pc := 711) (fr_get fo_192_29 15 rfl) ic_0 ?_
                                        exact ex_zreturn (pc := 712) (fr_get fo_192_30 0 rfl) rt_192 mc_192a mc_192b ⟨Or.inl rfl, ma_end_mk h⟩
                                    · replace h := h.2 c
                                      refine yv_tc (t := 713) ic_17 rfl (fun c => ?_) (fun c => ?_)
                                      · replace h := h.1 c
                                        refine ex_aload_n (pc := 713) (fr_get fo_192_30 1 rfl) rfl rfl ?_
                                        refine ex_aload_n (pc := 714) (fr_get fo_192_30 2 rfl) rfl rfl ?_
                                        refine ex_iload_n (pc := 715) (fr_get fo_192_30 3 rfl) rfl ?_
                                        refine ex_iconst (pc := 716) (fr_get fo_192_30 4 rfl) ic_1 ?_
                                        refine ex_iadd (pc := 717) (fr_get fo_192_30 5 rfl) ?_
                                        refine yv_iald (pc := 718) (fr_get fo_192_30 6 rfl) gk_1 (n := (I 1 1 0).toNatClampNeg) rfl rfl rfl h.1 ?_
                                        replace h := h.2
                                        refine ex_aload_n (pc := 719) (fr_get fo_192_30 7 rfl) rfl rfl ?_
                                        refine ex_iload_n (pc := 720) (fr_get fo_192_30 8 rfl) rfl ?_
                                        refine ex_iconst (pc := 721) (fr_get fo_192_30 9 rfl) ic_2 ?_
                                        refine ex_iadd (pc := 722) (fr_get fo_192_30 10 rfl) ?_
                                        refine yv_iald (pc := 723) (fr_get fo_192_30 11 rfl) gk_1 (n := (I 1 1 0).toNatClampNeg) rfl rfl rfl h.1 ?_
                                        replace h := h.2
                                        refine ex_aload_n (pc := 724) (fr_get fo_192_30 12 rfl) rfl rfl ?_
                                        refine ex_iload_n (pc := 725) (fr_get fo_192_30 13 rfl) rfl ?_
                                        refine ex_iconst (pc := 726) (fr_get fo_192_30 14 rfl) ic_3 ?_
                                        refine ex_iadd (pc := 727) (fr_get fo_192_30 15 rfl) ?_
                                        refine yv_iald (pc := 728) (fr_get fo_192_31 0 rfl) gk_1 (n := (I 1 1 0).toNatClampNeg) rfl rfl rfl h.1 ?_
                                        replace h := h.2
                                        refine ex_aload_n (pc := 729) (fr_get fo_192_31 1 rfl) rfl rfl ?_
                                        refine ex_iload_n (pc := 730) (fr_get fo_192_31 2 rfl) rfl ?_
                                        refine ex_iconst (pc := 731) (fr_get fo_192_31 3 rfl) ic_4 ?_
                                        refine ex_iadd (pc := 732) (fr_get fo_192_31 4 rfl) ?_
                                        refine yv_iald (pc := 733) (fr_get fo_192_31 5 rfl) gk_1 (n := (I 1 1 0).toNatClampNeg) rfl rfl rfl h.1 ?_
                                        replace h := h.2
                                        refine ex_aload_n (pc := 734) (fr_get fo_192_31 6 rfl) rfl rfl ?_
                                        refine ex_iload_n (pc := 735) (fr_get fo_192_31 7 rfl) rfl ?_
                                        refine ex_iconst (pc := 736) (fr_get fo_192_31 8 rfl) ic_5 ?_
                                        refine ex_iadd (pc := 737) (fr_get fo_192_31 9 rfl) ?_
                                        refine yv_iald (pc := 738) (fr_get fo_192_31 10 rfl) gk_1 (n := (I 1 1 0).toNatClampNeg) rfl rfl rfl h.1 ?_
                                        replace h := h.2
                                        refine yv_kv2 (pc := 739) (fr_get fo_192_31 11 rfl) cc_192_85 (as := [.inr (.inr (5, 0)), .inl (I 1 0 ((v3 + (1 : Int32)).toNatClampNeg)), .inl (I 1 0 ((v3 + (2 : Int32)).toNatClampNeg)), .inl (I 1 0 ((v3 + (3 : Int32)).toNatClampNeg)), .inl (I 1 0 ((v3 + (4 : Int32)).toNatClampNeg)), .inl (I 1 0 ((v3 + (5 : Int32)).toNatClampNeg))]) (rs := []) rfl rfl rfl rfl rfl ?_
                                        refine h.mono (fun r J103 p104 h => ?_)
                                        obtain ⟨x105, hr, h⟩ := h
                                        refine ⟨x105, hr, ?_⟩
                                        refine ex_aload_n (pc := 742) (fr_get fo_192_31 12 rfl) rfl rfl ?_
                                        refine ex_aload_n (pc := 743) (fr_get fo_192_31 13 rfl) rfl rfl ?_
                                        refine ex_iload_n (pc := 744) (fr_get fo_192_31 14 rfl) rfl ?_
                                        refine ex_iconst (pc := 745) (fr_get fo_192_31 15 rfl) ic_1 ?_
                                        refine ex_iadd (pc := 746) (fr_get fo_192_32 0 rfl) ?_
                                        refine yv_iald (pc := 747) (fr_get fo_192_32 1 rfl) gk_1 (n := (J103 1 1 0).toNatClampNeg) rfl rfl rfl h.1 ?_
                                        replace h := h.2
                                        refine ex_aload_n (pc := 748) (fr_get fo_192_32 2 rfl) rfl rfl ?_
                                        refine ex_iload_n (pc := 749) (fr_get fo_192_32 3 rfl) rfl ?_
                                        refine ex_iconst (pc := 750) (fr_get fo_192_32 4 rfl) ic_2 ?_
                                        refine ex_iadd (pc := 751) (fr_get fo_192_32 5 rfl) ?_
                                        refine yv_iald (pc := 752) (fr_get fo_192_32 6 rfl) gk_1 (n := (J103 1 1 0).toNatClampNeg) rfl rfl rfl h.1 ?_
                                        replace h := h.2
                                        refine ex_aload_n (pc := 753) (fr_get fo_192_32 7 rfl) rfl rfl ?_
                                        refine ex_iload_n (pc := 754) (fr_get fo_192_32 8 rfl) rfl ?_
                                        refine ex_iconst (pc := 755) (fr_get fo_192_32 9 rfl) ic_3 ?_
                                        refine ex_iadd (pc := 756) (fr_get fo_192_32 10 rfl) ?_
                                        refine yv_iald (pc := 757) (fr_get fo_192_32 11 rfl) gk_1 (n := (J103 1 1 0).toNatClampNeg) rfl rfl rfl h.1 ?_
                                        replace h := h.2
                                        refine ex_aload_n (pc := 758) (fr_get fo_192_32 12 rfl) rfl rfl ?_
                                        refine ex_iload_n (pc := 759) (fr_get fo_192_32 13 rfl) rfl ?_
                                        refine ex_iconst (pc := 760) (fr_get fo_192_32 14 rfl) ic_4 ?_
                                        refine ex_iadd (pc := 761) (fr_get fo_192_32 15 rfl) ?_
                                        refine yv_iald (pc := 762) (fr_get fo_192_33 0 rfl) gk_1 (n := (J103 1 1 0).toNatClampNeg) rfl rfl rfl h.1 ?_
                                        replace h := h.2
                                        refine ex_aload_n (pc := 763) (fr_get fo_192_33 1 rfl) rfl rfl ?_
                                        refine ex_iload_n (pc := 764) (fr_get fo_192_33 2 rfl) rfl ?_
                                        refine ex_iconst (pc := 765) (fr_get fo_192_33 3 rfl) ic_5 ?_
                                        refine ex_iadd (pc := 766) (fr_get fo_192_33 4 rfl) ?_
                                        refine yv_iald (pc := 767) (fr_get fo_192_33 5 rfl) gk_1 (n := (J103 1 1 0).toNatClampNeg) rfl rfl rfl h.1 ?_
                                        replace h := h.2
                                        refine yv_kv2 (pc := 768) (fr_get fo_192_33 6 rfl) cc_192_89 (as := [.inr (.inr (40, 0)), .inl (J103 1 0 ((v3 + (1 : Int32)).toNatClampNeg)), .inl (J103 1 0 ((v3 + (2 : Int32)).toNatClampNeg)), .inl (J103 1 0 ((v3 + (3 : Int32)).toNatClampNeg)), .inl (J103 1 0 ((v3 + (4 : Int32)).toNatClampNeg)), .inl (J103 1 0 ((v3 + (5 : Int32)).toNatClampNeg))]) (rs := [.inr (.inl x105)]) rfl rfl rfl rfl rfl ?_
                                        refine h.mono (fun r J106 p107 h => ?_)
                                        obtain ⟨x108, hr, h⟩ := h
                                        refine ⟨x108, hr, ?_⟩
                                        refine ex_lcmp (pc := 771) (fr_get fo_192_33 7 rfl) ?_
                                        refine yv_beq (pc := 772) (fr_get fo_192_33 8 rfl) (t := 1061) rfl (fun c => ?_) (fun c => ?_)
                                        · replace h := h.1 c
                                          refine yv_iinc (pc := 1061) (fr_get fo_192_48 7 rfl) rfl ic_6 (L' := [some (.inr (.inr (1, 0))), some (.inr (.inr (5, 0))), some (.inr (.inr (40, 0))), some (.inl (v3 + (6 : Int32)))]) rfl ?_
                                          refine ex_goto (pc := 1064) (fr_get fo_192_48 8 rfl) (t := 18) rfl ?_
                                          exact h
                                        · replace h := h.2 c
                                          refine ex_iconst (pc := 775) (fr_get fo_192_33 9 rfl) ic_0 ?_
                                          exact ex_zreturn (pc := 776) (fr_get fo_192_33 10 rfl) rt_192 mc_192a mc_192b ⟨Or.inl rfl, ma_end_mk h⟩
                                      · replace h := h.2 c
                                        refine yv_tc (t := 777) ic_18 rfl (fun c => ?_) (fun c => ?_)
                                        · replace h := h.1 c
                                          refine ex_aload_n (pc := 777) (fr_get fo_192_33 11 rfl) rfl rfl ?_
                                          refine yv_kv1 (pc := 778) (fr_get fo_192_33 12 rfl) cc_192_90 (as := [.inr (.inr (5, 0))]) (rs := []) rfl rfl rfl rfl rfl ?_
                                          refine h.mono (fun r J109 p110 h => ?_)
                                          obtain ⟨x111, hr, h⟩ := h
                                          refine ⟨x111, hr, ?_⟩
                                          refine ex_aload_n (pc := 781) (fr_get fo_192_33 13 rfl) rfl rfl ?_
                                          refine yv_kv1 (pc := 782) (fr_get fo_192_33 14 rfl) cc_192_93 (as := [.inr (.inr (40, 0))]) (rs := [.inl x111]) rfl rfl rfl rfl rfl ?_
                                          refine h.mono (fun r J112 p113 h => ?_)
                                          obtain ⟨x114, hr, h⟩ := h
                                          refine ⟨x114, hr, ?_⟩
                                          refine yv_ceq (pc := 785) (fr_get fo_192_33 15 rfl) (t := 1061) rfl (fun c => ?_) (fun c => ?_)
                                          · replace h := h.1 c
                                            refine yv_iinc (pc := 1061) (fr_get fo_192_48 7 rfl) rfl ic_6 (L' := [some (.inr (.inr (1, 0))), some (.inr (.inr (5, 0))), some (.inr (.inr (40, 0))), some (.inl (v3 + (6 : Int32)))]) rfl ?_
                                            refine ex_goto (pc := 1064) (fr_get fo_192_48 8 rfl) (t := 18) rfl ?_
                                            exact h
                                          · replace h := h.2 c
                                            refine ex_iconst (pc := 788) (fr_get fo_192_34 0 rfl) ic_0 ?_
                                            exact ex_zreturn (pc := 789) (fr_get fo_192_34 1 rfl) rt_192 mc_192a mc_192b ⟨Or.inl rfl, ma_end_mk h⟩
                                        · replace h := h.2 c
                                          refine yv_tc (t := 790) ic_19 rfl (fun c => ?_) (fun c => ?_)
                                          · replace h := h.1 c
                                            refine ex_aload_n (pc := 790) (fr_get fo_192_34 2 rfl) rfl rfl ?_
                                            refine yv_kv1 (pc := 791) (fr_get fo_192_34 3 rfl) cc_192_94 (as := [.inr (.inr (5, 0))]) (rs := []) rfl rfl rfl rfl rfl ?_
                                            refine h.mono (fun r J115 p116 h => ?_)
                                            obtain ⟨x117, hr, h⟩ := h
                                            refine ⟨x117, hr, ?_⟩
                                            refine ex_aload_n (pc := 794) (fr_get fo_192_34 4 rfl) rfl rfl ?_
                                            refine yv_kv1 (pc := 795) (fr_get fo_192_34 5 rfl) cc_192_97 (as := [.inr (.inr (40, 0))]) (rs := [.inl x117]) rfl rfl rfl rfl rfl ?_
                                            refine h.mono (fun r J118 p119 h => ?_)
                                            obtain ⟨x120, hr, h⟩ := h
                                            refine ⟨x120, hr, ?_⟩
                                            refine yv_ceq (pc := 798) (fr_get fo_192_34 6 rfl) (t := 1061) rfl (fun c => ?_) (fun c => ?_)
                                            · replace h := h.1 c
                                              refine yv_iinc (pc := 1061) (fr_get fo_192_48 7 rfl) rfl ic_6 (L' := [some (.inr (.inr (1, 0))), some (.inr (.inr (5, 0))), some (.inr (.inr (40, 0))), some (.inl (v3 + (6 : Int32)))]) rfl ?_
                                              refine ex_goto (pc := 1064) (fr_get fo_192_48 8 rfl) (t := 18) rfl ?_
                                              exact h
                                            · replace h := h.2 c
                                              refine ex_iconst (pc := 801) (fr_get fo_192_34 7 rfl) ic_0 ?_
                                              exact ex_zreturn (pc := 802) (fr_get fo_192_34 8 rfl) rt_192 mc_192a mc_192b ⟨Or.inl rfl, ma_end_mk h⟩
                                          · replace h := h.2 c
                                            refine yv_tc (t := 803) ic_20 rfl (fun c => ?_) (fun c => ?_)
                                            · replace h := h.1 c
                                              refine ex_aload_n (pc := 803) (fr_get fo_192_34 9 rfl) rfl rfl ?_
                                              refine ex_aload_n (pc := 804) (fr_get fo_192_34 10 rfl) rfl rfl ?_
                                              refine ex_iload_n (pc := 805) (fr_get fo_192_34 11 rfl) rfl ?_
                                              refine ex_iconst (pc := 806) (fr_get fo_192_34 12 rfl) ic_1 ?_
                                              refine ex_iadd (pc := 807) (fr_get fo_192_34 13 rfl) ?_
                                              refine yv_iald (pc := 808) (fr_get fo_192_34 14 rfl) gk_1 (n := (I 1 1 0).toNatClampNeg) rfl rfl rfl h.1 ?_
                                              replace h := h.2
                                              refine yv_kv1 (pc := 809) (fr_get fo_192_34 15 rfl) cc_192_98 (as := [.inr (.inr (5, 0)), .inl (I 1 0 ((v3 + (1 : Int32)).toNatClampNeg))]) (rs := []) rfl rfl rfl rfl rfl ?_
                                              refine h.mono (fun r J121 p122 h => ?_)
                                              obtain ⟨x123, hr, h⟩ := h
                                              refine ⟨x123, hr, ?_⟩
                                              refine ex_aload_n (pc := 812) (fr_get fo_192_35 0 rfl) rfl rfl ?_
                                              refine ex_aload_n (pc := 813) (fr_get fo_192_35 1 rfl) rfl rfl ?_
                                              refine ex_iload_n (pc := 814) (fr_get fo_192_35 2 rfl) rfl ?_
                                              refine ex_iconst (pc := 815) (fr_get fo_192_35 3 rfl) ic_1 ?_
                                              refine ex_iadd (pc := 816) (fr_get fo_192_35 4 rfl) ?_
                                              refine yv_iald (pc := 817) (fr_get fo_192_35 5 rfl) gk_1 (n := (J121 1 1 0).toNatClampNeg) rfl rfl rfl h.1 ?_
                                              replace h := h.2
                                              refine yv_kv1 (pc := 818) (fr_get fo_192_35 6 rfl) cc_192_101 (as := [.inr (.inr (40, 0)), .inl (J121 1 0 ((v3 + (1 : Int32)).toNatClampNeg))]) (rs := [.inl x123]) rfl rfl rfl rfl rfl ?_
                                              refine h.mono (fun r J124 p125 h => ?_)
                                              obtain ⟨x126, hr, h⟩ := h
                                              refine ⟨x126, hr, ?_⟩
                                              refine yv_ceq (pc := 821) (fr_get fo_192_35 7 rfl) (t := 1061) rfl (fun c => ?_) (fun c => ?_)
                                              · replace h := h.1 c
                                                refine yv_iinc (pc := 1061) (fr_get fo_192_48 7 rfl) rfl ic_6 (L' := [some (.inr (.inr (1, 0))), some (.inr (.inr (5, 0))), some (.inr (.inr (40, 0))), some (.inl (v3 + (6 : Int32)))]) rfl ?_
                                                refine ex_goto (pc := 1064) (fr_get fo_192_48 8 rfl) (t := 18) rfl ?_
                                                exact h
                                              · replace h := h.2 c
                                                refine ex_iconst (pc := 824) (fr_get fo_192_35 8 rfl) ic_0 ?_
                                                exact ex_zreturn (pc := 825) (fr_get fo_192_35 9 rfl) rt_192 mc_192a mc_192b ⟨Or.inl rfl, ma_end_mk h⟩
                                            · replace h := h.2 c
                                              refine yv_tc (t := 826) ic_21 rfl (fun c => ?_) (fun c => ?_)
                                              · replace h := h.1 c
                                                refine ex_aload_n (pc := 826) (fr_get fo_192_35 10 rfl) rfl rfl ?_
                                                refine ex_aload_n (pc := 827) (fr_get fo_192_35 11 rfl) rfl rfl ?_
                                                refine ex_iload_n (pc := 828) (fr_get fo_192_35 12 rfl) rfl ?_
                                                refine ex_iconst (pc := 829) (fr_get fo_192_35 13 rfl) ic_1 ?_
                                                refine ex_iadd (pc := 830) (fr_get fo_192_35 14 rfl) ?_
                                                refine yv_iald (pc := 831) (fr_get fo_192_35 15 rfl) gk_1 (n := (I 1 1 0).toNatClampNeg) rfl rfl rfl h.1 ?_
                                                replace h := h.2
                                                refine ex_aload_n (pc := 832) (fr_get fo_192_36 0 rfl) rfl rfl ?_
                                                refine ex_iload_n (pc := 833) (fr_get fo_192_36 1 rfl) rfl ?_
                                                refine ex_iconst (pc := 834) (fr_get fo_192_36 2 rfl) ic_2 ?_
                                                refine ex_iadd (pc := 835) (fr_get fo_192_36 3 rfl) ?_
                                                refine yv_iald (pc := 836) (fr_get fo_192_36 4 rfl) gk_1 (n := (I 1 1 0).toNatClampNeg) rfl rfl rfl h.1 ?_
                                                replace h := h.2
                                                refine ex_aload_n (pc := 837) (fr_get fo_192_36 5 rfl) rfl rfl ?_
                                                refine ex_iload_n (pc := 838) (fr_get fo_192_36 6 rfl) rfl ?_
                                                refine ex_iconst (pc := 839) (fr_get fo_192_36 7 rfl) ic_3 ?_
                                                refine ex_iadd (pc := 840) (fr_get fo_192_36 8 rfl) ?_
                                                refine yv_iald (pc := 841) (fr_get fo_192_36 9 rfl) gk_1 (n := (I 1 1 0).toNatClampNeg) rfl rfl rfl h.1 ?_
                                                replace h := h.2
                                                refine yv_kv1 (pc := 842) (fr_get fo_192_36 10 rfl) cc_192_102 (as := [.inr (.inr (5, 0)), .inl (I 1 0 ((v3 + (1 : Int32)).toNatClampNeg)), .inl (I 1 0 ((v3 + (2 : Int32)).toNatClampNeg)), .inl (I 1 0 ((v3 + (3 : Int32)).toNatClampNeg))]) (rs := []) rfl rfl rfl rfl rfl ?_
                                                refine h.mono (fun r J127 p128 h => ?_)
                                                obtain ⟨x129, hr, h⟩ := h
                                                refine ⟨x129, hr, ?_⟩
                                                refine ex_aload_n (pc := 845) (fr_get fo_192_36 11 rfl) rfl rfl ?_
                                                refine ex_aload_n (pc := 846) (fr_get fo_192_36 12 rfl) rfl rfl ?_
                                                refine ex_iload_n (pc := 847) (fr_get fo_192_36 13 rfl) rfl ?_
                                                refine ex_iconst (pc := 848) (fr_get fo_192_36 14 rfl) ic_1 ?_
                                                refine ex_iadd (pc := 849) (fr_get fo_192_36 15 rfl) ?_
                                                refine yv_iald (pc := 850) (fr_get fo_192_37 0 rfl) gk_1 (n := (J127 1 1 0).toNatClampNeg) rfl rfl rfl h.1 ?_
                                                replace h := h.2
                                                refine ex_aload_n (pc := 851) (fr_get fo_192_37 1 rfl) rfl rfl ?_
                                                refine ex_iload_n (pc := 852) (fr_get fo_192_37 2 rfl) rfl ?_
                                                refine ex_iconst (pc := 853) (fr_get fo_192_37 3 rfl) ic_2 ?_
                                                refine ex_iadd (pc := 854) (fr_get fo_192_37 4 rfl) ?_
                                                refine yv_iald (pc := 855) (fr_get fo_192_37 5 rfl) gk_1 (n := (J127 1 1 0).toNatClampNeg) rfl rfl rfl h.1 ?_
                                                replace h := h.2
                                                refine ex_aload_n (pc := 856) (fr_get fo_192_37 6 rfl) rfl rfl ?_
                                                refine ex_iload_n (pc := 857) (fr_get fo_192_37 7 rfl) rfl ?_
                                                refine ex_iconst (pc := 858) (fr_get fo_192_37 8 rfl) ic_3 ?_
                                                refine ex_iadd (pc := 859) (fr_get fo_192_37 9 rfl) ?_
                                                refine yv_iald (pc := 860) (fr_get fo_192_37 10 rfl) gk_1 (n := (J127 1 1 0).toNatClampNeg) rfl rfl rfl h.1 ?_
                                                replace h := h.2
                                                refine yv_kv1 (pc := 861) (fr_get fo_192_37 11 rfl) cc_192_105 (as := [.inr (.inr (40, 0)), .inl (J127 1 0 ((v3 + (1 : Int32)).toNatClampNeg)), .inl (J127 1 0 ((v3 + (2 : Int32)).toNatClampNeg)), .inl (J127 1 0 ((v3 + (3 : Int32)).toNatClampNeg))]) (rs := [.inl x129]) rfl rfl rfl rfl rfl ?_
                                                refine h.mono (fun r J130 p131 h => ?_)
                                                obtain ⟨x132, hr, h⟩ := h
                                                refine ⟨x132, hr, ?_⟩
                                                refine yv_ceq (pc := 864) (fr_get fo_192_37 12 rfl) (t := 1061) rfl (fun c => ?_) (fun c => ?_)
                                                · replace h := h.1 c
                                                  refine yv_iinc (pc := 1061) (fr_get fo_192_48 7 rfl) rfl ic_6 (L' := [some (.inr (.inr (1, 0))), some (.inr (.inr (5, 0))), some (.inr (.inr (40, 0))), some (.inl (v3 + (6 : Int32)))]) rfl ?_
                                                  refine ex_goto (pc := 1064) (fr_get fo_192_48 8 rfl) (t := 18) rfl ?_
                                                  exact h
                                                · replace h := h.2 c
                                                  refine ex_iconst (pc := 867) (fr_get fo_192_37 13 rfl) ic_0 ?_
                                                  exact ex_zreturn (pc := 868) (fr_get fo_192_37 14 rfl) rt_192 mc_192a mc_192b ⟨Or.inl rfl, ma_end_mk h⟩
                                              · replace h := h.2 c
                                                refine yv_tc (t := 869) ic_22 rfl (fun c => ?_) (fun c => ?_)
                                                · replace h := h.1 c
                                                  refine ex_aload_n (pc := 869) (fr_get fo_192_37 15 rfl) rfl rfl ?_
                                                  refine ex_aload_n (pc := 870) (fr_get fo_192_38 0 rfl) rfl rfl ?_
                                                  refine ex_iload_n (pc := 871) (fr_get fo_192_38 1 rfl) rfl ?_
                                                  refine ex_iconst (pc := 872) (fr_get fo_192_38 2 rfl) ic_1 ?_
                                                  refine ex_iadd (pc := 873) (fr_get fo_192_38 3 rfl) ?_
                                                  refine yv_iald (pc := 874) (fr_get fo_192_38 4 rfl) gk_1 (n := (I 1 1 0).toNatClampNeg) rfl rfl rfl h.1 ?_
                                                  replace h := h.2
                                                  refine ex_aload_n (pc := 875) (fr_get fo_192_38 5 rfl) rfl rfl ?_
                                                  refine ex_iload_n (pc := 876) (fr_get fo_192_38 6 rfl) rfl ?_
                                                  refine ex_iconst (pc := 877) (fr_get fo_192_38 7 rfl) ic_2 ?_
                                                  refine ex_iadd (pc := 878) (fr_get fo_192_38 8 rfl) ?_
                                                  refine yv_iald (pc := 879) (fr_get fo_192_38 9 rfl) gk_1 (n := (I 1 1 0).toNatClampNeg) rfl rfl rfl h.1 ?_
                                                  replace h := h.2
                                                  refine ex_aload_n (pc := 880) (fr_get fo_192_38 10 rfl) rfl rfl ?_
                                                  refine ex_iload_n (pc := 881) (fr_get fo_192_38 11 rfl) rfl ?_
                                                  refine ex_iconst (pc := 882) (fr_get fo_192_38 12 rfl) ic_3 ?_
                                                  refine ex_iadd (pc := 883) (fr_get fo_192_38 13 rfl) ?_
                                                  refine yv_iald (pc := 884) (fr_get fo_192_38 14 rfl) gk_1 (n := (I 1 1 0).toNatClampNeg) rfl rfl rfl h.1 ?_
                                                  replace h := h.2
                                                  refine yv_kv1 (pc := 885) (fr_get fo_192_38 15 rfl) cc_192_106 (as := [.inr (.inr (5, 0)), .inl (I 1 0 ((v3 + (1 : Int32)).toNatClampNeg)), .inl (I 1 0 ((v3 + (2 : Int32)).toNatClampNeg)), .inl (I 1 0 ((v3 + (3 : Int32)).toNatClampNeg))]) (rs := []) rfl rfl rfl rfl rfl ?_
                                                  refine h.mono (fun r J133 p134 h => ?_)
                                                  obtain ⟨x135, hr, h⟩ := h
                                                  refine ⟨x135, hr, ?_⟩
                                                  refine ex_aload_n (pc := 888) (fr_get fo_192_39 0 rfl) rfl rfl ?_
                                                  refine ex_aload_n (pc := 889) (fr_get fo_192_39 1 rfl) rfl rfl ?_
                                                  refine ex_iload_n (pc := 890) (fr_get fo_192_39 2 rfl) rfl ?_
                                                  refine ex_iconst (pc := 891) (fr_get fo_192_39 3 rfl) ic_1 ?_
                                                  refine ex_iadd (pc := 892) (fr_get fo_192_39 4 rfl) ?_
                                                  refine yv_iald (pc := 893) (fr_get fo_192_39 5 rfl) gk_1 (n := (J133 1 1 0).toNatClampNeg) rfl rfl rfl h.1 ?_
                                                  replace h := h.2
                                                  refine ex_aload_n (pc := 894) (fr_get fo_192_39 6 rfl) rfl rfl ?_
                                                  refine ex_iload_n (pc := 895) (fr_get fo_192_39 7 rfl) rfl ?_
                                                  refine ex_iconst (pc := 896) (fr_get fo_192_39 8 rfl) ic_2 ?_
                                                  refine ex_iadd (pc := 897) (fr_get fo_192_39 9 rfl) ?_
                                                  refine yv_iald (pc := 898) (fr_get fo_192_39 10 rfl) gk_1 (n := (J133 1 1 0).toNatClampNeg) rfl rfl rfl h.1 ?_
                                                  replace h := h.2
                                                  refine ex_aload_n (pc := 899) (fr_get fo_192_39 11 rfl) rfl rfl ?_
                                                  refine ex_iload_n (pc := 900) (fr_get fo_192_39 12 rfl) rfl ?_
                                                  refine ex_iconst (pc := 901) (fr_get fo_192_39 13 rfl) ic_3 ?_
                                                  refine ex_iadd (pc := 902) (fr_get fo_192_39 14 rfl) ?_
                                                  refine yv_iald (pc := 903) (fr_get fo_192_39 15 rfl) gk_1 (n := (J133 1 1 0).toNatClampNeg) rfl rfl rfl h.1 ?_
                                                  replace h := h.2
                                                  refine yv_kv1 (pc := 904) (fr_get fo_192_40 0 rfl) cc_192_109 (as := [.inr (.inr (40, 0)), .inl (J133 1 0 ((v3 + (1 : Int32)).toNatClampNeg)), .inl (J133 1 0 ((v3 + (2 : Int32)).toNatClampNeg)), .inl (J133 1 0 ((v3 + (3 : Int32)).toNatClampNeg))]) (rs := [.inl x135]) rfl rfl rfl rfl rfl ?_
                                                  refine h.mono (fun r J136 p137 h => ?_)
                                                  obtain ⟨x138, hr, h⟩ := h
                                                  refine ⟨x138, hr, ?_⟩
                                                  refine yv_ceq (pc := 907) (fr_get fo_192_40 1 rfl) (t := 1061) rfl (fun c => ?_) (fun c => ?_)
                                                  · replace h := h.1 c
                                                    refine yv_iinc (pc := 1061) (fr_get fo_192_48 7 rfl) rfl ic_6 (L' := [some (.inr (.inr (1, 0))), some (.inr (.inr (5, 0))), some (.inr (.inr (40, 0))), some (.inl (v3 + (6 : Int32)))]) rfl ?_
                                                    refine ex_goto (pc := 1064) (fr_get fo_192_48 8 rfl) (t := 18) rfl ?_
                                                    exact h
                                                  · replace h := h.2 c
                                                    refine ex_iconst (pc := 910) (fr_get fo_192_40 2 rfl) ic_0 ?_
                                                    exact ex_zreturn (pc := 911) (fr_get fo_192_40 3 rfl) rt_192 mc_192a mc_192b ⟨Or.inl rfl, ma_end_mk h⟩
                                                · replace h := h.2 c
                                                  refine yv_tc (t := 912) ic_23 rfl (fun c => ?_) (fun c => ?_)
                                                  · replace h := h.1 c
                                                    refine ex_aload_n (pc := 912) (fr_get fo_192_40 4 rfl) rfl rfl ?_
                                                    refine ex_aload_n (pc := 913) (fr_get fo_192_40 5 rfl) rfl rfl ?_
                                                    refine ex_iload_n (pc := 914) (fr_get fo_192_40 6 rfl) rfl ?_
                                                    refine ex_iconst (pc := 915) (fr_get fo_192_40 7 rfl) ic_1 ?_
                                                    refine ex_iadd (pc := 916) (fr_get fo_192_40 8 rfl) ?_
                                                    refine yv_iald (pc := 917) (fr_get fo_192_40 9 rfl) gk_1 (n := (I 1 1 0).toNatClampNeg) rfl rfl rfl h.1 ?_
                                                    replace h := h.2
                                                    refine ex_aload_n (pc := 918) (fr_get fo_192_40 10 rfl) rfl rfl ?_
                                                    refine ex_iload_n (pc := 919) (fr_get fo_192_40 11 rfl) rfl ?_
                                                    refine ex_iconst (pc := 920) (fr_get fo_192_40 12 rfl) ic_2 ?_
                                                    refine ex_iadd (pc := 921) (fr_get fo_192_40 13 rfl) ?_
                                                    refine yv_iald (pc := 922) (fr_get fo_192_40 14 rfl) gk_1 (n := (I 1 1 0).toNatClampNeg) rfl rfl rfl h.1 ?_
                                                    replace h := h.2
                                                    refine ex_aload_n (pc := 923) (fr_get fo_192_40 15 rfl) rfl rfl ?_
                                                    refine ex_iload_n (pc := 924) (fr_get fo_192_41 0 rfl) rfl ?_
                                                    refine ex_iconst (pc := 925) (fr_get fo_192_41 1 rfl) ic_3 ?_
                                                    refine ex_iadd (pc := 926) (fr_get fo_192_41 2 rfl) ?_
                                                    refine yv_iald (pc := 927) (fr_get fo_192_41 3 rfl) gk_1 (n := (I 1 1 0).toNatClampNeg) rfl rfl rfl h.1 ?_
                                                    replace h := h.2
                                                    refine ex_aload_n (pc := 928) (fr_get fo_192_41 4 rfl) rfl rfl ?_
                                                    refine ex_iload_n (pc := 929) (fr_get fo_192_41 5 rfl) rfl ?_
                                                    refine ex_iconst (pc := 930) (fr_get fo_192_41 6 rfl) ic_4 ?_
                                                    refine ex_iadd (pc := 931) (fr_get fo_192_41 7 rfl) ?_
                                                    refine yv_iald (pc := 932) (fr_get fo_192_41 8 rfl) gk_1 (n := (I 1 1 0).toNatClampNeg) rfl rfl rfl h.1 ?_
                                                    replace h := h.2
                                                    refine ex_aload_n (pc := 933) (fr_get fo_192_41 9 rfl) rfl rfl ?_
                                                    refine ex_iload_n (pc := 934) (fr_get fo_192_41 10 rfl) rfl ?_
                                                    refine ex_iconst (pc := 935) (fr_get fo_192_41 11 rfl) ic_5 ?_
                                                    refine ex_iadd (pc := 936) (fr_get fo_192_41 12 rfl) ?_
                                                    refine yv_iald (pc := 937) (fr_get fo_192_41 13 rfl) gk_1 (n := (I 1 1 0).toNatClampNeg) rfl rfl rfl h.1 ?_
                                                    replace h := h.2
                                                    refine yv_kv1 (pc := 938) (fr_get fo_192_41 14 rfl) cc_192_110 (as := [.inr (.inr (5, 0)), .inl (I 1 0 ((v3 + (1 : Int32)).toNatClampNeg)), .inl (I 1 0 ((v3 + (2 : Int32)).toNatClampNeg)), .inl (I 1 0 ((v3 + (3 : Int32)).toNatClampNeg)), .inl (I 1 0 ((v3 + (4 : Int32)).toNatClampNeg)), .inl (I 1 0 ((v3 + (5 : Int32)).toNatClampNeg))]) (rs := []) rfl rfl rfl rfl rfl ?_
                                                    refine h.mono (fun r J139 p140 h => ?_)
                                                    obtain ⟨x141, hr, h⟩ := h
                                                    refine ⟨x141, hr, ?_⟩
                                                    refine ex_aload_n (pc := 941) (fr_get fo_192_41 15 rfl) rfl rfl ?_
                                                    refine ex_aload_n (pc := 942) (fr_get fo_192_42 0 rfl) rfl rfl ?_
                                                    refine ex_iload_n (pc := 943) (fr_get fo_192_42 1 rfl) rfl ?_
                                                    refine ex_iconst (pc := 944) (fr_get fo_192_42 2 rfl) ic_1 ?_
                                                    refine ex_iadd (pc := 945) (fr_get fo_192_42 3 rfl) ?_
                                                    refine yv_iald (pc := 946) (fr_get fo_192_42 4 rfl) gk_1 (n := (J139 1 1 0).toNatClampNeg) rfl rfl rfl h.1 ?_
                                                    replace h := h.2
                                                    refine ex_aload_n (pc := 947) (fr_get fo_192_42 5 rfl) rfl rfl ?_
                                                    refine ex_iload_n (pc := 948) (fr_get fo_192_42 6 rfl) rfl ?_
                                                    refine ex_iconst (pc := 949) (fr_get fo_192_42 7 rfl) ic_2 ?_
                                                    refine ex_iadd (pc := 950) (fr_get fo_192_42 8 rfl) ?_
                                                    refine yv_iald (pc := 951) (fr_get fo_192_42 9 rfl) gk_1 (n := (J139 1 1 0).toNatClampNeg) rfl rfl rfl h.1 ?_
                                                    replace h := h.2
                                                    refine ex_aload_n (pc := 952) (fr_get fo_192_42 10 rfl) rfl rfl ?_
                                                    refine ex_iload_n (pc := 953) (fr_get fo_192_42 11 rfl) rfl ?_
                                                    refine ex_iconst (pc := 954) (fr_get fo_192_42 12 rfl) ic_3 ?_
                                                    refine ex_iadd (pc := 955) (fr_get fo_192_42 13 rfl) ?_
                                                    refine yv_iald (pc := 956) (fr_get fo_192_42 14 rfl) gk_1 (n := (J139 1 1 0).toNatClampNeg) rfl rfl rfl h.1 ?_
                                                    replace h := h.2
                                                    refine ex_aload_n (pc := 957) (fr_get fo_192_42 15 rfl) rfl rfl ?_
                                                    refine ex_iload_n (pc := 958) (fr_get fo_192_43 0 rfl) rfl ?_
                                                    refine ex_iconst (pc := 959) (fr_get fo_192_43 1 rfl) ic_4 ?_
                                                    refine ex_iadd (pc := 960) (fr_get fo_192_43 2 rfl) ?_
                                                    refine yv_iald (pc := 961) (fr_get fo_192_43 3 rfl) gk_1 (n := (J139 1 1 0).toNatClampNeg) rfl rfl rfl h.1 ?_
                                                    replace h := h.2
                                                    refine ex_aload_n (pc := 962) (fr_get fo_192_43 4 rfl) rfl rfl ?_
                                                    refine ex_iload_n (pc := 963) (fr_get fo_192_43 5 rfl) rfl ?_
                                                    refine ex_iconst (pc := 964) (fr_get fo_192_43 6 rfl) ic_5 ?_
                                                    refine ex_iadd (pc := 965) (fr_get fo_192_43 7 rfl) ?_
                                                    refine yv_iald (pc := 966) (fr_get fo_192_43 8 rfl) gk_1 (n := (J139 1 1 0).toNatClampNeg) rfl rfl rfl h.1 ?_
                                                    replace h := h.2
                                                    refine yv_kv1 (pc := 967) (fr_get fo_192_43 9 rfl) cc_192_114 (as := [.inr (.inr (40, 0)), .inl (J139 1 0 ((v3 + (1 : Int32)).toNatClampNeg)), .inl (J139 1 0 ((v3 + (2 : Int32)).toNatClampNeg)), .inl (J139 1 0 ((v3 + (3 : Int32)).toNatClampNeg)), .inl (J139 1 0 ((v3 + (4 : Int32)).toNatClampNeg)), .inl (J139 1 0 ((v3 + (5 : Int32)).toNatClampNeg))]) (rs := [.inl x141]) rfl rfl rfl rfl rfl ?_
                                                    refine h.mono (fun r J142 p143 h => ?_)
                                                    obtain ⟨x144, hr, h⟩ := h
                                                    refine ⟨x144, hr, ?_⟩
                                                    refine yv_ceq (pc := 970) (fr_get fo_192_43 10 rfl) (t := 1061) rfl (fun c => ?_) (fun c => ?_)
                                                    · replace h := h.1 c
                                                      refine yv_iinc (pc := 1061) (fr_get fo_192_48 7 rfl) rfl ic_6 (L' := [some (.inr (.inr (1, 0))), some (.inr (.inr (5, 0))), some (.inr (.inr (40, 0))), some (.inl (v3 + (6 : Int32)))]) rfl ?_
                                                      refine ex_goto (pc := 1064) (fr_get fo_192_48 8 rfl) (t := 18) rfl ?_
                                                      exact h
                                                    · replace h := h.2 c
                                                      refine ex_iconst (pc := 973) (fr_get fo_192_43 11 rfl) ic_0 ?_
                                                      exact ex_zreturn (pc := 974) (fr_get fo_192_43 12 rfl) rt_192 mc_192a mc_192b ⟨Or.inl rfl, ma_end_mk h⟩
                                                  · replace h := h.2 c
                                                    refine yv_tc (t := 975) ic_24 rfl (fun c => ?_) (fun c => ?_)
                                                    · replace h := h.1 c
                                                      refine ex_aload_n (pc := 975) (fr_get fo_192_43 13 rfl) rfl rfl ?_
                                                      refine ex_aload_n (pc := 976) (fr_get fo_192_43 14 rfl) rfl rfl ?_
                                                      refine ex_iload_n (pc := 977) (fr_get fo_192_43 15 rfl) rfl ?_
                                                      refine ex_iconst (pc := 978) (fr_get fo_192_44 0 rfl) ic_1 ?_
                                                      refine ex_iadd (pc := 979) (fr_get fo_192_44 1 rfl) ?_
                                                      refine yv_iald (pc := 980) (fr_get fo_192_44 2 rfl) gk_1 (n := (I 1 1 0).toNatClampNeg) rfl rfl rfl h.1 ?_
                                                      replace h := h.2
                                                      refine ex_aload_n (pc := 981) (fr_get fo_192_44 3 rfl) rfl rfl ?_
                                                      refine ex_iload_n (pc := 982) (fr_get fo_192_44 4 rfl) rfl ?_
                                                      refine ex_iconst (pc := 983) (fr_get fo_192_44 5 rfl) ic_2 ?_
                                                      refine ex_iadd (pc := 984) (fr_get fo_192_44 6 rfl) ?_
                                                      refine yv_iald (pc := 985) (fr_get fo_192_44 7 rfl) gk_1 (n := (I 1 1 0).toNatClampNeg) rfl rfl rfl h.1 ?_
                                                      replace h := h.2
                                                      refine ex_aload_n (pc := 986) (fr_get fo_192_44 8 rfl) rfl rfl ?_
                                                      refine ex_iload_n (pc := 987) (fr_get fo_192_44 9 rfl) rfl ?_
                                                      refine ex_iconst (pc := 988) (fr_get fo_192_44 10 rfl) ic_3 ?_
                                                      refine ex_iadd (pc := 989) (fr_get fo_192_44 11 rfl) ?_
                                                      refine yv_iald (pc := 990) (fr_get fo_192_44 12 rfl) gk_1 (n := (I 1 1 0).toNatClampNeg) rfl rfl rfl h.1 ?_
                                                      replace h := h.2
                                                      refine ex_aload_n (pc := 991) (fr_get fo_192_44 13 rfl) rfl rfl ?_
                                                      refine ex_iload_n (pc := 992) (fr_get fo_192_44 14 rfl) rfl ?_
                                                      refine ex_iconst (pc := 993) (fr_get fo_192_44 15 rfl) ic_4 ?_
                                                      refine ex_iadd (pc := 994) (fr_get fo_192_45 0 rfl) ?_
                                                      refine yv_iald (pc := 995) (fr_get fo_192_45 1 rfl) gk_1 (n := (I 1 1 0).toNatClampNeg) rfl rfl rfl h.1 ?_
                                                      replace h := h.2
                                                      refine yv_kv1 (pc := 996) (fr_get fo_192_45 2 rfl) cc_192_115 (as := [.inr (.inr (5, 0)), .inl (I 1 0 ((v3 + (1 : Int32)).toNatClampNeg)), .inl (I 1 0 ((v3 + (2 : Int32)).toNatClampNeg)), .inl (I 1 0 ((v3 + (3 : Int32)).toNatClampNeg)), .inl (I 1 0 ((v3 + (4 : Int32)).toNatClampNeg))]) (rs := []) rfl rfl rfl rfl rfl ?_
                                                      refine h.mono (fun r J145 p146 h => ?_)
                                                      obtain ⟨x147, hr, h⟩ := h
                                                      refine ⟨x147, hr, ?_⟩
                                                      refine ex_aload_n (pc := 999) (fr_get fo_192_45 3 rfl) rfl rfl ?_
                                                      refine ex_aload_n (pc := 1000) (fr_get fo_192_45 4 rfl) rfl rfl ?_
                                                      refine ex_iload_n (pc := 1001) (fr_get fo_192_45 5 rfl) rfl ?_
                                                      refine ex_iconst (pc := 1002) (fr_get fo_192_45 6 rfl) ic_1 ?_
                                                      refine ex_iadd (pc := 1003) (fr_get fo_192_45 7 rfl) ?_
                                                      refine yv_iald (pc := 1004) (fr_get fo_192_45 8 rfl) gk_1 (n := (J145 1 1 0).toNatClampNeg) rfl rfl rfl h.1 ?_
                                                      replace h := h.2
                                                      refine ex_aload_n (pc := 1005) (fr_get fo_192_45 9 rfl) rfl rfl ?_
                                                      refine ex_iload_n (pc := 1006) (fr_get fo_192_45 10 rfl) rfl ?_
                                                      refine ex_iconst (pc := 1007) (fr_get fo_192_45 11 rfl) ic_2 ?_
                                                      refine ex_iadd (pc := 1008) (fr_get fo_192_45 12 rfl) ?_
                                                      refine yv_iald (pc := 1009) (fr_get fo_192_45 13 rfl) gk_1 (n := (J145 1 1 0).toNatClampNeg) rfl rfl rfl h.1 ?_
                                                      replace h := h.2
                                                      refine ex_aload_n (pc := 1010) (fr_get fo_192_45 14 rfl) rfl rfl ?_
                                                      refine ex_iload_n (pc := 1011) (fr_get fo_192_45 15 rfl) rfl ?_
                                                      refine ex_iconst (pc := 1012) (fr_get fo_192_46 0 rfl) ic_3 ?_
                                                      refine ex_iadd (pc := 1013) (fr_get fo_192_46 1 rfl) ?_
                                                      refine yv_iald (pc := 1014) (fr_get fo_192_46 2 rfl) gk_1 (n := (J145 1 1 0).toNatClampNeg) rfl rfl rfl h.1 ?_
                                                      replace h := h.2
                                                      refine ex_aload_n (pc := 1015) (fr_get fo_192_46 3 rfl) rfl rfl ?_
                                                      refine ex_iload_n (pc := 1016) (fr_get fo_192_46 4 rfl) rfl ?_
                                                      refine ex_iconst (pc := 1017) (fr_get fo_192_46 5 rfl) ic_4 ?_
                                                      refine ex_iadd (pc := 1018) (fr_get fo_192_46 6 rfl) ?_
                                                      refine yv_iald (pc := 1019) (fr_get fo_192_46 7 rfl) gk_1 (n := (J145 1 1 0).toNatClampNeg) rfl rfl rfl h.1 ?_
                                                      replace h := h.2
                                                      refine yv_kv1 (pc := 1020) (fr_get fo_192_46 8 rfl) cc_192_119 (as := [.inr (.inr (40, 0)), .inl (J145 1 0 ((v3 + (1 : Int32)).toNatClampNeg)), .inl (J145 1 0 ((v3 + (2 : Int32)).toNatClampNeg)), .inl (J145 1 0 ((v3 + (3 : Int32)).toNatClampNeg)), .inl (J145 1 0 ((v3 + (4 : Int32)).toNatClampNeg))]) (rs := [.inl x147]) rfl rfl rfl rfl rfl ?_
                                                      refine h.mono (fun r J148 p149 h => ?_)
                                                      obtain ⟨x150, hr, h⟩ := h
                                                      refine ⟨x150, hr, ?_⟩
                                                      refine yv_ceq (pc := 1023) (fr_get fo_192_46 9 rfl) (t := 1061) rfl (fun c => ?_) (fun c => ?_)
                                                      · replace h := h.1 c
                                                        refine yv_iinc (pc := 1061) (fr_get fo_192_48 7 rfl) rfl ic_6 (L' := [some (.inr (.inr (1, 0))), some (.inr (.inr (5, 0))), some (.inr (.inr (40, 0))), some (.inl (v3 + (6 : Int32)))]) rfl ?_
                                                        refine ex_goto (pc := 1064) (fr_get fo_192_48 8 rfl) (t := 18) rfl ?_
                                                        exact h
                                                      · replace h := h.2 c
                                                        refine ex_iconst (pc := 1026) (fr_get fo_192_46 10 rfl) ic_0 ?_
                                                        exact ex_zreturn (pc := 1027) (fr_get fo_192_46 11 rfl) rt_192 mc_192a mc_192b ⟨Or.inl rfl, ma_end_mk h⟩
                                                    · replace h := h.2 c
                                                      refine yv_tc (t := 1028) ic_25 rfl (fun c => ?_) (fun c => ?_)
                                                      · replace h := h.1 c
                                                        refine ex_aload_n (pc := 1028) (fr_get fo_192_46 12 rfl) rfl rfl ?_
                                                        refine ex_aload_n (pc := 1029) (fr_get fo_192_46 13 rfl) rfl rfl ?_
                                                        refine ex_iload_n (pc := 1030) (fr_get fo_192_46 14 rfl) rfl ?_
                                                        refine ex_iconst (pc := 1031) (fr_get fo_192_46 15 rfl) ic_1 ?_
                                                        refine ex_iadd (pc := 1032) (fr_get fo_192_47 0 rfl) ?_
                                                        refine yv_iald (pc := 1033) (fr_get fo_192_47 1 rfl) gk_1 (n := (I 1 1 0).toNatClampNeg) rfl rfl rfl h.1 ?_
                                                        replace h := h.2
                                                        refine ex_aload_n (pc := 1034) (fr_get fo_192_47 2 rfl) rfl rfl ?_
                                                        refine ex_iload_n (pc := 1035) (fr_get fo_192_47 3 rfl) rfl ?_
                                                        refine ex_iconst (pc := 1036) (fr_get fo_192_47 4 rfl) ic_2 ?_
                                                        refine ex_iadd (pc := 1037) (fr_get fo_192_47 5 rfl) ?_
                                                        refine yv_iald (pc := 1038) (fr_get fo_192_47 6 rfl) gk_1 (n := (I 1 1 0).toNatClampNeg) rfl rfl rfl h.1 ?_
                                                        replace h := h.2
                                                        refine yv_kv1 (pc := 1039) (fr_get fo_192_47 7 rfl) cc_192_120 (as := [.inr (.inr (5, 0)), .inl (I 1 0 ((v3 + (1 : Int32)).toNatClampNeg)), .inl (I 1 0 ((v3 + (2 : Int32)).toNatClampNeg))]) (rs := []) rfl rfl rfl rfl rfl ?_
                                                        refine h.mono (fun r J151 p152 h => ?_)
                                                        obtain ⟨x153, hr, h⟩ := h
                                                        refine ⟨x153, hr, ?_⟩
                                                        refine ex_aload_n (pc := 1042) (fr_get fo_192_47 8 rfl) rfl rfl ?_
                                                        refine ex_aload_n (pc := 1043) (fr_get fo_192_47 9 rfl) rfl rfl ?_
                                                        refine ex_iload_n (pc := 1044) (fr_get fo_192_47 10 rfl) rfl ?_
                                                        refine ex_iconst (pc := 1045) (fr_get fo_192_47 11 rfl) ic_1 ?_
                                                        refine ex_iadd (pc := 1046) (fr_get fo_192_47 12 rfl) ?_
                                                        refine yv_iald (pc := 1047) (fr_get fo_192_47 13 rfl) gk_1 (n := (J151 1 1 0).toNatClampNeg) rfl rfl rfl h.1 ?_
                                                        replace h := h.2
                                                        refine ex_aload_n (pc := 1048) (fr_get fo_192_47 14 rfl) rfl rfl ?_
                                                        refine ex_iload_n (pc := 1049) (fr_get fo_192_47 15 rfl) rfl ?_
                                                        refine ex_iconst (pc := 1050) (fr_get fo_192_48 0 rfl) ic_2 ?_
                                                        refine ex_iadd (pc := 1051) (fr_get fo_192_48 1 rfl) ?_
                                                        refine yv_iald (pc := 1052) (fr_get fo_192_48 2 rfl) gk_1 (n := (J151 1 1 0).toNatClampNeg) rfl rfl rfl h.1 ?_
                                                        replace h := h.2
                                                        refine yv_kv1 (pc := 1053) (fr_get fo_192_48 3 rfl) cc_192_123 (as := [.inr (.inr (40, 0)), .inl (J151 1 0 ((v3 + (1 : Int32)).toNatClampNeg)), .inl (J151 1 0 ((v3 + (2 : Int32)).toNatClampNeg))]) (rs := [.inl x153]) rfl rfl rfl rfl rfl ?_
                                                        refine h.mono (fun r J154 p155 h => ?_)
                                                        obtain ⟨x156, hr, h⟩ := h
                                                        refine ⟨x156, hr, ?_⟩
                                                        refine yv_ceq (pc := 1056) (fr_get fo_192_48 4 rfl) (t := 1061) rfl (fun c => ?_) (fun c => ?_)
                                                        · replace h := h.1 c
                                                          refine yv_iinc (pc := 1061) (fr_get fo_192_48 7 rfl) rfl ic_6 (L' := [some (.inr (.inr (1, 0))), some (.inr (.inr (5, 0))), some (.inr (.inr (40, 0))), some (.inl (v3 + (6 : Int32)))]) rfl ?_
                                                          refine ex_goto (pc := 1064) (fr_get fo_192_48 8 rfl) (t := 18) rfl ?_
                                                          exact h
                                                        · replace h := h.2 c
                                                          refine ex_iconst (pc := 1059) (fr_get fo_192_48 5 rfl) ic_0 ?_
                                                          exact ex_zreturn (pc := 1060) (fr_get fo_192_48 6 rfl) rt_192 mc_192a mc_192b ⟨Or.inl rfl, ma_end_mk h⟩
                                                      · replace h := h.2 c
                                                        refine yv_tn (t := 1061) rfl ?_
                                                        refine yv_iinc (pc := 1061) (fr_get fo_192_48 7 rfl) rfl ic_6 (L' := [some (.inr (.inr (1, 0))), some (.inr (.inr (5, 0))), some (.inr (.inr (40, 0))), some (.inl (v3 + (6 : Int32)))]) rfl ?_
                                                        refine ex_goto (pc := 1064) (fr_get fo_192_48 8 rfl) (t := 18) rfl ?_
                                                        exact h

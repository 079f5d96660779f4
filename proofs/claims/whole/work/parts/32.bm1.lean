/-! ===== stretches ===== -/
theorem e_124 {d : Nat} {I : ma_I} {o : Nat} {Q : ma_Q} {a1 : Int32} {a2 : Int32}
  (h :
    (¬((0 : Int32) ≤ a1 ∧ a1 ≤ (99 : Int32)) →
      Q (some (.inl (-2 : Int32))) I o) ∧
    ((0 : Int32) ≤ a1 ∧ a1 ≤ (99 : Int32) →
      ((0 : Int32) ≤ a2 ∧ a2 ≤ (7 : Int32) →
        (I 40 0 1 ≤ 0 →
          (I 40 0 1 ≠ (6 : Int32) →
            ma_in (I 40 0 1) 6 ∧
            ma_in (I 40 0 1) 6 ∧
            Q (some (.inl ((I 40 0 1) + (1 : Int32)))) (ma_up (ma_up (ma_up I 41 0 ((I 40 0 1).toNatClampNeg) a1) 42 0 ((I 40 0 1).toNatClampNeg) a2) 40 0 1 ((I 40 0 1) + (1 : Int32))) o) ∧
          (I 40 0 1 = (6 : Int32) →
            Q (some (.inl (-4 : Int32))) I o)) ∧
        (0 < I 40 0 1 →
          ma_in ((I 40 0 1) - (1 : Int32)) 6 ∧
          (I 41 0 (((I 40 0 1) - (1 : Int32)).toNatClampNeg) < a1 →
            (I 40 0 1 ≠ (6 : Int32) →
              ma_in (I 40 0 1) 6 ∧
              ma_in (I 40 0 1) 6 ∧
              Q (some (.inl ((I 40 0 1) + (1 : Int32)))) (ma_up (ma_up (ma_up I 41 0 ((I 40 0 1).toNatClampNeg) a1) 42 0 ((I 40 0 1).toNatClampNeg) a2) 40 0 1 ((I 40 0 1) + (1 : Int32))) o) ∧
            (I 40 0 1 = (6 : Int32) →
              Q (some (.inl (-4 : Int32))) I o)) ∧
          (a1 ≤ I 41 0 (((I 40 0 1) - (1 : Int32)).toNatClampNeg) →
            Q (some (.inl (-3 : Int32))) I o))) ∧
      (¬((0 : Int32) ≤ a2 ∧ a2 ≤ (7 : Int32)) →
        Q (some (.inl (-2 : Int32))) I o))) :
  Exm (d + 2) 124 [.inr (.inr (40, 0)), .inl a1, .inl a2] I o Q := by
  show Ex (d + 2) 124 (0, [some (.inr (.inr (40, 0))), some (.inl a1), some (.inl a2)], [], ma_mem I o, 0, 0) (ma_end Q)
  refine ex_iload_n (pc := 0) (fr_get fo_124_0 0 rfl) rfl ?_
  refine xv_ks1 (pc := 1) (fr_get fo_124_0 1 rfl) cc_124_11 (as := [.inl a1]) (rs := []) rfl rfl rfl rfl ?_
  refine sm_122 ?_
  refine ⟨_, rfl, ?_⟩
  refine xv_peq (pc := 4) (fr_get fo_124_0 2 rfl) (t := 14) rfl (fun c => ?_) (fun c => ?_)
  · replace h := h.1 c
    refine ex_bipush (pc := 14) (fr_get fo_124_0 6 rfl) bp_m2 ?_
    exact ex_ireturn (pc := 16) (fr_get fo_124_0 7 rfl) rt_124 rfl rfl (ma_end_mk h)
  · replace h := h.2 c
    refine ex_iload_n (pc := 7) (fr_get fo_124_0 3 rfl) rfl ?_
    refine xv_ks1 (pc := 8) (fr_get fo_124_0 4 rfl) cc_124_15 (as := [.inl a2]) (rs := []) rfl rfl rfl rfl ?_
    refine sm_121 ?_
    refine ⟨_, rfl, ?_⟩
    refine xv_pne (pc := 11) (fr_get fo_124_0 5 rfl) (t := 17) rfl (fun c => ?_) (fun c => ?_)
    · replace h := h.1 c
      refine ex_aload_n (pc := 17) (fr_get fo_124_0 8 rfl) rfl rfl ?_
      refine xv_gi (pc := 18) (fr_get fo_124_0 9 rfl) ow_124 fg_9_18_40 rfl ?_
      refine xv_ble (pc := 21) (fr_get fo_124_0 10 rfl) (t := 42) rfl (fun c => ?_) (fun c => ?_)
      · replace h := h.1 c
        refine ex_aload_n (pc := 42) (fr_get fo_124_1 6 rfl) rfl rfl ?_
        refine xv_gi (pc := 43) (fr_get fo_124_1 7 rfl) ow_124 fg_9_18_40 rfl ?_
        refine ex_bipush (pc := 46) (fr_get fo_124_1 8 rfl) bp_6 ?_
        refine xv_cne (pc := 48) (fr_get fo_124_1 9 rfl) (t := 54) rfl (fun c => ?_) (fun c => ?_)
        · replace h := h.1 c
          refine ex_aload_n (pc := 54) (fr_get fo_124_1 12 rfl) rfl rfl ?_
          refine ex_gr (pc := 55) (fr_get fo_124_1 13 rfl) ow_124 fr_9_21_40 (q := (41, 0)) rfl ?_
          refine ex_aload_n (pc := 58) (fr_get fo_124_1 14 rfl) rfl rfl ?_
          refine xv_gi (pc := 59) (fr_get fo_124_1 15 rfl) ow_124 fg_9_18_40 rfl ?_
          refine ex_iload_n (pc := 62) (fr_get fo_124_2 0 rfl) rfl ?_
          refine xv_iast (pc := 63) (fr_get fo_124_2 1 rfl) gs_41 gl_41 rfl h.1 ?_
          replace h := h.2
          refine ex_aload_n (pc := 64) (fr_get fo_124_2 2 rfl) rfl rfl ?_
          refine ex_gr (pc := 65) (fr_get fo_124_2 3 rfl) ow_124 fr_9_25_40 (q := (42, 0)) rfl ?_
          refine ex_aload_n (pc := 68) (fr_get fo_124_2 4 rfl) rfl rfl ?_
          refine xv_gi (pc := 69) (fr_get fo_124_2 5 rfl) ow_124 fg_9_18_40 (xv_ug rfl) ?_
          refine ex_iload_n (pc := 72) (fr_get fo_124_2 6 rfl) rfl ?_
          refine xv_iast (pc := 73) (fr_get fo_124_2 7 rfl) gs_42 gl_42 rfl h.1 ?_
          replace h := h.2
          refine ex_aload_n (pc := 74) (fr_get fo_124_2 8 rfl) rfl rfl ?_
          refine ex_dupr (pc := 75) (fr_get fo_124_2 9 rfl) ?_
          refine xv_gi (pc := 76) (fr_get fo_124_2 10 rfl) ow_124 fg_9_18_40 (Eq.trans (xv_ug rfl) (xv_ug rfl)) ?_
          refine ex_iconst (pc := 79) (fr_get fo_124_2 11 rfl) ic_1 ?_
          refine ex_iadd (pc := 80) (fr_get fo_124_2 12 rfl) ?_
          refine ex_pi (pc := 81) (fr_get fo_124_2 13 rfl) ow_124 fp_9_18_40 ?_
          refine ex_aload_n (pc := 84) (fr_get fo_124_2 14 rfl) rfl rfl ?_
          refine xv_gi (pc := 85) (fr_get fo_124_2 15 rfl) ow_124 fg_9_18_40 xv_us ?_
          exact ex_ireturn (pc := 88) (fr_get fo_124_3 0 rfl) rt_124 rfl rfl (ma_end_mk h)
        · replace h := h.2 c
          refine ex_bipush (pc := 51) (fr_get fo_124_1 10 rfl) bp_m4 ?_
          exact ex_ireturn (pc := 53) (fr_get fo_124_1 11 rfl) rt_124 rfl rfl (ma_end_mk h)
      · replace h := h.2 c
        refine ex_iload_n (pc := 24) (fr_get fo_124_0 11 rfl) rfl ?_
        refine ex_aload_n (pc := 25) (fr_get fo_124_0 12 rfl) rfl rfl ?_
        refine ex_gr (pc := 26) (fr_get fo_124_0 13 rfl) ow_124 fr_9_21_40 (q := (41, 0)) rfl ?_
        refine ex_aload_n (pc := 29) (fr_get fo_124_0 14 rfl) rfl rfl ?_
        refine xv_gi (pc := 30) (fr_get fo_124_0 15 rfl) ow_124 fg_9_18_40 rfl ?_
        refine ex_iconst (pc := 33) (fr_get fo_124_1 0 rfl) ic_1 ?_
        refine ex_isub (pc := 34) (fr_get fo_124_1 1 rfl) ?_
        refine xv_iald (pc := 35) (fr_get fo_124_1 2 rfl) gk_41 (n := 6) (gn_41 ..) rfl rfl h.1 ?_
        replace h := h.2
        refine xv_cgt (pc := 36) (fr_get fo_124_1 3 rfl) (t := 42) rfl (fun c => ?_) (fun c => ?_)
        · replace h := h.1 c
          refine ex_aload_n (pc := 42) (fr_get fo_124_1 6 rfl) rfl rfl ?_
          refine xv_gi (pc := 43) (fr_get fo_124_1 7 rfl) ow_124 fg_9_18_40 rfl ?_
          refine ex_bipush (pc := 46) (fr_get fo_124_1 8 rfl) bp_6 ?_
          refine xv_cne (pc := 48) (fr_get fo_124_1 9 rfl) (t := 54) rfl (fun c => ?_) (fun c => ?_)
          · replace h := h.1 c
            refine ex_aload_n (pc := 54) (fr_get fo_124_1 12 rfl) rfl rfl ?_
            refine ex_gr (pc := 55) (fr_get fo_124_1 13 rfl) ow_124 fr_9_21_40 (q := (41, 0)) rfl ?_
            refine ex_aload_n (pc := 58) (fr_get fo_124_1 14 rfl) rfl rfl ?_
            refine xv_gi (pc := 59) (fr_get fo_124_1 15 rfl) ow_124 fg_9_18_40 rfl ?_
            refine ex_iload_n (pc := 62) (fr_get fo_124_2 0 rfl) rfl ?_
            refine xv_iast (pc := 63) (fr_get fo_124_2 1 rfl) gs_41 gl_41 rfl h.1 ?_
            replace h := h.2
            refine ex_aload_n (pc := 64) (fr_get fo_124_2 2 rfl) rfl rfl ?_
            refine ex_gr (pc := 65) (fr_get fo_124_2 3 rfl) ow_124 fr_9_25_40 (q := (42, 0)) rfl ?_
            refine ex_aload_n (pc := 68) (fr_get fo_124_2 4 rfl) rfl rfl ?_
            refine xv_gi (pc := 69) (fr_get fo_124_2 5 rfl) ow_124 fg_9_18_40 (xv_ug rfl) ?_
            refine ex_iload_n (pc := 72) (fr_get fo_124_2 6 rfl) rfl ?_
            refine xv_iast (pc := 73) (fr_get fo_124_2 7 rfl) gs_42 gl_42 rfl h.1 ?_
            replace h := h.2
            refine ex_aload_n (pc := 74) (fr_get fo_124_2 8 rfl) rfl rfl ?_
            refine ex_dupr (pc := 75) (fr_get fo_124_2 9 rfl) ?_
            refine xv_gi (pc := 76) (fr_get fo_124_2 10 rfl) ow_124 fg_9_18_40 (Eq.trans (xv_ug rfl) (xv_ug rfl)) ?_
            refine ex_iconst (pc := 79) (fr_get fo_124_2 11 rfl) ic_1 ?_
            refine ex_iadd (pc := 80) (fr_get fo_124_2 12 rfl) ?_
            refine ex_pi (pc := 81) (fr_get fo_124_2 13 rfl) ow_124 fp_9_18_40 ?_
            refine ex_aload_n (pc := 84) (fr_get fo_124_2 14 rfl) rfl rfl ?_
            refine xv_gi (pc := 85) (fr_get fo_124_2 15 rfl) ow_124 fg_9_18_40 xv_us ?_
            exact ex_ireturn (pc := 88) (fr_get fo_124_3 0 rfl) rt_124 rfl rfl (ma_end_mk h)
          · replace h := h.2 c
            refine ex_bipush (pc := 51) (fr_get fo_124_1 10 rfl) bp_m4 ?_
            exact ex_ireturn (pc := 53) (fr_get fo_124_1 11 rfl) rt_124 rfl rfl (ma_end_mk h)
        · replace h := h.2 c
          refine ex_bipush (pc := 39) (fr_get fo_124_1 4 rfl) bp_m3 ?_
          exact ex_ireturn (pc := 41) (fr_get fo_124_1 5 rfl) rt_124 rfl rfl (ma_end_mk h)
    · replace h := h.2 c
      refine ex_bipush (pc := 14) (fr_get fo_124_0 6 rfl) bp_m2 ?_
      exact ex_ireturn (pc := 16) (fr_get fo_124_0 7 rfl) rt_124 rfl rfl (ma_end_mk h)

theorem e_125 {d : Nat} {I : ma_I} {o : Nat} {Q : ma_Q} {a1 : Int32} {a2 : Int32} {a3 : Int32} {a4 : Int32}
  (h :
    ma_in a1 9 ∧
    ma_in a1 9 ∧
    ma_in a1 9 ∧
    ma_in a1 9 ∧
    ma_in a1 9 ∧
    ma_in a1 9 ∧
    Q none (ma_up (ma_up (ma_up (ma_up (ma_up (ma_up I 43 0 a1.toNatClampNeg (a2 / (10 : Int32))) 44 0 a1.toNatClampNeg (xv_rm a2 (10 : Int32))) 45 0 a1.toNatClampNeg (a3 / (10 : Int32))) 46 0 a1.toNatClampNeg (xv_rm a3 (10 : Int32))) 47 0 a1.toNatClampNeg (a4 / (100 : Int32))) 48 0 a1.toNatClampNeg (xv_rm a4 (100 : Int32))) o) :
  Exm (d) 125 [.inr (.inr (40, 0)), .inl a1, .inl a2, .inl a3, .inl a4] I o Q := by
  show Ex (d) 125 (0, [some (.inr (.inr (40, 0))), some (.inl a1), some (.inl a2), some (.inl a3), some (.inl a4)], [], ma_mem I o, 0, 0) (ma_end Q)
  refine ex_aload_n (pc := 0) (fr_get fo_125_0 0 rfl) rfl rfl ?_
  refine ex_gr (pc := 1) (fr_get fo_125_0 1 rfl) ow_125 fr_9_28_40 (q := (43, 0)) rfl ?_
  refine ex_iload_n (pc := 4) (fr_get fo_125_0 2 rfl) rfl ?_
  refine ex_iload_n (pc := 5) (fr_get fo_125_0 3 rfl) rfl ?_
  refine ex_bipush (pc := 6) (fr_get fo_125_0 4 rfl) bp_10 ?_
  refine xv_idiv (pc := 8) (fr_get fo_125_0 5 rfl) (by decide) ?_
  refine xv_iast (pc := 9) (fr_get fo_125_0 6 rfl) gs_43 gl_43 rfl h.1 ?_
  replace h := h.2
  refine ex_aload_n (pc := 10) (fr_get fo_125_0 7 rfl) rfl rfl ?_
  refine ex_gr (pc := 11) (fr_get fo_125_0 8 rfl) ow_125 fr_9_31_40 (q := (44, 0)) rfl ?_
  refine ex_iload_n (pc := 14) (fr_get fo_125_0 9 rfl) rfl ?_
  refine ex_iload_n (pc := 15) (fr_get fo_125_0 10 rfl) rfl ?_
  refine ex_bipush (pc := 16) (fr_get fo_125_0 11 rfl) bp_10 ?_
  refine xv_irem (pc := 18) (fr_get fo_125_0 12 rfl) (by decide) ?_
  refine xv_iast (pc := 19) (fr_get fo_125_0 13 rfl) gs_44 gl_44 rfl h.1 ?_
  replace h := h.2
  refine ex_aload_n (pc := 20) (fr_get fo_125_0 14 rfl) rfl rfl ?_
  refine ex_gr (pc := 21) (fr_get fo_125_0 15 rfl) ow_125 fr_9_34_40 (q := (45, 0)) rfl ?_
  refine ex_iload_n (pc := 24) (fr_get fo_125_1 0 rfl) rfl ?_
  refine ex_iload_n (pc := 25) (fr_get fo_125_1 1 rfl) rfl ?_
  refine ex_bipush (pc := 26) (fr_get fo_125_1 2 rfl) bp_10 ?_
  refine xv_idiv (pc := 28) (fr_get fo_125_1 3 rfl) (by decide) ?_
  refine xv_iast (pc := 29) (fr_get fo_125_1 4 rfl) gs_45 gl_45 rfl h.1 ?_
  replace h := h.2
  refine ex_aload_n (pc := 30) (fr_get fo_125_1 5 rfl) rfl rfl ?_
  refine ex_gr (pc := 31) (fr_get fo_125_1 6 rfl) ow_125 fr_9_37_40 (q := (46, 0)) rfl ?_
  refine ex_iload_n (pc := 34) (fr_get fo_125_1 7 rfl) rfl ?_
  refine ex_iload_n (pc := 35) (fr_get fo_125_1 8 rfl) rfl ?_
  refine ex_bipush (pc := 36) (fr_get fo_125_1 9 rfl) bp_10 ?_
  refine xv_irem (pc := 38) (fr_get fo_125_1 10 rfl) (by decide) ?_
  refine xv_iast (pc := 39) (fr_get fo_125_1 11 rfl) gs_46 gl_46 rfl h.1 ?_
  replace h := h.2
  refine ex_aload_n (pc := 40) (fr_get fo_125_1 12 rfl) rfl rfl ?_
  refine ex_gr (pc := 41) (fr_get fo_125_1 13 rfl) ow_125 fr_9_40_40 (q := (47, 0)) rfl ?_
  refine ex_iload_n (pc := 44) (fr_get fo_125_1 14 rfl) rfl ?_
  refine ex_iload (pc := 45) (fr_get fo_125_1 15 rfl) rfl ?_
  refine ex_bipush (pc := 47) (fr_get fo_125_2 0 rfl) bp_100 ?_
  refine xv_idiv (pc := 49) (fr_get fo_125_2 1 rfl) (by decide) ?_
  refine xv_iast (pc := 50) (fr_get fo_125_2 2 rfl) gs_47 gl_47 rfl h.1 ?_
  replace h := h.2
  refine ex_aload_n (pc := 51) (fr_get fo_125_2 3 rfl) rfl rfl ?_
  refine ex_gr (pc := 52) (fr_get fo_125_2 4 rfl) ow_125 fr_9_43_40 (q := (48, 0)) rfl ?_
  refine ex_iload_n (pc := 55) (fr_get fo_125_2 5 rfl) rfl ?_
  refine ex_iload (pc := 56) (fr_get fo_125_2 6 rfl) rfl ?_
  refine ex_bipush (pc := 58) (fr_get fo_125_2 7 rfl) bp_100 ?_
  refine xv_irem (pc := 60) (fr_get fo_125_2 8 rfl) (by decide) ?_
  refine xv_iast (pc := 61) (fr_get fo_125_2 9 rfl) gs_48 gl_48 rfl h.1 ?_
  replace h := h.2
  exact ex_return (pc := 62) (fr_get fo_125_2 10 rfl) rt_125 rfl rfl (ma_end_mk h)

theorem e_126 {d : Nat} {I : ma_I} {o : Nat} {Q : ma_Q} {a1 : Int32} {a2 : Int32} {a3 : Int32}
  (h :
    (¬((0 : Int32) ≤ a1 ∧ a1 ≤ (59 : Int32)) →
      Q (some (.inl (-2 : Int32))) I o) ∧
    ((0 : Int32) ≤ a1 ∧ a1 ≤ (59 : Int32) →
      (¬((0 : Int32) ≤ a2 ∧ a2 ≤ (77 : Int32)) →
        Q (some (.inl (-2 : Int32))) I o) ∧
      ((0 : Int32) ≤ a2 ∧ a2 ≤ (77 : Int32) →
        (¬((0 : Int32) ≤ (xv_rm a2 (10 : Int32)) ∧ (xv_rm a2 (10 : Int32)) ≤ (7 : Int32)) →
          Q (some (.inl (-2 : Int32))) I o) ∧
        ((0 : Int32) ≤ (xv_rm a2 (10 : Int32)) ∧ (xv_rm a2 (10 : Int32)) ≤ (7 : Int32) →
          (a2 / (10 : Int32) = xv_rm a2 (10 : Int32) →
            Q (some (.inl (-2 : Int32))) I o) ∧
          (a2 / (10 : Int32) ≠ xv_rm a2 (10 : Int32) →
            (¬((0 : Int32) ≤ a3 ∧ a3 ≤ (9999 : Int32)) →
              Q (some (.inl (-2 : Int32))) I o) ∧
            ((0 : Int32) ≤ a3 ∧ a3 ≤ (9999 : Int32) →
              (a3 / (100 : Int32) ≤ xv_rm a3 (100 : Int32) →
                (I 40 0 4 ≠ (8 : Int32) →
                  Exm (d + 1) 125 [.inr (.inr (40, 0)), .inl (I 40 0 4), .inl a1, .inl a2, .inl a3] I o (fun r J1 p2 => r = none ∧
                    Q (some (.inl (((J1 40 0 4) + (1 : Int32)) - (1 : Int32)))) (ma_up J1 40 0 4 ((J1 40 0 4) + (1 : Int32))) p2)) ∧
                (I 40 0 4 = (8 : Int32) →
                  Q (some (.inl (-4 : Int32))) I o)) ∧
              (xv_rm a3 (100 : Int32) < a3 / (100 : Int32) →
                Q (some (.inl (-2 : Int32))) I o))))))) :
  Exm (d + 2) 126 [.inr (.inr (40, 0)), .inl a1, .inl a2, .inl a3] I o Q := by
  show Ex (d + 2) 126 (0, [some (.inr (.inr (40, 0))), some (.inl a1), some (.inl a2), some (.inl a3), none], [], ma_mem I o, 0, 0) (ma_end Q)
  refine ex_iload_n (pc := 0) (fr_get fo_126_0 0 rfl) rfl ?_
  refine ex_iconst (pc := 1) (fr_get fo_126_0 1 rfl) ic_0 ?_
  refine ex_bipush (pc := 2) (fr_get fo_126_0 2 rfl) bp_59 ?_
  refine xv_ks1 (pc := 4) (fr_get fo_126_0 3 rfl) cc_126_3 (as := [.inl a1, .inl (0 : Int32), .inl (59 : Int32)]) (rs := []) rfl rfl rfl rfl ?_
  refine sm_118 ?_
  refine ⟨_, rfl, ?_⟩
  refine xv_peq (pc := 7) (fr_get fo_126_0 4 rfl) (t := 45) rfl (fun c => ?_) (fun c => ?_)
  · replace h := h.1 c
    refine ex_iconst (pc := 45) (fr_get fo_126_1 8 rfl) ic_0 ?_
    refine ex_istore (pc := 46) (fr_get fo_126_1 9 rfl) rfl (L' := [some (.inr (.inr (40, 0))), some (.inl a1), some (.inl a2), some (.inl a3), some (.inl (0 : Int32))]) rfl ?_
    refine ex_iload (pc := 48) (fr_get fo_126_1 10 rfl) rfl ?_
    refine xv_bt (pc := 50) (fr_get fo_126_1 11 rfl) (t := 75) rfl k1_eq_0 ?_
    refine ex_bipush (pc := 75) (fr_get fo_126_2 8 rfl) bp_m2 ?_
    exact ex_ireturn (pc := 77) (fr_get fo_126_2 9 rfl) rt_126 rfl rfl (ma_end_mk h)
  · replace h := h.2 c
    refine ex_iload_n (pc := 10) (fr_get fo_126_0 5 rfl) rfl ?_
    refine ex_iconst (pc := 11) (fr_get fo_126_0 6 rfl) ic_0 ?_
    refine ex_bipush (pc := 12) (fr_get fo_126_0 7 rfl) bp_77 ?_
    refine xv_ks1 (pc := 14) (fr_get fo_126_0 8 rfl) cc_126_3 (as := [.inl a2, .inl (0 : Int32), .inl (77 : Int32)]) (rs := []) rfl rfl rfl rfl ?_
    refine sm_118 ?_
    refine ⟨_, rfl, ?_⟩
    refine xv_peq (pc := 17) (fr_get fo_126_0 9 rfl) (t := 45) rfl (fun c => ?_) (fun c => ?_)
    · replace h := h.1 c
      refine ex_iconst (pc := 45) (fr_get fo_126_1 8 rfl) ic_0 ?_
      refine ex_istore (pc := 46) (fr_get fo_126_1 9 rfl) rfl (L' := [some (.inr (.inr (40, 0))), some (.inl a1), some (.inl a2), some (.inl a3), some (.inl (0 : Int32))]) rfl ?_
      refine ex_iload (pc := 48) (fr_get fo_126_1 10 rfl) rfl ?_
      refine xv_bt (pc := 50) (fr_get fo_126_1 11 rfl) (t := 75) rfl k1_eq_0 ?_
      refine ex_bipush (pc := 75) (fr_get fo_126_2 8 rfl) bp_m2 ?_
      exact ex_ireturn (pc := 77) (fr_get fo_126_2 9 rfl) rt_126 rfl rfl (ma_end_mk h)
    · replace h := h.2 c
      refine ex_iload_n (pc := 20) (fr_get fo_126_0 10 rfl) rfl ?_
      refine ex_bipush (pc := 21) (fr_get fo_126_0 11 rfl) bp_10 ?_
      refine xv_irem (pc := 23) (fr_get fo_126_0 12 rfl) (by decide) ?_
      refine xv_ks1 (pc := 24) (fr_get fo_126_0 13 rfl) cc_126_15 (as := [.inl (xv_rm a2 (10 : Int32))]) (rs := []) rfl rfl rfl rfl ?_
      refine sm_121 ?_
      refine ⟨_, rfl, ?_⟩
      refine xv_peq (pc := 27) (fr_get fo_126_0 14 rfl) (t := 45) rfl (fun c => ?_) (fun c => ?_)
      · replace h := h.1 c
        refine ex_iconst (pc := 45) (fr_get fo_126_1 8 rfl) ic_0 ?_
        refine ex_istore (pc := 46) (fr_get fo_126_1 9 rfl) rfl (L' := [some (.inr (.inr (40, 0))), some (.inl a1), some (.inl a2), some (.inl a3), some (.inl (0 : Int32))]) rfl ?_
        refine ex_iload (pc := 48) (fr_get fo_126_1 10 rfl) rfl ?_
        refine xv_bt (pc := 50) (fr_get fo_126_1 11 rfl) (t := 75) rfl k1_eq_0 ?_
        refine ex_bipush (pc := 75) (fr_get fo_126_2 8 rfl) bp_m2 ?_
        exact ex_ireturn (pc := 77) (fr_get fo_126_2 9 rfl) rt_126 rfl rfl (ma_end_mk h)
      · replace h := h.2 c
        refine ex_iload_n (pc := 30) (fr_get fo_126_0 15 rfl) rfl ?_
        refine ex_bipush (pc := 31) (fr_get fo_126_1 0 rfl) bp_10 ?_
        refine xv_idiv (pc := 33) (fr_get fo_126_1 1 rfl) (by decide) ?_
        refine ex_iload_n (pc := 34) (fr_get fo_126_1 2 rfl) rfl ?_
        refine ex_bipush (pc := 35) (fr_get fo_126_1 3 rfl) bp_10 ?_
        refine xv_irem (pc := 37) (fr_get fo_126_1 4 rfl) (by decide) ?_
        refine xv_ceq (pc := 38) (fr_get fo_126_1 5 rfl) (t := 45) rfl (fun c => ?_) (fun c => ?_)
        · replace h := h.1 c
          refine ex_iconst (pc := 45) (fr_get fo_126_1 8 rfl) ic_0 ?_
          refine ex_istore (pc := 46) (fr_get fo_126_1 9 rfl) rfl (L' := [some (.inr (.inr (40, 0))), some (.inl a1), some (.inl a2), some (.inl a3), some (.inl (0 : Int32))]) rfl ?_
          refine ex_iload (pc := 48) (fr_get fo_126_1 10 rfl) rfl ?_
          refine xv_bt (pc := 50) (fr_get fo_126_1 11 rfl) (t := 75) rfl k1_eq_0 ?_
          refine ex_bipush (pc := 75) (fr_get fo_126_2 8 rfl) bp_m2 ?_
          exact ex_ireturn (pc := 77) (fr_get fo_126_2 9 rfl) rt_126 rfl rfl (ma_end_mk h)
        · replace h := h.2 c
          refine ex_iconst (pc := 41) (fr_get fo_126_1 6 rfl) ic_1 ?_
          refine ex_goto (pc := 42) (fr_get fo_126_1 7 rfl) (t := 46) rfl ?_
          refine ex_istore (pc := 46) (fr_get fo_126_1 9 rfl) rfl (L' := [some (.inr (.inr (40, 0))), some (.inl a1), some (.inl a2), some (.inl a3), some (.inl (1 : Int32))]) rfl ?_
          refine ex_iload (pc := 48) (fr_get fo_126_1 10 rfl) rfl ?_
          refine xv_bf (pc := 50) (fr_get fo_126_1 11 rfl) (t := 75) rfl k1_eq_1 ?_
          refine ex_iload_n (pc := 53) (fr_get fo_126_1 12 rfl) rfl ?_
          refine ex_iconst (pc := 54) (fr_get fo_126_1 13 rfl) ic_0 ?_
          refine ex_sipush (pc := 55) (fr_get fo_126_1 14 rfl) sp_9999 ?_
          refine xv_ks1 (pc := 58) (fr_get fo_126_1 15 rfl) cc_126_3 (as := [.inl a3, .inl (0 : Int32), .inl (9999 : Int32)]) (rs := []) rfl rfl rfl rfl ?_
          refine sm_118 ?_
          refine ⟨_, rfl, ?_⟩
          refine xv_peq (pc := 61) (fr_get fo_126_2 0 rfl) (t := 75) rfl (fun c => ?_) (fun c => ?_)
          · replace h := h.1 c
            refine ex_bipush (pc := 75) (fr_get fo_126_2 8 rfl) bp_m2 ?_
            exact ex_ireturn (pc := 77) (fr_get fo_126_2 9 rfl) rt_126 rfl rfl (ma_end_mk h)
          · replace h := h.2 c
            refine ex_iload_n (pc := 64) (fr_get fo_126_2 1 rfl) rfl ?_
            refine ex_bipush (pc := 65) (fr_get fo_126_2 2 rfl) bp_100 ?_
            refine xv_irem (pc := 67) (fr_get fo_126_2 3 rfl) (by decide) ?_
            refine ex_iload_n (pc := 68) (fr_get fo_126_2 4 rfl) rfl ?_
            refine ex_bipush (pc := 69) (fr_get fo_126_2 5 rfl) bp_100 ?_
            refine xv_idiv (pc := 71) (fr_get fo_126_2 6 rfl) (by decide) ?_
            refine xv_cge (pc := 72) (fr_get fo_126_2 7 rfl) (t := 78) rfl (fun c => ?_) (fun c => ?_)
            · replace h := h.1 c
              refine ex_aload_n (pc := 78) (fr_get fo_126_2 10 rfl) rfl rfl ?_
              refine xv_gi (pc := 79) (fr_get fo_126_2 11 rfl) ow_126 fg_9_7_40 rfl ?_
              refine ex_bipush (pc := 82) (fr_get fo_126_2 12 rfl) bp_8 ?_
              refine xv_cne (pc := 84) (fr_get fo_126_2 13 rfl) (t := 90) rfl (fun c => ?_) (fun c => ?_)
              · replace h := h.1 c
                refine ex_aload_n (pc := 90) (fr_get fo_126_3 0 rfl) rfl rfl ?_
                refine ex_aload_n (pc := 91) (fr_get fo_126_3 1 rfl) rfl rfl ?_
                refine xv_gi (pc := 92) (fr_get fo_126_3 2 rfl) ow_126 fg_9_7_40 rfl ?_
                refine ex_iload_n (pc := 95) (fr_get fo_126_3 3 rfl) rfl ?_
                refine ex_iload_n (pc := 96) (fr_get fo_126_3 4 rfl) rfl ?_
                refine ex_iload_n (pc := 97) (fr_get fo_126_3 5 rfl) rfl ?_
                refine xv_kv0 (pc := 98) (fr_get fo_126_3 6 rfl) cc_126_46 (as := [.inr (.inr (40, 0)), .inl (I 40 0 4), .inl a1, .inl a2, .inl a3]) (rs := []) rfl rfl rfl rfl rfl ?_
                refine h.mono (fun r J1 p2 h => ⟨h.1, ?_⟩)
                replace h := h.2
                refine ex_aload_n (pc := 101) (fr_get fo_126_3 7 rfl) rfl rfl ?_
                refine ex_dupr (pc := 102) (fr_get fo_126_3 8 rfl) ?_
                refine xv_gi (pc := 103) (fr_get fo_126_3 9 rfl) ow_126 fg_9_7_40 rfl ?_
                refine ex_iconst (pc := 106) (fr_get fo_126_3 10 rfl) ic_1 ?_
                refine ex_iadd (pc := 107) (fr_get fo_126_3 11 rfl) ?_
                refine ex_pi (pc := 108) (fr_get fo_126_3 12 rfl) ow_126 fp_9_7_40 ?_
                refine ex_aload_n (pc := 111) (fr_get fo_126_3 13 rfl) rfl rfl ?_
                refine xv_gi (pc := 112) (fr_get fo_126_3 14 rfl) ow_126 fg_9_7_40 xv_us ?_
                refine ex_iconst (pc := 115) (fr_get fo_126_3 15 rfl) ic_1 ?_
                refine ex_isub (pc := 116) (fr_get fo_126_4 0 rfl) ?_
                exact ex_ireturn (pc := 117) (fr_get fo_126_4 1 rfl) rt_126 rfl rfl (ma_end_mk h)
              · replace h := h.2 c
                refine ex_bipush (pc := 87) (fr_get fo_126_2 14 rfl) bp_m4 ?_
                exact ex_ireturn (pc := 89) (fr_get fo_126_2 15 rfl) rt_126 rfl rfl (ma_end_mk h)
            · replace h := h.2 c
              refine ex_bipush (pc := 75) (fr_get fo_126_2 8 rfl) bp_m2 ?_
              exact ex_ireturn (pc := 77) (fr_get fo_126_2 9 rfl) rt_126 rfl rfl (ma_end_mk h)

theorem e_127 {d : Nat} {I : ma_I} {o : Nat} {Q : ma_Q} {a1 : Int32} {a2 : Int32}
  (h :
    (a2 ≠ 0 →
      (a2 = (6 : Int32) →
        (¬((0 : Int32) ≤ a1 ∧ a1 ≤ ((I 40 0 1) - (1 : Int32))) →
          Q (some (.inl (-100 : Int32))) I o) ∧
        ((0 : Int32) ≤ a1 ∧ a1 ≤ ((I 40 0 1) - (1 : Int32)) →
          (a2 ≠ (6 : Int32) →
            ma_in a1 6 ∧
            Q (some (.inl (I 41 0 a1.toNatClampNeg))) I o) ∧
          (a2 = (6 : Int32) →
            ma_in a1 6 ∧
            Q (some (.inl (I 42 0 a1.toNatClampNeg))) I o))) ∧
      (a2 ≠ (6 : Int32) →
        (a2 ≠ (8 : Int32) →
          ((0 : Int32) ≤ a1 ∧ a1 ≤ ((I 40 0 4) - 1) →
            (a2 = (1 : Int32) →
              ma_in a1 9 ∧
              Q (some (.inl (I 44 0 a1.toNatClampNeg))) I o) ∧
            (a2 ≠ (1 : Int32) →
              (a2 = (2 : Int32) →
                ma_in a1 9 ∧
                Q (some (.inl (I 45 0 a1.toNatClampNeg))) I o) ∧
              (a2 ≠ (2 : Int32) →
                (a2 = (3 : Int32) →
                  ma_in a1 9 ∧
                  Q (some (.inl (I 46 0 a1.toNatClampNeg))) I o) ∧
                (a2 ≠ (3 : Int32) →
                  (a2 = (4 : Int32) →
                    ma_in a1 9 ∧
                    Q (some (.inl (I 47 0 a1.toNatClampNeg))) I o) ∧
                  (a2 ≠ (4 : Int32) →
                    (a2 = (5 : Int32) →
                      ma_in a1 9 ∧
                      Q (some (.inl (I 48 0 a1.toNatClampNeg))) I o) ∧
                    (a2 ≠ (5 : Int32) →
                      (a2 = (6 : Int32) →
                        Q (some (.inl (-100 : Int32))) I o) ∧
                      (a2 ≠ (6 : Int32) →
                        (a2 = (7 : Int32) →
                          ma_in a1 9 ∧
                          Q (some (.inl (I 43 0 a1.toNatClampNeg))) I o) ∧
                        (a2 ≠ (7 : Int32) →
                          Q (some (.inl (-100 : Int32))) I o)))))))) ∧
          (¬((0 : Int32) ≤ a1 ∧ a1 ≤ ((I 40 0 4) - 1)) →
            Q (some (.inl (-100 : Int32))) I o)) ∧
        (a2 = (8 : Int32) →
          (¬((0 : Int32) ≤ a1 ∧ a1 ≤ ((I 40 0 1) - (1 : Int32))) →
            Q (some (.inl (-100 : Int32))) I o) ∧
          ((0 : Int32) ≤ a1 ∧ a1 ≤ ((I 40 0 1) - (1 : Int32)) →
            (a2 ≠ (6 : Int32) →
              ma_in a1 6 ∧
              Q (some (.inl (I 41 0 a1.toNatClampNeg))) I o) ∧
            (a2 = (6 : Int32) →
              ma_in a1 6 ∧
              Q (some (.inl (I 42 0 a1.toNatClampNeg))) I o))))) ∧
    (a2 = 0 →
      Q (some (.inl (I 40 0 0))) I o)) :
  Exm (d + 2) 127 [.inr (.inr (40, 0)), .inl a1, .inl a2] I o Q := by
  show Ex (d + 2) 127 (0, [some (.inr (.inr (40, 0))), some (.inl a1), some (.inl a2)], [], ma_mem I o, 0, 0) (ma_end Q)
  refine ex_iload_n (pc := 0) (fr_get fo_127_0 0 rfl) rfl ?_
  refine xv_bne (pc := 1) (fr_get fo_127_0 1 rfl) (t := 9) rfl (fun c => ?_) (fun c => ?_)
  · replace h := h.1 c
    refine ex_iload_n (pc := 9) (fr_get fo_127_0 5 rfl) rfl ?_
    refine ex_bipush (pc := 10) (fr_get fo_127_0 6 rfl) bp_6 ?_
    refine xv_ceq (pc := 12) (fr_get fo_127_0 7 rfl) (t := 21) rfl (fun c => ?_) (fun c => ?_)
    · replace h := h.1 c
      refine ex_iload_n (pc := 21) (fr_get fo_127_0 11 rfl) rfl ?_
      refine ex_iconst (pc := 22) (fr_get fo_127_0 12 rfl) ic_0 ?_
      refine ex_aload_n (pc := 23) (fr_get fo_127_0 13 rfl) rfl rfl ?_
      refine xv_gi (pc := 24) (fr_get fo_127_0 14 rfl) ow_127 fg_9_18_40 rfl ?_
      refine ex_iconst (pc := 27) (fr_get fo_127_0 15 rfl) ic_1 ?_
      refine ex_isub (pc := 28) (fr_get fo_127_1 0 rfl) ?_
      refine xv_ks1 (pc := 29) (fr_get fo_127_1 1 rfl) cc_127_3 (as := [.inl a1, .inl (0 : Int32), .inl ((I 40 0 1) - (1 : Int32))]) (rs := []) rfl rfl rfl rfl ?_
      refine sm_118 ?_
      refine ⟨_, rfl, ?_⟩
      refine xv_peq (pc := 32) (fr_get fo_127_1 2 rfl) (t := 59) rfl (fun c => ?_) (fun c => ?_)
      · replace h := h.1 c
        refine ex_bipush (pc := 59) (fr_get fo_127_2 0 rfl) bp_m100 ?_
        exact ex_ireturn (pc := 61) (fr_get fo_127_2 1 rfl) rt_127 rfl rfl (ma_end_mk h)
      · replace h := h.2 c
        refine ex_iload_n (pc := 35) (fr_get fo_127_1 3 rfl) rfl ?_
        refine ex_bipush (pc := 36) (fr_get fo_127_1 4 rfl) bp_6 ?_
        refine xv_cne (pc := 38) (fr_get fo_127_1 5 rfl) (t := 50) rfl (fun c => ?_) (fun c => ?_)
        · replace h := h.1 c
          refine ex_aload_n (pc := 50) (fr_get fo_127_1 11 rfl) rfl rfl ?_
          refine ex_gr (pc := 51) (fr_get fo_127_1 12 rfl) ow_127 fr_9_21_40 (q := (41, 0)) rfl ?_
          refine ex_iload_n (pc := 54) (fr_get fo_127_1 13 rfl) rfl ?_
          refine xv_iald (pc := 55) (fr_get fo_127_1 14 rfl) gk_41 (n := 6) (gn_41 ..) rfl rfl h.1 ?_
          replace h := h.2
          refine ex_goto (pc := 56) (fr_get fo_127_1 15 rfl) (t := 61) rfl ?_
          exact ex_ireturn (pc := 61) (fr_get fo_127_2 1 rfl) rt_127 rfl rfl (ma_end_mk h)
        · replace h := h.2 c
          refine ex_aload_n (pc := 41) (fr_get fo_127_1 6 rfl) rfl rfl ?_
          refine ex_gr (pc := 42) (fr_get fo_127_1 7 rfl) ow_127 fr_9_25_40 (q := (42, 0)) rfl ?_
          refine ex_iload_n (pc := 45) (fr_get fo_127_1 8 rfl) rfl ?_
          refine xv_iald (pc := 46) (fr_get fo_127_1 9 rfl) gk_42 (n := 6) (gn_42 ..) rfl rfl h.1 ?_
          replace h := h.2
          refine ex_goto (pc := 47) (fr_get fo_127_1 10 rfl) (t := 61) rfl ?_
          exact ex_ireturn (pc := 61) (fr_get fo_127_2 1 rfl) rt_127 rfl rfl (ma_end_mk h)
    · replace h := h.2 c
      refine ex_iload_n (pc := 15) (fr_get fo_127_0 8 rfl) rfl ?_
      refine ex_bipush (pc := 16) (fr_get fo_127_0 9 rfl) bp_8 ?_
      refine xv_cne (pc := 18) (fr_get fo_127_0 10 rfl) (t := 62) rfl (fun c => ?_) (fun c => ?_)
      · replace h := h.1 c
        refine ex_aload_n (pc := 62) (fr_get fo_127_2 2 rfl) rfl rfl ?_
        refine ex_iload_n (pc := 63) (fr_get fo_127_2 3 rfl) rfl ?_
        refine xv_kv1 (pc := 64) (fr_get fo_127_2 4 rfl) cc_127_53 (as := [.inr (.inr (40, 0)), .inl a1]) (rs := []) rfl rfl rfl rfl rfl ?_
        refine sm_123 rfl ?_
        refine ⟨_, rfl, ?_⟩
        refine xv_pne (pc := 67) (fr_get fo_127_2 5 rfl) (t := 73) rfl (fun c => ?_) (fun c => ?_)
        · replace h := h.1 c
          refine ex_iload_n (pc := 73) (fr_get fo_127_2 8 rfl) rfl ?_
          refine xv_ts (pc := 74) (fr_get fo_127_2 9 rfl) (l := [42, 49, 56, 63, 70, 84, 77]) rfl tk_127_74 ?_
          refine xv_tc (t := 116) ic_1 rfl (fun c => ?_) (fun c => ?_)
          · replace h := h.1 c
            refine ex_aload_n (pc := 116) (fr_get fo_127_2 10 rfl) rfl rfl ?_
            refine ex_gr (pc := 117) (fr_get fo_127_2 11 rfl) ow_127 fr_9_31_40 (q := (44, 0)) rfl ?_
            refine ex_iload_n (pc := 120) (fr_get fo_127_2 12 rfl) rfl ?_
            refine xv_iald (pc := 121) (fr_get fo_127_2 13 rfl) gk_44 (n := 9) (gn_44 ..) rfl rfl h.1 ?_
            replace h := h.2
            exact ex_ireturn (pc := 122) (fr_get fo_127_2 14 rfl) rt_127 rfl rfl (ma_end_mk h)
          · replace h := h.2 c
            refine xv_tc (t := 123) ic_2 rfl (fun c => ?_) (fun c => ?_)
            · replace h := h.1 c
              refine ex_aload_n (pc := 123) (fr_get fo_127_2 15 rfl) rfl rfl ?_
              refine ex_gr (pc := 124) (fr_get fo_127_3 0 rfl) ow_127 fr_9_34_40 (q := (45, 0)) rfl ?_
              refine ex_iload_n (pc := 127) (fr_get fo_127_3 1 rfl) rfl ?_
              refine xv_iald (pc := 128) (fr_get fo_127_3 2 rfl) gk_45 (n := 9) (gn_45 ..) rfl rfl h.1 ?_
              replace h := h.2
              exact ex_ireturn (pc := 129) (fr_get fo_127_3 3 rfl) rt_127 rfl rfl (ma_end_mk h)
            · replace h := h.2 c
              refine xv_tc (t := 130) ic_3 rfl (fun c => ?_) (fun c => ?_)
              · replace h := h.1 c
                refine ex_aload_n (pc := 130) (fr_get fo_127_3 4 rfl) rfl rfl ?_
                refine ex_gr (pc := 131) (fr_get fo_127_3 5 rfl) ow_127 fr_9_37_40 (q := (46, 0)) rfl ?_
                refine ex_iload_n (pc := 134) (fr_get fo_127_3 6 rfl) rfl ?_
                refine xv_iald (pc := 135) (fr_get fo_127_3 7 rfl) gk_46 (n := 9) (gn_46 ..) rfl rfl h.1 ?_
                replace h := h.2
                exact ex_ireturn (pc := 136) (fr_get fo_127_3 8 rfl) rt_127 rfl rfl (ma_end_mk h)
              · replace h := h.2 c
                refine xv_tc (t := 137) ic_4 rfl (fun c => ?_) (fun c => ?_)
                · replace h := h.1 c
                  refine ex_aload_n (pc := 137) (fr_get fo_127_3 9 rfl) rfl rfl ?_
                  refine ex_gr (pc := 138) (fr_get fo_127_3 10 rfl) ow_127 fr_9_40_40 (q := (47, 0)) rfl ?_
                  refine ex_iload_n (pc := 141) (fr_get fo_127_3 11 rfl) rfl ?_
                  refine xv_iald (pc := 142) (fr_get fo_127_3 12 rfl) gk_47 (n := 9) (gn_47 ..) rfl rfl h.1 ?_
                  replace h := h.2
                  exact ex_ireturn (pc := 143) (fr_get fo_127_3 13 rfl) rt_127 rfl rfl (ma_end_mk h)
                · replace h := h.2 c
                  refine xv_tc (t := 144) ic_5 rfl (fun c => ?_) (fun c => ?_)
                  · replace h := h.1 c
                    refine ex_aload_n (pc := 144) (fr_get fo_127_3 14 rfl) rfl rfl ?_
                    refine ex_gr (pc := 145) (fr_get fo_127_3 15 rfl) ow_127 fr_9_43_40 (q := (48, 0)) rfl ?_
                    refine ex_iload_n (pc := 148) (fr_get fo_127_4 0 rfl) rfl ?_
                    refine xv_iald (pc := 149) (fr_get fo_127_4 1 rfl) gk_48 (n := 9) (gn_48 ..) rfl rfl h.1 ?_
                    replace h := h.2
                    exact ex_ireturn (pc := 150) (fr_get fo_127_4 2 rfl) rt_127 rfl rfl (ma_end_mk h)
                  · replace h := h.2 c
                    refine xv_tc (t := 158) ic_6 rfl (fun c => ?_) (fun c => ?_)
                    · replace h := h.1 c
                      refine ex_bipush (pc := 158) (fr_get fo_127_4 8 rfl) bp_m100 ?_
                      exact ex_ireturn (pc := 160) (fr_get fo_127_4 9 rfl) rt_127 rfl rfl (ma_end_mk h)
                    · replace h := h.2 c
                      refine xv_tc (t := 151) ic_7 rfl (fun c => ?_) (fun c => ?_)
                      · replace h := h.1 c
                        refine ex_aload_n (pc := 151) (fr_get fo_127_4 3 rfl) rfl rfl ?_
                        refine ex_gr (pc := 152) (fr_get fo_127_4 4 rfl) ow_127 fr_9_28_40 (q := (43, 0)) rfl ?_
                        refine ex_iload_n (pc := 155) (fr_get fo_127_4 5 rfl) rfl ?_
                        refine xv_iald (pc := 156) (fr_get fo_127_4 6 rfl) gk_43 (n := 9) (gn_43 ..) rfl rfl h.1 ?_
                        replace h := h.2
                        exact ex_ireturn (pc := 157) (fr_get fo_127_4 7 rfl) rt_127 rfl rfl (ma_end_mk h)
                      · replace h := h.2 c
                        refine xv_tn (t := 158) rfl ?_
                        refine ex_bipush (pc := 158) (fr_get fo_127_4 8 rfl) bp_m100 ?_
                        exact ex_ireturn (pc := 160) (fr_get fo_127_4 9 rfl) rt_127 rfl rfl (ma_end_mk h)
        · replace h := h.2 c
          refine ex_bipush (pc := 70) (fr_get fo_127_2 6 rfl) bp_m100 ?_
          exact ex_ireturn (pc := 72) (fr_get fo_127_2 7 rfl) rt_127 rfl rfl (ma_end_mk h)
      · replace h := h.2 c
        refine ex_iload_n (pc := 21) (fr_get fo_127_0 11 rfl) rfl ?_
        refine ex_iconst (pc := 22) (fr_get fo_127_0 12 rfl) ic_0 ?_
        refine ex_aload_n (pc := 23) (fr_get fo_127_0 13 rfl) rfl rfl ?_
        refine xv_gi (pc := 24) (fr_get fo_127_0 14 rfl) ow_127 fg_9_18_40 rfl ?_
        refine ex_iconst (pc := 27) (fr_get fo_127_0 15 rfl) ic_1 ?_
        refine ex_isub (pc := 28) (fr_get fo_127_1 0 rfl) ?_
        refine xv_ks1 (pc := 29) (fr_get fo_127_1 1 rfl) cc_127_3 (as := [.inl a1, .inl (0 : Int32), .inl ((I 40 0 1) - (1 : Int32))]) (rs := []) rfl rfl rfl rfl ?_
        refine sm_118 ?_
        refine ⟨_, rfl, ?_⟩
        refine xv_peq (pc := 32) (fr_get fo_127_1 2 rfl) (t := 59) rfl (fun c => ?_) (fun c => ?_)
        · replace h := h.1 c
          refine ex_bipush (pc := 59) (fr_get fo_127_2 0 rfl) bp_m100 ?_
          exact ex_ireturn (pc := 61) (fr_get fo_127_2 1 rfl) rt_127 rfl rfl (ma_end_mk h)
        · replace h := h.2 c
          refine ex_iload_n (pc := 35) (fr_get fo_127_1 3 rfl) rfl ?_
          refine ex_bipush (pc := 36) (fr_get fo_127_1 4 rfl) bp_6 ?_
          refine xv_cne (pc := 38) (fr_get fo_127_1 5 rfl) (t := 50) rfl (fun c => ?_) (fun c => ?_)
          · replace h := h.1 c
            refine ex_aload_n (pc := 50) (fr_get fo_127_1 11 rfl) rfl rfl ?_
            refine ex_gr (pc := 51) (fr_get fo_127_1 12 rfl) ow_127 fr_9_21_40 (q := (41, 0)) rfl ?_
            refine ex_iload_n (pc := 54) (fr_get fo_127_1 13 rfl) rfl ?_
            refine xv_iald (pc := 55) (fr_get fo_127_1 14 rfl) gk_41 (n := 6) (gn_41 ..) rfl rfl h.1 ?_
            replace h := h.2
            refine ex_goto (pc := 56) (fr_get fo_127_1 15 rfl) (t := 61) rfl ?_
            exact ex_ireturn (pc := 61) (fr_get fo_127_2 1 rfl) rt_127 rfl rfl (ma_end_mk h)
          · replace h := h.2 c
            refine ex_aload_n (pc := 41) (fr_get fo_127_1 6 rfl) rfl rfl ?_
            refine ex_gr (pc := 42) (fr_get fo_127_1 7 rfl) ow_127 fr_9_25_40 (q := (42, 0)) rfl ?_
            refine ex_iload_n (pc := 45) (fr_get fo_127_1 8 rfl) rfl ?_
            refine xv_iald (pc := 46) (fr_get fo_127_1 9 rfl) gk_42 (n := 6) (gn_42 ..) rfl rfl h.1 ?_
            replace h := h.2
            refine ex_goto (pc := 47) (fr_get fo_127_1 10 rfl) (t := 61) rfl ?_
            exact ex_ireturn (pc := 61) (fr_get fo_127_2 1 rfl) rt_127 rfl rfl (ma_end_mk h)
  · replace h := h.2 c
    refine ex_aload_n (pc := 4) (fr_get fo_127_0 2 rfl) rfl rfl ?_
    refine xv_gi (pc := 5) (fr_get fo_127_0 3 rfl) ow_127 fg_9_50_40 rfl ?_
    exact ex_ireturn (pc := 8) (fr_get fo_127_0 4 rfl) rt_127 rfl rfl (ma_end_mk h)

theorem e_128 {d : Nat} {I : ma_I} {o : Nat} {Q : ma_Q} {a1 : Int32} {a2 : Int32} {a3 : Int32}
  (h :
    (a1 = (0 : Int32) →
      Q (some (.inl (xv_b ((1 : Int32) ≤ a3 ∧ a3 ≤ (20 : Int32))))) I o) ∧
    (a1 ≠ (0 : Int32) →
      (a1 = (1 : Int32) →
        Q (some (.inl (xv_b ((0 : Int32) ≤ a3 ∧ a3 ≤ (9 : Int32))))) I o) ∧
      (a1 ≠ (1 : Int32) →
        (a1 = (2 : Int32) →
          (¬((0 : Int32) ≤ a3 ∧ a3 ≤ (7 : Int32)) →
            Q (some (.inl (0 : Int32))) I o) ∧
          ((0 : Int32) ≤ a3 ∧ a3 ≤ (7 : Int32) →
            ma_in a2 9 ∧
            (a3 = I 46 0 a2.toNatClampNeg →
              Q (some (.inl (0 : Int32))) I o) ∧
            (a3 ≠ I 46 0 a2.toNatClampNeg →
              Q (some (.inl (1 : Int32))) I o))) ∧
        (a1 ≠ (2 : Int32) →
          (a1 = (3 : Int32) →
            (¬((0 : Int32) ≤ a3 ∧ a3 ≤ (7 : Int32)) →
              Q (some (.inl (0 : Int32))) I o) ∧
            ((0 : Int32) ≤ a3 ∧ a3 ≤ (7 : Int32) →
              ma_in a2 9 ∧
              (a3 = I 45 0 a2.toNatClampNeg →
                Q (some (.inl (0 : Int32))) I o) ∧
              (a3 ≠ I 45 0 a2.toNatClampNeg →
                Q (some (.inl (1 : Int32))) I o))) ∧
          (a1 ≠ (3 : Int32) →
            (a1 = (4 : Int32) →
              ma_in a2 9 ∧
              Q (some (.inl (xv_b ((0 : Int32) ≤ a3 ∧ a3 ≤ (I 48 0 a2.toNatClampNeg))))) I o) ∧
            (a1 ≠ (4 : Int32) →
              (a1 = (5 : Int32) →
                ma_in a2 9 ∧
                Q (some (.inl (xv_b ((I 47 0 a2.toNatClampNeg) ≤ a3 ∧ a3 ≤ (99 : Int32))))) I o) ∧
              (a1 ≠ (5 : Int32) →
                Q (some (.inl (xv_b ((0 : Int32) ≤ a3 ∧ a3 ≤ (7 : Int32))))) I o))))))) :
  Exm (d + 2) 128 [.inr (.inr (40, 0)), .inl a1, .inl a2, .inl a3] I o Q := by
  show Ex (d + 2) 128 (0, [some (.inr (.inr (40, 0))), some (.inl a1), some (.inl a2), some (.inl a3)], [], ma_mem I o, 0, 0) (ma_end Q)
  refine ex_iload_n (pc := 0) (fr_get fo_128_0 0 rfl) rfl ?_
  refine xv_ts (pc := 1) (fr_get fo_128_0 1 rfl) (l := [39, 47, 55, 78, 101, 113]) rfl tk_128_1 ?_
  refine xv_tc (t := 40) ic_0 rfl (fun c => ?_) (fun c => ?_)
  · replace h := h.1 c
    refine ex_iload_n (pc := 40) (fr_get fo_128_0 2 rfl) rfl ?_
    refine ex_iconst (pc := 41) (fr_get fo_128_0 3 rfl) ic_1 ?_
    refine ex_bipush (pc := 42) (fr_get fo_128_0 4 rfl) bp_20 ?_
    refine xv_ks1 (pc := 44) (fr_get fo_128_0 5 rfl) cc_128_3 (as := [.inl a3, .inl (1 : Int32), .inl (20 : Int32)]) (rs := []) rfl rfl rfl rfl ?_
    refine sm_118 ?_
    refine ⟨_, rfl, ?_⟩
    exact ex_zreturn (pc := 47) (fr_get fo_128_0 6 rfl) rt_128 rfl rfl ⟨xv_b01, ma_end_mk h⟩
  · replace h := h.2 c
    refine xv_tc (t := 48) ic_1 rfl (fun c => ?_) (fun c => ?_)
    · replace h := h.1 c
      refine ex_iload_n (pc := 48) (fr_get fo_128_0 7 rfl) rfl ?_
      refine ex_iconst (pc := 49) (fr_get fo_128_0 8 rfl) ic_0 ?_
      refine ex_bipush (pc := 50) (fr_get fo_128_0 9 rfl) bp_9 ?_
      refine xv_ks1 (pc := 52) (fr_get fo_128_0 10 rfl) cc_128_3 (as := [.inl a3, .inl (0 : Int32), .inl (9 : Int32)]) (rs := []) rfl rfl rfl rfl ?_
      refine sm_118 ?_
      refine ⟨_, rfl, ?_⟩
      exact ex_zreturn (pc := 55) (fr_get fo_128_0 11 rfl) rt_128 rfl rfl ⟨xv_b01, ma_end_mk h⟩
    · replace h := h.2 c
      refine xv_tc (t := 56) ic_2 rfl (fun c => ?_) (fun c => ?_)
      · replace h := h.1 c
        refine ex_iload_n (pc := 56) (fr_get fo_128_0 12 rfl) rfl ?_
        refine xv_ks1 (pc := 57) (fr_get fo_128_0 13 rfl) cc_128_15 (as := [.inl a3]) (rs := []) rfl rfl rfl rfl ?_
        refine sm_121 ?_
        refine ⟨_, rfl, ?_⟩
        refine xv_peq (pc := 60) (fr_get fo_128_0 14 rfl) (t := 77) rfl (fun c => ?_) (fun c => ?_)
        · replace h := h.1 c
          refine ex_iconst (pc := 77) (fr_get fo_128_1 7 rfl) ic_0 ?_
          exact ex_zreturn (pc := 78) (fr_get fo_128_1 8 rfl) rt_128 rfl rfl ⟨Or.inl rfl, ma_end_mk h⟩
        · replace h := h.2 c
          refine ex_iload_n (pc := 63) (fr_get fo_128_0 15 rfl) rfl ?_
          refine ex_aload_n (pc := 64) (fr_get fo_128_1 0 rfl) rfl rfl ?_
          refine ex_gr (pc := 65) (fr_get fo_128_1 1 rfl) ow_128 fr_9_37_40 (q := (46, 0)) rfl ?_
          refine ex_iload_n (pc := 68) (fr_get fo_128_1 2 rfl) rfl ?_
          refine xv_iald (pc := 69) (fr_get fo_128_1 3 rfl) gk_46 (n := 9) (gn_46 ..) rfl rfl h.1 ?_
          replace h := h.2
          refine xv_ceq (pc := 70) (fr_get fo_128_1 4 rfl) (t := 77) rfl (fun c => ?_) (fun c => ?_)
          · replace h := h.1 c
            refine ex_iconst (pc := 77) (fr_get fo_128_1 7 rfl) ic_0 ?_
            exact ex_zreturn (pc := 78) (fr_get fo_128_1 8 rfl) rt_128 rfl rfl ⟨Or.inl rfl, ma_end_mk h⟩
          · replace h := h.2 c
            refine ex_iconst (pc := 73) (fr_get fo_128_1 5 rfl) ic_1 ?_
            refine ex_goto (pc := 74) (fr_get fo_128_1 6 rfl) (t := 78) rfl ?_
            exact ex_zreturn (pc := 78) (fr_get fo_128_1 8 rfl) rt_128 rfl rfl ⟨Or.inr rfl, ma_end_mk h⟩
      · replace h := h.2 c
        refine xv_tc (t := 79) ic_3 rfl (fun c => ?_) (fun c => ?_)
        · replace h := h.1 c
          refine ex_iload_n (pc := 79) (fr_get fo_128_1 9 rfl) rfl ?_
          refine xv_ks1 (pc := 80) (fr_get fo_128_1 10 rfl) cc_128_15 (as := [.inl a3]) (rs := []) rfl rfl rfl rfl ?_
          refine sm_121 ?_
          refine ⟨_, rfl, ?_⟩
          refine xv_peq (pc := 83) (fr_get fo_128_1 11 rfl) (t := 100) rfl (fun c => ?_) (fun c => ?_)
          · replace h := h.1 c
            refine ex_iconst (pc := 100) (fr_get fo_128_2 4 rfl) ic_0 ?_
            exact ex_zreturn (pc := 101) (fr_get fo_128_2 5 rfl) rt_128 rfl rfl ⟨Or.inl rfl, ma_end_mk h⟩
          · replace h := h.2 c
            refine ex_iload_n (pc := 86) (fr_get fo_128_1 12 rfl) rfl ?_
            refine ex_aload_n (pc := 87) (fr_get fo_128_1 13 rfl) rfl rfl ?_
            refine ex_gr (pc := 88) (fr_get fo_128_1 14 rfl) ow_128 fr_9_34_40 (q := (45, 0)) rfl ?_
            refine ex_iload_n (pc := 91) (fr_get fo_128_1 15 rfl) rfl ?_
            refine xv_iald (pc := 92) (fr_get fo_128_2 0 rfl) gk_45 (n := 9) (gn_45 ..) rfl rfl h.1 ?_
            replace h := h.2
            refine xv_ceq (pc := 93) (fr_get fo_128_2 1 rfl) (t := 100) rfl (fun c => ?_) (fun c => ?_)
            · replace h := h.1 c
              refine ex_iconst (pc := 100) (fr_get fo_128_2 4 rfl) ic_0 ?_
              exact ex_zreturn (pc := 101) (fr_get fo_128_2 5 rfl) rt_128 rfl rfl ⟨Or.inl rfl, ma_end_mk h⟩
            · replace h := h.2 c
              refine ex_iconst (pc := 96) (fr_get fo_128_2 2 rfl) ic_1 ?_
              refine ex_goto (pc := 97) (fr_get fo_128_2 3 rfl) (t := 101) rfl ?_
              exact ex_zreturn (pc := 101) (fr_get fo_128_2 5 rfl) rt_128 rfl rfl ⟨Or.inr rfl, ma_end_mk h⟩
        · replace h := h.2 c
          refine xv_tc (t := 102) ic_4 rfl (fun c => ?_) (fun c => ?_)
          · replace h := h.1 c
            refine ex_iload_n (pc := 102) (fr_get fo_128_2 6 rfl) rfl ?_
            refine ex_iconst (pc := 103) (fr_get fo_128_2 7 rfl) ic_0 ?_
            refine ex_aload_n (pc := 104) (fr_get fo_128_2 8 rfl) rfl rfl ?_
            refine ex_gr (pc := 105) (fr_get fo_128_2 9 rfl) ow_128 fr_9_43_40 (q := (48, 0)) rfl ?_
            refine ex_iload_n (pc := 108) (fr_get fo_128_2 10 rfl) rfl ?_
            refine xv_iald (pc := 109) (fr_get fo_128_2 11 rfl) gk_48 (n := 9) (gn_48 ..) rfl rfl h.1 ?_
            replace h := h.2
            refine xv_ks1 (pc := 110) (fr_get fo_128_2 12 rfl) cc_128_3 (as := [.inl a3, .inl (0 : Int32), .inl (I 48 0 a2.toNatClampNeg)]) (rs := []) rfl rfl rfl rfl ?_
            refine sm_118 ?_
            refine ⟨_, rfl, ?_⟩
            exact ex_zreturn (pc := 113) (fr_get fo_128_2 13 rfl) rt_128 rfl rfl ⟨xv_b01, ma_end_mk h⟩
          · replace h := h.2 c
            refine xv_tc (t := 114) ic_5 rfl (fun c => ?_) (fun c => ?_)
            · replace h := h.1 c
              refine ex_iload_n (pc := 114) (fr_get fo_128_2 14 rfl) rfl ?_
              refine ex_aload_n (pc := 115) (fr_get fo_128_2 15 rfl) rfl rfl ?_
              refine ex_gr (pc := 116) (fr_get fo_128_3 0 rfl) ow_128 fr_9_40_40 (q := (47, 0)) rfl ?_
              refine ex_iload_n (pc := 119) (fr_get fo_128_3 1 rfl) rfl ?_
              refine xv_iald (pc := 120) (fr_get fo_128_3 2 rfl) gk_47 (n := 9) (gn_47 ..) rfl rfl h.1 ?_
              replace h := h.2
              refine ex_bipush (pc := 121) (fr_get fo_128_3 3 rfl) bp_99 ?_
              refine xv_ks1 (pc := 123) (fr_get fo_128_3 4 rfl) cc_128_3 (as := [.inl a3, .inl (I 47 0 a2.toNatClampNeg), .inl (99 : Int32)]) (rs := []) rfl rfl rfl rfl ?_
              refine sm_118 ?_
              refine ⟨_, rfl, ?_⟩
              exact ex_zreturn (pc := 126) (fr_get fo_128_3 5 rfl) rt_128 rfl rfl ⟨xv_b01, ma_end_mk h⟩
            · replace h := h.2 c
              refine xv_tn (t := 127) rfl ?_
              refine ex_iload_n (pc := 127) (fr_get fo_128_3 6 rfl) rfl ?_
              refine xv_ks1 (pc := 128) (fr_get fo_128_3 7 rfl) cc_128_15 (as := [.inl a3]) (rs := []) rfl rfl rfl rfl ?_
              refine sm_121 ?_
              refine ⟨_, rfl, ?_⟩
              exact ex_zreturn (pc := 131) (fr_get fo_128_3 8 rfl) rt_128 rfl rfl ⟨xv_b01, ma_end_mk h⟩

theorem e_129 {d : Nat} {I : ma_I} {o : Nat} {Q : ma_Q} {a1 : Int32} {a2 : Int32} {a3 : Int32}
  (h :
    (¬((0 : Int32) ≤ a1 ∧ a1 ≤ (6 : Int32)) →
      Q (some (.inl (-100 : Int32))) I o) ∧
    ((0 : Int32) ≤ a1 ∧ a1 ≤ (6 : Int32) →
      Exm (d) 127 [.inr (.inr (40, 0)), .inl a2, .inl a1] I o (fun r J1 p2 => ∃ x3 : Int32, r = some (.inl x3) ∧
        (x3 = (-100 : Int32) →
          Q (some (.inl (-100 : Int32))) J1 p2) ∧
        (x3 ≠ (-100 : Int32) →
          Exm (d) 128 [.inr (.inr (40, 0)), .inl a1, .inl a2, .inl a3] J1 p2 (fun r J4 p5 => ∃ x6 : Int32, r = some (.inl x6) ∧
            (x6 ≠ 0 →
              (a1 = (0 : Int32) →
                Q (some (.inl x3)) (ma_up J4 40 0 0 a3) p5) ∧
              (a1 ≠ (0 : Int32) →
                (a1 = (1 : Int32) →
                  ma_in a2 9 ∧
                  Q (some (.inl x3)) (ma_up J4 44 0 a2.toNatClampNeg a3) p5) ∧
                (a1 ≠ (1 : Int32) →
                  (a1 = (2 : Int32) →
                    ma_in a2 9 ∧
                    Q (some (.inl x3)) (ma_up J4 45 0 a2.toNatClampNeg a3) p5) ∧
                  (a1 ≠ (2 : Int32) →
                    (a1 = (3 : Int32) →
                      ma_in a2 9 ∧
                      Q (some (.inl x3)) (ma_up J4 46 0 a2.toNatClampNeg a3) p5) ∧
                    (a1 ≠ (3 : Int32) →
                      (a1 = (4 : Int32) →
                        ma_in a2 9 ∧
                        Q (some (.inl x3)) (ma_up J4 47 0 a2.toNatClampNeg a3) p5) ∧
                      (a1 ≠ (4 : Int32) →
                        (a1 = (5 : Int32) →
                          ma_in a2 9 ∧
                          Q (some (.inl x3)) (ma_up J4 48 0 a2.toNatClampNeg a3) p5) ∧
                        (a1 ≠ (5 : Int32) →
                          ma_in a2 6 ∧
                          Q (some (.inl x3)) (ma_up J4 42 0 a2.toNatClampNeg a3) p5))))))) ∧
            (x6 = 0 →
              Q (some (.inl (-100 : Int32))) J4 p5)))))) :
  Exm (d + 1) 129 [.inr (.inr (40, 0)), .inl a1, .inl a2, .inl a3] I o Q := by
  show Ex (d + 1) 129 (0, [some (.inr (.inr (40, 0))), some (.inl a1), some (.inl a2), some (.inl a3), none], [], ma_mem I o, 0, 0) (ma_end Q)
  refine ex_iload_n (pc := 0) (fr_get fo_129_0 0 rfl) rfl ?_
  refine ex_iconst (pc := 1) (fr_get fo_129_0 1 rfl) ic_0 ?_
  refine ex_bipush (pc := 2) (fr_get fo_129_0 2 rfl) bp_6 ?_
  refine xv_ks1 (pc := 4) (fr_get fo_129_0 3 rfl) cc_129_3 (as := [.inl a1, .inl (0 : Int32), .inl (6 : Int32)]) (rs := []) rfl rfl rfl rfl ?_
  refine sm_118 ?_
  refine ⟨_, rfl, ?_⟩
  refine xv_peq (pc := 7) (fr_get fo_129_0 4 rfl) (t := 19) rfl (fun c => ?_) (fun c => ?_)
  · replace h := h.1 c
    refine ex_bipush (pc := 19) (fr_get fo_129_0 10 rfl) bp_m100 ?_
    refine ex_istore (pc := 21) (fr_get fo_129_0 11 rfl) rfl (L' := [some (.inr (.inr (40, 0))), some (.inl a1), some (.inl a2), some (.inl a3), some (.inl (-100 : Int32))]) rfl ?_
    refine ex_iload (pc := 23) (fr_get fo_129_0 12 rfl) rfl ?_
    refine ex_bipush (pc := 25) (fr_get fo_129_0 13 rfl) bp_m100 ?_
    refine xv_ct (pc := 27) (fr_get fo_129_0 14 rfl) (t := 40) rfl k2_eq_m100_m100 ?_
    refine ex_bipush (pc := 40) (fr_get fo_129_1 5 rfl) bp_m100 ?_
    exact ex_ireturn (pc := 42) (fr_get fo_129_1 6 rfl) rt_129 rfl rfl (ma_end_mk h)
  · replace h := h.2 c
    refine ex_aload_n (pc := 10) (fr_get fo_129_0 5 rfl) rfl rfl ?_
    refine ex_iload_n (pc := 11) (fr_get fo_129_0 6 rfl) rfl ?_
    refine ex_iload_n (pc := 12) (fr_get fo_129_0 7 rfl) rfl ?_
    refine xv_kv1 (pc := 13) (fr_get fo_129_0 8 rfl) cc_129_56 (as := [.inr (.inr (40, 0)), .inl a2, .inl a1]) (rs := []) rfl rfl rfl rfl rfl ?_
    refine h.mono (fun r J1 p2 h => ?_)
    obtain ⟨x3, hr, h⟩ := h
    refine ⟨x3, hr, ?_⟩
    refine ex_goto (pc := 16) (fr_get fo_129_0 9 rfl) (t := 21) rfl ?_
    refine ex_istore (pc := 21) (fr_get fo_129_0 11 rfl) rfl (L' := [some (.inr (.inr (40, 0))), some (.inl a1), some (.inl a2), some (.inl a3), some (.inl x3)]) rfl ?_
    refine ex_iload (pc := 23) (fr_get fo_129_0 12 rfl) rfl ?_
    refine ex_bipush (pc := 25) (fr_get fo_129_0 13 rfl) bp_m100 ?_
    refine xv_ceq (pc := 27) (fr_get fo_129_0 14 rfl) (t := 40) rfl (fun c => ?_) (fun c => ?_)
    · replace h := h.1 c
      refine ex_bipush (pc := 40) (fr_get fo_129_1 5 rfl) bp_m100 ?_
      exact ex_ireturn (pc := 42) (fr_get fo_129_1 6 rfl) rt_129 rfl rfl (ma_end_mk h)
    · replace h := h.2 c
      refine ex_aload_n (pc := 30) (fr_get fo_129_0 15 rfl) rfl rfl ?_
      refine ex_iload_n (pc := 31) (fr_get fo_129_1 0 rfl) rfl ?_
      refine ex_iload_n (pc := 32) (fr_get fo_129_1 1 rfl) rfl ?_
      refine ex_iload_n (pc := 33) (fr_get fo_129_1 2 rfl) rfl ?_
      refine xv_kv1 (pc := 34) (fr_get fo_129_1 3 rfl) cc_129_60 (as := [.inr (.inr (40, 0)), .inl a1, .inl a2, .inl a3]) (rs := []) rfl rfl rfl rfl rfl ?_
      refine h.mono (fun r J4 p5 h => ?_)
      obtain ⟨x6, hr, h⟩ := h
      refine ⟨x6, hr, ?_⟩
      refine xv_bne (pc := 37) (fr_get fo_129_1 4 rfl) (t := 43) rfl (fun c => ?_) (fun c => ?_)
      · replace h := h.1 c
        refine ex_iload_n (pc := 43) (fr_get fo_129_1 7 rfl) rfl ?_
        refine xv_ts (pc := 44) (fr_get fo_129_1 8 rfl) (l := [40, 48, 58, 68, 78, 88]) rfl tk_129_44 ?_
        refine xv_tc (t := 84) ic_0 rfl (fun c => ?_) (fun c => ?_)
        · replace h := h.1 c
          refine ex_aload_n (pc := 84) (fr_get fo_129_1 9 rfl) rfl rfl ?_
          refine ex_iload_n (pc := 85) (fr_get fo_129_1 10 rfl) rfl ?_
          refine ex_pi (pc := 86) (fr_get fo_129_1 11 rfl) ow_129 fp_9_50_40 ?_
          refine ex_goto (pc := 89) (fr_get fo_129_1 12 rfl) (t := 149) rfl ?_
          refine ex_iload (pc := 149) (fr_get fo_129_4 0 rfl) rfl ?_
          exact ex_ireturn (pc := 151) (fr_get fo_129_4 1 rfl) rt_129 rfl rfl (ma_end_mk h)
        · replace h := h.2 c
          refine xv_tc (t := 92) ic_1 rfl (fun c => ?_) (fun c => ?_)
          · replace h := h.1 c
            refine ex_aload_n (pc := 92) (fr_get fo_129_1 13 rfl) rfl rfl ?_
            refine ex_gr (pc := 93) (fr_get fo_129_1 14 rfl) ow_129 fr_9_31_40 (q := (44, 0)) rfl ?_
            refine ex_iload_n (pc := 96) (fr_get fo_129_1 15 rfl) rfl ?_
            refine ex_iload_n (pc := 97) (fr_get fo_129_2 0 rfl) rfl ?_
            refine xv_iast (pc := 98) (fr_get fo_129_2 1 rfl) gs_44 gl_44 rfl h.1 ?_
            replace h := h.2
            refine ex_goto (pc := 99) (fr_get fo_129_2 2 rfl) (t := 149) rfl ?_
            refine ex_iload (pc := 149) (fr_get fo_129_4 0 rfl) rfl ?_
            exact ex_ireturn (pc := 151) (fr_get fo_129_4 1 rfl) rt_129 rfl rfl (ma_end_mk h)
          · replace h := h.2 c
            refine xv_tc (t := 102) ic_2 rfl (fun c => ?_) (fun c => ?_)
            · replace h := h.1 c
              refine ex_aload_n (pc := 102) (fr_get fo_129_2 3 rfl) rfl rfl ?_
              refine ex_gr (pc := 103) (fr_get fo_129_2 4 rfl) ow_129 fr_9_34_40 (q := (45, 0)) rfl ?_
              refine ex_iload_n (pc := 106) (fr_get fo_129_2 5 rfl) rfl ?_
              refine ex_iload_n (pc := 107) (fr_get fo_129_2 6 rfl) rfl ?_
              refine xv_iast (pc := 108) (fr_get fo_129_2 7 rfl) gs_45 gl_45 rfl h.1 ?_
              replace h := h.2
              refine ex_goto (pc := 109) (fr_get fo_129_2 8 rfl) (t := 149) rfl ?_
              refine ex_iload (pc := 149) (fr_get fo_129_4 0 rfl) rfl ?_
              exact ex_ireturn (pc := 151) (fr_get fo_129_4 1 rfl) rt_129 rfl rfl (ma_end_mk h)
            · replace h := h.2 c
              refine xv_tc (t := 112) ic_3 rfl (fun c => ?_) (fun c => ?_)
              · replace h := h.1 c
                refine ex_aload_n (pc := 112) (fr_get fo_129_2 9 rfl) rfl rfl ?_
                refine ex_gr (pc := 113) (fr_get fo_129_2 10 rfl) ow_129 fr_9_37_40 (q := (46, 0)) rfl ?_
                refine ex_iload_n (pc := 116) (fr_get fo_129_2 11 rfl) rfl ?_
                refine ex_iload_n (pc := 117) (fr_get fo_129_2 12 rfl) rfl ?_
                refine xv_iast (pc := 118) (fr_get fo_129_2 13 rfl) gs_46 gl_46 rfl h.1 ?_
                replace h := h.2
                refine ex_goto (pc := 119) (fr_get fo_129_2 14 rfl) (t := 149) rfl ?_
                refine ex_iload (pc := 149) (fr_get fo_129_4 0 rfl) rfl ?_
                exact ex_ireturn (pc := 151) (fr_get fo_129_4 1 rfl) rt_129 rfl rfl (ma_end_mk h)
              · replace h := h.2 c
                refine xv_tc (t := 122) ic_4 rfl (fun c => ?_) (fun c => ?_)
                · replace h := h.1 c
                  refine ex_aload_n (pc := 122) (fr_get fo_129_2 15 rfl) rfl rfl ?_
                  refine ex_gr (pc := 123) (fr_get fo_129_3 0 rfl) ow_129 fr_9_40_40 (q := (47, 0)) rfl ?_
                  refine ex_iload_n (pc := 126) (fr_get fo_129_3 1 rfl) rfl ?_
                  refine ex_iload_n (pc := 127) (fr_get fo_129_3 2 rfl) rfl ?_
                  refine xv_iast (pc := 128) (fr_get fo_129_3 3 rfl) gs_47 gl_47 rfl h.1 ?_
                  replace h := h.2
                  refine ex_goto (pc := 129) (fr_get fo_129_3 4 rfl) (t := 149) rfl ?_
                  refine ex_iload (pc := 149) (fr_get fo_129_4 0 rfl) rfl ?_
                  exact ex_ireturn (pc := 151) (fr_get fo_129_4 1 rfl) rt_129 rfl rfl (ma_end_mk h)
                · replace h := h.2 c
                  refine xv_tc (t := 132) ic_5 rfl (fun c => ?_) (fun c => ?_)
                  · replace h := h.1 c
                    refine ex_aload_n (pc := 132) (fr_get fo_129_3 5 rfl) rfl rfl ?_
                    refine ex_gr (pc := 133) (fr_get fo_129_3 6 rfl) ow_129 fr_9_43_40 (q := (48, 0)) rfl ?_
                    refine ex_iload_n (pc := 136) (fr_get fo_129_3 7 rfl) rfl ?_
                    refine ex_iload_n (pc := 137) (fr_get fo_129_3 8 rfl) rfl ?_
                    refine xv_iast (pc := 138) (fr_get fo_129_3 9 rfl) gs_48 gl_48 rfl h.1 ?_
                    replace h := h.2
                    refine ex_goto (pc := 139) (fr_get fo_129_3 10 rfl) (t := 149) rfl ?_
                    refine ex_iload (pc := 149) (fr_get fo_129_4 0 rfl) rfl ?_
                    exact ex_ireturn (pc := 151) (fr_get fo_129_4 1 rfl) rt_129 rfl rfl (ma_end_mk h)
                  · replace h := h.2 c
                    refine xv_tn (t := 142) rfl ?_
                    refine ex_aload_n (pc := 142) (fr_get fo_129_3 11 rfl) rfl rfl ?_
                    refine ex_gr (pc := 143) (fr_get fo_129_3 12 rfl) ow_129 fr_9_25_40 (q := (42, 0)) rfl ?_
                    refine ex_iload_n (pc := 146) (fr_get fo_129_3 13 rfl) rfl ?_
                    refine ex_iload_n (pc := 147) (fr_get fo_129_3 14 rfl) rfl ?_
                    refine xv_iast (pc := 148) (fr_get fo_129_3 15 rfl) gs_42 gl_42 rfl h.1 ?_
                    replace h := h.2
                    refine ex_iload (pc := 149) (fr_get fo_129_4 0 rfl) rfl ?_
                    exact ex_ireturn (pc := 151) (fr_get fo_129_4 1 rfl) rt_129 rfl rfl (ma_end_mk h)
      · replace h := h.2 c
        refine ex_bipush (pc := 40) (fr_get fo_129_1 5 rfl) bp_m100 ?_
        exact ex_ireturn (pc := 42) (fr_get fo_129_1 6 rfl) rt_129 rfl rfl (ma_end_mk h)

theorem e_130 {d : Nat} {I : ma_I} {o : Nat} {Q : ma_Q} {a1 : Int32}
  (h :
    Ex (d) 130 (4, [some (.inr (.inr (40, 0))), some (.inl a1), some (.inl (0 : Int32)), some (.inl (0 : Int32))], [], ma_mem I o, 0, 0) (ma_end Q)) :
  Exm (d) 130 [.inr (.inr (40, 0)), .inl a1] I o Q := by
  show Ex (d) 130 (0, [some (.inr (.inr (40, 0))), some (.inl a1), none, none], [], ma_mem I o, 0, 0) (ma_end Q)
  refine ex_iconst (pc := 0) (fr_get fo_130_0 0 rfl) ic_0 ?_
  refine ex_istore_n (pc := 1) (fr_get fo_130_0 1 rfl) rfl (L' := [some (.inr (.inr (40, 0))), some (.inl a1), some (.inl (0 : Int32)), none]) rfl ?_
  refine ex_iconst (pc := 2) (fr_get fo_130_0 2 rfl) ic_0 ?_
  refine ex_istore_n (pc := 3) (fr_get fo_130_0 3 rfl) rfl (L' := [some (.inr (.inr (40, 0))), some (.inl a1), some (.inl (0 : Int32)), some (.inl (0 : Int32))]) rfl ?_
  exact h

theorem b_130_4 {d : Nat} {I : ma_I} {o : Nat} {Q : ma_Q} {v1 : Int32} {v2 : Int32} {v3 : Int32}
  (h :
    (I 40 0 1 ≤ v3 →
      Q (some (.inl v2)) I o) ∧
    (v3 < I 40 0 1 →
      ma_in v3 6 ∧
      (v1 < I 41 0 v3.toNatClampNeg →
        Ex (d) 130 (4, [some (.inr (.inr (40, 0))), some (.inl v1), some (.inl v2), some (.inl (v3 + (1 : Int32)))], [], ma_mem I o, 0, 0) (ma_end Q)) ∧
      (I 41 0 v3.toNatClampNeg ≤ v1 →
        ma_in v3 6 ∧
        Ex (d) 130 (4, [some (.inr (.inr (40, 0))), some (.inl v1), some (.inl (I 42 0 v3.toNatClampNeg)), some (.inl (v3 + (1 : Int32)))], [], ma_mem I o, 0, 0) (ma_end Q)))) :
  Ex (d) 130 (4, [some (.inr (.inr (40, 0))), some (.inl v1), some (.inl v2), some (.inl v3)], [], ma_mem I o, 0, 0) (ma_end Q) := by
  refine ex_iload_n (pc := 4) (fr_get fo_130_0 4 rfl) rfl ?_
  refine ex_aload_n (pc := 5) (fr_get fo_130_0 5 rfl) rfl rfl ?_
  refine xv_gi (pc := 6) (fr_get fo_130_0 6 rfl) ow_130 fg_9_18_40 rfl ?_
  refine xv_cge (pc := 9) (fr_get fo_130_0 7 rfl) (t := 39) rfl (fun c => ?_) (fun c => ?_)
  · replace h := h.1 c
    refine ex_iload_n (pc := 39) (fr_get fo_130_1 7 rfl) rfl ?_
    exact ex_ireturn (pc := 40) (fr_get fo_130_1 8 rfl) rt_130 rfl rfl (ma_end_mk h)
  · replace h := h.2 c
    refine ex_aload_n (pc := 12) (fr_get fo_130_0 8 rfl) rfl rfl ?_
    refine ex_gr (pc := 13) (fr_get fo_130_0 9 rfl) ow_130 fr_9_21_40 (q := (41, 0)) rfl ?_
    refine ex_iload_n (pc := 16) (fr_get fo_130_0 10 rfl) rfl ?_
    refine xv_iald (pc := 17) (fr_get fo_130_0 11 rfl) gk_41 (n := 6) (gn_41 ..) rfl rfl h.1 ?_
    replace h := h.2
    refine ex_iload_n (pc := 18) (fr_get fo_130_0 12 rfl) rfl ?_
    refine xv_cgt (pc := 19) (fr_get fo_130_0 13 rfl) (t := 31) rfl (fun c => ?_) (fun c => ?_)
    · replace h := h.1 c
      refine ex_iload_n (pc := 31) (fr_get fo_130_1 3 rfl) rfl ?_
      refine ex_istore_n (pc := 32) (fr_get fo_130_1 4 rfl) rfl (L' := [some (.inr (.inr (40, 0))), some (.inl v1), some (.inl v2), some (.inl v3)]) rfl ?_
      refine xv_iinc (pc := 33) (fr_get fo_130_1 5 rfl) rfl ic_1 (L' := [some (.inr (.inr (40, 0))), some (.inl v1), some (.inl v2), some (.inl (v3 + (1 : Int32)))]) rfl ?_
      refine ex_goto (pc := 36) (fr_get fo_130_1 6 rfl) (t := 4) rfl ?_
      exact h
    · replace h := h.2 c
      refine ex_aload_n (pc := 22) (fr_get fo_130_0 14 rfl) rfl rfl ?_
      refine ex_gr (pc := 23) (fr_get fo_130_0 15 rfl) ow_130 fr_9_25_40 (q := (42, 0)) rfl ?_
      refine ex_iload_n (pc := 26) (fr_get fo_130_1 0 rfl) rfl ?_
      refine xv_iald (pc := 27) (fr_get fo_130_1 1 rfl) gk_42 (n := 6) (gn_42 ..) rfl rfl h.1 ?_
      replace h := h.2
      refine ex_goto (pc := 28) (fr_get fo_130_1 2 rfl) (t := 32) rfl ?_
      refine ex_istore_n (pc := 32) (fr_get fo_130_1 4 rfl) rfl (L' := [some (.inr (.inr (40, 0))), some (.inl v1), some (.inl (I 42 0 v3.toNatClampNeg)), some (.inl v3)]) rfl ?_
      refine xv_iinc (pc := 33) (fr_get fo_130_1 5 rfl) rfl ic_1 (L' := [some (.inr (.inr (40, 0))), some (.inl v1), some (.inl (I 42 0 v3.toNatClampNeg)), some (.inl (v3 + (1 : Int32)))]) rfl ?_
      refine ex_goto (pc := 36) (fr_get fo_130_1 6 rfl) (t := 4) rfl ?_
      exact h

theorem e_131 {d : Nat} {I : ma_I} {o : Nat} {Q : ma_Q} {a1 : Int32}
  (h :
    (¬((0 : Int32) ≤ a1 ∧ a1 ≤ (99 : Int32)) →
      Q (some (.inl (-2 : Int32))) I o) ∧
    ((0 : Int32) ≤ a1 ∧ a1 ≤ (99 : Int32) →
      Exm (d + 1) 130 [.inr (.inr (40, 0)), .inl a1] I o (fun r J1 p2 => ∃ x3 : Int32, r = some (.inl x3) ∧
        Q (some (.inl x3)) J1 p2))) :
  Exm (d + 2) 131 [.inr (.inr (40, 0)), .inl a1] I o Q := by
  show Ex (d + 2) 131 (0, [some (.inr (.inr (40, 0))), some (.inl a1)], [], ma_mem I o, 0, 0) (ma_end Q)
  refine ex_iload_n (pc := 0) (fr_get fo_131_0 0 rfl) rfl ?_
  refine xv_ks1 (pc := 1) (fr_get fo_131_0 1 rfl) cc_131_11 (as := [.inl a1]) (rs := []) rfl rfl rfl rfl ?_
  refine sm_122 ?_
  refine ⟨_, rfl, ?_⟩
  refine xv_peq (pc := 4) (fr_get fo_131_0 2 rfl) (t := 15) rfl (fun c => ?_) (fun c => ?_)
  · replace h := h.1 c
    refine ex_bipush (pc := 15) (fr_get fo_131_0 7 rfl) bp_m2 ?_
    exact ex_ireturn (pc := 17) (fr_get fo_131_0 8 rfl) rt_131 rfl rfl (ma_end_mk h)
  · replace h := h.2 c
    refine ex_aload_n (pc := 7) (fr_get fo_131_0 3 rfl) rfl rfl ?_
    refine ex_iload_n (pc := 8) (fr_get fo_131_0 4 rfl) rfl ?_
    refine xv_kv1 (pc := 9) (fr_get fo_131_0 5 rfl) cc_131_63 (as := [.inr (.inr (40, 0)), .inl a1]) (rs := []) rfl rfl rfl rfl rfl ?_
    refine h.mono (fun r J1 p2 h => ?_)
    obtain ⟨x3, hr, h⟩ := h
    refine ⟨x3, hr, ?_⟩
    refine ex_goto (pc := 12) (fr_get fo_131_0 6 rfl) (t := 17) rfl ?_
    exact ex_ireturn (pc := 17) (fr_get fo_131_0 8 rfl) rt_131 rfl rfl (ma_end_mk h)

theorem e_132 {d : Nat} {I : ma_I} {o : Nat} {Q : ma_Q} {a1 : Int32} {a2 : Int32}
  (h :
    ma_in a1 9 ∧
    ma_in a1 9 ∧
    ma_in a1 9 ∧
    (I 44 0 a1.toNatClampNeg) + (1 : Int32) ≠ 0 ∧
    (xv_rm a2 ((I 44 0 a1.toNatClampNeg) + (1 : Int32)) ≠ 0 →
      ma_in a1 9 ∧
      (I 43 0 a1.toNatClampNeg = (2 : Int32) →
        (¬((I 47 0 a1.toNatClampNeg) ≤ a2 ∧ a2 ≤ (I 48 0 a1.toNatClampNeg)) →
          Q (some (.inl (0 : Int32))) I o) ∧
        ((I 47 0 a1.toNatClampNeg) ≤ a2 ∧ a2 ≤ (I 48 0 a1.toNatClampNeg) →
          Q (some (.inl (0 : Int32))) I o)) ∧
      (I 43 0 a1.toNatClampNeg ≠ (2 : Int32) →
        (I 43 0 a1.toNatClampNeg = (3 : Int32) →
          (¬((I 47 0 a1.toNatClampNeg) ≤ a2 ∧ a2 ≤ (I 48 0 a1.toNatClampNeg)) →
            Q (some (.inl (0 : Int32))) I o) ∧
          ((I 47 0 a1.toNatClampNeg) ≤ a2 ∧ a2 ≤ (I 48 0 a1.toNatClampNeg) →
            ma_in a1 9 ∧
            (a2 = I 47 0 a1.toNatClampNeg →
              Q (some (.inl (0 : Int32))) I o) ∧
            (a2 ≠ I 47 0 a1.toNatClampNeg →
              Q (some (.inl (1 : Int32))) I o))) ∧
        (I 43 0 a1.toNatClampNeg ≠ (3 : Int32) →
          (I 43 0 a1.toNatClampNeg = (4 : Int32) →
            (¬((I 47 0 a1.toNatClampNeg) ≤ a2 ∧ a2 ≤ (I 48 0 a1.toNatClampNeg)) →
              ma_in a1 9 ∧
              (a2 ≤ I 48 0 a1.toNatClampNeg →
                Q (some (.inl (0 : Int32))) I o) ∧
              (I 48 0 a1.toNatClampNeg < a2 →
                ma_in a1 9 ∧
                ma_in a1 9 ∧
                ((I 48 0 a1.toNatClampNeg) + (I 44 0 a1.toNatClampNeg) < a2 →
                  Q (some (.inl (0 : Int32))) I o) ∧
                (a2 ≤ (I 48 0 a1.toNatClampNeg) + (I 44 0 a1.toNatClampNeg) →
                  Q (some (.inl (1 : Int32))) I o))) ∧
            ((I 47 0 a1.toNatClampNeg) ≤ a2 ∧ a2 ≤ (I 48 0 a1.toNatClampNeg) →
              ma_in a1 9 ∧
              (a2 ≤ I 48 0 a1.toNatClampNeg →
                Q (some (.inl (0 : Int32))) I o) ∧
              (I 48 0 a1.toNatClampNeg < a2 →
                ma_in a1 9 ∧
                ma_in a1 9 ∧
                ((I 48 0 a1.toNatClampNeg) + (I 44 0 a1.toNatClampNeg) < a2 →
                  Q (some (.inl (0 : Int32))) I o) ∧
                (a2 ≤ (I 48 0 a1.toNatClampNeg) + (I 44 0 a1.toNatClampNeg) →
                  Q (some (.inl (1 : Int32))) I o)))) ∧
          (I 43 0 a1.toNatClampNeg ≠ (4 : Int32) →
            (I 43 0 a1.toNatClampNeg = (5 : Int32) →
              ma_in a1 9 ∧
              (a2 < I 47 0 a1.toNatClampNeg →
                Q (some (.inl (0 : Int32))) I o) ∧
              (I 47 0 a1.toNatClampNeg ≤ a2 →
                Q (some (.inl (1 : Int32))) I o)) ∧
            (I 43 0 a1.toNatClampNeg ≠ (5 : Int32) →
              Q (some (.inl (xv_b ((I 47 0 a1.toNatClampNeg) ≤ a2 ∧ a2 ≤ (I 48 0 a1.toNatClampNeg))))) I o))))) ∧
    (xv_rm a2 ((I 44 0 a1.toNatClampNeg) + (1 : Int32)) = 0 →
      ma_in a1 9 ∧
      (I 43 0 a1.toNatClampNeg = (2 : Int32) →
        (¬((I 47 0 a1.toNatClampNeg) ≤ a2 ∧ a2 ≤ (I 48 0 a1.toNatClampNeg)) →
          Q (some (.inl (0 : Int32))) I o) ∧
        ((I 47 0 a1.toNatClampNeg) ≤ a2 ∧ a2 ≤ (I 48 0 a1.toNatClampNeg) →
          Q (some (.inl (1 : Int32))) I o)) ∧
      (I 43 0 a1.toNatClampNeg ≠ (2 : Int32) →
        (I 43 0 a1.toNatClampNeg = (3 : Int32) →
          (¬((I 47 0 a1.toNatClampNeg) ≤ a2 ∧ a2 ≤ (I 48 0 a1.toNatClampNeg)) →
            Q (some (.inl (0 : Int32))) I o) ∧
          ((I 47 0 a1.toNatClampNeg) ≤ a2 ∧ a2 ≤ (I 48 0 a1.toNatClampNeg) →
            ma_in a1 9 ∧
            (a2 = I 47 0 a1.toNatClampNeg →
              Q (some (.inl (0 : Int32))) I o) ∧
            (a2 ≠ I 47 0 a1.toNatClampNeg →
              Q (some (.inl (1 : Int32))) I o))) ∧
        (I 43 0 a1.toNatClampNeg ≠ (3 : Int32) →
          (I 43 0 a1.toNatClampNeg = (4 : Int32) →
            (¬((I 47 0 a1.toNatClampNeg) ≤ a2 ∧ a2 ≤ (I 48 0 a1.toNatClampNeg)) →
              ma_in a1 9 ∧
              (a2 ≤ I 48 0 a1.toNatClampNeg →
                Q (some (.inl (0 : Int32))) I o) ∧
              (I 48 0 a1.toNatClampNeg < a2 →
                ma_in a1 9 ∧
                ma_in a1 9 ∧
                ((I 48 0 a1.toNatClampNeg) + (I 44 0 a1.toNatClampNeg) < a2 →
                  Q (some (.inl (0 : Int32))) I o) ∧
                (a2 ≤ (I 48 0 a1.toNatClampNeg) + (I 44 0 a1.toNatClampNeg) →
                  Q (some (.inl (1 : Int32))) I o))) ∧
            ((I 47 0 a1.toNatClampNeg) ≤ a2 ∧ a2 ≤ (I 48 0 a1.toNatClampNeg) →
              Q (some (.inl (1 : Int32))) I o)) ∧
          (I 43 0 a1.toNatClampNeg ≠ (4 : Int32) →
            (I 43 0 a1.toNatClampNeg = (5 : Int32) →
              ma_in a1 9 ∧
              (a2 < I 47 0 a1.toNatClampNeg →
                Q (some (.inl (0 : Int32))) I o) ∧
              (I 47 0 a1.toNatClampNeg ≤ a2 →
                Q (some (.inl (1 : Int32))) I o)) ∧
            (I 43 0 a1.toNatClampNeg ≠ (5 : Int32) →
              Q (some (.inl (xv_b ((I 47 0 a1.toNatClampNeg) ≤ a2 ∧ a2 ≤ (I 48 0 a1.toNatClampNeg))))) I o)))))) :
  Exm (d + 1) 132 [.inr (.inr (40, 0)), .inl a1, .inl a2] I o Q := by
  show Ex (d + 1) 132 (0, [some (.inr (.inr (40, 0))), some (.inl a1), some (.inl a2), none, none], [], ma_mem I o, 0, 0) (ma_end Q)
  refine ex_iload_n (pc := 0) (fr_get fo_132_0 0 rfl) rfl ?_
  refine ex_aload_n (pc := 1) (fr_get fo_132_0 1 rfl) rfl rfl ?_
  refine ex_gr (pc := 2) (fr_get fo_132_0 2 rfl) ow_132 fr_9_40_40 (q := (47, 0)) rfl ?_
  refine ex_iload_n (pc := 5) (fr_get fo_132_0 3 rfl) rfl ?_
  refine xv_iald (pc := 6) (fr_get fo_132_0 4 rfl) gk_47 (n := 9) (gn_47 ..) rfl rfl h.1 ?_
  replace h := h.2
  refine ex_aload_n (pc := 7) (fr_get fo_132_0 5 rfl) rfl rfl ?_
  refine ex_gr (pc := 8) (fr_get fo_132_0 6 rfl) ow_132 fr_9_43_40 (q := (48, 0)) rfl ?_
  refine ex_iload_n (pc := 11) (fr_get fo_132_0 7 rfl) rfl ?_
  refine xv_iald (pc := 12) (fr_get fo_132_0 8 rfl) gk_48 (n := 9) (gn_48 ..) rfl rfl h.1 ?_
  replace h := h.2
  refine xv_ks1 (pc := 13) (fr_get fo_132_0 9 rfl) cc_132_3 (as := [.inl a2, .inl (I 47 0 a1.toNatClampNeg), .inl (I 48 0 a1.toNatClampNeg)]) (rs := []) rfl rfl rfl rfl ?_
  refine sm_118 ?_
  refine ⟨_, rfl, ?_⟩
  refine ex_istore_n (pc := 16) (fr_get fo_132_0 10 rfl) rfl (L' := [some (.inr (.inr (40, 0))), some (.inl a1), some (.inl a2), some (.inl (xv_b ((I 47 0 a1.toNatClampNeg) ≤ a2 ∧ a2 ≤ (I 48 0 a1.toNatClampNeg)))), none]) rfl ?_
  refine ex_iload_n (pc := 17) (fr_get fo_132_0 11 rfl) rfl ?_
  refine ex_aload_n (pc := 18) (fr_get fo_132_0 12 rfl) rfl rfl ?_
  refine ex_gr (pc := 19) (fr_get fo_132_0 13 rfl) ow_132 fr_9_31_40 (q := (44, 0)) rfl ?_
  refine ex_iload_n (pc := 22) (fr_get fo_132_0 14 rfl) rfl ?_
  refine xv_iald (pc := 23) (fr_get fo_132_0 15 rfl) gk_44 (n := 9) (gn_44 ..) rfl rfl h.1 ?_
  replace h := h.2
  refine ex_iconst (pc := 24) (fr_get fo_132_1 0 rfl) ic_1 ?_
  refine ex_iadd (pc := 25) (fr_get fo_132_1 1 rfl) ?_
  refine xv_irem (pc := 26) (fr_get fo_132_1 2 rfl) h.1 ?_
  replace h := h.2
  refine xv_bne (pc := 27) (fr_get fo_132_1 3 rfl) (t := 34) rfl (fun c => ?_) (fun c => ?_)
  · replace h := h.1 c
    refine ex_iconst (pc := 34) (fr_get fo_132_1 6 rfl) ic_0 ?_
    refine ex_istore (pc := 35) (fr_get fo_132_1 7 rfl) rfl (L' := [some (.inr (.inr (40, 0))), some (.inl a1), some (.inl a2), some (.inl (xv_b ((I 47 0 a1.toNatClampNeg) ≤ a2 ∧ a2 ≤ (I 48 0 a1.toNatClampNeg)))), some (.inl (0 : Int32))]) rfl ?_
    refine ex_aload_n (pc := 37) (fr_get fo_132_1 8 rfl) rfl rfl ?_
    refine ex_gr (pc := 38) (fr_get fo_132_1 9 rfl) ow_132 fr_9_28_40 (q := (43, 0)) rfl ?_
    refine ex_iload_n (pc := 41) (fr_get fo_132_1 10 rfl) rfl ?_
    refine xv_iald (pc := 42) (fr_get fo_132_1 11 rfl) gk_43 (n := 9) (gn_43 ..) rfl rfl h.1 ?_
    replace h := h.2
    refine xv_ts (pc := 43) (fr_get fo_132_1 12 rfl) (l := [29, 44, 64, 106]) rfl tk_132_43 ?_
    refine xv_tc (t := 72) ic_2 rfl (fun c => ?_) (fun c => ?_)
    · replace h := h.1 c
      refine ex_iload_n (pc := 72) (fr_get fo_132_1 13 rfl) rfl ?_
      refine xv_peq (pc := 73) (fr_get fo_132_1 14 rfl) (t := 85) rfl (fun c => ?_) (fun c => ?_)
      · replace h := h.1 c
        refine ex_iconst (pc := 85) (fr_get fo_132_2 3 rfl) ic_0 ?_
        exact ex_zreturn (pc := 86) (fr_get fo_132_2 4 rfl) rt_132 rfl rfl ⟨Or.inl rfl, ma_end_mk h⟩
      · replace h := h.2 c
        refine ex_iload (pc := 76) (fr_get fo_132_1 15 rfl) rfl ?_
        refine xv_bt (pc := 78) (fr_get fo_132_2 0 rfl) (t := 85) rfl k1_eq_0 ?_
        refine ex_iconst (pc := 85) (fr_get fo_132_2 3 rfl) ic_0 ?_
        exact ex_zreturn (pc := 86) (fr_get fo_132_2 4 rfl) rt_132 rfl rfl ⟨Or.inl rfl, ma_end_mk h⟩
    · replace h := h.2 c
      refine xv_tc (t := 87) ic_3 rfl (fun c => ?_) (fun c => ?_)
      · replace h := h.1 c
        refine ex_iload_n (pc := 87) (fr_get fo_132_2 5 rfl) rfl ?_
        refine xv_peq (pc := 88) (fr_get fo_132_2 6 rfl) (t := 105) rfl (fun c => ?_) (fun c => ?_)
        · replace h := h.1 c
          refine ex_iconst (pc := 105) (fr_get fo_132_2 15 rfl) ic_0 ?_
          exact ex_zreturn (pc := 106) (fr_get fo_132_3 0 rfl) rt_132 rfl rfl ⟨Or.inl rfl, ma_end_mk h⟩
        · replace h := h.2 c
          refine ex_iload_n (pc := 91) (fr_get fo_132_2 7 rfl) rfl ?_
          refine ex_aload_n (pc := 92) (fr_get fo_132_2 8 rfl) rfl rfl ?_
          refine ex_gr (pc := 93) (fr_get fo_132_2 9 rfl) ow_132 fr_9_40_40 (q := (47, 0)) rfl ?_
          refine ex_iload_n (pc := 96) (fr_get fo_132_2 10 rfl) rfl ?_
          refine xv_iald (pc := 97) (fr_get fo_132_2 11 rfl) gk_47 (n := 9) (gn_47 ..) rfl rfl h.1 ?_
          replace h := h.2
          refine xv_ceq (pc := 98) (fr_get fo_132_2 12 rfl) (t := 105) rfl (fun c => ?_) (fun c => ?_)
          · replace h := h.1 c
            refine ex_iconst (pc := 105) (fr_get fo_132_2 15 rfl) ic_0 ?_
            exact ex_zreturn (pc := 106) (fr_get fo_132_3 0 rfl) rt_132 rfl rfl ⟨Or.inl rfl, ma_end_mk h⟩
          · replace h := h.2 c
            refine ex_iconst (pc := 101) (fr_get fo_132_2 13 rfl) ic_1 ?_
            refine ex_goto (pc := 102) (fr_get fo_132_2 14 rfl) (t := 106) rfl ?_
            exact ex_zreturn (pc := 106) (fr_get fo_132_3 0 rfl) rt_132 rfl rfl ⟨Or.inr rfl, ma_end_mk h⟩
      · replace h := h.2 c
        refine xv_tc (t := 107) ic_4 rfl (fun c => ?_) (fun c => ?_)
        · replace h := h.1 c
          refine ex_iload_n (pc := 107) (fr_get fo_132_3 1 rfl) rfl ?_
          refine xv_peq (pc := 108) (fr_get fo_132_3 2 rfl) (t := 116) rfl (fun c => ?_) (fun c => ?_)
          · replace h := h.1 c
            refine ex_iload_n (pc := 116) (fr_get fo_132_3 5 rfl) rfl ?_
            refine ex_aload_n (pc := 117) (fr_get fo_132_3 6 rfl) rfl rfl ?_
            refine ex_gr (pc := 118) (fr_get fo_132_3 7 rfl) ow_132 fr_9_43_40 (q := (48, 0)) rfl ?_
            refine ex_iload_n (pc := 121) (fr_get fo_132_3 8 rfl) rfl ?_
            refine xv_iald (pc := 122) (fr_get fo_132_3 9 rfl) gk_48 (n := 9) (gn_48 ..) rfl rfl h.1 ?_
            replace h := h.2
            refine xv_cle (pc := 123) (fr_get fo_132_3 10 rfl) (t := 147) rfl (fun c => ?_) (fun c => ?_)
            · replace h := h.1 c
              refine ex_iconst (pc := 147) (fr_get fo_132_4 8 rfl) ic_0 ?_
              exact ex_zreturn (pc := 148) (fr_get fo_132_4 9 rfl) rt_132 rfl rfl ⟨Or.inl rfl, ma_end_mk h⟩
            · replace h := h.2 c
              refine ex_iload_n (pc := 126) (fr_get fo_132_3 11 rfl) rfl ?_
              refine ex_aload_n (pc := 127) (fr_get fo_132_3 12 rfl) rfl rfl ?_
              refine ex_gr (pc := 128) (fr_get fo_132_3 13 rfl) ow_132 fr_9_43_40 (q := (48, 0)) rfl ?_
              refine ex_iload_n (pc := 131) (fr_get fo_132_3 14 rfl) rfl ?_
              refine xv_iald (pc := 132) (fr_get fo_132_3 15 rfl) gk_48 (n := 9) (gn_48 ..) rfl rfl h.1 ?_
              replace h := h.2
              refine ex_aload_n (pc := 133) (fr_get fo_132_4 0 rfl) rfl rfl ?_
              refine ex_gr (pc := 134) (fr_get fo_132_4 1 rfl) ow_132 fr_9_31_40 (q := (44, 0)) rfl ?_
              refine ex_iload_n (pc := 137) (fr_get fo_132_4 2 rfl) rfl ?_
              refine xv_iald (pc := 138) (fr_get fo_132_4 3 rfl) gk_44 (n := 9) (gn_44 ..) rfl rfl h.1 ?_
              replace h := h.2
              refine ex_iadd (pc := 139) (fr_get fo_132_4 4 rfl) ?_
              refine xv_cgt (pc := 140) (fr_get fo_132_4 5 rfl) (t := 147) rfl (fun c => ?_) (fun c => ?_)
              · replace h := h.1 c
                refine ex_iconst (pc := 147) (fr_get fo_132_4 8 rfl) ic_0 ?_
                exact ex_zreturn (pc := 148) (fr_get fo_132_4 9 rfl) rt_132 rfl rfl ⟨Or.inl rfl, ma_end_mk h⟩
              · replace h := h.2 c
                refine ex_iconst (pc := 143) (fr_get fo_132_4 6 rfl) ic_1 ?_
                refine ex_goto (pc := 144) (fr_get fo_132_4 7 rfl) (t := 148) rfl ?_
                exact ex_zreturn (pc := 148) (fr_get fo_132_4 9 rfl) rt_132 rfl rfl ⟨Or.inr rfl, ma_end_mk h⟩
          · replace h := h.2 c
            refine ex_iload (pc := 111) (fr_get fo_132_3 3 rfl) rfl ?_
            refine xv_bf (pc := 113) (fr_get fo_132_3 4 rfl) (t := 143) rfl k1_ne_0 ?_
            refine ex_iload_n (pc := 116) (fr_get fo_132_3 5 rfl) rfl ?_
            refine ex_aload_n (pc := 117) (fr_get fo_132_3 6 rfl) rfl rfl ?_
            refine ex_gr (pc := 118) (fr_get fo_132_3 7 rfl) ow_132 fr_9_43_40 (q := (48, 0)) rfl ?_
            refine ex_iload_n (pc := 121) (fr_get fo_132_3 8 rfl) rfl ?_
            refine xv_iald (pc := 122) (fr_get fo_132_3 9 rfl) gk_48 (n := 9) (gn_48 ..) rfl rfl h.1 ?_
            replace h := h.2
            refine xv_cle (pc := 123) (fr_get fo_132_3 10 rfl) (t := 147) rfl (fun c => ?_) (fun c => ?_)
            · replace h := h.1 c
              refine ex_iconst (pc := 147) (fr_get fo_132_4 8 rfl) ic_0 ?_
              exact ex_zreturn (pc := 148) (fr_get fo_132_4 9 rfl) rt_132 rfl rfl ⟨Or.inl rfl, ma_end_mk h⟩
            · replace h := h.2 c
              refine ex_iload_n (pc := 126) (fr_get fo_132_3 11 rfl) rfl ?_
              refine ex_aload_n (pc := 127) (fr_get fo_132_3 12 rfl) rfl rfl ?_
              refine ex_gr (pc := 128) (fr_get fo_132_3 13 rfl) ow_132 fr_9_43_40 (q := (48, 0)) rfl ?_
              refine ex_iload_n (pc := 131) (fr_get fo_132_3 14 rfl) rfl ?_
              refine xv_iald (pc := 132) (fr_get fo_132_3 15 rfl) gk_48 (n := 9) (gn_48 ..) rfl rfl h.1 ?_
              replace h := h.2
              refine ex_aload_n (pc := 133) (fr_get fo_132_4 0 rfl) rfl rfl ?_
              refine ex_gr (pc := 134) (fr_get fo_132_4 1 rfl) ow_132 fr_9_31_40 (q := (44, 0)) rfl ?_
              refine ex_iload_n (pc := 137) (fr_get fo_132_4 2 rfl) rfl ?_
              refine xv_iald (pc := 138) (fr_get fo_132_4 3 rfl) gk_44 (n := 9) (gn_44 ..) rfl rfl h.1 ?_
              replace h := h.2
              refine ex_iadd (pc := 139) (fr_get fo_132_4 4 rfl) ?_
              refine xv_cgt (pc := 140) (fr_get fo_132_4 5 rfl) (t := 147) rfl (fun c => ?_) (fun c => ?_)
              · replace h := h.1 c
                refine ex_iconst (pc := 147) (fr_get fo_132_4 8 rfl) ic_0 ?_
                exact ex_zreturn (pc := 148) (fr_get fo_132_4 9 rfl) rt_132 rfl rfl ⟨Or.inl rfl, ma_end_mk h⟩
              · replace h := h.2 c
                refine ex_iconst (pc := 143) (fr_get fo_132_4 6 rfl) ic_1 ?_
                refine ex_goto (pc := 144) (fr_get fo_132_4 7 rfl) (t := 148) rfl ?_
                exact ex_zreturn (pc := 148) (fr_get fo_132_4 9 rfl) rt_132 rfl rfl ⟨Or.inr rfl, ma_end_mk h⟩
        · replace h := h.2 c
          refine xv_tc (t := 149) ic_5 rfl (fun c => ?_) (fun c => ?_)
          · replace h := h.1 c
            refine ex_iload_n (pc := 149) (fr_get fo_132_4 10 rfl) rfl ?_
            refine ex_aload_n (pc := 150) (fr_get fo_132_4 11 rfl) rfl rfl ?_
            refine ex_gr (pc := 151) (fr_get fo_132_4 12 rfl) ow_132 fr_9_40_40 (q := (47, 0)) rfl ?_
            refine ex_iload_n (pc := 154) (fr_get fo_132_4 13 rfl) rfl ?_
            refine xv_iald (pc := 155) (fr_get fo_132_4 14 rfl) gk_47 (n := 9) (gn_47 ..) rfl rfl h.1 ?_
            replace h := h.2
            refine xv_clt (pc := 156) (fr_get fo_132_4 15 rfl) (t := 163) rfl (fun c => ?_) (fun c => ?_)
            · replace h := h.1 c
              refine ex_iconst (pc := 163) (fr_get fo_132_5 2 rfl) ic_0 ?_
              exact ex_zreturn (pc := 164) (fr_get fo_132_5 3 rfl) rt_132 rfl rfl ⟨Or.inl rfl, ma_end_mk h⟩
            · replace h := h.2 c
              refine ex_iconst (pc := 159) (fr_get fo_132_5 0 rfl) ic_1 ?_
              refine ex_goto (pc := 160) (fr_get fo_132_5 1 rfl) (t := 164) rfl ?_
              exact ex_zreturn (pc := 164) (fr_get fo_132_5 3 rfl) rt_132 rfl rfl ⟨Or.inr rfl, ma_end_mk h⟩
          · replace h := h.2 c
            refine xv_tn (t := 165) rfl ?_
            refine ex_iload_n (pc := 165) (fr_get fo_132_5 4 rfl) rfl ?_
            exact ex_zreturn (pc := 166) (fr_get fo_132_5 5 rfl) rt_132 rfl rfl ⟨xv_b01, ma_end_mk h⟩
  · replace h := h.2 c
    refine ex_iconst (pc := 30) (fr_get fo_132_1 4 rfl) ic_1 ?_
    refine ex_goto (pc := 31) (fr_get fo_132_1 5 rfl) (t := 35) rfl ?_
    refine ex_istore (pc := 35) (fr_get fo_132_1 7 rfl) rfl (L' := [some (.inr (.inr (40, 0))), some (.inl a1), some (.inl a2), some (.inl (xv_b ((I 47 0 a1.toNatClampNeg) ≤ a2 ∧ a2 ≤ (I 48 0 a1.toNatClampNeg)))), some (.inl (1 : Int32))]) rfl ?_
    refine ex_aload_n (pc := 37) (fr_get fo_132_1 8 rfl) rfl rfl ?_
    refine ex_gr (pc := 38) (fr_get fo_132_1 9 rfl) ow_132 fr_9_28_40 (q := (43, 0)) rfl ?_
    refine ex_iload_n (pc := 41) (fr_get fo_132_1 10 rfl) rfl ?_
    refine xv_iald (pc := 42) (fr_get fo_132_1 11 rfl) gk_43 (n := 9) (gn_43 ..) rfl rfl h.1 ?_
    replace h := h.2
    refine xv_ts (pc := 43) (fr_get fo_132_1 12 rfl) (l := [29, 44, 64, 106]) rfl tk_132_43 ?_
    refine xv_tc (t := 72) ic_2 rfl (fun c => ?_) (fun c => ?_)
    · replace h := h.1 c
      refine ex_iload_n (pc := 72) (fr_get fo_132_1 13 rfl) rfl ?_
      refine xv_peq (pc := 73) (fr_get fo_132_1 14 rfl) (t := 85) rfl (fun c => ?_) (fun c => ?_)
      · replace h := h.1 c
        refine ex_iconst (pc := 85) (fr_get fo_132_2 3 rfl) ic_0 ?_
        exact ex_zreturn (pc := 86) (fr_get fo_132_2 4 rfl) rt_132 rfl rfl ⟨Or.inl rfl, ma_end_mk h⟩
      · replace h := h.2 c
        refine ex_iload (pc := 76) (fr_get fo_132_1 15 rfl) rfl ?_
        refine xv_bf (pc := 78) (fr_get fo_132_2 0 rfl) (t := 85) rfl k1_eq_1 ?_
        refine ex_iconst (pc := 81) (fr_get fo_132_2 1 rfl) ic_1 ?_
        refine ex_goto (pc := 82) (fr_get fo_132_2 2 rfl) (t := 86) rfl ?_
        exact ex_zreturn (pc := 86) (fr_get fo_132_2 4 rfl) rt_132 rfl rfl ⟨Or.inr rfl, ma_end_mk h⟩
    · replace h := h.2 c
      refine xv_tc (t := 87) ic_3 rfl (fun c => ?_) (fun c => ?_)
      · replace h := h.1 c
        refine ex_iload_n (pc := 87) (fr_get fo_132_2 5 rfl) rfl ?_
        refine xv_peq (pc := 88) (fr_get fo_132_2 6 rfl) (t := 105) rfl (fun c => ?_) (fun c => ?_)
        · replace h := h.1 c
          refine ex_iconst (pc := 105) (fr_get fo_132_2 15 rfl) ic_0 ?_
          exact ex_zreturn (pc := 106) (fr_get fo_132_3 0 rfl) rt_132 rfl rfl ⟨Or.inl rfl, ma_end_mk h⟩
        · replace h := h.2 c
          refine ex_iload_n (pc := 91) (fr_get fo_132_2 7 rfl) rfl ?_
          refine ex_aload_n (pc := 92) (fr_get fo_132_2 8 rfl) rfl rfl ?_
          refine ex_gr (pc := 93) (fr_get fo_132_2 9 rfl) ow_132 fr_9_40_40 (q := (47, 0)) rfl ?_
          refine ex_iload_n (pc := 96) (fr_get fo_132_2 10 rfl) rfl ?_
          refine xv_iald (pc := 97) (fr_get fo_132_2 11 rfl) gk_47 (n := 9) (gn_47 ..) rfl rfl h.1 ?_
          replace h := h.2
          refine xv_ceq (pc := 98) (fr_get fo_132_2 12 rfl) (t := 105) rfl (fun c => ?_) (fun c => ?_)
          · replace h := h.1 c
            refine ex_iconst (pc := 105) (fr_get fo_132_2 15 rfl) ic_0 ?_
            exact ex_zreturn (pc := 106) (fr_get fo_132_3 0 rfl) rt_132 rfl rfl ⟨Or.inl rfl, ma_end_mk h⟩
          · replace h := h.2 c
            refine ex_iconst (pc := 101) (fr_get fo_132_2 13 rfl) ic_1 ?_
            refine ex_goto (pc := 102) (fr_get fo_132_2 14 rfl) (t := 106) rfl ?_
            exact ex_zreturn (pc := 106) (fr_get fo_132_3 0 rfl) rt_132 rfl rfl ⟨Or.inr rfl, ma_end_mk h⟩
      · replace h := h.2 c
        refine xv_tc (t := 107) ic_4 rfl (fun c => ?_) (fun c => ?_)
        · replace h := h.1 c
          refine ex_iload_n (pc := 107) (fr_get fo_132_3 1 rfl) rfl ?_
          refine xv_peq (pc := 108) (fr_get fo_132_3 2 rfl) (t := 116) rfl (fun c => ?_) (fun c => ?_)
          · replace h := h.1 c
            refine ex_iload_n (pc := 116) (fr_get fo_132_3 5 rfl) rfl ?_
            refine ex_aload_n (pc := 117) (fr_get fo_132_3 6 rfl) rfl rfl ?_
            refine ex_gr (pc := 118) (fr_get fo_132_3 7 rfl) ow_132 fr_9_43_40 (q := (48, 0)) rfl ?_
            refine ex_iload_n (pc := 121) (fr_get fo_132_3 8 rfl) rfl ?_
            refine xv_iald (pc := 122) (fr_get fo_132_3 9 rfl) gk_48 (n := 9) (gn_48 ..) rfl rfl h.1 ?_
            replace h := h.2
            refine xv_cle (pc := 123) (fr_get fo_132_3 10 rfl) (t := 147) rfl (fun c => ?_) (fun c => ?_)
            · replace h := h.1 c
              refine ex_iconst (pc := 147) (fr_get fo_132_4 8 rfl) ic_0 ?_
              exact ex_zreturn (pc := 148) (fr_get fo_132_4 9 rfl) rt_132 rfl rfl ⟨Or.inl rfl, ma_end_mk h⟩
            · replace h := h.2 c
              refine ex_iload_n (pc := 126) (fr_get fo_132_3 11 rfl) rfl ?_
              refine ex_aload_n (pc := 127) (fr_get fo_132_3 12 rfl) rfl rfl ?_
              refine ex_gr (pc := 128) (fr_get fo_132_3 13 rfl) ow_132 fr_9_43_40 (q := (48, 0)) rfl ?_
              refine ex_iload_n (pc := 131) (fr_get fo_132_3 14 rfl) rfl ?_
              refine xv_iald (pc := 132) (fr_get fo_132_3 15 rfl) gk_48 (n := 9) (gn_48 ..) rfl rfl h.1 ?_
              replace h := h.2
              refine ex_aload_n (pc := 133) (fr_get fo_132_4 0 rfl) rfl rfl ?_
              refine ex_gr (pc := 134) (fr_get fo_132_4 1 rfl) ow_132 fr_9_31_40 (q := (44, 0)) rfl ?_
              refine ex_iload_n (pc := 137) (fr_get fo_132_4 2 rfl) rfl ?_
              refine xv_iald (pc := 138) (fr_get fo_132_4 3 rfl) gk_44 (n := 9) (gn_44 ..) rfl rfl h.1 ?_
              replace h := h.2
              refine ex_iadd (pc := 139) (fr_get fo_132_4 4 rfl) ?_
              refine xv_cgt (pc := 140) (fr_get fo_132_4 5 rfl) (t := 147) rfl (fun c => ?_) (fun c => ?_)
              · replace h := h.1 c
                refine ex_iconst (pc := 147) (fr_get fo_132_4 8 rfl) ic_0 ?_
                exact ex_zreturn (pc := 148) (fr_get fo_132_4 9 rfl) rt_132 rfl rfl ⟨Or.inl rfl, ma_end_mk h⟩
              · replace h := h.2 c
                refine ex_iconst (pc := 143) (fr_get fo_132_4 6 rfl) ic_1 ?_
                refine ex_goto (pc := 144) (fr_get fo_132_4 7 rfl) (t := 148) rfl ?_
                exact ex_zreturn (pc := 148) (fr_get fo_132_4 9 rfl) rt_132 rfl rfl ⟨Or.inr rfl, ma_end_mk h⟩
          · replace h := h.2 c
            refine ex_iload (pc := 111) (fr_get fo_132_3 3 rfl) rfl ?_
            refine xv_bt (pc := 113) (fr_get fo_132_3 4 rfl) (t := 143) rfl k1_ne_1 ?_
            refine ex_iconst (pc := 143) (fr_get fo_132_4 6 rfl) ic_1 ?_
            refine ex_goto (pc := 144) (fr_get fo_132_4 7 rfl) (t := 148) rfl ?_
            exact ex_zreturn (pc := 148) (fr_get fo_132_4 9 rfl) rt_132 rfl rfl ⟨Or.inr rfl, ma_end_mk h⟩
        · replace h := h.2 c
          refine xv_tc (t := 149) ic_5 rfl (fun c => ?_) (fun c => ?_)
          · replace h := h.1 c
            refine ex_iload_n (pc := 149) (fr_get fo_132_4 10 rfl) rfl ?_
            refine ex_aload_n (pc := 150) (fr_get fo_132_4 11 rfl) rfl rfl ?_
            refine ex_gr (pc := 151) (fr_get fo_132_4 12 rfl) ow_132 fr_9_40_40 (q := (47, 0)) rfl ?_
            refine ex_iload_n (pc := 154) (fr_get fo_132_4 13 rfl) rfl ?_
            refine xv_iald (pc := 155) (fr_get fo_132_4 14 rfl) gk_47 (n := 9) (gn_47 ..) rfl rfl h.1 ?_
            replace h := h.2
            refine xv_clt (pc := 156) (fr_get fo_132_4 15 rfl) (t := 163) rfl (fun c => ?_) (fun c => ?_)
            · replace h := h.1 c
              refine ex_iconst (pc := 163) (fr_get fo_132_5 2 rfl) ic_0 ?_
              exact ex_zreturn (pc := 164) (fr_get fo_132_5 3 rfl) rt_132 rfl rfl ⟨Or.inl rfl, ma_end_mk h⟩
            · replace h := h.2 c
              refine ex_iconst (pc := 159) (fr_get fo_132_5 0 rfl) ic_1 ?_
              refine ex_goto (pc := 160) (fr_get fo_132_5 1 rfl) (t := 164) rfl ?_
              exact ex_zreturn (pc := 164) (fr_get fo_132_5 3 rfl) rt_132 rfl rfl ⟨Or.inr rfl, ma_end_mk h⟩
          · replace h := h.2 c
            refine xv_tn (t := 165) rfl ?_
            refine ex_iload_n (pc := 165) (fr_get fo_132_5 4 rfl) rfl ?_
            exact ex_zreturn (pc := 166) (fr_get fo_132_5 5 rfl) rt_132 rfl rfl ⟨xv_b01, ma_end_mk h⟩

theorem e_133 {d : Nat} {I : ma_I} {o : Nat} {Q : ma_Q} {a1 : Int32} {a2 : Int32} {a3 : Int32} {a4 : Int32}
  (h :
    ma_in a1 9 ∧
    ma_in a1 9 ∧
    Exm (d) 157 [.inr (.inr (40, 0)), .inl (0 : Int32), .inl a2, .inl (I 45 0 a1.toNatClampNeg), .inl a3, .inl (I 44 0 a1.toNatClampNeg), .inl a1, .inl a4] I o (fun r J1 p2 => ∃ x3 : Int32, r = some (.inl x3) ∧
      ma_in a1 9 ∧
      (J1 43 0 a1.toNatClampNeg ≠ (1 : Int32) →
        ma_in a1 9 ∧
        (J1 43 0 a1.toNatClampNeg ≠ (3 : Int32) →
          ma_in a1 9 ∧
          (J1 43 0 a1.toNatClampNeg ≠ (4 : Int32) →
            Q (some (.inl x3)) J1 p2) ∧
          (J1 43 0 a1.toNatClampNeg = (4 : Int32) →
            Q (some (.inl (x3 + (1 : Int32)))) J1 p2)) ∧
        (J1 43 0 a1.toNatClampNeg = (3 : Int32) →
          ma_in a1 9 ∧
          Q (some (.inl ((2 : Int32) * (x3 + (J1 44 0 a1.toNatClampNeg))))) J1 p2)) ∧
      (J1 43 0 a1.toNatClampNeg = (1 : Int32) →
        ma_in a1 9 ∧
        Q (some (.inl (x3 + (J1 44 0 a1.toNatClampNeg)))) J1 p2))) :
  Exm (d + 1) 133 [.inr (.inr (40, 0)), .inl a1, .inl a2, .inl a3, .inl a4] I o Q := by
  show Ex (d + 1) 133 (0, [some (.inr (.inr (40, 0))), some (.inl a1), some (.inl a2), some (.inl a3), some (.inl a4), none], [], ma_mem I o, 0, 0) (ma_end Q)
  refine ex_aload_n (pc := 0) (fr_get fo_133_0 0 rfl) rfl rfl ?_
  refine ex_iconst (pc := 1) (fr_get fo_133_0 1 rfl) ic_0 ?_
  refine ex_iload_n (pc := 2) (fr_get fo_133_0 2 rfl) rfl ?_
  refine ex_aload_n (pc := 3) (fr_get fo_133_0 3 rfl) rfl rfl ?_
  refine ex_gr (pc := 4) (fr_get fo_133_0 4 rfl) ow_133 fr_9_34_40 (q := (45, 0)) rfl ?_
  refine ex_iload_n (pc := 7) (fr_get fo_133_0 5 rfl) rfl ?_
  refine xv_iald (pc := 8) (fr_get fo_133_0 6 rfl) gk_45 (n := 9) (gn_45 ..) rfl rfl h.1 ?_
  replace h := h.2
  refine ex_iload_n (pc := 9) (fr_get fo_133_0 7 rfl) rfl ?_
  refine ex_aload_n (pc := 10) (fr_get fo_133_0 8 rfl) rfl rfl ?_
  refine ex_gr (pc := 11) (fr_get fo_133_0 9 rfl) ow_133 fr_9_31_40 (q := (44, 0)) rfl ?_
  refine ex_iload_n (pc := 14) (fr_get fo_133_0 10 rfl) rfl ?_
  refine xv_iald (pc := 15) (fr_get fo_133_0 11 rfl) gk_44 (n := 9) (gn_44 ..) rfl rfl h.1 ?_
  replace h := h.2
  refine ex_iload_n (pc := 16) (fr_get fo_133_0 12 rfl) rfl ?_
  refine ex_iload (pc := 17) (fr_get fo_133_0 13 rfl) rfl ?_
  refine xv_kv1 (pc := 19) (fr_get fo_133_0 14 rfl) cc_133_67 (as := [.inr (.inr (40, 0)), .inl (0 : Int32), .inl a2, .inl (I 45 0 a1.toNatClampNeg), .inl a3, .inl (I 44 0 a1.toNatClampNeg), .inl a1, .inl a4]) (rs := []) rfl rfl rfl rfl rfl ?_
  refine h.mono (fun r J1 p2 h => ?_)
  obtain ⟨x3, hr, h⟩ := h
  refine ⟨x3, hr, ?_⟩
  refine ex_istore (pc := 22) (fr_get fo_133_0 15 rfl) rfl (L' := [some (.inr (.inr (40, 0))), some (.inl a1), some (.inl a2), some (.inl a3), some (.inl a4), some (.inl x3)]) rfl ?_
  refine ex_aload_n (pc := 24) (fr_get fo_133_1 0 rfl) rfl rfl ?_
  refine ex_gr (pc := 25) (fr_get fo_133_1 1 rfl) ow_133 fr_9_28_40 (q := (43, 0)) rfl ?_
  refine ex_iload_n (pc := 28) (fr_get fo_133_1 2 rfl) rfl ?_
  refine xv_iald (pc := 29) (fr_get fo_133_1 3 rfl) gk_43 (n := 9) (gn_43 ..) rfl rfl h.1 ?_
  replace h := h.2
  refine ex_iconst (pc := 30) (fr_get fo_133_1 4 rfl) ic_1 ?_
  refine xv_cne (pc := 31) (fr_get fo_133_1 5 rfl) (t := 46) rfl (fun c => ?_) (fun c => ?_)
  · replace h := h.1 c
    refine ex_aload_n (pc := 46) (fr_get fo_133_1 13 rfl) rfl rfl ?_
    refine ex_gr (pc := 47) (fr_get fo_133_1 14 rfl) ow_133 fr_9_28_40 (q := (43, 0)) rfl ?_
    refine ex_iload_n (pc := 50) (fr_get fo_133_1 15 rfl) rfl ?_
    refine xv_iald (pc := 51) (fr_get fo_133_2 0 rfl) gk_43 (n := 9) (gn_43 ..) rfl rfl h.1 ?_
    replace h := h.2
    refine ex_iconst (pc := 52) (fr_get fo_133_2 1 rfl) ic_3 ?_
    refine xv_cne (pc := 53) (fr_get fo_133_2 2 rfl) (t := 70) rfl (fun c => ?_) (fun c => ?_)
    · replace h := h.1 c
      refine ex_aload_n (pc := 70) (fr_get fo_133_2 12 rfl) rfl rfl ?_
      refine ex_gr (pc := 71) (fr_get fo_133_2 13 rfl) ow_133 fr_9_28_40 (q := (43, 0)) rfl ?_
      refine ex_iload_n (pc := 74) (fr_get fo_133_2 14 rfl) rfl ?_
      refine xv_iald (pc := 75) (fr_get fo_133_2 15 rfl) gk_43 (n := 9) (gn_43 ..) rfl rfl h.1 ?_
      replace h := h.2
      refine ex_iconst (pc := 76) (fr_get fo_133_3 0 rfl) ic_4 ?_
      refine xv_cne (pc := 77) (fr_get fo_133_3 1 rfl) (t := 87) rfl (fun c => ?_) (fun c => ?_)
      · replace h := h.1 c
        refine ex_iload (pc := 87) (fr_get fo_133_3 6 rfl) rfl ?_
        exact ex_ireturn (pc := 89) (fr_get fo_133_3 7 rfl) rt_133 rfl rfl (ma_end_mk h)
      · replace h := h.2 c
        refine ex_iload (pc := 80) (fr_get fo_133_3 2 rfl) rfl ?_
        refine ex_iconst (pc := 82) (fr_get fo_133_3 3 rfl) ic_1 ?_
        refine ex_iadd (pc := 83) (fr_get fo_133_3 4 rfl) ?_
        refine ex_goto (pc := 84) (fr_get fo_133_3 5 rfl) (t := 89) rfl ?_
        exact ex_ireturn (pc := 89) (fr_get fo_133_3 7 rfl) rt_133 rfl rfl (ma_end_mk h)
    · replace h := h.2 c
      refine ex_iconst (pc := 56) (fr_get fo_133_2 3 rfl) ic_2 ?_
      refine ex_iload (pc := 57) (fr_get fo_133_2 4 rfl) rfl ?_
      refine ex_aload_n (pc := 59) (fr_get fo_133_2 5 rfl) rfl rfl ?_
      refine ex_gr (pc := 60) (fr_get fo_133_2 6 rfl) ow_133 fr_9_31_40 (q := (44, 0)) rfl ?_
      refine ex_iload_n (pc := 63) (fr_get fo_133_2 7 rfl) rfl ?_
      refine xv_iald (pc := 64) (fr_get fo_133_2 8 rfl) gk_44 (n := 9) (gn_44 ..) rfl rfl h.1 ?_
      replace h := h.2
      refine ex_iadd (pc := 65) (fr_get fo_133_2 9 rfl) ?_
      refine ex_imul (pc := 66) (fr_get fo_133_2 10 rfl) ?_
      refine ex_goto (pc := 67) (fr_get fo_133_2 11 rfl) (t := 89) rfl ?_
      exact ex_ireturn (pc := 89) (fr_get fo_133_3 7 rfl) rt_133 rfl rfl (ma_end_mk h)
  · replace h := h.2 c
    refine ex_iload (pc := 34) (fr_get fo_133_1 6 rfl) rfl ?_
    refine ex_aload_n (pc := 36) (fr_get fo_133_1 7 rfl) rfl rfl ?_
    refine ex_gr (pc := 37) (fr_get fo_133_1 8 rfl) ow_133 fr_9_31_40 (q := (44, 0)) rfl ?_
    refine ex_iload_n (pc := 40) (fr_get fo_133_1 9 rfl) rfl ?_
    refine xv_iald (pc := 41) (fr_get fo_133_1 10 rfl) gk_44 (n := 9) (gn_44 ..) rfl rfl h.1 ?_
    replace h := h.2
    refine ex_iadd (pc := 42) (fr_get fo_133_1 11 rfl) ?_
    refine ex_goto (pc := 43) (fr_get fo_133_1 12 rfl) (t := 89) rfl ?_
    exact ex_ireturn (pc := 89) (fr_get fo_133_3 7 rfl) rt_133 rfl rfl (ma_end_mk h)

theorem e_134 {d : Nat} {I : ma_I} {o : Nat} {Q : ma_Q} {a1 : Int32}
  (h :
    ma_in a1 9 ∧
    ma_in a1 9 ∧
    ma_in a1 9 ∧
    ma_in a1 9 ∧
    ma_in a1 9 ∧
    Exm (d) 157 [.inr (.inr (40, 0)), .inl (1 : Int32), .inl (I 47 0 a1.toNatClampNeg), .inl (I 45 0 a1.toNatClampNeg), .inl (0 : Int32), .inl (I 44 0 a1.toNatClampNeg), .inl a1, .inl ((I 48 0 a1.toNatClampNeg) - (I 47 0 a1.toNatClampNeg))] I o (fun r J1 p2 => ∃ x3 : Int32, r = some (.inl x3) ∧
      Q (some (.inl x3)) J1 p2)) :
  Exm (d + 1) 134 [.inr (.inr (40, 0)), .inl a1] I o Q := by
  show Ex (d + 1) 134 (0, [some (.inr (.inr (40, 0))), some (.inl a1)], [], ma_mem I o, 0, 0) (ma_end Q)
  refine ex_aload_n (pc := 0) (fr_get fo_134_0 0 rfl) rfl rfl ?_
  refine ex_iconst (pc := 1) (fr_get fo_134_0 1 rfl) ic_1 ?_
  refine ex_aload_n (pc := 2) (fr_get fo_134_0 2 rfl) rfl rfl ?_
  refine ex_gr (pc := 3) (fr_get fo_134_0 3 rfl) ow_134 fr_9_40_40 (q := (47, 0)) rfl ?_
  refine ex_iload_n (pc := 6) (fr_get fo_134_0 4 rfl) rfl ?_
  refine xv_iald (pc := 7) (fr_get fo_134_0 5 rfl) gk_47 (n := 9) (gn_47 ..) rfl rfl h.1 ?_
  replace h := h.2
  refine ex_aload_n (pc := 8) (fr_get fo_134_0 6 rfl) rfl rfl ?_
  refine ex_gr (pc := 9) (fr_get fo_134_0 7 rfl) ow_134 fr_9_34_40 (q := (45, 0)) rfl ?_
  refine ex_iload_n (pc := 12) (fr_get fo_134_0 8 rfl) rfl ?_
  refine xv_iald (pc := 13) (fr_get fo_134_0 9 rfl) gk_45 (n := 9) (gn_45 ..) rfl rfl h.1 ?_
  replace h := h.2
  refine ex_iconst (pc := 14) (fr_get fo_134_0 10 rfl) ic_0 ?_
  refine ex_aload_n (pc := 15) (fr_get fo_134_0 11 rfl) rfl rfl ?_
  refine ex_gr (pc := 16) (fr_get fo_134_0 12 rfl) ow_134 fr_9_31_40 (q := (44, 0)) rfl ?_
  refine ex_iload_n (pc := 19) (fr_get fo_134_0 13 rfl) rfl ?_
  refine xv_iald (pc := 20) (fr_get fo_134_0 14 rfl) gk_44 (n := 9) (gn_44 ..) rfl rfl h.1 ?_
  replace h := h.2
  refine ex_iload_n (pc := 21) (fr_get fo_134_0 15 rfl) rfl ?_
  refine ex_aload_n (pc := 22) (fr_get fo_134_1 0 rfl) rfl rfl ?_
  refine ex_gr (pc := 23) (fr_get fo_134_1 1 rfl) ow_134 fr_9_43_40 (q := (48, 0)) rfl ?_
  refine ex_iload_n (pc := 26) (fr_get fo_134_1 2 rfl) rfl ?_
  refine xv_iald (pc := 27) (fr_get fo_134_1 3 rfl) gk_48 (n := 9) (gn_48 ..) rfl rfl h.1 ?_
  replace h := h.2
  refine ex_aload_n (pc := 28) (fr_get fo_134_1 4 rfl) rfl rfl ?_
  refine ex_gr (pc := 29) (fr_get fo_134_1 5 rfl) ow_134 fr_9_40_40 (q := (47, 0)) rfl ?_
  refine ex_iload_n (pc := 32) (fr_get fo_134_1 6 rfl) rfl ?_
  refine xv_iald (pc := 33) (fr_get fo_134_1 7 rfl) gk_47 (n := 9) (gn_47 ..) rfl rfl h.1 ?_
  replace h := h.2
  refine ex_isub (pc := 34) (fr_get fo_134_1 8 rfl) ?_
  refine xv_kv1 (pc := 35) (fr_get fo_134_1 9 rfl) cc_134_67 (as := [.inr (.inr (40, 0)), .inl (1 : Int32), .inl (I 47 0 a1.toNatClampNeg), .inl (I 45 0 a1.toNatClampNeg), .inl (0 : Int32), .inl (I 44 0 a1.toNatClampNeg), .inl a1, .inl ((I 48 0 a1.toNatClampNeg) - (I 47 0 a1.toNatClampNeg))]) (rs := []) rfl rfl rfl rfl rfl ?_
  refine h.mono (fun r J1 p2 h => ?_)
  obtain ⟨x3, hr, h⟩ := h
  refine ⟨x3, hr, ?_⟩
  exact ex_ireturn (pc := 38) (fr_get fo_134_1 10 rfl) rt_134 rfl rfl (ma_end_mk h)

theorem e_135 {d : Nat} {I : ma_I} {o : Nat} {Q : ma_Q} {a1 : Int32} {a2 : Int32} {a3 : Int32}
  (h :
    (¬((0 : Int32) ≤ a1 ∧ a1 ≤ ((I 40 0 4) - 1)) →
      Q (some (.inl (-2 : Int32))) I o) ∧
    ((0 : Int32) ≤ a1 ∧ a1 ≤ ((I 40 0 4) - 1) →
      (¬((0 : Int32) ≤ a3 ∧ a3 ≤ (2 : Int32)) →
        Q (some (.inl (-2 : Int32))) I o) ∧
      ((0 : Int32) ≤ a3 ∧ a3 ≤ (2 : Int32) →
        ((2 : Int32) ≤ a3 →
          (a3 ≠ 0 →
            (a3 ≠ (1 : Int32) →
              Exm (d + 1) 134 [.inr (.inr (40, 0)), .inl a1] I o (fun r J1 p2 => ∃ x3 : Int32, r = some (.inl x3) ∧
                Q (some (.inl x3)) J1 p2)) ∧
            (a3 = (1 : Int32) →
              Exm (d + 1) 133 [.inr (.inr (40, 0)), .inl a1, .inl a2, .inl (0 : Int32), .inl (0 : Int32)] I o (fun r J4 p5 => ∃ x6 : Int32, r = some (.inl x6) ∧
                Q (some (.inl x6)) J4 p5))) ∧
          (a3 = 0 →
            Exm (d + 1) 132 [.inr (.inr (40, 0)), .inl a1, .inl a2] I o (fun r J7 p8 => ∃ x9 : Int32, r = some (.inl x9) ∧
              (x9 = 0 →
                Q (some (.inl (0 : Int32))) J7 p8) ∧
              (x9 ≠ 0 →
                Q (some (.inl (1 : Int32))) J7 p8)))) ∧
        (a3 < (2 : Int32) →
          ((0 : Int32) ≤ a2 ∧ a2 ≤ (99 : Int32) →
            (a3 ≠ 0 →
              (a3 ≠ (1 : Int32) →
                Exm (d + 1) 134 [.inr (.inr (40, 0)), .inl a1] I o (fun r J10 p11 => ∃ x12 : Int32, r = some (.inl x12) ∧
                  Q (some (.inl x12)) J10 p11)) ∧
              (a3 = (1 : Int32) →
                Exm (d + 1) 133 [.inr (.inr (40, 0)), .inl a1, .inl a2, .inl (0 : Int32), .inl (0 : Int32)] I o (fun r J13 p14 => ∃ x15 : Int32, r = some (.inl x15) ∧
                  Q (some (.inl x15)) J13 p14))) ∧
            (a3 = 0 →
              Exm (d + 1) 132 [.inr (.inr (40, 0)), .inl a1, .inl a2] I o (fun r J16 p17 => ∃ x18 : Int32, r = some (.inl x18) ∧
                (x18 = 0 →
                  Q (some (.inl (0 : Int32))) J16 p17) ∧
                (x18 ≠ 0 →
                  Q (some (.inl (1 : Int32))) J16 p17)))) ∧
          (¬((0 : Int32) ≤ a2 ∧ a2 ≤ (99 : Int32)) →
            Q (some (.inl (-2 : Int32))) I o))))) :
  Exm (d + 2) 135 [.inr (.inr (40, 0)), .inl a1, .inl a2, .inl a3] I o Q := by
  show Ex (d + 2) 135 (0, [some (.inr (.inr (40, 0))), some (.inl a1), some (.inl a2), some (.inl a3)], [], ma_mem I o, 0, 0) (ma_end Q)
  refine ex_aload_n (pc := 0) (fr_get fo_135_0 0 rfl) rfl rfl ?_
  refine ex_iload_n (pc := 1) (fr_get fo_135_0 1 rfl) rfl ?_
  refine xv_kv1 (pc := 2) (fr_get fo_135_0 2 rfl) cc_135_53 (as := [.inr (.inr (40, 0)), .inl a1]) (rs := []) rfl rfl rfl rfl rfl ?_
  refine sm_123 rfl ?_
  refine ⟨_, rfl, ?_⟩
  refine xv_peq (pc := 5) (fr_get fo_135_0 3 rfl) (t := 29) rfl (fun c => ?_) (fun c => ?_)
  · replace h := h.1 c
    refine ex_bipush (pc := 29) (fr_get fo_135_0 15 rfl) bp_m2 ?_
    exact ex_ireturn (pc := 31) (fr_get fo_135_1 0 rfl) rt_135 rfl rfl (ma_end_mk h)
  · replace h := h.2 c
    refine ex_iload_n (pc := 8) (fr_get fo_135_0 4 rfl) rfl ?_
    refine ex_iconst (pc := 9) (fr_get fo_135_0 5 rfl) ic_0 ?_
    refine ex_iconst (pc := 10) (fr_get fo_135_0 6 rfl) ic_2 ?_
    refine xv_ks1 (pc := 11) (fr_get fo_135_0 7 rfl) cc_135_3 (as := [.inl a3, .inl (0 : Int32), .inl (2 : Int32)]) (rs := []) rfl rfl rfl rfl ?_
    refine sm_118 ?_
    refine ⟨_, rfl, ?_⟩
    refine xv_peq (pc := 14) (fr_get fo_135_0 8 rfl) (t := 29) rfl (fun c => ?_) (fun c => ?_)
    · replace h := h.1 c
      refine ex_bipush (pc := 29) (fr_get fo_135_0 15 rfl) bp_m2 ?_
      exact ex_ireturn (pc := 31) (fr_get fo_135_1 0 rfl) rt_135 rfl rfl (ma_end_mk h)
    · replace h := h.2 c
      refine ex_iload_n (pc := 17) (fr_get fo_135_0 9 rfl) rfl ?_
      refine ex_iconst (pc := 18) (fr_get fo_135_0 10 rfl) ic_2 ?_
      refine xv_cge (pc := 19) (fr_get fo_135_0 11 rfl) (t := 32) rfl (fun c => ?_) (fun c => ?_)
      · replace h := h.1 c
        refine ex_iload_n (pc := 32) (fr_get fo_135_1 1 rfl) rfl ?_
        refine xv_bne (pc := 33) (fr_get fo_135_1 2 rfl) (t := 53) rfl (fun c => ?_) (fun c => ?_)
        · replace h := h.1 c
          refine ex_iload_n (pc := 53) (fr_get fo_135_1 12 rfl) rfl ?_
          refine ex_iconst (pc := 54) (fr_get fo_135_1 13 rfl) ic_1 ?_
          refine xv_cne (pc := 55) (fr_get fo_135_1 14 rfl) (t := 69) rfl (fun c => ?_) (fun c => ?_)
          · replace h := h.1 c
            refine ex_aload_n (pc := 69) (fr_get fo_135_2 6 rfl) rfl rfl ?_
            refine ex_iload_n (pc := 70) (fr_get fo_135_2 7 rfl) rfl ?_
            refine xv_kv1 (pc := 71) (fr_get fo_135_2 8 rfl) cc_135_79 (as := [.inr (.inr (40, 0)), .inl a1]) (rs := []) rfl rfl rfl rfl rfl ?_
            refine h.mono (fun r J1 p2 h => ?_)
            obtain ⟨x3, hr, h⟩ := h
            refine ⟨x3, hr, ?_⟩
            exact ex_ireturn (pc := 74) (fr_get fo_135_2 9 rfl) rt_135 rfl rfl (ma_end_mk h)
          · replace h := h.2 c
            refine ex_aload_n (pc := 58) (fr_get fo_135_1 15 rfl) rfl rfl ?_
            refine ex_iload_n (pc := 59) (fr_get fo_135_2 0 rfl) rfl ?_
            refine ex_iload_n (pc := 60) (fr_get fo_135_2 1 rfl) rfl ?_
            refine ex_iconst (pc := 61) (fr_get fo_135_2 2 rfl) ic_0 ?_
            refine ex_iconst (pc := 62) (fr_get fo_135_2 3 rfl) ic_0 ?_
            refine xv_kv1 (pc := 63) (fr_get fo_135_2 4 rfl) cc_135_75 (as := [.inr (.inr (40, 0)), .inl a1, .inl a2, .inl (0 : Int32), .inl (0 : Int32)]) (rs := []) rfl rfl rfl rfl rfl ?_
            refine h.mono (fun r J4 p5 h => ?_)
            obtain ⟨x6, hr, h⟩ := h
            refine ⟨x6, hr, ?_⟩
            refine ex_goto (pc := 66) (fr_get fo_135_2 5 rfl) (t := 74) rfl ?_
            exact ex_ireturn (pc := 74) (fr_get fo_135_2 9 rfl) rt_135 rfl rfl (ma_end_mk h)
        · replace h := h.2 c
          refine ex_aload_n (pc := 36) (fr_get fo_135_1 3 rfl) rfl rfl ?_
          refine ex_iload_n (pc := 37) (fr_get fo_135_1 4 rfl) rfl ?_
          refine ex_iload_n (pc := 38) (fr_get fo_135_1 5 rfl) rfl ?_
          refine xv_kv1 (pc := 39) (fr_get fo_135_1 6 rfl) cc_135_71 (as := [.inr (.inr (40, 0)), .inl a1, .inl a2]) (rs := []) rfl rfl rfl rfl rfl ?_
          refine h.mono (fun r J7 p8 h => ?_)
          obtain ⟨x9, hr, h⟩ := h
          refine ⟨x9, hr, ?_⟩
          refine xv_beq (pc := 42) (fr_get fo_135_1 7 rfl) (t := 49) rfl (fun c => ?_) (fun c => ?_)
          · replace h := h.1 c
            refine ex_iconst (pc := 49) (fr_get fo_135_1 10 rfl) ic_0 ?_
            refine ex_goto (pc := 50) (fr_get fo_135_1 11 rfl) (t := 74) rfl ?_
            exact ex_ireturn (pc := 74) (fr_get fo_135_2 9 rfl) rt_135 rfl rfl (ma_end_mk h)
          · replace h := h.2 c
            refine ex_iconst (pc := 45) (fr_get fo_135_1 8 rfl) ic_1 ?_
            refine ex_goto (pc := 46) (fr_get fo_135_1 9 rfl) (t := 74) rfl ?_
            exact ex_ireturn (pc := 74) (fr_get fo_135_2 9 rfl) rt_135 rfl rfl (ma_end_mk h)
      · replace h := h.2 c
        refine ex_iload_n (pc := 22) (fr_get fo_135_0 12 rfl) rfl ?_
        refine xv_ks1 (pc := 23) (fr_get fo_135_0 13 rfl) cc_135_11 (as := [.inl a2]) (rs := []) rfl rfl rfl rfl ?_
        refine sm_122 ?_
        refine ⟨_, rfl, ?_⟩
        refine xv_pne (pc := 26) (fr_get fo_135_0 14 rfl) (t := 32) rfl (fun c => ?_) (fun c => ?_)
        · replace h := h.1 c
          refine ex_iload_n (pc := 32) (fr_get fo_135_1 1 rfl) rfl ?_
          refine xv_bne (pc := 33) (fr_get fo_135_1 2 rfl) (t := 53) rfl (fun c => ?_) (fun c => ?_)
          · replace h := h.1 c
            refine ex_iload_n (pc := 53) (fr_get fo_135_1 12 rfl) rfl ?_
            refine ex_iconst (pc := 54) (fr_get fo_135_1 13 rfl) ic_1 ?_
            refine xv_cne (pc := 55) (fr_get fo_135_1 14 rfl) (t := 69) rfl (fun c => ?_) (fun c => ?_)
            · replace h := h.1 c
              refine ex_aload_n (pc := 69) (fr_get fo_135_2 6 rfl) rfl rfl ?_
              refine ex_iload_n (pc := 70) (fr_get fo_135_2 7 rfl) rfl ?_
              refine xv_kv1 (pc := 71) (fr_get fo_135_2 8 rfl) cc_135_79 (as := [.inr (.inr (40, 0)), .inl a1]) (rs := []) rfl rfl rfl rfl rfl ?_
              refine h.mono (fun r J10 p11 h => ?_)
              obtain ⟨x12, hr, h⟩ := h
              refine ⟨x12, hr, ?_⟩
              exact ex_ireturn (pc := 74) (fr_get fo_135_2 9 rfl) rt_135 rfl rfl (ma_end_mk h)
            · replace h := h.2 c
              refine ex_aload_n (pc := 58) (fr_get fo_135_1 15 rfl) rfl rfl ?_
              refine ex_iload_n (pc := 59) (fr_get fo_135_2 0 rfl) rfl ?_
              refine ex_iload_n (pc := 60) (fr_get fo_135_2 1 rfl) rfl ?_
              refine ex_iconst (pc := 61) (fr_get fo_135_2 2 rfl) ic_0 ?_
              refine ex_iconst (pc := 62) (fr_get fo_135_2 3 rfl) ic_0 ?_
              refine xv_kv1 (pc := 63) (fr_get fo_135_2 4 rfl) cc_135_75 (as := [.inr (.inr (40, 0)), .inl a1, .inl a2, .inl (0 : Int32), .inl (0 : Int32)]) (rs := []) rfl rfl rfl rfl rfl ?_
              refine h.mono (fun r J13 p14 h => ?_)
              obtain ⟨x15, hr, h⟩ := h
              refine ⟨x15, hr, ?_⟩
              refine ex_goto (pc := 66) (fr_get fo_135_2 5 rfl) (t := 74) rfl ?_
              exact ex_ireturn (pc := 74) (fr_get fo_135_2 9 rfl) rt_135 rfl rfl (ma_end_mk h)
          · replace h := h.2 c
            refine ex_aload_n (pc := 36) (fr_get fo_135_1 3 rfl) rfl rfl ?_
            refine ex_iload_n (pc := 37) (fr_get fo_135_1 4 rfl) rfl ?_
            refine ex_iload_n (pc := 38) (fr_get fo_135_1 5 rfl) rfl ?_
            refine xv_kv1 (pc := 39) (fr_get fo_135_1 6 rfl) cc_135_71 (as := [.inr (.inr (40, 0)), .inl a1, .inl a2]) (rs := []) rfl rfl rfl rfl rfl ?_
            refine h.mono (fun r J16 p17 h => ?_)
            obtain ⟨x18, hr, h⟩ := h
            refine ⟨x18, hr, ?_⟩
            refine xv_beq (pc := 42) (fr_get fo_135_1 7 rfl) (t := 49) rfl (fun c => ?_) (fun c => ?_)
            · replace h := h.1 c
              refine ex_iconst (pc := 49) (fr_get fo_135_1 10 rfl) ic_0 ?_
              refine ex_goto (pc := 50) (fr_get fo_135_1 11 rfl) (t := 74) rfl ?_
              exact ex_ireturn (pc := 74) (fr_get fo_135_2 9 rfl) rt_135 rfl rfl (ma_end_mk h)
            · replace h := h.2 c
              refine ex_iconst (pc := 45) (fr_get fo_135_1 8 rfl) ic_1 ?_
              refine ex_goto (pc := 46) (fr_get fo_135_1 9 rfl) (t := 74) rfl ?_
              exact ex_ireturn (pc := 74) (fr_get fo_135_2 9 rfl) rt_135 rfl rfl (ma_end_mk h)
        · replace h := h.2 c
          refine ex_bipush (pc := 29) (fr_get fo_135_0 15 rfl) bp_m2 ?_
          exact ex_ireturn (pc := 31) (fr_get fo_135_1 0 rfl) rt_135 rfl rfl (ma_end_mk h)

theorem e_136 {d : Nat} {I : ma_I} {o : Nat} {Q : ma_Q} {a1 : Int32}
  (h :
    ((0 : Int32) ≤ a1 ∧ a1 ≤ (255 : Int32) →
      (I 40 0 12 ≠ (160 : Int32) →
        ma_in (I 40 0 12) 160 ∧
        Q (some (.inl ((I 40 0 12) + (1 : Int32)))) (ma_up (ma_up I 49 0 ((I 40 0 12).toNatClampNeg) a1) 40 0 12 ((I 40 0 12) + (1 : Int32))) o) ∧
      (I 40 0 12 = (160 : Int32) →
        Q (some (.inl (-4 : Int32))) I o)) ∧
    (¬((0 : Int32) ≤ a1 ∧ a1 ≤ (255 : Int32)) →
      Q (some (.inl (-2 : Int32))) I o)) :
  Exm (d + 1) 136 [.inr (.inr (40, 0)), .inl a1] I o Q := by
  show Ex (d + 1) 136 (0, [some (.inr (.inr (40, 0))), some (.inl a1)], [], ma_mem I o, 0, 0) (ma_end Q)
  refine ex_iload_n (pc := 0) (fr_get fo_136_0 0 rfl) rfl ?_
  refine ex_iconst (pc := 1) (fr_get fo_136_0 1 rfl) ic_0 ?_
  refine ex_sipush (pc := 2) (fr_get fo_136_0 2 rfl) sp_255 ?_
  refine xv_ks1 (pc := 5) (fr_get fo_136_0 3 rfl) cc_136_3 (as := [.inl a1, .inl (0 : Int32), .inl (255 : Int32)]) (rs := []) rfl rfl rfl rfl ?_
  refine sm_118 ?_
  refine ⟨_, rfl, ?_⟩
  refine xv_pne (pc := 8) (fr_get fo_136_0 4 rfl) (t := 14) rfl (fun c => ?_) (fun c => ?_)
  · replace h := h.1 c
    refine ex_aload_n (pc := 14) (fr_get fo_136_0 7 rfl) rfl rfl ?_
    refine xv_gi (pc := 15) (fr_get fo_136_0 8 rfl) ow_136 fg_9_82_40 rfl ?_
    refine ex_sipush (pc := 18) (fr_get fo_136_0 9 rfl) sp_160 ?_
    refine xv_cne (pc := 21) (fr_get fo_136_0 10 rfl) (t := 27) rfl (fun c => ?_) (fun c => ?_)
    · replace h := h.1 c
      refine ex_aload_n (pc := 27) (fr_get fo_136_0 13 rfl) rfl rfl ?_
      refine ex_gr (pc := 28) (fr_get fo_136_0 14 rfl) ow_136 fr_9_85_40 (q := (49, 0)) rfl ?_
      refine ex_aload_n (pc := 31) (fr_get fo_136_0 15 rfl) rfl rfl ?_
      refine xv_gi (pc := 32) (fr_get fo_136_1 0 rfl) ow_136 fg_9_82_40 rfl ?_
      refine ex_iload_n (pc := 35) (fr_get fo_136_1 1 rfl) rfl ?_
      refine xv_iast (pc := 36) (fr_get fo_136_1 2 rfl) gs_49 gl_49 rfl h.1 ?_
      replace h := h.2
      refine ex_aload_n (pc := 37) (fr_get fo_136_1 3 rfl) rfl rfl ?_
      refine ex_dupr (pc := 38) (fr_get fo_136_1 4 rfl) ?_
      refine xv_gi (pc := 39) (fr_get fo_136_1 5 rfl) ow_136 fg_9_82_40 (xv_ug rfl) ?_
      refine ex_iconst (pc := 42) (fr_get fo_136_1 6 rfl) ic_1 ?_
      refine ex_iadd (pc := 43) (fr_get fo_136_1 7 rfl) ?_
      refine ex_pi (pc := 44) (fr_get fo_136_1 8 rfl) ow_136 fp_9_82_40 ?_
      refine ex_aload_n (pc := 47) (fr_get fo_136_1 9 rfl) rfl rfl ?_
      refine xv_gi (pc := 48) (fr_get fo_136_1 10 rfl) ow_136 fg_9_82_40 xv_us ?_
      exact ex_ireturn (pc := 51) (fr_get fo_136_1 11 rfl) rt_136 rfl rfl (ma_end_mk h)
    · replace h := h.2 c
      refine ex_bipush (pc := 24) (fr_get fo_136_0 11 rfl) bp_m4 ?_
      exact ex_ireturn (pc := 26) (fr_get fo_136_0 12 rfl) rt_136 rfl rfl (ma_end_mk h)
  · replace h := h.2 c
    refine ex_bipush (pc := 11) (fr_get fo_136_0 5 rfl) bp_m2 ?_
    exact ex_ireturn (pc := 13) (fr_get fo_136_0 6 rfl) rt_136 rfl rfl (ma_end_mk h)

theorem e_137 {d : Nat} {I : ma_I} {o : Nat} {Q : ma_Q} {a1 : Int32}
  (h :
    (I 40 0 12 ≤ a1 →
      Q (some (.inl (0 : Int32))) I o) ∧
    (a1 < I 40 0 12 →
      ma_in a1 160 ∧
      (I 49 0 a1.toNatClampNeg < (97 : Int32) →
        Q (some (.inl (0 : Int32))) I o) ∧
      ((97 : Int32) ≤ I 49 0 a1.toNatClampNeg →
        ma_in a1 160 ∧
        ((122 : Int32) < I 49 0 a1.toNatClampNeg →
          Q (some (.inl (0 : Int32))) I o) ∧
        (I 49 0 a1.toNatClampNeg ≤ (122 : Int32) →
          Q (some (.inl (1 : Int32))) I o)))) :
  Exm (d) 137 [.inr (.inr (40, 0)), .inl a1] I o Q := by
  show Ex (d) 137 (0, [some (.inr (.inr (40, 0))), some (.inl a1)], [], ma_mem I o, 0, 0) (ma_end Q)
  refine ex_iload_n (pc := 0) (fr_get fo_137_0 0 rfl) rfl ?_
  refine ex_aload_n (pc := 1) (fr_get fo_137_0 1 rfl) rfl rfl ?_
  refine xv_gi (pc := 2) (fr_get fo_137_0 2 rfl) ow_137 fg_9_82_40 rfl ?_
  refine xv_cge (pc := 5) (fr_get fo_137_0 3 rfl) (t := 34) rfl (fun c => ?_) (fun c => ?_)
  · replace h := h.1 c
    refine ex_iconst (pc := 34) (fr_get fo_137_1 2 rfl) ic_0 ?_
    exact ex_zreturn (pc := 35) (fr_get fo_137_1 3 rfl) rt_137 rfl rfl ⟨Or.inl rfl, ma_end_mk h⟩
  · replace h := h.2 c
    refine ex_aload_n (pc := 8) (fr_get fo_137_0 4 rfl) rfl rfl ?_
    refine ex_gr (pc := 9) (fr_get fo_137_0 5 rfl) ow_137 fr_9_85_40 (q := (49, 0)) rfl ?_
    refine ex_iload_n (pc := 12) (fr_get fo_137_0 6 rfl) rfl ?_
    refine xv_iald (pc := 13) (fr_get fo_137_0 7 rfl) gk_49 (n := 160) (gn_49 ..) rfl rfl h.1 ?_
    replace h := h.2
    refine ex_bipush (pc := 14) (fr_get fo_137_0 8 rfl) bp_97 ?_
    refine xv_clt (pc := 16) (fr_get fo_137_0 9 rfl) (t := 34) rfl (fun c => ?_) (fun c => ?_)
    · replace h := h.1 c
      refine ex_iconst (pc := 34) (fr_get fo_137_1 2 rfl) ic_0 ?_
      exact ex_zreturn (pc := 35) (fr_get fo_137_1 3 rfl) rt_137 rfl rfl ⟨Or.inl rfl, ma_end_mk h⟩
    · replace h := h.2 c
      refine ex_aload_n (pc := 19) (fr_get fo_137_0 10 rfl) rfl rfl ?_
      refine ex_gr (pc := 20) (fr_get fo_137_0 11 rfl) ow_137 fr_9_85_40 (q := (49, 0)) rfl ?_
      refine ex_iload_n (pc := 23) (fr_get fo_137_0 12 rfl) rfl ?_
      refine xv_iald (pc := 24) (fr_get fo_137_0 13 rfl) gk_49 (n := 160) (gn_49 ..) rfl rfl h.1 ?_
      replace h := h.2
      refine ex_bipush (pc := 25) (fr_get fo_137_0 14 rfl) bp_122 ?_
      refine xv_cgt (pc := 27) (fr_get fo_137_0 15 rfl) (t := 34) rfl (fun c => ?_) (fun c => ?_)
      · replace h := h.1 c
        refine ex_iconst (pc := 34) (fr_get fo_137_1 2 rfl) ic_0 ?_
        exact ex_zreturn (pc := 35) (fr_get fo_137_1 3 rfl) rt_137 rfl rfl ⟨Or.inl rfl, ma_end_mk h⟩
      · replace h := h.2 c
        refine ex_iconst (pc := 30) (fr_get fo_137_1 0 rfl) ic_1 ?_
        refine ex_goto (pc := 31) (fr_get fo_137_1 1 rfl) (t := 35) rfl ?_
        exact ex_zreturn (pc := 35) (fr_get fo_137_1 3 rfl) rt_137 rfl rfl ⟨Or.inr rfl, ma_end_mk h⟩

theorem e_138 {d : Nat} {I : ma_I} {o : Nat} {Q : ma_Q} {a1 : Int32}
  (h :
    (I 40 0 12 ≤ a1 →
      Q (some (.inl (0 : Int32))) I o) ∧
    (a1 < I 40 0 12 →
      ma_in a1 160 ∧
      (I 49 0 a1.toNatClampNeg < (48 : Int32) →
        Q (some (.inl (0 : Int32))) I o) ∧
      ((48 : Int32) ≤ I 49 0 a1.toNatClampNeg →
        ma_in a1 160 ∧
        ((57 : Int32) < I 49 0 a1.toNatClampNeg →
          Q (some (.inl (0 : Int32))) I o) ∧
        (I 49 0 a1.toNatClampNeg ≤ (57 : Int32) →
          Q (some (.inl (1 : Int32))) I o)))) :
  Exm (d) 138 [.inr (.inr (40, 0)), .inl a1] I o Q := by
  show Ex (d) 138 (0, [some (.inr (.inr (40, 0))), some (.inl a1)], [], ma_mem I o, 0, 0) (ma_end Q)
  refine ex_iload_n (pc := 0) (fr_get fo_138_0 0 rfl) rfl ?_
  refine ex_aload_n (pc := 1) (fr_get fo_138_0 1 rfl) rfl rfl ?_
  refine xv_gi (pc := 2) (fr_get fo_138_0 2 rfl) ow_138 fg_9_82_40 rfl ?_
  refine xv_cge (pc := 5) (fr_get fo_138_0 3 rfl) (t := 34) rfl (fun c => ?_) (fun c => ?_)
  · replace h := h.1 c
    refine ex_iconst (pc := 34) (fr_get fo_138_1 2 rfl) ic_0 ?_
    exact ex_zreturn (pc := 35) (fr_get fo_138_1 3 rfl) rt_138 rfl rfl ⟨Or.inl rfl, ma_end_mk h⟩
  · replace h := h.2 c
    refine ex_aload_n (pc := 8) (fr_get fo_138_0 4 rfl) rfl rfl ?_
    refine ex_gr (pc := 9) (fr_get fo_138_0 5 rfl) ow_138 fr_9_85_40 (q := (49, 0)) rfl ?_
    refine ex_iload_n (pc := 12) (fr_get fo_138_0 6 rfl) rfl ?_
    refine xv_iald (pc := 13) (fr_get fo_138_0 7 rfl) gk_49 (n := 160) (gn_49 ..) rfl rfl h.1 ?_
    replace h := h.2
    refine ex_bipush (pc := 14) (fr_get fo_138_0 8 rfl) bp_48 ?_
    refine xv_clt (pc := 16) (fr_get fo_138_0 9 rfl) (t := 34) rfl (fun c => ?_) (fun c => ?_)
    · replace h := h.1 c
      refine ex_iconst (pc := 34) (fr_get fo_138_1 2 rfl) ic_0 ?_
      exact ex_zreturn (pc := 35) (fr_get fo_138_1 3 rfl) rt_138 rfl rfl ⟨Or.inl rfl, ma_end_mk h⟩
    · replace h := h.2 c
      refine ex_aload_n (pc := 19) (fr_get fo_138_0 10 rfl) rfl rfl ?_
      refine ex_gr (pc := 20) (fr_get fo_138_0 11 rfl) ow_138 fr_9_85_40 (q := (49, 0)) rfl ?_
      refine ex_iload_n (pc := 23) (fr_get fo_138_0 12 rfl) rfl ?_
      refine xv_iald (pc := 24) (fr_get fo_138_0 13 rfl) gk_49 (n := 160) (gn_49 ..) rfl rfl h.1 ?_
      replace h := h.2
      refine ex_bipush (pc := 25) (fr_get fo_138_0 14 rfl) bp_57 ?_
      refine xv_cgt (pc := 27) (fr_get fo_138_0 15 rfl) (t := 34) rfl (fun c => ?_) (fun c => ?_)
      · replace h := h.1 c
        refine ex_iconst (pc := 34) (fr_get fo_138_1 2 rfl) ic_0 ?_
        exact ex_zreturn (pc := 35) (fr_get fo_138_1 3 rfl) rt_138 rfl rfl ⟨Or.inl rfl, ma_end_mk h⟩
      · replace h := h.2 c
        refine ex_iconst (pc := 30) (fr_get fo_138_1 0 rfl) ic_1 ?_
        refine ex_goto (pc := 31) (fr_get fo_138_1 1 rfl) (t := 35) rfl ?_
        exact ex_zreturn (pc := 35) (fr_get fo_138_1 3 rfl) rt_138 rfl rfl ⟨Or.inr rfl, ma_end_mk h⟩

theorem e_139 {d : Nat} {I : ma_I} {o : Nat} {Q : ma_Q} 
  (h :
    Ex (d + 1) 139 (0, [some (.inr (.inr (40, 0))), none, none, none, none], [], ma_mem I o, 0, 0) (ma_end Q)) :
  Exm (d + 1) 139 [.inr (.inr (40, 0))] I o Q := by
  show Ex (d + 1) 139 (0, [some (.inr (.inr (40, 0))), none, none, none, none], [], ma_mem I o, 0, 0) (ma_end Q)
  exact h

theorem b_139_0 {d : Nat} {I : ma_I} {o : Nat} {Q : ma_Q} 
  (h :
    Exm (d) 137 [.inr (.inr (40, 0)), .inl (I 40 0 17)] I o (fun r J1 p2 => ∃ x3 : Int32, r = some (.inl x3) ∧
      (x3 = 0 →
        Ex (d + 1) 139 (32, [some (.inr (.inr (40, 0))), some (.inl (0 : Int32)), none, none, none], [], ma_mem (ma_up J1 40 0 18 (6 : Int32)) p2, 0, 0) (ma_end Q)) ∧
      (x3 ≠ 0 →
        Ex (d + 1) 139 (0, [some (.inr (.inr (40, 0))), none, none, none, none], [], ma_mem (ma_up J1 40 0 17 ((J1 40 0 17) + (1 : Int32))) p2, 0, 0) (ma_end Q)))) :
  Ex (d + 1) 139 (0, [some (.inr (.inr (40, 0))), none, none, none, none], [], ma_mem I o, 0, 0) (ma_end Q) := by
  refine ex_aload_n (pc := 0) (fr_get fo_139_0 0 rfl) rfl rfl ?_
  refine ex_aload_n (pc := 1) (fr_get fo_139_0 1 rfl) rfl rfl ?_
  refine xv_gi (pc := 2) (fr_get fo_139_0 2 rfl) ow_139 fg_9_88_40 rfl ?_
  refine xv_kv1 (pc := 5) (fr_get fo_139_0 3 rfl) cc_139_91 (as := [.inr (.inr (40, 0)), .inl (I 40 0 17)]) (rs := []) rfl rfl rfl rfl rfl ?_
  refine h.mono (fun r J1 p2 h => ?_)
  obtain ⟨x3, hr, h⟩ := h
  refine ⟨x3, hr, ?_⟩
  refine xv_beq (pc := 8) (fr_get fo_139_0 4 rfl) (t := 24) rfl (fun c => ?_) (fun c => ?_)
  · replace h := h.1 c
    refine ex_aload_n (pc := 24) (fr_get fo_139_0 12 rfl) rfl rfl ?_
    refine ex_bipush (pc := 25) (fr_get fo_139_0 13 rfl) bp_6 ?_
    refine ex_pi (pc := 27) (fr_get fo_139_0 14 rfl) ow_139 fp_9_94_40 ?_
    refine ex_iconst (pc := 30) (fr_get fo_139_0 15 rfl) ic_0 ?_
    refine ex_istore_n (pc := 31) (fr_get fo_139_1 0 rfl) rfl (L' := [some (.inr (.inr (40, 0))), some (.inl (0 : Int32)), none, none, none]) rfl ?_
    exact h
  · replace h := h.2 c
    refine ex_aload_n (pc := 11) (fr_get fo_139_0 5 rfl) rfl rfl ?_
    refine ex_dupr (pc := 12) (fr_get fo_139_0 6 rfl) ?_
    refine xv_gi (pc := 13) (fr_get fo_139_0 7 rfl) ow_139 fg_9_88_40 rfl ?_
    refine ex_iconst (pc := 16) (fr_get fo_139_0 8 rfl) ic_1 ?_
    refine ex_iadd (pc := 17) (fr_get fo_139_0 9 rfl) ?_
    refine ex_pi (pc := 18) (fr_get fo_139_0 10 rfl) ow_139 fp_9_88_40 ?_
    refine ex_goto (pc := 21) (fr_get fo_139_0 11 rfl) (t := 0) rfl ?_
    exact h

theorem b_139_32 {d : Nat} {I : ma_I} {o : Nat} {Q : ma_Q} {v1 : Int32} {w2 : Option ma_V} {w3 : Option ma_V} {w4 : Option ma_V}
  (h :
    ((12 : Int32) ≤ v1 →
      Q none I o) ∧
    (v1 < (12 : Int32) →
      ma_in (v1 + (1 : Int32)) 13 ∧
      ma_in v1 13 ∧
      ((I 53 0 ((v1 + (1 : Int32)).toNatClampNeg)) - (I 53 0 v1.toNatClampNeg) ≠ (I 40 0 17) - (I 40 0 20) →
        Ex (d + 1) 139 (76, [some (.inr (.inr (40, 0))), some (.inl v1), some (.inl ((I 53 0 ((v1 + (1 : Int32)).toNatClampNeg)) - (I 53 0 v1.toNatClampNeg))), some (.inl (0 : Int32)), some (.inl (0 : Int32))], [], ma_mem I o, 0, 0) (ma_end Q)) ∧
      ((I 53 0 ((v1 + (1 : Int32)).toNatClampNeg)) - (I 53 0 v1.toNatClampNeg) = (I 40 0 17) - (I 40 0 20) →
        Ex (d + 1) 139 (76, [some (.inr (.inr (40, 0))), some (.inl v1), some (.inl ((I 53 0 ((v1 + (1 : Int32)).toNatClampNeg)) - (I 53 0 v1.toNatClampNeg))), some (.inl (1 : Int32)), some (.inl (0 : Int32))], [], ma_mem I o, 0, 0) (ma_end Q)))) :
  Ex (d + 1) 139 (32, [some (.inr (.inr (40, 0))), some (.inl v1), w2, w3, w4], [], ma_mem I o, 0, 0) (ma_end Q) := by
  refine ex_iload_n (pc := 32) (fr_get fo_139_1 1 rfl) rfl ?_
  refine ex_bipush (pc := 33) (fr_get fo_139_1 2 rfl) bp_12 ?_
  refine xv_cge (pc := 35) (fr_get fo_139_1 3 rfl) (t := 170) rfl (fun c => ?_) (fun c => ?_)
  · replace h := h.1 c
    exact ex_return (pc := 170) (fr_get fo_139_5 15 rfl) rt_139 rfl rfl (ma_end_mk h)
  · replace h := h.2 c
    refine ex_aload_n (pc := 38) (fr_get fo_139_1 4 rfl) rfl rfl ?_
    refine ex_gr (pc := 39) (fr_get fo_139_1 5 rfl) ow_139 fr_9_97_40 (q := (53, 0)) rfl ?_
    refine ex_iload_n (pc := 42) (fr_get fo_139_1 6 rfl) rfl ?_
    refine ex_iconst (pc := 43) (fr_get fo_139_1 7 rfl) ic_1 ?_
    refine ex_iadd (pc := 44) (fr_get fo_139_1 8 rfl) ?_
    refine xv_iald (pc := 45) (fr_get fo_139_1 9 rfl) gk_53 (n := 13) (gn_53 ..) rfl rfl h.1 ?_
    replace h := h.2
    refine ex_aload_n (pc := 46) (fr_get fo_139_1 10 rfl) rfl rfl ?_
    refine ex_gr (pc := 47) (fr_get fo_139_1 11 rfl) ow_139 fr_9_97_40 (q := (53, 0)) rfl ?_
    refine ex_iload_n (pc := 50) (fr_get fo_139_1 12 rfl) rfl ?_
    refine xv_iald (pc := 51) (fr_get fo_139_1 13 rfl) gk_53 (n := 13) (gn_53 ..) rfl rfl h.1 ?_
    replace h := h.2
    refine ex_isub (pc := 52) (fr_get fo_139_1 14 rfl) ?_
    refine ex_istore_n (pc := 53) (fr_get fo_139_1 15 rfl) rfl (L' := [some (.inr (.inr (40, 0))), some (.inl v1), some (.inl ((I 53 0 ((v1 + (1 : Int32)).toNatClampNeg)) - (I 53 0 v1.toNatClampNeg))), w3, w4]) rfl ?_
    refine ex_iload_n (pc := 54) (fr_get fo_139_2 0 rfl) rfl ?_
    refine ex_aload_n (pc := 55) (fr_get fo_139_2 1 rfl) rfl rfl ?_
    refine xv_gi (pc := 56) (fr_get fo_139_2 2 rfl) ow_139 fg_9_88_40 rfl ?_
    refine ex_aload_n (pc := 59) (fr_get fo_139_2 3 rfl) rfl rfl ?_
    refine xv_gi (pc := 60) (fr_get fo_139_2 4 rfl) ow_139 fg_9_100_40 rfl ?_
    refine ex_isub (pc := 63) (fr_get fo_139_2 5 rfl) ?_
    refine xv_cne (pc := 64) (fr_get fo_139_2 6 rfl) (t := 71) rfl (fun c => ?_) (fun c => ?_)
    · replace h := h.1 c
      refine ex_iconst (pc := 71) (fr_get fo_139_2 9 rfl) ic_0 ?_
      refine ex_istore_n (pc := 72) (fr_get fo_139_2 10 rfl) rfl (L' := [some (.inr (.inr (40, 0))), some (.inl v1), some (.inl ((I 53 0 ((v1 + (1 : Int32)).toNatClampNeg)) - (I 53 0 v1.toNatClampNeg))), some (.inl (0 : Int32)), w4]) rfl ?_
      refine ex_iconst (pc := 73) (fr_get fo_139_2 11 rfl) ic_0 ?_
      refine ex_istore (pc := 74) (fr_get fo_139_2 12 rfl) rfl (L' := [some (.inr (.inr (40, 0))), some (.inl v1), some (.inl ((I 53 0 ((v1 + (1 : Int32)).toNatClampNeg)) - (I 53 0 v1.toNatClampNeg))), some (.inl (0 : Int32)), some (.inl (0 : Int32))]) rfl ?_
      exact h
    · replace h := h.2 c
      refine ex_iconst (pc := 67) (fr_get fo_139_2 7 rfl) ic_1 ?_
      refine ex_goto (pc := 68) (fr_get fo_139_2 8 rfl) (t := 72) rfl ?_
      refine ex_istore_n (pc := 72) (fr_get fo_139_2 10 rfl) rfl (L' := [some (.inr (.inr (40, 0))), some (.inl v1), some (.inl ((I 53 0 ((v1 + (1 : Int32)).toNatClampNeg)) - (I 53 0 v1.toNatClampNeg))), some (.inl (1 : Int32)), w4]) rfl ?_
      refine ex_iconst (pc := 73) (fr_get fo_139_2 11 rfl) ic_0 ?_
      refine ex_istore (pc := 74) (fr_get fo_139_2 12 rfl) rfl (L' := [some (.inr (.inr (40, 0))), some (.inl v1), some (.inl ((I 53 0 ((v1 + (1 : Int32)).toNatClampNeg)) - (I 53 0 v1.toNatClampNeg))), some (.inl (1 : Int32)), some (.inl (0 : Int32))]) rfl ?_
      exact h

theorem b_139_76 {d : Nat} {I : ma_I} {o : Nat} {Q : ma_Q} {v1 : Int32} {v2 : Int32} {v3 : Int32} {v4 : Int32}
  (h :
    (v2 ≤ v4 →
      (v3 = 0 →
        Ex (d + 1) 139 (32, [some (.inr (.inr (40, 0))), some (.inl (v1 + (1 : Int32))), some (.inl v2), some (.inl v3), some (.inl v4)], [], ma_mem I o, 0, 0) (ma_end Q)) ∧
      (v3 ≠ 0 →
        ((6 : Int32) ≤ v1 →
          ((6 : Int32) ≤ v1 →
            Ex (d + 1) 139 (32, [some (.inr (.inr (40, 0))), some (.inl (v1 + (1 : Int32))), some (.inl v2), some (.inl v3), some (.inl v4)], [], ma_mem (ma_up (ma_up I 40 0 18 (3 : Int32)) 40 0 19 (v1 - (6 : Int32))) o, 0, 0) (ma_end Q)) ∧
          (v1 < (6 : Int32) →
            Ex (d + 1) 139 (32, [some (.inr (.inr (40, 0))), some (.inl (v1 + (1 : Int32))), some (.inl v2), some (.inl v3), some (.inl v4)], [], ma_mem (ma_up (ma_up I 40 0 18 (3 : Int32)) 40 0 19 v1) o, 0, 0) (ma_end Q))) ∧
        (v1 < (6 : Int32) →
          ((6 : Int32) ≤ v1 →
            Ex (d + 1) 139 (32, [some (.inr (.inr (40, 0))), some (.inl (v1 + (1 : Int32))), some (.inl v2), some (.inl v3), some (.inl v4)], [], ma_mem (ma_up (ma_up I 40 0 18 (2 : Int32)) 40 0 19 (v1 - (6 : Int32))) o, 0, 0) (ma_end Q)) ∧
          (v1 < (6 : Int32) →
            Ex (d + 1) 139 (32, [some (.inr (.inr (40, 0))), some (.inl (v1 + (1 : Int32))), some (.inl v2), some (.inl v3), some (.inl v4)], [], ma_mem (ma_up (ma_up I 40 0 18 (2 : Int32)) 40 0 19 v1) o, 0, 0) (ma_end Q))))) ∧
    (v4 < v2 →
      (v3 = 0 →
        (v3 = 0 →
          Ex (d + 1) 139 (32, [some (.inr (.inr (40, 0))), some (.inl (v1 + (1 : Int32))), some (.inl v2), some (.inl v3), some (.inl v4)], [], ma_mem I o, 0, 0) (ma_end Q)) ∧
        (v3 ≠ 0 →
          ((6 : Int32) ≤ v1 →
            ((6 : Int32) ≤ v1 →
              Ex (d + 1) 139 (32, [some (.inr (.inr (40, 0))), some (.inl (v1 + (1 : Int32))), some (.inl v2), some (.inl v3), some (.inl v4)], [], ma_mem (ma_up (ma_up I 40 0 18 (3 : Int32)) 40 0 19 (v1 - (6 : Int32))) o, 0, 0) (ma_end Q)) ∧
            (v1 < (6 : Int32) →
              Ex (d + 1) 139 (32, [some (.inr (.inr (40, 0))), some (.inl (v1 + (1 : Int32))), some (.inl v2), some (.inl v3), some (.inl v4)], [], ma_mem (ma_up (ma_up I 40 0 18 (3 : Int32)) 40 0 19 v1) o, 0, 0) (ma_end Q))) ∧
          (v1 < (6 : Int32) →
            ((6 : Int32) ≤ v1 →
              Ex (d + 1) 139 (32, [some (.inr (.inr (40, 0))), some (.inl (v1 + (1 : Int32))), some (.inl v2), some (.inl v3), some (.inl v4)], [], ma_mem (ma_up (ma_up I 40 0 18 (2 : Int32)) 40 0 19 (v1 - (6 : Int32))) o, 0, 0) (ma_end Q)) ∧
            (v1 < (6 : Int32) →
              Ex (d + 1) 139 (32, [some (.inr (.inr (40, 0))), some (.inl (v1 + (1 : Int32))), some (.inl v2), some (.inl v3), some (.inl v4)], [], ma_mem (ma_up (ma_up I 40 0 18 (2 : Int32)) 40 0 19 v1) o, 0, 0) (ma_end Q))))) ∧
      (v3 ≠ 0 →
        ma_in ((I 40 0 20) + v4) 160 ∧
        ma_in v1 13 ∧
        ma_in ((I 53 0 v1.toNatClampNeg) + v4) 52 ∧
        (I 49 0 (((I 40 0 20) + v4).toNatClampNeg) ≠ I 52 0 (((I 53 0 v1.toNatClampNeg) + v4).toNatClampNeg) →
          Ex (d + 1) 139 (76, [some (.inr (.inr (40, 0))), some (.inl v1), some (.inl v2), some (.inl (0 : Int32)), some (.inl (v4 + (1 : Int32)))], [], ma_mem I o, 0, 0) (ma_end Q)) ∧
        (I 49 0 (((I 40 0 20) + v4).toNatClampNeg) = I 52 0 (((I 53 0 v1.toNatClampNeg) + v4).toNatClampNeg) →
          Ex (d + 1) 139 (76, [some (.inr (.inr (40, 0))), some (.inl v1), some (.inl v2), some (.inl (1 : Int32)), some (.inl (v4 + (1 : Int32)))], [], ma_mem I o, 0, 0) (ma_end Q))))) :
  Ex (d + 1) 139 (76, [some (.inr (.inr (40, 0))), some (.inl v1), some (.inl v2), some (.inl v3), some (.inl v4)], [], ma_mem I o, 0, 0) (ma_end Q) := by
  refine ex_iload (pc := 76) (fr_get fo_139_2 13 rfl) rfl ?_
  refine ex_iload_n (pc := 78) (fr_get fo_139_2 14 rfl) rfl ?_
  refine xv_cge (pc := 79) (fr_get fo_139_2 15 rfl) (t := 127) rfl (fun c => ?_) (fun c => ?_)
  · replace h := h.1 c
    refine ex_iload_n (pc := 127) (fr_get fo_139_4 9 rfl) rfl ?_
    refine xv_beq (pc := 128) (fr_get fo_139_4 10 rfl) (t := 164) rfl (fun c => ?_) (fun c => ?_)
    · replace h := h.1 c
      refine xv_iinc (pc := 164) (fr_get fo_139_5 13 rfl) rfl ic_1 (L' := [some (.inr (.inr (40, 0))), some (.inl (v1 + (1 : Int32))), some (.inl v2), some (.inl v3), some (.inl v4)]) rfl ?_
      refine ex_goto (pc := 167) (fr_get fo_139_5 14 rfl) (t := 32) rfl ?_
      exact h
    · replace h := h.2 c
      refine ex_aload_n (pc := 131) (fr_get fo_139_4 11 rfl) rfl rfl ?_
      refine ex_iload_n (pc := 132) (fr_get fo_139_4 12 rfl) rfl ?_
      refine ex_bipush (pc := 133) (fr_get fo_139_4 13 rfl) bp_6 ?_
      refine xv_cge (pc := 135) (fr_get fo_139_4 14 rfl) (t := 142) rfl (fun c => ?_) (fun c => ?_)
      · replace h := h.1 c
        refine ex_iconst (pc := 142) (fr_get fo_139_5 1 rfl) ic_3 ?_
        refine ex_pi (pc := 143) (fr_get fo_139_5 2 rfl) ow_139 fp_9_94_40 ?_
        refine ex_aload_n (pc := 146) (fr_get fo_139_5 3 rfl) rfl rfl ?_
        refine ex_iload_n (pc := 147) (fr_get fo_139_5 4 rfl) rfl ?_
        refine ex_bipush (pc := 148) (fr_get fo_139_5 5 rfl) bp_6 ?_
        refine xv_cge (pc := 150) (fr_get fo_139_5 6 rfl) (t := 157) rfl (fun c => ?_) (fun c => ?_)
        · replace h := h.1 c
          refine ex_iload_n (pc := 157) (fr_get fo_139_5 9 rfl) rfl ?_
          refine ex_bipush (pc := 158) (fr_get fo_139_5 10 rfl) bp_6 ?_
          refine ex_isub (pc := 160) (fr_get fo_139_5 11 rfl) ?_
          refine ex_pi (pc := 161) (fr_get fo_139_5 12 rfl) ow_139 fp_9_107_40 ?_
          refine xv_iinc (pc := 164) (fr_get fo_139_5 13 rfl) rfl ic_1 (L' := [some (.inr (.inr (40, 0))), some (.inl (v1 + (1 : Int32))), some (.inl v2), some (.inl v3), some (.inl v4)]) rfl ?_
          refine ex_goto (pc := 167) (fr_get fo_139_5 14 rfl) (t := 32) rfl ?_
          exact h
        · replace h := h.2 c
          refine ex_iload_n (pc := 153) (fr_get fo_139_5 7 rfl) rfl ?_
          refine ex_goto (pc := 154) (fr_get fo_139_5 8 rfl) (t := 161) rfl ?_
          refine ex_pi (pc := 161) (fr_get fo_139_5 12 rfl) ow_139 fp_9_107_40 ?_
          refine xv_iinc (pc := 164) (fr_get fo_139_5 13 rfl) rfl ic_1 (L' := [some (.inr (.inr (40, 0))), some (.inl (v1 + (1 : Int32))), some (.inl v2), some (.inl v3), some (.inl v4)]) rfl ?_
          refine ex_goto (pc := 167) (fr_get fo_139_5 14 rfl) (t := 32) rfl ?_
          exact h
      · replace h := h.2 c
        refine ex_iconst (pc := 138) (fr_get fo_139_4 15 rfl) ic_2 ?_
        refine ex_goto (pc := 139) (fr_get fo_139_5 0 rfl) (t := 143) rfl ?_
        refine ex_pi (pc := 143) (fr_get fo_139_5 2 rfl) ow_139 fp_9_94_40 ?_
        refine ex_aload_n (pc := 146) (fr_get fo_139_5 3 rfl) rfl rfl ?_
        refine ex_iload_n (pc := 147) (fr_get fo_139_5 4 rfl) rfl ?_
        refine ex_bipush (pc := 148) (fr_get fo_139_5 5 rfl) bp_6 ?_
        refine xv_cge (pc := 150) (fr_get fo_139_5 6 rfl) (t := 157) rfl (fun c => ?_) (fun c => ?_)
        · replace h := h.1 c
          refine ex_iload_n (pc := 157) (fr_get fo_139_5 9 rfl) rfl ?_
          refine ex_bipush (pc := 158) (fr_get fo_139_5 10 rfl) bp_6 ?_
          refine ex_isub (pc := 160) (fr_get fo_139_5 11 rfl) ?_
          refine ex_pi (pc := 161) (fr_get fo_139_5 12 rfl) ow_139 fp_9_107_40 ?_
          refine xv_iinc (pc := 164) (fr_get fo_139_5 13 rfl) rfl ic_1 (L' := [some (.inr (.inr (40, 0))), some (.inl (v1 + (1 : Int32))), some (.inl v2), some (.inl v3), some (.inl v4)]) rfl ?_
          refine ex_goto (pc := 167) (fr_get fo_139_5 14 rfl) (t := 32) rfl ?_
          exact h
        · replace h := h.2 c
          refine ex_iload_n (pc := 153) (fr_get fo_139_5 7 rfl) rfl ?_
          refine ex_goto (pc := 154) (fr_get fo_139_5 8 rfl) (t := 161) rfl ?_
          refine ex_pi (pc := 161) (fr_get fo_139_5 12 rfl) ow_139 fp_9_107_40 ?_
          refine xv_iinc (pc := 164) (fr_get fo_139_5 13 rfl) rfl ic_1 (L' := [some (.inr (.inr (40, 0))), some (.inl (v1 + (1 : Int32))), some (.inl v2), some (.inl v3), some (.inl v4)]) rfl ?_
          refine ex_goto (pc := 167) (fr_get fo_139_5 14 rfl) (t := 32) rfl ?_
          exact h
  · replace h := h.2 c
    refine ex_iload_n (pc := 82) (fr_get fo_139_3 0 rfl) rfl ?_
    refine xv_beq (pc := 83) (fr_get fo_139_3 1 rfl) (t := 127) rfl (fun c => ?_) (fun c => ?_)
    · replace h := h.1 c
      refine ex_iload_n (pc := 127) (fr_get fo_139_4 9 rfl) rfl ?_
      refine xv_beq (pc := 128) (fr_get fo_139_4 10 rfl) (t := 164) rfl (fun c => ?_) (fun c => ?_)
      · replace h := h.1 c
        refine xv_iinc (pc := 164) (fr_get fo_139_5 13 rfl) rfl ic_1 (L' := [some (.inr (.inr (40, 0))), some (.inl (v1 + (1 : Int32))), some (.inl v2), some (.inl v3), some (.inl v4)]) rfl ?_
        refine ex_goto (pc := 167) (fr_get fo_139_5 14 rfl) (t := 32) rfl ?_
        exact h
      · replace h := h.2 c
        refine ex_aload_n (pc := 131) (fr_get fo_139_4 11 rfl) rfl rfl ?_
        refine ex_iload_n (pc := 132) (fr_get fo_139_4 12 rfl) rfl ?_
        refine ex_bipush (pc := 133) (fr_get fo_139_4 13 rfl) bp_6 ?_
        refine xv_cge (pc := 135) (fr_get fo_139_4 14 rfl) (t := 142) rfl (fun c => ?_) (fun c => ?_)
        · replace h := h.1 c
          refine ex_iconst (pc := 142) (fr_get fo_139_5 1 rfl) ic_3 ?_
          refine ex_pi (pc := 143) (fr_get fo_139_5 2 rfl) ow_139 fp_9_94_40 ?_
          refine ex_aload_n (pc := 146) (fr_get fo_139_5 3 rfl) rfl rfl ?_
          refine ex_iload_n (pc := 147) (fr_get fo_139_5 4 rfl) rfl ?_
          refine ex_bipush (pc := 148) (fr_get fo_139_5 5 rfl) bp_6 ?_
          refine xv_cge (pc := 150) (fr_get fo_139_5 6 rfl) (t := 157) rfl (fun c => ?_) (fun c => ?_)
          · replace h := h.1 c
            refine ex_iload_n (pc := 157) (fr_get fo_139_5 9 rfl) rfl ?_
            refine ex_bipush (pc := 158) (fr_get fo_139_5 10 rfl) bp_6 ?_
            refine ex_isub (pc := 160) (fr_get fo_139_5 11 rfl) ?_
            refine ex_pi (pc := 161) (fr_get fo_139_5 12 rfl) ow_139 fp_9_107_40 ?_
            refine xv_iinc (pc := 164) (fr_get fo_139_5 13 rfl) rfl ic_1 (L' := [some (.inr (.inr (40, 0))), some (.inl (v1 + (1 : Int32))), some (.inl v2), some (.inl v3), some (.inl v4)]) rfl ?_
            refine ex_goto (pc := 167) (fr_get fo_139_5 14 rfl) (t := 32) rfl ?_
            exact h
          · replace h := h.2 c
            refine ex_iload_n (pc := 153) (fr_get fo_139_5 7 rfl) rfl ?_
            refine ex_goto (pc := 154) (fr_get fo_139_5 8 rfl) (t := 161) rfl ?_
            refine ex_pi (pc := 161) (fr_get fo_139_5 12 rfl) ow_139 fp_9_107_40 ?_
            refine xv_iinc (pc := 164) (fr_get fo_139_5 13 rfl) rfl ic_1 (L' := [some (.inr (.inr (40, 0))), some (.inl (v1 + (1 : Int32))), some (.inl v2), some (.inl v3), some (.inl v4)]) rfl ?_
            refine ex_goto (pc := 167) (fr_get fo_139_5 14 rfl) (t := 32) rfl ?_
            exact h
        · replace h := h.2 c
          refine ex_iconst (pc := 138) (fr_get fo_139_4 15 rfl) ic_2 ?_
          refine ex_goto (pc := 139) (fr_get fo_139_5 0 rfl) (t := 143) rfl ?_
          refine ex_pi (pc := 143) (fr_get fo_139_5 2 rfl) ow_139 fp_9_94_40 ?_
          refine ex_aload_n (pc := 146) (fr_get fo_139_5 3 rfl) rfl rfl ?_
          refine ex_iload_n (pc := 147) (fr_get fo_139_5 4 rfl) rfl ?_
          refine ex_bipush (pc := 148) (fr_get fo_139_5 5 rfl) bp_6 ?_
          refine xv_cge (pc := 150) (fr_get fo_139_5 6 rfl) (t := 157) rfl (fun c => ?_) (fun c => ?_)
          · replace h := h.1 c
            refine ex_iload_n (pc := 157) (fr_get fo_139_5 9 rfl) rfl ?_
            refine ex_bipush (pc := 158) (fr_get fo_139_5 10 rfl) bp_6 ?_
            refine ex_isub (pc := 160) (fr_get fo_139_5 11 rfl) ?_
            refine ex_pi (pc := 161) (fr_get fo_139_5 12 rfl) ow_139 fp_9_107_40 ?_
            refine xv_iinc (pc := 164) (fr_get fo_139_5 13 rfl) rfl ic_1 (L' := [some (.inr (.inr (40, 0))), some (.inl (v1 + (1 : Int32))), some (.inl v2), some (.inl v3), some (.inl v4)]) rfl ?_
            refine ex_goto (pc := 167) (fr_get fo_139_5 14 rfl) (t := 32) rfl ?_
            exact h
          · replace h := h.2 c
            refine ex_iload_n (pc := 153) (fr_get fo_139_5 7 rfl) rfl ?_
            refine ex_goto (pc := 154) (fr_get fo_139_5 8 rfl) (t := 161) rfl ?_
            refine ex_pi (pc := 161) (fr_get fo_139_5 12 rfl) ow_139 fp_9_107_40 ?_
            refine xv_iinc (pc := 164) (fr_get fo_139_5 13 rfl) rfl ic_1 (L' := [some (.inr (.inr (40, 0))), some (.inl (v1 + (1 : Int32))), some (.inl v2), some (.inl v3), some (.inl v4)]) rfl ?_
            refine ex_goto (pc := 167) (fr_get fo_139_5 14 rfl) (t := 32) rfl ?_
            exact h
    · replace h := h.2 c
      refine ex_aload_n (pc := 86) (fr_get fo_139_3 2 rfl) rfl rfl ?_
      refine ex_gr (pc := 87) (fr_get fo_139_3 3 rfl) ow_139 fr_9_85_40 (q := (49, 0)) rfl ?_
      refine ex_aload_n (pc := 90) (fr_get fo_139_3 4 rfl) rfl rfl ?_
      refine xv_gi (pc := 91) (fr_get fo_139_3 5 rfl) ow_139 fg_9_100_40 rfl ?_
      refine ex_iload (pc := 94) (fr_get fo_139_3 6 rfl) rfl ?_
      refine ex_iadd (pc := 96) (fr_get fo_139_3 7 rfl) ?_
      refine xv_iald (pc := 97) (fr_get fo_139_3 8 rfl) gk_49 (n := 160) (gn_49 ..) rfl rfl h.1 ?_
      replace h := h.2
      refine ex_aload_n (pc := 98) (fr_get fo_139_3 9 rfl) rfl rfl ?_
      refine ex_gr (pc := 99) (fr_get fo_139_3 10 rfl) ow_139 fr_9_103_40 (q := (52, 0)) rfl ?_
      refine ex_aload_n (pc := 102) (fr_get fo_139_3 11 rfl) rfl rfl ?_
      refine ex_gr (pc := 103) (fr_get fo_139_3 12 rfl) ow_139 fr_9_97_40 (q := (53, 0)) rfl ?_
      refine ex_iload_n (pc := 106) (fr_get fo_139_3 13 rfl) rfl ?_
      refine xv_iald (pc := 107) (fr_get fo_139_3 14 rfl) gk_53 (n := 13) (gn_53 ..) rfl rfl h.1 ?_
      replace h := h.2
      refine ex_iload (pc := 108) (fr_get fo_139_3 15 rfl) rfl ?_
      refine ex_iadd (pc := 110) (fr_get fo_139_4 0 rfl) ?_
      refine xv_cald (pc := 111) (fr_get fo_139_4 1 rfl) gc_52 (n := 52) (gn_52 ..) rfl rfl h.1 ?_
      replace h := h.2
      refine xv_cne (pc := 112) (fr_get fo_139_4 2 rfl) (t := 119) rfl (fun c => ?_) (fun c => ?_)
      · replace h := h.1 c
        refine ex_iconst (pc := 119) (fr_get fo_139_4 5 rfl) ic_0 ?_
        refine ex_istore_n (pc := 120) (fr_get fo_139_4 6 rfl) rfl (L' := [some (.inr (.inr (40, 0))), some (.inl v1), some (.inl v2), some (.inl (0 : Int32)), some (.inl v4)]) rfl ?_
        refine xv_iinc (pc := 121) (fr_get fo_139_4 7 rfl) rfl ic_1 (L' := [some (.inr (.inr (40, 0))), some (.inl v1), some (.inl v2), some (.inl (0 : Int32)), some (.inl (v4 + (1 : Int32)))]) rfl ?_
        refine ex_goto (pc := 124) (fr_get fo_139_4 8 rfl) (t := 76) rfl ?_
        exact h
      · replace h := h.2 c
        refine ex_iconst (pc := 115) (fr_get fo_139_4 3 rfl) ic_1 ?_
        refine ex_goto (pc := 116) (fr_get fo_139_4 4 rfl) (t := 120) rfl ?_
        refine ex_istore_n (pc := 120) (fr_get fo_139_4 6 rfl) rfl (L' := [some (.inr (.inr (40, 0))), some (.inl v1), some (.inl v2), some (.inl (1 : Int32)), some (.inl v4)]) rfl ?_
        refine xv_iinc (pc := 121) (fr_get fo_139_4 7 rfl) rfl ic_1 (L' := [some (.inr (.inr (40, 0))), some (.inl v1), some (.inl v2), some (.inl (1 : Int32)), some (.inl (v4 + (1 : Int32)))]) rfl ?_
        refine ex_goto (pc := 124) (fr_get fo_139_4 8 rfl) (t := 76) rfl ?_
        exact h

theorem e_140 {d : Nat} {I : ma_I} {o : Nat} {Q : ma_Q} 
  (h :
    Ex (d + 1) 140 (5, [some (.inr (.inr (40, 0)))], [], ma_mem (ma_up I 40 0 19 (0 : Int32)) o, 0, 0) (ma_end Q)) :
  Exm (d + 1) 140 [.inr (.inr (40, 0))] I o Q := by
  show Ex (d + 1) 140 (0, [some (.inr (.inr (40, 0)))], [], ma_mem I o, 0, 0) (ma_end Q)
  refine ex_aload_n (pc := 0) (fr_get fo_140_0 0 rfl) rfl rfl ?_
  refine ex_iconst (pc := 1) (fr_get fo_140_0 1 rfl) ic_0 ?_
  refine ex_pi (pc := 2) (fr_get fo_140_0 2 rfl) ow_140 fp_9_107_40 ?_
  exact h

theorem b_140_5 {d : Nat} {I : ma_I} {o : Nat} {Q : ma_Q} 
  (h :
    Exm (d) 138 [.inr (.inr (40, 0)), .inl (I 40 0 17)] I o (fun r J1 p2 => ∃ x3 : Int32, r = some (.inl x3) ∧
      (x3 = 0 →
        ((J1 40 0 17) - (J1 40 0 20) ≤ (4 : Int32) →
          Q none (ma_up J1 40 0 18 (1 : Int32)) p2) ∧
        ((4 : Int32) < (J1 40 0 17) - (J1 40 0 20) →
          Q none (ma_up J1 40 0 18 (6 : Int32)) p2)) ∧
      (x3 ≠ 0 →
        ((4 : Int32) ≤ (J1 40 0 17) - (J1 40 0 20) →
          Ex (d + 1) 140 (5, [some (.inr (.inr (40, 0)))], [], ma_mem (ma_up (ma_up J1 40 0 19 (J1 40 0 19)) 40 0 17 ((J1 40 0 17) + (1 : Int32))) p2, 0, 0) (ma_end Q)) ∧
        ((J1 40 0 17) - (J1 40 0 20) < (4 : Int32) →
          ma_in (J1 40 0 17) 160 ∧
          Ex (d + 1) 140 (5, [some (.inr (.inr (40, 0)))], [], ma_mem (ma_up (ma_up J1 40 0 19 ((((10 : Int32) * (J1 40 0 19)) + (J1 49 0 ((J1 40 0 17).toNatClampNeg))) - (48 : Int32))) 40 0 17 ((J1 40 0 17) + (1 : Int32))) p2, 0, 0) (ma_end Q))))) :
  Ex (d + 1) 140 (5, [some (.inr (.inr (40, 0)))], [], ma_mem I o, 0, 0) (ma_end Q) := by
  refine ex_aload_n (pc := 5) (fr_get fo_140_0 3 rfl) rfl rfl ?_
  refine ex_aload_n (pc := 6) (fr_get fo_140_0 4 rfl) rfl rfl ?_
  refine xv_gi (pc := 7) (fr_get fo_140_0 5 rfl) ow_140 fg_9_88_40 rfl ?_
  refine xv_kv1 (pc := 10) (fr_get fo_140_0 6 rfl) cc_140_110 (as := [.inr (.inr (40, 0)), .inl (I 40 0 17)]) (rs := []) rfl rfl rfl rfl rfl ?_
  refine h.mono (fun r J1 p2 h => ?_)
  obtain ⟨x3, hr, h⟩ := h
  refine ⟨x3, hr, ?_⟩
  refine xv_beq (pc := 13) (fr_get fo_140_0 7 rfl) (t := 73) rfl (fun c => ?_) (fun c => ?_)
  · replace h := h.1 c
    refine ex_aload_n (pc := 73) (fr_get fo_140_2 7 rfl) rfl rfl ?_
    refine ex_aload_n (pc := 74) (fr_get fo_140_2 8 rfl) rfl rfl ?_
    refine xv_gi (pc := 75) (fr_get fo_140_2 9 rfl) ow_140 fg_9_88_40 rfl ?_
    refine ex_aload_n (pc := 78) (fr_get fo_140_2 10 rfl) rfl rfl ?_
    refine xv_gi (pc := 79) (fr_get fo_140_2 11 rfl) ow_140 fg_9_100_40 rfl ?_
    refine ex_isub (pc := 82) (fr_get fo_140_2 12 rfl) ?_
    refine ex_iconst (pc := 83) (fr_get fo_140_2 13 rfl) ic_4 ?_
    refine xv_cle (pc := 84) (fr_get fo_140_2 14 rfl) (t := 92) rfl (fun c => ?_) (fun c => ?_)
    · replace h := h.1 c
      refine ex_iconst (pc := 92) (fr_get fo_140_3 1 rfl) ic_1 ?_
      refine ex_pi (pc := 93) (fr_get fo_140_3 2 rfl) ow_140 fp_9_94_40 ?_
      exact ex_return (pc := 96) (fr_get fo_140_3 3 rfl) rt_140 rfl rfl (ma_end_mk h)
    · replace h := h.2 c
      refine ex_bipush (pc := 87) (fr_get fo_140_2 15 rfl) bp_6 ?_
      refine ex_goto (pc := 89) (fr_get fo_140_3 0 rfl) (t := 93) rfl ?_
      refine ex_pi (pc := 93) (fr_get fo_140_3 2 rfl) ow_140 fp_9_94_40 ?_
      exact ex_return (pc := 96) (fr_get fo_140_3 3 rfl) rt_140 rfl rfl (ma_end_mk h)
  · replace h := h.2 c
    refine ex_aload_n (pc := 16) (fr_get fo_140_0 8 rfl) rfl rfl ?_
    refine ex_aload_n (pc := 17) (fr_get fo_140_0 9 rfl) rfl rfl ?_
    refine xv_gi (pc := 18) (fr_get fo_140_0 10 rfl) ow_140 fg_9_88_40 rfl ?_
    refine ex_aload_n (pc := 21) (fr_get fo_140_0 11 rfl) rfl rfl ?_
    refine xv_gi (pc := 22) (fr_get fo_140_0 12 rfl) ow_140 fg_9_100_40 rfl ?_
    refine ex_isub (pc := 25) (fr_get fo_140_0 13 rfl) ?_
    refine ex_iconst (pc := 26) (fr_get fo_140_0 14 rfl) ic_4 ?_
    refine xv_cge (pc := 27) (fr_get fo_140_0 15 rfl) (t := 53) rfl (fun c => ?_) (fun c => ?_)
    · replace h := h.1 c
      refine ex_aload_n (pc := 53) (fr_get fo_140_1 13 rfl) rfl rfl ?_
      refine xv_gi (pc := 54) (fr_get fo_140_1 14 rfl) ow_140 fg_9_107_40 rfl ?_
      refine ex_pi (pc := 57) (fr_get fo_140_1 15 rfl) ow_140 fp_9_107_40 ?_
      refine ex_aload_n (pc := 60) (fr_get fo_140_2 0 rfl) rfl rfl ?_
      refine ex_dupr (pc := 61) (fr_get fo_140_2 1 rfl) ?_
      refine xv_gi (pc := 62) (fr_get fo_140_2 2 rfl) ow_140 fg_9_88_40 (xv_uj rfl) ?_
      refine ex_iconst (pc := 65) (fr_get fo_140_2 3 rfl) ic_1 ?_
      refine ex_iadd (pc := 66) (fr_get fo_140_2 4 rfl) ?_
      refine ex_pi (pc := 67) (fr_get fo_140_2 5 rfl) ow_140 fp_9_88_40 ?_
      refine ex_goto (pc := 70) (fr_get fo_140_2 6 rfl) (t := 5) rfl ?_
      exact h
    · replace h := h.2 c
      refine ex_bipush (pc := 30) (fr_get fo_140_1 0 rfl) bp_10 ?_
      refine ex_aload_n (pc := 32) (fr_get fo_140_1 1 rfl) rfl rfl ?_
      refine xv_gi (pc := 33) (fr_get fo_140_1 2 rfl) ow_140 fg_9_107_40 rfl ?_
      refine ex_imul (pc := 36) (fr_get fo_140_1 3 rfl) ?_
      refine ex_aload_n (pc := 37) (fr_get fo_140_1 4 rfl) rfl rfl ?_
      refine ex_gr (pc := 38) (fr_get fo_140_1 5 rfl) ow_140 fr_9_85_40 (q := (49, 0)) rfl ?_
      refine ex_aload_n (pc := 41) (fr_get fo_140_1 6 rfl) rfl rfl ?_
      refine xv_gi (pc := 42) (fr_get fo_140_1 7 rfl) ow_140 fg_9_88_40 rfl ?_
      refine xv_iald (pc := 45) (fr_get fo_140_1 8 rfl) gk_49 (n := 160) (gn_49 ..) rfl rfl h.1 ?_
      replace h := h.2
      refine ex_iadd (pc := 46) (fr_get fo_140_1 9 rfl) ?_
      refine ex_bipush (pc := 47) (fr_get fo_140_1 10 rfl) bp_48 ?_
      refine ex_isub (pc := 49) (fr_get fo_140_1 11 rfl) ?_
      refine ex_goto (pc := 50) (fr_get fo_140_1 12 rfl) (t := 57) rfl ?_
      refine ex_pi (pc := 57) (fr_get fo_140_1 15 rfl) ow_140 fp_9_107_40 ?_
      refine ex_aload_n (pc := 60) (fr_get fo_140_2 0 rfl) rfl rfl ?_
      refine ex_dupr (pc := 61) (fr_get fo_140_2 1 rfl) ?_
      refine xv_gi (pc := 62) (fr_get fo_140_2 2 rfl) ow_140 fg_9_88_40 (xv_uj rfl) ?_
      refine ex_iconst (pc := 65) (fr_get fo_140_2 3 rfl) ic_1 ?_
      refine ex_iadd (pc := 66) (fr_get fo_140_2 4 rfl) ?_
      refine ex_pi (pc := 67) (fr_get fo_140_2 5 rfl) ow_140 fp_9_88_40 ?_
      refine ex_goto (pc := 70) (fr_get fo_140_2 6 rfl) (t := 5) rfl ?_
      exact h

theorem e_141 {d : Nat} {I : ma_I} {o : Nat} {Q : ma_Q} 
  (h :
    Ex (d + 1) 141 (0, [some (.inr (.inr (40, 0))), none], [], ma_mem I o, 0, 0) (ma_end Q)) :
  Exm (d + 1) 141 [.inr (.inr (40, 0))] I o Q := by
  show Ex (d + 1) 141 (0, [some (.inr (.inr (40, 0))), none], [], ma_mem I o, 0, 0) (ma_end Q)
  exact h

theorem b_141_0 {d : Nat} {I : ma_I} {o : Nat} {Q : ma_Q} 
  (h :
    (I 40 0 12 ≤ I 40 0 17 →
      Ex (d + 1) 141 (52, [some (.inr (.inr (40, 0))), none], [], ma_mem I o, 0, 0) (ma_end Q)) ∧
    (I 40 0 17 < I 40 0 12 →
      ma_in (I 40 0 17) 160 ∧
      (I 49 0 ((I 40 0 17).toNatClampNeg) = (32 : Int32) →
        Ex (d + 1) 141 (0, [some (.inr (.inr (40, 0))), none], [], ma_mem (ma_up I 40 0 17 ((I 40 0 17) + (1 : Int32))) o, 0, 0) (ma_end Q)) ∧
      (I 49 0 ((I 40 0 17).toNatClampNeg) ≠ (32 : Int32) →
        ma_in (I 40 0 17) 160 ∧
        (I 49 0 ((I 40 0 17).toNatClampNeg) ≠ (10 : Int32) →
          Ex (d + 1) 141 (52, [some (.inr (.inr (40, 0))), none], [], ma_mem I o, 0, 0) (ma_end Q)) ∧
        (I 49 0 ((I 40 0 17).toNatClampNeg) = (10 : Int32) →
          Ex (d + 1) 141 (0, [some (.inr (.inr (40, 0))), none], [], ma_mem (ma_up I 40 0 17 ((I 40 0 17) + (1 : Int32))) o, 0, 0) (ma_end Q))))) :
  Ex (d + 1) 141 (0, [some (.inr (.inr (40, 0))), none], [], ma_mem I o, 0, 0) (ma_end Q) := by
  refine ex_aload_n (pc := 0) (fr_get fo_141_0 0 rfl) rfl rfl ?_
  refine xv_gi (pc := 1) (fr_get fo_141_0 1 rfl) ow_141 fg_9_88_40 rfl ?_
  refine ex_aload_n (pc := 4) (fr_get fo_141_0 2 rfl) rfl rfl ?_
  refine xv_gi (pc := 5) (fr_get fo_141_0 3 rfl) ow_141 fg_9_82_40 rfl ?_
  refine xv_cge (pc := 8) (fr_get fo_141_0 4 rfl) (t := 52) rfl (fun c => ?_) (fun c => ?_)
  · replace h := h.1 c
    exact h
  · replace h := h.2 c
    refine ex_aload_n (pc := 11) (fr_get fo_141_0 5 rfl) rfl rfl ?_
    refine ex_gr (pc := 12) (fr_get fo_141_0 6 rfl) ow_141 fr_9_85_40 (q := (49, 0)) rfl ?_
    refine ex_aload_n (pc := 15) (fr_get fo_141_0 7 rfl) rfl rfl ?_
    refine xv_gi (pc := 16) (fr_get fo_141_0 8 rfl) ow_141 fg_9_88_40 rfl ?_
    refine xv_iald (pc := 19) (fr_get fo_141_0 9 rfl) gk_49 (n := 160) (gn_49 ..) rfl rfl h.1 ?_
    replace h := h.2
    refine ex_bipush (pc := 20) (fr_get fo_141_0 10 rfl) bp_32 ?_
    refine xv_ceq (pc := 22) (fr_get fo_141_0 11 rfl) (t := 39) rfl (fun c => ?_) (fun c => ?_)
    · replace h := h.1 c
      refine ex_aload_n (pc := 39) (fr_get fo_141_1 3 rfl) rfl rfl ?_
      refine ex_dupr (pc := 40) (fr_get fo_141_1 4 rfl) ?_
      refine xv_gi (pc := 41) (fr_get fo_141_1 5 rfl) ow_141 fg_9_88_40 rfl ?_
      refine ex_iconst (pc := 44) (fr_get fo_141_1 6 rfl) ic_1 ?_
      refine ex_iadd (pc := 45) (fr_get fo_141_1 7 rfl) ?_
      refine ex_pi (pc := 46) (fr_get fo_141_1 8 rfl) ow_141 fp_9_88_40 ?_
      refine ex_goto (pc := 49) (fr_get fo_141_1 9 rfl) (t := 0) rfl ?_
      exact h
    · replace h := h.2 c
      refine ex_aload_n (pc := 25) (fr_get fo_141_0 12 rfl) rfl rfl ?_
      refine ex_gr (pc := 26) (fr_get fo_141_0 13 rfl) ow_141 fr_9_85_40 (q := (49, 0)) rfl ?_
      refine ex_aload_n (pc := 29) (fr_get fo_141_0 14 rfl) rfl rfl ?_
      refine xv_gi (pc := 30) (fr_get fo_141_0 15 rfl) ow_141 fg_9_88_40 rfl ?_
      refine xv_iald (pc := 33) (fr_get fo_141_1 0 rfl) gk_49 (n := 160) (gn_49 ..) rfl rfl h.1 ?_
      replace h := h.2
      refine ex_bipush (pc := 34) (fr_get fo_141_1 1 rfl) bp_10 ?_
      refine xv_cne (pc := 36) (fr_get fo_141_1 2 rfl) (t := 52) rfl (fun c => ?_) (fun c => ?_)
      · replace h := h.1 c
        exact h
      · replace h := h.2 c
        refine ex_aload_n (pc := 39) (fr_get fo_141_1 3 rfl) rfl rfl ?_
        refine ex_dupr (pc := 40) (fr_get fo_141_1 4 rfl) ?_
        refine xv_gi (pc := 41) (fr_get fo_141_1 5 rfl) ow_141 fg_9_88_40 rfl ?_
        refine ex_iconst (pc := 44) (fr_get fo_141_1 6 rfl) ic_1 ?_
        refine ex_iadd (pc := 45) (fr_get fo_141_1 7 rfl) ?_
        refine ex_pi (pc := 46) (fr_get fo_141_1 8 rfl) ow_141 fp_9_88_40 ?_
        refine ex_goto (pc := 49) (fr_get fo_141_1 9 rfl) (t := 0) rfl ?_
        exact h

theorem b_141_52 {d : Nat} {I : ma_I} {o : Nat} {Q : ma_Q} 
  (h :
    (I 40 0 17 ≠ I 40 0 12 →
      Exm (d) 137 [.inr (.inr (40, 0)), .inl (I 40 0 17)] (ma_up I 40 0 20 (I 40 0 17)) o (fun r J1 p2 => ∃ x3 : Int32, r = some (.inl x3) ∧
        (x3 = 0 →
          Exm (d) 138 [.inr (.inr (40, 0)), .inl (J1 40 0 17)] J1 p2 (fun r J4 p5 => ∃ x6 : Int32, r = some (.inl x6) ∧
            (x6 = 0 →
              ma_in (J4 40 0 17) 160 ∧
              (J4 49 0 ((J4 40 0 17).toNatClampNeg) = (40 : Int32) →
                Ex (d + 1) 141 (206, [some (.inr (.inr (40, 0))), some (.inl (1 : Int32))], [], ma_mem (ma_up J4 40 0 19 (J4 49 0 ((J4 40 0 17).toNatClampNeg))) p5, 0, 0) (ma_end Q)) ∧
              (J4 49 0 ((J4 40 0 17).toNatClampNeg) ≠ (40 : Int32) →
                (J4 49 0 ((J4 40 0 17).toNatClampNeg) = (41 : Int32) →
                  Ex (d + 1) 141 (206, [some (.inr (.inr (40, 0))), some (.inl (1 : Int32))], [], ma_mem (ma_up J4 40 0 19 (J4 49 0 ((J4 40 0 17).toNatClampNeg))) p5, 0, 0) (ma_end Q)) ∧
                (J4 49 0 ((J4 40 0 17).toNatClampNeg) ≠ (41 : Int32) →
                  (J4 49 0 ((J4 40 0 17).toNatClampNeg) = (59 : Int32) →
                    Ex (d + 1) 141 (206, [some (.inr (.inr (40, 0))), some (.inl (1 : Int32))], [], ma_mem (ma_up J4 40 0 19 (J4 49 0 ((J4 40 0 17).toNatClampNeg))) p5, 0, 0) (ma_end Q)) ∧
                  (J4 49 0 ((J4 40 0 17).toNatClampNeg) ≠ (59 : Int32) →
                    (J4 49 0 ((J4 40 0 17).toNatClampNeg) = (43 : Int32) →
                      Ex (d + 1) 141 (206, [some (.inr (.inr (40, 0))), some (.inl (1 : Int32))], [], ma_mem (ma_up J4 40 0 19 (J4 49 0 ((J4 40 0 17).toNatClampNeg))) p5, 0, 0) (ma_end Q)) ∧
                    (J4 49 0 ((J4 40 0 17).toNatClampNeg) ≠ (43 : Int32) →
                      (J4 49 0 ((J4 40 0 17).toNatClampNeg) = (45 : Int32) →
                        Ex (d + 1) 141 (206, [some (.inr (.inr (40, 0))), some (.inl (1 : Int32))], [], ma_mem (ma_up J4 40 0 19 (J4 49 0 ((J4 40 0 17).toNatClampNeg))) p5, 0, 0) (ma_end Q)) ∧
                      (J4 49 0 ((J4 40 0 17).toNatClampNeg) ≠ (45 : Int32) →
                        (J4 49 0 ((J4 40 0 17).toNatClampNeg) = (42 : Int32) →
                          Ex (d + 1) 141 (206, [some (.inr (.inr (40, 0))), some (.inl (1 : Int32))], [], ma_mem (ma_up J4 40 0 19 (J4 49 0 ((J4 40 0 17).toNatClampNeg))) p5, 0, 0) (ma_end Q)) ∧
                        (J4 49 0 ((J4 40 0 17).toNatClampNeg) ≠ (42 : Int32) →
                          (J4 49 0 ((J4 40 0 17).toNatClampNeg) = (60 : Int32) →
                            Ex (d + 1) 141 (206, [some (.inr (.inr (40, 0))), some (.inl (1 : Int32))], [], ma_mem (ma_up J4 40 0 19 (J4 49 0 ((J4 40 0 17).toNatClampNeg))) p5, 0, 0) (ma_end Q)) ∧
                          (J4 49 0 ((J4 40 0 17).toNatClampNeg) ≠ (60 : Int32) →
                            (J4 49 0 ((J4 40 0 17).toNatClampNeg) ≠ (61 : Int32) →
                              Ex (d + 1) 141 (206, [some (.inr (.inr (40, 0))), some (.inl (0 : Int32))], [], ma_mem (ma_up J4 40 0 19 (J4 49 0 ((J4 40 0 17).toNatClampNeg))) p5, 0, 0) (ma_end Q)) ∧
                            (J4 49 0 ((J4 40 0 17).toNatClampNeg) = (61 : Int32) →
                              Ex (d + 1) 141 (206, [some (.inr (.inr (40, 0))), some (.inl (1 : Int32))], [], ma_mem (ma_up J4 40 0 19 (J4 49 0 ((J4 40 0 17).toNatClampNeg))) p5, 0, 0) (ma_end Q)))))))))) ∧
            (x6 ≠ 0 →
              Exm (d) 140 [.inr (.inr (40, 0))] J4 p5 (fun r J7 p8 => r = none ∧
                Q none J7 p8)))) ∧
        (x3 ≠ 0 →
          Exm (d) 139 [.inr (.inr (40, 0))] J1 p2 (fun r J9 p10 => r = none ∧
            Q none J9 p10)))) ∧
    (I 40 0 17 = I 40 0 12 →
      Q none (ma_up (ma_up I 40 0 20 (I 40 0 17)) 40 0 18 (5 : Int32)) o)) :
  Ex (d + 1) 141 (52, [some (.inr (.inr (40, 0))), none], [], ma_mem I o, 0, 0) (ma_end Q) := by
  refine ex_aload_n (pc := 52) (fr_get fo_141_1 10 rfl) rfl rfl ?_
  refine ex_aload_n (pc := 53) (fr_get fo_141_1 11 rfl) rfl rfl ?_
  refine xv_gi (pc := 54) (fr_get fo_141_1 12 rfl) ow_141 fg_9_88_40 rfl ?_
  refine ex_pi (pc := 57) (fr_get fo_141_1 13 rfl) ow_141 fp_9_100_40 ?_
  refine ex_aload_n (pc := 60) (fr_get fo_141_1 14 rfl) rfl rfl ?_
  refine xv_gi (pc := 61) (fr_get fo_141_1 15 rfl) ow_141 fg_9_88_40 (xv_uj rfl) ?_
  refine ex_aload_n (pc := 64) (fr_get fo_141_2 0 rfl) rfl rfl ?_
  refine xv_gi (pc := 65) (fr_get fo_141_2 1 rfl) ow_141 fg_9_82_40 (xv_uj rfl) ?_
  refine xv_cne (pc := 68) (fr_get fo_141_2 2 rfl) (t := 79) rfl (fun c => ?_) (fun c => ?_)
  · replace h := h.1 c
    refine ex_aload_n (pc := 79) (fr_get fo_141_2 7 rfl) rfl rfl ?_
    refine ex_aload_n (pc := 80) (fr_get fo_141_2 8 rfl) rfl rfl ?_
    refine xv_gi (pc := 81) (fr_get fo_141_2 9 rfl) ow_141 fg_9_88_40 (xv_uj rfl) ?_
    refine xv_kv1 (pc := 84) (fr_get fo_141_2 10 rfl) cc_141_91 (as := [.inr (.inr (40, 0)), .inl (I 40 0 17)]) (rs := []) rfl rfl rfl rfl rfl ?_
    refine h.mono (fun r J1 p2 h => ?_)
    obtain ⟨x3, hr, h⟩ := h
    refine ⟨x3, hr, ?_⟩
    refine xv_beq (pc := 87) (fr_get fo_141_2 11 rfl) (t := 97) rfl (fun c => ?_) (fun c => ?_)
    · replace h := h.1 c
      refine ex_aload_n (pc := 97) (fr_get fo_141_2 15 rfl) rfl rfl ?_
      refine ex_aload_n (pc := 98) (fr_get fo_141_3 0 rfl) rfl rfl ?_
      refine xv_gi (pc := 99) (fr_get fo_141_3 1 rfl) ow_141 fg_9_88_40 rfl ?_
      refine xv_kv1 (pc := 102) (fr_get fo_141_3 2 rfl) cc_141_110 (as := [.inr (.inr (40, 0)), .inl (J1 40 0 17)]) (rs := []) rfl rfl rfl rfl rfl ?_
      refine h.mono (fun r J4 p5 h => ?_)
      obtain ⟨x6, hr, h⟩ := h
      refine ⟨x6, hr, ?_⟩
      refine xv_beq (pc := 105) (fr_get fo_141_3 3 rfl) (t := 115) rfl (fun c => ?_) (fun c => ?_)
      · replace h := h.1 c
        refine ex_aload_n (pc := 115) (fr_get fo_141_3 7 rfl) rfl rfl ?_
        refine ex_aload_n (pc := 116) (fr_get fo_141_3 8 rfl) rfl rfl ?_
        refine ex_gr (pc := 117) (fr_get fo_141_3 9 rfl) ow_141 fr_9_85_40 (q := (49, 0)) rfl ?_
        refine ex_aload_n (pc := 120) (fr_get fo_141_3 10 rfl) rfl rfl ?_
        refine xv_gi (pc := 121) (fr_get fo_141_3 11 rfl) ow_141 fg_9_88_40 rfl ?_
        refine xv_iald (pc := 124) (fr_get fo_141_3 12 rfl) gk_49 (n := 160) (gn_49 ..) rfl rfl h.1 ?_
        replace h := h.2
        refine ex_pi (pc := 125) (fr_get fo_141_3 13 rfl) ow_141 fp_9_107_40 ?_
        refine ex_aload_n (pc := 128) (fr_get fo_141_3 14 rfl) rfl rfl ?_
        refine xv_gi (pc := 129) (fr_get fo_141_3 15 rfl) ow_141 fg_9_107_40 xv_us ?_
        refine ex_bipush (pc := 132) (fr_get fo_141_4 0 rfl) bp_40 ?_
        refine xv_ceq (pc := 134) (fr_get fo_141_4 1 rfl) (t := 200) rfl (fun c => ?_) (fun c => ?_)
        · replace h := h.1 c
          refine ex_iconst (pc := 200) (fr_get fo_141_5 14 rfl) ic_1 ?_
          refine ex_goto (pc := 201) (fr_get fo_141_5 15 rfl) (t := 205) rfl ?_
          refine ex_istore_n (pc := 205) (fr_get fo_141_6 1 rfl) rfl (L' := [some (.inr (.inr (40, 0))), some (.inl (1 : Int32))]) rfl ?_
          exact h
        · replace h := h.2 c
          refine ex_aload_n (pc := 137) (fr_get fo_141_4 2 rfl) rfl rfl ?_
          refine xv_gi (pc := 138) (fr_get fo_141_4 3 rfl) ow_141 fg_9_107_40 xv_us ?_
          refine ex_bipush (pc := 141) (fr_get fo_141_4 4 rfl) bp_41 ?_
          refine xv_ceq (pc := 143) (fr_get fo_141_4 5 rfl) (t := 200) rfl (fun c => ?_) (fun c => ?_)
          · replace h := h.1 c
            refine ex_iconst (pc := 200) (fr_get fo_141_5 14 rfl) ic_1 ?_
            refine ex_goto (pc := 201) (fr_get fo_141_5 15 rfl) (t := 205) rfl ?_
            refine ex_istore_n (pc := 205) (fr_get fo_141_6 1 rfl) rfl (L' := [some (.inr (.inr (40, 0))), some (.inl (1 : Int32))]) rfl ?_
            exact h
          · replace h := h.2 c
            refine ex_aload_n (pc := 146) (fr_get fo_141_4 6 rfl) rfl rfl ?_
            refine xv_gi (pc := 147) (fr_get fo_141_4 7 rfl) ow_141 fg_9_107_40 xv_us ?_
            refine ex_bipush (pc := 150) (fr_get fo_141_4 8 rfl) bp_59 ?_
            refine xv_ceq (pc := 152) (fr_get fo_141_4 9 rfl) (t := 200) rfl (fun c => ?_) (fun c => ?_)
            · replace h := h.1 c
              refine ex_iconst (pc := 200) (fr_get fo_141_5 14 rfl) ic_1 ?_
              refine ex_goto (pc := 201) (fr_get fo_141_5 15 rfl) (t := 205) rfl ?_
              refine ex_istore_n (pc := 205) (fr_get fo_141_6 1 rfl) rfl (L' := [some (.inr (.inr (40, 0))), some (.inl (1 : Int32))]) rfl ?_
              exact h
            · replace h := h.2 c
              refine ex_aload_n (pc := 155) (fr_get fo_141_4 10 rfl) rfl rfl ?_
              refine xv_gi (pc := 156) (fr_get fo_141_4 11 rfl) ow_141 fg_9_107_40 xv_us ?_
              refine ex_bipush (pc := 159) (fr_get fo_141_4 12 rfl) bp_43 ?_
              refine xv_ceq (pc := 161) (fr_get fo_141_4 13 rfl) (t := 200) rfl (fun c => ?_) (fun c => ?_)
              · replace h := h.1 c
                refine ex_iconst (pc := 200) (fr_get fo_141_5 14 rfl) ic_1 ?_
                refine ex_goto (pc := 201) (fr_get fo_141_5 15 rfl) (t := 205) rfl ?_
                refine ex_istore_n (pc := 205) (fr_get fo_141_6 1 rfl) rfl (L' := [some (.inr (.inr (40, 0))), some (.inl (1 : Int32))]) rfl ?_
                exact h
              · replace h := h.2 c
                refine ex_aload_n (pc := 164) (fr_get fo_141_4 14 rfl) rfl rfl ?_
                refine xv_gi (pc := 165) (fr_get fo_141_4 15 rfl) ow_141 fg_9_107_40 xv_us ?_
                refine ex_bipush (pc := 168) (fr_get fo_141_5 0 rfl) bp_45 ?_
                refine xv_ceq (pc := 170) (fr_get fo_141_5 1 rfl) (t := 200) rfl (fun c => ?_) (fun c => ?_)
                · replace h := h.1 c
                  refine ex_iconst (pc := 200) (fr_get fo_141_5 14 rfl) ic_1 ?_
                  refine ex_goto (pc := 201) (fr_get fo_141_5 15 rfl) (t := 205) rfl ?_
                  refine ex_istore_n (pc := 205) (fr_get fo_141_6 1 rfl) rfl (L' := [some (.inr (.inr (40, 0))), some (.inl (1 : Int32))]) rfl ?_
                  exact h
                · replace h := h.2 c
                  refine ex_aload_n (pc := 173) (fr_get fo_141_5 2 rfl) rfl rfl ?_
                  refine xv_gi (pc := 174) (fr_get fo_141_5 3 rfl) ow_141 fg_9_107_40 xv_us ?_
                  refine ex_bipush (pc := 177) (fr_get fo_141_5 4 rfl) bp_42 ?_
                  refine xv_ceq (pc := 179) (fr_get fo_141_5 5 rfl) (t := 200) rfl (fun c => ?_) (fun c => ?_)
                  · replace h := h.1 c
                    refine ex_iconst (pc := 200) (fr_get fo_141_5 14 rfl) ic_1 ?_
                    refine ex_goto (pc := 201) (fr_get fo_141_5 15 rfl) (t := 205) rfl ?_
                    refine ex_istore_n (pc := 205) (fr_get fo_141_6 1 rfl) rfl (L' := [some (.inr (.inr (40, 0))), some (.inl (1 : Int32))]) rfl ?_
                    exact h
                  · replace h := h.2 c
                    refine ex_aload_n (pc := 182) (fr_get fo_141_5 6 rfl) rfl rfl ?_
                    refine xv_gi (pc := 183) (fr_get fo_141_5 7 rfl) ow_141 fg_9_107_40 xv_us ?_
                    refine ex_bipush (pc := 186) (fr_get fo_141_5 8 rfl) bp_60 ?_
                    refine xv_ceq (pc := 188) (fr_get fo_141_5 9 rfl) (t := 200) rfl (fun c => ?_) (fun c => ?_)
                    · replace h := h.1 c
                      refine ex_iconst (pc := 200) (fr_get fo_141_5 14 rfl) ic_1 ?_
                      refine ex_goto (pc := 201) (fr_get fo_141_5 15 rfl) (t := 205) rfl ?_
                      refine ex_istore_n (pc := 205) (fr_get fo_141_6 1 rfl) rfl (L' := [some (.inr (.inr (40, 0))), some (.inl (1 : Int32))]) rfl ?_
                      exact h
                    · replace h := h.2 c
                      refine ex_aload_n (pc := 191) (fr_get fo_141_5 10 rfl) rfl rfl ?_
                      refine xv_gi (pc := 192) (fr_get fo_141_5 11 rfl) ow_141 fg_9_107_40 xv_us ?_
                      refine ex_bipush (pc := 195) (fr_get fo_141_5 12 rfl) bp_61 ?_
                      refine xv_cne (pc := 197) (fr_get fo_141_5 13 rfl) (t := 204) rfl (fun c => ?_) (fun c => ?_)
                      · replace h := h.1 c
                        refine ex_iconst (pc := 204) (fr_get fo_141_6 0 rfl) ic_0 ?_
                        refine ex_istore_n (pc := 205) (fr_get fo_141_6 1 rfl) rfl (L' := [some (.inr (.inr (40, 0))), some (.inl (0 : Int32))]) rfl ?_
                        exact h
                      · replace h := h.2 c
                        refine ex_iconst (pc := 200) (fr_get fo_141_5 14 rfl) ic_1 ?_
                        refine ex_goto (pc := 201) (fr_get fo_141_5 15 rfl) (t := 205) rfl ?_
                        refine ex_istore_n (pc := 205) (fr_get fo_141_6 1 rfl) rfl (L' := [some (.inr (.inr (40, 0))), some (.inl (1 : Int32))]) rfl ?_
                        exact h
      · replace h := h.2 c
        refine ex_aload_n (pc := 108) (fr_get fo_141_3 4 rfl) rfl rfl ?_
        refine xv_kv0 (pc := 109) (fr_get fo_141_3 5 rfl) cc_141_117 (as := [.inr (.inr (40, 0))]) (rs := []) rfl rfl rfl rfl rfl ?_
        refine h.mono (fun r J7 p8 h => ⟨h.1, ?_⟩)
        replace h := h.2
        refine ex_goto (pc := 112) (fr_get fo_141_3 6 rfl) (t := 230) rfl ?_
        exact ex_return (pc := 230) (fr_get fo_141_6 15 rfl) rt_141 rfl rfl (ma_end_mk h)
    · replace h := h.2 c
      refine ex_aload_n (pc := 90) (fr_get fo_141_2 12 rfl) rfl rfl ?_
      refine xv_kv0 (pc := 91) (fr_get fo_141_2 13 rfl) cc_141_113 (as := [.inr (.inr (40, 0))]) (rs := []) rfl rfl rfl rfl rfl ?_
      refine h.mono (fun r J9 p10 h => ⟨h.1, ?_⟩)
      replace h := h.2
      refine ex_goto (pc := 94) (fr_get fo_141_2 14 rfl) (t := 230) rfl ?_
      exact ex_return (pc := 230) (fr_get fo_141_6 15 rfl) rt_141 rfl rfl (ma_end_mk h)
  · replace h := h.2 c
    refine ex_aload_n (pc := 71) (fr_get fo_141_2 3 rfl) rfl rfl ?_
    refine ex_iconst (pc := 72) (fr_get fo_141_2 4 rfl) ic_5 ?_
    refine ex_pi (pc := 73) (fr_get fo_141_2 5 rfl) ow_141 fp_9_94_40 ?_
    refine ex_goto (pc := 76) (fr_get fo_141_2 6 rfl) (t := 230) rfl ?_
    exact ex_return (pc := 230) (fr_get fo_141_6 15 rfl) rt_141 rfl rfl (ma_end_mk h)

theorem b_141_206 {d : Nat} {I : ma_I} {o : Nat} {Q : ma_Q} {v1 : Int32}
  (h :
    (v1 = 0 →
      Q none (ma_up (ma_up I 40 0 18 (6 : Int32)) 40 0 17 ((I 40 0 17) + (1 : Int32))) o) ∧
    (v1 ≠ 0 →
      Q none (ma_up (ma_up I 40 0 18 (4 : Int32)) 40 0 17 ((I 40 0 17) + (1 : Int32))) o)) :
  Ex (d + 1) 141 (206, [some (.inr (.inr (40, 0))), some (.inl v1)], [], ma_mem I o, 0, 0) (ma_end Q) := by
  refine ex_aload_n (pc := 206) (fr_get fo_141_6 2 rfl) rfl rfl ?_
  refine ex_iload_n (pc := 207) (fr_get fo_141_6 3 rfl) rfl ?_
  refine xv_beq (pc := 208) (fr_get fo_141_6 4 rfl) (t := 215) rfl (fun c => ?_) (fun c => ?_)
  · replace h := h.1 c
    refine ex_bipush (pc := 215) (fr_get fo_141_6 7 rfl) bp_6 ?_
    refine ex_pi (pc := 217) (fr_get fo_141_6 8 rfl) ow_141 fp_9_94_40 ?_
    refine ex_aload_n (pc := 220) (fr_get fo_141_6 9 rfl) rfl rfl ?_
    refine ex_dupr (pc := 221) (fr_get fo_141_6 10 rfl) ?_
    refine xv_gi (pc := 222) (fr_get fo_141_6 11 rfl) ow_141 fg_9_88_40 (xv_uj rfl) ?_
    refine ex_iconst (pc := 225) (fr_get fo_141_6 12 rfl) ic_1 ?_
    refine ex_iadd (pc := 226) (fr_get fo_141_6 13 rfl) ?_
    refine ex_pi (pc := 227) (fr_get fo_141_6 14 rfl) ow_141 fp_9_88_40 ?_
    exact ex_return (pc := 230) (fr_get fo_141_6 15 rfl) rt_141 rfl rfl (ma_end_mk h)
  · replace h := h.2 c
    refine ex_iconst (pc := 211) (fr_get fo_141_6 5 rfl) ic_4 ?_
    refine ex_goto (pc := 212) (fr_get fo_141_6 6 rfl) (t := 217) rfl ?_
    refine ex_pi (pc := 217) (fr_get fo_141_6 8 rfl) ow_141 fp_9_94_40 ?_
    refine ex_aload_n (pc := 220) (fr_get fo_141_6 9 rfl) rfl rfl ?_
    refine ex_dupr (pc := 221) (fr_get fo_141_6 10 rfl) ?_
    refine xv_gi (pc := 222) (fr_get fo_141_6 11 rfl) ow_141 fg_9_88_40 (xv_uj rfl) ?_
    refine ex_iconst (pc := 225) (fr_get fo_141_6 12 rfl) ic_1 ?_
    refine ex_iadd (pc := 226) (fr_get fo_141_6 13 rfl) ?_
    refine ex_pi (pc := 227) (fr_get fo_141_6 14 rfl) ow_141 fp_9_88_40 ?_
    exact ex_return (pc := 230) (fr_get fo_141_6 15 rfl) rt_141 rfl rfl (ma_end_mk h)

theorem e_144 {d : Nat} {I : ma_I} {o : Nat} {Q : ma_Q} {a1 : Int32}
  (h :
    ma_in ((I 40 0 28) + (I 40 0 29)) 2880 ∧
    Q none (ma_up (ma_up I 50 0 (((I 40 0 28) + (I 40 0 29)).toNatClampNeg) a1) 40 0 29 ((I 40 0 29) + (1 : Int32))) o) :
  Exm (d) 144 [.inr (.inr (40, 0)), .inl a1] I o Q := by
  show Ex (d) 144 (0, [some (.inr (.inr (40, 0))), some (.inl a1)], [], ma_mem I o, 0, 0) (ma_end Q)
  refine ex_aload_n (pc := 0) (fr_get fo_144_0 0 rfl) rfl rfl ?_
  refine ex_gr (pc := 1) (fr_get fo_144_0 1 rfl) ow_144 fr_9_120_40 (q := (50, 0)) rfl ?_
  refine ex_aload_n (pc := 4) (fr_get fo_144_0 2 rfl) rfl rfl ?_
  refine xv_gi (pc := 5) (fr_get fo_144_0 3 rfl) ow_144 fg_9_123_40 rfl ?_
  refine ex_aload_n (pc := 8) (fr_get fo_144_0 4 rfl) rfl rfl ?_
  refine xv_gi (pc := 9) (fr_get fo_144_0 5 rfl) ow_144 fg_9_126_40 rfl ?_
  refine ex_iadd (pc := 12) (fr_get fo_144_0 6 rfl) ?_
  refine ex_iload_n (pc := 13) (fr_get fo_144_0 7 rfl) rfl ?_
  refine xv_iast (pc := 14) (fr_get fo_144_0 8 rfl) gs_50 gl_50 rfl h.1 ?_
  replace h := h.2
  refine ex_aload_n (pc := 15) (fr_get fo_144_0 9 rfl) rfl rfl ?_
  refine ex_dupr (pc := 16) (fr_get fo_144_0 10 rfl) ?_
  refine xv_gi (pc := 17) (fr_get fo_144_0 11 rfl) ow_144 fg_9_126_40 (xv_ug rfl) ?_
  refine ex_iconst (pc := 20) (fr_get fo_144_0 12 rfl) ic_1 ?_
  refine ex_iadd (pc := 21) (fr_get fo_144_0 13 rfl) ?_
  refine ex_pi (pc := 22) (fr_get fo_144_0 14 rfl) ow_144 fp_9_126_40 ?_
  exact ex_return (pc := 25) (fr_get fo_144_0 15 rfl) rt_144 rfl rfl (ma_end_mk h)

theorem e_146 {d : Nat} {I : ma_I} {o : Nat} {Q : ma_Q} {a1 : Int32}
  (h :
    Ex (d + 1) 146 (0, [some (.inr (.inr (40, 0))), some (.inl a1)], [], ma_mem I o, 0, 0) (ma_end Q)) :
  Exm (d + 1) 146 [.inr (.inr (40, 0)), .inl a1] I o Q := by
  show Ex (d + 1) 146 (0, [some (.inr (.inr (40, 0))), some (.inl a1)], [], ma_mem I o, 0, 0) (ma_end Q)
  exact h

theorem b_146_0 {d : Nat} {I : ma_I} {o : Nat} {Q : ma_Q} {v1 : Int32}
  (h :
    (I 40 0 24 ≤ 0 →
      Q none I o) ∧
    (0 < I 40 0 24 →
      ma_in ((I 40 0 24) - (1 : Int32)) 170 ∧
      (I 54 0 (((I 40 0 24) - (1 : Int32)).toNatClampNeg) = (30 : Int32) →
        Q none I o) ∧
      (I 54 0 (((I 40 0 24) - (1 : Int32)).toNatClampNeg) ≠ (30 : Int32) →
        ma_in ((I 40 0 24) - (1 : Int32)) 170 ∧
        (xv_rk (I 54 0 (((I 40 0 24) - (1 : Int32)).toNatClampNeg)) < v1 →
          Q none I o) ∧
        (v1 ≤ xv_rk (I 54 0 (((I 40 0 24) - (1 : Int32)).toNatClampNeg)) →
          ma_in ((I 40 0 24) - (1 : Int32)) 170 ∧
          (I 54 0 (((I 40 0 24) - (1 : Int32)).toNatClampNeg) = (12 : Int32) →
            ma_in ((I 40 0 24) - (1 : Int32)) 170 ∧
            Exm (d) 144 [.inr (.inr (40, 0)), .inl (I 54 0 (((I 40 0 24) - (1 : Int32)).toNatClampNeg))] (ma_up (ma_up I 40 0 24 ((I 40 0 24) - (1 : Int32))) 40 0 25 ((I 40 0 25) - (1 : Int32))) o (fun r J1 p2 => r = none ∧
              Ex (d + 1) 146 (0, [some (.inr (.inr (40, 0))), some (.inl v1)], [], ma_mem J1 p2, 0, 0) (ma_end Q))) ∧
          (I 54 0 (((I 40 0 24) - (1 : Int32)).toNatClampNeg) ≠ (12 : Int32) →
            ma_in ((I 40 0 24) - (1 : Int32)) 170 ∧
            (I 54 0 (((I 40 0 24) - (1 : Int32)).toNatClampNeg) ≠ (18 : Int32) →
              ma_in ((I 40 0 24) - (1 : Int32)) 170 ∧
              Exm (d) 144 [.inr (.inr (40, 0)), .inl (I 54 0 (((I 40 0 24) - (1 : Int32)).toNatClampNeg))] (ma_up (ma_up I 40 0 24 ((I 40 0 24) - (1 : Int32))) 40 0 25 ((I 40 0 25) - (0 : Int32))) o (fun r J3 p4 => r = none ∧
                Ex (d + 1) 146 (0, [some (.inr (.inr (40, 0))), some (.inl v1)], [], ma_mem J3 p4, 0, 0) (ma_end Q))) ∧
            (I 54 0 (((I 40 0 24) - (1 : Int32)).toNatClampNeg) = (18 : Int32) →
              ma_in ((I 40 0 24) - (1 : Int32)) 170 ∧
              Exm (d) 144 [.inr (.inr (40, 0)), .inl (I 54 0 (((I 40 0 24) - (1 : Int32)).toNatClampNeg))] (ma_up (ma_up I 40 0 24 ((I 40 0 24) - (1 : Int32))) 40 0 25 ((I 40 0 25) - (1 : Int32))) o (fun r J5 p6 => r = none ∧
                Ex (d + 1) 146 (0, [some (.inr (.inr (40, 0))), some (.inl v1)], [], ma_mem J5 p6, 0, 0) (ma_end Q)))))))) :
  Ex (d + 1) 146 (0, [some (.inr (.inr (40, 0))), some (.inl v1)], [], ma_mem I o, 0, 0) (ma_end Q) := by
  refine ex_aload_n (pc := 0) (fr_get fo_146_0 0 rfl) rfl rfl ?_
  refine xv_gi (pc := 1) (fr_get fo_146_0 1 rfl) ow_146 fg_9_129_40 rfl ?_
  refine xv_ble (pc := 4) (fr_get fo_146_0 2 rfl) (t := 109) rfl (fun c => ?_) (fun c => ?_)
  · replace h := h.1 c
    exact ex_return (pc := 109) (fr_get fo_146_3 10 rfl) rt_146 rfl rfl (ma_end_mk h)
  · replace h := h.2 c
    refine ex_aload_n (pc := 7) (fr_get fo_146_0 3 rfl) rfl rfl ?_
    refine ex_gr (pc := 8) (fr_get fo_146_0 4 rfl) ow_146 fr_9_132_40 (q := (54, 0)) rfl ?_
    refine ex_aload_n (pc := 11) (fr_get fo_146_0 5 rfl) rfl rfl ?_
    refine xv_gi (pc := 12) (fr_get fo_146_0 6 rfl) ow_146 fg_9_129_40 rfl ?_
    refine ex_iconst (pc := 15) (fr_get fo_146_0 7 rfl) ic_1 ?_
    refine ex_isub (pc := 16) (fr_get fo_146_0 8 rfl) ?_
    refine xv_iald (pc := 17) (fr_get fo_146_0 9 rfl) gk_54 (n := 170) (gn_54 ..) rfl rfl h.1 ?_
    replace h := h.2
    refine ex_bipush (pc := 18) (fr_get fo_146_0 10 rfl) bp_30 ?_
    refine xv_ceq (pc := 20) (fr_get fo_146_0 11 rfl) (t := 109) rfl (fun c => ?_) (fun c => ?_)
    · replace h := h.1 c
      exact ex_return (pc := 109) (fr_get fo_146_3 10 rfl) rt_146 rfl rfl (ma_end_mk h)
    · replace h := h.2 c
      refine ex_aload_n (pc := 23) (fr_get fo_146_0 12 rfl) rfl rfl ?_
      refine ex_gr (pc := 24) (fr_get fo_146_0 13 rfl) ow_146 fr_9_132_40 (q := (54, 0)) rfl ?_
      refine ex_aload_n (pc := 27) (fr_get fo_146_0 14 rfl) rfl rfl ?_
      refine xv_gi (pc := 28) (fr_get fo_146_0 15 rfl) ow_146 fg_9_129_40 rfl ?_
      refine ex_iconst (pc := 31) (fr_get fo_146_1 0 rfl) ic_1 ?_
      refine ex_isub (pc := 32) (fr_get fo_146_1 1 rfl) ?_
      refine xv_iald (pc := 33) (fr_get fo_146_1 2 rfl) gk_54 (n := 170) (gn_54 ..) rfl rfl h.1 ?_
      replace h := h.2
      refine xv_ks1 (pc := 34) (fr_get fo_146_1 3 rfl) cc_146_135 (as := [.inl (I 54 0 (((I 40 0 24) - (1 : Int32)).toNatClampNeg))]) (rs := []) rfl rfl rfl rfl ?_
      refine sm_145 ?_
      refine ⟨_, rfl, ?_⟩
      refine ex_iload_n (pc := 37) (fr_get fo_146_1 4 rfl) rfl ?_
      refine xv_clt (pc := 38) (fr_get fo_146_1 5 rfl) (t := 109) rfl (fun c => ?_) (fun c => ?_)
      · replace h := h.1 c
        exact ex_return (pc := 109) (fr_get fo_146_3 10 rfl) rt_146 rfl rfl (ma_end_mk h)
      · replace h := h.2 c
        refine ex_aload_n (pc := 41) (fr_get fo_146_1 6 rfl) rfl rfl ?_
        refine ex_dupr (pc := 42) (fr_get fo_146_1 7 rfl) ?_
        refine xv_gi (pc := 43) (fr_get fo_146_1 8 rfl) ow_146 fg_9_129_40 rfl ?_
        refine ex_iconst (pc := 46) (fr_get fo_146_1 9 rfl) ic_1 ?_
        refine ex_isub (pc := 47) (fr_get fo_146_1 10 rfl) ?_
        refine ex_pi (pc := 48) (fr_get fo_146_1 11 rfl) ow_146 fp_9_129_40 ?_
        refine ex_aload_n (pc := 51) (fr_get fo_146_1 12 rfl) rfl rfl ?_
        refine ex_dupr (pc := 52) (fr_get fo_146_1 13 rfl) ?_
        refine xv_gi (pc := 53) (fr_get fo_146_1 14 rfl) ow_146 fg_9_138_40 (xv_uj rfl) ?_
        refine ex_aload_n (pc := 56) (fr_get fo_146_1 15 rfl) rfl rfl ?_
        refine ex_gr (pc := 57) (fr_get fo_146_2 0 rfl) ow_146 fr_9_132_40 (q := (54, 0)) rfl ?_
        refine ex_aload_n (pc := 60) (fr_get fo_146_2 1 rfl) rfl rfl ?_
        refine xv_gi (pc := 61) (fr_get fo_146_2 2 rfl) ow_146 fg_9_129_40 xv_us ?_
        refine xv_iald (pc := 64) (fr_get fo_146_2 3 rfl) gk_54 (n := 170) (gn_54 ..) rfl (xv_ug rfl) h.1 ?_
        replace h := h.2
        refine ex_bipush (pc := 65) (fr_get fo_146_2 4 rfl) bp_12 ?_
        refine xv_ceq (pc := 67) (fr_get fo_146_2 5 rfl) (t := 84) rfl (fun c => ?_) (fun c => ?_)
        · replace h := h.1 c
          refine ex_iconst (pc := 84) (fr_get fo_146_2 13 rfl) ic_1 ?_
          refine ex_goto (pc := 85) (fr_get fo_146_2 14 rfl) (t := 89) rfl ?_
          refine ex_isub (pc := 89) (fr_get fo_146_3 0 rfl) ?_
          refine ex_pi (pc := 90) (fr_get fo_146_3 1 rfl) ow_146 fp_9_138_40 ?_
          refine ex_aload_n (pc := 93) (fr_get fo_146_3 2 rfl) rfl rfl ?_
          refine ex_aload_n (pc := 94) (fr_get fo_146_3 3 rfl) rfl rfl ?_
          refine ex_gr (pc := 95) (fr_get fo_146_3 4 rfl) ow_146 fr_9_132_40 (q := (54, 0)) rfl ?_
          refine ex_aload_n (pc := 98) (fr_get fo_146_3 5 rfl) rfl rfl ?_
          refine xv_gi (pc := 99) (fr_get fo_146_3 6 rfl) ow_146 fg_9_129_40 (Eq.trans (xv_uj rfl) (xv_us)) ?_
          refine xv_iald (pc := 102) (fr_get fo_146_3 7 rfl) gk_54 (n := 170) (gn_54 ..) rfl (Eq.trans (xv_ug rfl) (xv_ug rfl)) h.1 ?_
          replace h := h.2
          refine xv_kv0 (pc := 103) (fr_get fo_146_3 8 rfl) cc_146_141 (as := [.inr (.inr (40, 0)), .inl (I 54 0 (((I 40 0 24) - (1 : Int32)).toNatClampNeg))]) (rs := []) rfl rfl rfl rfl rfl ?_
          refine h.mono (fun r J1 p2 h => ⟨h.1, ?_⟩)
          replace h := h.2
          refine ex_goto (pc := 106) (fr_get fo_146_3 9 rfl) (t := 0) rfl ?_
          exact h
        · replace h := h.2 c
          refine ex_aload_n (pc := 70) (fr_get fo_146_2 6 rfl) rfl rfl ?_
          refine ex_gr (pc := 71) (fr_get fo_146_2 7 rfl) ow_146 fr_9_132_40 (q := (54, 0)) rfl ?_
          refine ex_aload_n (pc := 74) (fr_get fo_146_2 8 rfl) rfl rfl ?_
          refine xv_gi (pc := 75) (fr_get fo_146_2 9 rfl) ow_146 fg_9_129_40 xv_us ?_
          refine xv_iald (pc := 78) (fr_get fo_146_2 10 rfl) gk_54 (n := 170) (gn_54 ..) rfl (xv_ug rfl) h.1 ?_
          replace h := h.2
          refine ex_bipush (pc := 79) (fr_get fo_146_2 11 rfl) bp_18 ?_
          refine xv_cne (pc := 81) (fr_get fo_146_2 12 rfl) (t := 88) rfl (fun c => ?_) (fun c => ?_)
          · replace h := h.1 c
            refine ex_iconst (pc := 88) (fr_get fo_146_2 15 rfl) ic_0 ?_
            refine ex_isub (pc := 89) (fr_get fo_146_3 0 rfl) ?_
            refine ex_pi (pc := 90) (fr_get fo_146_3 1 rfl) ow_146 fp_9_138_40 ?_
            refine ex_aload_n (pc := 93) (fr_get fo_146_3 2 rfl) rfl rfl ?_
            refine ex_aload_n (pc := 94) (fr_get fo_146_3 3 rfl) rfl rfl ?_
            refine ex_gr (pc := 95) (fr_get fo_146_3 4 rfl) ow_146 fr_9_132_40 (q := (54, 0)) rfl ?_
            refine ex_aload_n (pc := 98) (fr_get fo_146_3 5 rfl) rfl rfl ?_
            refine xv_gi (pc := 99) (fr_get fo_146_3 6 rfl) ow_146 fg_9_129_40 (Eq.trans (xv_uj rfl) (xv_us)) ?_
            refine xv_iald (pc := 102) (fr_get fo_146_3 7 rfl) gk_54 (n := 170) (gn_54 ..) rfl (Eq.trans (xv_ug rfl) (xv_ug rfl)) h.1 ?_
            replace h := h.2
            refine xv_kv0 (pc := 103) (fr_get fo_146_3 8 rfl) cc_146_141 (as := [.inr (.inr (40, 0)), .inl (I 54 0 (((I 40 0 24) - (1 : Int32)).toNatClampNeg))]) (rs := []) rfl rfl rfl rfl rfl ?_
            refine h.mono (fun r J3 p4 h => ⟨h.1, ?_⟩)
            replace h := h.2
            refine ex_goto (pc := 106) (fr_get fo_146_3 9 rfl) (t := 0) rfl ?_
            exact h
          · replace h := h.2 c
            refine ex_iconst (pc := 84) (fr_get fo_146_2 13 rfl) ic_1 ?_
            refine ex_goto (pc := 85) (fr_get fo_146_2 14 rfl) (t := 89) rfl ?_
            refine ex_isub (pc := 89) (fr_get fo_146_3 0 rfl) ?_
            refine ex_pi (pc := 90) (fr_get fo_146_3 1 rfl) ow_146 fp_9_138_40 ?_
            refine ex_aload_n (pc := 93) (fr_get fo_146_3 2 rfl) rfl rfl ?_
            refine ex_aload_n (pc := 94) (fr_get fo_146_3 3 rfl) rfl rfl ?_
            refine ex_gr (pc := 95) (fr_get fo_146_3 4 rfl) ow_146 fr_9_132_40 (q := (54, 0)) rfl ?_
            refine ex_aload_n (pc := 98) (fr_get fo_146_3 5 rfl) rfl rfl ?_
            refine xv_gi (pc := 99) (fr_get fo_146_3 6 rfl) ow_146 fg_9_129_40 (Eq.trans (xv_uj rfl) (xv_us)) ?_
            refine xv_iald (pc := 102) (fr_get fo_146_3 7 rfl) gk_54 (n := 170) (gn_54 ..) rfl (Eq.trans (xv_ug rfl) (xv_ug rfl)) h.1 ?_
            replace h := h.2
            refine xv_kv0 (pc := 103) (fr_get fo_146_3 8 rfl) cc_146_141 (as := [.inr (.inr (40, 0)), .inl (I 54 0 (((I 40 0 24) - (1 : Int32)).toNatClampNeg))]) (rs := []) rfl rfl rfl rfl rfl ?_
            refine h.mono (fun r J5 p6 h => ⟨h.1, ?_⟩)
            replace h := h.2
            refine ex_goto (pc := 106) (fr_get fo_146_3 9 rfl) (t := 0) rfl ?_
            exact h

theorem e_147 {d : Nat} {I : ma_I} {o : Nat} {Q : ma_Q} {a1 : Int32}
  (h :
    ma_in (I 40 0 24) 170 ∧
    Q none (ma_up (ma_up I 54 0 ((I 40 0 24).toNatClampNeg) a1) 40 0 24 ((I 40 0 24) + (1 : Int32))) o) :
  Exm (d) 147 [.inr (.inr (40, 0)), .inl a1] I o Q := by
  show Ex (d) 147 (0, [some (.inr (.inr (40, 0))), some (.inl a1)], [], ma_mem I o, 0, 0) (ma_end Q)
  refine ex_aload_n (pc := 0) (fr_get fo_147_0 0 rfl) rfl rfl ?_
  refine ex_gr (pc := 1) (fr_get fo_147_0 1 rfl) ow_147 fr_9_132_40 (q := (54, 0)) rfl ?_
  refine ex_aload_n (pc := 4) (fr_get fo_147_0 2 rfl) rfl rfl ?_
  refine xv_gi (pc := 5) (fr_get fo_147_0 3 rfl) ow_147 fg_9_129_40 rfl ?_
  refine ex_iload_n (pc := 8) (fr_get fo_147_0 4 rfl) rfl ?_
  refine xv_iast (pc := 9) (fr_get fo_147_0 5 rfl) gs_54 gl_54 rfl h.1 ?_
  replace h := h.2
  refine ex_aload_n (pc := 10) (fr_get fo_147_0 6 rfl) rfl rfl ?_
  refine ex_dupr (pc := 11) (fr_get fo_147_0 7 rfl) ?_
  refine xv_gi (pc := 12) (fr_get fo_147_0 8 rfl) ow_147 fg_9_129_40 (xv_ug rfl) ?_
  refine ex_iconst (pc := 15) (fr_get fo_147_0 9 rfl) ic_1 ?_
  refine ex_iadd (pc := 16) (fr_get fo_147_0 10 rfl) ?_
  refine ex_pi (pc := 17) (fr_get fo_147_0 11 rfl) ow_147 fp_9_129_40 ?_
  exact ex_return (pc := 20) (fr_get fo_147_0 12 rfl) rt_147 rfl rfl (ma_end_mk h)

theorem e_148 {d : Nat} {I : ma_I} {o : Nat} {Q : ma_Q} 
  (h :
    (¬(I 40 0 18 = (4 : Int32) ∧ I 40 0 19 = (43 : Int32)) →
      (¬(I 40 0 18 = (4 : Int32) ∧ I 40 0 19 = (45 : Int32)) →
        (¬(I 40 0 18 = (4 : Int32) ∧ I 40 0 19 = (42 : Int32)) →
          (¬(I 40 0 18 = (4 : Int32) ∧ I 40 0 19 = (60 : Int32)) →
            (¬(I 40 0 18 = (4 : Int32) ∧ I 40 0 19 = (61 : Int32)) →
              (¬(I 40 0 18 = (3 : Int32) ∧ I 40 0 19 = (4 : Int32)) →
                (¬(I 40 0 18 = (3 : Int32) ∧ I 40 0 19 = (3 : Int32)) →
                  Ex (d + 1) 148 (98, [some (.inr (.inr (40, 0))), some (.inl (-1 : Int32))], [], ma_mem I o, 0, 0) (ma_end Q)) ∧
                (I 40 0 18 = (3 : Int32) ∧ I 40 0 19 = (3 : Int32) →
                  Ex (d + 1) 148 (98, [some (.inr (.inr (40, 0))), some (.inl (10 : Int32))], [], ma_mem I o, 0, 0) (ma_end Q))) ∧
              (I 40 0 18 = (3 : Int32) ∧ I 40 0 19 = (4 : Int32) →
                Ex (d + 1) 148 (98, [some (.inr (.inr (40, 0))), some (.inl (11 : Int32))], [], ma_mem I o, 0, 0) (ma_end Q))) ∧
            (I 40 0 18 = (4 : Int32) ∧ I 40 0 19 = (61 : Int32) →
              Ex (d + 1) 148 (98, [some (.inr (.inr (40, 0))), some (.inl (14 : Int32))], [], ma_mem I o, 0, 0) (ma_end Q))) ∧
          (I 40 0 18 = (4 : Int32) ∧ I 40 0 19 = (60 : Int32) →
            Ex (d + 1) 148 (98, [some (.inr (.inr (40, 0))), some (.inl (13 : Int32))], [], ma_mem I o, 0, 0) (ma_end Q))) ∧
        (I 40 0 18 = (4 : Int32) ∧ I 40 0 19 = (42 : Int32) →
          Ex (d + 1) 148 (98, [some (.inr (.inr (40, 0))), some (.inl (17 : Int32))], [], ma_mem I o, 0, 0) (ma_end Q))) ∧
      (I 40 0 18 = (4 : Int32) ∧ I 40 0 19 = (45 : Int32) →
        Ex (d + 1) 148 (98, [some (.inr (.inr (40, 0))), some (.inl (16 : Int32))], [], ma_mem I o, 0, 0) (ma_end Q))) ∧
    (I 40 0 18 = (4 : Int32) ∧ I 40 0 19 = (43 : Int32) →
      Ex (d + 1) 148 (98, [some (.inr (.inr (40, 0))), some (.inl (15 : Int32))], [], ma_mem I o, 0, 0) (ma_end Q))) :
  Exm (d + 1) 148 [.inr (.inr (40, 0))] I o Q := by
  show Ex (d + 1) 148 (0, [some (.inr (.inr (40, 0))), none], [], ma_mem I o, 0, 0) (ma_end Q)
  refine ex_aload_n (pc := 0) (fr_get fo_148_0 0 rfl) rfl rfl ?_
  refine ex_bipush (pc := 1) (fr_get fo_148_0 1 rfl) bp_43 ?_
  refine xv_kv1 (pc := 3) (fr_get fo_148_0 2 rfl) cc_148_145 (as := [.inr (.inr (40, 0)), .inl (43 : Int32)]) (rs := []) rfl rfl rfl rfl rfl ?_
  refine sm_142 rfl rfl ?_
  refine ⟨_, rfl, ?_⟩
  refine xv_peq (pc := 6) (fr_get fo_148_0 3 rfl) (t := 14) rfl (fun c => ?_) (fun c => ?_)
  · replace h := h.1 c
    refine ex_aload_n (pc := 14) (fr_get fo_148_0 6 rfl) rfl rfl ?_
    refine ex_bipush (pc := 15) (fr_get fo_148_0 7 rfl) bp_45 ?_
    refine xv_kv1 (pc := 17) (fr_get fo_148_0 8 rfl) cc_148_145 (as := [.inr (.inr (40, 0)), .inl (45 : Int32)]) (rs := []) rfl rfl rfl rfl rfl ?_
    refine sm_142 rfl rfl ?_
    refine ⟨_, rfl, ?_⟩
    refine xv_peq (pc := 20) (fr_get fo_148_0 9 rfl) (t := 28) rfl (fun c => ?_) (fun c => ?_)
    · replace h := h.1 c
      refine ex_aload_n (pc := 28) (fr_get fo_148_0 12 rfl) rfl rfl ?_
      refine ex_bipush (pc := 29) (fr_get fo_148_0 13 rfl) bp_42 ?_
      refine xv_kv1 (pc := 31) (fr_get fo_148_0 14 rfl) cc_148_145 (as := [.inr (.inr (40, 0)), .inl (42 : Int32)]) (rs := []) rfl rfl rfl rfl rfl ?_
      refine sm_142 rfl rfl ?_
      refine ⟨_, rfl, ?_⟩
      refine xv_peq (pc := 34) (fr_get fo_148_0 15 rfl) (t := 42) rfl (fun c => ?_) (fun c => ?_)
      · replace h := h.1 c
        refine ex_aload_n (pc := 42) (fr_get fo_148_1 2 rfl) rfl rfl ?_
        refine ex_bipush (pc := 43) (fr_get fo_148_1 3 rfl) bp_60 ?_
        refine xv_kv1 (pc := 45) (fr_get fo_148_1 4 rfl) cc_148_145 (as := [.inr (.inr (40, 0)), .inl (60 : Int32)]) (rs := []) rfl rfl rfl rfl rfl ?_
        refine sm_142 rfl rfl ?_
        refine ⟨_, rfl, ?_⟩
        refine xv_peq (pc := 48) (fr_get fo_148_1 5 rfl) (t := 56) rfl (fun c => ?_) (fun c => ?_)
        · replace h := h.1 c
          refine ex_aload_n (pc := 56) (fr_get fo_148_1 8 rfl) rfl rfl ?_
          refine ex_bipush (pc := 57) (fr_get fo_148_1 9 rfl) bp_61 ?_
          refine xv_kv1 (pc := 59) (fr_get fo_148_1 10 rfl) cc_148_145 (as := [.inr (.inr (40, 0)), .inl (61 : Int32)]) (rs := []) rfl rfl rfl rfl rfl ?_
          refine sm_142 rfl rfl ?_
          refine ⟨_, rfl, ?_⟩
          refine xv_peq (pc := 62) (fr_get fo_148_1 11 rfl) (t := 70) rfl (fun c => ?_) (fun c => ?_)
          · replace h := h.1 c
            refine ex_aload_n (pc := 70) (fr_get fo_148_1 14 rfl) rfl rfl ?_
            refine ex_iconst (pc := 71) (fr_get fo_148_1 15 rfl) ic_4 ?_
            refine xv_kv1 (pc := 72) (fr_get fo_148_2 0 rfl) cc_148_148 (as := [.inr (.inr (40, 0)), .inl (4 : Int32)]) (rs := []) rfl rfl rfl rfl rfl ?_
            refine sm_143 rfl rfl ?_
            refine ⟨_, rfl, ?_⟩
            refine xv_peq (pc := 75) (fr_get fo_148_2 1 rfl) (t := 83) rfl (fun c => ?_) (fun c => ?_)
            · replace h := h.1 c
              refine ex_aload_n (pc := 83) (fr_get fo_148_2 4 rfl) rfl rfl ?_
              refine ex_iconst (pc := 84) (fr_get fo_148_2 5 rfl) ic_3 ?_
              refine xv_kv1 (pc := 85) (fr_get fo_148_2 6 rfl) cc_148_148 (as := [.inr (.inr (40, 0)), .inl (3 : Int32)]) (rs := []) rfl rfl rfl rfl rfl ?_
              refine sm_143 rfl rfl ?_
              refine ⟨_, rfl, ?_⟩
              refine xv_peq (pc := 88) (fr_get fo_148_2 7 rfl) (t := 96) rfl (fun c => ?_) (fun c => ?_)
              · replace h := h.1 c
                refine ex_iconst (pc := 96) (fr_get fo_148_2 10 rfl) ic_m1 ?_
                refine ex_istore_n (pc := 97) (fr_get fo_148_2 11 rfl) rfl (L' := [some (.inr (.inr (40, 0))), some (.inl (-1 : Int32))]) rfl ?_
                exact h
              · replace h := h.2 c
                refine ex_bipush (pc := 91) (fr_get fo_148_2 8 rfl) bp_10 ?_
                refine ex_goto (pc := 93) (fr_get fo_148_2 9 rfl) (t := 97) rfl ?_
                refine ex_istore_n (pc := 97) (fr_get fo_148_2 11 rfl) rfl (L' := [some (.inr (.inr (40, 0))), some (.inl (10 : Int32))]) rfl ?_
                exact h
            · replace h := h.2 c
              refine ex_bipush (pc := 78) (fr_get fo_148_2 2 rfl) bp_11 ?_
              refine ex_goto (pc := 80) (fr_get fo_148_2 3 rfl) (t := 97) rfl ?_
              refine ex_istore_n (pc := 97) (fr_get fo_148_2 11 rfl) rfl (L' := [some (.inr (.inr (40, 0))), some (.inl (11 : Int32))]) rfl ?_
              exact h
          · replace h := h.2 c
            refine ex_bipush (pc := 65) (fr_get fo_148_1 12 rfl) bp_14 ?_
            refine ex_goto (pc := 67) (fr_get fo_148_1 13 rfl) (t := 97) rfl ?_
            refine ex_istore_n (pc := 97) (fr_get fo_148_2 11 rfl) rfl (L' := [some (.inr (.inr (40, 0))), some (.inl (14 : Int32))]) rfl ?_
            exact h
        · replace h := h.2 c
          refine ex_bipush (pc := 51) (fr_get fo_148_1 6 rfl) bp_13 ?_
          refine ex_goto (pc := 53) (fr_get fo_148_1 7 rfl) (t := 97) rfl ?_
          refine ex_istore_n (pc := 97) (fr_get fo_148_2 11 rfl) rfl (L' := [some (.inr (.inr (40, 0))), some (.inl (13 : Int32))]) rfl ?_
          exact h
      · replace h := h.2 c
        refine ex_bipush (pc := 37) (fr_get fo_148_1 0 rfl) bp_17 ?_
        refine ex_goto (pc := 39) (fr_get fo_148_1 1 rfl) (t := 97) rfl ?_
        refine ex_istore_n (pc := 97) (fr_get fo_148_2 11 rfl) rfl (L' := [some (.inr (.inr (40, 0))), some (.inl (17 : Int32))]) rfl ?_
        exact h
    · replace h := h.2 c
      refine ex_bipush (pc := 23) (fr_get fo_148_0 10 rfl) bp_16 ?_
      refine ex_goto (pc := 25) (fr_get fo_148_0 11 rfl) (t := 97) rfl ?_
      refine ex_istore_n (pc := 97) (fr_get fo_148_2 11 rfl) rfl (L' := [some (.inr (.inr (40, 0))), some (.inl (16 : Int32))]) rfl ?_
      exact h
  · replace h := h.2 c
    refine ex_bipush (pc := 9) (fr_get fo_148_0 4 rfl) bp_15 ?_
    refine ex_goto (pc := 11) (fr_get fo_148_0 5 rfl) (t := 97) rfl ?_
    refine ex_istore_n (pc := 97) (fr_get fo_148_2 11 rfl) rfl (L' := [some (.inr (.inr (40, 0))), some (.inl (15 : Int32))]) rfl ?_
    exact h

theorem b_148_98 {d : Nat} {I : ma_I} {o : Nat} {Q : ma_Q} {v1 : Int32}
  (h :
    (v1 = (-1 : Int32) →
      Q (some (.inl (0 : Int32))) I o) ∧
    (v1 ≠ (-1 : Int32) →
      (xv_rk v1 ≠ (4 : Int32) →
        Exm (d) 146 [.inr (.inr (40, 0)), .inl (xv_rk v1)] I o (fun r J1 p2 => r = none ∧
          Exm (d) 147 [.inr (.inr (40, 0)), .inl v1] J1 p2 (fun r J3 p4 => r = none ∧
            (xv_rk v1 = (4 : Int32) →
              ma_in (J3 40 0 26) 8 ∧
              Q (some (.inl (1 : Int32))) (ma_up J3 55 0 ((J3 40 0 26).toNatClampNeg) (1 : Int32)) p4) ∧
            (xv_rk v1 ≠ (4 : Int32) →
              (xv_rk v1 ≤ (4 : Int32) →
                ma_in (J3 40 0 26) 8 ∧
                Q (some (.inl (1 : Int32))) (ma_up J3 55 0 ((J3 40 0 26).toNatClampNeg) (0 : Int32)) p4) ∧
              ((4 : Int32) < xv_rk v1 →
                ma_in (J3 40 0 26) 8 ∧
                (J3 55 0 ((J3 40 0 26).toNatClampNeg) = 0 →
                  ma_in (J3 40 0 26) 8 ∧
                  Q (some (.inl (1 : Int32))) (ma_up J3 55 0 ((J3 40 0 26).toNatClampNeg) (0 : Int32)) p4) ∧
                (J3 55 0 ((J3 40 0 26).toNatClampNeg) ≠ 0 →
                  ma_in (J3 40 0 26) 8 ∧
                  Q (some (.inl (1 : Int32))) (ma_up J3 55 0 ((J3 40 0 26).toNatClampNeg) (1 : Int32)) p4)))))) ∧
      (xv_rk v1 = (4 : Int32) →
        ma_in (I 40 0 26) 8 ∧
        (I 55 0 ((I 40 0 26).toNatClampNeg) = 0 →
          Exm (d) 146 [.inr (.inr (40, 0)), .inl (xv_rk v1)] I o (fun r J5 p6 => r = none ∧
            Exm (d) 147 [.inr (.inr (40, 0)), .inl v1] J5 p6 (fun r J7 p8 => r = none ∧
              (xv_rk v1 = (4 : Int32) →
                ma_in (J7 40 0 26) 8 ∧
                Q (some (.inl (1 : Int32))) (ma_up J7 55 0 ((J7 40 0 26).toNatClampNeg) (1 : Int32)) p8) ∧
              (xv_rk v1 ≠ (4 : Int32) →
                (xv_rk v1 ≤ (4 : Int32) →
                  ma_in (J7 40 0 26) 8 ∧
                  Q (some (.inl (1 : Int32))) (ma_up J7 55 0 ((J7 40 0 26).toNatClampNeg) (0 : Int32)) p8) ∧
                ((4 : Int32) < xv_rk v1 →
                  ma_in (J7 40 0 26) 8 ∧
                  (J7 55 0 ((J7 40 0 26).toNatClampNeg) = 0 →
                    ma_in (J7 40 0 26) 8 ∧
                    Q (some (.inl (1 : Int32))) (ma_up J7 55 0 ((J7 40 0 26).toNatClampNeg) (0 : Int32)) p8) ∧
                  (J7 55 0 ((J7 40 0 26).toNatClampNeg) ≠ 0 →
                    ma_in (J7 40 0 26) 8 ∧
                    Q (some (.inl (1 : Int32))) (ma_up J7 55 0 ((J7 40 0 26).toNatClampNeg) (1 : Int32)) p8)))))) ∧
        (I 55 0 ((I 40 0 26).toNatClampNeg) ≠ 0 →
          Q (some (.inl (0 : Int32))) I o)))) :
  Ex (d + 1) 148 (98, [some (.inr (.inr (40, 0))), some (.inl v1)], [], ma_mem I o, 0, 0) (ma_end Q) := by
  refine ex_iload_n (pc := 98) (fr_get fo_148_2 12 rfl) rfl ?_
  refine ex_iconst (pc := 99) (fr_get fo_148_2 13 rfl) ic_m1 ?_
  refine xv_ceq (pc := 100) (fr_get fo_148_2 14 rfl) (t := 123) rfl (fun c => ?_) (fun c => ?_)
  · replace h := h.1 c
    refine ex_iconst (pc := 123) (fr_get fo_148_3 9 rfl) ic_0 ?_
    exact ex_zreturn (pc := 124) (fr_get fo_148_3 10 rfl) rt_148 rfl rfl ⟨Or.inl rfl, ma_end_mk h⟩
  · replace h := h.2 c
    refine ex_iload_n (pc := 103) (fr_get fo_148_2 15 rfl) rfl ?_
    refine xv_ks1 (pc := 104) (fr_get fo_148_3 0 rfl) cc_148_135 (as := [.inl v1]) (rs := []) rfl rfl rfl rfl ?_
    refine sm_145 ?_
    refine ⟨_, rfl, ?_⟩
    refine ex_iconst (pc := 107) (fr_get fo_148_3 1 rfl) ic_4 ?_
    refine xv_cne (pc := 108) (fr_get fo_148_3 2 rfl) (t := 125) rfl (fun c => ?_) (fun c => ?_)
    · replace h := h.1 c
      refine ex_aload_n (pc := 125) (fr_get fo_148_3 11 rfl) rfl rfl ?_
      refine ex_iload_n (pc := 126) (fr_get fo_148_3 12 rfl) rfl ?_
      refine xv_ks1 (pc := 127) (fr_get fo_148_3 13 rfl) cc_148_135 (as := [.inl v1]) (rs := [.inr (.inr (40, 0))]) rfl rfl rfl rfl ?_
      refine sm_145 ?_
      refine ⟨_, rfl, ?_⟩
      refine xv_kv0 (pc := 130) (fr_get fo_148_3 14 rfl) cc_148_158 (as := [.inr (.inr (40, 0)), .inl (xv_rk v1)]) (rs := []) rfl rfl rfl rfl rfl ?_
      refine h.mono (fun r J1 p2 h => ⟨h.1, ?_⟩)
      replace h := h.2
      refine ex_aload_n (pc := 133) (fr_get fo_148_3 15 rfl) rfl rfl ?_
      refine ex_iload_n (pc := 134) (fr_get fo_148_4 0 rfl) rfl ?_
      refine xv_kv0 (pc := 135) (fr_get fo_148_4 1 rfl) cc_148_161 (as := [.inr (.inr (40, 0)), .inl v1]) (rs := []) rfl rfl rfl rfl rfl ?_
      refine h.mono (fun r J3 p4 h => ⟨h.1, ?_⟩)
      replace h := h.2
      refine ex_aload_n (pc := 138) (fr_get fo_148_4 2 rfl) rfl rfl ?_
      refine ex_gr (pc := 139) (fr_get fo_148_4 3 rfl) ow_148 fr_9_151_40 (q := (55, 0)) rfl ?_
      refine ex_aload_n (pc := 142) (fr_get fo_148_4 4 rfl) rfl rfl ?_
      refine xv_gi (pc := 143) (fr_get fo_148_4 5 rfl) ow_148 fg_9_155_40 rfl ?_
      refine ex_iload_n (pc := 146) (fr_get fo_148_4 6 rfl) rfl ?_
      refine xv_ks1 (pc := 147) (fr_get fo_148_4 7 rfl) cc_148_135 (as := [.inl v1]) (rs := [.inl (J3 40 0 26), .inr (.inr (55, 0))]) rfl rfl rfl rfl ?_
      refine sm_145 ?_
      refine ⟨_, rfl, ?_⟩
      refine ex_iconst (pc := 150) (fr_get fo_148_4 8 rfl) ic_4 ?_
      refine xv_ceq (pc := 151) (fr_get fo_148_4 9 rfl) (t := 174) rfl (fun c => ?_) (fun c => ?_)
      · replace h := h.1 c
        refine ex_iconst (pc := 174) (fr_get fo_148_5 4 rfl) ic_1 ?_
        refine ex_goto (pc := 175) (fr_get fo_148_5 5 rfl) (t := 179) rfl ?_
        refine xv_bast (pc := 179) (fr_get fo_148_5 7 rfl) gs_55 gl_55 rfl h.1 (Or.inr rfl) ?_
        replace h := h.2
        refine ex_iconst (pc := 180) (fr_get fo_148_5 8 rfl) ic_1 ?_
        exact ex_zreturn (pc := 181) (fr_get fo_148_5 9 rfl) rt_148 rfl rfl ⟨Or.inr rfl, ma_end_mk h⟩
      · replace h := h.2 c
        refine ex_iload_n (pc := 154) (fr_get fo_148_4 10 rfl) rfl ?_
        refine xv_ks1 (pc := 155) (fr_get fo_148_4 11 rfl) cc_148_135 (as := [.inl v1]) (rs := [.inl (J3 40 0 26), .inr (.inr (55, 0))]) rfl rfl rfl rfl ?_
        refine sm_145 ?_
        refine ⟨_, rfl, ?_⟩
        refine ex_iconst (pc := 158) (fr_get fo_148_4 12 rfl) ic_4 ?_
        refine xv_cle (pc := 159) (fr_get fo_148_4 13 rfl) (t := 178) rfl (fun c => ?_) (fun c => ?_)
        · replace h := h.1 c
          refine ex_iconst (pc := 178) (fr_get fo_148_5 6 rfl) ic_0 ?_
          refine xv_bast (pc := 179) (fr_get fo_148_5 7 rfl) gs_55 gl_55 rfl h.1 (Or.inl rfl) ?_
          replace h := h.2
          refine ex_iconst (pc := 180) (fr_get fo_148_5 8 rfl) ic_1 ?_
          exact ex_zreturn (pc := 181) (fr_get fo_148_5 9 rfl) rt_148 rfl rfl ⟨Or.inr rfl, ma_end_mk h⟩
        · replace h := h.2 c
          refine ex_aload_n (pc := 162) (fr_get fo_148_4 14 rfl) rfl rfl ?_
          refine ex_gr (pc := 163) (fr_get fo_148_4 15 rfl) ow_148 fr_9_151_40 (q := (55, 0)) rfl ?_
          refine ex_aload_n (pc := 166) (fr_get fo_148_5 0 rfl) rfl rfl ?_
          refine xv_gi (pc := 167) (fr_get fo_148_5 1 rfl) ow_148 fg_9_155_40 rfl ?_
          refine xv_bald (pc := 170) (fr_get fo_148_5 2 rfl) gb_55 (n := 8) (gn_55 ..) rfl rfl h.1 ?_
          replace h := h.2
          refine xv_beq (pc := 171) (fr_get fo_148_5 3 rfl) (t := 178) rfl (fun c => ?_) (fun c => ?_)
          · replace h := h.1 c
            refine ex_iconst (pc := 178) (fr_get fo_148_5 6 rfl) ic_0 ?_
            refine xv_bast (pc := 179) (fr_get fo_148_5 7 rfl) gs_55 gl_55 rfl h.1 (Or.inl rfl) ?_
            replace h := h.2
            refine ex_iconst (pc := 180) (fr_get fo_148_5 8 rfl) ic_1 ?_
            exact ex_zreturn (pc := 181) (fr_get fo_148_5 9 rfl) rt_148 rfl rfl ⟨Or.inr rfl, ma_end_mk h⟩
          · replace h := h.2 c
            refine ex_iconst (pc := 174) (fr_get fo_148_5 4 rfl) ic_1 ?_
            refine ex_goto (pc := 175) (fr_get fo_148_5 5 rfl) (t := 179) rfl ?_
            refine xv_bast (pc := 179) (fr_get fo_148_5 7 rfl) gs_55 gl_55 rfl h.1 (Or.inr rfl) ?_
            replace h := h.2
            refine ex_iconst (pc := 180) (fr_get fo_148_5 8 rfl) ic_1 ?_
            exact ex_zreturn (pc := 181) (fr_get fo_148_5 9 rfl) rt_148 rfl rfl ⟨Or.inr rfl, ma_end_mk h⟩
    · replace h := h.2 c
      refine ex_aload_n (pc := 111) (fr_get fo_148_3 3 rfl) rfl rfl ?_
      refine ex_gr (pc := 112) (fr_get fo_148_3 4 rfl) ow_148 fr_9_151_40 (q := (55, 0)) rfl ?_
      refine ex_aload_n (pc := 115) (fr_get fo_148_3 5 rfl) rfl rfl ?_
      refine xv_gi (pc := 116) (fr_get fo_148_3 6 rfl) ow_148 fg_9_155_40 rfl ?_
      refine xv_bald (pc := 119) (fr_get fo_148_3 7 rfl) gb_55 (n := 8) (gn_55 ..) rfl rfl h.1 ?_
      replace h := h.2
      refine xv_beq (pc := 120) (fr_get fo_148_3 8 rfl) (t := 125) rfl (fun c => ?_) (fun c => ?_)
      · replace h := h.1 c
        refine ex_aload_n (pc := 125) (fr_get fo_148_3 11 rfl) rfl rfl ?_
        refine ex_iload_n (pc := 126) (fr_get fo_148_3 12 rfl) rfl ?_
        refine xv_ks1 (pc := 127) (fr_get fo_148_3 13 rfl) cc_148_135 (as := [.inl v1]) (rs := [.inr (.inr (40, 0))]) rfl rfl rfl rfl ?_
        refine sm_145 ?_
        refine ⟨_, rfl, ?_⟩
        refine xv_kv0 (pc := 130) (fr_get fo_148_3 14 rfl) cc_148_158 (as := [.inr (.inr (40, 0)), .inl (xv_rk v1)]) (rs := []) rfl rfl rfl rfl rfl ?_
        refine h.mono (fun r J5 p6 h => ⟨h.1, ?_⟩)
        replace h := h.2
        refine ex_aload_n (pc := 133) (fr_get fo_148_3 15 rfl) rfl rfl ?_
        refine ex_iload_n (pc := 134) (fr_get fo_148_4 0 rfl) rfl ?_
        refine xv_kv0 (pc := 135) (fr_get fo_148_4 1 rfl) cc_148_161 (as := [.inr (.inr (40, 0)), .inl v1]) (rs := []) rfl rfl rfl rfl rfl ?_
        refine h.mono (fun r J7 p8 h => ⟨h.1, ?_⟩)
        replace h := h.2
        refine ex_aload_n (pc := 138) (fr_get fo_148_4 2 rfl) rfl rfl ?_
        refine ex_gr (pc := 139) (fr_get fo_148_4 3 rfl) ow_148 fr_9_151_40 (q := (55, 0)) rfl ?_
        refine ex_aload_n (pc := 142) (fr_get fo_148_4 4 rfl) rfl rfl ?_
        refine xv_gi (pc := 143) (fr_get fo_148_4 5 rfl) ow_148 fg_9_155_40 rfl ?_
        refine ex_iload_n (pc := 146) (fr_get fo_148_4 6 rfl) rfl ?_
        refine xv_ks1 (pc := 147) (fr_get fo_148_4 7 rfl) cc_148_135 (as := [.inl v1]) (rs := [.inl (J7 40 0 26), .inr (.inr (55, 0))]) rfl rfl rfl rfl ?_
        refine sm_145 ?_
        refine ⟨_, rfl, ?_⟩
        refine ex_iconst (pc := 150) (fr_get fo_148_4 8 rfl) ic_4 ?_
        refine xv_ceq (pc := 151) (fr_get fo_148_4 9 rfl) (t := 174) rfl (fun c => ?_) (fun c => ?_)
        · replace h := h.1 c
          refine ex_iconst (pc := 174) (fr_get fo_148_5 4 rfl) ic_1 ?_
          refine ex_goto (pc := 175) (fr_get fo_148_5 5 rfl) (t := 179) rfl ?_
          refine xv_bast (pc := 179) (fr_get fo_148_5 7 rfl) gs_55 gl_55 rfl h.1 (Or.inr rfl) ?_
          replace h := h.2
          refine ex_iconst (pc := 180) (fr_get fo_148_5 8 rfl) ic_1 ?_
          exact ex_zreturn (pc := 181) (fr_get fo_148_5 9 rfl) rt_148 rfl rfl ⟨Or.inr rfl, ma_end_mk h⟩
        · replace h := h.2 c
          refine ex_iload_n (pc := 154) (fr_get fo_148_4 10 rfl) rfl ?_
          refine xv_ks1 (pc := 155) (fr_get fo_148_4 11 rfl) cc_148_135 (as := [.inl v1]) (rs := [.inl (J7 40 0 26), .inr (.inr (55, 0))]) rfl rfl rfl rfl ?_
          refine sm_145 ?_
          refine ⟨_, rfl, ?_⟩
          refine ex_iconst (pc := 158) (fr_get fo_148_4 12 rfl) ic_4 ?_
          refine xv_cle (pc := 159) (fr_get fo_148_4 13 rfl) (t := 178) rfl (fun c => ?_) (fun c => ?_)
          · replace h := h.1 c
            refine ex_iconst (pc := 178) (fr_get fo_148_5 6 rfl) ic_0 ?_
            refine xv_bast (pc := 179) (fr_get fo_148_5 7 rfl) gs_55 gl_55 rfl h.1 (Or.inl rfl) ?_
            replace h := h.2
            refine ex_iconst (pc := 180) (fr_get fo_148_5 8 rfl) ic_1 ?_
            exact ex_zreturn (pc := 181) (fr_get fo_148_5 9 rfl) rt_148 rfl rfl ⟨Or.inr rfl, ma_end_mk h⟩
          · replace h := h.2 c
            refine ex_aload_n (pc := 162) (fr_get fo_148_4 14 rfl) rfl rfl ?_
            refine ex_gr (pc := 163) (fr_get fo_148_4 15 rfl) ow_148 fr_9_151_40 (q := (55, 0)) rfl ?_
            refine ex_aload_n (pc := 166) (fr_get fo_148_5 0 rfl) rfl rfl ?_
            refine xv_gi (pc := 167) (fr_get fo_148_5 1 rfl) ow_148 fg_9_155_40 rfl ?_
            refine xv_bald (pc := 170) (fr_get fo_148_5 2 rfl) gb_55 (n := 8) (gn_55 ..) rfl rfl h.1 ?_
            replace h := h.2
            refine xv_beq (pc := 171) (fr_get fo_148_5 3 rfl) (t := 178) rfl (fun c => ?_) (fun c => ?_)
            · replace h := h.1 c
              refine ex_iconst (pc := 178) (fr_get fo_148_5 6 rfl) ic_0 ?_
              refine xv_bast (pc := 179) (fr_get fo_148_5 7 rfl) gs_55 gl_55 rfl h.1 (Or.inl rfl) ?_
              replace h := h.2
              refine ex_iconst (pc := 180) (fr_get fo_148_5 8 rfl) ic_1 ?_
              exact ex_zreturn (pc := 181) (fr_get fo_148_5 9 rfl) rt_148 rfl rfl ⟨Or.inr rfl, ma_end_mk h⟩
            · replace h := h.2 c
              refine ex_iconst (pc := 174) (fr_get fo_148_5 4 rfl) ic_1 ?_
              refine ex_goto (pc := 175) (fr_get fo_148_5 5 rfl) (t := 179) rfl ?_
              refine xv_bast (pc := 179) (fr_get fo_148_5 7 rfl) gs_55 gl_55 rfl h.1 (Or.inr rfl) ?_
              replace h := h.2
              refine ex_iconst (pc := 180) (fr_get fo_148_5 8 rfl) ic_1 ?_
              exact ex_zreturn (pc := 181) (fr_get fo_148_5 9 rfl) rt_148 rfl rfl ⟨Or.inr rfl, ma_end_mk h⟩
      · replace h := h.2 c
        refine ex_iconst (pc := 123) (fr_get fo_148_3 9 rfl) ic_0 ?_
        exact ex_zreturn (pc := 124) (fr_get fo_148_3 10 rfl) rt_148 rfl rfl ⟨Or.inl rfl, ma_end_mk h⟩

theorem e_149 {d : Nat} {I : ma_I} {o : Nat} {Q : ma_Q} 
  (h :
    (¬(I 40 0 18 = (4 : Int32) ∧ I 40 0 19 = (41 : Int32)) →
      Q (some (.inl (0 : Int32))) I o) ∧
    (I 40 0 18 = (4 : Int32) ∧ I 40 0 19 = (41 : Int32) →
      (I 40 0 26 ≠ 0 →
        Exm (d) 146 [.inr (.inr (40, 0)), .inl (1 : Int32)] I o (fun r J1 p2 => r = none ∧
          Exm (d) 146 [.inr (.inr (40, 0)), .inl (7 : Int32)] (ma_up (ma_up (ma_up J1 40 0 24 ((J1 40 0 24) - (1 : Int32))) 40 0 26 ((J1 40 0 26) - (1 : Int32))) 40 0 25 ((J1 40 0 25) - (1 : Int32))) p2 (fun r J3 p4 => r = none ∧
            Q (some (.inl (1 : Int32))) J3 p4))) ∧
      (I 40 0 26 = 0 →
        Q (some (.inl (0 : Int32))) I o))) :
  Exm (d + 1) 149 [.inr (.inr (40, 0))] I o Q := by
  show Ex (d + 1) 149 (0, [some (.inr (.inr (40, 0)))], [], ma_mem I o, 0, 0) (ma_end Q)
  refine ex_aload_n (pc := 0) (fr_get fo_149_0 0 rfl) rfl rfl ?_
  refine ex_bipush (pc := 1) (fr_get fo_149_0 1 rfl) bp_41 ?_
  refine xv_kv1 (pc := 3) (fr_get fo_149_0 2 rfl) cc_149_145 (as := [.inr (.inr (40, 0)), .inl (41 : Int32)]) (rs := []) rfl rfl rfl rfl rfl ?_
  refine sm_142 rfl rfl ?_
  refine ⟨_, rfl, ?_⟩
  refine xv_peq (pc := 6) (fr_get fo_149_0 3 rfl) (t := 16) rfl (fun c => ?_) (fun c => ?_)
  · replace h := h.1 c
    refine ex_iconst (pc := 16) (fr_get fo_149_0 7 rfl) ic_0 ?_
    exact ex_zreturn (pc := 17) (fr_get fo_149_0 8 rfl) rt_149 rfl rfl ⟨Or.inl rfl, ma_end_mk h⟩
  · replace h := h.2 c
    refine ex_aload_n (pc := 9) (fr_get fo_149_0 4 rfl) rfl rfl ?_
    refine xv_gi (pc := 10) (fr_get fo_149_0 5 rfl) ow_149 fg_9_155_40 rfl ?_
    refine xv_bne (pc := 13) (fr_get fo_149_0 6 rfl) (t := 18) rfl (fun c => ?_) (fun c => ?_)
    · replace h := h.1 c
      refine ex_aload_n (pc := 18) (fr_get fo_149_0 9 rfl) rfl rfl ?_
      refine ex_iconst (pc := 19) (fr_get fo_149_0 10 rfl) ic_1 ?_
      refine xv_kv0 (pc := 20) (fr_get fo_149_0 11 rfl) cc_149_158 (as := [.inr (.inr (40, 0)), .inl (1 : Int32)]) (rs := []) rfl rfl rfl rfl rfl ?_
      refine h.mono (fun r J1 p2 h => ⟨h.1, ?_⟩)
      replace h := h.2
      refine ex_aload_n (pc := 23) (fr_get fo_149_0 12 rfl) rfl rfl ?_
      refine ex_dupr (pc := 24) (fr_get fo_149_0 13 rfl) ?_
      refine xv_gi (pc := 25) (fr_get fo_149_0 14 rfl) ow_149 fg_9_129_40 rfl ?_
      refine ex_iconst (pc := 28) (fr_get fo_149_0 15 rfl) ic_1 ?_
      refine ex_isub (pc := 29) (fr_get fo_149_1 0 rfl) ?_
      refine ex_pi (pc := 30) (fr_get fo_149_1 1 rfl) ow_149 fp_9_129_40 ?_
      refine ex_aload_n (pc := 33) (fr_get fo_149_1 2 rfl) rfl rfl ?_
      refine ex_dupr (pc := 34) (fr_get fo_149_1 3 rfl) ?_
      refine xv_gi (pc := 35) (fr_get fo_149_1 4 rfl) ow_149 fg_9_155_40 (xv_uj rfl) ?_
      refine ex_iconst (pc := 38) (fr_get fo_149_1 5 rfl) ic_1 ?_
      refine ex_isub (pc := 39) (fr_get fo_149_1 6 rfl) ?_
      refine ex_pi (pc := 40) (fr_get fo_149_1 7 rfl) ow_149 fp_9_155_40 ?_
      refine ex_aload_n (pc := 43) (fr_get fo_149_1 8 rfl) rfl rfl ?_
      refine ex_dupr (pc := 44) (fr_get fo_149_1 9 rfl) ?_
      refine xv_gi (pc := 45) (fr_get fo_149_1 10 rfl) ow_149 fg_9_138_40 (Eq.trans (xv_uj rfl) (xv_uj rfl)) ?_
      refine ex_iconst (pc := 48) (fr_get fo_149_1 11 rfl) ic_1 ?_
      refine ex_isub (pc := 49) (fr_get fo_149_1 12 rfl) ?_
      refine ex_pi (pc := 50) (fr_get fo_149_1 13 rfl) ow_149 fp_9_138_40 ?_
      refine ex_aload_n (pc := 53) (fr_get fo_149_1 14 rfl) rfl rfl ?_
      refine ex_bipush (pc := 54) (fr_get fo_149_1 15 rfl) bp_7 ?_
      refine xv_kv0 (pc := 56) (fr_get fo_149_2 0 rfl) cc_149_158 (as := [.inr (.inr (40, 0)), .inl (7 : Int32)]) (rs := []) rfl rfl rfl rfl rfl ?_
      refine h.mono (fun r J3 p4 h => ⟨h.1, ?_⟩)
      replace h := h.2
      refine ex_iconst (pc := 59) (fr_get fo_149_2 1 rfl) ic_1 ?_
      exact ex_zreturn (pc := 60) (fr_get fo_149_2 2 rfl) rt_149 rfl rfl ⟨Or.inr rfl, ma_end_mk h⟩
    · replace h := h.2 c
      refine ex_iconst (pc := 16) (fr_get fo_149_0 7 rfl) ic_0 ?_
      exact ex_zreturn (pc := 17) (fr_get fo_149_0 8 rfl) rt_149 rfl rfl ⟨Or.inl rfl, ma_end_mk h⟩

theorem e_150 {d : Nat} {I : ma_I} {o : Nat} {Q : ma_Q} {a1 : Int32}
  (h :
    (I 40 0 18 = (4 : Int32) ∧ I 40 0 19 = (40 : Int32) →
      Ex (d + 1) 150 (36, [some (.inr (.inr (40, 0))), some (.inl a1), some (.inl (1 : Int32))], [], ma_mem I o, 0, 0) (ma_end Q)) ∧
    (¬(I 40 0 18 = (4 : Int32) ∧ I 40 0 19 = (40 : Int32)) →
      (I 40 0 18 = (4 : Int32) ∧ I 40 0 19 = (45 : Int32) →
        Ex (d + 1) 150 (36, [some (.inr (.inr (40, 0))), some (.inl a1), some (.inl (1 : Int32))], [], ma_mem I o, 0, 0) (ma_end Q)) ∧
      (¬(I 40 0 18 = (4 : Int32) ∧ I 40 0 19 = (45 : Int32)) →
        (a1 = 0 →
          Ex (d + 1) 150 (36, [some (.inr (.inr (40, 0))), some (.inl a1), some (.inl (0 : Int32))], [], ma_mem I o, 0, 0) (ma_end Q)) ∧
        (a1 ≠ 0 →
          (¬(I 40 0 18 = (3 : Int32) ∧ I 40 0 19 = (5 : Int32)) →
            Ex (d + 1) 150 (36, [some (.inr (.inr (40, 0))), some (.inl a1), some (.inl (0 : Int32))], [], ma_mem I o, 0, 0) (ma_end Q)) ∧
          (I 40 0 18 = (3 : Int32) ∧ I 40 0 19 = (5 : Int32) →
            Ex (d + 1) 150 (36, [some (.inr (.inr (40, 0))), some (.inl a1), some (.inl (1 : Int32))], [], ma_mem I o, 0, 0) (ma_end Q)))))) :
  Exm (d + 1) 150 [.inr (.inr (40, 0)), .inl a1] I o Q := by
  show Ex (d + 1) 150 (0, [some (.inr (.inr (40, 0))), some (.inl a1), none], [], ma_mem I o, 0, 0) (ma_end Q)
  refine ex_aload_n (pc := 0) (fr_get fo_150_0 0 rfl) rfl rfl ?_
  refine ex_bipush (pc := 1) (fr_get fo_150_0 1 rfl) bp_40 ?_
  refine xv_kv1 (pc := 3) (fr_get fo_150_0 2 rfl) cc_150_145 (as := [.inr (.inr (40, 0)), .inl (40 : Int32)]) (rs := []) rfl rfl rfl rfl rfl ?_
  refine sm_142 rfl rfl ?_
  refine ⟨_, rfl, ?_⟩
  refine xv_pne (pc := 6) (fr_get fo_150_0 3 rfl) (t := 30) rfl (fun c => ?_) (fun c => ?_)
  · replace h := h.1 c
    refine ex_iconst (pc := 30) (fr_get fo_150_0 14 rfl) ic_1 ?_
    refine ex_goto (pc := 31) (fr_get fo_150_0 15 rfl) (t := 35) rfl ?_
    refine ex_istore_n (pc := 35) (fr_get fo_150_1 1 rfl) rfl (L' := [some (.inr (.inr (40, 0))), some (.inl a1), some (.inl (1 : Int32))]) rfl ?_
    exact h
  · replace h := h.2 c
    refine ex_aload_n (pc := 9) (fr_get fo_150_0 4 rfl) rfl rfl ?_
    refine ex_bipush (pc := 10) (fr_get fo_150_0 5 rfl) bp_45 ?_
    refine xv_kv1 (pc := 12) (fr_get fo_150_0 6 rfl) cc_150_145 (as := [.inr (.inr (40, 0)), .inl (45 : Int32)]) (rs := []) rfl rfl rfl rfl rfl ?_
    refine sm_142 rfl rfl ?_
    refine ⟨_, rfl, ?_⟩
    refine xv_pne (pc := 15) (fr_get fo_150_0 7 rfl) (t := 30) rfl (fun c => ?_) (fun c => ?_)
    · replace h := h.1 c
      refine ex_iconst (pc := 30) (fr_get fo_150_0 14 rfl) ic_1 ?_
      refine ex_goto (pc := 31) (fr_get fo_150_0 15 rfl) (t := 35) rfl ?_
      refine ex_istore_n (pc := 35) (fr_get fo_150_1 1 rfl) rfl (L' := [some (.inr (.inr (40, 0))), some (.inl a1), some (.inl (1 : Int32))]) rfl ?_
      exact h
    · replace h := h.2 c
      refine ex_iload_n (pc := 18) (fr_get fo_150_0 8 rfl) rfl ?_
      refine xv_beq (pc := 19) (fr_get fo_150_0 9 rfl) (t := 34) rfl (fun c => ?_) (fun c => ?_)
      · replace h := h.1 c
        refine ex_iconst (pc := 34) (fr_get fo_150_1 0 rfl) ic_0 ?_
        refine ex_istore_n (pc := 35) (fr_get fo_150_1 1 rfl) rfl (L' := [some (.inr (.inr (40, 0))), some (.inl a1), some (.inl (0 : Int32))]) rfl ?_
        exact h
      · replace h := h.2 c
        refine ex_aload_n (pc := 22) (fr_get fo_150_0 10 rfl) rfl rfl ?_
        refine ex_iconst (pc := 23) (fr_get fo_150_0 11 rfl) ic_5 ?_
        refine xv_kv1 (pc := 24) (fr_get fo_150_0 12 rfl) cc_150_148 (as := [.inr (.inr (40, 0)), .inl (5 : Int32)]) (rs := []) rfl rfl rfl rfl rfl ?_
        refine sm_143 rfl rfl ?_
        refine ⟨_, rfl, ?_⟩
        refine xv_peq (pc := 27) (fr_get fo_150_0 13 rfl) (t := 34) rfl (fun c => ?_) (fun c => ?_)
        · replace h := h.1 c
          refine ex_iconst (pc := 34) (fr_get fo_150_1 0 rfl) ic_0 ?_
          refine ex_istore_n (pc := 35) (fr_get fo_150_1 1 rfl) rfl (L' := [some (.inr (.inr (40, 0))), some (.inl a1), some (.inl (0 : Int32))]) rfl ?_
          exact h
        · replace h := h.2 c
          refine ex_iconst (pc := 30) (fr_get fo_150_0 14 rfl) ic_1 ?_
          refine ex_goto (pc := 31) (fr_get fo_150_0 15 rfl) (t := 35) rfl ?_
          refine ex_istore_n (pc := 35) (fr_get fo_150_1 1 rfl) rfl (L' := [some (.inr (.inr (40, 0))), some (.inl a1), some (.inl (1 : Int32))]) rfl ?_
          exact h

theorem b_150_36 {d : Nat} {I : ma_I} {o : Nat} {Q : ma_Q} {v1 : Int32} {v2 : Int32}
  (h :
    (v2 = 0 →
      Q (some (.inl (0 : Int32))) I o) ∧
    (v2 ≠ 0 →
      (I 40 0 25 ≠ (5 : Int32) →
        Ex (d + 1) 150 (60, [some (.inr (.inr (40, 0))), some (.inl v1), some (.inl v2)], [], ma_mem (ma_up I 40 0 25 ((I 40 0 25) + (1 : Int32))) o, 0, 0) (ma_end Q)) ∧
      (I 40 0 25 = (5 : Int32) →
        Q (some (.inl (0 : Int32))) I o))) :
  Ex (d + 1) 150 (36, [some (.inr (.inr (40, 0))), some (.inl v1), some (.inl v2)], [], ma_mem I o, 0, 0) (ma_end Q) := by
  refine ex_iload_n (pc := 36) (fr_get fo_150_1 2 rfl) rfl ?_
  refine xv_beq (pc := 37) (fr_get fo_150_1 3 rfl) (t := 48) rfl (fun c => ?_) (fun c => ?_)
  · replace h := h.1 c
    refine ex_iconst (pc := 48) (fr_get fo_150_1 8 rfl) ic_0 ?_
    exact ex_zreturn (pc := 49) (fr_get fo_150_1 9 rfl) rt_150 rfl rfl ⟨Or.inl rfl, ma_end_mk h⟩
  · replace h := h.2 c
    refine ex_aload_n (pc := 40) (fr_get fo_150_1 4 rfl) rfl rfl ?_
    refine xv_gi (pc := 41) (fr_get fo_150_1 5 rfl) ow_150 fg_9_138_40 rfl ?_
    refine ex_iconst (pc := 44) (fr_get fo_150_1 6 rfl) ic_5 ?_
    refine xv_cne (pc := 45) (fr_get fo_150_1 7 rfl) (t := 50) rfl (fun c => ?_) (fun c => ?_)
    · replace h := h.1 c
      refine ex_aload_n (pc := 50) (fr_get fo_150_1 10 rfl) rfl rfl ?_
      refine ex_dupr (pc := 51) (fr_get fo_150_1 11 rfl) ?_
      refine xv_gi (pc := 52) (fr_get fo_150_1 12 rfl) ow_150 fg_9_138_40 rfl ?_
      refine ex_iconst (pc := 55) (fr_get fo_150_1 13 rfl) ic_1 ?_
      refine ex_iadd (pc := 56) (fr_get fo_150_1 14 rfl) ?_
      refine ex_pi (pc := 57) (fr_get fo_150_1 15 rfl) ow_150 fp_9_138_40 ?_
      exact h
    · replace h := h.2 c
      refine ex_iconst (pc := 48) (fr_get fo_150_1 8 rfl) ic_0 ?_
      exact ex_zreturn (pc := 49) (fr_get fo_150_1 9 rfl) rt_150 rfl rfl ⟨Or.inl rfl, ma_end_mk h⟩

theorem b_150_60 {d : Nat} {I : ma_I} {o : Nat} {Q : ma_Q} {v1 : Int32} {v2 : Int32}
  (h :
    (¬(I 40 0 18 = (4 : Int32) ∧ I 40 0 19 = (40 : Int32)) →
      (I 40 0 18 ≠ (3 : Int32) →
        Exm (d) 147 [.inr (.inr (40, 0)), .inl (18 : Int32)] I o (fun r J1 p2 => r = none ∧
          Q (some (.inl (1 : Int32))) J1 p2)) ∧
      (I 40 0 18 = (3 : Int32) →
        Exm (d) 147 [.inr (.inr (40, 0)), .inl (12 : Int32)] I o (fun r J3 p4 => r = none ∧
          Q (some (.inl (1 : Int32))) J3 p4))) ∧
    (I 40 0 18 = (4 : Int32) ∧ I 40 0 19 = (40 : Int32) →
      Exm (d) 147 [.inr (.inr (40, 0)), .inl (30 : Int32)] I o (fun r J5 p6 => r = none ∧
        ma_in ((J5 40 0 26) + (1 : Int32)) 8 ∧
        Q (some (.inl (1 : Int32))) (ma_up (ma_up J5 40 0 26 ((J5 40 0 26) + (1 : Int32))) 55 0 (((J5 40 0 26) + (1 : Int32)).toNatClampNeg) (0 : Int32)) p6))) :
  Ex (d + 1) 150 (60, [some (.inr (.inr (40, 0))), some (.inl v1), some (.inl v2)], [], ma_mem I o, 0, 0) (ma_end Q) := by
  refine ex_aload_n (pc := 60) (fr_get fo_150_2 0 rfl) rfl rfl ?_
  refine ex_bipush (pc := 61) (fr_get fo_150_2 1 rfl) bp_40 ?_
  refine xv_kv1 (pc := 63) (fr_get fo_150_2 2 rfl) cc_150_145 (as := [.inr (.inr (40, 0)), .inl (40 : Int32)]) (rs := []) rfl rfl rfl rfl rfl ?_
  refine sm_142 rfl rfl ?_
  refine ⟨_, rfl, ?_⟩
  refine xv_peq (pc := 66) (fr_get fo_150_2 3 rfl) (t := 98) rfl (fun c => ?_) (fun c => ?_)
  · replace h := h.1 c
    refine ex_aload_n (pc := 98) (fr_get fo_150_3 4 rfl) rfl rfl ?_
    refine ex_aload_n (pc := 99) (fr_get fo_150_3 5 rfl) rfl rfl ?_
    refine xv_gi (pc := 100) (fr_get fo_150_3 6 rfl) ow_150 fg_9_94_40 rfl ?_
    refine ex_iconst (pc := 103) (fr_get fo_150_3 7 rfl) ic_3 ?_
    refine xv_cne (pc := 104) (fr_get fo_150_3 8 rfl) (t := 112) rfl (fun c => ?_) (fun c => ?_)
    · replace h := h.1 c
      refine ex_bipush (pc := 112) (fr_get fo_150_3 11 rfl) bp_18 ?_
      refine xv_kv0 (pc := 114) (fr_get fo_150_3 12 rfl) cc_150_161 (as := [.inr (.inr (40, 0)), .inl (18 : Int32)]) (rs := []) rfl rfl rfl rfl rfl ?_
      refine h.mono (fun r J1 p2 h => ⟨h.1, ?_⟩)
      replace h := h.2
      refine ex_iconst (pc := 117) (fr_get fo_150_3 13 rfl) ic_1 ?_
      exact ex_zreturn (pc := 118) (fr_get fo_150_3 14 rfl) rt_150 rfl rfl ⟨Or.inr rfl, ma_end_mk h⟩
    · replace h := h.2 c
      refine ex_bipush (pc := 107) (fr_get fo_150_3 9 rfl) bp_12 ?_
      refine ex_goto (pc := 109) (fr_get fo_150_3 10 rfl) (t := 114) rfl ?_
      refine xv_kv0 (pc := 114) (fr_get fo_150_3 12 rfl) cc_150_161 (as := [.inr (.inr (40, 0)), .inl (12 : Int32)]) (rs := []) rfl rfl rfl rfl rfl ?_
      refine h.mono (fun r J3 p4 h => ⟨h.1, ?_⟩)
      replace h := h.2
      refine ex_iconst (pc := 117) (fr_get fo_150_3 13 rfl) ic_1 ?_
      exact ex_zreturn (pc := 118) (fr_get fo_150_3 14 rfl) rt_150 rfl rfl ⟨Or.inr rfl, ma_end_mk h⟩
  · replace h := h.2 c
    refine ex_aload_n (pc := 69) (fr_get fo_150_2 4 rfl) rfl rfl ?_
    refine ex_bipush (pc := 70) (fr_get fo_150_2 5 rfl) bp_30 ?_
    refine xv_kv0 (pc := 72) (fr_get fo_150_2 6 rfl) cc_150_161 (as := [.inr (.inr (40, 0)), .inl (30 : Int32)]) (rs := []) rfl rfl rfl rfl rfl ?_
    refine h.mono (fun r J5 p6 h => ⟨h.1, ?_⟩)
    replace h := h.2
    refine ex_aload_n (pc := 75) (fr_get fo_150_2 7 rfl) rfl rfl ?_
    refine ex_dupr (pc := 76) (fr_get fo_150_2 8 rfl) ?_
    refine xv_gi (pc := 77) (fr_get fo_150_2 9 rfl) ow_150 fg_9_155_40 rfl ?_
    refine ex_iconst (pc := 80) (fr_get fo_150_2 10 rfl) ic_1 ?_
    refine ex_iadd (pc := 81) (fr_get fo_150_2 11 rfl) ?_
    refine ex_pi (pc := 82) (fr_get fo_150_2 12 rfl) ow_150 fp_9_155_40 ?_
    refine ex_aload_n (pc := 85) (fr_get fo_150_2 13 rfl) rfl rfl ?_
    refine ex_gr (pc := 86) (fr_get fo_150_2 14 rfl) ow_150 fr_9_151_40 (q := (55, 0)) rfl ?_
    refine ex_aload_n (pc := 89) (fr_get fo_150_2 15 rfl) rfl rfl ?_
    refine xv_gi (pc := 90) (fr_get fo_150_3 0 rfl) ow_150 fg_9_155_40 xv_us ?_
    refine ex_iconst (pc := 93) (fr_get fo_150_3 1 rfl) ic_0 ?_
    refine xv_bast (pc := 94) (fr_get fo_150_3 2 rfl) gs_55 gl_55 rfl h.1 (Or.inl rfl) ?_
    replace h := h.2
    refine ex_goto (pc := 95) (fr_get fo_150_3 3 rfl) (t := 117) rfl ?_
    refine ex_iconst (pc := 117) (fr_get fo_150_3 13 rfl) ic_1 ?_
    exact ex_zreturn (pc := 118) (fr_get fo_150_3 14 rfl) rt_150 rfl rfl ⟨Or.inr rfl, ma_end_mk h⟩

theorem e_151 {d : Nat} {I : ma_I} {o : Nat} {Q : ma_Q} {a1 : Int32}
  (h :
    Ex (d + 1) 151 (40, [some (.inr (.inr (40, 0))), some (.inl a1), some (.inl (1 : Int32)), some (.inl (1 : Int32)), none], [], ma_mem (ma_up (ma_up (ma_up (ma_up (ma_up (ma_up I 40 0 28 ((160 : Int32) * a1)) 40 0 29 (0 : Int32)) 40 0 24 (0 : Int32)) 40 0 25 (0 : Int32)) 40 0 26 (0 : Int32)) 55 0 0 (0 : Int32)) o, 0, 0) (ma_end Q)) :
  Exm (d + 1) 151 [.inr (.inr (40, 0)), .inl a1] I o Q := by
  show Ex (d + 1) 151 (0, [some (.inr (.inr (40, 0))), some (.inl a1), none, none, none], [], ma_mem I o, 0, 0) (ma_end Q)
  refine ex_aload_n (pc := 0) (fr_get fo_151_0 0 rfl) rfl rfl ?_
  refine ex_sipush (pc := 1) (fr_get fo_151_0 1 rfl) sp_160 ?_
  refine ex_iload_n (pc := 4) (fr_get fo_151_0 2 rfl) rfl ?_
  refine ex_imul (pc := 5) (fr_get fo_151_0 3 rfl) ?_
  refine ex_pi (pc := 6) (fr_get fo_151_0 4 rfl) ow_151 fp_9_123_40 ?_
  refine ex_aload_n (pc := 9) (fr_get fo_151_0 5 rfl) rfl rfl ?_
  refine ex_iconst (pc := 10) (fr_get fo_151_0 6 rfl) ic_0 ?_
  refine ex_pi (pc := 11) (fr_get fo_151_0 7 rfl) ow_151 fp_9_126_40 ?_
  refine ex_aload_n (pc := 14) (fr_get fo_151_0 8 rfl) rfl rfl ?_
  refine ex_iconst (pc := 15) (fr_get fo_151_0 9 rfl) ic_0 ?_
  refine ex_pi (pc := 16) (fr_get fo_151_0 10 rfl) ow_151 fp_9_129_40 ?_
  refine ex_aload_n (pc := 19) (fr_get fo_151_0 11 rfl) rfl rfl ?_
  refine ex_iconst (pc := 20) (fr_get fo_151_0 12 rfl) ic_0 ?_
  refine ex_pi (pc := 21) (fr_get fo_151_0 13 rfl) ow_151 fp_9_138_40 ?_
  refine ex_aload_n (pc := 24) (fr_get fo_151_0 14 rfl) rfl rfl ?_
  refine ex_iconst (pc := 25) (fr_get fo_151_0 15 rfl) ic_0 ?_
  refine ex_pi (pc := 26) (fr_get fo_151_1 0 rfl) ow_151 fp_9_155_40 ?_
  refine ex_aload_n (pc := 29) (fr_get fo_151_1 1 rfl) rfl rfl ?_
  refine ex_gr (pc := 30) (fr_get fo_151_1 2 rfl) ow_151 fr_9_151_40 (q := (55, 0)) rfl ?_
  refine ex_iconst (pc := 33) (fr_get fo_151_1 3 rfl) ic_0 ?_
  refine ex_iconst (pc := 34) (fr_get fo_151_1 4 rfl) ic_0 ?_
  refine xv_bast (pc := 35) (fr_get fo_151_1 5 rfl) gs_55 gl_55 cl_0 mi_0_8 (Or.inl rfl) ?_
  refine ex_iconst (pc := 36) (fr_get fo_151_1 6 rfl) ic_1 ?_
  refine ex_istore_n (pc := 37) (fr_get fo_151_1 7 rfl) rfl (L' := [some (.inr (.inr (40, 0))), some (.inl a1), some (.inl (1 : Int32)), none, none]) rfl ?_
  refine ex_iconst (pc := 38) (fr_get fo_151_1 8 rfl) ic_1 ?_
  refine ex_istore_n (pc := 39) (fr_get fo_151_1 9 rfl) rfl (L' := [some (.inr (.inr (40, 0))), some (.inl a1), some (.inl (1 : Int32)), some (.inl (1 : Int32)), none]) rfl ?_
  exact h

theorem b_151_40 {d : Nat} {I : ma_I} {o : Nat} {Q : ma_Q} {v1 : Int32} {v2 : Int32} {v3 : Int32} {w4 : Option ma_V}
  (h :
    (v2 = 0 →
      (v2 = 0 →
        (¬(I 40 0 18 = (4 : Int32) ∧ I 40 0 19 = (59 : Int32)) →
          Exm (d) 148 [.inr (.inr (40, 0))] I o (fun r J1 p2 => ∃ x3 : Int32, r = some (.inl x3) ∧
            (x3 = 0 →
              Exm (d) 149 [.inr (.inr (40, 0))] J1 p2 (fun r J4 p5 => ∃ x6 : Int32, r = some (.inl x6) ∧
                (x6 ≠ 0 →
                  Ex (d + 1) 151 (208, [some (.inr (.inr (40, 0))), some (.inl v1), some (.inl v2), some (.inl v3), w4], [], ma_mem J4 p5, 0, 0) (ma_end Q)) ∧
                (x6 = 0 →
                  Q (some (.inl (0 : Int32))) J4 p5))) ∧
            (x3 ≠ 0 →
              (J1 40 0 18 = (3 : Int32) ∧ J1 40 0 19 = (4 : Int32) →
                Ex (d + 1) 151 (208, [some (.inr (.inr (40, 0))), some (.inl v1), some (.inl (1 : Int32)), some (.inl (1 : Int32)), w4], [], ma_mem J1 p2, 0, 0) (ma_end Q)) ∧
              (¬(J1 40 0 18 = (3 : Int32) ∧ J1 40 0 19 = (4 : Int32)) →
                (¬(J1 40 0 18 = (3 : Int32) ∧ J1 40 0 19 = (3 : Int32)) →
                  Ex (d + 1) 151 (208, [some (.inr (.inr (40, 0))), some (.inl v1), some (.inl (1 : Int32)), some (.inl (0 : Int32)), w4], [], ma_mem J1 p2, 0, 0) (ma_end Q)) ∧
                (J1 40 0 18 = (3 : Int32) ∧ J1 40 0 19 = (3 : Int32) →
                  Ex (d + 1) 151 (208, [some (.inr (.inr (40, 0))), some (.inl v1), some (.inl (1 : Int32)), some (.inl (1 : Int32)), w4], [], ma_mem J1 p2, 0, 0) (ma_end Q)))))) ∧
        (I 40 0 18 = (4 : Int32) ∧ I 40 0 19 = (59 : Int32) →
          (I 40 0 26 ≠ 0 →
            Exm (d) 148 [.inr (.inr (40, 0))] I o (fun r J7 p8 => ∃ x9 : Int32, r = some (.inl x9) ∧
              (x9 = 0 →
                Exm (d) 149 [.inr (.inr (40, 0))] J7 p8 (fun r J10 p11 => ∃ x12 : Int32, r = some (.inl x12) ∧
                  (x12 ≠ 0 →
                    Ex (d + 1) 151 (208, [some (.inr (.inr (40, 0))), some (.inl v1), some (.inl v2), some (.inl v3), w4], [], ma_mem J10 p11, 0, 0) (ma_end Q)) ∧
                  (x12 = 0 →
                    Q (some (.inl (0 : Int32))) J10 p11))) ∧
              (x9 ≠ 0 →
                (J7 40 0 18 = (3 : Int32) ∧ J7 40 0 19 = (4 : Int32) →
                  Ex (d + 1) 151 (208, [some (.inr (.inr (40, 0))), some (.inl v1), some (.inl (1 : Int32)), some (.inl (1 : Int32)), w4], [], ma_mem J7 p8, 0, 0) (ma_end Q)) ∧
                (¬(J7 40 0 18 = (3 : Int32) ∧ J7 40 0 19 = (4 : Int32)) →
                  (¬(J7 40 0 18 = (3 : Int32) ∧ J7 40 0 19 = (3 : Int32)) →
                    Ex (d + 1) 151 (208, [some (.inr (.inr (40, 0))), some (.inl v1), some (.inl (1 : Int32)), some (.inl (0 : Int32)), w4], [], ma_mem J7 p8, 0, 0) (ma_end Q)) ∧
                  (J7 40 0 18 = (3 : Int32) ∧ J7 40 0 19 = (3 : Int32) →
                    Ex (d + 1) 151 (208, [some (.inr (.inr (40, 0))), some (.inl v1), some (.inl (1 : Int32)), some (.inl (1 : Int32)), w4], [], ma_mem J7 p8, 0, 0) (ma_end Q)))))) ∧
          (I 40 0 26 = 0 →
            Exm (d) 146 [.inr (.inr (40, 0)), .inl (1 : Int32)] I o (fun r J13 p14 => r = none ∧
              ma_in v1 18 ∧
              Q (some (.inl (1 : Int32))) (ma_up J13 51 0 v1.toNatClampNeg (J13 40 0 29)) p14)))) ∧
      (v2 ≠ 0 →
        Exm (d) 150 [.inr (.inr (40, 0)), .inl v3] I o (fun r J15 p16 => ∃ x17 : Int32, r = some (.inl x17) ∧
          (x17 ≠ 0 →
            (I 40 0 18 = (4 : Int32) ∧ I 40 0 19 = (45 : Int32) →
              Ex (d + 1) 151 (208, [some (.inr (.inr (40, 0))), some (.inl v1), some (.inl v2), some (.inl (0 : Int32)), some (.inl (xv_b (I 40 0 18 = (4 : Int32) ∧ I 40 0 19 = (45 : Int32))))], [], ma_mem J15 p16, 0, 0) (ma_end Q)) ∧
            (¬(I 40 0 18 = (4 : Int32) ∧ I 40 0 19 = (45 : Int32)) →
              Ex (d + 1) 151 (208, [some (.inr (.inr (40, 0))), some (.inl v1), some (.inl v2), some (.inl (1 : Int32)), some (.inl (xv_b (I 40 0 18 = (4 : Int32) ∧ I 40 0 19 = (45 : Int32))))], [], ma_mem J15 p16, 0, 0) (ma_end Q))) ∧
          (x17 = 0 →
            Q (some (.inl (0 : Int32))) J15 p16)))) ∧
    (v2 ≠ 0 →
      (I 40 0 18 = (1 : Int32) →
        (I 40 0 18 ≠ (1 : Int32) →
          Exm (d) 144 [.inr (.inr (40, 0)), .inl (I 40 0 19)] I o (fun r J18 p19 => r = none ∧
            Exm (d) 146 [.inr (.inr (40, 0)), .inl (7 : Int32)] J18 p19 (fun r J20 p21 => r = none ∧
              Ex (d + 1) 151 (208, [some (.inr (.inr (40, 0))), some (.inl v1), some (.inl (0 : Int32)), some (.inl v3), w4], [], ma_mem J20 p21, 0, 0) (ma_end Q)))) ∧
        (I 40 0 18 = (1 : Int32) →
          Exm (d) 144 [.inr (.inr (40, 0)), .inl ((-1 : Int32) - (I 40 0 19))] I o (fun r J22 p23 => r = none ∧
            Exm (d) 146 [.inr (.inr (40, 0)), .inl (7 : Int32)] J22 p23 (fun r J24 p25 => r = none ∧
              Ex (d + 1) 151 (208, [some (.inr (.inr (40, 0))), some (.inl v1), some (.inl (0 : Int32)), some (.inl v3), w4], [], ma_mem J24 p25, 0, 0) (ma_end Q))))) ∧
      (I 40 0 18 ≠ (1 : Int32) →
        (I 40 0 18 ≠ (2 : Int32) →
          (v2 = 0 →
            (¬(I 40 0 18 = (4 : Int32) ∧ I 40 0 19 = (59 : Int32)) →
              Exm (d) 148 [.inr (.inr (40, 0))] I o (fun r J26 p27 => ∃ x28 : Int32, r = some (.inl x28) ∧
                (x28 = 0 →
                  Exm (d) 149 [.inr (.inr (40, 0))] J26 p27 (fun r J29 p30 => ∃ x31 : Int32, r = some (.inl x31) ∧
                    (x31 ≠ 0 →
                      Ex (d + 1) 151 (208, [some (.inr (.inr (40, 0))), some (.inl v1), some (.inl v2), some (.inl v3), w4], [], ma_mem J29 p30, 0, 0) (ma_end Q)) ∧
                    (x31 = 0 →
                      Q (some (.inl (0 : Int32))) J29 p30))) ∧
                (x28 ≠ 0 →
                  (J26 40 0 18 = (3 : Int32) ∧ J26 40 0 19 = (4 : Int32) →
                    Ex (d + 1) 151 (208, [some (.inr (.inr (40, 0))), some (.inl v1), some (.inl (1 : Int32)), some (.inl (1 : Int32)), w4], [], ma_mem J26 p27, 0, 0) (ma_end Q)) ∧
                  (¬(J26 40 0 18 = (3 : Int32) ∧ J26 40 0 19 = (4 : Int32)) →
                    (¬(J26 40 0 18 = (3 : Int32) ∧ J26 40 0 19 = (3 : Int32)) →
                      Ex (d + 1) 151 (208, [some (.inr (.inr (40, 0))), some (.inl v1), some (.inl (1 : Int32)), some (.inl (0 : Int32)), w4], [], ma_mem J26 p27, 0, 0) (ma_end Q)) ∧
                    (J26 40 0 18 = (3 : Int32) ∧ J26 40 0 19 = (3 : Int32) →
                      Ex (d + 1) 151 (208, [some (.inr (.inr (40, 0))), some (.inl v1), some (.inl (1 : Int32)), some (.inl (1 : Int32)), w4], [], ma_mem J26 p27, 0, 0) (ma_end Q)))))) ∧
            (I 40 0 18 = (4 : Int32) ∧ I 40 0 19 = (59 : Int32) →
              (I 40 0 26 ≠ 0 →
                Exm (d) 148 [.inr (.inr (40, 0))] I o (fun r J32 p33 => ∃ x34 : Int32, r = some (.inl x34) ∧
                  (x34 = 0 →
                    Exm (d) 149 [.inr (.inr (40, 0))] J32 p33 (fun r J35 p36 => ∃ x37 : Int32, r = some (.inl x37) ∧
                      (x37 ≠ 0 →
                        Ex (d + 1) 151 (208, [some (.inr (.inr (40, 0))), some (.inl v1), some (.inl v2), some (.inl v3), w4], [], ma_mem J35 p36, 0, 0) (ma_end Q)) ∧
                      (x37 = 0 →
                        Q (some (.inl (0 : Int32))) J35 p36))) ∧
                  (x34 ≠ 0 →
                    (J32 40 0 18 = (3 : Int32) ∧ J32 40 0 19 = (4 : Int32) →
                      Ex (d + 1) 151 (208, [some (.inr (.inr (40, 0))), some (.inl v1), some (.inl (1 : Int32)), some (.inl (1 : Int32)), w4], [], ma_mem J32 p33, 0, 0) (ma_end Q)) ∧
                    (¬(J32 40 0 18 = (3 : Int32) ∧ J32 40 0 19 = (4 : Int32)) →
                      (¬(J32 40 0 18 = (3 : Int32) ∧ J32 40 0 19 = (3 : Int32)) →
                        Ex (d + 1) 151 (208, [some (.inr (.inr (40, 0))), some (.inl v1), some (.inl (1 : Int32)), some (.inl (0 : Int32)), w4], [], ma_mem J32 p33, 0, 0) (ma_end Q)) ∧
                      (J32 40 0 18 = (3 : Int32) ∧ J32 40 0 19 = (3 : Int32) →
                        Ex (d + 1) 151 (208, [some (.inr (.inr (40, 0))), some (.inl v1), some (.inl (1 : Int32)), some (.inl (1 : Int32)), w4], [], ma_mem J32 p33, 0, 0) (ma_end Q)))))) ∧
              (I 40 0 26 = 0 →
                Exm (d) 146 [.inr (.inr (40, 0)), .inl (1 : Int32)] I o (fun r J38 p39 => r = none ∧
                  ma_in v1 18 ∧
                  Q (some (.inl (1 : Int32))) (ma_up J38 51 0 v1.toNatClampNeg (J38 40 0 29)) p39)))) ∧
          (v2 ≠ 0 →
            Exm (d) 150 [.inr (.inr (40, 0)), .inl v3] I o (fun r J40 p41 => ∃ x42 : Int32, r = some (.inl x42) ∧
              (x42 ≠ 0 →
                (I 40 0 18 = (4 : Int32) ∧ I 40 0 19 = (45 : Int32) →
                  Ex (d + 1) 151 (208, [some (.inr (.inr (40, 0))), some (.inl v1), some (.inl v2), some (.inl (0 : Int32)), some (.inl (xv_b (I 40 0 18 = (4 : Int32) ∧ I 40 0 19 = (45 : Int32))))], [], ma_mem J40 p41, 0, 0) (ma_end Q)) ∧
                (¬(I 40 0 18 = (4 : Int32) ∧ I 40 0 19 = (45 : Int32)) →
                  Ex (d + 1) 151 (208, [some (.inr (.inr (40, 0))), some (.inl v1), some (.inl v2), some (.inl (1 : Int32)), some (.inl (xv_b (I 40 0 18 = (4 : Int32) ∧ I 40 0 19 = (45 : Int32))))], [], ma_mem J40 p41, 0, 0) (ma_end Q))) ∧
              (x42 = 0 →
                Q (some (.inl (0 : Int32))) J40 p41)))) ∧
        (I 40 0 18 = (2 : Int32) →
          (I 40 0 18 ≠ (1 : Int32) →
            Exm (d) 144 [.inr (.inr (40, 0)), .inl (I 40 0 19)] I o (fun r J43 p44 => r = none ∧
              Exm (d) 146 [.inr (.inr (40, 0)), .inl (7 : Int32)] J43 p44 (fun r J45 p46 => r = none ∧
                Ex (d + 1) 151 (208, [some (.inr (.inr (40, 0))), some (.inl v1), some (.inl (0 : Int32)), some (.inl v3), w4], [], ma_mem J45 p46, 0, 0) (ma_end Q)))) ∧
          (I 40 0 18 = (1 : Int32) →
            Exm (d) 144 [.inr (.inr (40, 0)), .inl ((-1 : Int32) - (I 40 0 19))] I o (fun r J47 p48 => r = none ∧
              Exm (d) 146 [.inr (.inr (40, 0)), .inl (7 : Int32)] J47 p48 (fun r J49 p50 => r = none ∧
                Ex (d + 1) 151 (208, [some (.inr (.inr (40, 0))), some (.inl v1), some (.inl (0 : Int32)), some (.inl v3), w4], [], ma_mem J49 p50, 0, 0) (ma_end Q)))))))) :
  Ex (d + 1) 151 (40, [some (.inr (.inr (40, 0))), some (.inl v1), some (.inl v2), some (.inl v3), w4], [], ma_mem I o, 0, 0) (ma_end Q) := by
  refine ex_iload_n (pc := 40) (fr_get fo_151_1 10 rfl) rfl ?_
  refine xv_beq (pc := 41) (fr_get fo_151_1 11 rfl) (t := 96) rfl (fun c => ?_) (fun c => ?_)
  · replace h := h.1 c
    refine ex_iload_n (pc := 96) (fr_get fo_151_3 7 rfl) rfl ?_
    refine xv_beq (pc := 97) (fr_get fo_151_3 8 rfl) (t := 132) rfl (fun c => ?_) (fun c => ?_)
    · replace h := h.1 c
      refine ex_aload_n (pc := 132) (fr_get fo_151_4 10 rfl) rfl rfl ?_
      refine ex_bipush (pc := 133) (fr_get fo_151_4 11 rfl) bp_59 ?_
      refine xv_kv1 (pc := 135) (fr_get fo_151_4 12 rfl) cc_151_145 (as := [.inr (.inr (40, 0)), .inl (59 : Int32)]) (rs := []) rfl rfl rfl rfl rfl ?_
      refine sm_142 rfl rfl ?_
      refine ⟨_, rfl, ?_⟩
      refine xv_peq (pc := 138) (fr_get fo_151_4 13 rfl) (t := 165) rfl (fun c => ?_) (fun c => ?_)
      · replace h := h.1 c
        refine ex_aload_n (pc := 165) (fr_get fo_151_5 12 rfl) rfl rfl ?_
        refine xv_kv1 (pc := 166) (fr_get fo_151_5 13 rfl) cc_151_171 (as := [.inr (.inr (40, 0))]) (rs := []) rfl rfl rfl rfl rfl ?_
        refine h.mono (fun r J1 p2 h => ?_)
        obtain ⟨x3, hr, h⟩ := h
        refine ⟨x3, hr, ?_⟩
        refine xv_beq (pc := 169) (fr_get fo_151_5 14 rfl) (t := 199) rfl (fun c => ?_) (fun c => ?_)
        · replace h := h.1 c
          refine ex_aload_n (pc := 199) (fr_get fo_151_6 14 rfl) rfl rfl ?_
          refine xv_kv1 (pc := 200) (fr_get fo_151_6 15 rfl) cc_151_175 (as := [.inr (.inr (40, 0))]) (rs := []) rfl rfl rfl rfl rfl ?_
          refine h.mono (fun r J4 p5 h => ?_)
          obtain ⟨x6, hr, h⟩ := h
          refine ⟨x6, hr, ?_⟩
          refine xv_bne (pc := 203) (fr_get fo_151_7 0 rfl) (t := 208) rfl (fun c => ?_) (fun c => ?_)
          · replace h := h.1 c
            exact h
          · replace h := h.2 c
            refine ex_iconst (pc := 206) (fr_get fo_151_7 1 rfl) ic_0 ?_
            exact ex_zreturn (pc := 207) (fr_get fo_151_7 2 rfl) rt_151 rfl rfl ⟨Or.inl rfl, ma_end_mk h⟩
        · replace h := h.2 c
          refine ex_iconst (pc := 172) (fr_get fo_151_5 15 rfl) ic_1 ?_
          refine ex_istore_n (pc := 173) (fr_get fo_151_6 0 rfl) rfl (L' := [some (.inr (.inr (40, 0))), some (.inl v1), some (.inl (1 : Int32)), some (.inl v3), w4]) rfl ?_
          refine ex_aload_n (pc := 174) (fr_get fo_151_6 1 rfl) rfl rfl ?_
          refine ex_iconst (pc := 175) (fr_get fo_151_6 2 rfl) ic_4 ?_
          refine xv_kv1 (pc := 176) (fr_get fo_151_6 3 rfl) cc_151_148 (as := [.inr (.inr (40, 0)), .inl (4 : Int32)]) (rs := []) rfl rfl rfl rfl rfl ?_
          refine sm_143 rfl rfl ?_
          refine ⟨_, rfl, ?_⟩
          refine xv_pne (pc := 179) (fr_get fo_151_6 4 rfl) (t := 190) rfl (fun c => ?_) (fun c => ?_)
          · replace h := h.1 c
            refine ex_iconst (pc := 190) (fr_get fo_151_6 9 rfl) ic_1 ?_
            refine ex_goto (pc := 191) (fr_get fo_151_6 10 rfl) (t := 195) rfl ?_
            refine ex_istore_n (pc := 195) (fr_get fo_151_6 12 rfl) rfl (L' := [some (.inr (.inr (40, 0))), some (.inl v1), some (.inl (1 : Int32)), some (.inl (1 : Int32)), w4]) rfl ?_
            refine ex_goto (pc := 196) (fr_get fo_151_6 13 rfl) (t := 208) rfl ?_
            exact h
          · replace h := h.2 c
            refine ex_aload_n (pc := 182) (fr_get fo_151_6 5 rfl) rfl rfl ?_
            refine ex_iconst (pc := 183) (fr_get fo_151_6 6 rfl) ic_3 ?_
            refine xv_kv1 (pc := 184) (fr_get fo_151_6 7 rfl) cc_151_148 (as := [.inr (.inr (40, 0)), .inl (3 : Int32)]) (rs := []) rfl rfl rfl rfl rfl ?_
            refine sm_143 rfl rfl ?_
            refine ⟨_, rfl, ?_⟩
            refine xv_peq (pc := 187) (fr_get fo_151_6 8 rfl) (t := 194) rfl (fun c => ?_) (fun c => ?_)
            · replace h := h.1 c
              refine ex_iconst (pc := 194) (fr_get fo_151_6 11 rfl) ic_0 ?_
              refine ex_istore_n (pc := 195) (fr_get fo_151_6 12 rfl) rfl (L' := [some (.inr (.inr (40, 0))), some (.inl v1), some (.inl (1 : Int32)), some (.inl (0 : Int32)), w4]) rfl ?_
              refine ex_goto (pc := 196) (fr_get fo_151_6 13 rfl) (t := 208) rfl ?_
              exact h
            · replace h := h.2 c
              refine ex_iconst (pc := 190) (fr_get fo_151_6 9 rfl) ic_1 ?_
              refine ex_goto (pc := 191) (fr_get fo_151_6 10 rfl) (t := 195) rfl ?_
              refine ex_istore_n (pc := 195) (fr_get fo_151_6 12 rfl) rfl (L' := [some (.inr (.inr (40, 0))), some (.inl v1), some (.inl (1 : Int32)), some (.inl (1 : Int32)), w4]) rfl ?_
              refine ex_goto (pc := 196) (fr_get fo_151_6 13 rfl) (t := 208) rfl ?_
              exact h
      · replace h := h.2 c
        refine ex_aload_n (pc := 141) (fr_get fo_151_4 14 rfl) rfl rfl ?_
        refine xv_gi (pc := 142) (fr_get fo_151_4 15 rfl) ow_151 fg_9_155_40 rfl ?_
        refine xv_bne (pc := 145) (fr_get fo_151_5 0 rfl) (t := 165) rfl (fun c => ?_) (fun c => ?_)
        · replace h := h.1 c
          refine ex_aload_n (pc := 165) (fr_get fo_151_5 12 rfl) rfl rfl ?_
          refine xv_kv1 (pc := 166) (fr_get fo_151_5 13 rfl) cc_151_171 (as := [.inr (.inr (40, 0))]) (rs := []) rfl rfl rfl rfl rfl ?_
          refine h.mono (fun r J7 p8 h => ?_)
          obtain ⟨x9, hr, h⟩ := h
          refine ⟨x9, hr, ?_⟩
          refine xv_beq (pc := 169) (fr_get fo_151_5 14 rfl) (t := 199) rfl (fun c => ?_) (fun c => ?_)
          · replace h := h.1 c
            refine ex_aload_n (pc := 199) (fr_get fo_151_6 14 rfl) rfl rfl ?_
            refine xv_kv1 (pc := 200) (fr_get fo_151_6 15 rfl) cc_151_175 (as := [.inr (.inr (40, 0))]) (rs := []) rfl rfl rfl rfl rfl ?_
            refine h.mono (fun r J10 p11 h => ?_)
            obtain ⟨x12, hr, h⟩ := h
            refine ⟨x12, hr, ?_⟩
            refine xv_bne (pc := 203) (fr_get fo_151_7 0 rfl) (t := 208) rfl (fun c => ?_) (fun c => ?_)
            · replace h := h.1 c
              exact h
            · replace h := h.2 c
              refine ex_iconst (pc := 206) (fr_get fo_151_7 1 rfl) ic_0 ?_
              exact ex_zreturn (pc := 207) (fr_get fo_151_7 2 rfl) rt_151 rfl rfl ⟨Or.inl rfl, ma_end_mk h⟩
          · replace h := h.2 c
            refine ex_iconst (pc := 172) (fr_get fo_151_5 15 rfl) ic_1 ?_
            refine ex_istore_n (pc := 173) (fr_get fo_151_6 0 rfl) rfl (L' := [some (.inr (.inr (40, 0))), some (.inl v1), some (.inl (1 : Int32)), some (.inl v3), w4]) rfl ?_
            refine ex_aload_n (pc := 174) (fr_get fo_151_6 1 rfl) rfl rfl ?_
            refine ex_iconst (pc := 175) (fr_get fo_151_6 2 rfl) ic_4 ?_
            refine xv_kv1 (pc := 176) (fr_get fo_151_6 3 rfl) cc_151_148 (as := [.inr (.inr (40, 0)), .inl (4 : Int32)]) (rs := []) rfl rfl rfl rfl rfl ?_
            refine sm_143 rfl rfl ?_
            refine ⟨_, rfl, ?_⟩
            refine xv_pne (pc := 179) (fr_get fo_151_6 4 rfl) (t := 190) rfl (fun c => ?_) (fun c => ?_)
            · replace h := h.1 c
              refine ex_iconst (pc := 190) (fr_get fo_151_6 9 rfl) ic_1 ?_
              refine ex_goto (pc := 191) (fr_get fo_151_6 10 rfl) (t := 195) rfl ?_
              refine ex_istore_n (pc := 195) (fr_get fo_151_6 12 rfl) rfl (L' := [some (.inr (.inr (40, 0))), some (.inl v1), some (.inl (1 : Int32)), some (.inl (1 : Int32)), w4]) rfl ?_
              refine ex_goto (pc := 196) (fr_get fo_151_6 13 rfl) (t := 208) rfl ?_
              exact h
            · replace h := h.2 c
              refine ex_aload_n (pc := 182) (fr_get fo_151_6 5 rfl) rfl rfl ?_
              refine ex_iconst (pc := 183) (fr_get fo_151_6 6 rfl) ic_3 ?_
              refine xv_kv1 (pc := 184) (fr_get fo_151_6 7 rfl) cc_151_148 (as := [.inr (.inr (40, 0)), .inl (3 : Int32)]) (rs := []) rfl rfl rfl rfl rfl ?_
              refine sm_143 rfl rfl ?_
              refine ⟨_, rfl, ?_⟩
              refine xv_peq (pc := 187) (fr_get fo_151_6 8 rfl) (t := 194) rfl (fun c => ?_) (fun c => ?_)
              · replace h := h.1 c
                refine ex_iconst (pc := 194) (fr_get fo_151_6 11 rfl) ic_0 ?_
                refine ex_istore_n (pc := 195) (fr_get fo_151_6 12 rfl) rfl (L' := [some (.inr (.inr (40, 0))), some (.inl v1), some (.inl (1 : Int32)), some (.inl (0 : Int32)), w4]) rfl ?_
                refine ex_goto (pc := 196) (fr_get fo_151_6 13 rfl) (t := 208) rfl ?_
                exact h
              · replace h := h.2 c
                refine ex_iconst (pc := 190) (fr_get fo_151_6 9 rfl) ic_1 ?_
                refine ex_goto (pc := 191) (fr_get fo_151_6 10 rfl) (t := 195) rfl ?_
                refine ex_istore_n (pc := 195) (fr_get fo_151_6 12 rfl) rfl (L' := [some (.inr (.inr (40, 0))), some (.inl v1), some (.inl (1 : Int32)), some (.inl (1 : Int32)), w4]) rfl ?_
                refine ex_goto (pc := 196) (fr_get fo_151_6 13 rfl) (t := 208) rfl ?_
                exact h
        · replace h := h.2 c
          refine ex_aload_n (pc := 148) (fr_get fo_151_5 1 rfl) rfl rfl ?_
          refine ex_iconst (pc := 149) (fr_get fo_151_5 2 rfl) ic_1 ?_
          refine xv_kv0 (pc := 150) (fr_get fo_151_5 3 rfl) cc_151_158 (as := [.inr (.inr (40, 0)), .inl (1 : Int32)]) (rs := []) rfl rfl rfl rfl rfl ?_
          refine h.mono (fun r J13 p14 h => ⟨h.1, ?_⟩)
          replace h := h.2
          refine ex_aload_n (pc := 153) (fr_get fo_151_5 4 rfl) rfl rfl ?_
          refine ex_gr (pc := 154) (fr_get fo_151_5 5 rfl) ow_151 fr_9_168_40 (q := (51, 0)) rfl ?_
          refine ex_iload_n (pc := 157) (fr_get fo_151_5 6 rfl) rfl ?_
          refine ex_aload_n (pc := 158) (fr_get fo_151_5 7 rfl) rfl rfl ?_
          refine xv_gi (pc := 159) (fr_get fo_151_5 8 rfl) ow_151 fg_9_126_40 rfl ?_
          refine xv_iast (pc := 162) (fr_get fo_151_5 9 rfl) gs_51 gl_51 rfl h.1 ?_
          replace h := h.2
          refine ex_iconst (pc := 163) (fr_get fo_151_5 10 rfl) ic_1 ?_
          exact ex_zreturn (pc := 164) (fr_get fo_151_5 11 rfl) rt_151 rfl rfl ⟨Or.inr rfl, ma_end_mk h⟩
    · replace h := h.2 c
      refine ex_aload_n (pc := 100) (fr_get fo_151_3 9 rfl) rfl rfl ?_
      refine ex_bipush (pc := 101) (fr_get fo_151_3 10 rfl) bp_45 ?_
      refine xv_kv1 (pc := 103) (fr_get fo_151_3 11 rfl) cc_151_145 (as := [.inr (.inr (40, 0)), .inl (45 : Int32)]) (rs := []) rfl rfl rfl rfl rfl ?_
      refine sm_142 rfl rfl ?_
      refine ⟨_, rfl, ?_⟩
      refine ex_istore (pc := 106) (fr_get fo_151_3 12 rfl) rfl (L' := [some (.inr (.inr (40, 0))), some (.inl v1), some (.inl v2), some (.inl v3), some (.inl (xv_b (I 40 0 18 = (4 : Int32) ∧ I 40 0 19 = (45 : Int32))))]) rfl ?_
      refine ex_aload_n (pc := 108) (fr_get fo_151_3 13 rfl) rfl rfl ?_
      refine ex_iload_n (pc := 109) (fr_get fo_151_3 14 rfl) rfl ?_
      refine xv_kv1 (pc := 110) (fr_get fo_151_3 15 rfl) cc_151_164 (as := [.inr (.inr (40, 0)), .inl v3]) (rs := []) rfl rfl rfl rfl rfl ?_
      refine h.mono (fun r J15 p16 h => ?_)
      obtain ⟨x17, hr, h⟩ := h
      refine ⟨x17, hr, ?_⟩
      refine xv_bne (pc := 113) (fr_get fo_151_4 0 rfl) (t := 118) rfl (fun c => ?_) (fun c => ?_)
      · replace h := h.1 c
        refine ex_iload (pc := 118) (fr_get fo_151_4 3 rfl) rfl ?_
        refine xv_pne (pc := 120) (fr_get fo_151_4 4 rfl) (t := 127) rfl (fun c => ?_) (fun c => ?_)
        · replace h := h.1 c
          refine ex_iconst (pc := 127) (fr_get fo_151_4 7 rfl) ic_0 ?_
          refine ex_istore_n (pc := 128) (fr_get fo_151_4 8 rfl) rfl (L' := [some (.inr (.inr (40, 0))), some (.inl v1), some (.inl v2), some (.inl (0 : Int32)), some (.inl (xv_b (I 40 0 18 = (4 : Int32) ∧ I 40 0 19 = (45 : Int32))))]) rfl ?_
          refine ex_goto (pc := 129) (fr_get fo_151_4 9 rfl) (t := 208) rfl ?_
          exact h
        · replace h := h.2 c
          refine ex_iconst (pc := 123) (fr_get fo_151_4 5 rfl) ic_1 ?_
          refine ex_goto (pc := 124) (fr_get fo_151_4 6 rfl) (t := 128) rfl ?_
          refine ex_istore_n (pc := 128) (fr_get fo_151_4 8 rfl) rfl (L' := [some (.inr (.inr (40, 0))), some (.inl v1), some (.inl v2), some (.inl (1 : Int32)), some (.inl (xv_b (I 40 0 18 = (4 : Int32) ∧ I 40 0 19 = (45 : Int32))))]) rfl ?_
          refine ex_goto (pc := 129) (fr_get fo_151_4 9 rfl) (t := 208) rfl ?_
          exact h
      · replace h := h.2 c
        refine ex_iconst (pc := 116) (fr_get fo_151_4 1 rfl) ic_0 ?_
        exact ex_zreturn (pc := 117) (fr_get fo_151_4 2 rfl) rt_151 rfl rfl ⟨Or.inl rfl, ma_end_mk h⟩
  · replace h := h.2 c
    refine ex_aload_n (pc := 44) (fr_get fo_151_1 12 rfl) rfl rfl ?_
    refine xv_gi (pc := 45) (fr_get fo_151_1 13 rfl) ow_151 fg_9_94_40 rfl ?_
    refine ex_iconst (pc := 48) (fr_get fo_151_1 14 rfl) ic_1 ?_
    refine xv_ceq (pc := 49) (fr_get fo_151_1 15 rfl) (t := 60) rfl (fun c => ?_) (fun c => ?_)
    · replace h := h.1 c
      refine ex_aload_n (pc := 60) (fr_get fo_151_2 4 rfl) rfl rfl ?_
      refine ex_aload_n (pc := 61) (fr_get fo_151_2 5 rfl) rfl rfl ?_
      refine xv_gi (pc := 62) (fr_get fo_151_2 6 rfl) ow_151 fg_9_94_40 rfl ?_
      refine ex_iconst (pc := 65) (fr_get fo_151_2 7 rfl) ic_1 ?_
      refine xv_cne (pc := 66) (fr_get fo_151_2 8 rfl) (t := 78) rfl (fun c => ?_) (fun c => ?_)
      · replace h := h.1 c
        refine ex_aload_n (pc := 78) (fr_get fo_151_2 14 rfl) rfl rfl ?_
        refine xv_gi (pc := 79) (fr_get fo_151_2 15 rfl) ow_151 fg_9_107_40 rfl ?_
        refine xv_kv0 (pc := 82) (fr_get fo_151_3 0 rfl) cc_151_141 (as := [.inr (.inr (40, 0)), .inl (I 40 0 19)]) (rs := []) rfl rfl rfl rfl rfl ?_
        refine h.mono (fun r J18 p19 h => ⟨h.1, ?_⟩)
        replace h := h.2
        refine ex_aload_n (pc := 85) (fr_get fo_151_3 1 rfl) rfl rfl ?_
        refine ex_bipush (pc := 86) (fr_get fo_151_3 2 rfl) bp_7 ?_
        refine xv_kv0 (pc := 88) (fr_get fo_151_3 3 rfl) cc_151_158 (as := [.inr (.inr (40, 0)), .inl (7 : Int32)]) (rs := []) rfl rfl rfl rfl rfl ?_
        refine h.mono (fun r J20 p21 h => ⟨h.1, ?_⟩)
        replace h := h.2
        refine ex_iconst (pc := 91) (fr_get fo_151_3 4 rfl) ic_0 ?_
        refine ex_istore_n (pc := 92) (fr_get fo_151_3 5 rfl) rfl (L' := [some (.inr (.inr (40, 0))), some (.inl v1), some (.inl (0 : Int32)), some (.inl v3), w4]) rfl ?_
        refine ex_goto (pc := 93) (fr_get fo_151_3 6 rfl) (t := 208) rfl ?_
        exact h
      · replace h := h.2 c
        refine ex_iconst (pc := 69) (fr_get fo_151_2 9 rfl) ic_m1 ?_
        refine ex_aload_n (pc := 70) (fr_get fo_151_2 10 rfl) rfl rfl ?_
        refine xv_gi (pc := 71) (fr_get fo_151_2 11 rfl) ow_151 fg_9_107_40 rfl ?_
        refine ex_isub (pc := 74) (fr_get fo_151_2 12 rfl) ?_
        refine ex_goto (pc := 75) (fr_get fo_151_2 13 rfl) (t := 82) rfl ?_
        refine xv_kv0 (pc := 82) (fr_get fo_151_3 0 rfl) cc_151_141 (as := [.inr (.inr (40, 0)), .inl ((-1 : Int32) - (I 40 0 19))]) (rs := []) rfl rfl rfl rfl rfl ?_
        refine h.mono (fun r J22 p23 h => ⟨h.1, ?_⟩)
        replace h := h.2
        refine ex_aload_n (pc := 85) (fr_get fo_151_3 1 rfl) rfl rfl ?_
        refine ex_bipush (pc := 86) (fr_get fo_151_3 2 rfl) bp_7 ?_
        refine xv_kv0 (pc := 88) (fr_get fo_151_3 3 rfl) cc_151_158 (as := [.inr (.inr (40, 0)), .inl (7 : Int32)]) (rs := []) rfl rfl rfl rfl rfl ?_
        refine h.mono (fun r J24 p25 h => ⟨h.1, ?_⟩)
        replace h := h.2
        refine ex_iconst (pc := 91) (fr_get fo_151_3 4 rfl) ic_0 ?_
        refine ex_istore_n (pc := 92) (fr_get fo_151_3 5 rfl) rfl (L' := [some (.inr (.inr (40, 0))), some (.inl v1), some (.inl (0 : Int32)), some (.inl v3), w4]) rfl ?_
        refine ex_goto (pc := 93) (fr_get fo_151_3 6 rfl) (t := 208) rfl ?_
        exact h
    · replace h := h.2 c
      refine ex_aload_n (pc := 52) (fr_get fo_151_2 0 rfl) rfl rfl ?_
      refine xv_gi (pc := 53) (fr_get fo_151_2 1 rfl) ow_151 fg_9_94_40 rfl ?_
      refine ex_iconst (pc := 56) (fr_get fo_151_2 2 rfl) ic_2 ?_
      refine xv_cne (pc := 57) (fr_get fo_151_2 3 rfl) (t := 96) rfl (fun c => ?_) (fun c => ?_)
      · replace h := h.1 c
        refine ex_iload_n (pc := 96) (fr_get fo_151_3 7 rfl) rfl ?_
        refine xv_beq (pc := 97) (fr_get fo_151_3 8 rfl) (t := 132) rfl (fun c => ?_) (fun c => ?_)
        · replace h := h.1 c
          refine ex_aload_n (pc := 132) (fr_get fo_151_4 10 rfl) rfl rfl ?_
          refine ex_bipush (pc := 133) (fr_get fo_151_4 11 rfl) bp_59 ?_
          refine xv_kv1 (pc := 135) (fr_get fo_151_4 12 rfl) cc_151_145 (as := [.inr (.inr (40, 0)), .inl (59 : Int32)]) (rs := []) rfl rfl rfl rfl rfl ?_
          refine sm_142 rfl rfl ?_
          refine ⟨_, rfl, ?_⟩
          refine xv_peq (pc := 138) (fr_get fo_151_4 13 rfl) (t := 165) rfl (fun c => ?_) (fun c => ?_)
          · replace h := h.1 c
            refine ex_aload_n (pc := 165) (fr_get fo_151_5 12 rfl) rfl rfl ?_
            refine xv_kv1 (pc := 166) (fr_get fo_151_5 13 rfl) cc_151_171 (as := [.inr (.inr (40, 0))]) (rs := []) rfl rfl rfl rfl rfl ?_
            refine h.mono (fun r J26 p27 h => ?_)
            obtain ⟨x28, hr, h⟩ := h
            refine ⟨x28, hr, ?_⟩
            refine xv_beq (pc := 169) (fr_get fo_151_5 14 rfl) (t := 199) rfl (fun c => ?_) (fun c => ?_)
            · replace h := h.1 c
              refine ex_aload_n (pc := 199) (fr_get fo_151_6 14 rfl) rfl rfl ?_
              refine xv_kv1 (pc := 200) (fr_get fo_151_6 15 rfl) cc_151_175 (as := [.inr (.inr (40, 0))]) (rs := []) rfl rfl rfl rfl rfl ?_
              refine h.mono (fun r J29 p30 h => ?_)
              obtain ⟨x31, hr, h⟩ := h
              refine ⟨x31, hr, ?_⟩
              refine xv_bne (pc := 203) (fr_get fo_151_7 0 rfl) (t := 208) rfl (fun c => ?_) (fun c => ?_)
              · replace h := h.1 c
                exact h
              · replace h := h.2 c
                refine ex_iconst (pc := 206) (fr_get fo_151_7 1 rfl) ic_0 ?_
                exact ex_zreturn (pc := 207) (fr_get fo_151_7 2 rfl) rt_151 rfl rfl ⟨Or.inl rfl, ma_end_mk h⟩
            · replace h := h.2 c
              refine ex_iconst (pc := 172) (fr_get fo_151_5 15 rfl) ic_1 ?_
              refine ex_istore_n (pc := 173) (fr_get fo_151_6 0 rfl) rfl (L' := [some (.inr (.inr (40, 0))), some (.inl v1), some (.inl (1 : Int32)), some (.inl v3), w4]) rfl ?_
              refine ex_aload_n (pc := 174) (fr_get fo_151_6 1 rfl) rfl rfl ?_
              refine ex_iconst (pc := 175) (fr_get fo_151_6 2 rfl) ic_4 ?_
              refine xv_kv1 (pc := 176) (fr_get fo_151_6 3 rfl) cc_151_148 (as := [.inr (.inr (40, 0)), .inl (4 : Int32)]) (rs := []) rfl rfl rfl rfl rfl ?_
              refine sm_143 rfl rfl ?_
              refine ⟨_, rfl, ?_⟩
              refine xv_pne (pc := 179) (fr_get fo_151_6 4 rfl) (t := 190) rfl (fun c => ?_) (fun c => ?_)
              · replace h := h.1 c
                refine ex_iconst (pc := 190) (fr_get fo_151_6 9 rfl) ic_1 ?_
                refine ex_goto (pc := 191) (fr_get fo_151_6 10 rfl) (t := 195) rfl ?_
                refine ex_istore_n (pc := 195) (fr_get fo_151_6 12 rfl) rfl (L' := [some (.inr (.inr (40, 0))), some (.inl v1), some (.inl (1 : Int32)), some (.inl (1 : Int32)), w4]) rfl ?_
                refine ex_goto (pc := 196) (fr_get fo_151_6 13 rfl) (t := 208) rfl ?_
                exact h
              · replace h := h.2 c
                refine ex_aload_n (pc := 182) (fr_get fo_151_6 5 rfl) rfl rfl ?_
                refine ex_iconst (pc := 183) (fr_get fo_151_6 6 rfl) ic_3 ?_
                refine xv_kv1 (pc := 184) (fr_get fo_151_6 7 rfl) cc_151_148 (as := [.inr (.inr (40, 0)), .inl (3 : Int32)]) (rs := []) rfl rfl rfl rfl rfl ?_
                refine sm_143 rfl rfl ?_
                refine ⟨_, rfl, ?_⟩
                refine xv_peq (pc := 187) (fr_get fo_151_6 8 rfl) (t := 194) rfl (fun c => ?_) (fun c => ?_)
                · replace h := h.1 c
                  refine ex_iconst (pc := 194) (fr_get fo_151_6 11 rfl) ic_0 ?_
                  refine ex_istore_n (pc := 195) (fr_get fo_151_6 12 rfl) rfl (L' := [some (.inr (.inr (40, 0))), some (.inl v1), some (.inl (1 : Int32)), some (.inl (0 : Int32)), w4]) rfl ?_
                  refine ex_goto (pc := 196) (fr_get fo_151_6 13 rfl) (t := 208) rfl ?_
                  exact h
                · replace h := h.2 c
                  refine ex_iconst (pc := 190) (fr_get fo_151_6 9 rfl) ic_1 ?_
                  refine ex_goto (pc := 191) (fr_get fo_151_6 10 rfl) (t := 195) rfl ?_
                  refine ex_istore_n (pc := 195) (fr_get fo_151_6 12 rfl) rfl (L' := [some (.inr (.inr (40, 0))), some (.inl v1), some (.inl (1 : Int32)), some (.inl (1 : Int32)), w4]) rfl ?_
                  refine ex_goto (pc := 196) (fr_get fo_151_6 13 rfl) (t := 208) rfl ?_
                  exact h
          · replace h := h.2 c
            refine ex_aload_n (pc := 141) (fr_get fo_151_4 14 rfl) rfl rfl ?_
            refine xv_gi (pc := 142) (fr_get fo_151_4 15 rfl) ow_151 fg_9_155_40 rfl ?_
            refine xv_bne (pc := 145) (fr_get fo_151_5 0 rfl) (t := 165) rfl (fun c => ?_) (fun c => ?_)
            · replace h := h.1 c
              refine ex_aload_n (pc := 165) (fr_get fo_151_5 12 rfl) rfl rfl ?_
              refine xv_kv1 (pc := 166) (fr_get fo_151_5 13 rfl) cc_151_171 (as := [.inr (.inr (40, 0))]) (rs := []) rfl rfl rfl rfl rfl ?_
              refine h.mono (fun r J32 p33 h => ?_)
              obtain ⟨x34, hr, h⟩ := h
              refine ⟨x34, hr, ?_⟩
              refine xv_beq (pc := 169) (fr_get fo_151_5 14 rfl) (t := 199) rfl (fun c => ?_) (fun c => ?_)
              · replace h := h.1 c
                refine ex_aload_n (pc := 199) (fr_get fo_151_6 14 rfl) rfl rfl ?_
                refine xv_kv1 (pc := 200) (fr_get fo_151_6 15 rfl) cc_151_175 (as := [.inr (.inr (40, 0))]) (rs := []) rfl rfl rfl rfl rfl ?_
                refine h.mono (fun r J35 p36 h => ?_)
                obtain ⟨x37, hr, h⟩ := h
                refine ⟨x37, hr, ?_⟩
                refine xv_bne (pc := 203) (fr_get fo_151_7 0 rfl) (t := 208) rfl (fun c => ?_) (fun c => ?_)
                · replace h := h.1 c
                  exact h
                · replace h := h.2 c
                  refine ex_iconst (pc := 206) (fr_get fo_151_7 1 rfl) ic_0 ?_
                  exact ex_zreturn (pc := 207) (fr_get fo_151_7 2 rfl) rt_151 rfl rfl ⟨Or.inl rfl, ma_end_mk h⟩
              · replace h := h.2 c
                refine ex_iconst (pc := 172) (fr_get fo_151_5 15 rfl) ic_1 ?_
                refine ex_istore_n (pc := 173) (fr_get fo_151_6 0 rfl) rfl (L' := [some (.inr (.inr (40, 0))), some (.inl v1), some (.inl (1 : Int32)), some (.inl v3), w4]) rfl ?_
                refine ex_aload_n (pc := 174) (fr_get fo_151_6 1 rfl) rfl rfl ?_
                refine ex_iconst (pc := 175) (fr_get fo_151_6 2 rfl) ic_4 ?_
                refine xv_kv1 (pc := 176) (fr_get fo_151_6 3 rfl) cc_151_148 (as := [.inr (.inr (40, 0)), .inl (4 : Int32)]) (rs := []) rfl rfl rfl rfl rfl ?_
                refine sm_143 rfl rfl ?_
                refine ⟨_, rfl, ?_⟩
                refine xv_pne (pc := 179) (fr_get fo_151_6 4 rfl) (t := 190) rfl (fun c => ?_) (fun c => ?_)
                · replace h := h.1 c
                  refine ex_iconst (pc := 190) (fr_get fo_151_6 9 rfl) ic_1 ?_
                  refine ex_goto (pc := 191) (fr_get fo_151_6 10 rfl) (t := 195) rfl ?_
                  refine ex_istore_n (pc := 195) (fr_get fo_151_6 12 rfl) rfl (L' := [some (.inr (.inr (40, 0))), some (.inl v1), some (.inl (1 : Int32)), some (.inl (1 : Int32)), w4]) rfl ?_
                  refine ex_goto (pc := 196) (fr_get fo_151_6 13 rfl) (t := 208) rfl ?_
                  exact h
                · replace h := h.2 c
                  refine ex_aload_n (pc := 182) (fr_get fo_151_6 5 rfl) rfl rfl ?_
                  refine ex_iconst (pc := 183) (fr_get fo_151_6 6 rfl) ic_3 ?_
                  refine xv_kv1 (pc := 184) (fr_get fo_151_6 7 rfl) cc_151_148 (as := [.inr (.inr (40, 0)), .inl (3 : Int32)]) (rs := []) rfl rfl rfl rfl rfl ?_
                  refine sm_143 rfl rfl ?_
                  refine ⟨_, rfl, ?_⟩
                  refine xv_peq (pc := 187) (fr_get fo_151_6 8 rfl) (t := 194) rfl (fun c => ?_) (fun c => ?_)
                  · replace h := h.1 c
                    refine ex_iconst (pc := 194) (fr_get fo_151_6 11 rfl) ic_0 ?_
                    refine ex_istore_n (pc := 195) (fr_get fo_151_6 12 rfl) rfl (L' := [some (.inr (.inr (40, 0))), some (.inl v1), some (.inl (1 : Int32)), some (.inl (0 : Int32)), w4]) rfl ?_
                    refine ex_goto (pc := 196) (fr_get fo_151_6 13 rfl) (t := 208) rfl ?_
                    exact h
                  · replace h := h.2 c
                    refine ex_iconst (pc := 190) (fr_get fo_151_6 9 rfl) ic_1 ?_
                    refine ex_goto (pc := 191) (fr_get fo_151_6 10 rfl) (t := 195) rfl ?_
                    refine ex_istore_n (pc := 195) (fr_get fo_151_6 12 rfl) rfl (L' := [some (.inr (.inr (40, 0))), some (.inl v1), some (.inl (1 : Int32)), some (.inl (1 : Int32)), w4]) rfl ?_
                    refine ex_goto (pc := 196) (fr_get fo_151_6 13 rfl) (t := 208) rfl ?_
                    exact h
            · replace h := h.2 c
              refine ex_aload_n (pc := 148) (fr_get fo_151_5 1 rfl) rfl rfl ?_
              refine ex_iconst (pc := 149) (fr_get fo_151_5 2 rfl) ic_1 ?_
              refine xv_kv0 (pc := 150) (fr_get fo_151_5 3 rfl) cc_151_158 (as := [.inr (.inr (40, 0)), .inl (1 : Int32)]) (rs := []) rfl rfl rfl rfl rfl ?_
              refine h.mono (fun r J38 p39 h => ⟨h.1, ?_⟩)
              replace h := h.2
              refine ex_aload_n (pc := 153) (fr_get fo_151_5 4 rfl) rfl rfl ?_
              refine ex_gr (pc := 154) (fr_get fo_151_5 5 rfl) ow_151 fr_9_168_40 (q := (51, 0)) rfl ?_
              refine ex_iload_n (pc := 157) (fr_get fo_151_5 6 rfl) rfl ?_
              refine ex_aload_n (pc := 158) (fr_get fo_151_5 7 rfl) rfl rfl ?_
              refine xv_gi (pc := 159) (fr_get fo_151_5 8 rfl) ow_151 fg_9_126_40 rfl ?_
              refine xv_iast (pc := 162) (fr_get fo_151_5 9 rfl) gs_51 gl_51 rfl h.1 ?_
              replace h := h.2
              refine ex_iconst (pc := 163) (fr_get fo_151_5 10 rfl) ic_1 ?_
              exact ex_zreturn (pc := 164) (fr_get fo_151_5 11 rfl) rt_151 rfl rfl ⟨Or.inr rfl, ma_end_mk h⟩
        · replace h := h.2 c
          refine ex_aload_n (pc := 100) (fr_get fo_151_3 9 rfl) rfl rfl ?_
          refine ex_bipush (pc := 101) (fr_get fo_151_3 10 rfl) bp_45 ?_
          refine xv_kv1 (pc := 103) (fr_get fo_151_3 11 rfl) cc_151_145 (as := [.inr (.inr (40, 0)), .inl (45 : Int32)]) (rs := []) rfl rfl rfl rfl rfl ?_
          refine sm_142 rfl rfl ?_
          refine ⟨_, rfl, ?_⟩
          refine ex_istore (pc := 106) (fr_get fo_151_3 12 rfl) rfl (L' := [some (.inr (.inr (40, 0))), some (.inl v1), some (.inl v2), some (.inl v3), some (.inl (xv_b (I 40 0 18 = (4 : Int32) ∧ I 40 0 19 = (45 : Int32))))]) rfl ?_
          refine ex_aload_n (pc := 108) (fr_get fo_151_3 13 rfl) rfl rfl ?_
          refine ex_iload_n (pc := 109) (fr_get fo_151_3 14 rfl) rfl ?_
          refine xv_kv1 (pc := 110) (fr_get fo_151_3 15 rfl) cc_151_164 (as := [.inr (.inr (40, 0)), .inl v3]) (rs := []) rfl rfl rfl rfl rfl ?_
          refine h.mono (fun r J40 p41 h => ?_)
          obtain ⟨x42, hr, h⟩ := h
          refine ⟨x42, hr, ?_⟩
          refine xv_bne (pc := 113) (fr_get fo_151_4 0 rfl) (t := 118) rfl (fun c => ?_) (fun c => ?_)
          · replace h := h.1 c
            refine ex_iload (pc := 118) (fr_get fo_151_4 3 rfl) rfl ?_
            refine xv_pne (pc := 120) (fr_get fo_151_4 4 rfl) (t := 127) rfl (fun c => ?_) (fun c => ?_)
            · replace h := h.1 c
              refine ex_iconst (pc := 127) (fr_get fo_151_4 7 rfl) ic_0 ?_
              refine ex_istore_n (pc := 128) (fr_get fo_151_4 8 rfl) rfl (L' := [some (.inr (.inr (40, 0))), some (.inl v1), some (.inl v2), some (.inl (0 : Int32)), some (.inl (xv_b (I 40 0 18 = (4 : Int32) ∧ I 40 0 19 = (45 : Int32))))]) rfl ?_
              refine ex_goto (pc := 129) (fr_get fo_151_4 9 rfl) (t := 208) rfl ?_
              exact h
            · replace h := h.2 c
              refine ex_iconst (pc := 123) (fr_get fo_151_4 5 rfl) ic_1 ?_
              refine ex_goto (pc := 124) (fr_get fo_151_4 6 rfl) (t := 128) rfl ?_
              refine ex_istore_n (pc := 128) (fr_get fo_151_4 8 rfl) rfl (L' := [some (.inr (.inr (40, 0))), some (.inl v1), some (.inl v2), some (.inl (1 : Int32)), some (.inl (xv_b (I 40 0 18 = (4 : Int32) ∧ I 40 0 19 = (45 : Int32))))]) rfl ?_
              refine ex_goto (pc := 129) (fr_get fo_151_4 9 rfl) (t := 208) rfl ?_
              exact h
          · replace h := h.2 c
            refine ex_iconst (pc := 116) (fr_get fo_151_4 1 rfl) ic_0 ?_
            exact ex_zreturn (pc := 117) (fr_get fo_151_4 2 rfl) rt_151 rfl rfl ⟨Or.inl rfl, ma_end_mk h⟩
      · replace h := h.2 c
        refine ex_aload_n (pc := 60) (fr_get fo_151_2 4 rfl) rfl rfl ?_
        refine ex_aload_n (pc := 61) (fr_get fo_151_2 5 rfl) rfl rfl ?_
        refine xv_gi (pc := 62) (fr_get fo_151_2 6 rfl) ow_151 fg_9_94_40 rfl ?_
        refine ex_iconst (pc := 65) (fr_get fo_151_2 7 rfl) ic_1 ?_
        refine xv_cne (pc := 66) (fr_get fo_151_2 8 rfl) (t := 78) rfl (fun c => ?_) (fun c => ?_)
        · replace h := h.1 c
          refine ex_aload_n (pc := 78) (fr_get fo_151_2 14 rfl) rfl rfl ?_
          refine xv_gi (pc := 79) (fr_get fo_151_2 15 rfl) ow_151 fg_9_107_40 rfl ?_
          refine xv_kv0 (pc := 82) (fr_get fo_151_3 0 rfl) cc_151_141 (as := [.inr (.inr (40, 0)), .inl (I 40 0 19)]) (rs := []) rfl rfl rfl rfl rfl ?_
          refine h.mono (fun r J43 p44 h => ⟨h.1, ?_⟩)
          replace h := h.2
          refine ex_aload_n (pc := 85) (fr_get fo_151_3 1 rfl) rfl rfl ?_
          refine ex_bipush (pc := 86) (fr_get fo_151_3 2 rfl) bp_7 ?_
          refine xv_kv0 (pc := 88) (fr_get fo_151_3 3 rfl) cc_151_158 (as := [.inr (.inr (40, 0)), .inl (7 : Int32)]) (rs := []) rfl rfl rfl rfl rfl ?_
          refine h.mono (fun r J45 p46 h => ⟨h.1, ?_⟩)
          replace h := h.2
          refine ex_iconst (pc := 91) (fr_get fo_151_3 4 rfl) ic_0 ?_
          refine ex_istore_n (pc := 92) (fr_get fo_151_3 5 rfl) rfl (L' := [some (.inr (.inr (40, 0))), some (.inl v1), some (.inl (0 : Int32)), some (.inl v3), w4]) rfl ?_
          refine ex_goto (pc := 93) (fr_get fo_151_3 6 rfl) (t := 208) rfl ?_
          exact h
        · replace h := h.2 c
          refine ex_iconst (pc := 69) (fr_get fo_151_2 9 rfl) ic_m1 ?_
          refine ex_aload_n (pc := 70) (fr_get fo_151_2 10 rfl) rfl rfl ?_
          refine xv_gi (pc := 71) (fr_get fo_151_2 11 rfl) ow_151 fg_9_107_40 rfl ?_
          refine ex_isub (pc := 74) (fr_get fo_151_2 12 rfl) ?_
          refine ex_goto (pc := 75) (fr_get fo_151_2 13 rfl) (t := 82) rfl ?_
          refine xv_kv0 (pc := 82) (fr_get fo_151_3 0 rfl) cc_151_141 (as := [.inr (.inr (40, 0)), .inl ((-1 : Int32) - (I 40 0 19))]) (rs := []) rfl rfl rfl rfl rfl ?_
          refine h.mono (fun r J47 p48 h => ⟨h.1, ?_⟩)
          replace h := h.2
          refine ex_aload_n (pc := 85) (fr_get fo_151_3 1 rfl) rfl rfl ?_
          refine ex_bipush (pc := 86) (fr_get fo_151_3 2 rfl) bp_7 ?_
          refine xv_kv0 (pc := 88) (fr_get fo_151_3 3 rfl) cc_151_158 (as := [.inr (.inr (40, 0)), .inl (7 : Int32)]) (rs := []) rfl rfl rfl rfl rfl ?_
          refine h.mono (fun r J49 p50 h => ⟨h.1, ?_⟩)
          replace h := h.2
          refine ex_iconst (pc := 91) (fr_get fo_151_3 4 rfl) ic_0 ?_
          refine ex_istore_n (pc := 92) (fr_get fo_151_3 5 rfl) rfl (L' := [some (.inr (.inr (40, 0))), some (.inl v1), some (.inl (0 : Int32)), some (.inl v3), w4]) rfl ?_
          refine ex_goto (pc := 93) (fr_get fo_151_3 6 rfl) (t := 208) rfl ?_
          exact h

theorem b_151_208 {d : Nat} {I : ma_I} {o : Nat} {Q : ma_Q} {v1 : Int32} {v2 : Int32} {v3 : Int32} {w4 : Option ma_V}
  (h :
    Exm (d) 141 [.inr (.inr (40, 0))] I o (fun r J1 p2 => r = none ∧
      Ex (d + 1) 151 (40, [some (.inr (.inr (40, 0))), some (.inl v1), some (.inl v2), some (.inl v3), w4], [], ma_mem J1 p2, 0, 0) (ma_end Q))) :
  Ex (d + 1) 151 (208, [some (.inr (.inr (40, 0))), some (.inl v1), some (.inl v2), some (.inl v3), w4], [], ma_mem I o, 0, 0) (ma_end Q) := by
  refine ex_aload_n (pc := 208) (fr_get fo_151_7 3 rfl) rfl rfl ?_
  refine xv_kv0 (pc := 209) (fr_get fo_151_7 4 rfl) cc_151_178 (as := [.inr (.inr (40, 0))]) (rs := []) rfl rfl rfl rfl rfl ?_
  refine h.mono (fun r J1 p2 h => ⟨h.1, ?_⟩)
  replace h := h.2
  refine ex_goto (pc := 212) (fr_get fo_151_7 5 rfl) (t := 40) rfl ?_
  exact h

theorem e_152 {d : Nat} {I : ma_I} {o : Nat} {Q : ma_Q} {a1 : Int32}
  (h :
    Ex (d + 1) 152 (7, [some (.inr (.inr (40, 0))), some (.inl a1), some (.inl (0 : Int32))], [], ma_mem (ma_up I 40 0 17 (0 : Int32)) o, 0, 0) (ma_end Q)) :
  Exm (d + 1) 152 [.inr (.inr (40, 0)), .inl a1] I o Q := by
  show Ex (d + 1) 152 (0, [some (.inr (.inr (40, 0))), some (.inl a1), none], [], ma_mem I o, 0, 0) (ma_end Q)
  refine ex_aload_n (pc := 0) (fr_get fo_152_0 0 rfl) rfl rfl ?_
  refine ex_iconst (pc := 1) (fr_get fo_152_0 1 rfl) ic_0 ?_
  refine ex_pi (pc := 2) (fr_get fo_152_0 2 rfl) ow_152 fp_9_88_40 ?_
  refine ex_iconst (pc := 5) (fr_get fo_152_0 3 rfl) ic_0 ?_
  refine ex_istore_n (pc := 6) (fr_get fo_152_0 4 rfl) rfl (L' := [some (.inr (.inr (40, 0))), some (.inl a1), some (.inl (0 : Int32))]) rfl ?_
  exact h

theorem b_152_7 {d : Nat} {I : ma_I} {o : Nat} {Q : ma_Q} {v1 : Int32} {v2 : Int32}
  (h :
    ((3 : Int32) ≤ v2 →
      Exm (d) 141 [.inr (.inr (40, 0))] I o (fun r J1 p2 => r = none ∧
        (J1 40 0 18 ≠ (5 : Int32) →
          Q (some (.inl (J1 40 0 20))) J1 p2) ∧
        (J1 40 0 18 = (5 : Int32) →
          Q (some (.inl (-1 : Int32))) J1 p2))) ∧
    (v2 < (3 : Int32) →
      Exm (d) 141 [.inr (.inr (40, 0))] I o (fun r J3 p4 => r = none ∧
        (J3 40 0 18 = (3 : Int32) ∧ J3 40 0 19 = v2 →
          Exm (d) 141 [.inr (.inr (40, 0))] J3 p4 (fun r J5 p6 => r = none ∧
            Exm (d) 151 [.inr (.inr (40, 0)), .inl (((3 : Int32) * v1) + v2)] J5 p6 (fun r J7 p8 => ∃ x9 : Int32, r = some (.inl x9) ∧
              (x9 ≠ 0 →
                Ex (d + 1) 152 (7, [some (.inr (.inr (40, 0))), some (.inl v1), some (.inl (v2 + (1 : Int32)))], [], ma_mem J7 p8, 0, 0) (ma_end Q)) ∧
              (x9 = 0 →
                Q (some (.inl (J7 40 0 20))) J7 p8)))) ∧
        (¬(J3 40 0 18 = (3 : Int32) ∧ J3 40 0 19 = v2) →
          Q (some (.inl (J3 40 0 20))) J3 p4)))) :
  Ex (d + 1) 152 (7, [some (.inr (.inr (40, 0))), some (.inl v1), some (.inl v2)], [], ma_mem I o, 0, 0) (ma_end Q) := by
  refine ex_iload_n (pc := 7) (fr_get fo_152_0 5 rfl) rfl ?_
  refine ex_iconst (pc := 8) (fr_get fo_152_0 6 rfl) ic_3 ?_
  refine xv_cge (pc := 9) (fr_get fo_152_0 7 rfl) (t := 56) rfl (fun c => ?_) (fun c => ?_)
  · replace h := h.1 c
    refine ex_aload_n (pc := 56) (fr_get fo_152_2 0 rfl) rfl rfl ?_
    refine xv_kv0 (pc := 57) (fr_get fo_152_2 1 rfl) cc_152_178 (as := [.inr (.inr (40, 0))]) (rs := []) rfl rfl rfl rfl rfl ?_
    refine h.mono (fun r J1 p2 h => ⟨h.1, ?_⟩)
    replace h := h.2
    refine ex_aload_n (pc := 60) (fr_get fo_152_2 2 rfl) rfl rfl ?_
    refine xv_gi (pc := 61) (fr_get fo_152_2 3 rfl) ow_152 fg_9_94_40 rfl ?_
    refine ex_iconst (pc := 64) (fr_get fo_152_2 4 rfl) ic_5 ?_
    refine xv_cne (pc := 65) (fr_get fo_152_2 5 rfl) (t := 72) rfl (fun c => ?_) (fun c => ?_)
    · replace h := h.1 c
      refine ex_aload_n (pc := 72) (fr_get fo_152_2 8 rfl) rfl rfl ?_
      refine xv_gi (pc := 73) (fr_get fo_152_2 9 rfl) ow_152 fg_9_100_40 rfl ?_
      exact ex_ireturn (pc := 76) (fr_get fo_152_2 10 rfl) rt_152 rfl rfl (ma_end_mk h)
    · replace h := h.2 c
      refine ex_iconst (pc := 68) (fr_get fo_152_2 6 rfl) ic_m1 ?_
      refine ex_goto (pc := 69) (fr_get fo_152_2 7 rfl) (t := 76) rfl ?_
      exact ex_ireturn (pc := 76) (fr_get fo_152_2 10 rfl) rt_152 rfl rfl (ma_end_mk h)
  · replace h := h.2 c
    refine ex_aload_n (pc := 12) (fr_get fo_152_0 8 rfl) rfl rfl ?_
    refine xv_kv0 (pc := 13) (fr_get fo_152_0 9 rfl) cc_152_178 (as := [.inr (.inr (40, 0))]) (rs := []) rfl rfl rfl rfl rfl ?_
    refine h.mono (fun r J3 p4 h => ⟨h.1, ?_⟩)
    replace h := h.2
    refine ex_aload_n (pc := 16) (fr_get fo_152_0 10 rfl) rfl rfl ?_
    refine ex_iload_n (pc := 17) (fr_get fo_152_0 11 rfl) rfl ?_
    refine xv_kv1 (pc := 18) (fr_get fo_152_0 12 rfl) cc_152_148 (as := [.inr (.inr (40, 0)), .inl v2]) (rs := []) rfl rfl rfl rfl rfl ?_
    refine sm_143 rfl rfl ?_
    refine ⟨_, rfl, ?_⟩
    refine xv_pne (pc := 21) (fr_get fo_152_0 13 rfl) (t := 29) rfl (fun c => ?_) (fun c => ?_)
    · replace h := h.1 c
      refine ex_aload_n (pc := 29) (fr_get fo_152_1 1 rfl) rfl rfl ?_
      refine xv_kv0 (pc := 30) (fr_get fo_152_1 2 rfl) cc_152_178 (as := [.inr (.inr (40, 0))]) (rs := []) rfl rfl rfl rfl rfl ?_
      refine h.mono (fun r J5 p6 h => ⟨h.1, ?_⟩)
      replace h := h.2
      refine ex_aload_n (pc := 33) (fr_get fo_152_1 3 rfl) rfl rfl ?_
      refine ex_iconst (pc := 34) (fr_get fo_152_1 4 rfl) ic_3 ?_
      refine ex_iload_n (pc := 35) (fr_get fo_152_1 5 rfl) rfl ?_
      refine ex_imul (pc := 36) (fr_get fo_152_1 6 rfl) ?_
      refine ex_iload_n (pc := 37) (fr_get fo_152_1 7 rfl) rfl ?_
      refine ex_iadd (pc := 38) (fr_get fo_152_1 8 rfl) ?_
      refine xv_kv1 (pc := 39) (fr_get fo_152_1 9 rfl) cc_152_181 (as := [.inr (.inr (40, 0)), .inl (((3 : Int32) * v1) + v2)]) (rs := []) rfl rfl rfl rfl rfl ?_
      refine h.mono (fun r J7 p8 h => ?_)
      obtain ⟨x9, hr, h⟩ := h
      refine ⟨x9, hr, ?_⟩
      refine xv_bne (pc := 42) (fr_get fo_152_1 10 rfl) (t := 50) rfl (fun c => ?_) (fun c => ?_)
      · replace h := h.1 c
        refine xv_iinc (pc := 50) (fr_get fo_152_1 14 rfl) rfl ic_1 (L' := [some (.inr (.inr (40, 0))), some (.inl v1), some (.inl (v2 + (1 : Int32)))]) rfl ?_
        refine ex_goto (pc := 53) (fr_get fo_152_1 15 rfl) (t := 7) rfl ?_
        exact h
      · replace h := h.2 c
        refine ex_aload_n (pc := 45) (fr_get fo_152_1 11 rfl) rfl rfl ?_
        refine xv_gi (pc := 46) (fr_get fo_152_1 12 rfl) ow_152 fg_9_100_40 rfl ?_
        exact ex_ireturn (pc := 49) (fr_get fo_152_1 13 rfl) rt_152 rfl rfl (ma_end_mk h)
    · replace h := h.2 c
      refine ex_aload_n (pc := 24) (fr_get fo_152_0 14 rfl) rfl rfl ?_
      refine xv_gi (pc := 25) (fr_get fo_152_0 15 rfl) ow_152 fg_9_100_40 rfl ?_
      exact ex_ireturn (pc := 28) (fr_get fo_152_1 0 rfl) rt_152 rfl rfl (ma_end_mk h)

theorem e_153 {d : Nat} {I : ma_I} {o : Nat} {Q : ma_Q} 
  (h :
    (I 40 0 13 ≠ (6 : Int32) →
      Exm (d) 152 [.inr (.inr (40, 0)), .inl (I 40 0 13)] I o (fun r J1 p2 => ∃ x3 : Int32, r = some (.inl x3) ∧
        (x3 = (-1 : Int32) →
          Q (some (.inl (((J1 40 0 13) + (1 : Int32)) - (1 : Int32)))) (ma_up (ma_up J1 40 0 12 (0 : Int32)) 40 0 13 ((J1 40 0 13) + (1 : Int32))) p2) ∧
        (x3 ≠ (-1 : Int32) →
          Q (some (.inl ((-100 : Int32) - x3))) (ma_up J1 40 0 12 (0 : Int32)) p2))) ∧
    (I 40 0 13 = (6 : Int32) →
      Q (some (.inl (-4 : Int32))) I o)) :
  Exm (d + 1) 153 [.inr (.inr (40, 0))] I o Q := by
  show Ex (d + 1) 153 (0, [some (.inr (.inr (40, 0))), none], [], ma_mem I o, 0, 0) (ma_end Q)
  refine ex_aload_n (pc := 0) (fr_get fo_153_0 0 rfl) rfl rfl ?_
  refine xv_gi (pc := 1) (fr_get fo_153_0 1 rfl) ow_153 fg_9_184_40 rfl ?_
  refine ex_bipush (pc := 4) (fr_get fo_153_0 2 rfl) bp_6 ?_
  refine xv_cne (pc := 6) (fr_get fo_153_0 3 rfl) (t := 12) rfl (fun c => ?_) (fun c => ?_)
  · replace h := h.1 c
    refine ex_aload_n (pc := 12) (fr_get fo_153_0 6 rfl) rfl rfl ?_
    refine ex_aload_n (pc := 13) (fr_get fo_153_0 7 rfl) rfl rfl ?_
    refine xv_gi (pc := 14) (fr_get fo_153_0 8 rfl) ow_153 fg_9_184_40 rfl ?_
    refine xv_kv1 (pc := 17) (fr_get fo_153_0 9 rfl) cc_153_187 (as := [.inr (.inr (40, 0)), .inl (I 40 0 13)]) (rs := []) rfl rfl rfl rfl rfl ?_
    refine h.mono (fun r J1 p2 h => ?_)
    obtain ⟨x3, hr, h⟩ := h
    refine ⟨x3, hr, ?_⟩
    refine ex_istore_n (pc := 20) (fr_get fo_153_0 10 rfl) rfl (L' := [some (.inr (.inr (40, 0))), some (.inl x3)]) rfl ?_
    refine ex_aload_n (pc := 21) (fr_get fo_153_0 11 rfl) rfl rfl ?_
    refine ex_iconst (pc := 22) (fr_get fo_153_0 12 rfl) ic_0 ?_
    refine ex_pi (pc := 23) (fr_get fo_153_0 13 rfl) ow_153 fp_9_82_40 ?_
    refine ex_iload_n (pc := 26) (fr_get fo_153_0 14 rfl) rfl ?_
    refine ex_iconst (pc := 27) (fr_get fo_153_0 15 rfl) ic_m1 ?_
    refine xv_ceq (pc := 28) (fr_get fo_153_1 0 rfl) (t := 36) rfl (fun c => ?_) (fun c => ?_)
    · replace h := h.1 c
      refine ex_aload_n (pc := 36) (fr_get fo_153_1 5 rfl) rfl rfl ?_
      refine ex_dupr (pc := 37) (fr_get fo_153_1 6 rfl) ?_
      refine xv_gi (pc := 38) (fr_get fo_153_1 7 rfl) ow_153 fg_9_184_40 (xv_uj rfl) ?_
      refine ex_iconst (pc := 41) (fr_get fo_153_1 8 rfl) ic_1 ?_
      refine ex_iadd (pc := 42) (fr_get fo_153_1 9 rfl) ?_
      refine ex_pi (pc := 43) (fr_get fo_153_1 10 rfl) ow_153 fp_9_184_40 ?_
      refine ex_aload_n (pc := 46) (fr_get fo_153_1 11 rfl) rfl rfl ?_
      refine xv_gi (pc := 47) (fr_get fo_153_1 12 rfl) ow_153 fg_9_184_40 xv_us ?_
      refine ex_iconst (pc := 50) (fr_get fo_153_1 13 rfl) ic_1 ?_
      refine ex_isub (pc := 51) (fr_get fo_153_1 14 rfl) ?_
      exact ex_ireturn (pc := 52) (fr_get fo_153_1 15 rfl) rt_153 rfl rfl (ma_end_mk h)
    · replace h := h.2 c
      refine ex_bipush (pc := 31) (fr_get fo_153_1 1 rfl) bp_m100 ?_
      refine ex_iload_n (pc := 33) (fr_get fo_153_1 2 rfl) rfl ?_
      refine ex_isub (pc := 34) (fr_get fo_153_1 3 rfl) ?_
      exact ex_ireturn (pc := 35) (fr_get fo_153_1 4 rfl) rt_153 rfl rfl (ma_end_mk h)
  · replace h := h.2 c
    refine ex_bipush (pc := 9) (fr_get fo_153_0 4 rfl) bp_m4 ?_
    exact ex_ireturn (pc := 11) (fr_get fo_153_0 5 rfl) rt_153 rfl rfl (ma_end_mk h)

theorem e_154 {d : Nat} {I : ma_I} {o : Nat} {Q : ma_Q} {a1 : Int32}
  (h :
    ((0 : Int32) ≤ a1 ∧ a1 ≤ ((I 40 0 13) - (1 : Int32)) →
      Q (some (.inl (I 40 0 14))) (ma_up I 40 0 14 a1) o) ∧
    (¬((0 : Int32) ≤ a1 ∧ a1 ≤ ((I 40 0 13) - (1 : Int32))) →
      Q (some (.inl (-2 : Int32))) I o)) :
  Exm (d + 1) 154 [.inr (.inr (40, 0)), .inl a1] I o Q := by
  show Ex (d + 1) 154 (0, [some (.inr (.inr (40, 0))), some (.inl a1), none], [], ma_mem I o, 0, 0) (ma_end Q)
  refine ex_iload_n (pc := 0) (fr_get fo_154_0 0 rfl) rfl ?_
  refine ex_iconst (pc := 1) (fr_get fo_154_0 1 rfl) ic_0 ?_
  refine ex_aload_n (pc := 2) (fr_get fo_154_0 2 rfl) rfl rfl ?_
  refine xv_gi (pc := 3) (fr_get fo_154_0 3 rfl) ow_154 fg_9_184_40 rfl ?_
  refine ex_iconst (pc := 6) (fr_get fo_154_0 4 rfl) ic_1 ?_
  refine ex_isub (pc := 7) (fr_get fo_154_0 5 rfl) ?_
  refine xv_ks1 (pc := 8) (fr_get fo_154_0 6 rfl) cc_154_3 (as := [.inl a1, .inl (0 : Int32), .inl ((I 40 0 13) - (1 : Int32))]) (rs := []) rfl rfl rfl rfl ?_
  refine sm_118 ?_
  refine ⟨_, rfl, ?_⟩
  refine xv_pne (pc := 11) (fr_get fo_154_0 7 rfl) (t := 17) rfl (fun c => ?_) (fun c => ?_)
  · replace h := h.1 c
    refine ex_aload_n (pc := 17) (fr_get fo_154_0 10 rfl) rfl rfl ?_
    refine xv_gi (pc := 18) (fr_get fo_154_0 11 rfl) ow_154 fg_9_190_40 rfl ?_
    refine ex_istore_n (pc := 21) (fr_get fo_154_0 12 rfl) rfl (L' := [some (.inr (.inr (40, 0))), some (.inl a1), some (.inl (I 40 0 14))]) rfl ?_
    refine ex_aload_n (pc := 22) (fr_get fo_154_0 13 rfl) rfl rfl ?_
    refine ex_iload_n (pc := 23) (fr_get fo_154_0 14 rfl) rfl ?_
    refine ex_pi (pc := 24) (fr_get fo_154_0 15 rfl) ow_154 fp_9_190_40 ?_
    refine ex_iload_n (pc := 27) (fr_get fo_154_1 0 rfl) rfl ?_
    exact ex_ireturn (pc := 28) (fr_get fo_154_1 1 rfl) rt_154 rfl rfl (ma_end_mk h)
  · replace h := h.2 c
    refine ex_bipush (pc := 14) (fr_get fo_154_0 8 rfl) bp_m2 ?_
    exact ex_ireturn (pc := 16) (fr_get fo_154_0 9 rfl) rt_154 rfl rfl (ma_end_mk h)

/-! ===== stretches ===== -/
theorem e_64 {d : Nat} {I : ma_I} {o : Nat} {Q : ma_Q} {a1 : Int32} {a2 : Int32}
  (h :
    (¬((0 : Int32) ≤ a1 ∧ a1 ≤ (99 : Int32)) →
      Q (some (.inl (-2 : Int32))) I o) ∧
    ((0 : Int32) ≤ a1 ∧ a1 ≤ (99 : Int32) →
      ((0 : Int32) ≤ a2 ∧ a2 ≤ (7 : Int32) →
        (I 6 0 1 ≤ 0 →
          (I 6 0 1 < (6 : Int32) →
            ma_in (I 6 0 1) 6 ∧
            ma_in (I 6 0 1) 6 ∧
            Exm (d + 1) 13 [.inr (.inr (6, 0))] (ma_up (ma_up (ma_up I 14 0 ((I 6 0 1).toNatClampNeg) a1) 15 0 ((I 6 0 1).toNatClampNeg) a2) 6 0 1 ((I 6 0 1) + (1 : Int32))) o (fun r J1 p2 => r = none ∧
              Q (some (.inl (J1 6 0 1))) J1 p2)) ∧
          ((6 : Int32) ≤ I 6 0 1 →
            Q (some (.inl (-4 : Int32))) I o)) ∧
        (0 < I 6 0 1 →
          ma_in ((I 6 0 1) - (1 : Int32)) 6 ∧
          (I 14 0 (((I 6 0 1) - (1 : Int32)).toNatClampNeg) < a1 →
            (I 6 0 1 < (6 : Int32) →
              ma_in (I 6 0 1) 6 ∧
              ma_in (I 6 0 1) 6 ∧
              Exm (d + 1) 13 [.inr (.inr (6, 0))] (ma_up (ma_up (ma_up I 14 0 ((I 6 0 1).toNatClampNeg) a1) 15 0 ((I 6 0 1).toNatClampNeg) a2) 6 0 1 ((I 6 0 1) + (1 : Int32))) o (fun r J3 p4 => r = none ∧
                Q (some (.inl (J3 6 0 1))) J3 p4)) ∧
            ((6 : Int32) ≤ I 6 0 1 →
              Q (some (.inl (-4 : Int32))) I o)) ∧
          (a1 ≤ I 14 0 (((I 6 0 1) - (1 : Int32)).toNatClampNeg) →
            Q (some (.inl (-3 : Int32))) I o))) ∧
      (¬((0 : Int32) ≤ a2 ∧ a2 ≤ (7 : Int32)) →
        Q (some (.inl (-2 : Int32))) I o))) :
  Exm (d + 2) 64 [.inr (.inr (5, 0)), .inl a1, .inl a2] I o Q := by
  show Ex (d + 2) 64 (0, [some (.inr (.inr (5, 0))), some (.inl a1), some (.inl a2)], [], ma_mem I o, 0, 0) (ma_end Q)
  refine ex_iload_n (pc := 0) (fr_get fo_64_0 0 rfl) rfl ?_
  refine xv_ks1 (pc := 1) (fr_get fo_64_0 1 rfl) cc_64_84 (as := [.inl a1]) (rs := []) rfl rfl rfl rfl ?_
  refine sm_114 ?_
  refine ⟨_, rfl, ?_⟩
  refine xv_peq (pc := 4) (fr_get fo_64_0 2 rfl) (t := 14) rfl (fun c => ?_) (fun c => ?_)
  · replace h := h.1 c
    refine ex_bipush (pc := 14) (fr_get fo_64_0 6 rfl) bp_m2 ?_
    exact ex_ireturn (pc := 16) (fr_get fo_64_0 7 rfl) rt_64 rfl rfl (ma_end_mk h)
  · replace h := h.2 c
    refine ex_iload_n (pc := 7) (fr_get fo_64_0 3 rfl) rfl ?_
    refine xv_ks1 (pc := 8) (fr_get fo_64_0 4 rfl) cc_64_88 (as := [.inl a2]) (rs := []) rfl rfl rfl rfl ?_
    refine sm_113 ?_
    refine ⟨_, rfl, ?_⟩
    refine xv_pne (pc := 11) (fr_get fo_64_0 5 rfl) (t := 17) rfl (fun c => ?_) (fun c => ?_)
    · replace h := h.1 c
      refine ex_aload_n (pc := 17) (fr_get fo_64_0 8 rfl) rfl rfl ?_
      refine ex_gr (pc := 18) (fr_get fo_64_0 9 rfl) ow_64 fr_8_12_5 (q := (6, 0)) rfl ?_
      refine xv_gi (pc := 21) (fr_get fo_64_0 10 rfl) ow_64 fg_8_91_6 rfl ?_
      refine xv_ble (pc := 24) (fr_get fo_64_0 11 rfl) (t := 51) rfl (fun c => ?_) (fun c => ?_)
      · replace h := h.1 c
        refine ex_aload_n (pc := 51) (fr_get fo_64_1 9 rfl) rfl rfl ?_
        refine ex_gr (pc := 52) (fr_get fo_64_1 10 rfl) ow_64 fr_8_12_5 (q := (6, 0)) rfl ?_
        refine xv_gi (pc := 55) (fr_get fo_64_1 11 rfl) ow_64 fg_8_91_6 rfl ?_
        refine ex_bipush (pc := 58) (fr_get fo_64_1 12 rfl) bp_6 ?_
        refine xv_clt (pc := 60) (fr_get fo_64_1 13 rfl) (t := 66) rfl (fun c => ?_) (fun c => ?_)
        · replace h := h.1 c
          refine ex_aload_n (pc := 66) (fr_get fo_64_2 0 rfl) rfl rfl ?_
          refine ex_gr (pc := 67) (fr_get fo_64_2 1 rfl) ow_64 fr_8_12_5 (q := (6, 0)) rfl ?_
          refine ex_gr (pc := 70) (fr_get fo_64_2 2 rfl) ow_64 fr_8_94_6 (q := (14, 0)) rfl ?_
          refine ex_aload_n (pc := 73) (fr_get fo_64_2 3 rfl) rfl rfl ?_
          refine ex_gr (pc := 74) (fr_get fo_64_2 4 rfl) ow_64 fr_8_12_5 (q := (6, 0)) rfl ?_
          refine xv_gi (pc := 77) (fr_get fo_64_2 5 rfl) ow_64 fg_8_91_6 rfl ?_
          refine ex_iload_n (pc := 80) (fr_get fo_64_2 6 rfl) rfl ?_
          refine xv_iast (pc := 81) (fr_get fo_64_2 7 rfl) gs_14 gl_14 rfl h.1 ?_
          replace h := h.2
          refine ex_aload_n (pc := 82) (fr_get fo_64_2 8 rfl) rfl rfl ?_
          refine ex_gr (pc := 83) (fr_get fo_64_2 9 rfl) ow_64 fr_8_12_5 (q := (6, 0)) rfl ?_
          refine ex_gr (pc := 86) (fr_get fo_64_2 10 rfl) ow_64 fr_8_98_6 (q := (15, 0)) rfl ?_
          refine ex_aload_n (pc := 89) (fr_get fo_64_2 11 rfl) rfl rfl ?_
          refine ex_gr (pc := 90) (fr_get fo_64_2 12 rfl) ow_64 fr_8_12_5 (q := (6, 0)) rfl ?_
          refine xv_gi (pc := 93) (fr_get fo_64_2 13 rfl) ow_64 fg_8_91_6 (xv_ug rfl) ?_
          refine ex_iload_n (pc := 96) (fr_get fo_64_2 14 rfl) rfl ?_
          refine xv_iast (pc := 97) (fr_get fo_64_2 15 rfl) gs_15 gl_15 rfl h.1 ?_
          replace h := h.2
          refine ex_aload_n (pc := 98) (fr_get fo_64_3 0 rfl) rfl rfl ?_
          refine ex_gr (pc := 99) (fr_get fo_64_3 1 rfl) ow_64 fr_8_12_5 (q := (6, 0)) rfl ?_
          refine ex_dupr (pc := 102) (fr_get fo_64_3 2 rfl) ?_
          refine xv_gi (pc := 103) (fr_get fo_64_3 3 rfl) ow_64 fg_8_91_6 (Eq.trans (xv_ug rfl) (xv_ug rfl)) ?_
          refine ex_iconst (pc := 106) (fr_get fo_64_3 4 rfl) ic_1 ?_
          refine ex_iadd (pc := 107) (fr_get fo_64_3 5 rfl) ?_
          refine ex_pi (pc := 108) (fr_get fo_64_3 6 rfl) ow_64 fp_8_91_6 ?_
          refine ex_aload_n (pc := 111) (fr_get fo_64_3 7 rfl) rfl rfl ?_
          refine ex_gr (pc := 112) (fr_get fo_64_3 8 rfl) ow_64 fr_8_12_5 (q := (6, 0)) rfl ?_
          refine xv_kv0 (pc := 115) (fr_get fo_64_3 9 rfl) cc_64_101 (as := [.inr (.inr (6, 0))]) (rs := []) rfl rfl rfl rfl rfl ?_
          refine h.mono (fun r J1 p2 h => ⟨h.1, ?_⟩)
          replace h := h.2
          refine ex_aload_n (pc := 118) (fr_get fo_64_3 10 rfl) rfl rfl ?_
          refine ex_gr (pc := 119) (fr_get fo_64_3 11 rfl) ow_64 fr_8_12_5 (q := (6, 0)) rfl ?_
          refine xv_gi (pc := 122) (fr_get fo_64_3 12 rfl) ow_64 fg_8_91_6 rfl ?_
          exact ex_ireturn (pc := 125) (fr_get fo_64_3 13 rfl) rt_64 rfl rfl (ma_end_mk h)
        · replace h := h.2 c
          refine ex_bipush (pc := 63) (fr_get fo_64_1 14 rfl) bp_m4 ?_
          exact ex_ireturn (pc := 65) (fr_get fo_64_1 15 rfl) rt_64 rfl rfl (ma_end_mk h)
      · replace h := h.2 c
        refine ex_iload_n (pc := 27) (fr_get fo_64_0 12 rfl) rfl ?_
        refine ex_aload_n (pc := 28) (fr_get fo_64_0 13 rfl) rfl rfl ?_
        refine ex_gr (pc := 29) (fr_get fo_64_0 14 rfl) ow_64 fr_8_12_5 (q := (6, 0)) rfl ?_
        refine ex_gr (pc := 32) (fr_get fo_64_0 15 rfl) ow_64 fr_8_94_6 (q := (14, 0)) rfl ?_
        refine ex_aload_n (pc := 35) (fr_get fo_64_1 0 rfl) rfl rfl ?_
        refine ex_gr (pc := 36) (fr_get fo_64_1 1 rfl) ow_64 fr_8_12_5 (q := (6, 0)) rfl ?_
        refine xv_gi (pc := 39) (fr_get fo_64_1 2 rfl) ow_64 fg_8_91_6 rfl ?_
        refine ex_iconst (pc := 42) (fr_get fo_64_1 3 rfl) ic_1 ?_
        refine ex_isub (pc := 43) (fr_get fo_64_1 4 rfl) ?_
        refine xv_iald (pc := 44) (fr_get fo_64_1 5 rfl) gk_14 (n := 6) (gn_14 ..) rfl rfl h.1 ?_
        replace h := h.2
        refine xv_cgt (pc := 45) (fr_get fo_64_1 6 rfl) (t := 51) rfl (fun c => ?_) (fun c => ?_)
        · replace h := h.1 c
          refine ex_aload_n (pc := 51) (fr_get fo_64_1 9 rfl) rfl rfl ?_
          refine ex_gr (pc := 52) (fr_get fo_64_1 10 rfl) ow_64 fr_8_12_5 (q := (6, 0)) rfl ?_
          refine xv_gi (pc := 55) (fr_get fo_64_1 11 rfl) ow_64 fg_8_91_6 rfl ?_
          refine ex_bipush (pc := 58) (fr_get fo_64_1 12 rfl) bp_6 ?_
          refine xv_clt (pc := 60) (fr_get fo_64_1 13 rfl) (t := 66) rfl (fun c => ?_) (fun c => ?_)
          · replace h := h.1 c
            refine ex_aload_n (pc := 66) (fr_get fo_64_2 0 rfl) rfl rfl ?_
            refine ex_gr (pc := 67) (fr_get fo_64_2 1 rfl) ow_64 fr_8_12_5 (q := (6, 0)) rfl ?_
            refine ex_gr (pc := 70) (fr_get fo_64_2 2 rfl) ow_64 fr_8_94_6 (q := (14, 0)) rfl ?_
            refine ex_aload_n (pc := 73) (fr_get fo_64_2 3 rfl) rfl rfl ?_
            refine ex_gr (pc := 74) (fr_get fo_64_2 4 rfl) ow_64 fr_8_12_5 (q := (6, 0)) rfl ?_
            refine xv_gi (pc := 77) (fr_get fo_64_2 5 rfl) ow_64 fg_8_91_6 rfl ?_
            refine ex_iload_n (pc := 80) (fr_get fo_64_2 6 rfl) rfl ?_
            refine xv_iast (pc := 81) (fr_get fo_64_2 7 rfl) gs_14 gl_14 rfl h.1 ?_
            replace h := h.2
            refine ex_aload_n (pc := 82) (fr_get fo_64_2 8 rfl) rfl rfl ?_
            refine ex_gr (pc := 83) (fr_get fo_64_2 9 rfl) ow_64 fr_8_12_5 (q := (6, 0)) rfl ?_
            refine ex_gr (pc := 86) (fr_get fo_64_2 10 rfl) ow_64 fr_8_98_6 (q := (15, 0)) rfl ?_
            refine ex_aload_n (pc := 89) (fr_get fo_64_2 11 rfl) rfl rfl ?_
            refine ex_gr (pc := 90) (fr_get fo_64_2 12 rfl) ow_64 fr_8_12_5 (q := (6, 0)) rfl ?_
            refine xv_gi (pc := 93) (fr_get fo_64_2 13 rfl) ow_64 fg_8_91_6 (xv_ug rfl) ?_
            refine ex_iload_n (pc := 96) (fr_get fo_64_2 14 rfl) rfl ?_
            refine xv_iast (pc := 97) (fr_get fo_64_2 15 rfl) gs_15 gl_15 rfl h.1 ?_
            replace h := h.2
            refine ex_aload_n (pc := 98) (fr_get fo_64_3 0 rfl) rfl rfl ?_
            refine ex_gr (pc := 99) (fr_get fo_64_3 1 rfl) ow_64 fr_8_12_5 (q := (6, 0)) rfl ?_
            refine ex_dupr (pc := 102) (fr_get fo_64_3 2 rfl) ?_
            refine xv_gi (pc := 103) (fr_get fo_64_3 3 rfl) ow_64 fg_8_91_6 (Eq.trans (xv_ug rfl) (xv_ug rfl)) ?_
            refine ex_iconst (pc := 106) (fr_get fo_64_3 4 rfl) ic_1 ?_
            refine ex_iadd (pc := 107) (fr_get fo_64_3 5 rfl) ?_
            refine ex_pi (pc := 108) (fr_get fo_64_3 6 rfl) ow_64 fp_8_91_6 ?_
            refine ex_aload_n (pc := 111) (fr_get fo_64_3 7 rfl) rfl rfl ?_
            refine ex_gr (pc := 112) (fr_get fo_64_3 8 rfl) ow_64 fr_8_12_5 (q := (6, 0)) rfl ?_
            refine xv_kv0 (pc := 115) (fr_get fo_64_3 9 rfl) cc_64_101 (as := [.inr (.inr (6, 0))]) (rs := []) rfl rfl rfl rfl rfl ?_
            refine h.mono (fun r J3 p4 h => ⟨h.1, ?_⟩)
            replace h := h.2
            refine ex_aload_n (pc := 118) (fr_get fo_64_3 10 rfl) rfl rfl ?_
            refine ex_gr (pc := 119) (fr_get fo_64_3 11 rfl) ow_64 fr_8_12_5 (q := (6, 0)) rfl ?_
            refine xv_gi (pc := 122) (fr_get fo_64_3 12 rfl) ow_64 fg_8_91_6 rfl ?_
            exact ex_ireturn (pc := 125) (fr_get fo_64_3 13 rfl) rt_64 rfl rfl (ma_end_mk h)
          · replace h := h.2 c
            refine ex_bipush (pc := 63) (fr_get fo_64_1 14 rfl) bp_m4 ?_
            exact ex_ireturn (pc := 65) (fr_get fo_64_1 15 rfl) rt_64 rfl rfl (ma_end_mk h)
        · replace h := h.2 c
          refine ex_bipush (pc := 48) (fr_get fo_64_1 7 rfl) bp_m3 ?_
          exact ex_ireturn (pc := 50) (fr_get fo_64_1 8 rfl) rt_64 rfl rfl (ma_end_mk h)
    · replace h := h.2 c
      refine ex_bipush (pc := 14) (fr_get fo_64_0 6 rfl) bp_m2 ?_
      exact ex_ireturn (pc := 16) (fr_get fo_64_0 7 rfl) rt_64 rfl rfl (ma_end_mk h)

theorem e_65 {d : Nat} {I : ma_I} {o : Nat} {Q : ma_Q} {a1 : Int32} {a2 : Int32} {a3 : Int32}
  (h :
    Exm (d) 66 [.inr (.inr (5, 0)), .inl a1, .inl a2, .inl a3] I o (fun r J1 p2 => ∃ x3 : Int32, r = some (.inl x3) ∧
      Q (some (.inl x3)) J1 p2)) :
  Exm (d + 1) 65 [.inr (.inr (5, 0)), .inl a1, .inl a2, .inl a3] I o Q := by
  show Ex (d + 1) 65 (0, [some (.inr (.inr (5, 0))), some (.inl a1), some (.inl a2), some (.inl a3)], [], ma_mem I o, 0, 0) (ma_end Q)
  refine ex_aload_n (pc := 0) (fr_get fo_65_0 0 rfl) rfl rfl ?_
  refine ex_iload_n (pc := 1) (fr_get fo_65_0 1 rfl) rfl ?_
  refine ex_iload_n (pc := 2) (fr_get fo_65_0 2 rfl) rfl ?_
  refine ex_iload_n (pc := 3) (fr_get fo_65_0 3 rfl) rfl ?_
  refine xv_kv1 (pc := 4) (fr_get fo_65_0 4 rfl) cc_65_104 (as := [.inr (.inr (5, 0)), .inl a1, .inl a2, .inl a3]) (rs := []) rfl rfl rfl rfl rfl ?_
  refine h.mono (fun r J1 p2 h => ?_)
  obtain ⟨x3, hr, h⟩ := h
  refine ⟨x3, hr, ?_⟩
  exact ex_ireturn (pc := 7) (fr_get fo_65_0 5 rfl) rt_65 rfl rfl (ma_end_mk h)

theorem e_66 {d : Nat} {I : ma_I} {o : Nat} {Q : ma_Q} {a1 : Int32} {a2 : Int32} {a3 : Int32}
  (h :
    (¬((0 : Int32) ≤ (a1 / (10 : Int32)) ∧ (a1 / (10 : Int32)) ≤ (5 : Int32)) →
      Q (some (.inl (-2 : Int32))) I o) ∧
    ((0 : Int32) ≤ (a1 / (10 : Int32)) ∧ (a1 / (10 : Int32)) ≤ (5 : Int32) →
      (¬((0 : Int32) ≤ (xv_rm a1 (10 : Int32)) ∧ (xv_rm a1 (10 : Int32)) ≤ (9 : Int32)) →
        Q (some (.inl (-2 : Int32))) I o) ∧
      ((0 : Int32) ≤ (xv_rm a1 (10 : Int32)) ∧ (xv_rm a1 (10 : Int32)) ≤ (9 : Int32) →
        (¬((0 : Int32) ≤ (a2 / (10 : Int32)) ∧ (a2 / (10 : Int32)) ≤ (7 : Int32)) →
          Q (some (.inl (-2 : Int32))) I o) ∧
        ((0 : Int32) ≤ (a2 / (10 : Int32)) ∧ (a2 / (10 : Int32)) ≤ (7 : Int32) →
          (¬((0 : Int32) ≤ (xv_rm a2 (10 : Int32)) ∧ (xv_rm a2 (10 : Int32)) ≤ (7 : Int32)) →
            Q (some (.inl (-2 : Int32))) I o) ∧
          ((0 : Int32) ≤ (xv_rm a2 (10 : Int32)) ∧ (xv_rm a2 (10 : Int32)) ≤ (7 : Int32) →
            (a2 / (10 : Int32) = xv_rm a2 (10 : Int32) →
              Q (some (.inl (-2 : Int32))) I o) ∧
            (a2 / (10 : Int32) ≠ xv_rm a2 (10 : Int32) →
              (¬((0 : Int32) ≤ (a3 / (100 : Int32)) ∧ (a3 / (100 : Int32)) ≤ (99 : Int32)) →
                Q (some (.inl (-2 : Int32))) I o) ∧
              ((0 : Int32) ≤ (a3 / (100 : Int32)) ∧ (a3 / (100 : Int32)) ≤ (99 : Int32) →
                (¬((0 : Int32) ≤ (xv_rm a3 (100 : Int32)) ∧ (xv_rm a3 (100 : Int32)) ≤ (99 : Int32)) →
                  Q (some (.inl (-2 : Int32))) I o) ∧
                ((0 : Int32) ≤ (xv_rm a3 (100 : Int32)) ∧ (xv_rm a3 (100 : Int32)) ≤ (99 : Int32) →
                  (xv_rm a3 (100 : Int32) < a3 / (100 : Int32) →
                    Q (some (.inl (-2 : Int32))) I o) ∧
                  (a3 / (100 : Int32) ≤ xv_rm a3 (100 : Int32) →
                    (I 6 0 4 < (8 : Int32) →
                      ma_in (I 6 0 4) 8 ∧
                      Exm (d + 1) 4 [.inr (.inr (17, (I 6 0 4).toNatClampNeg)), .inl (a1 / (10 : Int32)), .inl (xv_rm a1 (10 : Int32)), .inl (a2 / (10 : Int32)), .inl (xv_rm a2 (10 : Int32)), .inl (a3 / (100 : Int32)), .inl (xv_rm a3 (100 : Int32))] I o (fun r J1 p2 => r = none ∧
                        Exm (d + 1) 16 [.inr (.inr (6, 0)), .inl (I 6 0 4)] J1 p2 (fun r J3 p4 => r = none ∧
                          Q (some (.inl (I 6 0 4))) (ma_up J3 6 0 4 ((J3 6 0 4) + (1 : Int32))) p4))) ∧
                    ((8 : Int32) ≤ I 6 0 4 →
                      Q (some (.inl (-4 : Int32))) I o)))))))))) :
  Exm (d + 2) 66 [.inr (.inr (5, 0)), .inl a1, .inl a2, .inl a3] I o Q := by
  show Ex (d + 2) 66 (0, [some (.inr (.inr (5, 0))), some (.inl a1), some (.inl a2), some (.inl a3), none, none, none, none, none, none, none, none], [], ma_mem I o, 0, 0) (ma_end Q)
  refine ex_iload_n (pc := 0) (fr_get fo_66_0 0 rfl) rfl ?_
  refine ex_bipush (pc := 1) (fr_get fo_66_0 1 rfl) bp_10 ?_
  refine xv_idiv (pc := 3) (fr_get fo_66_0 2 rfl) (by decide) ?_
  refine ex_istore (pc := 4) (fr_get fo_66_0 3 rfl) rfl (L' := [some (.inr (.inr (5, 0))), some (.inl a1), some (.inl a2), some (.inl a3), some (.inl (a1 / (10 : Int32))), none, none, none, none, none, none, none]) rfl ?_
  refine ex_iload_n (pc := 6) (fr_get fo_66_0 4 rfl) rfl ?_
  refine ex_bipush (pc := 7) (fr_get fo_66_0 5 rfl) bp_10 ?_
  refine xv_irem (pc := 9) (fr_get fo_66_0 6 rfl) (by decide) ?_
  refine ex_istore (pc := 10) (fr_get fo_66_0 7 rfl) rfl (L' := [some (.inr (.inr (5, 0))), some (.inl a1), some (.inl a2), some (.inl a3), some (.inl (a1 / (10 : Int32))), some (.inl (xv_rm a1 (10 : Int32))), none, none, none, none, none, none]) rfl ?_
  refine ex_iload_n (pc := 12) (fr_get fo_66_0 8 rfl) rfl ?_
  refine ex_bipush (pc := 13) (fr_get fo_66_0 9 rfl) bp_10 ?_
  refine xv_idiv (pc := 15) (fr_get fo_66_0 10 rfl) (by decide) ?_
  refine ex_istore (pc := 16) (fr_get fo_66_0 11 rfl) rfl (L' := [some (.inr (.inr (5, 0))), some (.inl a1), some (.inl a2), some (.inl a3), some (.inl (a1 / (10 : Int32))), some (.inl (xv_rm a1 (10 : Int32))), some (.inl (a2 / (10 : Int32))), none, none, none, none, none]) rfl ?_
  refine ex_iload_n (pc := 18) (fr_get fo_66_0 12 rfl) rfl ?_
  refine ex_bipush (pc := 19) (fr_get fo_66_0 13 rfl) bp_10 ?_
  refine xv_irem (pc := 21) (fr_get fo_66_0 14 rfl) (by decide) ?_
  refine ex_istore (pc := 22) (fr_get fo_66_0 15 rfl) rfl (L' := [some (.inr (.inr (5, 0))), some (.inl a1), some (.inl a2), some (.inl a3), some (.inl (a1 / (10 : Int32))), some (.inl (xv_rm a1 (10 : Int32))), some (.inl (a2 / (10 : Int32))), some (.inl (xv_rm a2 (10 : Int32))), none, none, none, none]) rfl ?_
  refine ex_iload_n (pc := 24) (fr_get fo_66_1 0 rfl) rfl ?_
  refine ex_bipush (pc := 25) (fr_get fo_66_1 1 rfl) bp_100 ?_
  refine xv_idiv (pc := 27) (fr_get fo_66_1 2 rfl) (by decide) ?_
  refine ex_istore (pc := 28) (fr_get fo_66_1 3 rfl) rfl (L' := [some (.inr (.inr (5, 0))), some (.inl a1), some (.inl a2), some (.inl a3), some (.inl (a1 / (10 : Int32))), some (.inl (xv_rm a1 (10 : Int32))), some (.inl (a2 / (10 : Int32))), some (.inl (xv_rm a2 (10 : Int32))), some (.inl (a3 / (100 : Int32))), none, none, none]) rfl ?_
  refine ex_iload_n (pc := 30) (fr_get fo_66_1 4 rfl) rfl ?_
  refine ex_bipush (pc := 31) (fr_get fo_66_1 5 rfl) bp_100 ?_
  refine xv_irem (pc := 33) (fr_get fo_66_1 6 rfl) (by decide) ?_
  refine ex_istore (pc := 34) (fr_get fo_66_1 7 rfl) rfl (L' := [some (.inr (.inr (5, 0))), some (.inl a1), some (.inl a2), some (.inl a3), some (.inl (a1 / (10 : Int32))), some (.inl (xv_rm a1 (10 : Int32))), some (.inl (a2 / (10 : Int32))), some (.inl (xv_rm a2 (10 : Int32))), some (.inl (a3 / (100 : Int32))), some (.inl (xv_rm a3 (100 : Int32))), none, none]) rfl ?_
  refine ex_iload (pc := 36) (fr_get fo_66_1 8 rfl) rfl ?_
  refine ex_iconst (pc := 38) (fr_get fo_66_1 9 rfl) ic_0 ?_
  refine ex_iconst (pc := 39) (fr_get fo_66_1 10 rfl) ic_5 ?_
  refine xv_ks1 (pc := 40) (fr_get fo_66_1 11 rfl) cc_66_108 (as := [.inl (a1 / (10 : Int32)), .inl (0 : Int32), .inl (5 : Int32)]) (rs := []) rfl rfl rfl rfl ?_
  refine sm_112 ?_
  refine ⟨_, rfl, ?_⟩
  refine xv_peq (pc := 43) (fr_get fo_66_1 12 rfl) (t := 107) rfl (fun c => ?_) (fun c => ?_)
  · replace h := h.1 c
    refine ex_iconst (pc := 107) (fr_get fo_66_3 6 rfl) ic_0 ?_
    refine ex_istore (pc := 108) (fr_get fo_66_3 7 rfl) rfl (L' := [some (.inr (.inr (5, 0))), some (.inl a1), some (.inl a2), some (.inl a3), some (.inl (a1 / (10 : Int32))), some (.inl (xv_rm a1 (10 : Int32))), some (.inl (a2 / (10 : Int32))), some (.inl (xv_rm a2 (10 : Int32))), some (.inl (a3 / (100 : Int32))), some (.inl (xv_rm a3 (100 : Int32))), some (.inl (0 : Int32)), none]) rfl ?_
    refine ex_iload (pc := 110) (fr_get fo_66_3 8 rfl) rfl ?_
    refine xv_bf (pc := 112) (fr_get fo_66_3 9 rfl) (t := 118) rfl k1_ne_0 ?_
    refine ex_bipush (pc := 115) (fr_get fo_66_3 10 rfl) bp_m2 ?_
    exact ex_ireturn (pc := 117) (fr_get fo_66_3 11 rfl) rt_66 rfl rfl (ma_end_mk h)
  · replace h := h.2 c
    refine ex_iload (pc := 46) (fr_get fo_66_1 13 rfl) rfl ?_
    refine ex_iconst (pc := 48) (fr_get fo_66_1 14 rfl) ic_0 ?_
    refine ex_bipush (pc := 49) (fr_get fo_66_1 15 rfl) bp_9 ?_
    refine xv_ks1 (pc := 51) (fr_get fo_66_2 0 rfl) cc_66_108 (as := [.inl (xv_rm a1 (10 : Int32)), .inl (0 : Int32), .inl (9 : Int32)]) (rs := []) rfl rfl rfl rfl ?_
    refine sm_112 ?_
    refine ⟨_, rfl, ?_⟩
    refine xv_peq (pc := 54) (fr_get fo_66_2 1 rfl) (t := 107) rfl (fun c => ?_) (fun c => ?_)
    · replace h := h.1 c
      refine ex_iconst (pc := 107) (fr_get fo_66_3 6 rfl) ic_0 ?_
      refine ex_istore (pc := 108) (fr_get fo_66_3 7 rfl) rfl (L' := [some (.inr (.inr (5, 0))), some (.inl a1), some (.inl a2), some (.inl a3), some (.inl (a1 / (10 : Int32))), some (.inl (xv_rm a1 (10 : Int32))), some (.inl (a2 / (10 : Int32))), some (.inl (xv_rm a2 (10 : Int32))), some (.inl (a3 / (100 : Int32))), some (.inl (xv_rm a3 (100 : Int32))), some (.inl (0 : Int32)), none]) rfl ?_
      refine ex_iload (pc := 110) (fr_get fo_66_3 8 rfl) rfl ?_
      refine xv_bf (pc := 112) (fr_get fo_66_3 9 rfl) (t := 118) rfl k1_ne_0 ?_
      refine ex_bipush (pc := 115) (fr_get fo_66_3 10 rfl) bp_m2 ?_
      exact ex_ireturn (pc := 117) (fr_get fo_66_3 11 rfl) rt_66 rfl rfl (ma_end_mk h)
    · replace h := h.2 c
      refine ex_iload (pc := 57) (fr_get fo_66_2 2 rfl) rfl ?_
      refine xv_ks1 (pc := 59) (fr_get fo_66_2 3 rfl) cc_66_88 (as := [.inl (a2 / (10 : Int32))]) (rs := []) rfl rfl rfl rfl ?_
      refine sm_113 ?_
      refine ⟨_, rfl, ?_⟩
      refine xv_peq (pc := 62) (fr_get fo_66_2 4 rfl) (t := 107) rfl (fun c => ?_) (fun c => ?_)
      · replace h := h.1 c
        refine ex_iconst (pc := 107) (fr_get fo_66_3 6 rfl) ic_0 ?_
        refine ex_istore (pc := 108) (fr_get fo_66_3 7 rfl) rfl (L' := [some (.inr (.inr (5, 0))), some (.inl a1), some (.inl a2), some (.inl a3), some (.inl (a1 / (10 : Int32))), some (.inl (xv_rm a1 (10 : Int32))), some (.inl (a2 / (10 : Int32))), some (.inl (xv_rm a2 (10 : Int32))), some (.inl (a3 / (100 : Int32))), some (.inl (xv_rm a3 (100 : Int32))), some (.inl (0 : Int32)), none]) rfl ?_
        refine ex_iload (pc := 110) (fr_get fo_66_3 8 rfl) rfl ?_
        refine xv_bf (pc := 112) (fr_get fo_66_3 9 rfl) (t := 118) rfl k1_ne_0 ?_
        refine ex_bipush (pc := 115) (fr_get fo_66_3 10 rfl) bp_m2 ?_
        exact ex_ireturn (pc := 117) (fr_get fo_66_3 11 rfl) rt_66 rfl rfl (ma_end_mk h)
      · replace h := h.2 c
        refine ex_iload (pc := 65) (fr_get fo_66_2 5 rfl) rfl ?_
        refine xv_ks1 (pc := 67) (fr_get fo_66_2 6 rfl) cc_66_88 (as := [.inl (xv_rm a2 (10 : Int32))]) (rs := []) rfl rfl rfl rfl ?_
        refine sm_113 ?_
        refine ⟨_, rfl, ?_⟩
        refine xv_peq (pc := 70) (fr_get fo_66_2 7 rfl) (t := 107) rfl (fun c => ?_) (fun c => ?_)
        · replace h := h.1 c
          refine ex_iconst (pc := 107) (fr_get fo_66_3 6 rfl) ic_0 ?_
          refine ex_istore (pc := 108) (fr_get fo_66_3 7 rfl) rfl (L' := [some (.inr (.inr (5, 0))), some (.inl a1), some (.inl a2), some (.inl a3), some (.inl (a1 / (10 : Int32))), some (.inl (xv_rm a1 (10 : Int32))), some (.inl (a2 / (10 : Int32))), some (.inl (xv_rm a2 (10 : Int32))), some (.inl (a3 / (100 : Int32))), some (.inl (xv_rm a3 (100 : Int32))), some (.inl (0 : Int32)), none]) rfl ?_
          refine ex_iload (pc := 110) (fr_get fo_66_3 8 rfl) rfl ?_
          refine xv_bf (pc := 112) (fr_get fo_66_3 9 rfl) (t := 118) rfl k1_ne_0 ?_
          refine ex_bipush (pc := 115) (fr_get fo_66_3 10 rfl) bp_m2 ?_
          exact ex_ireturn (pc := 117) (fr_get fo_66_3 11 rfl) rt_66 rfl rfl (ma_end_mk h)
        · replace h := h.2 c
          refine ex_iload (pc := 73) (fr_get fo_66_2 8 rfl) rfl ?_
          refine ex_iload (pc := 75) (fr_get fo_66_2 9 rfl) rfl ?_
          refine xv_ceq (pc := 77) (fr_get fo_66_2 10 rfl) (t := 107) rfl (fun c => ?_) (fun c => ?_)
          · replace h := h.1 c
            refine ex_iconst (pc := 107) (fr_get fo_66_3 6 rfl) ic_0 ?_
            refine ex_istore (pc := 108) (fr_get fo_66_3 7 rfl) rfl (L' := [some (.inr (.inr (5, 0))), some (.inl a1), some (.inl a2), some (.inl a3), some (.inl (a1 / (10 : Int32))), some (.inl (xv_rm a1 (10 : Int32))), some (.inl (a2 / (10 : Int32))), some (.inl (xv_rm a2 (10 : Int32))), some (.inl (a3 / (100 : Int32))), some (.inl (xv_rm a3 (100 : Int32))), some (.inl (0 : Int32)), none]) rfl ?_
            refine ex_iload (pc := 110) (fr_get fo_66_3 8 rfl) rfl ?_
            refine xv_bf (pc := 112) (fr_get fo_66_3 9 rfl) (t := 118) rfl k1_ne_0 ?_
            refine ex_bipush (pc := 115) (fr_get fo_66_3 10 rfl) bp_m2 ?_
            exact ex_ireturn (pc := 117) (fr_get fo_66_3 11 rfl) rt_66 rfl rfl (ma_end_mk h)
          · replace h := h.2 c
            refine ex_iload (pc := 80) (fr_get fo_66_2 11 rfl) rfl ?_
            refine xv_ks1 (pc := 82) (fr_get fo_66_2 12 rfl) cc_66_84 (as := [.inl (a3 / (100 : Int32))]) (rs := []) rfl rfl rfl rfl ?_
            refine sm_114 ?_
            refine ⟨_, rfl, ?_⟩
            refine xv_peq (pc := 85) (fr_get fo_66_2 13 rfl) (t := 107) rfl (fun c => ?_) (fun c => ?_)
            · replace h := h.1 c
              refine ex_iconst (pc := 107) (fr_get fo_66_3 6 rfl) ic_0 ?_
              refine ex_istore (pc := 108) (fr_get fo_66_3 7 rfl) rfl (L' := [some (.inr (.inr (5, 0))), some (.inl a1), some (.inl a2), some (.inl a3), some (.inl (a1 / (10 : Int32))), some (.inl (xv_rm a1 (10 : Int32))), some (.inl (a2 / (10 : Int32))), some (.inl (xv_rm a2 (10 : Int32))), some (.inl (a3 / (100 : Int32))), some (.inl (xv_rm a3 (100 : Int32))), some (.inl (0 : Int32)), none]) rfl ?_
              refine ex_iload (pc := 110) (fr_get fo_66_3 8 rfl) rfl ?_
              refine xv_bf (pc := 112) (fr_get fo_66_3 9 rfl) (t := 118) rfl k1_ne_0 ?_
              refine ex_bipush (pc := 115) (fr_get fo_66_3 10 rfl) bp_m2 ?_
              exact ex_ireturn (pc := 117) (fr_get fo_66_3 11 rfl) rt_66 rfl rfl (ma_end_mk h)
            · replace h := h.2 c
              refine ex_iload (pc := 88) (fr_get fo_66_2 14 rfl) rfl ?_
              refine xv_ks1 (pc := 90) (fr_get fo_66_2 15 rfl) cc_66_84 (as := [.inl (xv_rm a3 (100 : Int32))]) (rs := []) rfl rfl rfl rfl ?_
              refine sm_114 ?_
              refine ⟨_, rfl, ?_⟩
              refine xv_peq (pc := 93) (fr_get fo_66_3 0 rfl) (t := 107) rfl (fun c => ?_) (fun c => ?_)
              · replace h := h.1 c
                refine ex_iconst (pc := 107) (fr_get fo_66_3 6 rfl) ic_0 ?_
                refine ex_istore (pc := 108) (fr_get fo_66_3 7 rfl) rfl (L' := [some (.inr (.inr (5, 0))), some (.inl a1), some (.inl a2), some (.inl a3), some (.inl (a1 / (10 : Int32))), some (.inl (xv_rm a1 (10 : Int32))), some (.inl (a2 / (10 : Int32))), some (.inl (xv_rm a2 (10 : Int32))), some (.inl (a3 / (100 : Int32))), some (.inl (xv_rm a3 (100 : Int32))), some (.inl (0 : Int32)), none]) rfl ?_
                refine ex_iload (pc := 110) (fr_get fo_66_3 8 rfl) rfl ?_
                refine xv_bf (pc := 112) (fr_get fo_66_3 9 rfl) (t := 118) rfl k1_ne_0 ?_
                refine ex_bipush (pc := 115) (fr_get fo_66_3 10 rfl) bp_m2 ?_
                exact ex_ireturn (pc := 117) (fr_get fo_66_3 11 rfl) rt_66 rfl rfl (ma_end_mk h)
              · replace h := h.2 c
                refine ex_iload (pc := 96) (fr_get fo_66_3 1 rfl) rfl ?_
                refine ex_iload (pc := 98) (fr_get fo_66_3 2 rfl) rfl ?_
                refine xv_cgt (pc := 100) (fr_get fo_66_3 3 rfl) (t := 107) rfl (fun c => ?_) (fun c => ?_)
                · replace h := h.1 c
                  refine ex_iconst (pc := 107) (fr_get fo_66_3 6 rfl) ic_0 ?_
                  refine ex_istore (pc := 108) (fr_get fo_66_3 7 rfl) rfl (L' := [some (.inr (.inr (5, 0))), some (.inl a1), some (.inl a2), some (.inl a3), some (.inl (a1 / (10 : Int32))), some (.inl (xv_rm a1 (10 : Int32))), some (.inl (a2 / (10 : Int32))), some (.inl (xv_rm a2 (10 : Int32))), some (.inl (a3 / (100 : Int32))), some (.inl (xv_rm a3 (100 : Int32))), some (.inl (0 : Int32)), none]) rfl ?_
                  refine ex_iload (pc := 110) (fr_get fo_66_3 8 rfl) rfl ?_
                  refine xv_bf (pc := 112) (fr_get fo_66_3 9 rfl) (t := 118) rfl k1_ne_0 ?_
                  refine ex_bipush (pc := 115) (fr_get fo_66_3 10 rfl) bp_m2 ?_
                  exact ex_ireturn (pc := 117) (fr_get fo_66_3 11 rfl) rt_66 rfl rfl (ma_end_mk h)
                · replace h := h.2 c
                  refine ex_iconst (pc := 103) (fr_get fo_66_3 4 rfl) ic_1 ?_
                  refine ex_goto (pc := 104) (fr_get fo_66_3 5 rfl) (t := 108) rfl ?_
                  refine ex_istore (pc := 108) (fr_get fo_66_3 7 rfl) rfl (L' := [some (.inr (.inr (5, 0))), some (.inl a1), some (.inl a2), some (.inl a3), some (.inl (a1 / (10 : Int32))), some (.inl (xv_rm a1 (10 : Int32))), some (.inl (a2 / (10 : Int32))), some (.inl (xv_rm a2 (10 : Int32))), some (.inl (a3 / (100 : Int32))), some (.inl (xv_rm a3 (100 : Int32))), some (.inl (1 : Int32)), none]) rfl ?_
                  refine ex_iload (pc := 110) (fr_get fo_66_3 8 rfl) rfl ?_
                  refine xv_bt (pc := 112) (fr_get fo_66_3 9 rfl) (t := 118) rfl k1_ne_1 ?_
                  refine ex_aload_n (pc := 118) (fr_get fo_66_3 12 rfl) rfl rfl ?_
                  refine ex_gr (pc := 119) (fr_get fo_66_3 13 rfl) ow_66 fr_8_12_5 (q := (6, 0)) rfl ?_
                  refine xv_gi (pc := 122) (fr_get fo_66_3 14 rfl) ow_66 fg_8_112_6 rfl ?_
                  refine ex_bipush (pc := 125) (fr_get fo_66_3 15 rfl) bp_8 ?_
                  refine xv_clt (pc := 127) (fr_get fo_66_4 0 rfl) (t := 133) rfl (fun c => ?_) (fun c => ?_)
                  · replace h := h.1 c
                    refine ex_aload_n (pc := 133) (fr_get fo_66_4 3 rfl) rfl rfl ?_
                    refine ex_gr (pc := 134) (fr_get fo_66_4 4 rfl) ow_66 fr_8_12_5 (q := (6, 0)) rfl ?_
                    refine xv_gi (pc := 137) (fr_get fo_66_4 5 rfl) ow_66 fg_8_112_6 rfl ?_
                    refine ex_istore (pc := 140) (fr_get fo_66_4 6 rfl) rfl (L' := [some (.inr (.inr (5, 0))), some (.inl a1), some (.inl a2), some (.inl a3), some (.inl (a1 / (10 : Int32))), some (.inl (xv_rm a1 (10 : Int32))), some (.inl (a2 / (10 : Int32))), some (.inl (xv_rm a2 (10 : Int32))), some (.inl (a3 / (100 : Int32))), some (.inl (xv_rm a3 (100 : Int32))), some (.inl (1 : Int32)), some (.inl (I 6 0 4))]) rfl ?_
                    refine ex_aload_n (pc := 142) (fr_get fo_66_4 7 rfl) rfl rfl ?_
                    refine ex_gr (pc := 143) (fr_get fo_66_4 8 rfl) ow_66 fr_8_12_5 (q := (6, 0)) rfl ?_
                    refine ex_gr (pc := 146) (fr_get fo_66_4 9 rfl) ow_66 fr_8_115_6 (q := (16, 0)) rfl ?_
                    refine ex_iload (pc := 149) (fr_get fo_66_4 10 rfl) rfl ?_
                    refine xv_aald (pc := 151) (fr_get fo_66_4 11 rfl) ga_16 gl_16 (q := (17, (I 6 0 4).toNatClampNeg)) rfl rfl h.1 ?_
                    replace h := h.2
                    refine ex_iload (pc := 152) (fr_get fo_66_4 12 rfl) rfl ?_
                    refine ex_iload (pc := 154) (fr_get fo_66_4 13 rfl) rfl ?_
                    refine ex_iload (pc := 156) (fr_get fo_66_4 14 rfl) rfl ?_
                    refine ex_iload (pc := 158) (fr_get fo_66_4 15 rfl) rfl ?_
                    refine ex_iload (pc := 160) (fr_get fo_66_5 0 rfl) rfl ?_
                    refine ex_iload (pc := 162) (fr_get fo_66_5 1 rfl) rfl ?_
                    refine xv_kv0 (pc := 164) (fr_get fo_66_5 2 rfl) cc_66_119 (as := [.inr (.inr (17, (I 6 0 4).toNatClampNeg)), .inl (a1 / (10 : Int32)), .inl (xv_rm a1 (10 : Int32)), .inl (a2 / (10 : Int32)), .inl (xv_rm a2 (10 : Int32)), .inl (a3 / (100 : Int32)), .inl (xv_rm a3 (100 : Int32))]) (rs := []) rfl rfl rfl rfl rfl ?_
                    refine h.mono (fun r J1 p2 h => ⟨h.1, ?_⟩)
                    replace h := h.2
                    refine ex_aload_n (pc := 167) (fr_get fo_66_5 3 rfl) rfl rfl ?_
                    refine ex_gr (pc := 168) (fr_get fo_66_5 4 rfl) ow_66 fr_8_12_5 (q := (6, 0)) rfl ?_
                    refine ex_iload (pc := 171) (fr_get fo_66_5 5 rfl) rfl ?_
                    refine xv_kv0 (pc := 173) (fr_get fo_66_5 6 rfl) cc_66_125 (as := [.inr (.inr (6, 0)), .inl (I 6 0 4)]) (rs := []) rfl rfl rfl rfl rfl ?_
                    refine h.mono (fun r J3 p4 h => ⟨h.1, ?_⟩)
                    replace h := h.2
                    refine ex_aload_n (pc := 176) (fr_get fo_66_5 7 rfl) rfl rfl ?_
                    refine ex_gr (pc := 177) (fr_get fo_66_5 8 rfl) ow_66 fr_8_12_5 (q := (6, 0)) rfl ?_
                    refine ex_dupr (pc := 180) (fr_get fo_66_5 9 rfl) ?_
                    refine xv_gi (pc := 181) (fr_get fo_66_5 10 rfl) ow_66 fg_8_112_6 rfl ?_
                    refine ex_iconst (pc := 184) (fr_get fo_66_5 11 rfl) ic_1 ?_
                    refine ex_iadd (pc := 185) (fr_get fo_66_5 12 rfl) ?_
                    refine ex_pi (pc := 186) (fr_get fo_66_5 13 rfl) ow_66 fp_8_112_6 ?_
                    refine ex_iload (pc := 189) (fr_get fo_66_5 14 rfl) rfl ?_
                    exact ex_ireturn (pc := 191) (fr_get fo_66_5 15 rfl) rt_66 rfl rfl (ma_end_mk h)
                  · replace h := h.2 c
                    refine ex_bipush (pc := 130) (fr_get fo_66_4 1 rfl) bp_m4 ?_
                    exact ex_ireturn (pc := 132) (fr_get fo_66_4 2 rfl) rt_66 rfl rfl (ma_end_mk h)

theorem e_67 {d : Nat} {I : ma_I} {o : Nat} {Q : ma_Q} {a1 : Int32} {a2 : Int32} {a3 : Int32}
  (h :
    (a1 ≠ 0 →
      (a1 ≠ (6 : Int32) →
        (¬((1 : Int32) ≤ a1 ∧ a1 ≤ (5 : Int32)) →
          Q (some (.inl (-100 : Int32))) I o) ∧
        ((1 : Int32) ≤ a1 ∧ a1 ≤ (5 : Int32) →
          (¬((0 : Int32) ≤ a2 ∧ a2 ≤ ((I 6 0 4) - 1)) →
            Q (some (.inl (-100 : Int32))) I o) ∧
          ((0 : Int32) ≤ a2 ∧ a2 ≤ ((I 6 0 4) - 1) →
            ma_in a2 8 ∧
            Exm (d + 1) 7 [.inr (.inr (17, a2.toNatClampNeg)), .inl a1, .inl a3] I o (fun r J1 p2 => ∃ x3 : Int32, r = some (.inl x3) ∧
              (x3 ≠ 0 →
                ma_in a2 8 ∧
                Exm (d + 1) 6 [.inr (.inr (17, a2.toNatClampNeg)), .inl a1] J1 p2 (fun r J4 p5 => ∃ x6 : Int32, r = some (.inl x6) ∧
                  Exm (d + 1) 17 [.inr (.inr (6, 0)), .inl a2] J4 p5 (fun r J7 p8 => r = none ∧
                    ma_in a2 8 ∧
                    Exm (d + 1) 8 [.inr (.inr (17, a2.toNatClampNeg)), .inl a1, .inl a3] J7 p8 (fun r J9 p10 => r = none ∧
                      Exm (d + 1) 16 [.inr (.inr (6, 0)), .inl a2] J9 p10 (fun r J11 p12 => r = none ∧
                        Q (some (.inl x6)) J11 p12))))) ∧
              (x3 = 0 →
                Q (some (.inl (-100 : Int32))) J1 p2))))) ∧
      (a1 = (6 : Int32) →
        Exm (d + 1) 68 [.inr (.inr (5, 0)), .inl a2, .inl a3] I o (fun r J13 p14 => ∃ x15 : Int32, r = some (.inl x15) ∧
          Q (some (.inl x15)) J13 p14))) ∧
    (a1 = 0 →
      ((1 : Int32) ≤ a3 ∧ a3 ≤ (20 : Int32) →
        Q (some (.inl (I 6 0 0))) (ma_up I 6 0 0 a3) o) ∧
      (¬((1 : Int32) ≤ a3 ∧ a3 ≤ (20 : Int32)) →
        Q (some (.inl (-100 : Int32))) I o))) :
  Exm (d + 2) 67 [.inr (.inr (5, 0)), .inl a1, .inl a2, .inl a3] I o Q := by
  show Ex (d + 2) 67 (0, [some (.inr (.inr (5, 0))), some (.inl a1), some (.inl a2), some (.inl a3), none], [], ma_mem I o, 0, 0) (ma_end Q)
  refine ex_iload_n (pc := 0) (fr_get fo_67_0 0 rfl) rfl ?_
  refine xv_bne (pc := 1) (fr_get fo_67_0 1 rfl) (t := 37) rfl (fun c => ?_) (fun c => ?_)
  · replace h := h.1 c
    refine ex_iload_n (pc := 37) (fr_get fo_67_1 3 rfl) rfl ?_
    refine ex_bipush (pc := 38) (fr_get fo_67_1 4 rfl) bp_6 ?_
    refine xv_cne (pc := 40) (fr_get fo_67_1 5 rfl) (t := 50) rfl (fun c => ?_) (fun c => ?_)
    · replace h := h.1 c
      refine ex_iload_n (pc := 50) (fr_get fo_67_1 11 rfl) rfl ?_
      refine ex_iconst (pc := 51) (fr_get fo_67_1 12 rfl) ic_1 ?_
      refine ex_iconst (pc := 52) (fr_get fo_67_1 13 rfl) ic_5 ?_
      refine xv_ks1 (pc := 53) (fr_get fo_67_1 14 rfl) cc_67_108 (as := [.inl a1, .inl (1 : Int32), .inl (5 : Int32)]) (rs := []) rfl rfl rfl rfl ?_
      refine sm_112 ?_
      refine ⟨_, rfl, ?_⟩
      refine xv_peq (pc := 56) (fr_get fo_67_1 15 rfl) (t := 84) rfl (fun c => ?_) (fun c => ?_)
      · replace h := h.1 c
        refine ex_bipush (pc := 84) (fr_get fo_67_2 13 rfl) bp_m100 ?_
        exact ex_ireturn (pc := 86) (fr_get fo_67_2 14 rfl) rt_67 rfl rfl (ma_end_mk h)
      · replace h := h.2 c
        refine ex_aload_n (pc := 59) (fr_get fo_67_2 0 rfl) rfl rfl ?_
        refine ex_iload_n (pc := 60) (fr_get fo_67_2 1 rfl) rfl ?_
        refine xv_kv1 (pc := 61) (fr_get fo_67_2 2 rfl) cc_67_135 (as := [.inr (.inr (5, 0)), .inl a2]) (rs := []) rfl rfl rfl rfl rfl ?_
        refine sm_116 rfl ?_
        refine ⟨_, rfl, ?_⟩
        refine xv_peq (pc := 64) (fr_get fo_67_2 3 rfl) (t := 84) rfl (fun c => ?_) (fun c => ?_)
        · replace h := h.1 c
          refine ex_bipush (pc := 84) (fr_get fo_67_2 13 rfl) bp_m100 ?_
          exact ex_ireturn (pc := 86) (fr_get fo_67_2 14 rfl) rt_67 rfl rfl (ma_end_mk h)
        · replace h := h.2 c
          refine ex_aload_n (pc := 67) (fr_get fo_67_2 4 rfl) rfl rfl ?_
          refine ex_gr (pc := 68) (fr_get fo_67_2 5 rfl) ow_67 fr_8_12_5 (q := (6, 0)) rfl ?_
          refine ex_gr (pc := 71) (fr_get fo_67_2 6 rfl) ow_67 fr_8_115_6 (q := (16, 0)) rfl ?_
          refine ex_iload_n (pc := 74) (fr_get fo_67_2 7 rfl) rfl ?_
          refine xv_aald (pc := 75) (fr_get fo_67_2 8 rfl) ga_16 gl_16 (q := (17, a2.toNatClampNeg)) rfl rfl h.1 ?_
          replace h := h.2
          refine ex_iload_n (pc := 76) (fr_get fo_67_2 9 rfl) rfl ?_
          refine ex_iload_n (pc := 77) (fr_get fo_67_2 10 rfl) rfl ?_
          refine xv_kv1 (pc := 78) (fr_get fo_67_2 11 rfl) cc_67_138 (as := [.inr (.inr (17, a2.toNatClampNeg)), .inl a1, .inl a3]) (rs := []) rfl rfl rfl rfl rfl ?_
          refine h.mono (fun r J1 p2 h => ?_)
          obtain ⟨x3, hr, h⟩ := h
          refine ⟨x3, hr, ?_⟩
          refine xv_bne (pc := 81) (fr_get fo_67_2 12 rfl) (t := 87) rfl (fun c => ?_) (fun c => ?_)
          · replace h := h.1 c
            refine ex_aload_n (pc := 87) (fr_get fo_67_2 15 rfl) rfl rfl ?_
            refine ex_gr (pc := 88) (fr_get fo_67_3 0 rfl) ow_67 fr_8_12_5 (q := (6, 0)) rfl ?_
            refine ex_gr (pc := 91) (fr_get fo_67_3 1 rfl) ow_67 fr_8_115_6 (q := (16, 0)) rfl ?_
            refine ex_iload_n (pc := 94) (fr_get fo_67_3 2 rfl) rfl ?_
            refine xv_aald (pc := 95) (fr_get fo_67_3 3 rfl) ga_16 gl_16 (q := (17, a2.toNatClampNeg)) rfl rfl h.1 ?_
            replace h := h.2
            refine ex_iload_n (pc := 96) (fr_get fo_67_3 4 rfl) rfl ?_
            refine xv_kv1 (pc := 97) (fr_get fo_67_3 5 rfl) cc_67_142 (as := [.inr (.inr (17, a2.toNatClampNeg)), .inl a1]) (rs := []) rfl rfl rfl rfl rfl ?_
            refine h.mono (fun r J4 p5 h => ?_)
            obtain ⟨x6, hr, h⟩ := h
            refine ⟨x6, hr, ?_⟩
            refine ex_istore (pc := 100) (fr_get fo_67_3 6 rfl) rfl (L' := [some (.inr (.inr (5, 0))), some (.inl a1), some (.inl a2), some (.inl a3), some (.inl x6)]) rfl ?_
            refine ex_aload_n (pc := 102) (fr_get fo_67_3 7 rfl) rfl rfl ?_
            refine ex_gr (pc := 103) (fr_get fo_67_3 8 rfl) ow_67 fr_8_12_5 (q := (6, 0)) rfl ?_
            refine ex_iload_n (pc := 106) (fr_get fo_67_3 9 rfl) rfl ?_
            refine xv_kv0 (pc := 107) (fr_get fo_67_3 10 rfl) cc_67_146 (as := [.inr (.inr (6, 0)), .inl a2]) (rs := []) rfl rfl rfl rfl rfl ?_
            refine h.mono (fun r J7 p8 h => ⟨h.1, ?_⟩)
            replace h := h.2
            refine ex_aload_n (pc := 110) (fr_get fo_67_3 11 rfl) rfl rfl ?_
            refine ex_gr (pc := 111) (fr_get fo_67_3 12 rfl) ow_67 fr_8_12_5 (q := (6, 0)) rfl ?_
            refine ex_gr (pc := 114) (fr_get fo_67_3 13 rfl) ow_67 fr_8_115_6 (q := (16, 0)) rfl ?_
            refine ex_iload_n (pc := 117) (fr_get fo_67_3 14 rfl) rfl ?_
            refine xv_aald (pc := 118) (fr_get fo_67_3 15 rfl) ga_16 gl_16 (q := (17, a2.toNatClampNeg)) rfl rfl h.1 ?_
            replace h := h.2
            refine ex_iload_n (pc := 119) (fr_get fo_67_4 0 rfl) rfl ?_
            refine ex_iload_n (pc := 120) (fr_get fo_67_4 1 rfl) rfl ?_
            refine xv_kv0 (pc := 121) (fr_get fo_67_4 2 rfl) cc_67_149 (as := [.inr (.inr (17, a2.toNatClampNeg)), .inl a1, .inl a3]) (rs := []) rfl rfl rfl rfl rfl ?_
            refine h.mono (fun r J9 p10 h => ⟨h.1, ?_⟩)
            replace h := h.2
            refine ex_aload_n (pc := 124) (fr_get fo_67_4 3 rfl) rfl rfl ?_
            refine ex_gr (pc := 125) (fr_get fo_67_4 4 rfl) ow_67 fr_8_12_5 (q := (6, 0)) rfl ?_
            refine ex_iload_n (pc := 128) (fr_get fo_67_4 5 rfl) rfl ?_
            refine xv_kv0 (pc := 129) (fr_get fo_67_4 6 rfl) cc_67_125 (as := [.inr (.inr (6, 0)), .inl a2]) (rs := []) rfl rfl rfl rfl rfl ?_
            refine h.mono (fun r J11 p12 h => ⟨h.1, ?_⟩)
            replace h := h.2
            refine ex_iload (pc := 132) (fr_get fo_67_4 7 rfl) rfl ?_
            exact ex_ireturn (pc := 134) (fr_get fo_67_4 8 rfl) rt_67 rfl rfl (ma_end_mk h)
          · replace h := h.2 c
            refine ex_bipush (pc := 84) (fr_get fo_67_2 13 rfl) bp_m100 ?_
            exact ex_ireturn (pc := 86) (fr_get fo_67_2 14 rfl) rt_67 rfl rfl (ma_end_mk h)
    · replace h := h.2 c
      refine ex_aload_n (pc := 43) (fr_get fo_67_1 6 rfl) rfl rfl ?_
      refine ex_iload_n (pc := 44) (fr_get fo_67_1 7 rfl) rfl ?_
      refine ex_iload_n (pc := 45) (fr_get fo_67_1 8 rfl) rfl ?_
      refine xv_kv1 (pc := 46) (fr_get fo_67_1 9 rfl) cc_67_131 (as := [.inr (.inr (5, 0)), .inl a2, .inl a3]) (rs := []) rfl rfl rfl rfl rfl ?_
      refine h.mono (fun r J13 p14 h => ?_)
      obtain ⟨x15, hr, h⟩ := h
      refine ⟨x15, hr, ?_⟩
      exact ex_ireturn (pc := 49) (fr_get fo_67_1 10 rfl) rt_67 rfl rfl (ma_end_mk h)
  · replace h := h.2 c
    refine ex_iload_n (pc := 4) (fr_get fo_67_0 2 rfl) rfl ?_
    refine ex_iconst (pc := 5) (fr_get fo_67_0 3 rfl) ic_1 ?_
    refine ex_bipush (pc := 6) (fr_get fo_67_0 4 rfl) bp_20 ?_
    refine xv_ks1 (pc := 8) (fr_get fo_67_0 5 rfl) cc_67_108 (as := [.inl a3, .inl (1 : Int32), .inl (20 : Int32)]) (rs := []) rfl rfl rfl rfl ?_
    refine sm_112 ?_
    refine ⟨_, rfl, ?_⟩
    refine xv_pne (pc := 11) (fr_get fo_67_0 6 rfl) (t := 17) rfl (fun c => ?_) (fun c => ?_)
    · replace h := h.1 c
      refine ex_aload_n (pc := 17) (fr_get fo_67_0 9 rfl) rfl rfl ?_
      refine ex_gr (pc := 18) (fr_get fo_67_0 10 rfl) ow_67 fr_8_12_5 (q := (6, 0)) rfl ?_
      refine xv_gi (pc := 21) (fr_get fo_67_0 11 rfl) ow_67 fg_8_128_6 rfl ?_
      refine ex_istore (pc := 24) (fr_get fo_67_0 12 rfl) rfl (L' := [some (.inr (.inr (5, 0))), some (.inl a1), some (.inl a2), some (.inl a3), some (.inl (I 6 0 0))]) rfl ?_
      refine ex_aload_n (pc := 26) (fr_get fo_67_0 13 rfl) rfl rfl ?_
      refine ex_gr (pc := 27) (fr_get fo_67_0 14 rfl) ow_67 fr_8_12_5 (q := (6, 0)) rfl ?_
      refine ex_iload_n (pc := 30) (fr_get fo_67_0 15 rfl) rfl ?_
      refine ex_pi (pc := 31) (fr_get fo_67_1 0 rfl) ow_67 fp_8_128_6 ?_
      refine ex_iload (pc := 34) (fr_get fo_67_1 1 rfl) rfl ?_
      exact ex_ireturn (pc := 36) (fr_get fo_67_1 2 rfl) rt_67 rfl rfl (ma_end_mk h)
    · replace h := h.2 c
      refine ex_bipush (pc := 14) (fr_get fo_67_0 7 rfl) bp_m100 ?_
      exact ex_ireturn (pc := 16) (fr_get fo_67_0 8 rfl) rt_67 rfl rfl (ma_end_mk h)

theorem e_68 {d : Nat} {I : ma_I} {o : Nat} {Q : ma_Q} {a1 : Int32} {a2 : Int32}
  (h :
    (¬((0 : Int32) ≤ a1 ∧ a1 ≤ ((I 6 0 1) - 1)) →
      Q (some (.inl (-100 : Int32))) I o) ∧
    ((0 : Int32) ≤ a1 ∧ a1 ≤ ((I 6 0 1) - 1) →
      ((0 : Int32) ≤ a2 ∧ a2 ≤ (7 : Int32) →
        ma_in a1 6 ∧
        ma_in a1 6 ∧
        Exm (d + 1) 13 [.inr (.inr (6, 0))] (ma_up I 15 0 a1.toNatClampNeg a2) o (fun r J1 p2 => r = none ∧
          Q (some (.inl (I 15 0 a1.toNatClampNeg))) J1 p2)) ∧
      (¬((0 : Int32) ≤ a2 ∧ a2 ≤ (7 : Int32)) →
        Q (some (.inl (-100 : Int32))) I o))) :
  Exm (d + 2) 68 [.inr (.inr (5, 0)), .inl a1, .inl a2] I o Q := by
  show Ex (d + 2) 68 (0, [some (.inr (.inr (5, 0))), some (.inl a1), some (.inl a2), none], [], ma_mem I o, 0, 0) (ma_end Q)
  refine ex_aload_n (pc := 0) (fr_get fo_68_0 0 rfl) rfl rfl ?_
  refine ex_iload_n (pc := 1) (fr_get fo_68_0 1 rfl) rfl ?_
  refine xv_kv1 (pc := 2) (fr_get fo_68_0 2 rfl) cc_68_153 (as := [.inr (.inr (5, 0)), .inl a1]) (rs := []) rfl rfl rfl rfl rfl ?_
  refine sm_117 rfl ?_
  refine ⟨_, rfl, ?_⟩
  refine xv_peq (pc := 5) (fr_get fo_68_0 3 rfl) (t := 15) rfl (fun c => ?_) (fun c => ?_)
  · replace h := h.1 c
    refine ex_bipush (pc := 15) (fr_get fo_68_0 7 rfl) bp_m100 ?_
    exact ex_ireturn (pc := 17) (fr_get fo_68_0 8 rfl) rt_68 rfl rfl (ma_end_mk h)
  · replace h := h.2 c
    refine ex_iload_n (pc := 8) (fr_get fo_68_0 4 rfl) rfl ?_
    refine xv_ks1 (pc := 9) (fr_get fo_68_0 5 rfl) cc_68_88 (as := [.inl a2]) (rs := []) rfl rfl rfl rfl ?_
    refine sm_113 ?_
    refine ⟨_, rfl, ?_⟩
    refine xv_pne (pc := 12) (fr_get fo_68_0 6 rfl) (t := 18) rfl (fun c => ?_) (fun c => ?_)
    · replace h := h.1 c
      refine ex_aload_n (pc := 18) (fr_get fo_68_0 9 rfl) rfl rfl ?_
      refine ex_gr (pc := 19) (fr_get fo_68_0 10 rfl) ow_68 fr_8_12_5 (q := (6, 0)) rfl ?_
      refine ex_gr (pc := 22) (fr_get fo_68_0 11 rfl) ow_68 fr_8_98_6 (q := (15, 0)) rfl ?_
      refine ex_iload_n (pc := 25) (fr_get fo_68_0 12 rfl) rfl ?_
      refine xv_iald (pc := 26) (fr_get fo_68_0 13 rfl) gk_15 (n := 6) (gn_15 ..) rfl rfl h.1 ?_
      replace h := h.2
      refine ex_istore_n (pc := 27) (fr_get fo_68_0 14 rfl) rfl (L' := [some (.inr (.inr (5, 0))), some (.inl a1), some (.inl a2), some (.inl (I 15 0 a1.toNatClampNeg))]) rfl ?_
      refine ex_aload_n (pc := 28) (fr_get fo_68_0 15 rfl) rfl rfl ?_
      refine ex_gr (pc := 29) (fr_get fo_68_1 0 rfl) ow_68 fr_8_12_5 (q := (6, 0)) rfl ?_
      refine ex_gr (pc := 32) (fr_get fo_68_1 1 rfl) ow_68 fr_8_98_6 (q := (15, 0)) rfl ?_
      refine ex_iload_n (pc := 35) (fr_get fo_68_1 2 rfl) rfl ?_
      refine ex_iload_n (pc := 36) (fr_get fo_68_1 3 rfl) rfl ?_
      refine xv_iast (pc := 37) (fr_get fo_68_1 4 rfl) gs_15 gl_15 rfl h.1 ?_
      replace h := h.2
      refine ex_aload_n (pc := 38) (fr_get fo_68_1 5 rfl) rfl rfl ?_
      refine ex_gr (pc := 39) (fr_get fo_68_1 6 rfl) ow_68 fr_8_12_5 (q := (6, 0)) rfl ?_
      refine xv_kv0 (pc := 42) (fr_get fo_68_1 7 rfl) cc_68_101 (as := [.inr (.inr (6, 0))]) (rs := []) rfl rfl rfl rfl rfl ?_
      refine h.mono (fun r J1 p2 h => ⟨h.1, ?_⟩)
      replace h := h.2
      refine ex_iload_n (pc := 45) (fr_get fo_68_1 8 rfl) rfl ?_
      exact ex_ireturn (pc := 46) (fr_get fo_68_1 9 rfl) rt_68 rfl rfl (ma_end_mk h)
    · replace h := h.2 c
      refine ex_bipush (pc := 15) (fr_get fo_68_0 7 rfl) bp_m100 ?_
      exact ex_ireturn (pc := 17) (fr_get fo_68_0 8 rfl) rt_68 rfl rfl (ma_end_mk h)

theorem e_69 {d : Nat} {I : ma_I} {o : Nat} {Q : ma_Q} {a1 : Int32} {a2 : Int32}
  (h :
    (a2 ≠ 0 →
      (a2 = (6 : Int32) →
        ((0 : Int32) ≤ a1 ∧ a1 ≤ ((I 6 0 1) - 1) →
          (a2 ≠ (6 : Int32) →
            ma_in a1 6 ∧
            Q (some (.inl (I 14 0 a1.toNatClampNeg))) I o) ∧
          (a2 = (6 : Int32) →
            ma_in a1 6 ∧
            Q (some (.inl (I 15 0 a1.toNatClampNeg))) I o)) ∧
        (¬((0 : Int32) ≤ a1 ∧ a1 ≤ ((I 6 0 1) - 1)) →
          Q (some (.inl (-100 : Int32))) I o)) ∧
      (a2 ≠ (6 : Int32) →
        (a2 ≠ (8 : Int32) →
          (¬((1 : Int32) ≤ a2 ∧ a2 ≤ (7 : Int32)) →
            Q (some (.inl (-100 : Int32))) I o) ∧
          ((1 : Int32) ≤ a2 ∧ a2 ≤ (7 : Int32) →
            ((0 : Int32) ≤ a1 ∧ a1 ≤ ((I 6 0 4) - 1) →
              ma_in a1 8 ∧
              Exm (d + 1) 6 [.inr (.inr (17, a1.toNatClampNeg)), .inl a2] I o (fun r J1 p2 => ∃ x3 : Int32, r = some (.inl x3) ∧
                Q (some (.inl x3)) J1 p2)) ∧
            (¬((0 : Int32) ≤ a1 ∧ a1 ≤ ((I 6 0 4) - 1)) →
              Q (some (.inl (-100 : Int32))) I o))) ∧
        (a2 = (8 : Int32) →
          ((0 : Int32) ≤ a1 ∧ a1 ≤ ((I 6 0 1) - 1) →
            (a2 ≠ (6 : Int32) →
              ma_in a1 6 ∧
              Q (some (.inl (I 14 0 a1.toNatClampNeg))) I o) ∧
            (a2 = (6 : Int32) →
              ma_in a1 6 ∧
              Q (some (.inl (I 15 0 a1.toNatClampNeg))) I o)) ∧
          (¬((0 : Int32) ≤ a1 ∧ a1 ≤ ((I 6 0 1) - 1)) →
            Q (some (.inl (-100 : Int32))) I o)))) ∧
    (a2 = 0 →
      Q (some (.inl (I 6 0 0))) I o)) :
  Exm (d + 2) 69 [.inr (.inr (5, 0)), .inl a1, .inl a2] I o Q := by
  show Ex (d + 2) 69 (0, [some (.inr (.inr (5, 0))), some (.inl a1), some (.inl a2)], [], ma_mem I o, 0, 0) (ma_end Q)
  refine ex_iload_n (pc := 0) (fr_get fo_69_0 0 rfl) rfl ?_
  refine xv_bne (pc := 1) (fr_get fo_69_0 1 rfl) (t := 12) rfl (fun c => ?_) (fun c => ?_)
  · replace h := h.1 c
    refine ex_iload_n (pc := 12) (fr_get fo_69_0 6 rfl) rfl ?_
    refine ex_bipush (pc := 13) (fr_get fo_69_0 7 rfl) bp_6 ?_
    refine xv_ceq (pc := 15) (fr_get fo_69_0 8 rfl) (t := 24) rfl (fun c => ?_) (fun c => ?_)
    · replace h := h.1 c
      refine ex_aload_n (pc := 24) (fr_get fo_69_0 12 rfl) rfl rfl ?_
      refine ex_iload_n (pc := 25) (fr_get fo_69_0 13 rfl) rfl ?_
      refine xv_kv1 (pc := 26) (fr_get fo_69_0 14 rfl) cc_69_153 (as := [.inr (.inr (5, 0)), .inl a1]) (rs := []) rfl rfl rfl rfl rfl ?_
      refine sm_117 rfl ?_
      refine ⟨_, rfl, ?_⟩
      refine xv_pne (pc := 29) (fr_get fo_69_0 15 rfl) (t := 35) rfl (fun c => ?_) (fun c => ?_)
      · replace h := h.1 c
        refine ex_iload_n (pc := 35) (fr_get fo_69_1 2 rfl) rfl ?_
        refine ex_bipush (pc := 36) (fr_get fo_69_1 3 rfl) bp_6 ?_
        refine xv_cne (pc := 38) (fr_get fo_69_1 4 rfl) (t := 53) rfl (fun c => ?_) (fun c => ?_)
        · replace h := h.1 c
          refine ex_aload_n (pc := 53) (fr_get fo_69_1 11 rfl) rfl rfl ?_
          refine ex_gr (pc := 54) (fr_get fo_69_1 12 rfl) ow_69 fr_8_12_5 (q := (6, 0)) rfl ?_
          refine ex_gr (pc := 57) (fr_get fo_69_1 13 rfl) ow_69 fr_8_94_6 (q := (14, 0)) rfl ?_
          refine ex_iload_n (pc := 60) (fr_get fo_69_1 14 rfl) rfl ?_
          refine xv_iald (pc := 61) (fr_get fo_69_1 15 rfl) gk_14 (n := 6) (gn_14 ..) rfl rfl h.1 ?_
          replace h := h.2
          exact ex_ireturn (pc := 62) (fr_get fo_69_2 0 rfl) rt_69 rfl rfl (ma_end_mk h)
        · replace h := h.2 c
          refine ex_aload_n (pc := 41) (fr_get fo_69_1 5 rfl) rfl rfl ?_
          refine ex_gr (pc := 42) (fr_get fo_69_1 6 rfl) ow_69 fr_8_12_5 (q := (6, 0)) rfl ?_
          refine ex_gr (pc := 45) (fr_get fo_69_1 7 rfl) ow_69 fr_8_98_6 (q := (15, 0)) rfl ?_
          refine ex_iload_n (pc := 48) (fr_get fo_69_1 8 rfl) rfl ?_
          refine xv_iald (pc := 49) (fr_get fo_69_1 9 rfl) gk_15 (n := 6) (gn_15 ..) rfl rfl h.1 ?_
          replace h := h.2
          refine ex_goto (pc := 50) (fr_get fo_69_1 10 rfl) (t := 62) rfl ?_
          exact ex_ireturn (pc := 62) (fr_get fo_69_2 0 rfl) rt_69 rfl rfl (ma_end_mk h)
      · replace h := h.2 c
        refine ex_bipush (pc := 32) (fr_get fo_69_1 0 rfl) bp_m100 ?_
        exact ex_ireturn (pc := 34) (fr_get fo_69_1 1 rfl) rt_69 rfl rfl (ma_end_mk h)
    · replace h := h.2 c
      refine ex_iload_n (pc := 18) (fr_get fo_69_0 9 rfl) rfl ?_
      refine ex_bipush (pc := 19) (fr_get fo_69_0 10 rfl) bp_8 ?_
      refine xv_cne (pc := 21) (fr_get fo_69_0 11 rfl) (t := 63) rfl (fun c => ?_) (fun c => ?_)
      · replace h := h.1 c
        refine ex_iload_n (pc := 63) (fr_get fo_69_2 1 rfl) rfl ?_
        refine ex_iconst (pc := 64) (fr_get fo_69_2 2 rfl) ic_1 ?_
        refine ex_bipush (pc := 65) (fr_get fo_69_2 3 rfl) bp_7 ?_
        refine xv_ks1 (pc := 67) (fr_get fo_69_2 4 rfl) cc_69_108 (as := [.inl a2, .inl (1 : Int32), .inl (7 : Int32)]) (rs := []) rfl rfl rfl rfl ?_
        refine sm_112 ?_
        refine ⟨_, rfl, ?_⟩
        refine xv_peq (pc := 70) (fr_get fo_69_2 5 rfl) (t := 81) rfl (fun c => ?_) (fun c => ?_)
        · replace h := h.1 c
          refine ex_bipush (pc := 81) (fr_get fo_69_2 10 rfl) bp_m100 ?_
          exact ex_ireturn (pc := 83) (fr_get fo_69_2 11 rfl) rt_69 rfl rfl (ma_end_mk h)
        · replace h := h.2 c
          refine ex_aload_n (pc := 73) (fr_get fo_69_2 6 rfl) rfl rfl ?_
          refine ex_iload_n (pc := 74) (fr_get fo_69_2 7 rfl) rfl ?_
          refine xv_kv1 (pc := 75) (fr_get fo_69_2 8 rfl) cc_69_135 (as := [.inr (.inr (5, 0)), .inl a1]) (rs := []) rfl rfl rfl rfl rfl ?_
          refine sm_116 rfl ?_
          refine ⟨_, rfl, ?_⟩
          refine xv_pne (pc := 78) (fr_get fo_69_2 9 rfl) (t := 84) rfl (fun c => ?_) (fun c => ?_)
          · replace h := h.1 c
            refine ex_aload_n (pc := 84) (fr_get fo_69_2 12 rfl) rfl rfl ?_
            refine ex_gr (pc := 85) (fr_get fo_69_2 13 rfl) ow_69 fr_8_12_5 (q := (6, 0)) rfl ?_
            refine ex_gr (pc := 88) (fr_get fo_69_2 14 rfl) ow_69 fr_8_115_6 (q := (16, 0)) rfl ?_
            refine ex_iload_n (pc := 91) (fr_get fo_69_2 15 rfl) rfl ?_
            refine xv_aald (pc := 92) (fr_get fo_69_3 0 rfl) ga_16 gl_16 (q := (17, a1.toNatClampNeg)) rfl rfl h.1 ?_
            replace h := h.2
            refine ex_iload_n (pc := 93) (fr_get fo_69_3 1 rfl) rfl ?_
            refine xv_kv1 (pc := 94) (fr_get fo_69_3 2 rfl) cc_69_142 (as := [.inr (.inr (17, a1.toNatClampNeg)), .inl a2]) (rs := []) rfl rfl rfl rfl rfl ?_
            refine h.mono (fun r J1 p2 h => ?_)
            obtain ⟨x3, hr, h⟩ := h
            refine ⟨x3, hr, ?_⟩
            exact ex_ireturn (pc := 97) (fr_get fo_69_3 3 rfl) rt_69 rfl rfl (ma_end_mk h)
          · replace h := h.2 c
            refine ex_bipush (pc := 81) (fr_get fo_69_2 10 rfl) bp_m100 ?_
            exact ex_ireturn (pc := 83) (fr_get fo_69_2 11 rfl) rt_69 rfl rfl (ma_end_mk h)
      · replace h := h.2 c
        refine ex_aload_n (pc := 24) (fr_get fo_69_0 12 rfl) rfl rfl ?_
        refine ex_iload_n (pc := 25) (fr_get fo_69_0 13 rfl) rfl ?_
        refine xv_kv1 (pc := 26) (fr_get fo_69_0 14 rfl) cc_69_153 (as := [.inr (.inr (5, 0)), .inl a1]) (rs := []) rfl rfl rfl rfl rfl ?_
        refine sm_117 rfl ?_
        refine ⟨_, rfl, ?_⟩
        refine xv_pne (pc := 29) (fr_get fo_69_0 15 rfl) (t := 35) rfl (fun c => ?_) (fun c => ?_)
        · replace h := h.1 c
          refine ex_iload_n (pc := 35) (fr_get fo_69_1 2 rfl) rfl ?_
          refine ex_bipush (pc := 36) (fr_get fo_69_1 3 rfl) bp_6 ?_
          refine xv_cne (pc := 38) (fr_get fo_69_1 4 rfl) (t := 53) rfl (fun c => ?_) (fun c => ?_)
          · replace h := h.1 c
            refine ex_aload_n (pc := 53) (fr_get fo_69_1 11 rfl) rfl rfl ?_
            refine ex_gr (pc := 54) (fr_get fo_69_1 12 rfl) ow_69 fr_8_12_5 (q := (6, 0)) rfl ?_
            refine ex_gr (pc := 57) (fr_get fo_69_1 13 rfl) ow_69 fr_8_94_6 (q := (14, 0)) rfl ?_
            refine ex_iload_n (pc := 60) (fr_get fo_69_1 14 rfl) rfl ?_
            refine xv_iald (pc := 61) (fr_get fo_69_1 15 rfl) gk_14 (n := 6) (gn_14 ..) rfl rfl h.1 ?_
            replace h := h.2
            exact ex_ireturn (pc := 62) (fr_get fo_69_2 0 rfl) rt_69 rfl rfl (ma_end_mk h)
          · replace h := h.2 c
            refine ex_aload_n (pc := 41) (fr_get fo_69_1 5 rfl) rfl rfl ?_
            refine ex_gr (pc := 42) (fr_get fo_69_1 6 rfl) ow_69 fr_8_12_5 (q := (6, 0)) rfl ?_
            refine ex_gr (pc := 45) (fr_get fo_69_1 7 rfl) ow_69 fr_8_98_6 (q := (15, 0)) rfl ?_
            refine ex_iload_n (pc := 48) (fr_get fo_69_1 8 rfl) rfl ?_
            refine xv_iald (pc := 49) (fr_get fo_69_1 9 rfl) gk_15 (n := 6) (gn_15 ..) rfl rfl h.1 ?_
            replace h := h.2
            refine ex_goto (pc := 50) (fr_get fo_69_1 10 rfl) (t := 62) rfl ?_
            exact ex_ireturn (pc := 62) (fr_get fo_69_2 0 rfl) rt_69 rfl rfl (ma_end_mk h)
        · replace h := h.2 c
          refine ex_bipush (pc := 32) (fr_get fo_69_1 0 rfl) bp_m100 ?_
          exact ex_ireturn (pc := 34) (fr_get fo_69_1 1 rfl) rt_69 rfl rfl (ma_end_mk h)
  · replace h := h.2 c
    refine ex_aload_n (pc := 4) (fr_get fo_69_0 2 rfl) rfl rfl ?_
    refine ex_gr (pc := 5) (fr_get fo_69_0 3 rfl) ow_69 fr_8_12_5 (q := (6, 0)) rfl ?_
    refine xv_gi (pc := 8) (fr_get fo_69_0 4 rfl) ow_69 fg_8_128_6 rfl ?_
    exact ex_ireturn (pc := 11) (fr_get fo_69_0 5 rfl) rt_69 rfl rfl (ma_end_mk h)

theorem e_70 {d : Nat} {I : ma_I} {o : Nat} {Q : ma_Q} {a1 : Int32}
  (h :
    (¬((0 : Int32) ≤ a1 ∧ a1 ≤ (99 : Int32)) →
      Q (some (.inl (-2 : Int32))) I o) ∧
    ((0 : Int32) ≤ a1 ∧ a1 ≤ (99 : Int32) →
      Exm (d + 1) 14 [.inr (.inr (6, 0)), .inl a1] I o (fun r J1 p2 => ∃ x3 : Int32, r = some (.inl x3) ∧
        Q (some (.inl x3)) J1 p2))) :
  Exm (d + 2) 70 [.inr (.inr (5, 0)), .inl a1] I o Q := by
  show Ex (d + 2) 70 (0, [some (.inr (.inr (5, 0))), some (.inl a1)], [], ma_mem I o, 0, 0) (ma_end Q)
  refine ex_iload_n (pc := 0) (fr_get fo_70_0 0 rfl) rfl ?_
  refine xv_ks1 (pc := 1) (fr_get fo_70_0 1 rfl) cc_70_84 (as := [.inl a1]) (rs := []) rfl rfl rfl rfl ?_
  refine sm_114 ?_
  refine ⟨_, rfl, ?_⟩
  refine xv_peq (pc := 4) (fr_get fo_70_0 2 rfl) (t := 18) rfl (fun c => ?_) (fun c => ?_)
  · replace h := h.1 c
    refine ex_bipush (pc := 18) (fr_get fo_70_0 8 rfl) bp_m2 ?_
    exact ex_ireturn (pc := 20) (fr_get fo_70_0 9 rfl) rt_70 rfl rfl (ma_end_mk h)
  · replace h := h.2 c
    refine ex_aload_n (pc := 7) (fr_get fo_70_0 3 rfl) rfl rfl ?_
    refine ex_gr (pc := 8) (fr_get fo_70_0 4 rfl) ow_70 fr_8_12_5 (q := (6, 0)) rfl ?_
    refine ex_iload_n (pc := 11) (fr_get fo_70_0 5 rfl) rfl ?_
    refine xv_kv1 (pc := 12) (fr_get fo_70_0 6 rfl) cc_70_156 (as := [.inr (.inr (6, 0)), .inl a1]) (rs := []) rfl rfl rfl rfl rfl ?_
    refine h.mono (fun r J1 p2 h => ?_)
    obtain ⟨x3, hr, h⟩ := h
    refine ⟨x3, hr, ?_⟩
    refine ex_goto (pc := 15) (fr_get fo_70_0 7 rfl) (t := 20) rfl ?_
    exact ex_ireturn (pc := 20) (fr_get fo_70_0 9 rfl) rt_70 rfl rfl (ma_end_mk h)

theorem e_71 {d : Nat} {I : ma_I} {o : Nat} {Q : ma_Q} {a1 : Int32} {a2 : Int32} {a3 : Int32}
  (h :
    (¬((0 : Int32) ≤ a1 ∧ a1 ≤ ((I 6 0 4) - 1)) →
      Q (some (.inl (-2 : Int32))) I o) ∧
    ((0 : Int32) ≤ a1 ∧ a1 ≤ ((I 6 0 4) - 1) →
      ((0 : Int32) ≤ a3 ∧ a3 ≤ (2 : Int32) →
        (a3 ≠ (2 : Int32) →
          ((0 : Int32) ≤ a2 ∧ a2 ≤ (99 : Int32) →
            (a3 ≠ 0 →
              Exm (d + 1) 21 [.inr (.inr (6, 0)), .inl a1, .inl a2, .inl (0 : Int32), .inl (0 : Int32)] I o (fun r J1 p2 => ∃ x3 : Int32, r = some (.inl x3) ∧
                Q (some (.inl x3)) J1 p2)) ∧
            (a3 = 0 →
              ma_in a1 8 ∧
              Exm (d + 1) 9 [.inr (.inr (17, a1.toNatClampNeg)), .inl a2] I o (fun r J4 p5 => ∃ x6 : Int32, r = some (.inl x6) ∧
                (x6 = 0 →
                  Q (some (.inl (0 : Int32))) J4 p5) ∧
                (x6 ≠ 0 →
                  Q (some (.inl (1 : Int32))) J4 p5)))) ∧
          (¬((0 : Int32) ≤ a2 ∧ a2 ≤ (99 : Int32)) →
            Q (some (.inl (-2 : Int32))) I o)) ∧
        (a3 = (2 : Int32) →
          Exm (d + 1) 22 [.inr (.inr (6, 0)), .inl a1] I o (fun r J7 p8 => ∃ x9 : Int32, r = some (.inl x9) ∧
            Q (some (.inl x9)) J7 p8))) ∧
      (¬((0 : Int32) ≤ a3 ∧ a3 ≤ (2 : Int32)) →
        Q (some (.inl (-2 : Int32))) I o))) :
  Exm (d + 2) 71 [.inr (.inr (5, 0)), .inl a1, .inl a2, .inl a3] I o Q := by
  show Ex (d + 2) 71 (0, [some (.inr (.inr (5, 0))), some (.inl a1), some (.inl a2), some (.inl a3)], [], ma_mem I o, 0, 0) (ma_end Q)
  refine ex_aload_n (pc := 0) (fr_get fo_71_0 0 rfl) rfl rfl ?_
  refine ex_iload_n (pc := 1) (fr_get fo_71_0 1 rfl) rfl ?_
  refine xv_kv1 (pc := 2) (fr_get fo_71_0 2 rfl) cc_71_135 (as := [.inr (.inr (5, 0)), .inl a1]) (rs := []) rfl rfl rfl rfl rfl ?_
  refine sm_116 rfl ?_
  refine ⟨_, rfl, ?_⟩
  refine xv_peq (pc := 5) (fr_get fo_71_0 3 rfl) (t := 17) rfl (fun c => ?_) (fun c => ?_)
  · replace h := h.1 c
    refine ex_bipush (pc := 17) (fr_get fo_71_0 9 rfl) bp_m2 ?_
    exact ex_ireturn (pc := 19) (fr_get fo_71_0 10 rfl) rt_71 rfl rfl (ma_end_mk h)
  · replace h := h.2 c
    refine ex_iload_n (pc := 8) (fr_get fo_71_0 4 rfl) rfl ?_
    refine ex_iconst (pc := 9) (fr_get fo_71_0 5 rfl) ic_0 ?_
    refine ex_iconst (pc := 10) (fr_get fo_71_0 6 rfl) ic_2 ?_
    refine xv_ks1 (pc := 11) (fr_get fo_71_0 7 rfl) cc_71_108 (as := [.inl a3, .inl (0 : Int32), .inl (2 : Int32)]) (rs := []) rfl rfl rfl rfl ?_
    refine sm_112 ?_
    refine ⟨_, rfl, ?_⟩
    refine xv_pne (pc := 14) (fr_get fo_71_0 8 rfl) (t := 20) rfl (fun c => ?_) (fun c => ?_)
    · replace h := h.1 c
      refine ex_iload_n (pc := 20) (fr_get fo_71_0 11 rfl) rfl ?_
      refine ex_iconst (pc := 21) (fr_get fo_71_0 12 rfl) ic_2 ?_
      refine xv_cne (pc := 22) (fr_get fo_71_0 13 rfl) (t := 34) rfl (fun c => ?_) (fun c => ?_)
      · replace h := h.1 c
        refine ex_iload_n (pc := 34) (fr_get fo_71_1 3 rfl) rfl ?_
        refine xv_ks1 (pc := 35) (fr_get fo_71_1 4 rfl) cc_71_84 (as := [.inl a2]) (rs := []) rfl rfl rfl rfl ?_
        refine sm_114 ?_
        refine ⟨_, rfl, ?_⟩
        refine xv_pne (pc := 38) (fr_get fo_71_1 5 rfl) (t := 44) rfl (fun c => ?_) (fun c => ?_)
        · replace h := h.1 c
          refine ex_iload_n (pc := 44) (fr_get fo_71_1 8 rfl) rfl ?_
          refine xv_bne (pc := 45) (fr_get fo_71_1 9 rfl) (t := 70) rfl (fun c => ?_) (fun c => ?_)
          · replace h := h.1 c
            refine ex_aload_n (pc := 70) (fr_get fo_71_2 6 rfl) rfl rfl ?_
            refine ex_gr (pc := 71) (fr_get fo_71_2 7 rfl) ow_71 fr_8_12_5 (q := (6, 0)) rfl ?_
            refine ex_iload_n (pc := 74) (fr_get fo_71_2 8 rfl) rfl ?_
            refine ex_iload_n (pc := 75) (fr_get fo_71_2 9 rfl) rfl ?_
            refine ex_iconst (pc := 76) (fr_get fo_71_2 10 rfl) ic_0 ?_
            refine ex_iconst (pc := 77) (fr_get fo_71_2 11 rfl) ic_0 ?_
            refine xv_kv1 (pc := 78) (fr_get fo_71_2 12 rfl) cc_71_165 (as := [.inr (.inr (6, 0)), .inl a1, .inl a2, .inl (0 : Int32), .inl (0 : Int32)]) (rs := []) rfl rfl rfl rfl rfl ?_
            refine h.mono (fun r J1 p2 h => ?_)
            obtain ⟨x3, hr, h⟩ := h
            refine ⟨x3, hr, ?_⟩
            exact ex_ireturn (pc := 81) (fr_get fo_71_2 13 rfl) rt_71 rfl rfl (ma_end_mk h)
          · replace h := h.2 c
            refine ex_aload_n (pc := 48) (fr_get fo_71_1 10 rfl) rfl rfl ?_
            refine ex_gr (pc := 49) (fr_get fo_71_1 11 rfl) ow_71 fr_8_12_5 (q := (6, 0)) rfl ?_
            refine ex_gr (pc := 52) (fr_get fo_71_1 12 rfl) ow_71 fr_8_115_6 (q := (16, 0)) rfl ?_
            refine ex_iload_n (pc := 55) (fr_get fo_71_1 13 rfl) rfl ?_
            refine xv_aald (pc := 56) (fr_get fo_71_1 14 rfl) ga_16 gl_16 (q := (17, a1.toNatClampNeg)) rfl rfl h.1 ?_
            replace h := h.2
            refine ex_iload_n (pc := 57) (fr_get fo_71_1 15 rfl) rfl ?_
            refine xv_kv1 (pc := 58) (fr_get fo_71_2 0 rfl) cc_71_162 (as := [.inr (.inr (17, a1.toNatClampNeg)), .inl a2]) (rs := []) rfl rfl rfl rfl rfl ?_
            refine h.mono (fun r J4 p5 h => ?_)
            obtain ⟨x6, hr, h⟩ := h
            refine ⟨x6, hr, ?_⟩
            refine xv_beq (pc := 61) (fr_get fo_71_2 1 rfl) (t := 68) rfl (fun c => ?_) (fun c => ?_)
            · replace h := h.1 c
              refine ex_iconst (pc := 68) (fr_get fo_71_2 4 rfl) ic_0 ?_
              exact ex_ireturn (pc := 69) (fr_get fo_71_2 5 rfl) rt_71 rfl rfl (ma_end_mk h)
            · replace h := h.2 c
              refine ex_iconst (pc := 64) (fr_get fo_71_2 2 rfl) ic_1 ?_
              refine ex_goto (pc := 65) (fr_get fo_71_2 3 rfl) (t := 69) rfl ?_
              exact ex_ireturn (pc := 69) (fr_get fo_71_2 5 rfl) rt_71 rfl rfl (ma_end_mk h)
        · replace h := h.2 c
          refine ex_bipush (pc := 41) (fr_get fo_71_1 6 rfl) bp_m2 ?_
          exact ex_ireturn (pc := 43) (fr_get fo_71_1 7 rfl) rt_71 rfl rfl (ma_end_mk h)
      · replace h := h.2 c
        refine ex_aload_n (pc := 25) (fr_get fo_71_0 14 rfl) rfl rfl ?_
        refine ex_gr (pc := 26) (fr_get fo_71_0 15 rfl) ow_71 fr_8_12_5 (q := (6, 0)) rfl ?_
        refine ex_iload_n (pc := 29) (fr_get fo_71_1 0 rfl) rfl ?_
        refine xv_kv1 (pc := 30) (fr_get fo_71_1 1 rfl) cc_71_159 (as := [.inr (.inr (6, 0)), .inl a1]) (rs := []) rfl rfl rfl rfl rfl ?_
        refine h.mono (fun r J7 p8 h => ?_)
        obtain ⟨x9, hr, h⟩ := h
        refine ⟨x9, hr, ?_⟩
        exact ex_ireturn (pc := 33) (fr_get fo_71_1 2 rfl) rt_71 rfl rfl (ma_end_mk h)
    · replace h := h.2 c
      refine ex_bipush (pc := 17) (fr_get fo_71_0 9 rfl) bp_m2 ?_
      exact ex_ireturn (pc := 19) (fr_get fo_71_0 10 rfl) rt_71 rfl rfl (ma_end_mk h)

theorem e_72 {d : Nat} {I : ma_I} {o : Nat} {Q : ma_Q} {a1 : Int32}
  (h :
    ((0 : Int32) ≤ a1 ∧ a1 ≤ (255 : Int32) →
      (I 8 0 0 < (160 : Int32) →
        Exm (d) 43 [.inr (.inr (8, 0)), .inl a1] I o (fun r J1 p2 => r = none ∧
          Q (some (.inl (J1 8 0 0))) J1 p2)) ∧
      ((160 : Int32) ≤ I 8 0 0 →
        Q (some (.inl (-4 : Int32))) I o)) ∧
    (¬((0 : Int32) ≤ a1 ∧ a1 ≤ (255 : Int32)) →
      Q (some (.inl (-2 : Int32))) I o)) :
  Exm (d + 1) 72 [.inr (.inr (5, 0)), .inl a1] I o Q := by
  show Ex (d + 1) 72 (0, [some (.inr (.inr (5, 0))), some (.inl a1)], [], ma_mem I o, 0, 0) (ma_end Q)
  refine ex_iload_n (pc := 0) (fr_get fo_72_0 0 rfl) rfl ?_
  refine ex_iconst (pc := 1) (fr_get fo_72_0 1 rfl) ic_0 ?_
  refine ex_sipush (pc := 2) (fr_get fo_72_0 2 rfl) sp_255 ?_
  refine xv_ks1 (pc := 5) (fr_get fo_72_0 3 rfl) cc_72_108 (as := [.inl a1, .inl (0 : Int32), .inl (255 : Int32)]) (rs := []) rfl rfl rfl rfl ?_
  refine sm_112 ?_
  refine ⟨_, rfl, ?_⟩
  refine xv_pne (pc := 8) (fr_get fo_72_0 4 rfl) (t := 14) rfl (fun c => ?_) (fun c => ?_)
  · replace h := h.1 c
    refine ex_aload_n (pc := 14) (fr_get fo_72_0 7 rfl) rfl rfl ?_
    refine ex_gr (pc := 15) (fr_get fo_72_0 8 rfl) ow_72 fr_8_26_5 (q := (8, 0)) rfl ?_
    refine xv_gi (pc := 18) (fr_get fo_72_0 9 rfl) ow_72 fg_8_77_8 rfl ?_
    refine ex_sipush (pc := 21) (fr_get fo_72_0 10 rfl) sp_160 ?_
    refine xv_clt (pc := 24) (fr_get fo_72_0 11 rfl) (t := 30) rfl (fun c => ?_) (fun c => ?_)
    · replace h := h.1 c
      refine ex_aload_n (pc := 30) (fr_get fo_72_0 14 rfl) rfl rfl ?_
      refine ex_gr (pc := 31) (fr_get fo_72_0 15 rfl) ow_72 fr_8_26_5 (q := (8, 0)) rfl ?_
      refine ex_iload_n (pc := 34) (fr_get fo_72_1 0 rfl) rfl ?_
      refine xv_kv0 (pc := 35) (fr_get fo_72_1 1 rfl) cc_72_65 (as := [.inr (.inr (8, 0)), .inl a1]) (rs := []) rfl rfl rfl rfl rfl ?_
      refine h.mono (fun r J1 p2 h => ⟨h.1, ?_⟩)
      replace h := h.2
      refine ex_aload_n (pc := 38) (fr_get fo_72_1 2 rfl) rfl rfl ?_
      refine ex_gr (pc := 39) (fr_get fo_72_1 3 rfl) ow_72 fr_8_26_5 (q := (8, 0)) rfl ?_
      refine xv_gi (pc := 42) (fr_get fo_72_1 4 rfl) ow_72 fg_8_77_8 rfl ?_
      exact ex_ireturn (pc := 45) (fr_get fo_72_1 5 rfl) rt_72 rfl rfl (ma_end_mk h)
    · replace h := h.2 c
      refine ex_bipush (pc := 27) (fr_get fo_72_0 12 rfl) bp_m4 ?_
      exact ex_ireturn (pc := 29) (fr_get fo_72_0 13 rfl) rt_72 rfl rfl (ma_end_mk h)
  · replace h := h.2 c
    refine ex_bipush (pc := 11) (fr_get fo_72_0 5 rfl) bp_m2 ?_
    exact ex_ireturn (pc := 13) (fr_get fo_72_0 6 rfl) rt_72 rfl rfl (ma_end_mk h)

theorem e_73 {d : Nat} {I : ma_I} {o : Nat} {Q : ma_Q} 
  (h :
    (I 6 0 6 < (6 : Int32) →
      ma_in (I 6 0 6) 6 ∧
      Exm (d) 30 [.inr (.inr (9, 0)), .inr (.inr (19, (I 6 0 6).toNatClampNeg))] I o (fun r J1 p2 => ∃ x3 : Int32, r = some (.inl x3) ∧
        (x3 = (-1 : Int32) →
          Q (some (.inl (((J1 6 0 6) + (1 : Int32)) - (1 : Int32)))) (ma_up (ma_up J1 8 0 0 (0 : Int32)) 6 0 6 ((J1 6 0 6) + (1 : Int32))) p2) ∧
        (x3 ≠ (-1 : Int32) →
          Q (some (.inl ((-100 : Int32) - x3))) (ma_up J1 8 0 0 (0 : Int32)) p2))) ∧
    ((6 : Int32) ≤ I 6 0 6 →
      Q (some (.inl (-4 : Int32))) I o)) :
  Exm (d + 1) 73 [.inr (.inr (5, 0))] I o Q := by
  show Ex (d + 1) 73 (0, [some (.inr (.inr (5, 0))), none], [], ma_mem I o, 0, 0) (ma_end Q)
  refine ex_aload_n (pc := 0) (fr_get fo_73_0 0 rfl) rfl rfl ?_
  refine ex_gr (pc := 1) (fr_get fo_73_0 1 rfl) ow_73 fr_8_12_5 (q := (6, 0)) rfl ?_
  refine xv_gi (pc := 4) (fr_get fo_73_0 2 rfl) ow_73 fg_8_81_6 rfl ?_
  refine ex_bipush (pc := 7) (fr_get fo_73_0 3 rfl) bp_6 ?_
  refine xv_clt (pc := 9) (fr_get fo_73_0 4 rfl) (t := 15) rfl (fun c => ?_) (fun c => ?_)
  · replace h := h.1 c
    refine ex_aload_n (pc := 15) (fr_get fo_73_0 7 rfl) rfl rfl ?_
    refine ex_gr (pc := 16) (fr_get fo_73_0 8 rfl) ow_73 fr_8_35_5 (q := (9, 0)) rfl ?_
    refine ex_aload_n (pc := 19) (fr_get fo_73_0 9 rfl) rfl rfl ?_
    refine ex_gr (pc := 20) (fr_get fo_73_0 10 rfl) ow_73 fr_8_12_5 (q := (6, 0)) rfl ?_
    refine ex_gr (pc := 23) (fr_get fo_73_0 11 rfl) ow_73 fr_8_69_6 (q := (18, 0)) rfl ?_
    refine ex_aload_n (pc := 26) (fr_get fo_73_0 12 rfl) rfl rfl ?_
    refine ex_gr (pc := 27) (fr_get fo_73_0 13 rfl) ow_73 fr_8_12_5 (q := (6, 0)) rfl ?_
    refine xv_gi (pc := 30) (fr_get fo_73_0 14 rfl) ow_73 fg_8_81_6 rfl ?_
    refine xv_aald (pc := 33) (fr_get fo_73_0 15 rfl) ga_18 gl_18 (q := (19, (I 6 0 6).toNatClampNeg)) rfl rfl h.1 ?_
    replace h := h.2
    refine xv_kv1 (pc := 34) (fr_get fo_73_1 0 rfl) cc_73_73 (as := [.inr (.inr (9, 0)), .inr (.inr (19, (I 6 0 6).toNatClampNeg))]) (rs := []) rfl rfl rfl rfl rfl ?_
    refine h.mono (fun r J1 p2 h => ?_)
    obtain ⟨x3, hr, h⟩ := h
    refine ⟨x3, hr, ?_⟩
    refine ex_istore_n (pc := 37) (fr_get fo_73_1 1 rfl) rfl (L' := [some (.inr (.inr (5, 0))), some (.inl x3)]) rfl ?_
    refine ex_aload_n (pc := 38) (fr_get fo_73_1 2 rfl) rfl rfl ?_
    refine ex_gr (pc := 39) (fr_get fo_73_1 3 rfl) ow_73 fr_8_26_5 (q := (8, 0)) rfl ?_
    refine ex_iconst (pc := 42) (fr_get fo_73_1 4 rfl) ic_0 ?_
    refine ex_pi (pc := 43) (fr_get fo_73_1 5 rfl) ow_73 fp_8_77_8 ?_
    refine ex_iload_n (pc := 46) (fr_get fo_73_1 6 rfl) rfl ?_
    refine ex_iconst (pc := 47) (fr_get fo_73_1 7 rfl) ic_m1 ?_
    refine xv_ceq (pc := 48) (fr_get fo_73_1 8 rfl) (t := 56) rfl (fun c => ?_) (fun c => ?_)
    · replace h := h.1 c
      refine ex_aload_n (pc := 56) (fr_get fo_73_1 13 rfl) rfl rfl ?_
      refine ex_gr (pc := 57) (fr_get fo_73_1 14 rfl) ow_73 fr_8_12_5 (q := (6, 0)) rfl ?_
      refine ex_dupr (pc := 60) (fr_get fo_73_1 15 rfl) ?_
      refine xv_gi (pc := 61) (fr_get fo_73_2 0 rfl) ow_73 fg_8_81_6 (xv_ug rfl) ?_
      refine ex_iconst (pc := 64) (fr_get fo_73_2 1 rfl) ic_1 ?_
      refine ex_iadd (pc := 65) (fr_get fo_73_2 2 rfl) ?_
      refine ex_pi (pc := 66) (fr_get fo_73_2 3 rfl) ow_73 fp_8_81_6 ?_
      refine ex_aload_n (pc := 69) (fr_get fo_73_2 4 rfl) rfl rfl ?_
      refine ex_gr (pc := 70) (fr_get fo_73_2 5 rfl) ow_73 fr_8_12_5 (q := (6, 0)) rfl ?_
      refine xv_gi (pc := 73) (fr_get fo_73_2 6 rfl) ow_73 fg_8_81_6 xv_us ?_
      refine ex_iconst (pc := 76) (fr_get fo_73_2 7 rfl) ic_1 ?_
      refine ex_isub (pc := 77) (fr_get fo_73_2 8 rfl) ?_
      exact ex_ireturn (pc := 78) (fr_get fo_73_2 9 rfl) rt_73 rfl rfl (ma_end_mk h)
    · replace h := h.2 c
      refine ex_bipush (pc := 51) (fr_get fo_73_1 9 rfl) bp_m100 ?_
      refine ex_iload_n (pc := 53) (fr_get fo_73_1 10 rfl) rfl ?_
      refine ex_isub (pc := 54) (fr_get fo_73_1 11 rfl) ?_
      exact ex_ireturn (pc := 55) (fr_get fo_73_1 12 rfl) rt_73 rfl rfl (ma_end_mk h)
  · replace h := h.2 c
    refine ex_bipush (pc := 12) (fr_get fo_73_0 5 rfl) bp_m4 ?_
    exact ex_ireturn (pc := 14) (fr_get fo_73_0 6 rfl) rt_73 rfl rfl (ma_end_mk h)

theorem e_74 {d : Nat} {I : ma_I} {o : Nat} {Q : ma_Q} {a1 : Int32}
  (h :
    ((0 : Int32) ≤ a1 ∧ a1 ≤ ((I 6 0 6) - (1 : Int32)) →
      Q (some (.inl (I 6 0 8))) (ma_up I 6 0 8 a1) o) ∧
    (¬((0 : Int32) ≤ a1 ∧ a1 ≤ ((I 6 0 6) - (1 : Int32))) →
      Q (some (.inl (-2 : Int32))) I o)) :
  Exm (d + 1) 74 [.inr (.inr (5, 0)), .inl a1] I o Q := by
  show Ex (d + 1) 74 (0, [some (.inr (.inr (5, 0))), some (.inl a1), none], [], ma_mem I o, 0, 0) (ma_end Q)
  refine ex_iload_n (pc := 0) (fr_get fo_74_0 0 rfl) rfl ?_
  refine ex_iconst (pc := 1) (fr_get fo_74_0 1 rfl) ic_0 ?_
  refine ex_aload_n (pc := 2) (fr_get fo_74_0 2 rfl) rfl rfl ?_
  refine ex_gr (pc := 3) (fr_get fo_74_0 3 rfl) ow_74 fr_8_12_5 (q := (6, 0)) rfl ?_
  refine xv_gi (pc := 6) (fr_get fo_74_0 4 rfl) ow_74 fg_8_81_6 rfl ?_
  refine ex_iconst (pc := 9) (fr_get fo_74_0 5 rfl) ic_1 ?_
  refine ex_isub (pc := 10) (fr_get fo_74_0 6 rfl) ?_
  refine xv_ks1 (pc := 11) (fr_get fo_74_0 7 rfl) cc_74_108 (as := [.inl a1, .inl (0 : Int32), .inl ((I 6 0 6) - (1 : Int32))]) (rs := []) rfl rfl rfl rfl ?_
  refine sm_112 ?_
  refine ⟨_, rfl, ?_⟩
  refine xv_pne (pc := 14) (fr_get fo_74_0 8 rfl) (t := 20) rfl (fun c => ?_) (fun c => ?_)
  · replace h := h.1 c
    refine ex_aload_n (pc := 20) (fr_get fo_74_0 11 rfl) rfl rfl ?_
    refine ex_gr (pc := 21) (fr_get fo_74_0 12 rfl) ow_74 fr_8_12_5 (q := (6, 0)) rfl ?_
    refine xv_gi (pc := 24) (fr_get fo_74_0 13 rfl) ow_74 fg_8_169_6 rfl ?_
    refine ex_istore_n (pc := 27) (fr_get fo_74_0 14 rfl) rfl (L' := [some (.inr (.inr (5, 0))), some (.inl a1), some (.inl (I 6 0 8))]) rfl ?_
    refine ex_aload_n (pc := 28) (fr_get fo_74_0 15 rfl) rfl rfl ?_
    refine ex_gr (pc := 29) (fr_get fo_74_1 0 rfl) ow_74 fr_8_12_5 (q := (6, 0)) rfl ?_
    refine ex_iload_n (pc := 32) (fr_get fo_74_1 1 rfl) rfl ?_
    refine ex_pi (pc := 33) (fr_get fo_74_1 2 rfl) ow_74 fp_8_169_6 ?_
    refine ex_iload_n (pc := 36) (fr_get fo_74_1 3 rfl) rfl ?_
    exact ex_ireturn (pc := 37) (fr_get fo_74_1 4 rfl) rt_74 rfl rfl (ma_end_mk h)
  · replace h := h.2 c
    refine ex_bipush (pc := 17) (fr_get fo_74_0 9 rfl) bp_m2 ?_
    exact ex_ireturn (pc := 19) (fr_get fo_74_0 10 rfl) rt_74 rfl rfl (ma_end_mk h)

theorem e_75 {d : Nat} {I : ma_I} {o : Nat} {Q : ma_Q} {a1 : Int32} {a2 : Int32} {a3 : Int32}
  (h :
    (¬((0 : Int32) ≤ a1 ∧ a1 ≤ (7 : Int32)) →
      Q (some (.inl (-2 : Int32))) I o) ∧
    ((0 : Int32) ≤ a1 ∧ a1 ≤ (7 : Int32) →
      (¬((0 : Int32) ≤ a2 ∧ a2 ≤ (99 : Int32)) →
        Q (some (.inl (-2 : Int32))) I o) ∧
      ((0 : Int32) ≤ a2 ∧ a2 ≤ (99 : Int32) →
        ((0 : Int32) ≤ a3 ∧ a3 ≤ (4 : Int32) →
          Exm (d + 1) 77 [.inr (.inr (5, 0)), .inl a1, .inl a2] I o (fun r J1 p2 => r = none ∧
            (a3 = (0 : Int32) →
              Q (some (.inl (J1 10 0 0))) J1 p2) ∧
            (a3 ≠ (0 : Int32) →
              (a3 = (1 : Int32) →
                Q (some (.inl (J1 10 0 1))) J1 p2) ∧
              (a3 ≠ (1 : Int32) →
                (a3 = (2 : Int32) →
                  Q (some (.inl (J1 10 0 2))) J1 p2) ∧
                (a3 ≠ (2 : Int32) →
                  (a3 = (3 : Int32) →
                    Q (some (.inl (J1 10 0 3))) J1 p2) ∧
                  (a3 ≠ (3 : Int32) →
                    (a3 = (4 : Int32) →
                      Q (some (.inl ((J1 10 0 1) - (J1 10 0 7)))) J1 p2) ∧
                    (a3 ≠ (4 : Int32) →
                      Exm (d + 1) 61 [.inr (.inr (10, 0)), .inl (a3 - (10 : Int32))] J1 p2 (fun r J3 p4 => ∃ x5 : Int32, r = some (.inl x5) ∧
                        Q (some (.inl x5)) J3 p4)))))))) ∧
        (¬((0 : Int32) ≤ a3 ∧ a3 ≤ (4 : Int32)) →
          ((10 : Int32) ≤ a3 ∧ a3 ≤ (29 : Int32) →
            Exm (d + 1) 77 [.inr (.inr (5, 0)), .inl a1, .inl a2] I o (fun r J6 p7 => r = none ∧
              (a3 = (0 : Int32) →
                Q (some (.inl (J6 10 0 0))) J6 p7) ∧
              (a3 ≠ (0 : Int32) →
                (a3 = (1 : Int32) →
                  Q (some (.inl (J6 10 0 1))) J6 p7) ∧
                (a3 ≠ (1 : Int32) →
                  (a3 = (2 : Int32) →
                    Q (some (.inl (J6 10 0 2))) J6 p7) ∧
                  (a3 ≠ (2 : Int32) →
                    (a3 = (3 : Int32) →
                      Q (some (.inl (J6 10 0 3))) J6 p7) ∧
                    (a3 ≠ (3 : Int32) →
                      (a3 = (4 : Int32) →
                        Q (some (.inl ((J6 10 0 1) - (J6 10 0 7)))) J6 p7) ∧
                      (a3 ≠ (4 : Int32) →
                        Exm (d + 1) 61 [.inr (.inr (10, 0)), .inl (a3 - (10 : Int32))] J6 p7 (fun r J8 p9 => ∃ x10 : Int32, r = some (.inl x10) ∧
                          Q (some (.inl x10)) J8 p9)))))))) ∧
          (¬((10 : Int32) ≤ a3 ∧ a3 ≤ (29 : Int32)) →
            Q (some (.inl (-2 : Int32))) I o))))) :
  Exm (d + 2) 75 [.inr (.inr (5, 0)), .inl a1, .inl a2, .inl a3] I o Q := by
  show Ex (d + 2) 75 (0, [some (.inr (.inr (5, 0))), some (.inl a1), some (.inl a2), some (.inl a3)], [], ma_mem I o, 0, 0) (ma_end Q)
  refine ex_iload_n (pc := 0) (fr_get fo_75_0 0 rfl) rfl ?_
  refine xv_ks1 (pc := 1) (fr_get fo_75_0 1 rfl) cc_75_88 (as := [.inl a1]) (rs := []) rfl rfl rfl rfl ?_
  refine sm_113 ?_
  refine ⟨_, rfl, ?_⟩
  refine xv_peq (pc := 4) (fr_get fo_75_0 2 rfl) (t := 34) rfl (fun c => ?_) (fun c => ?_)
  · replace h := h.1 c
    refine ex_bipush (pc := 34) (fr_get fo_75_1 0 rfl) bp_m2 ?_
    exact ex_ireturn (pc := 36) (fr_get fo_75_1 1 rfl) rt_75 rfl rfl (ma_end_mk h)
  · replace h := h.2 c
    refine ex_iload_n (pc := 7) (fr_get fo_75_0 3 rfl) rfl ?_
    refine xv_ks1 (pc := 8) (fr_get fo_75_0 4 rfl) cc_75_84 (as := [.inl a2]) (rs := []) rfl rfl rfl rfl ?_
    refine sm_114 ?_
    refine ⟨_, rfl, ?_⟩
    refine xv_peq (pc := 11) (fr_get fo_75_0 5 rfl) (t := 34) rfl (fun c => ?_) (fun c => ?_)
    · replace h := h.1 c
      refine ex_bipush (pc := 34) (fr_get fo_75_1 0 rfl) bp_m2 ?_
      exact ex_ireturn (pc := 36) (fr_get fo_75_1 1 rfl) rt_75 rfl rfl (ma_end_mk h)
    · replace h := h.2 c
      refine ex_iload_n (pc := 14) (fr_get fo_75_0 6 rfl) rfl ?_
      refine ex_iconst (pc := 15) (fr_get fo_75_0 7 rfl) ic_0 ?_
      refine ex_iconst (pc := 16) (fr_get fo_75_0 8 rfl) ic_4 ?_
      refine xv_ks1 (pc := 17) (fr_get fo_75_0 9 rfl) cc_75_108 (as := [.inl a3, .inl (0 : Int32), .inl (4 : Int32)]) (rs := []) rfl rfl rfl rfl ?_
      refine sm_112 ?_
      refine ⟨_, rfl, ?_⟩
      refine xv_pne (pc := 20) (fr_get fo_75_0 10 rfl) (t := 37) rfl (fun c => ?_) (fun c => ?_)
      · replace h := h.1 c
        refine ex_aload_n (pc := 37) (fr_get fo_75_1 2 rfl) rfl rfl ?_
        refine ex_iload_n (pc := 38) (fr_get fo_75_1 3 rfl) rfl ?_
        refine ex_iload_n (pc := 39) (fr_get fo_75_1 4 rfl) rfl ?_
        refine xv_kv0 (pc := 40) (fr_get fo_75_1 5 rfl) cc_75_172 (as := [.inr (.inr (5, 0)), .inl a1, .inl a2]) (rs := []) rfl rfl rfl rfl rfl ?_
        refine h.mono (fun r J1 p2 h => ⟨h.1, ?_⟩)
        replace h := h.2
        refine ex_iload_n (pc := 43) (fr_get fo_75_1 6 rfl) rfl ?_
        refine xv_ts (pc := 44) (fr_get fo_75_1 7 rfl) (l := [36, 44, 52, 60, 68]) rfl tk_75_44 ?_
        refine xv_tc (t := 80) ic_0 rfl (fun c => ?_) (fun c => ?_)
        · replace h := h.1 c
          refine ex_aload_n (pc := 80) (fr_get fo_75_1 8 rfl) rfl rfl ?_
          refine ex_gr (pc := 81) (fr_get fo_75_1 9 rfl) ow_75 fr_8_42_5 (q := (10, 0)) rfl ?_
          refine xv_gi (pc := 84) (fr_get fo_75_1 10 rfl) ow_75 fg_8_175_10 rfl ?_
          exact ex_ireturn (pc := 87) (fr_get fo_75_1 11 rfl) rt_75 rfl rfl (ma_end_mk h)
        · replace h := h.2 c
          refine xv_tc (t := 88) ic_1 rfl (fun c => ?_) (fun c => ?_)
          · replace h := h.1 c
            refine ex_aload_n (pc := 88) (fr_get fo_75_1 12 rfl) rfl rfl ?_
            refine ex_gr (pc := 89) (fr_get fo_75_1 13 rfl) ow_75 fr_8_42_5 (q := (10, 0)) rfl ?_
            refine xv_gi (pc := 92) (fr_get fo_75_1 14 rfl) ow_75 fg_8_178_10 rfl ?_
            exact ex_ireturn (pc := 95) (fr_get fo_75_1 15 rfl) rt_75 rfl rfl (ma_end_mk h)
          · replace h := h.2 c
            refine xv_tc (t := 96) ic_2 rfl (fun c => ?_) (fun c => ?_)
            · replace h := h.1 c
              refine ex_aload_n (pc := 96) (fr_get fo_75_2 0 rfl) rfl rfl ?_
              refine ex_gr (pc := 97) (fr_get fo_75_2 1 rfl) ow_75 fr_8_42_5 (q := (10, 0)) rfl ?_
              refine xv_gi (pc := 100) (fr_get fo_75_2 2 rfl) ow_75 fg_8_181_10 rfl ?_
              exact ex_ireturn (pc := 103) (fr_get fo_75_2 3 rfl) rt_75 rfl rfl (ma_end_mk h)
            · replace h := h.2 c
              refine xv_tc (t := 104) ic_3 rfl (fun c => ?_) (fun c => ?_)
              · replace h := h.1 c
                refine ex_aload_n (pc := 104) (fr_get fo_75_2 4 rfl) rfl rfl ?_
                refine ex_gr (pc := 105) (fr_get fo_75_2 5 rfl) ow_75 fr_8_42_5 (q := (10, 0)) rfl ?_
                refine xv_gi (pc := 108) (fr_get fo_75_2 6 rfl) ow_75 fg_8_184_10 rfl ?_
                exact ex_ireturn (pc := 111) (fr_get fo_75_2 7 rfl) rt_75 rfl rfl (ma_end_mk h)
              · replace h := h.2 c
                refine xv_tc (t := 112) ic_4 rfl (fun c => ?_) (fun c => ?_)
                · replace h := h.1 c
                  refine ex_aload_n (pc := 112) (fr_get fo_75_2 8 rfl) rfl rfl ?_
                  refine ex_gr (pc := 113) (fr_get fo_75_2 9 rfl) ow_75 fr_8_42_5 (q := (10, 0)) rfl ?_
                  refine xv_kv1 (pc := 116) (fr_get fo_75_2 10 rfl) cc_75_187 (as := [.inr (.inr (10, 0))]) (rs := []) rfl rfl rfl rfl rfl ?_
                  refine sm_60 rfl rfl ?_
                  refine ⟨_, rfl, ?_⟩
                  exact ex_ireturn (pc := 119) (fr_get fo_75_2 11 rfl) rt_75 rfl rfl (ma_end_mk h)
                · replace h := h.2 c
                  refine xv_tn (t := 120) rfl ?_
                  refine ex_aload_n (pc := 120) (fr_get fo_75_2 12 rfl) rfl rfl ?_
                  refine ex_gr (pc := 121) (fr_get fo_75_2 13 rfl) ow_75 fr_8_42_5 (q := (10, 0)) rfl ?_
                  refine ex_iload_n (pc := 124) (fr_get fo_75_2 14 rfl) rfl ?_
                  refine ex_bipush (pc := 125) (fr_get fo_75_2 15 rfl) bp_10 ?_
                  refine ex_isub (pc := 127) (fr_get fo_75_3 0 rfl) ?_
                  refine xv_kv1 (pc := 128) (fr_get fo_75_3 1 rfl) cc_75_190 (as := [.inr (.inr (10, 0)), .inl (a3 - (10 : Int32))]) (rs := []) rfl rfl rfl rfl rfl ?_
                  refine h.mono (fun r J3 p4 h => ?_)
                  obtain ⟨x5, hr, h⟩ := h
                  refine ⟨x5, hr, ?_⟩
                  exact ex_ireturn (pc := 131) (fr_get fo_75_3 2 rfl) rt_75 rfl rfl (ma_end_mk h)
      · replace h := h.2 c
        refine ex_iload_n (pc := 23) (fr_get fo_75_0 11 rfl) rfl ?_
        refine ex_bipush (pc := 24) (fr_get fo_75_0 12 rfl) bp_10 ?_
        refine ex_bipush (pc := 26) (fr_get fo_75_0 13 rfl) bp_29 ?_
        refine xv_ks1 (pc := 28) (fr_get fo_75_0 14 rfl) cc_75_108 (as := [.inl a3, .inl (10 : Int32), .inl (29 : Int32)]) (rs := []) rfl rfl rfl rfl ?_
        refine sm_112 ?_
        refine ⟨_, rfl, ?_⟩
        refine xv_pne (pc := 31) (fr_get fo_75_0 15 rfl) (t := 37) rfl (fun c => ?_) (fun c => ?_)
        · replace h := h.1 c
          refine ex_aload_n (pc := 37) (fr_get fo_75_1 2 rfl) rfl rfl ?_
          refine ex_iload_n (pc := 38) (fr_get fo_75_1 3 rfl) rfl ?_
          refine ex_iload_n (pc := 39) (fr_get fo_75_1 4 rfl) rfl ?_
          refine xv_kv0 (pc := 40) (fr_get fo_75_1 5 rfl) cc_75_172 (as := [.inr (.inr (5, 0)), .inl a1, .inl a2]) (rs := []) rfl rfl rfl rfl rfl ?_
          refine h.mono (fun r J6 p7 h => ⟨h.1, ?_⟩)
          replace h := h.2
          refine ex_iload_n (pc := 43) (fr_get fo_75_1 6 rfl) rfl ?_
          refine xv_ts (pc := 44) (fr_get fo_75_1 7 rfl) (l := [36, 44, 52, 60, 68]) rfl tk_75_44 ?_
          refine xv_tc (t := 80) ic_0 rfl (fun c => ?_) (fun c => ?_)
          · replace h := h.1 c
            refine ex_aload_n (pc := 80) (fr_get fo_75_1 8 rfl) rfl rfl ?_
            refine ex_gr (pc := 81) (fr_get fo_75_1 9 rfl) ow_75 fr_8_42_5 (q := (10, 0)) rfl ?_
            refine xv_gi (pc := 84) (fr_get fo_75_1 10 rfl) ow_75 fg_8_175_10 rfl ?_
            exact ex_ireturn (pc := 87) (fr_get fo_75_1 11 rfl) rt_75 rfl rfl (ma_end_mk h)
          · replace h := h.2 c
            refine xv_tc (t := 88) ic_1 rfl (fun c => ?_) (fun c => ?_)
            · replace h := h.1 c
              refine ex_aload_n (pc := 88) (fr_get fo_75_1 12 rfl) rfl rfl ?_
              refine ex_gr (pc := 89) (fr_get fo_75_1 13 rfl) ow_75 fr_8_42_5 (q := (10, 0)) rfl ?_
              refine xv_gi (pc := 92) (fr_get fo_75_1 14 rfl) ow_75 fg_8_178_10 rfl ?_
              exact ex_ireturn (pc := 95) (fr_get fo_75_1 15 rfl) rt_75 rfl rfl (ma_end_mk h)
            · replace h := h.2 c
              refine xv_tc (t := 96) ic_2 rfl (fun c => ?_) (fun c => ?_)
              · replace h := h.1 c
                refine ex_aload_n (pc := 96) (fr_get fo_75_2 0 rfl) rfl rfl ?_
                refine ex_gr (pc := 97) (fr_get fo_75_2 1 rfl) ow_75 fr_8_42_5 (q := (10, 0)) rfl ?_
                refine xv_gi (pc := 100) (fr_get fo_75_2 2 rfl) ow_75 fg_8_181_10 rfl ?_
                exact ex_ireturn (pc := 103) (fr_get fo_75_2 3 rfl) rt_75 rfl rfl (ma_end_mk h)
              · replace h := h.2 c
                refine xv_tc (t := 104) ic_3 rfl (fun c => ?_) (fun c => ?_)
                · replace h := h.1 c
                  refine ex_aload_n (pc := 104) (fr_get fo_75_2 4 rfl) rfl rfl ?_
                  refine ex_gr (pc := 105) (fr_get fo_75_2 5 rfl) ow_75 fr_8_42_5 (q := (10, 0)) rfl ?_
                  refine xv_gi (pc := 108) (fr_get fo_75_2 6 rfl) ow_75 fg_8_184_10 rfl ?_
                  exact ex_ireturn (pc := 111) (fr_get fo_75_2 7 rfl) rt_75 rfl rfl (ma_end_mk h)
                · replace h := h.2 c
                  refine xv_tc (t := 112) ic_4 rfl (fun c => ?_) (fun c => ?_)
                  · replace h := h.1 c
                    refine ex_aload_n (pc := 112) (fr_get fo_75_2 8 rfl) rfl rfl ?_
                    refine ex_gr (pc := 113) (fr_get fo_75_2 9 rfl) ow_75 fr_8_42_5 (q := (10, 0)) rfl ?_
                    refine xv_kv1 (pc := 116) (fr_get fo_75_2 10 rfl) cc_75_187 (as := [.inr (.inr (10, 0))]) (rs := []) rfl rfl rfl rfl rfl ?_
                    refine sm_60 rfl rfl ?_
                    refine ⟨_, rfl, ?_⟩
                    exact ex_ireturn (pc := 119) (fr_get fo_75_2 11 rfl) rt_75 rfl rfl (ma_end_mk h)
                  · replace h := h.2 c
                    refine xv_tn (t := 120) rfl ?_
                    refine ex_aload_n (pc := 120) (fr_get fo_75_2 12 rfl) rfl rfl ?_
                    refine ex_gr (pc := 121) (fr_get fo_75_2 13 rfl) ow_75 fr_8_42_5 (q := (10, 0)) rfl ?_
                    refine ex_iload_n (pc := 124) (fr_get fo_75_2 14 rfl) rfl ?_
                    refine ex_bipush (pc := 125) (fr_get fo_75_2 15 rfl) bp_10 ?_
                    refine ex_isub (pc := 127) (fr_get fo_75_3 0 rfl) ?_
                    refine xv_kv1 (pc := 128) (fr_get fo_75_3 1 rfl) cc_75_190 (as := [.inr (.inr (10, 0)), .inl (a3 - (10 : Int32))]) (rs := []) rfl rfl rfl rfl rfl ?_
                    refine h.mono (fun r J8 p9 h => ?_)
                    obtain ⟨x10, hr, h⟩ := h
                    refine ⟨x10, hr, ?_⟩
                    exact ex_ireturn (pc := 131) (fr_get fo_75_3 2 rfl) rt_75 rfl rfl (ma_end_mk h)
        · replace h := h.2 c
          refine ex_bipush (pc := 34) (fr_get fo_75_1 0 rfl) bp_m2 ?_
          exact ex_ireturn (pc := 36) (fr_get fo_75_1 1 rfl) rt_75 rfl rfl (ma_end_mk h)

theorem e_76 {d : Nat} {I : ma_I} {o : Nat} {Q : ma_Q} {a1 : Int32} {a2 : Int32}
  (h :
    ((0 : Int32) ≤ a1 ∧ a1 ≤ (7 : Int32) →
      (a2 = (0 : Int32) →
        Exm (d + 1) 78 [.inr (.inr (5, 0)), .inl a1, .inl (xv_al (I 6 0 4))] I o (fun r J1 p2 => ∃ x3 : Int32, r = some (.inl x3) ∧
          Q (some (.inl x3)) J1 p2)) ∧
      (a2 ≠ (0 : Int32) →
        (a2 = (1 : Int32) →
          Exm (d + 1) 79 [.inr (.inr (5, 0)), .inl a1] I o (fun r J4 p5 => ∃ x6 : Int32, r = some (.inl x6) ∧
            Q (some (.inl x6)) J4 p5)) ∧
        (a2 ≠ (1 : Int32) →
          (a2 = (2 : Int32) →
            Exm (d + 1) 80 [.inr (.inr (5, 0)), .inl a1] I o (fun r J7 p8 => ∃ x9 : Int32, r = some (.inl x9) ∧
              Q (some (.inl x9)) J7 p8)) ∧
          (a2 ≠ (2 : Int32) →
            (a2 = (3 : Int32) →
              Exm (d + 1) 81 [.inr (.inr (5, 0)), .inl a1] I o (fun r J10 p11 => ∃ x12 : Int32, r = some (.inl x12) ∧
                Q (some (.inl x12)) J10 p11)) ∧
            (a2 ≠ (3 : Int32) →
              (a2 = (4 : Int32) →
                Exm (d + 1) 82 [.inr (.inr (5, 0)), .inl a1] I o (fun r J13 p14 => ∃ x15 : Int32, r = some (.inl x15) ∧
                  Q (some (.inl x15)) J13 p14)) ∧
              (a2 ≠ (4 : Int32) →
                (a2 = (5 : Int32) →
                  Exm (d + 1) 83 [.inr (.inr (5, 0)), .inl a1] I o (fun r J16 p17 => ∃ x18 : Int32, r = some (.inl x18) ∧
                    Q (some (.inl x18)) J16 p17)) ∧
                (a2 ≠ (5 : Int32) →
                  Q (some (.inl (-2 : Int32))) I o))))))) ∧
    (¬((0 : Int32) ≤ a1 ∧ a1 ≤ (7 : Int32)) →
      Q (some (.inl (-2 : Int32))) I o)) :
  Exm (d + 2) 76 [.inr (.inr (5, 0)), .inl a1, .inl a2] I o Q := by
  show Ex (d + 2) 76 (0, [some (.inr (.inr (5, 0))), some (.inl a1), some (.inl a2)], [], ma_mem I o, 0, 0) (ma_end Q)
  refine ex_iload_n (pc := 0) (fr_get fo_76_0 0 rfl) rfl ?_
  refine xv_ks1 (pc := 1) (fr_get fo_76_0 1 rfl) cc_76_88 (as := [.inl a1]) (rs := []) rfl rfl rfl rfl ?_
  refine sm_113 ?_
  refine ⟨_, rfl, ?_⟩
  refine xv_pne (pc := 4) (fr_get fo_76_0 2 rfl) (t := 10) rfl (fun c => ?_) (fun c => ?_)
  · replace h := h.1 c
    refine ex_iload_n (pc := 10) (fr_get fo_76_0 5 rfl) rfl ?_
    refine xv_ts (pc := 11) (fr_get fo_76_0 6 rfl) (l := [37, 50, 56, 62, 68, 74]) rfl tk_76_11 ?_
    refine xv_tc (t := 48) ic_0 rfl (fun c => ?_) (fun c => ?_)
    · replace h := h.1 c
      refine ex_aload_n (pc := 48) (fr_get fo_76_0 7 rfl) rfl rfl ?_
      refine ex_iload_n (pc := 49) (fr_get fo_76_0 8 rfl) rfl ?_
      refine ex_aload_n (pc := 50) (fr_get fo_76_0 9 rfl) rfl rfl ?_
      refine ex_gr (pc := 51) (fr_get fo_76_0 10 rfl) ow_76 fr_8_12_5 (q := (6, 0)) rfl ?_
      refine xv_kv1 (pc := 54) (fr_get fo_76_0 11 rfl) cc_76_193 (as := [.inr (.inr (6, 0))]) (rs := [.inl a1, .inr (.inr (5, 0))]) rfl rfl rfl rfl rfl ?_
      refine sm_15 rfl ?_
      refine ⟨_, rfl, ?_⟩
      refine xv_kv1 (pc := 57) (fr_get fo_76_0 12 rfl) cc_76_196 (as := [.inr (.inr (5, 0)), .inl a1, .inl (xv_al (I 6 0 4))]) (rs := []) rfl rfl rfl rfl rfl ?_
      refine h.mono (fun r J1 p2 h => ?_)
      obtain ⟨x3, hr, h⟩ := h
      refine ⟨x3, hr, ?_⟩
      exact ex_ireturn (pc := 60) (fr_get fo_76_0 13 rfl) rt_76 rfl rfl (ma_end_mk h)
    · replace h := h.2 c
      refine xv_tc (t := 61) ic_1 rfl (fun c => ?_) (fun c => ?_)
      · replace h := h.1 c
        refine ex_aload_n (pc := 61) (fr_get fo_76_0 14 rfl) rfl rfl ?_
        refine ex_iload_n (pc := 62) (fr_get fo_76_0 15 rfl) rfl ?_
        refine xv_kv1 (pc := 63) (fr_get fo_76_1 0 rfl) cc_76_199 (as := [.inr (.inr (5, 0)), .inl a1]) (rs := []) rfl rfl rfl rfl rfl ?_
        refine h.mono (fun r J4 p5 h => ?_)
        obtain ⟨x6, hr, h⟩ := h
        refine ⟨x6, hr, ?_⟩
        exact ex_ireturn (pc := 66) (fr_get fo_76_1 1 rfl) rt_76 rfl rfl (ma_end_mk h)
      · replace h := h.2 c
        refine xv_tc (t := 67) ic_2 rfl (fun c => ?_) (fun c => ?_)
        · replace h := h.1 c
          refine ex_aload_n (pc := 67) (fr_get fo_76_1 2 rfl) rfl rfl ?_
          refine ex_iload_n (pc := 68) (fr_get fo_76_1 3 rfl) rfl ?_
          refine xv_kv1 (pc := 69) (fr_get fo_76_1 4 rfl) cc_76_202 (as := [.inr (.inr (5, 0)), .inl a1]) (rs := []) rfl rfl rfl rfl rfl ?_
          refine h.mono (fun r J7 p8 h => ?_)
          obtain ⟨x9, hr, h⟩ := h
          refine ⟨x9, hr, ?_⟩
          exact ex_ireturn (pc := 72) (fr_get fo_76_1 5 rfl) rt_76 rfl rfl (ma_end_mk h)
        · replace h := h.2 c
          refine xv_tc (t := 73) ic_3 rfl (fun c => ?_) (fun c => ?_)
          · replace h := h.1 c
            refine ex_aload_n (pc := 73) (fr_get fo_76_1 6 rfl) rfl rfl ?_
            refine ex_iload_n (pc := 74) (fr_get fo_76_1 7 rfl) rfl ?_
            refine xv_kv1 (pc := 75) (fr_get fo_76_1 8 rfl) cc_76_205 (as := [.inr (.inr (5, 0)), .inl a1]) (rs := []) rfl rfl rfl rfl rfl ?_
            refine h.mono (fun r J10 p11 h => ?_)
            obtain ⟨x12, hr, h⟩ := h
            refine ⟨x12, hr, ?_⟩
            exact ex_ireturn (pc := 78) (fr_get fo_76_1 9 rfl) rt_76 rfl rfl (ma_end_mk h)
          · replace h := h.2 c
            refine xv_tc (t := 79) ic_4 rfl (fun c => ?_) (fun c => ?_)
            · replace h := h.1 c
              refine ex_aload_n (pc := 79) (fr_get fo_76_1 10 rfl) rfl rfl ?_
              refine ex_iload_n (pc := 80) (fr_get fo_76_1 11 rfl) rfl ?_
              refine xv_kv1 (pc := 81) (fr_get fo_76_1 12 rfl) cc_76_208 (as := [.inr (.inr (5, 0)), .inl a1]) (rs := []) rfl rfl rfl rfl rfl ?_
              refine h.mono (fun r J13 p14 h => ?_)
              obtain ⟨x15, hr, h⟩ := h
              refine ⟨x15, hr, ?_⟩
              exact ex_ireturn (pc := 84) (fr_get fo_76_1 13 rfl) rt_76 rfl rfl (ma_end_mk h)
            · replace h := h.2 c
              refine xv_tc (t := 85) ic_5 rfl (fun c => ?_) (fun c => ?_)
              · replace h := h.1 c
                refine ex_aload_n (pc := 85) (fr_get fo_76_1 14 rfl) rfl rfl ?_
                refine ex_iload_n (pc := 86) (fr_get fo_76_1 15 rfl) rfl ?_
                refine xv_kv1 (pc := 87) (fr_get fo_76_2 0 rfl) cc_76_211 (as := [.inr (.inr (5, 0)), .inl a1]) (rs := []) rfl rfl rfl rfl rfl ?_
                refine h.mono (fun r J16 p17 h => ?_)
                obtain ⟨x18, hr, h⟩ := h
                refine ⟨x18, hr, ?_⟩
                exact ex_ireturn (pc := 90) (fr_get fo_76_2 1 rfl) rt_76 rfl rfl (ma_end_mk h)
              · replace h := h.2 c
                refine xv_tn (t := 91) rfl ?_
                refine ex_bipush (pc := 91) (fr_get fo_76_2 2 rfl) bp_m2 ?_
                exact ex_ireturn (pc := 93) (fr_get fo_76_2 3 rfl) rt_76 rfl rfl (ma_end_mk h)
  · replace h := h.2 c
    refine ex_bipush (pc := 7) (fr_get fo_76_0 3 rfl) bp_m2 ?_
    exact ex_ireturn (pc := 9) (fr_get fo_76_0 4 rfl) rt_76 rfl rfl (ma_end_mk h)

theorem e_77 {d : Nat} {I : ma_I} {o : Nat} {Q : ma_Q} {a1 : Int32} {a2 : Int32}
  (h :
    Exm (d) 57 [.inr (.inr (10, 0)), .inr (.inr (6, 0)), .inl a1, .inl a2, .inl (xv_al (I 6 0 4))] I o (fun r J1 p2 => r = none ∧
      Q none J1 p2)) :
  Exm (d + 1) 77 [.inr (.inr (5, 0)), .inl a1, .inl a2] I o Q := by
  show Ex (d + 1) 77 (0, [some (.inr (.inr (5, 0))), some (.inl a1), some (.inl a2)], [], ma_mem I o, 0, 0) (ma_end Q)
  refine ex_aload_n (pc := 0) (fr_get fo_77_0 0 rfl) rfl rfl ?_
  refine ex_gr (pc := 1) (fr_get fo_77_0 1 rfl) ow_77 fr_8_42_5 (q := (10, 0)) rfl ?_
  refine ex_aload_n (pc := 4) (fr_get fo_77_0 2 rfl) rfl rfl ?_
  refine ex_gr (pc := 5) (fr_get fo_77_0 3 rfl) ow_77 fr_8_12_5 (q := (6, 0)) rfl ?_
  refine ex_iload_n (pc := 8) (fr_get fo_77_0 4 rfl) rfl ?_
  refine ex_iload_n (pc := 9) (fr_get fo_77_0 5 rfl) rfl ?_
  refine ex_aload_n (pc := 10) (fr_get fo_77_0 6 rfl) rfl rfl ?_
  refine ex_gr (pc := 11) (fr_get fo_77_0 7 rfl) ow_77 fr_8_12_5 (q := (6, 0)) rfl ?_
  refine xv_kv1 (pc := 14) (fr_get fo_77_0 8 rfl) cc_77_193 (as := [.inr (.inr (6, 0))]) (rs := [.inl a2, .inl a1, .inr (.inr (6, 0)), .inr (.inr (10, 0))]) rfl rfl rfl rfl rfl ?_
  refine sm_15 rfl ?_
  refine ⟨_, rfl, ?_⟩
  refine xv_kv0 (pc := 17) (fr_get fo_77_0 9 rfl) cc_77_214 (as := [.inr (.inr (10, 0)), .inr (.inr (6, 0)), .inl a1, .inl a2, .inl (xv_al (I 6 0 4))]) (rs := []) rfl rfl rfl rfl rfl ?_
  refine h.mono (fun r J1 p2 h => ⟨h.1, ?_⟩)
  replace h := h.2
  exact ex_return (pc := 20) (fr_get fo_77_0 10 rfl) rt_77 rfl rfl (ma_end_mk h)

theorem e_78 {d : Nat} {I : ma_I} {o : Nat} {Q : ma_Q} {a1 : Int32} {a2 : Int32}
  (h :
    Ex (d + 1) 78 (5, [some (.inr (.inr (5, 0))), some (.inl a1), some (.inl a2), some (.inl (0 : Int32)), some (.inl (0 : Int32))], [], ma_mem I o, 0, 0) (ma_end Q)) :
  Exm (d + 1) 78 [.inr (.inr (5, 0)), .inl a1, .inl a2] I o Q := by
  show Ex (d + 1) 78 (0, [some (.inr (.inr (5, 0))), some (.inl a1), some (.inl a2), none, none], [], ma_mem I o, 0, 0) (ma_end Q)
  refine ex_iconst (pc := 0) (fr_get fo_78_0 0 rfl) ic_0 ?_
  refine ex_istore_n (pc := 1) (fr_get fo_78_0 1 rfl) rfl (L' := [some (.inr (.inr (5, 0))), some (.inl a1), some (.inl a2), some (.inl (0 : Int32)), none]) rfl ?_
  refine ex_iconst (pc := 2) (fr_get fo_78_0 2 rfl) ic_0 ?_
  refine ex_istore (pc := 3) (fr_get fo_78_0 3 rfl) rfl (L' := [some (.inr (.inr (5, 0))), some (.inl a1), some (.inl a2), some (.inl (0 : Int32)), some (.inl (0 : Int32))]) rfl ?_
  exact h

theorem b_78_5 {d : Nat} {I : ma_I} {o : Nat} {Q : ma_Q} {v1 : Int32} {v2 : Int32} {v3 : Int32} {v4 : Int32}
  (h :
    ((100 : Int32) ≤ v4 →
      Q (some (.inl v3)) I o) ∧
    (v4 < (100 : Int32) →
      Exm (d) 57 [.inr (.inr (10, 0)), .inr (.inr (6, 0)), .inl v1, .inl v4, .inl v2] I o (fun r J1 p2 => r = none ∧
        (J1 10 0 0 ≠ 0 →
          Ex (d + 1) 78 (5, [some (.inr (.inr (5, 0))), some (.inl v1), some (.inl v2), some (.inl v3), some (.inl (v4 + (1 : Int32)))], [], ma_mem J1 p2, 0, 0) (ma_end Q)) ∧
        (J1 10 0 0 = 0 →
          Ex (d + 1) 78 (5, [some (.inr (.inr (5, 0))), some (.inl v1), some (.inl v2), some (.inl (v3 + (1 : Int32))), some (.inl (v4 + (1 : Int32)))], [], ma_mem J1 p2, 0, 0) (ma_end Q))))) :
  Ex (d + 1) 78 (5, [some (.inr (.inr (5, 0))), some (.inl v1), some (.inl v2), some (.inl v3), some (.inl v4)], [], ma_mem I o, 0, 0) (ma_end Q) := by
  refine ex_iload (pc := 5) (fr_get fo_78_0 4 rfl) rfl ?_
  refine ex_bipush (pc := 7) (fr_get fo_78_0 5 rfl) bp_100 ?_
  refine xv_cge (pc := 9) (fr_get fo_78_0 6 rfl) (t := 46) rfl (fun c => ?_) (fun c => ?_)
  · replace h := h.1 c
    refine ex_iload_n (pc := 46) (fr_get fo_78_1 6 rfl) rfl ?_
    exact ex_ireturn (pc := 47) (fr_get fo_78_1 7 rfl) rt_78 rfl rfl (ma_end_mk h)
  · replace h := h.2 c
    refine ex_aload_n (pc := 12) (fr_get fo_78_0 7 rfl) rfl rfl ?_
    refine ex_gr (pc := 13) (fr_get fo_78_0 8 rfl) ow_78 fr_8_42_5 (q := (10, 0)) rfl ?_
    refine ex_aload_n (pc := 16) (fr_get fo_78_0 9 rfl) rfl rfl ?_
    refine ex_gr (pc := 17) (fr_get fo_78_0 10 rfl) ow_78 fr_8_12_5 (q := (6, 0)) rfl ?_
    refine ex_iload_n (pc := 20) (fr_get fo_78_0 11 rfl) rfl ?_
    refine ex_iload (pc := 21) (fr_get fo_78_0 12 rfl) rfl ?_
    refine ex_iload_n (pc := 23) (fr_get fo_78_0 13 rfl) rfl ?_
    refine xv_kv0 (pc := 24) (fr_get fo_78_0 14 rfl) cc_78_214 (as := [.inr (.inr (10, 0)), .inr (.inr (6, 0)), .inl v1, .inl v4, .inl v2]) (rs := []) rfl rfl rfl rfl rfl ?_
    refine h.mono (fun r J1 p2 h => ⟨h.1, ?_⟩)
    replace h := h.2
    refine ex_aload_n (pc := 27) (fr_get fo_78_0 15 rfl) rfl rfl ?_
    refine ex_gr (pc := 28) (fr_get fo_78_1 0 rfl) ow_78 fr_8_42_5 (q := (10, 0)) rfl ?_
    refine xv_gi (pc := 31) (fr_get fo_78_1 1 rfl) ow_78 fg_8_175_10 rfl ?_
    refine xv_bne (pc := 34) (fr_get fo_78_1 2 rfl) (t := 40) rfl (fun c => ?_) (fun c => ?_)
    · replace h := h.1 c
      refine xv_iinc (pc := 40) (fr_get fo_78_1 4 rfl) rfl ic_1 (L' := [some (.inr (.inr (5, 0))), some (.inl v1), some (.inl v2), some (.inl v3), some (.inl (v4 + (1 : Int32)))]) rfl ?_
      refine ex_goto (pc := 43) (fr_get fo_78_1 5 rfl) (t := 5) rfl ?_
      exact h
    · replace h := h.2 c
      refine xv_iinc (pc := 37) (fr_get fo_78_1 3 rfl) rfl ic_1 (L' := [some (.inr (.inr (5, 0))), some (.inl v1), some (.inl v2), some (.inl (v3 + (1 : Int32))), some (.inl v4)]) rfl ?_
      refine xv_iinc (pc := 40) (fr_get fo_78_1 4 rfl) rfl ic_1 (L' := [some (.inr (.inr (5, 0))), some (.inl v1), some (.inl v2), some (.inl (v3 + (1 : Int32))), some (.inl (v4 + (1 : Int32)))]) rfl ?_
      refine ex_goto (pc := 43) (fr_get fo_78_1 5 rfl) (t := 5) rfl ?_
      exact h

theorem e_79 {d : Nat} {I : ma_I} {o : Nat} {Q : ma_Q} {a1 : Int32}
  (h :
    Ex (d + 1) 79 (3, [some (.inr (.inr (5, 0))), some (.inl a1), some (.inl (99 : Int32))], [], ma_mem I o, 0, 0) (ma_end Q)) :
  Exm (d + 1) 79 [.inr (.inr (5, 0)), .inl a1] I o Q := by
  show Ex (d + 1) 79 (0, [some (.inr (.inr (5, 0))), some (.inl a1), none], [], ma_mem I o, 0, 0) (ma_end Q)
  refine ex_bipush (pc := 0) (fr_get fo_79_0 0 rfl) bp_99 ?_
  refine ex_istore_n (pc := 2) (fr_get fo_79_0 1 rfl) rfl (L' := [some (.inr (.inr (5, 0))), some (.inl a1), some (.inl (99 : Int32))]) rfl ?_
  exact h

theorem b_79_3 {d : Nat} {I : ma_I} {o : Nat} {Q : ma_Q} {v1 : Int32} {v2 : Int32}
  (h :
    (v2 < 0 →
      Q (some (.inl (-1 : Int32))) I o) ∧
    (0 ≤ v2 →
      Exm (d) 77 [.inr (.inr (5, 0)), .inl v1, .inl v2] I o (fun r J1 p2 => r = none ∧
        (J1 10 0 0 ≠ 0 →
          Ex (d + 1) 79 (3, [some (.inr (.inr (5, 0))), some (.inl v1), some (.inl (v2 + (-1 : Int32)))], [], ma_mem J1 p2, 0, 0) (ma_end Q)) ∧
        (J1 10 0 0 = 0 →
          Q (some (.inl v2)) J1 p2)))) :
  Ex (d + 1) 79 (3, [some (.inr (.inr (5, 0))), some (.inl v1), some (.inl v2)], [], ma_mem I o, 0, 0) (ma_end Q) := by
  refine ex_iload_n (pc := 3) (fr_get fo_79_0 2 rfl) rfl ?_
  refine xv_blt (pc := 4) (fr_get fo_79_0 3 rfl) (t := 31) rfl (fun c => ?_) (fun c => ?_)
  · replace h := h.1 c
    refine ex_iconst (pc := 31) (fr_get fo_79_1 0 rfl) ic_m1 ?_
    exact ex_ireturn (pc := 32) (fr_get fo_79_1 1 rfl) rt_79 rfl rfl (ma_end_mk h)
  · replace h := h.2 c
    refine ex_aload_n (pc := 7) (fr_get fo_79_0 4 rfl) rfl rfl ?_
    refine ex_iload_n (pc := 8) (fr_get fo_79_0 5 rfl) rfl ?_
    refine ex_iload_n (pc := 9) (fr_get fo_79_0 6 rfl) rfl ?_
    refine xv_kv0 (pc := 10) (fr_get fo_79_0 7 rfl) cc_79_172 (as := [.inr (.inr (5, 0)), .inl v1, .inl v2]) (rs := []) rfl rfl rfl rfl rfl ?_
    refine h.mono (fun r J1 p2 h => ⟨h.1, ?_⟩)
    replace h := h.2
    refine ex_aload_n (pc := 13) (fr_get fo_79_0 8 rfl) rfl rfl ?_
    refine ex_gr (pc := 14) (fr_get fo_79_0 9 rfl) ow_79 fr_8_42_5 (q := (10, 0)) rfl ?_
    refine xv_gi (pc := 17) (fr_get fo_79_0 10 rfl) ow_79 fg_8_175_10 rfl ?_
    refine xv_bne (pc := 20) (fr_get fo_79_0 11 rfl) (t := 25) rfl (fun c => ?_) (fun c => ?_)
    · replace h := h.1 c
      refine xv_iinc (pc := 25) (fr_get fo_79_0 14 rfl) rfl ic_m1 (L' := [some (.inr (.inr (5, 0))), some (.inl v1), some (.inl (v2 + (-1 : Int32)))]) rfl ?_
      refine ex_goto (pc := 28) (fr_get fo_79_0 15 rfl) (t := 3) rfl ?_
      exact h
    · replace h := h.2 c
      refine ex_iload_n (pc := 23) (fr_get fo_79_0 12 rfl) rfl ?_
      exact ex_ireturn (pc := 24) (fr_get fo_79_0 13 rfl) rt_79 rfl rfl (ma_end_mk h)

theorem e_80 {d : Nat} {I : ma_I} {o : Nat} {Q : ma_Q} {a1 : Int32}
  (h :
    Ex (d + 1) 80 (4, [some (.inr (.inr (5, 0))), some (.inl a1), some (.inl (0 : Int32)), some (.inl (0 : Int32))], [], ma_mem I o, 0, 0) (ma_end Q)) :
  Exm (d + 1) 80 [.inr (.inr (5, 0)), .inl a1] I o Q := by
  show Ex (d + 1) 80 (0, [some (.inr (.inr (5, 0))), some (.inl a1), none, none], [], ma_mem I o, 0, 0) (ma_end Q)
  refine ex_iconst (pc := 0) (fr_get fo_80_0 0 rfl) ic_0 ?_
  refine ex_istore_n (pc := 1) (fr_get fo_80_0 1 rfl) rfl (L' := [some (.inr (.inr (5, 0))), some (.inl a1), some (.inl (0 : Int32)), none]) rfl ?_
  refine ex_iconst (pc := 2) (fr_get fo_80_0 2 rfl) ic_0 ?_
  refine ex_istore_n (pc := 3) (fr_get fo_80_0 3 rfl) rfl (L' := [some (.inr (.inr (5, 0))), some (.inl a1), some (.inl (0 : Int32)), some (.inl (0 : Int32))]) rfl ?_
  exact h

theorem b_80_4 {d : Nat} {I : ma_I} {o : Nat} {Q : ma_Q} {v1 : Int32} {v2 : Int32} {v3 : Int32}
  (h :
    ((100 : Int32) ≤ v3 →
      Q (some (.inl v2)) I o) ∧
    (v3 < (100 : Int32) →
      Exm (d) 77 [.inr (.inr (5, 0)), .inl v1, .inl v3] I o (fun r J1 p2 => r = none ∧
        (J1 10 0 0 = 0 →
          Ex (d + 1) 80 (4, [some (.inr (.inr (5, 0))), some (.inl v1), some (.inl v2), some (.inl (v3 + (1 : Int32)))], [], ma_mem J1 p2, 0, 0) (ma_end Q)) ∧
        (J1 10 0 0 ≠ 0 →
          Exm (d) 23 [.inr (.inr (6, 0)), .inl v1, .inl v3, .inl (J1 10 0 3), .inl ((J1 10 0 1) - (J1 10 0 7))] J1 p2 (fun r J3 p4 => ∃ x5 : Int32, r = some (.inl x5) ∧
            Ex (d + 1) 80 (4, [some (.inr (.inr (5, 0))), some (.inl v1), some (.inl (v2 + x5)), some (.inl (v3 + (1 : Int32)))], [], ma_mem J3 p4, 0, 0) (ma_end Q)))))) :
  Ex (d + 1) 80 (4, [some (.inr (.inr (5, 0))), some (.inl v1), some (.inl v2), some (.inl v3)], [], ma_mem I o, 0, 0) (ma_end Q) := by
  refine ex_iload_n (pc := 4) (fr_get fo_80_0 4 rfl) rfl ?_
  refine ex_bipush (pc := 5) (fr_get fo_80_0 5 rfl) bp_100 ?_
  refine xv_cge (pc := 7) (fr_get fo_80_0 6 rfl) (t := 58) rfl (fun c => ?_) (fun c => ?_)
  · replace h := h.1 c
    refine ex_iload_n (pc := 58) (fr_get fo_80_1 15 rfl) rfl ?_
    exact ex_ireturn (pc := 59) (fr_get fo_80_2 0 rfl) rt_80 rfl rfl (ma_end_mk h)
  · replace h := h.2 c
    refine ex_aload_n (pc := 10) (fr_get fo_80_0 7 rfl) rfl rfl ?_
    refine ex_iload_n (pc := 11) (fr_get fo_80_0 8 rfl) rfl ?_
    refine ex_iload_n (pc := 12) (fr_get fo_80_0 9 rfl) rfl ?_
    refine xv_kv0 (pc := 13) (fr_get fo_80_0 10 rfl) cc_80_172 (as := [.inr (.inr (5, 0)), .inl v1, .inl v3]) (rs := []) rfl rfl rfl rfl rfl ?_
    refine h.mono (fun r J1 p2 h => ⟨h.1, ?_⟩)
    replace h := h.2
    refine ex_aload_n (pc := 16) (fr_get fo_80_0 11 rfl) rfl rfl ?_
    refine ex_gr (pc := 17) (fr_get fo_80_0 12 rfl) ow_80 fr_8_42_5 (q := (10, 0)) rfl ?_
    refine xv_gi (pc := 20) (fr_get fo_80_0 13 rfl) ow_80 fg_8_175_10 rfl ?_
    refine xv_beq (pc := 23) (fr_get fo_80_0 14 rfl) (t := 52) rfl (fun c => ?_) (fun c => ?_)
    · replace h := h.1 c
      refine xv_iinc (pc := 52) (fr_get fo_80_1 13 rfl) rfl ic_1 (L' := [some (.inr (.inr (5, 0))), some (.inl v1), some (.inl v2), some (.inl (v3 + (1 : Int32)))]) rfl ?_
      refine ex_goto (pc := 55) (fr_get fo_80_1 14 rfl) (t := 4) rfl ?_
      exact h
    · replace h := h.2 c
      refine ex_iload_n (pc := 26) (fr_get fo_80_0 15 rfl) rfl ?_
      refine ex_aload_n (pc := 27) (fr_get fo_80_1 0 rfl) rfl rfl ?_
      refine ex_gr (pc := 28) (fr_get fo_80_1 1 rfl) ow_80 fr_8_12_5 (q := (6, 0)) rfl ?_
      refine ex_iload_n (pc := 31) (fr_get fo_80_1 2 rfl) rfl ?_
      refine ex_iload_n (pc := 32) (fr_get fo_80_1 3 rfl) rfl ?_
      refine ex_aload_n (pc := 33) (fr_get fo_80_1 4 rfl) rfl rfl ?_
      refine ex_gr (pc := 34) (fr_get fo_80_1 5 rfl) ow_80 fr_8_42_5 (q := (10, 0)) rfl ?_
      refine xv_gi (pc := 37) (fr_get fo_80_1 6 rfl) ow_80 fg_8_184_10 rfl ?_
      refine ex_aload_n (pc := 40) (fr_get fo_80_1 7 rfl) rfl rfl ?_
      refine ex_gr (pc := 41) (fr_get fo_80_1 8 rfl) ow_80 fr_8_42_5 (q := (10, 0)) rfl ?_
      refine xv_kv1 (pc := 44) (fr_get fo_80_1 9 rfl) cc_80_187 (as := [.inr (.inr (10, 0))]) (rs := [.inl (J1 10 0 3), .inl v3, .inl v1, .inr (.inr (6, 0)), .inl v2]) rfl rfl rfl rfl rfl ?_
      refine sm_60 rfl rfl ?_
      refine ⟨_, rfl, ?_⟩
      refine xv_kv1 (pc := 47) (fr_get fo_80_1 10 rfl) cc_80_218 (as := [.inr (.inr (6, 0)), .inl v1, .inl v3, .inl (J1 10 0 3), .inl ((J1 10 0 1) - (J1 10 0 7))]) (rs := [.inl v2]) rfl rfl rfl rfl rfl ?_
      refine h.mono (fun r J3 p4 h => ?_)
      obtain ⟨x5, hr, h⟩ := h
      refine ⟨x5, hr, ?_⟩
      refine ex_iadd (pc := 50) (fr_get fo_80_1 11 rfl) ?_
      refine ex_istore_n (pc := 51) (fr_get fo_80_1 12 rfl) rfl (L' := [some (.inr (.inr (5, 0))), some (.inl v1), some (.inl (v2 + x5)), some (.inl v3)]) rfl ?_
      refine xv_iinc (pc := 52) (fr_get fo_80_1 13 rfl) rfl ic_1 (L' := [some (.inr (.inr (5, 0))), some (.inl v1), some (.inl (v2 + x5)), some (.inl (v3 + (1 : Int32)))]) rfl ?_
      refine ex_goto (pc := 55) (fr_get fo_80_1 14 rfl) (t := 4) rfl ?_
      exact h

theorem e_81 {d : Nat} {I : ma_I} {o : Nat} {Q : ma_Q} {a1 : Int32}
  (h :
    Ex (d + 1) 81 (4, [some (.inr (.inr (5, 0))), some (.inl a1), some (.inl (-1 : Int32)), some (.inl (0 : Int32))], [], ma_mem I o, 0, 0) (ma_end Q)) :
  Exm (d + 1) 81 [.inr (.inr (5, 0)), .inl a1] I o Q := by
  show Ex (d + 1) 81 (0, [some (.inr (.inr (5, 0))), some (.inl a1), none, none], [], ma_mem I o, 0, 0) (ma_end Q)
  refine ex_iconst (pc := 0) (fr_get fo_81_0 0 rfl) ic_m1 ?_
  refine ex_istore_n (pc := 1) (fr_get fo_81_0 1 rfl) rfl (L' := [some (.inr (.inr (5, 0))), some (.inl a1), some (.inl (-1 : Int32)), none]) rfl ?_
  refine ex_iconst (pc := 2) (fr_get fo_81_0 2 rfl) ic_0 ?_
  refine ex_istore_n (pc := 3) (fr_get fo_81_0 3 rfl) rfl (L' := [some (.inr (.inr (5, 0))), some (.inl a1), some (.inl (-1 : Int32)), some (.inl (0 : Int32))]) rfl ?_
  exact h

theorem b_81_4 {d : Nat} {I : ma_I} {o : Nat} {Q : ma_Q} {v1 : Int32} {v2 : Int32} {v3 : Int32}
  (h :
    ((100 : Int32) ≤ v3 →
      Q (some (.inl v2)) I o) ∧
    (v3 < (100 : Int32) →
      Exm (d) 77 [.inr (.inr (5, 0)), .inl v1, .inl v3] I o (fun r J1 p2 => r = none ∧
        (J1 10 0 0 ≠ 0 →
          Ex (d + 1) 81 (4, [some (.inr (.inr (5, 0))), some (.inl v1), some (.inl v2), some (.inl (v3 + (1 : Int32)))], [], ma_mem J1 p2, 0, 0) (ma_end Q)) ∧
        (J1 10 0 0 = 0 →
          Ex (d + 1) 81 (4, [some (.inr (.inr (5, 0))), some (.inl v1), some (.inl (if v2 < (J1 10 0 1) - (J1 10 0 7) then (J1 10 0 1) - (J1 10 0 7) else v2)), some (.inl (v3 + (1 : Int32)))], [], ma_mem J1 p2, 0, 0) (ma_end Q))))) :
  Ex (d + 1) 81 (4, [some (.inr (.inr (5, 0))), some (.inl v1), some (.inl v2), some (.inl v3)], [], ma_mem I o, 0, 0) (ma_end Q) := by
  refine ex_iload_n (pc := 4) (fr_get fo_81_0 4 rfl) rfl ?_
  refine ex_bipush (pc := 5) (fr_get fo_81_0 5 rfl) bp_100 ?_
  refine xv_cge (pc := 7) (fr_get fo_81_0 6 rfl) (t := 44) rfl (fun c => ?_) (fun c => ?_)
  · replace h := h.1 c
    refine ex_iload_n (pc := 44) (fr_get fo_81_1 7 rfl) rfl ?_
    exact ex_ireturn (pc := 45) (fr_get fo_81_1 8 rfl) rt_81 rfl rfl (ma_end_mk h)
  · replace h := h.2 c
    refine ex_aload_n (pc := 10) (fr_get fo_81_0 7 rfl) rfl rfl ?_
    refine ex_iload_n (pc := 11) (fr_get fo_81_0 8 rfl) rfl ?_
    refine ex_iload_n (pc := 12) (fr_get fo_81_0 9 rfl) rfl ?_
    refine xv_kv0 (pc := 13) (fr_get fo_81_0 10 rfl) cc_81_172 (as := [.inr (.inr (5, 0)), .inl v1, .inl v3]) (rs := []) rfl rfl rfl rfl rfl ?_
    refine h.mono (fun r J1 p2 h => ⟨h.1, ?_⟩)
    replace h := h.2
    refine ex_aload_n (pc := 16) (fr_get fo_81_0 11 rfl) rfl rfl ?_
    refine ex_gr (pc := 17) (fr_get fo_81_0 12 rfl) ow_81 fr_8_42_5 (q := (10, 0)) rfl ?_
    refine xv_gi (pc := 20) (fr_get fo_81_0 13 rfl) ow_81 fg_8_175_10 rfl ?_
    refine xv_bne (pc := 23) (fr_get fo_81_0 14 rfl) (t := 38) rfl (fun c => ?_) (fun c => ?_)
    · replace h := h.1 c
      refine xv_iinc (pc := 38) (fr_get fo_81_1 5 rfl) rfl ic_1 (L' := [some (.inr (.inr (5, 0))), some (.inl v1), some (.inl v2), some (.inl (v3 + (1 : Int32)))]) rfl ?_
      refine ex_goto (pc := 41) (fr_get fo_81_1 6 rfl) (t := 4) rfl ?_
      exact h
    · replace h := h.2 c
      refine ex_iload_n (pc := 26) (fr_get fo_81_0 15 rfl) rfl ?_
      refine ex_aload_n (pc := 27) (fr_get fo_81_1 0 rfl) rfl rfl ?_
      refine ex_gr (pc := 28) (fr_get fo_81_1 1 rfl) ow_81 fr_8_42_5 (q := (10, 0)) rfl ?_
      refine xv_kv1 (pc := 31) (fr_get fo_81_1 2 rfl) cc_81_187 (as := [.inr (.inr (10, 0))]) (rs := [.inl v2]) rfl rfl rfl rfl rfl ?_
      refine sm_60 rfl rfl ?_
      refine ⟨_, rfl, ?_⟩
      refine ex_max (pc := 34) (fr_get fo_81_1 3 rfl) ow_81 cm_8_221 rfl rfl rfl ?_
      refine ex_istore_n (pc := 37) (fr_get fo_81_1 4 rfl) rfl (L' := [some (.inr (.inr (5, 0))), some (.inl v1), some (.inl (if v2 < (J1 10 0 1) - (J1 10 0 7) then (J1 10 0 1) - (J1 10 0 7) else v2)), some (.inl v3)]) rfl ?_
      refine xv_iinc (pc := 38) (fr_get fo_81_1 5 rfl) rfl ic_1 (L' := [some (.inr (.inr (5, 0))), some (.inl v1), some (.inl (if v2 < (J1 10 0 1) - (J1 10 0 7) then (J1 10 0 1) - (J1 10 0 7) else v2)), some (.inl (v3 + (1 : Int32)))]) rfl ?_
      refine ex_goto (pc := 41) (fr_get fo_81_1 6 rfl) (t := 4) rfl ?_
      exact h

theorem e_82 {d : Nat} {I : ma_I} {o : Nat} {Q : ma_Q} {a1 : Int32}
  (h :
    Ex (d + 1) 82 (10, [some (.inr (.inr (5, 0))), some (.inl a1), some (.inl (0 : Int32)), some (.inl (1000 : Int32)), some (.inl (99 : Int32))], [], ma_mem I o, 0, 0) (ma_end Q)) :
  Exm (d + 1) 82 [.inr (.inr (5, 0)), .inl a1] I o Q := by
  show Ex (d + 1) 82 (0, [some (.inr (.inr (5, 0))), some (.inl a1), none, none, none], [], ma_mem I o, 0, 0) (ma_end Q)
  refine ex_iconst (pc := 0) (fr_get fo_82_0 0 rfl) ic_0 ?_
  refine ex_istore_n (pc := 1) (fr_get fo_82_0 1 rfl) rfl (L' := [some (.inr (.inr (5, 0))), some (.inl a1), some (.inl (0 : Int32)), none, none]) rfl ?_
  refine ex_sipush (pc := 2) (fr_get fo_82_0 2 rfl) sp_1000 ?_
  refine ex_istore_n (pc := 5) (fr_get fo_82_0 3 rfl) rfl (L' := [some (.inr (.inr (5, 0))), some (.inl a1), some (.inl (0 : Int32)), some (.inl (1000 : Int32)), none]) rfl ?_
  refine ex_bipush (pc := 6) (fr_get fo_82_0 4 rfl) bp_99 ?_
  refine ex_istore (pc := 8) (fr_get fo_82_0 5 rfl) rfl (L' := [some (.inr (.inr (5, 0))), some (.inl a1), some (.inl (0 : Int32)), some (.inl (1000 : Int32)), some (.inl (99 : Int32))]) rfl ?_
  exact h

theorem b_82_10 {d : Nat} {I : ma_I} {o : Nat} {Q : ma_Q} {v1 : Int32} {v2 : Int32} {v3 : Int32} {v4 : Int32}
  (h :
    (v4 < 0 →
      Q (some (.inl v2)) I o) ∧
    (0 ≤ v4 →
      Exm (d) 77 [.inr (.inr (5, 0)), .inl v1, .inl v4] I o (fun r J1 p2 => r = none ∧
        (J1 10 0 0 ≠ 0 →
          Ex (d + 1) 82 (10, [some (.inr (.inr (5, 0))), some (.inl v1), some (.inl v2), some (.inl v3), some (.inl (v4 + (-1 : Int32)))], [], ma_mem J1 p2, 0, 0) (ma_end Q)) ∧
        (J1 10 0 0 = 0 →
          (J1 10 0 1 ≤ v3 →
            Ex (d + 1) 82 (10, [some (.inr (.inr (5, 0))), some (.inl v1), some (.inl v2), some (.inl (if J1 10 0 1 < v3 then J1 10 0 1 else v3)), some (.inl (v4 + (-1 : Int32)))], [], ma_mem J1 p2, 0, 0) (ma_end Q)) ∧
          (v3 < J1 10 0 1 →
            Ex (d + 1) 82 (10, [some (.inr (.inr (5, 0))), some (.inl v1), some (.inl (v2 + (1 : Int32))), some (.inl (if J1 10 0 1 < v3 then J1 10 0 1 else v3)), some (.inl (v4 + (-1 : Int32)))], [], ma_mem J1 p2, 0, 0) (ma_end Q)))))) :
  Ex (d + 1) 82 (10, [some (.inr (.inr (5, 0))), some (.inl v1), some (.inl v2), some (.inl v3), some (.inl v4)], [], ma_mem I o, 0, 0) (ma_end Q) := by
  refine ex_iload (pc := 10) (fr_get fo_82_0 6 rfl) rfl ?_
  refine xv_blt (pc := 12) (fr_get fo_82_0 7 rfl) (t := 64) rfl (fun c => ?_) (fun c => ?_)
  · replace h := h.1 c
    refine ex_iload_n (pc := 64) (fr_get fo_82_1 14 rfl) rfl ?_
    exact ex_ireturn (pc := 65) (fr_get fo_82_1 15 rfl) rt_82 rfl rfl (ma_end_mk h)
  · replace h := h.2 c
    refine ex_aload_n (pc := 15) (fr_get fo_82_0 8 rfl) rfl rfl ?_
    refine ex_iload_n (pc := 16) (fr_get fo_82_0 9 rfl) rfl ?_
    refine ex_iload (pc := 17) (fr_get fo_82_0 10 rfl) rfl ?_
    refine xv_kv0 (pc := 19) (fr_get fo_82_0 11 rfl) cc_82_172 (as := [.inr (.inr (5, 0)), .inl v1, .inl v4]) (rs := []) rfl rfl rfl rfl rfl ?_
    refine h.mono (fun r J1 p2 h => ⟨h.1, ?_⟩)
    replace h := h.2
    refine ex_aload_n (pc := 22) (fr_get fo_82_0 12 rfl) rfl rfl ?_
    refine ex_gr (pc := 23) (fr_get fo_82_0 13 rfl) ow_82 fr_8_42_5 (q := (10, 0)) rfl ?_
    refine xv_gi (pc := 26) (fr_get fo_82_0 14 rfl) ow_82 fg_8_175_10 rfl ?_
    refine xv_bne (pc := 29) (fr_get fo_82_0 15 rfl) (t := 58) rfl (fun c => ?_) (fun c => ?_)
    · replace h := h.1 c
      refine xv_iinc (pc := 58) (fr_get fo_82_1 12 rfl) rfl ic_m1 (L' := [some (.inr (.inr (5, 0))), some (.inl v1), some (.inl v2), some (.inl v3), some (.inl (v4 + (-1 : Int32)))]) rfl ?_
      refine ex_goto (pc := 61) (fr_get fo_82_1 13 rfl) (t := 10) rfl ?_
      exact h
    · replace h := h.2 c
      refine ex_aload_n (pc := 32) (fr_get fo_82_1 0 rfl) rfl rfl ?_
      refine ex_gr (pc := 33) (fr_get fo_82_1 1 rfl) ow_82 fr_8_42_5 (q := (10, 0)) rfl ?_
      refine xv_gi (pc := 36) (fr_get fo_82_1 2 rfl) ow_82 fg_8_178_10 rfl ?_
      refine ex_iload_n (pc := 39) (fr_get fo_82_1 3 rfl) rfl ?_
      refine xv_cle (pc := 40) (fr_get fo_82_1 4 rfl) (t := 46) rfl (fun c => ?_) (fun c => ?_)
      · replace h := h.1 c
        refine ex_iload_n (pc := 46) (fr_get fo_82_1 6 rfl) rfl ?_
        refine ex_aload_n (pc := 47) (fr_get fo_82_1 7 rfl) rfl rfl ?_
        refine ex_gr (pc := 48) (fr_get fo_82_1 8 rfl) ow_82 fr_8_42_5 (q := (10, 0)) rfl ?_
        refine xv_gi (pc := 51) (fr_get fo_82_1 9 rfl) ow_82 fg_8_178_10 rfl ?_
        refine ex_min (pc := 54) (fr_get fo_82_1 10 rfl) ow_82 cm_8_226 rfl rfl rfl ?_
        refine ex_istore_n (pc := 57) (fr_get fo_82_1 11 rfl) rfl (L' := [some (.inr (.inr (5, 0))), some (.inl v1), some (.inl v2), some (.inl (if J1 10 0 1 < v3 then J1 10 0 1 else v3)), some (.inl v4)]) rfl ?_
        refine xv_iinc (pc := 58) (fr_get fo_82_1 12 rfl) rfl ic_m1 (L' := [some (.inr (.inr (5, 0))), some (.inl v1), some (.inl v2), some (.inl (if J1 10 0 1 < v3 then J1 10 0 1 else v3)), some (.inl (v4 + (-1 : Int32)))]) rfl ?_
        refine ex_goto (pc := 61) (fr_get fo_82_1 13 rfl) (t := 10) rfl ?_
        exact h
      · replace h := h.2 c
        refine xv_iinc (pc := 43) (fr_get fo_82_1 5 rfl) rfl ic_1 (L' := [some (.inr (.inr (5, 0))), some (.inl v1), some (.inl (v2 + (1 : Int32))), some (.inl v3), some (.inl v4)]) rfl ?_
        refine ex_iload_n (pc := 46) (fr_get fo_82_1 6 rfl) rfl ?_
        refine ex_aload_n (pc := 47) (fr_get fo_82_1 7 rfl) rfl rfl ?_
        refine ex_gr (pc := 48) (fr_get fo_82_1 8 rfl) ow_82 fr_8_42_5 (q := (10, 0)) rfl ?_
        refine xv_gi (pc := 51) (fr_get fo_82_1 9 rfl) ow_82 fg_8_178_10 rfl ?_
        refine ex_min (pc := 54) (fr_get fo_82_1 10 rfl) ow_82 cm_8_226 rfl rfl rfl ?_
        refine ex_istore_n (pc := 57) (fr_get fo_82_1 11 rfl) rfl (L' := [some (.inr (.inr (5, 0))), some (.inl v1), some (.inl (v2 + (1 : Int32))), some (.inl (if J1 10 0 1 < v3 then J1 10 0 1 else v3)), some (.inl v4)]) rfl ?_
        refine xv_iinc (pc := 58) (fr_get fo_82_1 12 rfl) rfl ic_m1 (L' := [some (.inr (.inr (5, 0))), some (.inl v1), some (.inl (v2 + (1 : Int32))), some (.inl (if J1 10 0 1 < v3 then J1 10 0 1 else v3)), some (.inl (v4 + (-1 : Int32)))]) rfl ?_
        refine ex_goto (pc := 61) (fr_get fo_82_1 13 rfl) (t := 10) rfl ?_
        exact h

theorem e_83 {d : Nat} {I : ma_I} {o : Nat} {Q : ma_Q} {a1 : Int32}
  (h :
    Ex (d + 1) 83 (2, [some (.inr (.inr (5, 0))), some (.inl a1), some (.inl (0 : Int32))], [], ma_mem I o, 0, 0) (ma_end Q)) :
  Exm (d + 1) 83 [.inr (.inr (5, 0)), .inl a1] I o Q := by
  show Ex (d + 1) 83 (0, [some (.inr (.inr (5, 0))), some (.inl a1), none], [], ma_mem I o, 0, 0) (ma_end Q)
  refine ex_iconst (pc := 0) (fr_get fo_83_0 0 rfl) ic_0 ?_
  refine ex_istore_n (pc := 1) (fr_get fo_83_0 1 rfl) rfl (L' := [some (.inr (.inr (5, 0))), some (.inl a1), some (.inl (0 : Int32))]) rfl ?_
  exact h

theorem b_83_2 {d : Nat} {I : ma_I} {o : Nat} {Q : ma_Q} {v1 : Int32} {v2 : Int32}
  (h :
    ((100 : Int32) ≤ v2 →
      Q (some (.inl (-1 : Int32))) I o) ∧
    (v2 < (100 : Int32) →
      Exm (d) 77 [.inr (.inr (5, 0)), .inl v1, .inl v2] I o (fun r J1 p2 => r = none ∧
        (J1 10 0 6 = 0 →
          Ex (d + 1) 83 (2, [some (.inr (.inr (5, 0))), some (.inl v1), some (.inl (v2 + (1 : Int32)))], [], ma_mem J1 p2, 0, 0) (ma_end Q)) ∧
        (J1 10 0 6 ≠ 0 →
          Q (some (.inl v2)) J1 p2)))) :
  Ex (d + 1) 83 (2, [some (.inr (.inr (5, 0))), some (.inl v1), some (.inl v2)], [], ma_mem I o, 0, 0) (ma_end Q) := by
  refine ex_iload_n (pc := 2) (fr_get fo_83_0 2 rfl) rfl ?_
  refine ex_bipush (pc := 3) (fr_get fo_83_0 3 rfl) bp_100 ?_
  refine xv_cge (pc := 5) (fr_get fo_83_0 4 rfl) (t := 32) rfl (fun c => ?_) (fun c => ?_)
  · replace h := h.1 c
    refine ex_iconst (pc := 32) (fr_get fo_83_1 1 rfl) ic_m1 ?_
    exact ex_ireturn (pc := 33) (fr_get fo_83_1 2 rfl) rt_83 rfl rfl (ma_end_mk h)
  · replace h := h.2 c
    refine ex_aload_n (pc := 8) (fr_get fo_83_0 5 rfl) rfl rfl ?_
    refine ex_iload_n (pc := 9) (fr_get fo_83_0 6 rfl) rfl ?_
    refine ex_iload_n (pc := 10) (fr_get fo_83_0 7 rfl) rfl ?_
    refine xv_kv0 (pc := 11) (fr_get fo_83_0 8 rfl) cc_83_172 (as := [.inr (.inr (5, 0)), .inl v1, .inl v2]) (rs := []) rfl rfl rfl rfl rfl ?_
    refine h.mono (fun r J1 p2 h => ⟨h.1, ?_⟩)
    replace h := h.2
    refine ex_aload_n (pc := 14) (fr_get fo_83_0 9 rfl) rfl rfl ?_
    refine ex_gr (pc := 15) (fr_get fo_83_0 10 rfl) ow_83 fr_8_42_5 (q := (10, 0)) rfl ?_
    refine xv_gi (pc := 18) (fr_get fo_83_0 11 rfl) ow_83 fg_8_229_10 rfl ?_
    refine xv_beq (pc := 21) (fr_get fo_83_0 12 rfl) (t := 26) rfl (fun c => ?_) (fun c => ?_)
    · replace h := h.1 c
      refine xv_iinc (pc := 26) (fr_get fo_83_0 15 rfl) rfl ic_1 (L' := [some (.inr (.inr (5, 0))), some (.inl v1), some (.inl (v2 + (1 : Int32)))]) rfl ?_
      refine ex_goto (pc := 29) (fr_get fo_83_1 0 rfl) (t := 2) rfl ?_
      exact h
    · replace h := h.2 c
      refine ex_iload_n (pc := 24) (fr_get fo_83_0 13 rfl) rfl ?_
      exact ex_ireturn (pc := 25) (fr_get fo_83_0 14 rfl) rt_83 rfl rfl (ma_end_mk h)

theorem e_84 {d : Nat} {I : ma_I} {o : Nat} {Q : ma_Q} {a1 : Int32} {a2 : Int32}
  (h :
    (¬((0 : Int32) ≤ a1 ∧ a1 ≤ (7 : Int32)) →
      Q (some (.inl (-2 : Int32))) I o) ∧
    ((0 : Int32) ≤ a1 ∧ a1 ≤ (7 : Int32) →
      ((0 : Int32) ≤ a2 ∧ a2 ≤ (2 : Int32) →
        Exm (d + 1) 78 [.inr (.inr (5, 0)), .inl a1, .inl (xv_al (I 6 0 4))] I o (fun r J1 p2 => ∃ x3 : Int32, r = some (.inl x3) ∧
          (a2 ≠ 0 →
            Exm (d + 1) 86 [.inr (.inr (5, 0)), .inl a1, .inl x3] J1 p2 (fun r J4 p5 => ∃ x6 : Int32, r = some (.inl x6) ∧
              (a2 ≠ (1 : Int32) →
                Exm (d + 1) 27 [.inr (.inr (6, 0)), .inl x6] J4 p5 (fun r J7 p8 => ∃ x9 : Int32, r = some (.inl x9) ∧
                  Q (some (.inl x9)) J7 p8)) ∧
              (a2 = (1 : Int32) →
                Q (some (.inl x6)) J4 p5))) ∧
          (a2 = 0 →
            Exm (d + 1) 85 [.inr (.inr (5, 0)), .inl a1, .inl x3] J1 p2 (fun r J10 p11 => ∃ x12 : Int32, r = some (.inl x12) ∧
              Q (some (.inl x12)) J10 p11)))) ∧
      (¬((0 : Int32) ≤ a2 ∧ a2 ≤ (2 : Int32)) →
        Q (some (.inl (-2 : Int32))) I o))) :
  Exm (d + 2) 84 [.inr (.inr (5, 0)), .inl a1, .inl a2] I o Q := by
  show Ex (d + 2) 84 (0, [some (.inr (.inr (5, 0))), some (.inl a1), some (.inl a2), none, none], [], ma_mem I o, 0, 0) (ma_end Q)
  refine ex_iload_n (pc := 0) (fr_get fo_84_0 0 rfl) rfl ?_
  refine xv_ks1 (pc := 1) (fr_get fo_84_0 1 rfl) cc_84_88 (as := [.inl a1]) (rs := []) rfl rfl rfl rfl ?_
  refine sm_113 ?_
  refine ⟨_, rfl, ?_⟩
  refine xv_peq (pc := 4) (fr_get fo_84_0 2 rfl) (t := 16) rfl (fun c => ?_) (fun c => ?_)
  · replace h := h.1 c
    refine ex_bipush (pc := 16) (fr_get fo_84_0 8 rfl) bp_m2 ?_
    exact ex_ireturn (pc := 18) (fr_get fo_84_0 9 rfl) rt_84 rfl rfl (ma_end_mk h)
  · replace h := h.2 c
    refine ex_iload_n (pc := 7) (fr_get fo_84_0 3 rfl) rfl ?_
    refine ex_iconst (pc := 8) (fr_get fo_84_0 4 rfl) ic_0 ?_
    refine ex_iconst (pc := 9) (fr_get fo_84_0 5 rfl) ic_2 ?_
    refine xv_ks1 (pc := 10) (fr_get fo_84_0 6 rfl) cc_84_108 (as := [.inl a2, .inl (0 : Int32), .inl (2 : Int32)]) (rs := []) rfl rfl rfl rfl ?_
    refine sm_112 ?_
    refine ⟨_, rfl, ?_⟩
    refine xv_pne (pc := 13) (fr_get fo_84_0 7 rfl) (t := 19) rfl (fun c => ?_) (fun c => ?_)
    · replace h := h.1 c
      refine ex_aload_n (pc := 19) (fr_get fo_84_0 10 rfl) rfl rfl ?_
      refine ex_iload_n (pc := 20) (fr_get fo_84_0 11 rfl) rfl ?_
      refine ex_aload_n (pc := 21) (fr_get fo_84_0 12 rfl) rfl rfl ?_
      refine ex_gr (pc := 22) (fr_get fo_84_0 13 rfl) ow_84 fr_8_12_5 (q := (6, 0)) rfl ?_
      refine xv_kv1 (pc := 25) (fr_get fo_84_0 14 rfl) cc_84_193 (as := [.inr (.inr (6, 0))]) (rs := [.inl a1, .inr (.inr (5, 0))]) rfl rfl rfl rfl rfl ?_
      refine sm_15 rfl ?_
      refine ⟨_, rfl, ?_⟩
      refine xv_kv1 (pc := 28) (fr_get fo_84_0 15 rfl) cc_84_196 (as := [.inr (.inr (5, 0)), .inl a1, .inl (xv_al (I 6 0 4))]) (rs := []) rfl rfl rfl rfl rfl ?_
      refine h.mono (fun r J1 p2 h => ?_)
      obtain ⟨x3, hr, h⟩ := h
      refine ⟨x3, hr, ?_⟩
      refine ex_istore_n (pc := 31) (fr_get fo_84_1 0 rfl) rfl (L' := [some (.inr (.inr (5, 0))), some (.inl a1), some (.inl a2), some (.inl x3), none]) rfl ?_
      refine ex_iload_n (pc := 32) (fr_get fo_84_1 1 rfl) rfl ?_
      refine xv_bne (pc := 33) (fr_get fo_84_1 2 rfl) (t := 43) rfl (fun c => ?_) (fun c => ?_)
      · replace h := h.1 c
        refine ex_aload_n (pc := 43) (fr_get fo_84_1 8 rfl) rfl rfl ?_
        refine ex_iload_n (pc := 44) (fr_get fo_84_1 9 rfl) rfl ?_
        refine ex_iload_n (pc := 45) (fr_get fo_84_1 10 rfl) rfl ?_
        refine xv_kv1 (pc := 46) (fr_get fo_84_1 11 rfl) cc_84_236 (as := [.inr (.inr (5, 0)), .inl a1, .inl x3]) (rs := []) rfl rfl rfl rfl rfl ?_
        refine h.mono (fun r J4 p5 h => ?_)
        obtain ⟨x6, hr, h⟩ := h
        refine ⟨x6, hr, ?_⟩
        refine ex_istore (pc := 49) (fr_get fo_84_1 12 rfl) rfl (L' := [some (.inr (.inr (5, 0))), some (.inl a1), some (.inl a2), some (.inl x3), some (.inl x6)]) rfl ?_
        refine ex_iload_n (pc := 51) (fr_get fo_84_1 13 rfl) rfl ?_
        refine ex_iconst (pc := 52) (fr_get fo_84_1 14 rfl) ic_1 ?_
        refine xv_cne (pc := 53) (fr_get fo_84_1 15 rfl) (t := 61) rfl (fun c => ?_) (fun c => ?_)
        · replace h := h.1 c
          refine ex_aload_n (pc := 61) (fr_get fo_84_2 2 rfl) rfl rfl ?_
          refine ex_gr (pc := 62) (fr_get fo_84_2 3 rfl) ow_84 fr_8_12_5 (q := (6, 0)) rfl ?_
          refine ex_iload (pc := 65) (fr_get fo_84_2 4 rfl) rfl ?_
          refine xv_kv1 (pc := 67) (fr_get fo_84_2 5 rfl) cc_84_239 (as := [.inr (.inr (6, 0)), .inl x6]) (rs := []) rfl rfl rfl rfl rfl ?_
          refine h.mono (fun r J7 p8 h => ?_)
          obtain ⟨x9, hr, h⟩ := h
          refine ⟨x9, hr, ?_⟩
          exact ex_ireturn (pc := 70) (fr_get fo_84_2 6 rfl) rt_84 rfl rfl (ma_end_mk h)
        · replace h := h.2 c
          refine ex_iload (pc := 56) (fr_get fo_84_2 0 rfl) rfl ?_
          refine ex_goto (pc := 58) (fr_get fo_84_2 1 rfl) (t := 70) rfl ?_
          exact ex_ireturn (pc := 70) (fr_get fo_84_2 6 rfl) rt_84 rfl rfl (ma_end_mk h)
      · replace h := h.2 c
        refine ex_aload_n (pc := 36) (fr_get fo_84_1 3 rfl) rfl rfl ?_
        refine ex_iload_n (pc := 37) (fr_get fo_84_1 4 rfl) rfl ?_
        refine ex_iload_n (pc := 38) (fr_get fo_84_1 5 rfl) rfl ?_
        refine xv_kv1 (pc := 39) (fr_get fo_84_1 6 rfl) cc_84_233 (as := [.inr (.inr (5, 0)), .inl a1, .inl x3]) (rs := []) rfl rfl rfl rfl rfl ?_
        refine h.mono (fun r J10 p11 h => ?_)
        obtain ⟨x12, hr, h⟩ := h
        refine ⟨x12, hr, ?_⟩
        exact ex_ireturn (pc := 42) (fr_get fo_84_1 7 rfl) rt_84 rfl rfl (ma_end_mk h)
    · replace h := h.2 c
      refine ex_bipush (pc := 16) (fr_get fo_84_0 8 rfl) bp_m2 ?_
      exact ex_ireturn (pc := 18) (fr_get fo_84_0 9 rfl) rt_84 rfl rfl (ma_end_mk h)

theorem e_85 {d : Nat} {I : ma_I} {o : Nat} {Q : ma_Q} {a1 : Int32} {a2 : Int32}
  (h :
    Ex (d + 1) 85 (5, [some (.inr (.inr (5, 0))), some (.inl a1), some (.inl a2), some (.inl (0 : Int32)), some (.inl (0 : Int32))], [], ma_mem I o, 0, 0) (ma_end Q)) :
  Exm (d + 1) 85 [.inr (.inr (5, 0)), .inl a1, .inl a2] I o Q := by
  show Ex (d + 1) 85 (0, [some (.inr (.inr (5, 0))), some (.inl a1), some (.inl a2), none, none], [], ma_mem I o, 0, 0) (ma_end Q)
  refine ex_iconst (pc := 0) (fr_get fo_85_0 0 rfl) ic_0 ?_
  refine ex_istore_n (pc := 1) (fr_get fo_85_0 1 rfl) rfl (L' := [some (.inr (.inr (5, 0))), some (.inl a1), some (.inl a2), some (.inl (0 : Int32)), none]) rfl ?_
  refine ex_iconst (pc := 2) (fr_get fo_85_0 2 rfl) ic_0 ?_
  refine ex_istore (pc := 3) (fr_get fo_85_0 3 rfl) rfl (L' := [some (.inr (.inr (5, 0))), some (.inl a1), some (.inl a2), some (.inl (0 : Int32)), some (.inl (0 : Int32))]) rfl ?_
  exact h

theorem b_85_5 {d : Nat} {I : ma_I} {o : Nat} {Q : ma_Q} {v1 : Int32} {v2 : Int32} {v3 : Int32} {v4 : Int32}
  (h :
    (I 6 0 4 ≤ v4 →
      Q (some (.inl v3)) I o) ∧
    (v4 < I 6 0 4 →
      Exm (d) 87 [.inr (.inr (5, 0)), .inl v1, .inl ((xv_al (I 6 0 4)) &&& (((1 : Int32) <<< (v4 &&& 31)) ^^^ (-1 : Int32))), .inl v2] I o (fun r J1 p2 => ∃ x3 : Int32, r = some (.inl x3) ∧
        (x3 = 0 →
          Ex (d + 1) 85 (5, [some (.inr (.inr (5, 0))), some (.inl v1), some (.inl v2), some (.inl v3), some (.inl (v4 + (1 : Int32)))], [], ma_mem J1 p2, 0, 0) (ma_end Q)) ∧
        (x3 ≠ 0 →
          Ex (d + 1) 85 (5, [some (.inr (.inr (5, 0))), some (.inl v1), some (.inl v2), some (.inl (v3 ||| ((1 : Int32) <<< (v4 &&& 31)))), some (.inl (v4 + (1 : Int32)))], [], ma_mem J1 p2, 0, 0) (ma_end Q))))) :
  Ex (d + 1) 85 (5, [some (.inr (.inr (5, 0))), some (.inl v1), some (.inl v2), some (.inl v3), some (.inl v4)], [], ma_mem I o, 0, 0) (ma_end Q) := by
  refine ex_iload (pc := 5) (fr_get fo_85_0 4 rfl) rfl ?_
  refine ex_aload_n (pc := 7) (fr_get fo_85_0 5 rfl) rfl rfl ?_
  refine ex_gr (pc := 8) (fr_get fo_85_0 6 rfl) ow_85 fr_8_12_5 (q := (6, 0)) rfl ?_
  refine xv_gi (pc := 11) (fr_get fo_85_0 7 rfl) ow_85 fg_8_112_6 rfl ?_
  refine xv_cge (pc := 14) (fr_get fo_85_0 8 rfl) (t := 53) rfl (fun c => ?_) (fun c => ?_)
  · replace h := h.1 c
    refine ex_iload_n (pc := 53) (fr_get fo_85_1 15 rfl) rfl ?_
    exact ex_ireturn (pc := 54) (fr_get fo_85_2 0 rfl) rt_85 rfl rfl (ma_end_mk h)
  · replace h := h.2 c
    refine ex_aload_n (pc := 17) (fr_get fo_85_0 9 rfl) rfl rfl ?_
    refine ex_iload_n (pc := 18) (fr_get fo_85_0 10 rfl) rfl ?_
    refine ex_aload_n (pc := 19) (fr_get fo_85_0 11 rfl) rfl rfl ?_
    refine ex_gr (pc := 20) (fr_get fo_85_0 12 rfl) ow_85 fr_8_12_5 (q := (6, 0)) rfl ?_
    refine xv_kv1 (pc := 23) (fr_get fo_85_0 13 rfl) cc_85_193 (as := [.inr (.inr (6, 0))]) (rs := [.inl v1, .inr (.inr (5, 0))]) rfl rfl rfl rfl rfl ?_
    refine sm_15 rfl ?_
    refine ⟨_, rfl, ?_⟩
    refine ex_iconst (pc := 26) (fr_get fo_85_0 14 rfl) ic_1 ?_
    refine ex_iload (pc := 27) (fr_get fo_85_0 15 rfl) rfl ?_
    refine ex_ishl (pc := 29) (fr_get fo_85_1 0 rfl) ?_
    refine ex_iconst (pc := 30) (fr_get fo_85_1 1 rfl) ic_m1 ?_
    refine ex_ixor (pc := 31) (fr_get fo_85_1 2 rfl) ?_
    refine ex_iand (pc := 32) (fr_get fo_85_1 3 rfl) ?_
    refine ex_iload_n (pc := 33) (fr_get fo_85_1 4 rfl) rfl ?_
    refine xv_kv1 (pc := 34) (fr_get fo_85_1 5 rfl) cc_85_242 (as := [.inr (.inr (5, 0)), .inl v1, .inl ((xv_al (I 6 0 4)) &&& (((1 : Int32) <<< (v4 &&& 31)) ^^^ (-1 : Int32))), .inl v2]) (rs := []) rfl rfl rfl rfl rfl ?_
    refine h.mono (fun r J1 p2 h => ?_)
    obtain ⟨x3, hr, h⟩ := h
    refine ⟨x3, hr, ?_⟩
    refine xv_beq (pc := 37) (fr_get fo_85_1 6 rfl) (t := 47) rfl (fun c => ?_) (fun c => ?_)
    · replace h := h.1 c
      refine xv_iinc (pc := 47) (fr_get fo_85_1 13 rfl) rfl ic_1 (L' := [some (.inr (.inr (5, 0))), some (.inl v1), some (.inl v2), some (.inl v3), some (.inl (v4 + (1 : Int32)))]) rfl ?_
      refine ex_goto (pc := 50) (fr_get fo_85_1 14 rfl) (t := 5) rfl ?_
      exact h
    · replace h := h.2 c
      refine ex_iload_n (pc := 40) (fr_get fo_85_1 7 rfl) rfl ?_
      refine ex_iconst (pc := 41) (fr_get fo_85_1 8 rfl) ic_1 ?_
      refine ex_iload (pc := 42) (fr_get fo_85_1 9 rfl) rfl ?_
      refine ex_ishl (pc := 44) (fr_get fo_85_1 10 rfl) ?_
      refine ex_ior (pc := 45) (fr_get fo_85_1 11 rfl) ?_
      refine ex_istore_n (pc := 46) (fr_get fo_85_1 12 rfl) rfl (L' := [some (.inr (.inr (5, 0))), some (.inl v1), some (.inl v2), some (.inl (v3 ||| ((1 : Int32) <<< (v4 &&& 31)))), some (.inl v4)]) rfl ?_
      refine xv_iinc (pc := 47) (fr_get fo_85_1 13 rfl) rfl ic_1 (L' := [some (.inr (.inr (5, 0))), some (.inl v1), some (.inl v2), some (.inl (v3 ||| ((1 : Int32) <<< (v4 &&& 31)))), some (.inl (v4 + (1 : Int32)))]) rfl ?_
      refine ex_goto (pc := 50) (fr_get fo_85_1 14 rfl) (t := 5) rfl ?_
      exact h

theorem e_86 {d : Nat} {I : ma_I} {o : Nat} {Q : ma_Q} {a1 : Int32} {a2 : Int32}
  (h :
    Exm (d) 26 [.inr (.inr (6, 0))] I o (fun r J1 p2 => r = none ∧
      Exm (d) 27 [.inr (.inr (6, 0)), .inl (xv_al (I 6 0 4))] J1 p2 (fun r J3 p4 => ∃ x5 : Int32, r = some (.inl x5) ∧
        Ex (d + 1) 86 (33, [some (.inr (.inr (5, 0))), some (.inl a1), some (.inl a2), some (.inl (xv_al (I 6 0 4))), some (.inl (xv_al (I 6 0 4))), some (.inl (x5 + (1 : Int32))), some (.inl (0 : Int32)), none], [], ma_mem J3 p4, 0, 0) (ma_end Q)))) :
  Exm (d + 1) 86 [.inr (.inr (5, 0)), .inl a1, .inl a2] I o Q := by
  show Ex (d + 1) 86 (0, [some (.inr (.inr (5, 0))), some (.inl a1), some (.inl a2), none, none, none, none, none], [], ma_mem I o, 0, 0) (ma_end Q)
  refine ex_aload_n (pc := 0) (fr_get fo_86_0 0 rfl) rfl rfl ?_
  refine ex_gr (pc := 1) (fr_get fo_86_0 1 rfl) ow_86 fr_8_12_5 (q := (6, 0)) rfl ?_
  refine xv_kv1 (pc := 4) (fr_get fo_86_0 2 rfl) cc_86_193 (as := [.inr (.inr (6, 0))]) (rs := []) rfl rfl rfl rfl rfl ?_
  refine sm_15 rfl ?_
  refine ⟨_, rfl, ?_⟩
  refine ex_istore_n (pc := 7) (fr_get fo_86_0 3 rfl) rfl (L' := [some (.inr (.inr (5, 0))), some (.inl a1), some (.inl a2), some (.inl (xv_al (I 6 0 4))), none, none, none, none]) rfl ?_
  refine ex_iload_n (pc := 8) (fr_get fo_86_0 4 rfl) rfl ?_
  refine ex_istore (pc := 9) (fr_get fo_86_0 5 rfl) rfl (L' := [some (.inr (.inr (5, 0))), some (.inl a1), some (.inl a2), some (.inl (xv_al (I 6 0 4))), some (.inl (xv_al (I 6 0 4))), none, none, none]) rfl ?_
  refine ex_aload_n (pc := 11) (fr_get fo_86_0 6 rfl) rfl rfl ?_
  refine ex_gr (pc := 12) (fr_get fo_86_0 7 rfl) ow_86 fr_8_12_5 (q := (6, 0)) rfl ?_
  refine xv_kv0 (pc := 15) (fr_get fo_86_0 8 rfl) cc_86_245 (as := [.inr (.inr (6, 0))]) (rs := []) rfl rfl rfl rfl rfl ?_
  refine h.mono (fun r J1 p2 h => ⟨h.1, ?_⟩)
  replace h := h.2
  refine ex_aload_n (pc := 18) (fr_get fo_86_0 9 rfl) rfl rfl ?_
  refine ex_gr (pc := 19) (fr_get fo_86_0 10 rfl) ow_86 fr_8_12_5 (q := (6, 0)) rfl ?_
  refine ex_iload_n (pc := 22) (fr_get fo_86_0 11 rfl) rfl ?_
  refine xv_kv1 (pc := 23) (fr_get fo_86_0 12 rfl) cc_86_239 (as := [.inr (.inr (6, 0)), .inl (xv_al (I 6 0 4))]) (rs := []) rfl rfl rfl rfl rfl ?_
  refine h.mono (fun r J3 p4 h => ?_)
  obtain ⟨x5, hr, h⟩ := h
  refine ⟨x5, hr, ?_⟩
  refine ex_iconst (pc := 26) (fr_get fo_86_0 13 rfl) ic_1 ?_
  refine ex_iadd (pc := 27) (fr_get fo_86_0 14 rfl) ?_
  refine ex_istore (pc := 28) (fr_get fo_86_0 15 rfl) rfl (L' := [some (.inr (.inr (5, 0))), some (.inl a1), some (.inl a2), some (.inl (xv_al (I 6 0 4))), some (.inl (xv_al (I 6 0 4))), some (.inl (x5 + (1 : Int32))), none, none]) rfl ?_
  refine ex_iconst (pc := 30) (fr_get fo_86_1 0 rfl) ic_0 ?_
  refine ex_istore (pc := 31) (fr_get fo_86_1 1 rfl) rfl (L' := [some (.inr (.inr (5, 0))), some (.inl a1), some (.inl a2), some (.inl (xv_al (I 6 0 4))), some (.inl (xv_al (I 6 0 4))), some (.inl (x5 + (1 : Int32))), some (.inl (0 : Int32)), none]) rfl ?_
  exact h

theorem b_86_33 {d : Nat} {I : ma_I} {o : Nat} {Q : ma_Q} {v1 : Int32} {v2 : Int32} {v3 : Int32} {v4 : Int32} {v5 : Int32} {v6 : Int32} {w7 : Option ma_V}
  (h :
    (v3 < v6 →
      Q (some (.inl v4)) I o) ∧
    (v6 ≤ v3 →
      Exm (d) 27 [.inr (.inr (6, 0)), .inl v6] I o (fun r J1 p2 => ∃ x3 : Int32, r = some (.inl x3) ∧
        (v5 ≤ x3 →
          Ex (d + 1) 86 (33, [some (.inr (.inr (5, 0))), some (.inl v1), some (.inl v2), some (.inl v3), some (.inl v4), some (.inl v5), some (.inl (v6 + (1 : Int32))), some (.inl x3)], [], ma_mem J1 p2, 0, 0) (ma_end Q)) ∧
        (x3 < v5 →
          Exm (d) 87 [.inr (.inr (5, 0)), .inl v1, .inl v6, .inl v2] J1 p2 (fun r J4 p5 => ∃ x6 : Int32, r = some (.inl x6) ∧
            (x6 = 0 →
              Ex (d + 1) 86 (33, [some (.inr (.inr (5, 0))), some (.inl v1), some (.inl v2), some (.inl v3), some (.inl v4), some (.inl v5), some (.inl (v6 + (1 : Int32))), some (.inl x3)], [], ma_mem J4 p5, 0, 0) (ma_end Q)) ∧
            (x6 ≠ 0 →
              Ex (d + 1) 86 (33, [some (.inr (.inr (5, 0))), some (.inl v1), some (.inl v2), some (.inl v3), some (.inl v6), some (.inl x3), some (.inl (v6 + (1 : Int32))), some (.inl x3)], [], ma_mem J4 p5, 0, 0) (ma_end Q))))))) :
  Ex (d + 1) 86 (33, [some (.inr (.inr (5, 0))), some (.inl v1), some (.inl v2), some (.inl v3), some (.inl v4), some (.inl v5), some (.inl v6), w7], [], ma_mem I o, 0, 0) (ma_end Q) := by
  refine ex_iload (pc := 33) (fr_get fo_86_1 2 rfl) rfl ?_
  refine ex_iload_n (pc := 35) (fr_get fo_86_1 3 rfl) rfl ?_
  refine xv_cgt (pc := 36) (fr_get fo_86_1 4 rfl) (t := 82) rfl (fun c => ?_) (fun c => ?_)
  · replace h := h.1 c
    refine ex_iload (pc := 82) (fr_get fo_86_2 9 rfl) rfl ?_
    exact ex_ireturn (pc := 84) (fr_get fo_86_2 10 rfl) rt_86 rfl rfl (ma_end_mk h)
  · replace h := h.2 c
    refine ex_aload_n (pc := 39) (fr_get fo_86_1 5 rfl) rfl rfl ?_
    refine ex_gr (pc := 40) (fr_get fo_86_1 6 rfl) ow_86 fr_8_12_5 (q := (6, 0)) rfl ?_
    refine ex_iload (pc := 43) (fr_get fo_86_1 7 rfl) rfl ?_
    refine xv_kv1 (pc := 45) (fr_get fo_86_1 8 rfl) cc_86_239 (as := [.inr (.inr (6, 0)), .inl v6]) (rs := []) rfl rfl rfl rfl rfl ?_
    refine h.mono (fun r J1 p2 h => ?_)
    obtain ⟨x3, hr, h⟩ := h
    refine ⟨x3, hr, ?_⟩
    refine ex_istore (pc := 48) (fr_get fo_86_1 9 rfl) rfl (L' := [some (.inr (.inr (5, 0))), some (.inl v1), some (.inl v2), some (.inl v3), some (.inl v4), some (.inl v5), some (.inl v6), some (.inl x3)]) rfl ?_
    refine ex_iload (pc := 50) (fr_get fo_86_1 10 rfl) rfl ?_
    refine ex_iload (pc := 52) (fr_get fo_86_1 11 rfl) rfl ?_
    refine xv_cge (pc := 54) (fr_get fo_86_1 12 rfl) (t := 76) rfl (fun c => ?_) (fun c => ?_)
    · replace h := h.1 c
      refine xv_iinc (pc := 76) (fr_get fo_86_2 7 rfl) rfl ic_1 (L' := [some (.inr (.inr (5, 0))), some (.inl v1), some (.inl v2), some (.inl v3), some (.inl v4), some (.inl v5), some (.inl (v6 + (1 : Int32))), some (.inl x3)]) rfl ?_
      refine ex_goto (pc := 79) (fr_get fo_86_2 8 rfl) (t := 33) rfl ?_
      exact h
    · replace h := h.2 c
      refine ex_aload_n (pc := 57) (fr_get fo_86_1 13 rfl) rfl rfl ?_
      refine ex_iload_n (pc := 58) (fr_get fo_86_1 14 rfl) rfl ?_
      refine ex_iload (pc := 59) (fr_get fo_86_1 15 rfl) rfl ?_
      refine ex_iload_n (pc := 61) (fr_get fo_86_2 0 rfl) rfl ?_
      refine xv_kv1 (pc := 62) (fr_get fo_86_2 1 rfl) cc_86_242 (as := [.inr (.inr (5, 0)), .inl v1, .inl v6, .inl v2]) (rs := []) rfl rfl rfl rfl rfl ?_
      refine h.mono (fun r J4 p5 h => ?_)
      obtain ⟨x6, hr, h⟩ := h
      refine ⟨x6, hr, ?_⟩
      refine xv_beq (pc := 65) (fr_get fo_86_2 2 rfl) (t := 76) rfl (fun c => ?_) (fun c => ?_)
      · replace h := h.1 c
        refine xv_iinc (pc := 76) (fr_get fo_86_2 7 rfl) rfl ic_1 (L' := [some (.inr (.inr (5, 0))), some (.inl v1), some (.inl v2), some (.inl v3), some (.inl v4), some (.inl v5), some (.inl (v6 + (1 : Int32))), some (.inl x3)]) rfl ?_
        refine ex_goto (pc := 79) (fr_get fo_86_2 8 rfl) (t := 33) rfl ?_
        exact h
      · replace h := h.2 c
        refine ex_iload (pc := 68) (fr_get fo_86_2 3 rfl) rfl ?_
        refine ex_istore (pc := 70) (fr_get fo_86_2 4 rfl) rfl (L' := [some (.inr (.inr (5, 0))), some (.inl v1), some (.inl v2), some (.inl v3), some (.inl v6), some (.inl v5), some (.inl v6), some (.inl x3)]) rfl ?_
        refine ex_iload (pc := 72) (fr_get fo_86_2 5 rfl) rfl ?_
        refine ex_istore (pc := 74) (fr_get fo_86_2 6 rfl) rfl (L' := [some (.inr (.inr (5, 0))), some (.inl v1), some (.inl v2), some (.inl v3), some (.inl v6), some (.inl x3), some (.inl v6), some (.inl x3)]) rfl ?_
        refine xv_iinc (pc := 76) (fr_get fo_86_2 7 rfl) rfl ic_1 (L' := [some (.inr (.inr (5, 0))), some (.inl v1), some (.inl v2), some (.inl v3), some (.inl v6), some (.inl x3), some (.inl (v6 + (1 : Int32))), some (.inl x3)]) rfl ?_
        refine ex_goto (pc := 79) (fr_get fo_86_2 8 rfl) (t := 33) rfl ?_
        exact h

theorem e_87 {d : Nat} {I : ma_I} {o : Nat} {Q : ma_Q} {a1 : Int32} {a2 : Int32} {a3 : Int32}
  (h :
    Ex (d + 1) 87 (9, [some (.inr (.inr (5, 0))), some (.inl a1), some (.inl a2), some (.inl a3), some (.inl ((100 : Int32) - a3)), some (.inl (0 : Int32))], [], ma_mem I o, 0, 0) (ma_end Q)) :
  Exm (d + 1) 87 [.inr (.inr (5, 0)), .inl a1, .inl a2, .inl a3] I o Q := by
  show Ex (d + 1) 87 (0, [some (.inr (.inr (5, 0))), some (.inl a1), some (.inl a2), some (.inl a3), none, none], [], ma_mem I o, 0, 0) (ma_end Q)
  refine ex_bipush (pc := 0) (fr_get fo_87_0 0 rfl) bp_100 ?_
  refine ex_iload_n (pc := 2) (fr_get fo_87_0 1 rfl) rfl ?_
  refine ex_isub (pc := 3) (fr_get fo_87_0 2 rfl) ?_
  refine ex_istore (pc := 4) (fr_get fo_87_0 3 rfl) rfl (L' := [some (.inr (.inr (5, 0))), some (.inl a1), some (.inl a2), some (.inl a3), some (.inl ((100 : Int32) - a3)), none]) rfl ?_
  refine ex_iconst (pc := 6) (fr_get fo_87_0 4 rfl) ic_0 ?_
  refine ex_istore (pc := 7) (fr_get fo_87_0 5 rfl) rfl (L' := [some (.inr (.inr (5, 0))), some (.inl a1), some (.inl a2), some (.inl a3), some (.inl ((100 : Int32) - a3)), some (.inl (0 : Int32))]) rfl ?_
  exact h

theorem b_87_9 {d : Nat} {I : ma_I} {o : Nat} {Q : ma_Q} {v1 : Int32} {v2 : Int32} {v3 : Int32} {v4 : Int32} {v5 : Int32}
  (h :
    ((100 : Int32) ≤ v5 →
      (v4 < 0 →
        Q (some (.inl (0 : Int32))) I o) ∧
      (0 ≤ v4 →
        Q (some (.inl (1 : Int32))) I o)) ∧
    (v5 < (100 : Int32) →
      (v4 < 0 →
        (v4 < 0 →
          Q (some (.inl (0 : Int32))) I o) ∧
        (0 ≤ v4 →
          Q (some (.inl (1 : Int32))) I o)) ∧
      (0 ≤ v4 →
        Exm (d) 57 [.inr (.inr (10, 0)), .inr (.inr (6, 0)), .inl v1, .inl v5, .inl v2] I o (fun r J1 p2 => r = none ∧
          (J1 10 0 0 = 0 →
            Ex (d + 1) 87 (9, [some (.inr (.inr (5, 0))), some (.inl v1), some (.inl v2), some (.inl v3), some (.inl v4), some (.inl (v5 + (1 : Int32)))], [], ma_mem J1 p2, 0, 0) (ma_end Q)) ∧
          (J1 10 0 0 ≠ 0 →
            Ex (d + 1) 87 (9, [some (.inr (.inr (5, 0))), some (.inl v1), some (.inl v2), some (.inl v3), some (.inl (v4 + (-1 : Int32))), some (.inl (v5 + (1 : Int32)))], [], ma_mem J1 p2, 0, 0) (ma_end Q)))))) :
  Ex (d + 1) 87 (9, [some (.inr (.inr (5, 0))), some (.inl v1), some (.inl v2), some (.inl v3), some (.inl v4), some (.inl v5)], [], ma_mem I o, 0, 0) (ma_end Q) := by
  refine ex_iload (pc := 9) (fr_get fo_87_0 6 rfl) rfl ?_
  refine ex_bipush (pc := 11) (fr_get fo_87_0 7 rfl) bp_100 ?_
  refine xv_cge (pc := 13) (fr_get fo_87_0 8 rfl) (t := 55) rfl (fun c => ?_) (fun c => ?_)
  · replace h := h.1 c
    refine ex_iload (pc := 55) (fr_get fo_87_1 10 rfl) rfl ?_
    refine xv_blt (pc := 57) (fr_get fo_87_1 11 rfl) (t := 64) rfl (fun c => ?_) (fun c => ?_)
    · replace h := h.1 c
      refine ex_iconst (pc := 64) (fr_get fo_87_1 14 rfl) ic_0 ?_
      exact ex_zreturn (pc := 65) (fr_get fo_87_1 15 rfl) rt_87 rfl rfl ⟨Or.inl rfl, ma_end_mk h⟩
    · replace h := h.2 c
      refine ex_iconst (pc := 60) (fr_get fo_87_1 12 rfl) ic_1 ?_
      refine ex_goto (pc := 61) (fr_get fo_87_1 13 rfl) (t := 65) rfl ?_
      exact ex_zreturn (pc := 65) (fr_get fo_87_1 15 rfl) rt_87 rfl rfl ⟨Or.inr rfl, ma_end_mk h⟩
  · replace h := h.2 c
    refine ex_iload (pc := 16) (fr_get fo_87_0 9 rfl) rfl ?_
    refine xv_blt (pc := 18) (fr_get fo_87_0 10 rfl) (t := 55) rfl (fun c => ?_) (fun c => ?_)
    · replace h := h.1 c
      refine ex_iload (pc := 55) (fr_get fo_87_1 10 rfl) rfl ?_
      refine xv_blt (pc := 57) (fr_get fo_87_1 11 rfl) (t := 64) rfl (fun c => ?_) (fun c => ?_)
      · replace h := h.1 c
        refine ex_iconst (pc := 64) (fr_get fo_87_1 14 rfl) ic_0 ?_
        exact ex_zreturn (pc := 65) (fr_get fo_87_1 15 rfl) rt_87 rfl rfl ⟨Or.inl rfl, ma_end_mk h⟩
      · replace h := h.2 c
        refine ex_iconst (pc := 60) (fr_get fo_87_1 12 rfl) ic_1 ?_
        refine ex_goto (pc := 61) (fr_get fo_87_1 13 rfl) (t := 65) rfl ?_
        exact ex_zreturn (pc := 65) (fr_get fo_87_1 15 rfl) rt_87 rfl rfl ⟨Or.inr rfl, ma_end_mk h⟩
    · replace h := h.2 c
      refine ex_aload_n (pc := 21) (fr_get fo_87_0 11 rfl) rfl rfl ?_
      refine ex_gr (pc := 22) (fr_get fo_87_0 12 rfl) ow_87 fr_8_42_5 (q := (10, 0)) rfl ?_
      refine ex_aload_n (pc := 25) (fr_get fo_87_0 13 rfl) rfl rfl ?_
      refine ex_gr (pc := 26) (fr_get fo_87_0 14 rfl) ow_87 fr_8_12_5 (q := (6, 0)) rfl ?_
      refine ex_iload_n (pc := 29) (fr_get fo_87_0 15 rfl) rfl ?_
      refine ex_iload (pc := 30) (fr_get fo_87_1 0 rfl) rfl ?_
      refine ex_iload_n (pc := 32) (fr_get fo_87_1 1 rfl) rfl ?_
      refine xv_kv0 (pc := 33) (fr_get fo_87_1 2 rfl) cc_87_214 (as := [.inr (.inr (10, 0)), .inr (.inr (6, 0)), .inl v1, .inl v5, .inl v2]) (rs := []) rfl rfl rfl rfl rfl ?_
      refine h.mono (fun r J1 p2 h => ⟨h.1, ?_⟩)
      replace h := h.2
      refine ex_aload_n (pc := 36) (fr_get fo_87_1 3 rfl) rfl rfl ?_
      refine ex_gr (pc := 37) (fr_get fo_87_1 4 rfl) ow_87 fr_8_42_5 (q := (10, 0)) rfl ?_
      refine xv_gi (pc := 40) (fr_get fo_87_1 5 rfl) ow_87 fg_8_175_10 rfl ?_
      refine xv_beq (pc := 43) (fr_get fo_87_1 6 rfl) (t := 49) rfl (fun c => ?_) (fun c => ?_)
      · replace h := h.1 c
        refine xv_iinc (pc := 49) (fr_get fo_87_1 8 rfl) rfl ic_1 (L' := [some (.inr (.inr (5, 0))), some (.inl v1), some (.inl v2), some (.inl v3), some (.inl v4), some (.inl (v5 + (1 : Int32)))]) rfl ?_
        refine ex_goto (pc := 52) (fr_get fo_87_1 9 rfl) (t := 9) rfl ?_
        exact h
      · replace h := h.2 c
        refine xv_iinc (pc := 46) (fr_get fo_87_1 7 rfl) rfl ic_m1 (L' := [some (.inr (.inr (5, 0))), some (.inl v1), some (.inl v2), some (.inl v3), some (.inl (v4 + (-1 : Int32))), some (.inl v5)]) rfl ?_
        refine xv_iinc (pc := 49) (fr_get fo_87_1 8 rfl) rfl ic_1 (L' := [some (.inr (.inr (5, 0))), some (.inl v1), some (.inl v2), some (.inl v3), some (.inl (v4 + (-1 : Int32))), some (.inl (v5 + (1 : Int32)))]) rfl ?_
        refine ex_goto (pc := 52) (fr_get fo_87_1 9 rfl) (t := 9) rfl ?_
        exact h

theorem e_88 {d : Nat} {I : ma_I} {o : Nat} {Q : ma_Q} {a1 : Int32} {a2 : Int32} {a3 : Int32}
  (h :
    (¬((0 : Int32) ≤ a1 ∧ a1 ≤ (7 : Int32)) →
      Q (some (.inl (-2 : Int32))) I o) ∧
    ((0 : Int32) ≤ a1 ∧ a1 ≤ (7 : Int32) →
      (¬((0 : Int32) ≤ a2 ∧ a2 ≤ (99 : Int32)) →
        Q (some (.inl (-2 : Int32))) I o) ∧
      ((0 : Int32) ≤ a2 ∧ a2 ≤ (99 : Int32) →
        ((0 : Int32) ≤ a3 ∧ a3 ≤ (1 : Int32) →
          (I 6 0 4 < (8 : Int32) →
            Exm (d + 1) 78 [.inr (.inr (5, 0)), .inl a1, .inl (xv_al (I 6 0 4))] I o (fun r J1 p2 => ∃ x3 : Int32, r = some (.inl x3) ∧
              Ex (d + 2) 88 (61, [some (.inr (.inr (5, 0))), some (.inl a1), some (.inl a2), some (.inl a3), some (.inl x3), some (.inl (-1 : Int32)), some (.inl (0 : Int32)), none, none, none], [], ma_mem J1 p2, 0, 0) (ma_end Q))) ∧
          ((8 : Int32) ≤ I 6 0 4 →
            Q (some (.inl (-4 : Int32))) I o)) ∧
        (¬((0 : Int32) ≤ a3 ∧ a3 ≤ (1 : Int32)) →
          Q (some (.inl (-2 : Int32))) I o)))) :
  Exm (d + 2) 88 [.inr (.inr (5, 0)), .inl a1, .inl a2, .inl a3] I o Q := by
  show Ex (d + 2) 88 (0, [some (.inr (.inr (5, 0))), some (.inl a1), some (.inl a2), some (.inl a3), none, none, none, none, none, none], [], ma_mem I o, 0, 0) (ma_end Q)
  refine ex_iload_n (pc := 0) (fr_get fo_88_0 0 rfl) rfl ?_
  refine xv_ks1 (pc := 1) (fr_get fo_88_0 1 rfl) cc_88_88 (as := [.inl a1]) (rs := []) rfl rfl rfl rfl ?_
  refine sm_113 ?_
  refine ⟨_, rfl, ?_⟩
  refine xv_peq (pc := 4) (fr_get fo_88_0 2 rfl) (t := 23) rfl (fun c => ?_) (fun c => ?_)
  · replace h := h.1 c
    refine ex_bipush (pc := 23) (fr_get fo_88_0 11 rfl) bp_m2 ?_
    exact ex_ireturn (pc := 25) (fr_get fo_88_0 12 rfl) rt_88 rfl rfl (ma_end_mk h)
  · replace h := h.2 c
    refine ex_iload_n (pc := 7) (fr_get fo_88_0 3 rfl) rfl ?_
    refine xv_ks1 (pc := 8) (fr_get fo_88_0 4 rfl) cc_88_84 (as := [.inl a2]) (rs := []) rfl rfl rfl rfl ?_
    refine sm_114 ?_
    refine ⟨_, rfl, ?_⟩
    refine xv_peq (pc := 11) (fr_get fo_88_0 5 rfl) (t := 23) rfl (fun c => ?_) (fun c => ?_)
    · replace h := h.1 c
      refine ex_bipush (pc := 23) (fr_get fo_88_0 11 rfl) bp_m2 ?_
      exact ex_ireturn (pc := 25) (fr_get fo_88_0 12 rfl) rt_88 rfl rfl (ma_end_mk h)
    · replace h := h.2 c
      refine ex_iload_n (pc := 14) (fr_get fo_88_0 6 rfl) rfl ?_
      refine ex_iconst (pc := 15) (fr_get fo_88_0 7 rfl) ic_0 ?_
      refine ex_iconst (pc := 16) (fr_get fo_88_0 8 rfl) ic_1 ?_
      refine xv_ks1 (pc := 17) (fr_get fo_88_0 9 rfl) cc_88_108 (as := [.inl a3, .inl (0 : Int32), .inl (1 : Int32)]) (rs := []) rfl rfl rfl rfl ?_
      refine sm_112 ?_
      refine ⟨_, rfl, ?_⟩
      refine xv_pne (pc := 20) (fr_get fo_88_0 10 rfl) (t := 26) rfl (fun c => ?_) (fun c => ?_)
      · replace h := h.1 c
        refine ex_aload_n (pc := 26) (fr_get fo_88_0 13 rfl) rfl rfl ?_
        refine ex_gr (pc := 27) (fr_get fo_88_0 14 rfl) ow_88 fr_8_12_5 (q := (6, 0)) rfl ?_
        refine xv_gi (pc := 30) (fr_get fo_88_0 15 rfl) ow_88 fg_8_112_6 rfl ?_
        refine ex_bipush (pc := 33) (fr_get fo_88_1 0 rfl) bp_8 ?_
        refine xv_clt (pc := 35) (fr_get fo_88_1 1 rfl) (t := 41) rfl (fun c => ?_) (fun c => ?_)
        · replace h := h.1 c
          refine ex_aload_n (pc := 41) (fr_get fo_88_1 4 rfl) rfl rfl ?_
          refine ex_iload_n (pc := 42) (fr_get fo_88_1 5 rfl) rfl ?_
          refine ex_aload_n (pc := 43) (fr_get fo_88_1 6 rfl) rfl rfl ?_
          refine ex_gr (pc := 44) (fr_get fo_88_1 7 rfl) ow_88 fr_8_12_5 (q := (6, 0)) rfl ?_
          refine xv_kv1 (pc := 47) (fr_get fo_88_1 8 rfl) cc_88_193 (as := [.inr (.inr (6, 0))]) (rs := [.inl a1, .inr (.inr (5, 0))]) rfl rfl rfl rfl rfl ?_
          refine sm_15 rfl ?_
          refine ⟨_, rfl, ?_⟩
          refine xv_kv1 (pc := 50) (fr_get fo_88_1 9 rfl) cc_88_196 (as := [.inr (.inr (5, 0)), .inl a1, .inl (xv_al (I 6 0 4))]) (rs := []) rfl rfl rfl rfl rfl ?_
          refine h.mono (fun r J1 p2 h => ?_)
          obtain ⟨x3, hr, h⟩ := h
          refine ⟨x3, hr, ?_⟩
          refine ex_istore (pc := 53) (fr_get fo_88_1 10 rfl) rfl (L' := [some (.inr (.inr (5, 0))), some (.inl a1), some (.inl a2), some (.inl a3), some (.inl x3), none, none, none, none, none]) rfl ?_
          refine ex_iconst (pc := 55) (fr_get fo_88_1 11 rfl) ic_m1 ?_
          refine ex_istore (pc := 56) (fr_get fo_88_1 12 rfl) rfl (L' := [some (.inr (.inr (5, 0))), some (.inl a1), some (.inl a2), some (.inl a3), some (.inl x3), some (.inl (-1 : Int32)), none, none, none, none]) rfl ?_
          refine ex_iconst (pc := 58) (fr_get fo_88_1 13 rfl) ic_0 ?_
          refine ex_istore (pc := 59) (fr_get fo_88_1 14 rfl) rfl (L' := [some (.inr (.inr (5, 0))), some (.inl a1), some (.inl a2), some (.inl a3), some (.inl x3), some (.inl (-1 : Int32)), some (.inl (0 : Int32)), none, none, none]) rfl ?_
          exact h
        · replace h := h.2 c
          refine ex_bipush (pc := 38) (fr_get fo_88_1 2 rfl) bp_m4 ?_
          exact ex_ireturn (pc := 40) (fr_get fo_88_1 3 rfl) rt_88 rfl rfl (ma_end_mk h)
      · replace h := h.2 c
        refine ex_bipush (pc := 23) (fr_get fo_88_0 11 rfl) bp_m2 ?_
        exact ex_ireturn (pc := 25) (fr_get fo_88_0 12 rfl) rt_88 rfl rfl (ma_end_mk h)

theorem b_88_61 {d : Nat} {I : ma_I} {o : Nat} {Q : ma_Q} {v1 : Int32} {v2 : Int32} {v3 : Int32} {v4 : Int32} {v5 : Int32} {v6 : Int32} {w7 : Option ma_V} {w8 : Option ma_V} {w9 : Option ma_V}
  (h :
    ((80 : Int32) ≤ v6 →
      (v3 ≠ 0 →
        Q (some (.inl v4)) I o) ∧
      (v3 = 0 →
        Q (some (.inl v5)) I o)) ∧
    (v6 < (80 : Int32) →
      (¬((0 : Int32) ≤ (xv_rm v6 (10 : Int32)) ∧ (xv_rm v6 (10 : Int32)) ≤ (7 : Int32)) →
        Ex (d + 2) 88 (61, [some (.inr (.inr (5, 0))), some (.inl v1), some (.inl v2), some (.inl v3), some (.inl v4), some (.inl v5), some (.inl (v6 + (1 : Int32))), some (.inl (v6 / (10 : Int32))), some (.inl (xv_rm v6 (10 : Int32))), w9], [], ma_mem I o, 0, 0) (ma_end Q)) ∧
      ((0 : Int32) ≤ (xv_rm v6 (10 : Int32)) ∧ (xv_rm v6 (10 : Int32)) ≤ (7 : Int32) →
        (v6 / (10 : Int32) = xv_rm v6 (10 : Int32) →
          Ex (d + 2) 88 (61, [some (.inr (.inr (5, 0))), some (.inl v1), some (.inl v2), some (.inl v3), some (.inl v4), some (.inl v5), some (.inl (v6 + (1 : Int32))), some (.inl (v6 / (10 : Int32))), some (.inl (xv_rm v6 (10 : Int32))), w9], [], ma_mem I o, 0, 0) (ma_end Q)) ∧
        (v6 / (10 : Int32) ≠ xv_rm v6 (10 : Int32) →
          Exm (d + 1) 89 [.inr (.inr (5, 0)), .inl v1, .inl (v6 / (10 : Int32)), .inl (xv_rm v6 (10 : Int32)), .inl v2] I o (fun r J1 p2 => ∃ x3 : Int32, r = some (.inl x3) ∧
            (x3 ≤ v4 →
              Ex (d + 2) 88 (61, [some (.inr (.inr (5, 0))), some (.inl v1), some (.inl v2), some (.inl v3), some (.inl v4), some (.inl v5), some (.inl (v6 + (1 : Int32))), some (.inl (v6 / (10 : Int32))), some (.inl (xv_rm v6 (10 : Int32))), some (.inl x3)], [], ma_mem J1 p2, 0, 0) (ma_end Q)) ∧
            (v4 < x3 →
              Ex (d + 2) 88 (61, [some (.inr (.inr (5, 0))), some (.inl v1), some (.inl v2), some (.inl v3), some (.inl x3), some (.inl v6), some (.inl (v6 + (1 : Int32))), some (.inl (v6 / (10 : Int32))), some (.inl (xv_rm v6 (10 : Int32))), some (.inl x3)], [], ma_mem J1 p2, 0, 0) (ma_end Q))))))) :
  Ex (d + 2) 88 (61, [some (.inr (.inr (5, 0))), some (.inl v1), some (.inl v2), some (.inl v3), some (.inl v4), some (.inl v5), some (.inl v6), w7, w8, w9], [], ma_mem I o, 0, 0) (ma_end Q) := by
  refine ex_iload (pc := 61) (fr_get fo_88_1 15 rfl) rfl ?_
  refine ex_bipush (pc := 63) (fr_get fo_88_2 0 rfl) bp_80 ?_
  refine xv_cge (pc := 65) (fr_get fo_88_2 1 rfl) (t := 130) rfl (fun c => ?_) (fun c => ?_)
  · replace h := h.1 c
    refine ex_iload_n (pc := 130) (fr_get fo_88_4 0 rfl) rfl ?_
    refine xv_bne (pc := 131) (fr_get fo_88_4 1 rfl) (t := 139) rfl (fun c => ?_) (fun c => ?_)
    · replace h := h.1 c
      refine ex_iload (pc := 139) (fr_get fo_88_4 4 rfl) rfl ?_
      exact ex_ireturn (pc := 141) (fr_get fo_88_4 5 rfl) rt_88 rfl rfl (ma_end_mk h)
    · replace h := h.2 c
      refine ex_iload (pc := 134) (fr_get fo_88_4 2 rfl) rfl ?_
      refine ex_goto (pc := 136) (fr_get fo_88_4 3 rfl) (t := 141) rfl ?_
      exact ex_ireturn (pc := 141) (fr_get fo_88_4 5 rfl) rt_88 rfl rfl (ma_end_mk h)
  · replace h := h.2 c
    refine ex_iload (pc := 68) (fr_get fo_88_2 2 rfl) rfl ?_
    refine ex_bipush (pc := 70) (fr_get fo_88_2 3 rfl) bp_10 ?_
    refine xv_idiv (pc := 72) (fr_get fo_88_2 4 rfl) (by decide) ?_
    refine ex_istore (pc := 73) (fr_get fo_88_2 5 rfl) rfl (L' := [some (.inr (.inr (5, 0))), some (.inl v1), some (.inl v2), some (.inl v3), some (.inl v4), some (.inl v5), some (.inl v6), some (.inl (v6 / (10 : Int32))), w8, w9]) rfl ?_
    refine ex_iload (pc := 75) (fr_get fo_88_2 6 rfl) rfl ?_
    refine ex_bipush (pc := 77) (fr_get fo_88_2 7 rfl) bp_10 ?_
    refine xv_irem (pc := 79) (fr_get fo_88_2 8 rfl) (by decide) ?_
    refine ex_istore (pc := 80) (fr_get fo_88_2 9 rfl) rfl (L' := [some (.inr (.inr (5, 0))), some (.inl v1), some (.inl v2), some (.inl v3), some (.inl v4), some (.inl v5), some (.inl v6), some (.inl (v6 / (10 : Int32))), some (.inl (xv_rm v6 (10 : Int32))), w9]) rfl ?_
    refine ex_iload (pc := 82) (fr_get fo_88_2 10 rfl) rfl ?_
    refine xv_ks1 (pc := 84) (fr_get fo_88_2 11 rfl) cc_88_88 (as := [.inl (xv_rm v6 (10 : Int32))]) (rs := []) rfl rfl rfl rfl ?_
    refine sm_113 ?_
    refine ⟨_, rfl, ?_⟩
    refine xv_peq (pc := 87) (fr_get fo_88_2 12 rfl) (t := 124) rfl (fun c => ?_) (fun c => ?_)
    · replace h := h.1 c
      refine xv_iinc (pc := 124) (fr_get fo_88_3 14 rfl) rfl ic_1 (L' := [some (.inr (.inr (5, 0))), some (.inl v1), some (.inl v2), some (.inl v3), some (.inl v4), some (.inl v5), some (.inl (v6 + (1 : Int32))), some (.inl (v6 / (10 : Int32))), some (.inl (xv_rm v6 (10 : Int32))), w9]) rfl ?_
      refine ex_goto (pc := 127) (fr_get fo_88_3 15 rfl) (t := 61) rfl ?_
      exact h
    · replace h := h.2 c
      refine ex_iload (pc := 90) (fr_get fo_88_2 13 rfl) rfl ?_
      refine ex_iload (pc := 92) (fr_get fo_88_2 14 rfl) rfl ?_
      refine xv_ceq (pc := 94) (fr_get fo_88_2 15 rfl) (t := 124) rfl (fun c => ?_) (fun c => ?_)
      · replace h := h.1 c
        refine xv_iinc (pc := 124) (fr_get fo_88_3 14 rfl) rfl ic_1 (L' := [some (.inr (.inr (5, 0))), some (.inl v1), some (.inl v2), some (.inl v3), some (.inl v4), some (.inl v5), some (.inl (v6 + (1 : Int32))), some (.inl (v6 / (10 : Int32))), some (.inl (xv_rm v6 (10 : Int32))), w9]) rfl ?_
        refine ex_goto (pc := 127) (fr_get fo_88_3 15 rfl) (t := 61) rfl ?_
        exact h
      · replace h := h.2 c
        refine ex_aload_n (pc := 97) (fr_get fo_88_3 0 rfl) rfl rfl ?_
        refine ex_iload_n (pc := 98) (fr_get fo_88_3 1 rfl) rfl ?_
        refine ex_iload (pc := 99) (fr_get fo_88_3 2 rfl) rfl ?_
        refine ex_iload (pc := 101) (fr_get fo_88_3 3 rfl) rfl ?_
        refine ex_iload_n (pc := 103) (fr_get fo_88_3 4 rfl) rfl ?_
        refine xv_kv1 (pc := 104) (fr_get fo_88_3 5 rfl) cc_88_248 (as := [.inr (.inr (5, 0)), .inl v1, .inl (v6 / (10 : Int32)), .inl (xv_rm v6 (10 : Int32)), .inl v2]) (rs := []) rfl rfl rfl rfl rfl ?_
        refine h.mono (fun r J1 p2 h => ?_)
        obtain ⟨x3, hr, h⟩ := h
        refine ⟨x3, hr, ?_⟩
        refine ex_istore (pc := 107) (fr_get fo_88_3 6 rfl) rfl (L' := [some (.inr (.inr (5, 0))), some (.inl v1), some (.inl v2), some (.inl v3), some (.inl v4), some (.inl v5), some (.inl v6), some (.inl (v6 / (10 : Int32))), some (.inl (xv_rm v6 (10 : Int32))), some (.inl x3)]) rfl ?_
        refine ex_iload (pc := 109) (fr_get fo_88_3 7 rfl) rfl ?_
        refine ex_iload (pc := 111) (fr_get fo_88_3 8 rfl) rfl ?_
        refine xv_cle (pc := 113) (fr_get fo_88_3 9 rfl) (t := 124) rfl (fun c => ?_) (fun c => ?_)
        · replace h := h.1 c
          refine xv_iinc (pc := 124) (fr_get fo_88_3 14 rfl) rfl ic_1 (L' := [some (.inr (.inr (5, 0))), some (.inl v1), some (.inl v2), some (.inl v3), some (.inl v4), some (.inl v5), some (.inl (v6 + (1 : Int32))), some (.inl (v6 / (10 : Int32))), some (.inl (xv_rm v6 (10 : Int32))), some (.inl x3)]) rfl ?_
          refine ex_goto (pc := 127) (fr_get fo_88_3 15 rfl) (t := 61) rfl ?_
          exact h
        · replace h := h.2 c
          refine ex_iload (pc := 116) (fr_get fo_88_3 10 rfl) rfl ?_
          refine ex_istore (pc := 118) (fr_get fo_88_3 11 rfl) rfl (L' := [some (.inr (.inr (5, 0))), some (.inl v1), some (.inl v2), some (.inl v3), some (.inl x3), some (.inl v5), some (.inl v6), some (.inl (v6 / (10 : Int32))), some (.inl (xv_rm v6 (10 : Int32))), some (.inl x3)]) rfl ?_
          refine ex_iload (pc := 120) (fr_get fo_88_3 12 rfl) rfl ?_
          refine ex_istore (pc := 122) (fr_get fo_88_3 13 rfl) rfl (L' := [some (.inr (.inr (5, 0))), some (.inl v1), some (.inl v2), some (.inl v3), some (.inl x3), some (.inl v6), some (.inl v6), some (.inl (v6 / (10 : Int32))), some (.inl (xv_rm v6 (10 : Int32))), some (.inl x3)]) rfl ?_
          refine xv_iinc (pc := 124) (fr_get fo_88_3 14 rfl) rfl ic_1 (L' := [some (.inr (.inr (5, 0))), some (.inl v1), some (.inl v2), some (.inl v3), some (.inl x3), some (.inl v6), some (.inl (v6 + (1 : Int32))), some (.inl (v6 / (10 : Int32))), some (.inl (xv_rm v6 (10 : Int32))), some (.inl x3)]) rfl ?_
          refine ex_goto (pc := 127) (fr_get fo_88_3 15 rfl) (t := 61) rfl ?_
          exact h

theorem e_89 {d : Nat} {I : ma_I} {o : Nat} {Q : ma_Q} {a1 : Int32} {a2 : Int32} {a3 : Int32} {a4 : Int32}
  (h :
    ma_in (I 6 0 4) 8 ∧
    Exm (d) 4 [.inr (.inr (17, (I 6 0 4).toNatClampNeg)), .inl (0 : Int32), .inl (0 : Int32), .inl a2, .inl a3, .inl a4, .inl (99 : Int32)] I o (fun r J1 p2 => r = none ∧
      Exm (d) 16 [.inr (.inr (6, 0)), .inl (I 6 0 4)] J1 p2 (fun r J3 p4 => r = none ∧
        Exm (d) 78 [.inr (.inr (5, 0)), .inl a1, .inl ((xv_al (J3 6 0 4)) ||| ((1 : Int32) <<< ((I 6 0 4) &&& 31)))] J3 p4 (fun r J5 p6 => ∃ x7 : Int32, r = some (.inl x7) ∧
          Exm (d) 17 [.inr (.inr (6, 0)), .inl (I 6 0 4)] J5 p6 (fun r J8 p9 => r = none ∧
            Q (some (.inl x7)) J8 p9))))) :
  Exm (d + 1) 89 [.inr (.inr (5, 0)), .inl a1, .inl a2, .inl a3, .inl a4] I o Q := by
  show Ex (d + 1) 89 (0, [some (.inr (.inr (5, 0))), some (.inl a1), some (.inl a2), some (.inl a3), some (.inl a4), none, none], [], ma_mem I o, 0, 0) (ma_end Q)
  refine ex_aload_n (pc := 0) (fr_get fo_89_0 0 rfl) rfl rfl ?_
  refine ex_gr (pc := 1) (fr_get fo_89_0 1 rfl) ow_89 fr_8_12_5 (q := (6, 0)) rfl ?_
  refine xv_gi (pc := 4) (fr_get fo_89_0 2 rfl) ow_89 fg_8_112_6 rfl ?_
  refine ex_istore (pc := 7) (fr_get fo_89_0 3 rfl) rfl (L' := [some (.inr (.inr (5, 0))), some (.inl a1), some (.inl a2), some (.inl a3), some (.inl a4), some (.inl (I 6 0 4)), none]) rfl ?_
  refine ex_aload_n (pc := 9) (fr_get fo_89_0 4 rfl) rfl rfl ?_
  refine ex_gr (pc := 10) (fr_get fo_89_0 5 rfl) ow_89 fr_8_12_5 (q := (6, 0)) rfl ?_
  refine ex_gr (pc := 13) (fr_get fo_89_0 6 rfl) ow_89 fr_8_115_6 (q := (16, 0)) rfl ?_
  refine ex_iload (pc := 16) (fr_get fo_89_0 7 rfl) rfl ?_
  refine xv_aald (pc := 18) (fr_get fo_89_0 8 rfl) ga_16 gl_16 (q := (17, (I 6 0 4).toNatClampNeg)) rfl rfl h.1 ?_
  replace h := h.2
  refine ex_iconst (pc := 19) (fr_get fo_89_0 9 rfl) ic_0 ?_
  refine ex_iconst (pc := 20) (fr_get fo_89_0 10 rfl) ic_0 ?_
  refine ex_iload_n (pc := 21) (fr_get fo_89_0 11 rfl) rfl ?_
  refine ex_iload_n (pc := 22) (fr_get fo_89_0 12 rfl) rfl ?_
  refine ex_iload (pc := 23) (fr_get fo_89_0 13 rfl) rfl ?_
  refine ex_bipush (pc := 25) (fr_get fo_89_0 14 rfl) bp_99 ?_
  refine xv_kv0 (pc := 27) (fr_get fo_89_0 15 rfl) cc_89_119 (as := [.inr (.inr (17, (I 6 0 4).toNatClampNeg)), .inl (0 : Int32), .inl (0 : Int32), .inl a2, .inl a3, .inl a4, .inl (99 : Int32)]) (rs := []) rfl rfl rfl rfl rfl ?_
  refine h.mono (fun r J1 p2 h => ⟨h.1, ?_⟩)
  replace h := h.2
  refine ex_aload_n (pc := 30) (fr_get fo_89_1 0 rfl) rfl rfl ?_
  refine ex_gr (pc := 31) (fr_get fo_89_1 1 rfl) ow_89 fr_8_12_5 (q := (6, 0)) rfl ?_
  refine ex_iload (pc := 34) (fr_get fo_89_1 2 rfl) rfl ?_
  refine xv_kv0 (pc := 36) (fr_get fo_89_1 3 rfl) cc_89_125 (as := [.inr (.inr (6, 0)), .inl (I 6 0 4)]) (rs := []) rfl rfl rfl rfl rfl ?_
  refine h.mono (fun r J3 p4 h => ⟨h.1, ?_⟩)
  replace h := h.2
  refine ex_aload_n (pc := 39) (fr_get fo_89_1 4 rfl) rfl rfl ?_
  refine ex_iload_n (pc := 40) (fr_get fo_89_1 5 rfl) rfl ?_
  refine ex_aload_n (pc := 41) (fr_get fo_89_1 6 rfl) rfl rfl ?_
  refine ex_gr (pc := 42) (fr_get fo_89_1 7 rfl) ow_89 fr_8_12_5 (q := (6, 0)) rfl ?_
  refine xv_kv1 (pc := 45) (fr_get fo_89_1 8 rfl) cc_89_193 (as := [.inr (.inr (6, 0))]) (rs := [.inl a1, .inr (.inr (5, 0))]) rfl rfl rfl rfl rfl ?_
  refine sm_15 rfl ?_
  refine ⟨_, rfl, ?_⟩
  refine ex_iconst (pc := 48) (fr_get fo_89_1 9 rfl) ic_1 ?_
  refine ex_iload (pc := 49) (fr_get fo_89_1 10 rfl) rfl ?_
  refine ex_ishl (pc := 51) (fr_get fo_89_1 11 rfl) ?_
  refine ex_ior (pc := 52) (fr_get fo_89_1 12 rfl) ?_
  refine xv_kv1 (pc := 53) (fr_get fo_89_1 13 rfl) cc_89_196 (as := [.inr (.inr (5, 0)), .inl a1, .inl ((xv_al (J3 6 0 4)) ||| ((1 : Int32) <<< ((I 6 0 4) &&& 31)))]) (rs := []) rfl rfl rfl rfl rfl ?_
  refine h.mono (fun r J5 p6 h => ?_)
  obtain ⟨x7, hr, h⟩ := h
  refine ⟨x7, hr, ?_⟩
  refine ex_istore (pc := 56) (fr_get fo_89_1 14 rfl) rfl (L' := [some (.inr (.inr (5, 0))), some (.inl a1), some (.inl a2), some (.inl a3), some (.inl a4), some (.inl (I 6 0 4)), some (.inl x7)]) rfl ?_
  refine ex_aload_n (pc := 58) (fr_get fo_89_1 15 rfl) rfl rfl ?_
  refine ex_gr (pc := 59) (fr_get fo_89_2 0 rfl) ow_89 fr_8_12_5 (q := (6, 0)) rfl ?_
  refine ex_iload (pc := 62) (fr_get fo_89_2 1 rfl) rfl ?_
  refine xv_kv0 (pc := 64) (fr_get fo_89_2 2 rfl) cc_89_146 (as := [.inr (.inr (6, 0)), .inl (I 6 0 4)]) (rs := []) rfl rfl rfl rfl rfl ?_
  refine h.mono (fun r J8 p9 h => ⟨h.1, ?_⟩)
  replace h := h.2
  refine ex_iload (pc := 67) (fr_get fo_89_2 3 rfl) rfl ?_
  exact ex_ireturn (pc := 69) (fr_get fo_89_2 4 rfl) rt_89 rfl rfl (ma_end_mk h)

theorem e_90 {d : Nat} {I : ma_I} {o : Nat} {Q : ma_Q} {a1 : Int32}
  (h :
    ((0 : Int32) ≤ a1 ∧ a1 ≤ (7 : Int32) →
      Exm (d + 1) 78 [.inr (.inr (5, 0)), .inl a1, .inl (xv_al (I 6 0 4))] (ma_up I 6 0 0 (20 : Int32)) o (fun r J1 p2 => ∃ x3 : Int32, r = some (.inl x3) ∧
        Ex (d + 2) 90 (43, [some (.inr (.inr (5, 0))), some (.inl a1), some (.inl (I 6 0 0)), some (.inl x3), some (.inl (1 : Int32))], [], ma_mem J1 p2, 0, 0) (ma_end Q))) ∧
    (¬((0 : Int32) ≤ a1 ∧ a1 ≤ (7 : Int32)) →
      Q (some (.inl (-2 : Int32))) I o)) :
  Exm (d + 2) 90 [.inr (.inr (5, 0)), .inl a1] I o Q := by
  show Ex (d + 2) 90 (0, [some (.inr (.inr (5, 0))), some (.inl a1), none, none, none], [], ma_mem I o, 0, 0) (ma_end Q)
  refine ex_iload_n (pc := 0) (fr_get fo_90_0 0 rfl) rfl ?_
  refine xv_ks1 (pc := 1) (fr_get fo_90_0 1 rfl) cc_90_88 (as := [.inl a1]) (rs := []) rfl rfl rfl rfl ?_
  refine sm_113 ?_
  refine ⟨_, rfl, ?_⟩
  refine xv_pne (pc := 4) (fr_get fo_90_0 2 rfl) (t := 10) rfl (fun c => ?_) (fun c => ?_)
  · replace h := h.1 c
    refine ex_aload_n (pc := 10) (fr_get fo_90_0 5 rfl) rfl rfl ?_
    refine ex_gr (pc := 11) (fr_get fo_90_0 6 rfl) ow_90 fr_8_12_5 (q := (6, 0)) rfl ?_
    refine xv_gi (pc := 14) (fr_get fo_90_0 7 rfl) ow_90 fg_8_128_6 rfl ?_
    refine ex_istore_n (pc := 17) (fr_get fo_90_0 8 rfl) rfl (L' := [some (.inr (.inr (5, 0))), some (.inl a1), some (.inl (I 6 0 0)), none, none]) rfl ?_
    refine ex_aload_n (pc := 18) (fr_get fo_90_0 9 rfl) rfl rfl ?_
    refine ex_gr (pc := 19) (fr_get fo_90_0 10 rfl) ow_90 fr_8_12_5 (q := (6, 0)) rfl ?_
    refine ex_bipush (pc := 22) (fr_get fo_90_0 11 rfl) bp_20 ?_
    refine ex_pi (pc := 24) (fr_get fo_90_0 12 rfl) ow_90 fp_8_128_6 ?_
    refine ex_aload_n (pc := 27) (fr_get fo_90_0 13 rfl) rfl rfl ?_
    refine ex_iload_n (pc := 28) (fr_get fo_90_0 14 rfl) rfl ?_
    refine ex_aload_n (pc := 29) (fr_get fo_90_0 15 rfl) rfl rfl ?_
    refine ex_gr (pc := 30) (fr_get fo_90_1 0 rfl) ow_90 fr_8_12_5 (q := (6, 0)) rfl ?_
    refine xv_kv1 (pc := 33) (fr_get fo_90_1 1 rfl) cc_90_193 (as := [.inr (.inr (6, 0))]) (rs := [.inl a1, .inr (.inr (5, 0))]) rfl rfl rfl rfl rfl ?_
    refine sm_15 (xv_uj rfl) ?_
    refine ⟨_, rfl, ?_⟩
    refine xv_kv1 (pc := 36) (fr_get fo_90_1 2 rfl) cc_90_196 (as := [.inr (.inr (5, 0)), .inl a1, .inl (xv_al (I 6 0 4))]) (rs := []) rfl rfl rfl rfl rfl ?_
    refine h.mono (fun r J1 p2 h => ?_)
    obtain ⟨x3, hr, h⟩ := h
    refine ⟨x3, hr, ?_⟩
    refine ex_istore_n (pc := 39) (fr_get fo_90_1 3 rfl) rfl (L' := [some (.inr (.inr (5, 0))), some (.inl a1), some (.inl (I 6 0 0)), some (.inl x3), none]) rfl ?_
    refine ex_iconst (pc := 40) (fr_get fo_90_1 4 rfl) ic_1 ?_
    refine ex_istore (pc := 41) (fr_get fo_90_1 5 rfl) rfl (L' := [some (.inr (.inr (5, 0))), some (.inl a1), some (.inl (I 6 0 0)), some (.inl x3), some (.inl (1 : Int32))]) rfl ?_
    exact h
  · replace h := h.2 c
    refine ex_bipush (pc := 7) (fr_get fo_90_0 3 rfl) bp_m2 ?_
    exact ex_ireturn (pc := 9) (fr_get fo_90_0 4 rfl) rt_90 rfl rfl (ma_end_mk h)

theorem b_90_43 {d : Nat} {I : ma_I} {o : Nat} {Q : ma_Q} {v1 : Int32} {v2 : Int32} {v3 : Int32} {v4 : Int32}
  (h :
    ((20 : Int32) ≤ v4 →
      Q (some (.inl v4)) (ma_up I 6 0 0 v2) o) ∧
    (v4 < (20 : Int32) →
      Exm (d + 1) 87 [.inr (.inr (5, 0)), .inl v1, .inl (xv_al (I 6 0 4)), .inl v3] (ma_up I 6 0 0 v4) o (fun r J1 p2 => ∃ x3 : Int32, r = some (.inl x3) ∧
        (x3 = 0 →
          Ex (d + 2) 90 (43, [some (.inr (.inr (5, 0))), some (.inl v1), some (.inl v2), some (.inl v3), some (.inl (v4 + (1 : Int32)))], [], ma_mem J1 p2, 0, 0) (ma_end Q)) ∧
        (x3 ≠ 0 →
          Q (some (.inl v4)) (ma_up J1 6 0 0 v2) p2)))) :
  Ex (d + 2) 90 (43, [some (.inr (.inr (5, 0))), some (.inl v1), some (.inl v2), some (.inl v3), some (.inl v4)], [], ma_mem I o, 0, 0) (ma_end Q) := by
  refine ex_iload (pc := 43) (fr_get fo_90_1 6 rfl) rfl ?_
  refine ex_bipush (pc := 45) (fr_get fo_90_1 7 rfl) bp_20 ?_
  refine xv_cge (pc := 47) (fr_get fo_90_1 8 rfl) (t := 84) rfl (fun c => ?_) (fun c => ?_)
  · replace h := h.1 c
    refine ex_aload_n (pc := 84) (fr_get fo_90_2 8 rfl) rfl rfl ?_
    refine ex_gr (pc := 85) (fr_get fo_90_2 9 rfl) ow_90 fr_8_12_5 (q := (6, 0)) rfl ?_
    refine ex_iload_n (pc := 88) (fr_get fo_90_2 10 rfl) rfl ?_
    refine ex_pi (pc := 89) (fr_get fo_90_2 11 rfl) ow_90 fp_8_128_6 ?_
    refine ex_iload (pc := 92) (fr_get fo_90_2 12 rfl) rfl ?_
    exact ex_ireturn (pc := 94) (fr_get fo_90_2 13 rfl) rt_90 rfl rfl (ma_end_mk h)
  · replace h := h.2 c
    refine ex_aload_n (pc := 50) (fr_get fo_90_1 9 rfl) rfl rfl ?_
    refine ex_gr (pc := 51) (fr_get fo_90_1 10 rfl) ow_90 fr_8_12_5 (q := (6, 0)) rfl ?_
    refine ex_iload (pc := 54) (fr_get fo_90_1 11 rfl) rfl ?_
    refine ex_pi (pc := 56) (fr_get fo_90_1 12 rfl) ow_90 fp_8_128_6 ?_
    refine ex_aload_n (pc := 59) (fr_get fo_90_1 13 rfl) rfl rfl ?_
    refine ex_iload_n (pc := 60) (fr_get fo_90_1 14 rfl) rfl ?_
    refine ex_aload_n (pc := 61) (fr_get fo_90_1 15 rfl) rfl rfl ?_
    refine ex_gr (pc := 62) (fr_get fo_90_2 0 rfl) ow_90 fr_8_12_5 (q := (6, 0)) rfl ?_
    refine xv_kv1 (pc := 65) (fr_get fo_90_2 1 rfl) cc_90_193 (as := [.inr (.inr (6, 0))]) (rs := [.inl v1, .inr (.inr (5, 0))]) rfl rfl rfl rfl rfl ?_
    refine sm_15 (xv_uj rfl) ?_
    refine ⟨_, rfl, ?_⟩
    refine ex_iload_n (pc := 68) (fr_get fo_90_2 2 rfl) rfl ?_
    refine xv_kv1 (pc := 69) (fr_get fo_90_2 3 rfl) cc_90_242 (as := [.inr (.inr (5, 0)), .inl v1, .inl (xv_al (I 6 0 4)), .inl v3]) (rs := []) rfl rfl rfl rfl rfl ?_
    refine h.mono (fun r J1 p2 h => ?_)
    obtain ⟨x3, hr, h⟩ := h
    refine ⟨x3, hr, ?_⟩
    refine xv_beq (pc := 72) (fr_get fo_90_2 4 rfl) (t := 78) rfl (fun c => ?_) (fun c => ?_)
    · replace h := h.1 c
      refine xv_iinc (pc := 78) (fr_get fo_90_2 6 rfl) rfl ic_1 (L' := [some (.inr (.inr (5, 0))), some (.inl v1), some (.inl v2), some (.inl v3), some (.inl (v4 + (1 : Int32)))]) rfl ?_
      refine ex_goto (pc := 81) (fr_get fo_90_2 7 rfl) (t := 43) rfl ?_
      exact h
    · replace h := h.2 c
      refine ex_goto (pc := 75) (fr_get fo_90_2 5 rfl) (t := 84) rfl ?_
      refine ex_aload_n (pc := 84) (fr_get fo_90_2 8 rfl) rfl rfl ?_
      refine ex_gr (pc := 85) (fr_get fo_90_2 9 rfl) ow_90 fr_8_12_5 (q := (6, 0)) rfl ?_
      refine ex_iload_n (pc := 88) (fr_get fo_90_2 10 rfl) rfl ?_
      refine ex_pi (pc := 89) (fr_get fo_90_2 11 rfl) ow_90 fp_8_128_6 ?_
      refine ex_iload (pc := 92) (fr_get fo_90_2 12 rfl) rfl ?_
      exact ex_ireturn (pc := 94) (fr_get fo_90_2 13 rfl) rt_90 rfl rfl (ma_end_mk h)

theorem e_91 {d : Nat} {I : ma_I} {o : Nat} {Q : ma_Q} {a1 : Int32} {a2 : Int32}
  (h :
    (a2 < (10 : Int32) →
      Ex (d + 2) 91 (23, [some (.inr (.inr (5, 0))), some (.inl a1), some (.inl a2), some (.inl (0 : Int32)), none], [], ma_mem I o, 0, 0) (ma_end Q)) ∧
    ((10 : Int32) ≤ a2 →
      (¬((0 : Int32) ≤ (a2 - (10 : Int32)) ∧ (a2 - (10 : Int32)) ≤ ((I 6 0 4) - 1)) →
        Ex (d + 2) 91 (23, [some (.inr (.inr (5, 0))), some (.inl a1), some (.inl a2), some (.inl (0 : Int32)), none], [], ma_mem I o, 0, 0) (ma_end Q)) ∧
      ((0 : Int32) ≤ (a2 - (10 : Int32)) ∧ (a2 - (10 : Int32)) ≤ ((I 6 0 4) - 1) →
        Ex (d + 2) 91 (23, [some (.inr (.inr (5, 0))), some (.inl a1), some (.inl a2), some (.inl (1 : Int32)), none], [], ma_mem I o, 0, 0) (ma_end Q)))) :
  Exm (d + 2) 91 [.inr (.inr (5, 0)), .inl a1, .inl a2] I o Q := by
  show Ex (d + 2) 91 (0, [some (.inr (.inr (5, 0))), some (.inl a1), some (.inl a2), none, none], [], ma_mem I o, 0, 0) (ma_end Q)
  refine ex_iload_n (pc := 0) (fr_get fo_91_0 0 rfl) rfl ?_
  refine ex_bipush (pc := 1) (fr_get fo_91_0 1 rfl) bp_10 ?_
  refine xv_clt (pc := 3) (fr_get fo_91_0 2 rfl) (t := 21) rfl (fun c => ?_) (fun c => ?_)
  · replace h := h.1 c
    refine ex_iconst (pc := 21) (fr_get fo_91_0 11 rfl) ic_0 ?_
    refine ex_istore_n (pc := 22) (fr_get fo_91_0 12 rfl) rfl (L' := [some (.inr (.inr (5, 0))), some (.inl a1), some (.inl a2), some (.inl (0 : Int32)), none]) rfl ?_
    exact h
  · replace h := h.2 c
    refine ex_aload_n (pc := 6) (fr_get fo_91_0 3 rfl) rfl rfl ?_
    refine ex_iload_n (pc := 7) (fr_get fo_91_0 4 rfl) rfl ?_
    refine ex_bipush (pc := 8) (fr_get fo_91_0 5 rfl) bp_10 ?_
    refine ex_isub (pc := 10) (fr_get fo_91_0 6 rfl) ?_
    refine xv_kv1 (pc := 11) (fr_get fo_91_0 7 rfl) cc_91_135 (as := [.inr (.inr (5, 0)), .inl (a2 - (10 : Int32))]) (rs := []) rfl rfl rfl rfl rfl ?_
    refine sm_116 rfl ?_
    refine ⟨_, rfl, ?_⟩
    refine xv_peq (pc := 14) (fr_get fo_91_0 8 rfl) (t := 21) rfl (fun c => ?_) (fun c => ?_)
    · replace h := h.1 c
      refine ex_iconst (pc := 21) (fr_get fo_91_0 11 rfl) ic_0 ?_
      refine ex_istore_n (pc := 22) (fr_get fo_91_0 12 rfl) rfl (L' := [some (.inr (.inr (5, 0))), some (.inl a1), some (.inl a2), some (.inl (0 : Int32)), none]) rfl ?_
      exact h
    · replace h := h.2 c
      refine ex_iconst (pc := 17) (fr_get fo_91_0 9 rfl) ic_1 ?_
      refine ex_goto (pc := 18) (fr_get fo_91_0 10 rfl) (t := 22) rfl ?_
      refine ex_istore_n (pc := 22) (fr_get fo_91_0 12 rfl) rfl (L' := [some (.inr (.inr (5, 0))), some (.inl a1), some (.inl a2), some (.inl (1 : Int32)), none]) rfl ?_
      exact h

theorem b_91_23 {d : Nat} {I : ma_I} {o : Nat} {Q : ma_Q} {v1 : Int32} {v2 : Int32} {v3 : Int32}
  (h :
    (¬((0 : Int32) ≤ v1 ∧ v1 ≤ (3 : Int32)) →
      Q (some (.inl (-2 : Int32))) I o) ∧
    ((0 : Int32) ≤ v1 ∧ v1 ≤ (3 : Int32) →
      ((0 : Int32) ≤ v2 ∧ v2 ≤ (3 : Int32) →
        Ex (d + 2) 91 (46, [some (.inr (.inr (5, 0))), some (.inl v1), some (.inl v2), some (.inl v3), none], [], ma_mem I o, 0, 0) (ma_end Q)) ∧
      (¬((0 : Int32) ≤ v2 ∧ v2 ≤ (3 : Int32)) →
        (v3 ≠ 0 →
          Ex (d + 2) 91 (46, [some (.inr (.inr (5, 0))), some (.inl v1), some (.inl v2), some (.inl v3), none], [], ma_mem I o, 0, 0) (ma_end Q)) ∧
        (v3 = 0 →
          Q (some (.inl (-2 : Int32))) I o)))) :
  Ex (d + 2) 91 (23, [some (.inr (.inr (5, 0))), some (.inl v1), some (.inl v2), some (.inl v3), none], [], ma_mem I o, 0, 0) (ma_end Q) := by
  refine ex_iload_n (pc := 23) (fr_get fo_91_0 13 rfl) rfl ?_
  refine xv_ks1 (pc := 24) (fr_get fo_91_0 14 rfl) cc_91_251 (as := [.inl v1]) (rs := []) rfl rfl rfl rfl ?_
  refine sm_115 ?_
  refine ⟨_, rfl, ?_⟩
  refine xv_peq (pc := 27) (fr_get fo_91_0 15 rfl) (t := 43) rfl (fun c => ?_) (fun c => ?_)
  · replace h := h.1 c
    refine ex_bipush (pc := 43) (fr_get fo_91_1 7 rfl) bp_m2 ?_
    exact ex_ireturn (pc := 45) (fr_get fo_91_1 8 rfl) rt_91 rfl rfl (ma_end_mk h)
  · replace h := h.2 c
    refine ex_iload_n (pc := 30) (fr_get fo_91_1 0 rfl) rfl ?_
    refine ex_iconst (pc := 31) (fr_get fo_91_1 1 rfl) ic_0 ?_
    refine ex_iconst (pc := 32) (fr_get fo_91_1 2 rfl) ic_3 ?_
    refine xv_ks1 (pc := 33) (fr_get fo_91_1 3 rfl) cc_91_108 (as := [.inl v2, .inl (0 : Int32), .inl (3 : Int32)]) (rs := []) rfl rfl rfl rfl ?_
    refine sm_112 ?_
    refine ⟨_, rfl, ?_⟩
    refine xv_pne (pc := 36) (fr_get fo_91_1 4 rfl) (t := 46) rfl (fun c => ?_) (fun c => ?_)
    · replace h := h.1 c
      exact h
    · replace h := h.2 c
      refine ex_iload_n (pc := 39) (fr_get fo_91_1 5 rfl) rfl ?_
      refine xv_bne (pc := 40) (fr_get fo_91_1 6 rfl) (t := 46) rfl (fun c => ?_) (fun c => ?_)
      · replace h := h.1 c
        exact h
      · replace h := h.2 c
        refine ex_bipush (pc := 43) (fr_get fo_91_1 7 rfl) bp_m2 ?_
        exact ex_ireturn (pc := 45) (fr_get fo_91_1 8 rfl) rt_91 rfl rfl (ma_end_mk h)

theorem b_91_46 {d : Nat} {I : ma_I} {o : Nat} {Q : ma_Q} {v1 : Int32} {v2 : Int32} {v3 : Int32}
  (h :
    ma_in v1 4 ∧
    (I 12 v1.toNatClampNeg 0 ≠ (-1 : Int32) →
      Exm (d + 1) 41 [.inr (.inr (12, v1.toNatClampNeg))] I o (fun r J1 p2 => ∃ x3 : Int32, r = some (.inl x3) ∧
        (x3 ≠ 0 →
          (v2 = (0 : Int32) →
            Exm (d + 1) 93 [.inr (.inr (5, 0)), .inr (.inr (12, v1.toNatClampNeg))] J1 p2 (fun r J4 p5 => ∃ x6 : Int32, r = some (.inl x6) ∧
              Q (some (.inl x6)) J4 p5)) ∧
          (v2 ≠ (0 : Int32) →
            (v2 = (1 : Int32) →
              Exm (d + 1) 94 [.inr (.inr (5, 0)), .inr (.inr (12, v1.toNatClampNeg))] J1 p2 (fun r J7 p8 => ∃ x9 : Int32, r = some (.inl x9) ∧
                Q (some (.inl x9)) J7 p8)) ∧
            (v2 ≠ (1 : Int32) →
              (v2 = (2 : Int32) →
                Exm (d + 1) 95 [.inr (.inr (5, 0)), .inr (.inr (12, v1.toNatClampNeg))] J1 p2 (fun r J10 p11 => ∃ x12 : Int32, r = some (.inl x12) ∧
                  Q (some (.inl x12)) J10 p11)) ∧
              (v2 ≠ (2 : Int32) →
                (v2 = (3 : Int32) →
                  Exm (d + 1) 96 [.inr (.inr (5, 0)), .inr (.inr (12, v1.toNatClampNeg))] J1 p2 (fun r J13 p14 => ∃ x15 : Int32, r = some (.inl x15) ∧
                    Q (some (.inl x15)) J13 p14)) ∧
                (v2 ≠ (3 : Int32) →
                  Exm (d + 1) 97 [.inr (.inr (5, 0)), .inr (.inr (12, v1.toNatClampNeg)), .inl (v2 - (10 : Int32))] J1 p2 (fun r J16 p17 => ∃ x18 : Int32, r = some (.inl x18) ∧
                    Q (some (.inl x18)) J16 p17)))))) ∧
        (x3 = 0 →
          Q (some (.inl (-2 : Int32))) J1 p2))) ∧
    (I 12 v1.toNatClampNeg 0 = (-1 : Int32) →
      Q (some (.inl (-11 : Int32))) I o)) :
  Ex (d + 2) 91 (46, [some (.inr (.inr (5, 0))), some (.inl v1), some (.inl v2), some (.inl v3), none], [], ma_mem I o, 0, 0) (ma_end Q) := by
  refine ex_aload_n (pc := 46) (fr_get fo_91_1 9 rfl) rfl rfl ?_
  refine ex_gr (pc := 47) (fr_get fo_91_1 10 rfl) ow_91 fr_8_48_5 (q := (11, 0)) rfl ?_
  refine ex_iload_n (pc := 50) (fr_get fo_91_1 11 rfl) rfl ?_
  refine xv_aald (pc := 51) (fr_get fo_91_1 12 rfl) ga_11 gl_11 (q := (12, v1.toNatClampNeg)) rfl rfl h.1 ?_
  replace h := h.2
  refine ex_astore (pc := 52) (fr_get fo_91_1 13 rfl) rfl rfl (L' := [some (.inr (.inr (5, 0))), some (.inl v1), some (.inl v2), some (.inl v3), some (.inr (.inr (12, v1.toNatClampNeg)))]) rfl ?_
  refine ex_aload (pc := 54) (fr_get fo_91_1 14 rfl) rfl rfl ?_
  refine xv_gi (pc := 56) (fr_get fo_91_1 15 rfl) ow_91 fg_8_254_12 rfl ?_
  refine ex_iconst (pc := 59) (fr_get fo_91_2 0 rfl) ic_m1 ?_
  refine xv_cne (pc := 60) (fr_get fo_91_2 1 rfl) (t := 66) rfl (fun c => ?_) (fun c => ?_)
  · replace h := h.1 c
    refine ex_aload (pc := 66) (fr_get fo_91_2 4 rfl) rfl rfl ?_
    refine xv_kv1 (pc := 68) (fr_get fo_91_2 5 rfl) cc_91_257 (as := [.inr (.inr (12, v1.toNatClampNeg))]) (rs := []) rfl rfl rfl rfl rfl ?_
    refine h.mono (fun r J1 p2 h => ?_)
    obtain ⟨x3, hr, h⟩ := h
    refine ⟨x3, hr, ?_⟩
    refine xv_bne (pc := 71) (fr_get fo_91_2 6 rfl) (t := 77) rfl (fun c => ?_) (fun c => ?_)
    · replace h := h.1 c
      refine ex_iload_n (pc := 77) (fr_get fo_91_2 9 rfl) rfl ?_
      refine xv_ts (pc := 78) (fr_get fo_91_2 10 rfl) (l := [30, 37, 44, 51]) rfl tk_91_78 ?_
      refine xv_tc (t := 108) ic_0 rfl (fun c => ?_) (fun c => ?_)
      · replace h := h.1 c
        refine ex_aload_n (pc := 108) (fr_get fo_91_2 11 rfl) rfl rfl ?_
        refine ex_aload (pc := 109) (fr_get fo_91_2 12 rfl) rfl rfl ?_
        refine xv_kv1 (pc := 111) (fr_get fo_91_2 13 rfl) cc_91_261 (as := [.inr (.inr (5, 0)), .inr (.inr (12, v1.toNatClampNeg))]) (rs := []) rfl rfl rfl rfl rfl ?_
        refine h.mono (fun r J4 p5 h => ?_)
        obtain ⟨x6, hr, h⟩ := h
        refine ⟨x6, hr, ?_⟩
        exact ex_ireturn (pc := 114) (fr_get fo_91_2 14 rfl) rt_91 rfl rfl (ma_end_mk h)
      · replace h := h.2 c
        refine xv_tc (t := 115) ic_1 rfl (fun c => ?_) (fun c => ?_)
        · replace h := h.1 c
          refine ex_aload_n (pc := 115) (fr_get fo_91_2 15 rfl) rfl rfl ?_
          refine ex_aload (pc := 116) (fr_get fo_91_3 0 rfl) rfl rfl ?_
          refine xv_kv1 (pc := 118) (fr_get fo_91_3 1 rfl) cc_91_265 (as := [.inr (.inr (5, 0)), .inr (.inr (12, v1.toNatClampNeg))]) (rs := []) rfl rfl rfl rfl rfl ?_
          refine h.mono (fun r J7 p8 h => ?_)
          obtain ⟨x9, hr, h⟩ := h
          refine ⟨x9, hr, ?_⟩
          exact ex_ireturn (pc := 121) (fr_get fo_91_3 2 rfl) rt_91 rfl rfl (ma_end_mk h)
        · replace h := h.2 c
          refine xv_tc (t := 122) ic_2 rfl (fun c => ?_) (fun c => ?_)
          · replace h := h.1 c
            refine ex_aload_n (pc := 122) (fr_get fo_91_3 3 rfl) rfl rfl ?_
            refine ex_aload (pc := 123) (fr_get fo_91_3 4 rfl) rfl rfl ?_
            refine xv_kv1 (pc := 125) (fr_get fo_91_3 5 rfl) cc_91_268 (as := [.inr (.inr (5, 0)), .inr (.inr (12, v1.toNatClampNeg))]) (rs := []) rfl rfl rfl rfl rfl ?_
            refine h.mono (fun r J10 p11 h => ?_)
            obtain ⟨x12, hr, h⟩ := h
            refine ⟨x12, hr, ?_⟩
            exact ex_ireturn (pc := 128) (fr_get fo_91_3 6 rfl) rt_91 rfl rfl (ma_end_mk h)
          · replace h := h.2 c
            refine xv_tc (t := 129) ic_3 rfl (fun c => ?_) (fun c => ?_)
            · replace h := h.1 c
              refine ex_aload_n (pc := 129) (fr_get fo_91_3 7 rfl) rfl rfl ?_
              refine ex_aload (pc := 130) (fr_get fo_91_3 8 rfl) rfl rfl ?_
              refine xv_kv1 (pc := 132) (fr_get fo_91_3 9 rfl) cc_91_271 (as := [.inr (.inr (5, 0)), .inr (.inr (12, v1.toNatClampNeg))]) (rs := []) rfl rfl rfl rfl rfl ?_
              refine h.mono (fun r J13 p14 h => ?_)
              obtain ⟨x15, hr, h⟩ := h
              refine ⟨x15, hr, ?_⟩
              exact ex_ireturn (pc := 135) (fr_get fo_91_3 10 rfl) rt_91 rfl rfl (ma_end_mk h)
            · replace h := h.2 c
              refine xv_tn (t := 136) rfl ?_
              refine ex_aload_n (pc := 136) (fr_get fo_91_3 11 rfl) rfl rfl ?_
              refine ex_aload (pc := 137) (fr_get fo_91_3 12 rfl) rfl rfl ?_
              refine ex_iload_n (pc := 139) (fr_get fo_91_3 13 rfl) rfl ?_
              refine ex_bipush (pc := 140) (fr_get fo_91_3 14 rfl) bp_10 ?_
              refine ex_isub (pc := 142) (fr_get fo_91_3 15 rfl) ?_
              refine xv_kv1 (pc := 143) (fr_get fo_91_4 0 rfl) cc_91_274 (as := [.inr (.inr (5, 0)), .inr (.inr (12, v1.toNatClampNeg)), .inl (v2 - (10 : Int32))]) (rs := []) rfl rfl rfl rfl rfl ?_
              refine h.mono (fun r J16 p17 h => ?_)
              obtain ⟨x18, hr, h⟩ := h
              refine ⟨x18, hr, ?_⟩
              exact ex_ireturn (pc := 146) (fr_get fo_91_4 1 rfl) rt_91 rfl rfl (ma_end_mk h)
    · replace h := h.2 c
      refine ex_bipush (pc := 74) (fr_get fo_91_2 7 rfl) bp_m2 ?_
      exact ex_ireturn (pc := 76) (fr_get fo_91_2 8 rfl) rt_91 rfl rfl (ma_end_mk h)
  · replace h := h.2 c
    refine ex_bipush (pc := 63) (fr_get fo_91_2 2 rfl) bp_m11 ?_
    exact ex_ireturn (pc := 65) (fr_get fo_91_2 3 rfl) rt_91 rfl rfl (ma_end_mk h)

theorem e_92 {d : Nat} {I : ma_I} {o : Nat} {Q : ma_Q} {q1 : Nat} {a2 : Int32}
  (h :
    Exm (d) 57 [.inr (.inr (10, 0)), .inr (.inr (6, 0)), .inl (I 13 q1 0), .inl a2, .inl (xv_al (I 6 0 4))] I o (fun r J1 p2 => r = none ∧
      Exm (d) 62 [.inr (.inr (10, 0)), .inr (.inr (12, q1))] J1 p2 (fun r J3 p4 => ∃ x5 : Int32, r = some (.inl x5) ∧
        (x5 = 0 ∨ x5 = 1) ∧ Q (some (.inl x5)) J3 p4))) :
  Exm (d + 1) 92 [.inr (.inr (5, 0)), .inr (.inr (12, q1)), .inl a2] I o Q := by
  show Ex (d + 1) 92 (0, [some (.inr (.inr (5, 0))), some (.inr (.inr (12, q1))), some (.inl a2)], [], ma_mem I o, 0, 0) (ma_end Q)
  refine ex_aload_n (pc := 0) (fr_get fo_92_0 0 rfl) rfl rfl ?_
  refine ex_gr (pc := 1) (fr_get fo_92_0 1 rfl) ow_92 fr_8_42_5 (q := (10, 0)) rfl ?_
  refine ex_aload_n (pc := 4) (fr_get fo_92_0 2 rfl) rfl rfl ?_
  refine ex_gr (pc := 5) (fr_get fo_92_0 3 rfl) ow_92 fr_8_12_5 (q := (6, 0)) rfl ?_
  refine ex_aload_n (pc := 8) (fr_get fo_92_0 4 rfl) rfl rfl ?_
  refine ex_gr (pc := 9) (fr_get fo_92_0 5 rfl) ow_92 fr_8_278_12 (q := (13, q1)) rfl ?_
  refine ex_iconst (pc := 12) (fr_get fo_92_0 6 rfl) ic_0 ?_
  refine xv_iald (pc := 13) (fr_get fo_92_0 7 rfl) gk_13 (n := 40) (gn_13 ..) cl_0 rfl mi_0_40 ?_
  refine ex_iload_n (pc := 14) (fr_get fo_92_0 8 rfl) rfl ?_
  refine ex_aload_n (pc := 15) (fr_get fo_92_0 9 rfl) rfl rfl ?_
  refine ex_gr (pc := 16) (fr_get fo_92_0 10 rfl) ow_92 fr_8_12_5 (q := (6, 0)) rfl ?_
  refine xv_kv1 (pc := 19) (fr_get fo_92_0 11 rfl) cc_92_193 (as := [.inr (.inr (6, 0))]) (rs := [.inl a2, .inl (I 13 q1 0), .inr (.inr (6, 0)), .inr (.inr (10, 0))]) rfl rfl rfl rfl rfl ?_
  refine sm_15 rfl ?_
  refine ⟨_, rfl, ?_⟩
  refine xv_kv0 (pc := 22) (fr_get fo_92_0 12 rfl) cc_92_214 (as := [.inr (.inr (10, 0)), .inr (.inr (6, 0)), .inl (I 13 q1 0), .inl a2, .inl (xv_al (I 6 0 4))]) (rs := []) rfl rfl rfl rfl rfl ?_
  refine h.mono (fun r J1 p2 h => ⟨h.1, ?_⟩)
  replace h := h.2
  refine ex_aload_n (pc := 25) (fr_get fo_92_0 13 rfl) rfl rfl ?_
  refine ex_gr (pc := 26) (fr_get fo_92_0 14 rfl) ow_92 fr_8_42_5 (q := (10, 0)) rfl ?_
  refine ex_aload_n (pc := 29) (fr_get fo_92_0 15 rfl) rfl rfl ?_
  refine xv_kv1 (pc := 30) (fr_get fo_92_1 0 rfl) cc_92_281 (as := [.inr (.inr (10, 0)), .inr (.inr (12, q1))]) (rs := []) rfl rfl rfl rfl rfl ?_
  refine h.mono (fun r J3 p4 h => ?_)
  obtain ⟨x5, hr, h⟩ := h
  refine ⟨x5, hr, ?_⟩
  exact ex_zreturn (pc := 33) (fr_get fo_92_1 1 rfl) rt_92 rfl rfl ⟨h.1, ma_end_mk h.2⟩

theorem e_93 {d : Nat} {I : ma_I} {o : Nat} {Q : ma_Q} {q1 : Nat}
  (h :
    Ex (d + 1) 93 (4, [some (.inr (.inr (5, 0))), some (.inr (.inr (12, q1))), some (.inl (0 : Int32)), some (.inl (0 : Int32))], [], ma_mem I o, 0, 0) (ma_end Q)) :
  Exm (d + 1) 93 [.inr (.inr (5, 0)), .inr (.inr (12, q1))] I o Q := by
  show Ex (d + 1) 93 (0, [some (.inr (.inr (5, 0))), some (.inr (.inr (12, q1))), none, none], [], ma_mem I o, 0, 0) (ma_end Q)
  refine ex_iconst (pc := 0) (fr_get fo_93_0 0 rfl) ic_0 ?_
  refine ex_istore_n (pc := 1) (fr_get fo_93_0 1 rfl) rfl (L' := [some (.inr (.inr (5, 0))), some (.inr (.inr (12, q1))), some (.inl (0 : Int32)), none]) rfl ?_
  refine ex_iconst (pc := 2) (fr_get fo_93_0 2 rfl) ic_0 ?_
  refine ex_istore_n (pc := 3) (fr_get fo_93_0 3 rfl) rfl (L' := [some (.inr (.inr (5, 0))), some (.inr (.inr (12, q1))), some (.inl (0 : Int32)), some (.inl (0 : Int32))]) rfl ?_
  exact h

theorem b_93_4 {d : Nat} {I : ma_I} {o : Nat} {Q : ma_Q} {q1 : Nat} {v2 : Int32} {v3 : Int32}
  (h :
    ((100 : Int32) ≤ v3 →
      Q (some (.inl v2)) I o) ∧
    (v3 < (100 : Int32) →
      Exm (d) 92 [.inr (.inr (5, 0)), .inr (.inr (12, q1)), .inl v3] I o (fun r J1 p2 => ∃ x3 : Int32, r = some (.inl x3) ∧
        (x3 = 0 →
          Ex (d + 1) 93 (4, [some (.inr (.inr (5, 0))), some (.inr (.inr (12, q1))), some (.inl v2), some (.inl (v3 + (1 : Int32)))], [], ma_mem J1 p2, 0, 0) (ma_end Q)) ∧
        (x3 ≠ 0 →
          Ex (d + 1) 93 (4, [some (.inr (.inr (5, 0))), some (.inr (.inr (12, q1))), some (.inl (v2 + (1 : Int32))), some (.inl (v3 + (1 : Int32)))], [], ma_mem J1 p2, 0, 0) (ma_end Q))))) :
  Ex (d + 1) 93 (4, [some (.inr (.inr (5, 0))), some (.inr (.inr (12, q1))), some (.inl v2), some (.inl v3)], [], ma_mem I o, 0, 0) (ma_end Q) := by
  refine ex_iload_n (pc := 4) (fr_get fo_93_0 4 rfl) rfl ?_
  refine ex_bipush (pc := 5) (fr_get fo_93_0 5 rfl) bp_100 ?_
  refine xv_cge (pc := 7) (fr_get fo_93_0 6 rfl) (t := 28) rfl (fun c => ?_) (fun c => ?_)
  · replace h := h.1 c
    refine ex_iload_n (pc := 28) (fr_get fo_93_0 15 rfl) rfl ?_
    exact ex_ireturn (pc := 29) (fr_get fo_93_1 0 rfl) rt_93 rfl rfl (ma_end_mk h)
  · replace h := h.2 c
    refine ex_aload_n (pc := 10) (fr_get fo_93_0 7 rfl) rfl rfl ?_
    refine ex_aload_n (pc := 11) (fr_get fo_93_0 8 rfl) rfl rfl ?_
    refine ex_iload_n (pc := 12) (fr_get fo_93_0 9 rfl) rfl ?_
    refine xv_kv1 (pc := 13) (fr_get fo_93_0 10 rfl) cc_93_285 (as := [.inr (.inr (5, 0)), .inr (.inr (12, q1)), .inl v3]) (rs := []) rfl rfl rfl rfl rfl ?_
    refine h.mono (fun r J1 p2 h => ?_)
    obtain ⟨x3, hr, h⟩ := h
    refine ⟨x3, hr, ?_⟩
    refine xv_beq (pc := 16) (fr_get fo_93_0 11 rfl) (t := 22) rfl (fun c => ?_) (fun c => ?_)
    · replace h := h.1 c
      refine xv_iinc (pc := 22) (fr_get fo_93_0 13 rfl) rfl ic_1 (L' := [some (.inr (.inr (5, 0))), some (.inr (.inr (12, q1))), some (.inl v2), some (.inl (v3 + (1 : Int32)))]) rfl ?_
      refine ex_goto (pc := 25) (fr_get fo_93_0 14 rfl) (t := 4) rfl ?_
      exact h
    · replace h := h.2 c
      refine xv_iinc (pc := 19) (fr_get fo_93_0 12 rfl) rfl ic_1 (L' := [some (.inr (.inr (5, 0))), some (.inr (.inr (12, q1))), some (.inl (v2 + (1 : Int32))), some (.inl v3)]) rfl ?_
      refine xv_iinc (pc := 22) (fr_get fo_93_0 13 rfl) rfl ic_1 (L' := [some (.inr (.inr (5, 0))), some (.inr (.inr (12, q1))), some (.inl (v2 + (1 : Int32))), some (.inl (v3 + (1 : Int32)))]) rfl ?_
      refine ex_goto (pc := 25) (fr_get fo_93_0 14 rfl) (t := 4) rfl ?_
      exact h

theorem e_94 {d : Nat} {I : ma_I} {o : Nat} {Q : ma_Q} {q1 : Nat}
  (h :
    Ex (d + 1) 94 (2, [some (.inr (.inr (5, 0))), some (.inr (.inr (12, q1))), some (.inl (0 : Int32))], [], ma_mem I o, 0, 0) (ma_end Q)) :
  Exm (d + 1) 94 [.inr (.inr (5, 0)), .inr (.inr (12, q1))] I o Q := by
  show Ex (d + 1) 94 (0, [some (.inr (.inr (5, 0))), some (.inr (.inr (12, q1))), none], [], ma_mem I o, 0, 0) (ma_end Q)
  refine ex_iconst (pc := 0) (fr_get fo_94_0 0 rfl) ic_0 ?_
  refine ex_istore_n (pc := 1) (fr_get fo_94_0 1 rfl) rfl (L' := [some (.inr (.inr (5, 0))), some (.inr (.inr (12, q1))), some (.inl (0 : Int32))]) rfl ?_
  exact h

theorem b_94_2 {d : Nat} {I : ma_I} {o : Nat} {Q : ma_Q} {q1 : Nat} {v2 : Int32}
  (h :
    ((100 : Int32) ≤ v2 →
      Q (some (.inl (-1 : Int32))) I o) ∧
    (v2 < (100 : Int32) →
      Exm (d) 92 [.inr (.inr (5, 0)), .inr (.inr (12, q1)), .inl v2] I o (fun r J1 p2 => ∃ x3 : Int32, r = some (.inl x3) ∧
        (x3 = 0 →
          Ex (d + 1) 94 (2, [some (.inr (.inr (5, 0))), some (.inr (.inr (12, q1))), some (.inl (v2 + (1 : Int32)))], [], ma_mem J1 p2, 0, 0) (ma_end Q)) ∧
        (x3 ≠ 0 →
          Q (some (.inl v2)) J1 p2)))) :
  Ex (d + 1) 94 (2, [some (.inr (.inr (5, 0))), some (.inr (.inr (12, q1))), some (.inl v2)], [], ma_mem I o, 0, 0) (ma_end Q) := by
  refine ex_iload_n (pc := 2) (fr_get fo_94_0 2 rfl) rfl ?_
  refine ex_bipush (pc := 3) (fr_get fo_94_0 3 rfl) bp_100 ?_
  refine xv_cge (pc := 5) (fr_get fo_94_0 4 rfl) (t := 25) rfl (fun c => ?_) (fun c => ?_)
  · replace h := h.1 c
    refine ex_iconst (pc := 25) (fr_get fo_94_0 14 rfl) ic_m1 ?_
    exact ex_ireturn (pc := 26) (fr_get fo_94_0 15 rfl) rt_94 rfl rfl (ma_end_mk h)
  · replace h := h.2 c
    refine ex_aload_n (pc := 8) (fr_get fo_94_0 5 rfl) rfl rfl ?_
    refine ex_aload_n (pc := 9) (fr_get fo_94_0 6 rfl) rfl rfl ?_
    refine ex_iload_n (pc := 10) (fr_get fo_94_0 7 rfl) rfl ?_
    refine xv_kv1 (pc := 11) (fr_get fo_94_0 8 rfl) cc_94_285 (as := [.inr (.inr (5, 0)), .inr (.inr (12, q1)), .inl v2]) (rs := []) rfl rfl rfl rfl rfl ?_
    refine h.mono (fun r J1 p2 h => ?_)
    obtain ⟨x3, hr, h⟩ := h
    refine ⟨x3, hr, ?_⟩
    refine xv_beq (pc := 14) (fr_get fo_94_0 9 rfl) (t := 19) rfl (fun c => ?_) (fun c => ?_)
    · replace h := h.1 c
      refine xv_iinc (pc := 19) (fr_get fo_94_0 12 rfl) rfl ic_1 (L' := [some (.inr (.inr (5, 0))), some (.inr (.inr (12, q1))), some (.inl (v2 + (1 : Int32)))]) rfl ?_
      refine ex_goto (pc := 22) (fr_get fo_94_0 13 rfl) (t := 2) rfl ?_
      exact h
    · replace h := h.2 c
      refine ex_iload_n (pc := 17) (fr_get fo_94_0 10 rfl) rfl ?_
      exact ex_ireturn (pc := 18) (fr_get fo_94_0 11 rfl) rt_94 rfl rfl (ma_end_mk h)

theorem e_95 {d : Nat} {I : ma_I} {o : Nat} {Q : ma_Q} {q1 : Nat}
  (h :
    Ex (d + 1) 95 (4, [some (.inr (.inr (5, 0))), some (.inr (.inr (12, q1))), some (.inl (0 : Int32)), some (.inl (0 : Int32))], [], ma_mem I o, 0, 0) (ma_end Q)) :
  Exm (d + 1) 95 [.inr (.inr (5, 0)), .inr (.inr (12, q1))] I o Q := by
  show Ex (d + 1) 95 (0, [some (.inr (.inr (5, 0))), some (.inr (.inr (12, q1))), none, none], [], ma_mem I o, 0, 0) (ma_end Q)
  refine ex_iconst (pc := 0) (fr_get fo_95_0 0 rfl) ic_0 ?_
  refine ex_istore_n (pc := 1) (fr_get fo_95_0 1 rfl) rfl (L' := [some (.inr (.inr (5, 0))), some (.inr (.inr (12, q1))), some (.inl (0 : Int32)), none]) rfl ?_
  refine ex_iconst (pc := 2) (fr_get fo_95_0 2 rfl) ic_0 ?_
  refine ex_istore_n (pc := 3) (fr_get fo_95_0 3 rfl) rfl (L' := [some (.inr (.inr (5, 0))), some (.inr (.inr (12, q1))), some (.inl (0 : Int32)), some (.inl (0 : Int32))]) rfl ?_
  exact h

theorem b_95_4 {d : Nat} {I : ma_I} {o : Nat} {Q : ma_Q} {q1 : Nat} {v2 : Int32} {v3 : Int32}
  (h :
    ((100 : Int32) ≤ v3 →
      Q (some (.inl v2)) I o) ∧
    (v3 < (100 : Int32) →
      Exm (d) 92 [.inr (.inr (5, 0)), .inr (.inr (12, q1)), .inl v3] I o (fun r J1 p2 => ∃ x3 : Int32, r = some (.inl x3) ∧
        (x3 = 0 →
          Ex (d + 1) 95 (4, [some (.inr (.inr (5, 0))), some (.inr (.inr (12, q1))), some (.inl v2), some (.inl (v3 + (1 : Int32)))], [], ma_mem J1 p2, 0, 0) (ma_end Q)) ∧
        (x3 ≠ 0 →
          Ex (d + 1) 95 (4, [some (.inr (.inr (5, 0))), some (.inr (.inr (12, q1))), some (.inl (v2 ||| (J1 10 0 5))), some (.inl (v3 + (1 : Int32)))], [], ma_mem J1 p2, 0, 0) (ma_end Q))))) :
  Ex (d + 1) 95 (4, [some (.inr (.inr (5, 0))), some (.inr (.inr (12, q1))), some (.inl v2), some (.inl v3)], [], ma_mem I o, 0, 0) (ma_end Q) := by
  refine ex_iload_n (pc := 4) (fr_get fo_95_0 4 rfl) rfl ?_
  refine ex_bipush (pc := 5) (fr_get fo_95_0 5 rfl) bp_100 ?_
  refine xv_cge (pc := 7) (fr_get fo_95_0 6 rfl) (t := 35) rfl (fun c => ?_) (fun c => ?_)
  · replace h := h.1 c
    refine ex_iload_n (pc := 35) (fr_get fo_95_1 4 rfl) rfl ?_
    exact ex_ireturn (pc := 36) (fr_get fo_95_1 5 rfl) rt_95 rfl rfl (ma_end_mk h)
  · replace h := h.2 c
    refine ex_aload_n (pc := 10) (fr_get fo_95_0 7 rfl) rfl rfl ?_
    refine ex_aload_n (pc := 11) (fr_get fo_95_0 8 rfl) rfl rfl ?_
    refine ex_iload_n (pc := 12) (fr_get fo_95_0 9 rfl) rfl ?_
    refine xv_kv1 (pc := 13) (fr_get fo_95_0 10 rfl) cc_95_285 (as := [.inr (.inr (5, 0)), .inr (.inr (12, q1)), .inl v3]) (rs := []) rfl rfl rfl rfl rfl ?_
    refine h.mono (fun r J1 p2 h => ?_)
    obtain ⟨x3, hr, h⟩ := h
    refine ⟨x3, hr, ?_⟩
    refine xv_beq (pc := 16) (fr_get fo_95_0 11 rfl) (t := 29) rfl (fun c => ?_) (fun c => ?_)
    · replace h := h.1 c
      refine xv_iinc (pc := 29) (fr_get fo_95_1 2 rfl) rfl ic_1 (L' := [some (.inr (.inr (5, 0))), some (.inr (.inr (12, q1))), some (.inl v2), some (.inl (v3 + (1 : Int32)))]) rfl ?_
      refine ex_goto (pc := 32) (fr_get fo_95_1 3 rfl) (t := 4) rfl ?_
      exact h
    · replace h := h.2 c
      refine ex_iload_n (pc := 19) (fr_get fo_95_0 12 rfl) rfl ?_
      refine ex_aload_n (pc := 20) (fr_get fo_95_0 13 rfl) rfl rfl ?_
      refine ex_gr (pc := 21) (fr_get fo_95_0 14 rfl) ow_95 fr_8_42_5 (q := (10, 0)) rfl ?_
      refine xv_gi (pc := 24) (fr_get fo_95_0 15 rfl) ow_95 fg_8_289_10 rfl ?_
      refine ex_ior (pc := 27) (fr_get fo_95_1 0 rfl) ?_
      refine ex_istore_n (pc := 28) (fr_get fo_95_1 1 rfl) rfl (L' := [some (.inr (.inr (5, 0))), some (.inr (.inr (12, q1))), some (.inl (v2 ||| (J1 10 0 5))), some (.inl v3)]) rfl ?_
      refine xv_iinc (pc := 29) (fr_get fo_95_1 2 rfl) rfl ic_1 (L' := [some (.inr (.inr (5, 0))), some (.inr (.inr (12, q1))), some (.inl (v2 ||| (J1 10 0 5))), some (.inl (v3 + (1 : Int32)))]) rfl ?_
      refine ex_goto (pc := 32) (fr_get fo_95_1 3 rfl) (t := 4) rfl ?_
      exact h

theorem e_96 {d : Nat} {I : ma_I} {o : Nat} {Q : ma_Q} {q1 : Nat}
  (h :
    Ex (d + 1) 96 (13, [some (.inr (.inr (5, 0))), some (.inr (.inr (12, q1))), some (.inl (I 6 0 8)), some (.inl (0 : Int32)), some (.inl (0 : Int32))], [], ma_mem I o, 0, 0) (ma_end Q)) :
  Exm (d + 1) 96 [.inr (.inr (5, 0)), .inr (.inr (12, q1))] I o Q := by
  show Ex (d + 1) 96 (0, [some (.inr (.inr (5, 0))), some (.inr (.inr (12, q1))), none, none, none], [], ma_mem I o, 0, 0) (ma_end Q)
  refine ex_aload_n (pc := 0) (fr_get fo_96_0 0 rfl) rfl rfl ?_
  refine ex_gr (pc := 1) (fr_get fo_96_0 1 rfl) ow_96 fr_8_12_5 (q := (6, 0)) rfl ?_
  refine xv_gi (pc := 4) (fr_get fo_96_0 2 rfl) ow_96 fg_8_169_6 rfl ?_
  refine ex_istore_n (pc := 7) (fr_get fo_96_0 3 rfl) rfl (L' := [some (.inr (.inr (5, 0))), some (.inr (.inr (12, q1))), some (.inl (I 6 0 8)), none, none]) rfl ?_
  refine ex_iconst (pc := 8) (fr_get fo_96_0 4 rfl) ic_0 ?_
  refine ex_istore_n (pc := 9) (fr_get fo_96_0 5 rfl) rfl (L' := [some (.inr (.inr (5, 0))), some (.inr (.inr (12, q1))), some (.inl (I 6 0 8)), some (.inl (0 : Int32)), none]) rfl ?_
  refine ex_iconst (pc := 10) (fr_get fo_96_0 6 rfl) ic_0 ?_
  refine ex_istore (pc := 11) (fr_get fo_96_0 7 rfl) rfl (L' := [some (.inr (.inr (5, 0))), some (.inr (.inr (12, q1))), some (.inl (I 6 0 8)), some (.inl (0 : Int32)), some (.inl (0 : Int32))]) rfl ?_
  exact h

theorem b_96_13 {d : Nat} {I : ma_I} {o : Nat} {Q : ma_Q} {q1 : Nat} {v2 : Int32} {v3 : Int32} {v4 : Int32}
  (h :
    (I 6 0 6 ≤ v4 →
      Q (some (.inl v3)) (ma_up I 6 0 8 v2) o) ∧
    (v4 < I 6 0 6 →
      Exm (d) 94 [.inr (.inr (5, 0)), .inr (.inr (12, q1))] (ma_up I 6 0 8 v4) o (fun r J1 p2 => ∃ x3 : Int32, r = some (.inl x3) ∧
        (x3 = (-1 : Int32) →
          Ex (d + 1) 96 (13, [some (.inr (.inr (5, 0))), some (.inr (.inr (12, q1))), some (.inl v2), some (.inl v3), some (.inl (v4 + (1 : Int32)))], [], ma_mem J1 p2, 0, 0) (ma_end Q)) ∧
        (x3 ≠ (-1 : Int32) →
          Ex (d + 1) 96 (13, [some (.inr (.inr (5, 0))), some (.inr (.inr (12, q1))), some (.inl v2), some (.inl (v3 ||| ((1 : Int32) <<< (v4 &&& 31)))), some (.inl (v4 + (1 : Int32)))], [], ma_mem J1 p2, 0, 0) (ma_end Q))))) :
  Ex (d + 1) 96 (13, [some (.inr (.inr (5, 0))), some (.inr (.inr (12, q1))), some (.inl v2), some (.inl v3), some (.inl v4)], [], ma_mem I o, 0, 0) (ma_end Q) := by
  refine ex_iload (pc := 13) (fr_get fo_96_0 8 rfl) rfl ?_
  refine ex_aload_n (pc := 15) (fr_get fo_96_0 9 rfl) rfl rfl ?_
  refine ex_gr (pc := 16) (fr_get fo_96_0 10 rfl) ow_96 fr_8_12_5 (q := (6, 0)) rfl ?_
  refine xv_gi (pc := 19) (fr_get fo_96_0 11 rfl) ow_96 fg_8_81_6 rfl ?_
  refine xv_cge (pc := 22) (fr_get fo_96_0 12 rfl) (t := 56) rfl (fun c => ?_) (fun c => ?_)
  · replace h := h.1 c
    refine ex_aload_n (pc := 56) (fr_get fo_96_1 14 rfl) rfl rfl ?_
    refine ex_gr (pc := 57) (fr_get fo_96_1 15 rfl) ow_96 fr_8_12_5 (q := (6, 0)) rfl ?_
    refine ex_iload_n (pc := 60) (fr_get fo_96_2 0 rfl) rfl ?_
    refine ex_pi (pc := 61) (fr_get fo_96_2 1 rfl) ow_96 fp_8_169_6 ?_
    refine ex_iload_n (pc := 64) (fr_get fo_96_2 2 rfl) rfl ?_
    exact ex_ireturn (pc := 65) (fr_get fo_96_2 3 rfl) rt_96 rfl rfl (ma_end_mk h)
  · replace h := h.2 c
    refine ex_aload_n (pc := 25) (fr_get fo_96_0 13 rfl) rfl rfl ?_
    refine ex_gr (pc := 26) (fr_get fo_96_0 14 rfl) ow_96 fr_8_12_5 (q := (6, 0)) rfl ?_
    refine ex_iload (pc := 29) (fr_get fo_96_0 15 rfl) rfl ?_
    refine ex_pi (pc := 31) (fr_get fo_96_1 0 rfl) ow_96 fp_8_169_6 ?_
    refine ex_aload_n (pc := 34) (fr_get fo_96_1 1 rfl) rfl rfl ?_
    refine ex_aload_n (pc := 35) (fr_get fo_96_1 2 rfl) rfl rfl ?_
    refine xv_kv1 (pc := 36) (fr_get fo_96_1 3 rfl) cc_96_265 (as := [.inr (.inr (5, 0)), .inr (.inr (12, q1))]) (rs := []) rfl rfl rfl rfl rfl ?_
    refine h.mono (fun r J1 p2 h => ?_)
    obtain ⟨x3, hr, h⟩ := h
    refine ⟨x3, hr, ?_⟩
    refine ex_iconst (pc := 39) (fr_get fo_96_1 4 rfl) ic_m1 ?_
    refine xv_ceq (pc := 40) (fr_get fo_96_1 5 rfl) (t := 50) rfl (fun c => ?_) (fun c => ?_)
    · replace h := h.1 c
      refine xv_iinc (pc := 50) (fr_get fo_96_1 12 rfl) rfl ic_1 (L' := [some (.inr (.inr (5, 0))), some (.inr (.inr (12, q1))), some (.inl v2), some (.inl v3), some (.inl (v4 + (1 : Int32)))]) rfl ?_
      refine ex_goto (pc := 53) (fr_get fo_96_1 13 rfl) (t := 13) rfl ?_
      exact h
    · replace h := h.2 c
      refine ex_iload_n (pc := 43) (fr_get fo_96_1 6 rfl) rfl ?_
      refine ex_iconst (pc := 44) (fr_get fo_96_1 7 rfl) ic_1 ?_
      refine ex_iload (pc := 45) (fr_get fo_96_1 8 rfl) rfl ?_
      refine ex_ishl (pc := 47) (fr_get fo_96_1 9 rfl) ?_
      refine ex_ior (pc := 48) (fr_get fo_96_1 10 rfl) ?_
      refine ex_istore_n (pc := 49) (fr_get fo_96_1 11 rfl) rfl (L' := [some (.inr (.inr (5, 0))), some (.inr (.inr (12, q1))), some (.inl v2), some (.inl (v3 ||| ((1 : Int32) <<< (v4 &&& 31)))), some (.inl v4)]) rfl ?_
      refine xv_iinc (pc := 50) (fr_get fo_96_1 12 rfl) rfl ic_1 (L' := [some (.inr (.inr (5, 0))), some (.inr (.inr (12, q1))), some (.inl v2), some (.inl (v3 ||| ((1 : Int32) <<< (v4 &&& 31)))), some (.inl (v4 + (1 : Int32)))]) rfl ?_
      refine ex_goto (pc := 53) (fr_get fo_96_1 13 rfl) (t := 13) rfl ?_
      exact h

theorem e_97 {d : Nat} {I : ma_I} {o : Nat} {Q : ma_Q} {q1 : Nat} {a2 : Int32}
  (h :
    ma_in a2 8 ∧
    Ex (d + 1) 97 (19, [some (.inr (.inr (5, 0))), some (.inr (.inr (12, q1))), some (.inl a2), some (.inl (I 17 a2.toNatClampNeg 0)), some (.inl (0 : Int32)), some (.inl (0 : Int32))], [], ma_mem I o, 0, 0) (ma_end Q)) :
  Exm (d + 1) 97 [.inr (.inr (5, 0)), .inr (.inr (12, q1)), .inl a2] I o Q := by
  show Ex (d + 1) 97 (0, [some (.inr (.inr (5, 0))), some (.inr (.inr (12, q1))), some (.inl a2), none, none, none], [], ma_mem I o, 0, 0) (ma_end Q)
  refine ex_aload_n (pc := 0) (fr_get fo_97_0 0 rfl) rfl rfl ?_
  refine ex_gr (pc := 1) (fr_get fo_97_0 1 rfl) ow_97 fr_8_12_5 (q := (6, 0)) rfl ?_
  refine ex_gr (pc := 4) (fr_get fo_97_0 2 rfl) ow_97 fr_8_115_6 (q := (16, 0)) rfl ?_
  refine ex_iload_n (pc := 7) (fr_get fo_97_0 3 rfl) rfl ?_
  refine xv_aald (pc := 8) (fr_get fo_97_0 4 rfl) ga_16 gl_16 (q := (17, a2.toNatClampNeg)) rfl rfl h.1 ?_
  replace h := h.2
  refine xv_gi (pc := 9) (fr_get fo_97_0 5 rfl) ow_97 fg_8_292_17 rfl ?_
  refine ex_istore_n (pc := 12) (fr_get fo_97_0 6 rfl) rfl (L' := [some (.inr (.inr (5, 0))), some (.inr (.inr (12, q1))), some (.inl a2), some (.inl (I 17 a2.toNatClampNeg 0)), none, none]) rfl ?_
  refine ex_iconst (pc := 13) (fr_get fo_97_0 7 rfl) ic_0 ?_
  refine ex_istore (pc := 14) (fr_get fo_97_0 8 rfl) rfl (L' := [some (.inr (.inr (5, 0))), some (.inr (.inr (12, q1))), some (.inl a2), some (.inl (I 17 a2.toNatClampNeg 0)), some (.inl (0 : Int32)), none]) rfl ?_
  refine ex_iconst (pc := 16) (fr_get fo_97_0 9 rfl) ic_0 ?_
  refine ex_istore (pc := 17) (fr_get fo_97_0 10 rfl) rfl (L' := [some (.inr (.inr (5, 0))), some (.inr (.inr (12, q1))), some (.inl a2), some (.inl (I 17 a2.toNatClampNeg 0)), some (.inl (0 : Int32)), some (.inl (0 : Int32))]) rfl ?_
  exact h

theorem b_97_19 {d : Nat} {I : ma_I} {o : Nat} {Q : ma_Q} {q1 : Nat} {v2 : Int32} {v3 : Int32} {v4 : Int32} {v5 : Int32}
  (h :
    ((6 : Int32) ≤ v5 →
      Exm (d) 18 [.inr (.inr (6, 0)), .inl v2, .inl v3] I o (fun r J1 p2 => r = none ∧
        Q (some (.inl v4)) J1 p2)) ∧
    (v5 < (6 : Int32) →
      Exm (d) 18 [.inr (.inr (6, 0)), .inl v2, .inl v5] I o (fun r J3 p4 => r = none ∧
        Exm (d) 94 [.inr (.inr (5, 0)), .inr (.inr (12, q1))] J3 p4 (fun r J5 p6 => ∃ x7 : Int32, r = some (.inl x7) ∧
          (x7 = (-1 : Int32) →
            Ex (d + 1) 97 (19, [some (.inr (.inr (5, 0))), some (.inr (.inr (12, q1))), some (.inl v2), some (.inl v3), some (.inl v4), some (.inl (v5 + (1 : Int32)))], [], ma_mem J5 p6, 0, 0) (ma_end Q)) ∧
          (x7 ≠ (-1 : Int32) →
            Ex (d + 1) 97 (19, [some (.inr (.inr (5, 0))), some (.inr (.inr (12, q1))), some (.inl v2), some (.inl v3), some (.inl (v4 ||| ((1 : Int32) <<< (v5 &&& 31)))), some (.inl (v5 + (1 : Int32)))], [], ma_mem J5 p6, 0, 0) (ma_end Q)))))) :
  Ex (d + 1) 97 (19, [some (.inr (.inr (5, 0))), some (.inr (.inr (12, q1))), some (.inl v2), some (.inl v3), some (.inl v4), some (.inl v5)], [], ma_mem I o, 0, 0) (ma_end Q) := by
  refine ex_iload (pc := 19) (fr_get fo_97_0 11 rfl) rfl ?_
  refine ex_bipush (pc := 21) (fr_get fo_97_0 12 rfl) bp_6 ?_
  refine xv_cge (pc := 23) (fr_get fo_97_0 13 rfl) (t := 60) rfl (fun c => ?_) (fun c => ?_)
  · replace h := h.1 c
    refine ex_aload_n (pc := 60) (fr_get fo_97_2 0 rfl) rfl rfl ?_
    refine ex_gr (pc := 61) (fr_get fo_97_2 1 rfl) ow_97 fr_8_12_5 (q := (6, 0)) rfl ?_
    refine ex_iload_n (pc := 64) (fr_get fo_97_2 2 rfl) rfl ?_
    refine ex_iload_n (pc := 65) (fr_get fo_97_2 3 rfl) rfl ?_
    refine xv_kv0 (pc := 66) (fr_get fo_97_2 4 rfl) cc_97_295 (as := [.inr (.inr (6, 0)), .inl v2, .inl v3]) (rs := []) rfl rfl rfl rfl rfl ?_
    refine h.mono (fun r J1 p2 h => ⟨h.1, ?_⟩)
    replace h := h.2
    refine ex_iload (pc := 69) (fr_get fo_97_2 5 rfl) rfl ?_
    exact ex_ireturn (pc := 71) (fr_get fo_97_2 6 rfl) rt_97 rfl rfl (ma_end_mk h)
  · replace h := h.2 c
    refine ex_aload_n (pc := 26) (fr_get fo_97_0 14 rfl) rfl rfl ?_
    refine ex_gr (pc := 27) (fr_get fo_97_0 15 rfl) ow_97 fr_8_12_5 (q := (6, 0)) rfl ?_
    refine ex_iload_n (pc := 30) (fr_get fo_97_1 0 rfl) rfl ?_
    refine ex_iload (pc := 31) (fr_get fo_97_1 1 rfl) rfl ?_
    refine xv_kv0 (pc := 33) (fr_get fo_97_1 2 rfl) cc_97_295 (as := [.inr (.inr (6, 0)), .inl v2, .inl v5]) (rs := []) rfl rfl rfl rfl rfl ?_
    refine h.mono (fun r J3 p4 h => ⟨h.1, ?_⟩)
    replace h := h.2
    refine ex_aload_n (pc := 36) (fr_get fo_97_1 3 rfl) rfl rfl ?_
    refine ex_aload_n (pc := 37) (fr_get fo_97_1 4 rfl) rfl rfl ?_
    refine xv_kv1 (pc := 38) (fr_get fo_97_1 5 rfl) cc_97_265 (as := [.inr (.inr (5, 0)), .inr (.inr (12, q1))]) (rs := []) rfl rfl rfl rfl rfl ?_
    refine h.mono (fun r J5 p6 h => ?_)
    obtain ⟨x7, hr, h⟩ := h
    refine ⟨x7, hr, ?_⟩
    refine ex_iconst (pc := 41) (fr_get fo_97_1 6 rfl) ic_m1 ?_
    refine xv_ceq (pc := 42) (fr_get fo_97_1 7 rfl) (t := 54) rfl (fun c => ?_) (fun c => ?_)
    · replace h := h.1 c
      refine xv_iinc (pc := 54) (fr_get fo_97_1 14 rfl) rfl ic_1 (L' := [some (.inr (.inr (5, 0))), some (.inr (.inr (12, q1))), some (.inl v2), some (.inl v3), some (.inl v4), some (.inl (v5 + (1 : Int32)))]) rfl ?_
      refine ex_goto (pc := 57) (fr_get fo_97_1 15 rfl) (t := 19) rfl ?_
      exact h
    · replace h := h.2 c
      refine ex_iload (pc := 45) (fr_get fo_97_1 8 rfl) rfl ?_
      refine ex_iconst (pc := 47) (fr_get fo_97_1 9 rfl) ic_1 ?_
      refine ex_iload (pc := 48) (fr_get fo_97_1 10 rfl) rfl ?_
      refine ex_ishl (pc := 50) (fr_get fo_97_1 11 rfl) ?_
      refine ex_ior (pc := 51) (fr_get fo_97_1 12 rfl) ?_
      refine ex_istore (pc := 52) (fr_get fo_97_1 13 rfl) rfl (L' := [some (.inr (.inr (5, 0))), some (.inr (.inr (12, q1))), some (.inl v2), some (.inl v3), some (.inl (v4 ||| ((1 : Int32) <<< (v5 &&& 31)))), some (.inl v5)]) rfl ?_
      refine xv_iinc (pc := 54) (fr_get fo_97_1 14 rfl) rfl ic_1 (L' := [some (.inr (.inr (5, 0))), some (.inr (.inr (12, q1))), some (.inl v2), some (.inl v3), some (.inl (v4 ||| ((1 : Int32) <<< (v5 &&& 31)))), some (.inl (v5 + (1 : Int32)))]) rfl ?_
      refine ex_goto (pc := 57) (fr_get fo_97_1 15 rfl) (t := 19) rfl ?_
      exact h

theorem e_98 {d : Nat} {I : ma_I} {o : Nat} {Q : ma_Q} {a1 : Int32} {a2 : Int32} {a3 : Int32}
  (h :
    (¬((0 : Int32) ≤ a1 ∧ a1 ≤ (3 : Int32)) →
      Q (some (.inl (-2 : Int32))) I o) ∧
    ((0 : Int32) ≤ a1 ∧ a1 ≤ (3 : Int32) →
      (¬((0 : Int32) ≤ a2 ∧ a2 ≤ (7 : Int32)) →
        Q (some (.inl (-2 : Int32))) I o) ∧
      ((0 : Int32) ≤ a2 ∧ a2 ≤ (7 : Int32) →
        ((0 : Int32) ≤ a3 ∧ a3 ≤ (99 : Int32) →
          Exm (d + 1) 77 [.inr (.inr (5, 0)), .inl a2, .inl a3] I o (fun r J1 p2 => r = none ∧
            ma_in a1 4 ∧
            Exm (d + 1) 38 [.inr (.inr (12, a1.toNatClampNeg)), .inl (0 : Int32), .inl (if (20 : Int32) < J1 10 0 4 then (20 : Int32) else J1 10 0 4)] J1 p2 (fun r J3 p4 => r = none ∧
              Ex (d + 2) 98 (59, [some (.inr (.inr (5, 0))), some (.inl a1), some (.inl a2), some (.inl a3), some (.inr (.inr (12, a1.toNatClampNeg))), some (.inl (0 : Int32))], [], ma_mem J3 p4, 0, 0) (ma_end Q)))) ∧
        (¬((0 : Int32) ≤ a3 ∧ a3 ≤ (99 : Int32)) →
          Q (some (.inl (-2 : Int32))) I o)))) :
  Exm (d + 2) 98 [.inr (.inr (5, 0)), .inl a1, .inl a2, .inl a3] I o Q := by
  show Ex (d + 2) 98 (0, [some (.inr (.inr (5, 0))), some (.inl a1), some (.inl a2), some (.inl a3), none, none], [], ma_mem I o, 0, 0) (ma_end Q)
  refine ex_iload_n (pc := 0) (fr_get fo_98_0 0 rfl) rfl ?_
  refine xv_ks1 (pc := 1) (fr_get fo_98_0 1 rfl) cc_98_251 (as := [.inl a1]) (rs := []) rfl rfl rfl rfl ?_
  refine sm_115 ?_
  refine ⟨_, rfl, ?_⟩
  refine xv_peq (pc := 4) (fr_get fo_98_0 2 rfl) (t := 21) rfl (fun c => ?_) (fun c => ?_)
  · replace h := h.1 c
    refine ex_bipush (pc := 21) (fr_get fo_98_0 9 rfl) bp_m2 ?_
    exact ex_ireturn (pc := 23) (fr_get fo_98_0 10 rfl) rt_98 rfl rfl (ma_end_mk h)
  · replace h := h.2 c
    refine ex_iload_n (pc := 7) (fr_get fo_98_0 3 rfl) rfl ?_
    refine xv_ks1 (pc := 8) (fr_get fo_98_0 4 rfl) cc_98_88 (as := [.inl a2]) (rs := []) rfl rfl rfl rfl ?_
    refine sm_113 ?_
    refine ⟨_, rfl, ?_⟩
    refine xv_peq (pc := 11) (fr_get fo_98_0 5 rfl) (t := 21) rfl (fun c => ?_) (fun c => ?_)
    · replace h := h.1 c
      refine ex_bipush (pc := 21) (fr_get fo_98_0 9 rfl) bp_m2 ?_
      exact ex_ireturn (pc := 23) (fr_get fo_98_0 10 rfl) rt_98 rfl rfl (ma_end_mk h)
    · replace h := h.2 c
      refine ex_iload_n (pc := 14) (fr_get fo_98_0 6 rfl) rfl ?_
      refine xv_ks1 (pc := 15) (fr_get fo_98_0 7 rfl) cc_98_84 (as := [.inl a3]) (rs := []) rfl rfl rfl rfl ?_
      refine sm_114 ?_
      refine ⟨_, rfl, ?_⟩
      refine xv_pne (pc := 18) (fr_get fo_98_0 8 rfl) (t := 24) rfl (fun c => ?_) (fun c => ?_)
      · replace h := h.1 c
        refine ex_aload_n (pc := 24) (fr_get fo_98_0 11 rfl) rfl rfl ?_
        refine ex_iload_n (pc := 25) (fr_get fo_98_0 12 rfl) rfl ?_
        refine ex_iload_n (pc := 26) (fr_get fo_98_0 13 rfl) rfl ?_
        refine xv_kv0 (pc := 27) (fr_get fo_98_0 14 rfl) cc_98_172 (as := [.inr (.inr (5, 0)), .inl a2, .inl a3]) (rs := []) rfl rfl rfl rfl rfl ?_
        refine h.mono (fun r J1 p2 h => ⟨h.1, ?_⟩)
        replace h := h.2
        refine ex_aload_n (pc := 30) (fr_get fo_98_0 15 rfl) rfl rfl ?_
        refine ex_gr (pc := 31) (fr_get fo_98_1 0 rfl) ow_98 fr_8_48_5 (q := (11, 0)) rfl ?_
        refine ex_iload_n (pc := 34) (fr_get fo_98_1 1 rfl) rfl ?_
        refine xv_aald (pc := 35) (fr_get fo_98_1 2 rfl) ga_11 gl_11 (q := (12, a1.toNatClampNeg)) rfl rfl h.1 ?_
        replace h := h.2
        refine ex_astore (pc := 36) (fr_get fo_98_1 3 rfl) rfl rfl (L' := [some (.inr (.inr (5, 0))), some (.inl a1), some (.inl a2), some (.inl a3), some (.inr (.inr (12, a1.toNatClampNeg))), none]) rfl ?_
        refine ex_aload (pc := 38) (fr_get fo_98_1 4 rfl) rfl rfl ?_
        refine ex_iconst (pc := 40) (fr_get fo_98_1 5 rfl) ic_0 ?_
        refine ex_aload_n (pc := 41) (fr_get fo_98_1 6 rfl) rfl rfl ?_
        refine ex_gr (pc := 42) (fr_get fo_98_1 7 rfl) ow_98 fr_8_42_5 (q := (10, 0)) rfl ?_
        refine xv_gi (pc := 45) (fr_get fo_98_1 8 rfl) ow_98 fg_8_298_10 rfl ?_
        refine ex_bipush (pc := 48) (fr_get fo_98_1 9 rfl) bp_20 ?_
        refine ex_min (pc := 50) (fr_get fo_98_1 10 rfl) ow_98 cm_8_226 rfl rfl rfl ?_
        refine xv_kv0 (pc := 53) (fr_get fo_98_1 11 rfl) cc_98_301 (as := [.inr (.inr (12, a1.toNatClampNeg)), .inl (0 : Int32), .inl (if (20 : Int32) < J1 10 0 4 then (20 : Int32) else J1 10 0 4)]) (rs := []) rfl rfl rfl rfl rfl ?_
        refine h.mono (fun r J3 p4 h => ⟨h.1, ?_⟩)
        replace h := h.2
        refine ex_iconst (pc := 56) (fr_get fo_98_1 12 rfl) ic_0 ?_
        refine ex_istore (pc := 57) (fr_get fo_98_1 13 rfl) rfl (L' := [some (.inr (.inr (5, 0))), some (.inl a1), some (.inl a2), some (.inl a3), some (.inr (.inr (12, a1.toNatClampNeg))), some (.inl (0 : Int32))]) rfl ?_
        exact h
      · replace h := h.2 c
        refine ex_bipush (pc := 21) (fr_get fo_98_0 9 rfl) bp_m2 ?_
        exact ex_ireturn (pc := 23) (fr_get fo_98_0 10 rfl) rt_98 rfl rfl (ma_end_mk h)

theorem b_98_59 {d : Nat} {I : ma_I} {o : Nat} {Q : ma_Q} {v1 : Int32} {v2 : Int32} {v3 : Int32} {q4 : Nat} {v5 : Int32}
  (h :
    (I 12 q4 1 ≤ v5 →
      Q (some (.inl (I 12 q4 1))) I o) ∧
    (v5 < I 12 q4 1 →
      Exm (d + 1) 61 [.inr (.inr (10, 0)), .inl v5] I o (fun r J1 p2 => ∃ x3 : Int32, r = some (.inl x3) ∧
        Exm (d + 1) 39 [.inr (.inr (12, q4)), .inl v5, .inl x3] J1 p2 (fun r J4 p5 => r = none ∧
          Ex (d + 2) 98 (59, [some (.inr (.inr (5, 0))), some (.inl v1), some (.inl v2), some (.inl v3), some (.inr (.inr (12, q4))), some (.inl (v5 + (1 : Int32)))], [], ma_mem J4 p5, 0, 0) (ma_end Q))))) :
  Ex (d + 2) 98 (59, [some (.inr (.inr (5, 0))), some (.inl v1), some (.inl v2), some (.inl v3), some (.inr (.inr (12, q4))), some (.inl v5)], [], ma_mem I o, 0, 0) (ma_end Q) := by
  refine ex_iload (pc := 59) (fr_get fo_98_1 14 rfl) rfl ?_
  refine ex_aload (pc := 61) (fr_get fo_98_1 15 rfl) rfl rfl ?_
  refine xv_gi (pc := 63) (fr_get fo_98_2 0 rfl) ow_98 fg_8_303_12 rfl ?_
  refine xv_cge (pc := 66) (fr_get fo_98_2 1 rfl) (t := 91) rfl (fun c => ?_) (fun c => ?_)
  · replace h := h.1 c
    refine ex_aload (pc := 91) (fr_get fo_98_2 11 rfl) rfl rfl ?_
    refine xv_gi (pc := 93) (fr_get fo_98_2 12 rfl) ow_98 fg_8_303_12 rfl ?_
    exact ex_ireturn (pc := 96) (fr_get fo_98_2 13 rfl) rt_98 rfl rfl (ma_end_mk h)
  · replace h := h.2 c
    refine ex_aload (pc := 69) (fr_get fo_98_2 2 rfl) rfl rfl ?_
    refine ex_iload (pc := 71) (fr_get fo_98_2 3 rfl) rfl ?_
    refine ex_aload_n (pc := 73) (fr_get fo_98_2 4 rfl) rfl rfl ?_
    refine ex_gr (pc := 74) (fr_get fo_98_2 5 rfl) ow_98 fr_8_42_5 (q := (10, 0)) rfl ?_
    refine ex_iload (pc := 77) (fr_get fo_98_2 6 rfl) rfl ?_
    refine xv_kv1 (pc := 79) (fr_get fo_98_2 7 rfl) cc_98_190 (as := [.inr (.inr (10, 0)), .inl v5]) (rs := [.inl v5, .inr (.inr (12, q4))]) rfl rfl rfl rfl rfl ?_
    refine h.mono (fun r J1 p2 h => ?_)
    obtain ⟨x3, hr, h⟩ := h
    refine ⟨x3, hr, ?_⟩
    refine xv_kv0 (pc := 82) (fr_get fo_98_2 8 rfl) cc_98_304 (as := [.inr (.inr (12, q4)), .inl v5, .inl x3]) (rs := []) rfl rfl rfl rfl rfl ?_
    refine h.mono (fun r J4 p5 h => ⟨h.1, ?_⟩)
    replace h := h.2
    refine xv_iinc (pc := 85) (fr_get fo_98_2 9 rfl) rfl ic_1 (L' := [some (.inr (.inr (5, 0))), some (.inl v1), some (.inl v2), some (.inl v3), some (.inr (.inr (12, q4))), some (.inl (v5 + (1 : Int32)))]) rfl ?_
    refine ex_goto (pc := 88) (fr_get fo_98_2 10 rfl) (t := 59) rfl ?_
    exact h

theorem e_99 {d : Nat} {I : ma_I} {o : Nat} {Q : ma_Q} {a1 : Int32} {a2 : Int32}
  (h :
    (¬((0 : Int32) ≤ a1 ∧ a1 ≤ (7 : Int32)) →
      Q (some (.inl (-2 : Int32))) I o) ∧
    ((0 : Int32) ≤ a1 ∧ a1 ≤ (7 : Int32) →
      Exm (d + 1) 100 [.inr (.inr (5, 0)), .inl a1, .inl a2] I o (fun r J1 p2 => ∃ x3 : Int32, r = some (.inl x3) ∧
        Q (some (.inl x3)) J1 p2))) :
  Exm (d + 2) 99 [.inr (.inr (5, 0)), .inl a1, .inl a2] I o Q := by
  show Ex (d + 2) 99 (0, [some (.inr (.inr (5, 0))), some (.inl a1), some (.inl a2)], [], ma_mem I o, 0, 0) (ma_end Q)
  refine ex_iload_n (pc := 0) (fr_get fo_99_0 0 rfl) rfl ?_
  refine xv_ks1 (pc := 1) (fr_get fo_99_0 1 rfl) cc_99_88 (as := [.inl a1]) (rs := []) rfl rfl rfl rfl ?_
  refine sm_113 ?_
  refine ⟨_, rfl, ?_⟩
  refine xv_peq (pc := 4) (fr_get fo_99_0 2 rfl) (t := 16) rfl (fun c => ?_) (fun c => ?_)
  · replace h := h.1 c
    refine ex_bipush (pc := 16) (fr_get fo_99_0 8 rfl) bp_m2 ?_
    exact ex_ireturn (pc := 18) (fr_get fo_99_0 9 rfl) rt_99 rfl rfl (ma_end_mk h)
  · replace h := h.2 c
    refine ex_aload_n (pc := 7) (fr_get fo_99_0 3 rfl) rfl rfl ?_
    refine ex_iload_n (pc := 8) (fr_get fo_99_0 4 rfl) rfl ?_
    refine ex_iload_n (pc := 9) (fr_get fo_99_0 5 rfl) rfl ?_
    refine xv_kv1 (pc := 10) (fr_get fo_99_0 6 rfl) cc_99_307 (as := [.inr (.inr (5, 0)), .inl a1, .inl a2]) (rs := []) rfl rfl rfl rfl rfl ?_
    refine h.mono (fun r J1 p2 h => ?_)
    obtain ⟨x3, hr, h⟩ := h
    refine ⟨x3, hr, ?_⟩
    refine ex_goto (pc := 13) (fr_get fo_99_0 7 rfl) (t := 18) rfl ?_
    exact ex_ireturn (pc := 18) (fr_get fo_99_0 9 rfl) rt_99 rfl rfl (ma_end_mk h)

theorem e_100 {d : Nat} {I : ma_I} {o : Nat} {Q : ma_Q} {a1 : Int32} {a2 : Int32}
  (h :
    Ex (d + 1) 100 (8, [some (.inr (.inr (5, 0))), some (.inl a1), some (.inl a2), some (.inl (0 : Int32)), some (.inl a2), some (.inl (0 : Int32))], [], ma_mem I o, 0, 0) (ma_end Q)) :
  Exm (d + 1) 100 [.inr (.inr (5, 0)), .inl a1, .inl a2] I o Q := by
  show Ex (d + 1) 100 (0, [some (.inr (.inr (5, 0))), some (.inl a1), some (.inl a2), none, none, none], [], ma_mem I o, 0, 0) (ma_end Q)
  refine ex_iconst (pc := 0) (fr_get fo_100_0 0 rfl) ic_0 ?_
  refine ex_istore_n (pc := 1) (fr_get fo_100_0 1 rfl) rfl (L' := [some (.inr (.inr (5, 0))), some (.inl a1), some (.inl a2), some (.inl (0 : Int32)), none, none]) rfl ?_
  refine ex_iload_n (pc := 2) (fr_get fo_100_0 2 rfl) rfl ?_
  refine ex_istore (pc := 3) (fr_get fo_100_0 3 rfl) rfl (L' := [some (.inr (.inr (5, 0))), some (.inl a1), some (.inl a2), some (.inl (0 : Int32)), some (.inl a2), none]) rfl ?_
  refine ex_iconst (pc := 5) (fr_get fo_100_0 4 rfl) ic_0 ?_
  refine ex_istore (pc := 6) (fr_get fo_100_0 5 rfl) rfl (L' := [some (.inr (.inr (5, 0))), some (.inl a1), some (.inl a2), some (.inl (0 : Int32)), some (.inl a2), some (.inl (0 : Int32))]) rfl ?_
  exact h

theorem b_100_8 {d : Nat} {I : ma_I} {o : Nat} {Q : ma_Q} {v1 : Int32} {v2 : Int32} {v3 : Int32} {v4 : Int32} {v5 : Int32}
  (h :
    ((10 : Int32) ≤ v5 →
      Q (some (.inl v3)) I o) ∧
    (v5 < (10 : Int32) →
      Exm (d) 77 [.inr (.inr (5, 0)), .inl v1, .inl (xv_rm (xv_us9 ((v4 * (1103515245 : Int32)) + (12345 : Int32)) (9 : Int32)) (100 : Int32))] I o (fun r J1 p2 => r = none ∧
        (J1 10 0 0 ≠ 0 →
          Ex (d + 1) 100 (8, [some (.inr (.inr (5, 0))), some (.inl v1), some (.inl v2), some (.inl v3), some (.inl ((v4 * (1103515245 : Int32)) + (12345 : Int32))), some (.inl (v5 + (1 : Int32)))], [], ma_mem J1 p2, 0, 0) (ma_end Q)) ∧
        (J1 10 0 0 = 0 →
          Ex (d + 1) 100 (8, [some (.inr (.inr (5, 0))), some (.inl v1), some (.inl v2), some (.inl (v3 + (1 : Int32))), some (.inl ((v4 * (1103515245 : Int32)) + (12345 : Int32))), some (.inl (v5 + (1 : Int32)))], [], ma_mem J1 p2, 0, 0) (ma_end Q))))) :
  Ex (d + 1) 100 (8, [some (.inr (.inr (5, 0))), some (.inl v1), some (.inl v2), some (.inl v3), some (.inl v4), some (.inl v5)], [], ma_mem I o, 0, 0) (ma_end Q) := by
  refine ex_iload (pc := 8) (fr_get fo_100_0 6 rfl) rfl ?_
  refine ex_bipush (pc := 10) (fr_get fo_100_0 7 rfl) bp_10 ?_
  refine xv_cge (pc := 12) (fr_get fo_100_0 8 rfl) (t := 59) rfl (fun c => ?_) (fun c => ?_)
  · replace h := h.1 c
    refine ex_iload_n (pc := 59) (fr_get fo_100_1 14 rfl) rfl ?_
    exact ex_ireturn (pc := 60) (fr_get fo_100_1 15 rfl) rt_100 rfl rfl (ma_end_mk h)
  · replace h := h.2 c
    refine ex_iload (pc := 15) (fr_get fo_100_0 9 rfl) rfl ?_
    refine ex_ldcw (pc := 17) (fr_get fo_100_0 10 rfl) ow_100 kt_8_310 ?_
    refine ex_imul (pc := 20) (fr_get fo_100_0 11 rfl) ?_
    refine ex_sipush (pc := 21) (fr_get fo_100_0 12 rfl) sp_12345 ?_
    refine ex_iadd (pc := 24) (fr_get fo_100_0 13 rfl) ?_
    refine ex_istore (pc := 25) (fr_get fo_100_0 14 rfl) rfl (L' := [some (.inr (.inr (5, 0))), some (.inl v1), some (.inl v2), some (.inl v3), some (.inl ((v4 * (1103515245 : Int32)) + (12345 : Int32))), some (.inl v5)]) rfl ?_
    refine ex_aload_n (pc := 27) (fr_get fo_100_0 15 rfl) rfl rfl ?_
    refine ex_iload_n (pc := 28) (fr_get fo_100_1 0 rfl) rfl ?_
    refine ex_iload (pc := 29) (fr_get fo_100_1 1 rfl) rfl ?_
    refine ex_bipush (pc := 31) (fr_get fo_100_1 2 rfl) bp_9 ?_
    refine xv_iushr (pc := 33) (fr_get fo_100_1 3 rfl) ?_
    refine ex_bipush (pc := 34) (fr_get fo_100_1 4 rfl) bp_100 ?_
    refine xv_irem (pc := 36) (fr_get fo_100_1 5 rfl) (by decide) ?_
    refine xv_kv0 (pc := 37) (fr_get fo_100_1 6 rfl) cc_100_172 (as := [.inr (.inr (5, 0)), .inl v1, .inl (xv_rm (xv_us9 ((v4 * (1103515245 : Int32)) + (12345 : Int32)) (9 : Int32)) (100 : Int32))]) (rs := []) rfl rfl rfl rfl rfl ?_
    refine h.mono (fun r J1 p2 h => ⟨h.1, ?_⟩)
    replace h := h.2
    refine ex_aload_n (pc := 40) (fr_get fo_100_1 7 rfl) rfl rfl ?_
    refine ex_gr (pc := 41) (fr_get fo_100_1 8 rfl) ow_100 fr_8_42_5 (q := (10, 0)) rfl ?_
    refine xv_gi (pc := 44) (fr_get fo_100_1 9 rfl) ow_100 fg_8_175_10 rfl ?_
    refine xv_bne (pc := 47) (fr_get fo_100_1 10 rfl) (t := 53) rfl (fun c => ?_) (fun c => ?_)
    · replace h := h.1 c
      refine xv_iinc (pc := 53) (fr_get fo_100_1 12 rfl) rfl ic_1 (L' := [some (.inr (.inr (5, 0))), some (.inl v1), some (.inl v2), some (.inl v3), some (.inl ((v4 * (1103515245 : Int32)) + (12345 : Int32))), some (.inl (v5 + (1 : Int32)))]) rfl ?_
      refine ex_goto (pc := 56) (fr_get fo_100_1 13 rfl) (t := 8) rfl ?_
      exact h
    · replace h := h.2 c
      refine xv_iinc (pc := 50) (fr_get fo_100_1 11 rfl) rfl ic_1 (L' := [some (.inr (.inr (5, 0))), some (.inl v1), some (.inl v2), some (.inl (v3 + (1 : Int32))), some (.inl ((v4 * (1103515245 : Int32)) + (12345 : Int32))), some (.inl v5)]) rfl ?_
      refine xv_iinc (pc := 53) (fr_get fo_100_1 12 rfl) rfl ic_1 (L' := [some (.inr (.inr (5, 0))), some (.inl v1), some (.inl v2), some (.inl (v3 + (1 : Int32))), some (.inl ((v4 * (1103515245 : Int32)) + (12345 : Int32))), some (.inl (v5 + (1 : Int32)))]) rfl ?_
      refine ex_goto (pc := 56) (fr_get fo_100_1 13 rfl) (t := 8) rfl ?_
      exact h

theorem e_101 {d : Nat} {I : ma_I} {o : Nat} {Q : ma_Q} {a1 : Int32} {a2 : Int32} {a3 : Int32} {a4 : Int32} {a5 : Int32}
  (h :
    (¬((0 : Int32) ≤ a1 ∧ a1 ≤ (7 : Int32)) →
      Q (some (.inr (.inl (-4611686018427387904 : Int64)))) I o) ∧
    ((0 : Int32) ≤ a1 ∧ a1 ≤ (7 : Int32) →
      (¬((1 : Int32) ≤ a3 ∧ a3 ≤ (20 : Int32)) →
        Q (some (.inr (.inl (-4611686018427387904 : Int64)))) I o) ∧
      ((1 : Int32) ≤ a3 ∧ a3 ≤ (20 : Int32) →
        (¬((0 : Int32) ≤ a4 ∧ a4 ≤ (10 : Int32)) →
          Q (some (.inr (.inl (-4611686018427387904 : Int64)))) I o) ∧
        ((0 : Int32) ≤ a4 ∧ a4 ≤ (10 : Int32) →
          (¬((0 : Int32) ≤ a5 ∧ a5 ≤ (1 : Int32)) →
            Q (some (.inr (.inl (-4611686018427387904 : Int64)))) I o) ∧
          ((0 : Int32) ≤ a5 ∧ a5 ≤ (1 : Int32) →
            Ex (d + 2) 101 (60, [some (.inr (.inr (5, 0))), some (.inl a1), some (.inl a2), some (.inl a3), some (.inl a4), some (.inl a5), some (.inl (1 : Int32)), some (.inl (0 : Int32)), some (.inl (0 : Int32))], [], ma_mem I o, 0, 0) (ma_end Q)))))) :
  Exm (d + 2) 101 [.inr (.inr (5, 0)), .inl a1, .inl a2, .inl a3, .inl a4, .inl a5] I o Q := by
  show Ex (d + 2) 101 (0, [some (.inr (.inr (5, 0))), some (.inl a1), some (.inl a2), some (.inl a3), some (.inl a4), some (.inl a5), none, none, none], [], ma_mem I o, 0, 0) (ma_end Q)
  refine ex_iload_n (pc := 0) (fr_get fo_101_0 0 rfl) rfl ?_
  refine xv_ks1 (pc := 1) (fr_get fo_101_0 1 rfl) cc_101_88 (as := [.inl a1]) (rs := []) rfl rfl rfl rfl ?_
  refine sm_113 ?_
  refine ⟨_, rfl, ?_⟩
  refine xv_peq (pc := 4) (fr_get fo_101_0 2 rfl) (t := 42) rfl (fun c => ?_) (fun c => ?_)
  · replace h := h.1 c
    refine ex_iconst (pc := 42) (fr_get fo_101_1 4 rfl) ic_0 ?_
    refine ex_istore (pc := 43) (fr_get fo_101_1 5 rfl) rfl (L' := [some (.inr (.inr (5, 0))), some (.inl a1), some (.inl a2), some (.inl a3), some (.inl a4), some (.inl a5), some (.inl (0 : Int32)), none, none]) rfl ?_
    refine ex_iload (pc := 45) (fr_get fo_101_1 6 rfl) rfl ?_
    refine xv_bf (pc := 47) (fr_get fo_101_1 7 rfl) (t := 54) rfl k1_ne_0 ?_
    refine ex_ldc2 (pc := 50) (fr_get fo_101_1 8 rfl) ow_101 kl_8_311 ?_
    exact ex_lreturn (pc := 53) (fr_get fo_101_1 9 rfl) rfl rfl rfl (ma_end_mk h)
  · replace h := h.2 c
    refine ex_iload_n (pc := 7) (fr_get fo_101_0 3 rfl) rfl ?_
    refine ex_iconst (pc := 8) (fr_get fo_101_0 4 rfl) ic_1 ?_
    refine ex_bipush (pc := 9) (fr_get fo_101_0 5 rfl) bp_20 ?_
    refine xv_ks1 (pc := 11) (fr_get fo_101_0 6 rfl) cc_101_108 (as := [.inl a3, .inl (1 : Int32), .inl (20 : Int32)]) (rs := []) rfl rfl rfl rfl ?_
    refine sm_112 ?_
    refine ⟨_, rfl, ?_⟩
    refine xv_peq (pc := 14) (fr_get fo_101_0 7 rfl) (t := 42) rfl (fun c => ?_) (fun c => ?_)
    · replace h := h.1 c
      refine ex_iconst (pc := 42) (fr_get fo_101_1 4 rfl) ic_0 ?_
      refine ex_istore (pc := 43) (fr_get fo_101_1 5 rfl) rfl (L' := [some (.inr (.inr (5, 0))), some (.inl a1), some (.inl a2), some (.inl a3), some (.inl a4), some (.inl a5), some (.inl (0 : Int32)), none, none]) rfl ?_
      refine ex_iload (pc := 45) (fr_get fo_101_1 6 rfl) rfl ?_
      refine xv_bf (pc := 47) (fr_get fo_101_1 7 rfl) (t := 54) rfl k1_ne_0 ?_
      refine ex_ldc2 (pc := 50) (fr_get fo_101_1 8 rfl) ow_101 kl_8_311 ?_
      exact ex_lreturn (pc := 53) (fr_get fo_101_1 9 rfl) rfl rfl rfl (ma_end_mk h)
    · replace h := h.2 c
      refine ex_iload (pc := 17) (fr_get fo_101_0 8 rfl) rfl ?_
      refine ex_iconst (pc := 19) (fr_get fo_101_0 9 rfl) ic_0 ?_
      refine ex_bipush (pc := 20) (fr_get fo_101_0 10 rfl) bp_10 ?_
      refine xv_ks1 (pc := 22) (fr_get fo_101_0 11 rfl) cc_101_108 (as := [.inl a4, .inl (0 : Int32), .inl (10 : Int32)]) (rs := []) rfl rfl rfl rfl ?_
      refine sm_112 ?_
      refine ⟨_, rfl, ?_⟩
      refine xv_peq (pc := 25) (fr_get fo_101_0 12 rfl) (t := 42) rfl (fun c => ?_) (fun c => ?_)
      · replace h := h.1 c
        refine ex_iconst (pc := 42) (fr_get fo_101_1 4 rfl) ic_0 ?_
        refine ex_istore (pc := 43) (fr_get fo_101_1 5 rfl) rfl (L' := [some (.inr (.inr (5, 0))), some (.inl a1), some (.inl a2), some (.inl a3), some (.inl a4), some (.inl a5), some (.inl (0 : Int32)), none, none]) rfl ?_
        refine ex_iload (pc := 45) (fr_get fo_101_1 6 rfl) rfl ?_
        refine xv_bf (pc := 47) (fr_get fo_101_1 7 rfl) (t := 54) rfl k1_ne_0 ?_
        refine ex_ldc2 (pc := 50) (fr_get fo_101_1 8 rfl) ow_101 kl_8_311 ?_
        exact ex_lreturn (pc := 53) (fr_get fo_101_1 9 rfl) rfl rfl rfl (ma_end_mk h)
      · replace h := h.2 c
        refine ex_iload (pc := 28) (fr_get fo_101_0 13 rfl) rfl ?_
        refine ex_iconst (pc := 30) (fr_get fo_101_0 14 rfl) ic_0 ?_
        refine ex_iconst (pc := 31) (fr_get fo_101_0 15 rfl) ic_1 ?_
        refine xv_ks1 (pc := 32) (fr_get fo_101_1 0 rfl) cc_101_108 (as := [.inl a5, .inl (0 : Int32), .inl (1 : Int32)]) (rs := []) rfl rfl rfl rfl ?_
        refine sm_112 ?_
        refine ⟨_, rfl, ?_⟩
        refine xv_peq (pc := 35) (fr_get fo_101_1 1 rfl) (t := 42) rfl (fun c => ?_) (fun c => ?_)
        · replace h := h.1 c
          refine ex_iconst (pc := 42) (fr_get fo_101_1 4 rfl) ic_0 ?_
          refine ex_istore (pc := 43) (fr_get fo_101_1 5 rfl) rfl (L' := [some (.inr (.inr (5, 0))), some (.inl a1), some (.inl a2), some (.inl a3), some (.inl a4), some (.inl a5), some (.inl (0 : Int32)), none, none]) rfl ?_
          refine ex_iload (pc := 45) (fr_get fo_101_1 6 rfl) rfl ?_
          refine xv_bf (pc := 47) (fr_get fo_101_1 7 rfl) (t := 54) rfl k1_ne_0 ?_
          refine ex_ldc2 (pc := 50) (fr_get fo_101_1 8 rfl) ow_101 kl_8_311 ?_
          exact ex_lreturn (pc := 53) (fr_get fo_101_1 9 rfl) rfl rfl rfl (ma_end_mk h)
        · replace h := h.2 c
          refine ex_iconst (pc := 38) (fr_get fo_101_1 2 rfl) ic_1 ?_
          refine ex_goto (pc := 39) (fr_get fo_101_1 3 rfl) (t := 43) rfl ?_
          refine ex_istore (pc := 43) (fr_get fo_101_1 5 rfl) rfl (L' := [some (.inr (.inr (5, 0))), some (.inl a1), some (.inl a2), some (.inl a3), some (.inl a4), some (.inl a5), some (.inl (1 : Int32)), none, none]) rfl ?_
          refine ex_iload (pc := 45) (fr_get fo_101_1 6 rfl) rfl ?_
          refine xv_bt (pc := 47) (fr_get fo_101_1 7 rfl) (t := 54) rfl k1_ne_1 ?_
          refine ex_iconst (pc := 54) (fr_get fo_101_1 10 rfl) ic_0 ?_
          refine ex_istore (pc := 55) (fr_get fo_101_1 11 rfl) rfl (L' := [some (.inr (.inr (5, 0))), some (.inl a1), some (.inl a2), some (.inl a3), some (.inl a4), some (.inl a5), some (.inl (1 : Int32)), some (.inl (0 : Int32)), none]) rfl ?_
          refine ex_iconst (pc := 57) (fr_get fo_101_1 12 rfl) ic_0 ?_
          refine ex_istore (pc := 58) (fr_get fo_101_1 13 rfl) rfl (L' := [some (.inr (.inr (5, 0))), some (.inl a1), some (.inl a2), some (.inl a3), some (.inl a4), some (.inl a5), some (.inl (1 : Int32)), some (.inl (0 : Int32)), some (.inl (0 : Int32))]) rfl ?_
          exact h

theorem b_101_60 {d : Nat} {I : ma_I} {o : Nat} {Q : ma_Q} {v1 : Int32} {v2 : Int32} {v3 : Int32} {v4 : Int32} {v5 : Int32} {v6 : Int32} {v7 : Int32} {v8 : Int32}
  (h :
    (v3 ≤ v8 →
      Exm (d + 1) 102 [.inl v7, .inl v3] I o (fun r J1 p2 => ∃ x3 : Int32, r = some (.inl x3) ∧
        (v5 ≠ 0 →
          x3 ≠ 0 ∧
          Q (some (.inr (.inl (Int32.toInt64 (v3 / x3))))) J1 p2) ∧
        (v5 = 0 →
          x3 ≠ 0 ∧
          Q (some (.inr (.inl (Int32.toInt64 (v7 / x3))))) J1 p2))) ∧
    (v8 < v3 →
      Exm (d + 1) 100 [.inr (.inr (5, 0)), .inl v1, .inl (v2 + v8)] I o (fun r J4 p5 => ∃ x6 : Int32, r = some (.inl x6) ∧
        (x6 < v4 →
          Ex (d + 2) 101 (60, [some (.inr (.inr (5, 0))), some (.inl v1), some (.inl v2), some (.inl v3), some (.inl v4), some (.inl v5), some (.inl v6), some (.inl v7), some (.inl (v8 + (1 : Int32)))], [], ma_mem J4 p5, 0, 0) (ma_end Q)) ∧
        (v4 ≤ x6 →
          Ex (d + 2) 101 (60, [some (.inr (.inr (5, 0))), some (.inl v1), some (.inl v2), some (.inl v3), some (.inl v4), some (.inl v5), some (.inl v6), some (.inl (v7 + (1 : Int32))), some (.inl (v8 + (1 : Int32)))], [], ma_mem J4 p5, 0, 0) (ma_end Q))))) :
  Ex (d + 2) 101 (60, [some (.inr (.inr (5, 0))), some (.inl v1), some (.inl v2), some (.inl v3), some (.inl v4), some (.inl v5), some (.inl v6), some (.inl v7), some (.inl v8)], [], ma_mem I o, 0, 0) (ma_end Q) := by
  refine ex_iload (pc := 60) (fr_get fo_101_1 14 rfl) rfl ?_
  refine ex_iload_n (pc := 62) (fr_get fo_101_1 15 rfl) rfl ?_
  refine xv_cge (pc := 63) (fr_get fo_101_2 0 rfl) (t := 89) rfl (fun c => ?_) (fun c => ?_)
  · replace h := h.1 c
    refine ex_iload (pc := 89) (fr_get fo_101_2 12 rfl) rfl ?_
    refine ex_iload_n (pc := 91) (fr_get fo_101_2 13 rfl) rfl ?_
    refine xv_ks1 (pc := 92) (fr_get fo_101_2 14 rfl) cc_101_313 (as := [.inl v7, .inl v3]) (rs := []) rfl rfl rfl rfl ?_
    refine h.mono (fun r J1 p2 h => ?_)
    obtain ⟨x3, hr, h⟩ := h
    refine ⟨x3, hr, ?_⟩
    refine ex_istore (pc := 95) (fr_get fo_101_2 15 rfl) rfl (L' := [some (.inr (.inr (5, 0))), some (.inl v1), some (.inl v2), some (.inl v3), some (.inl v4), some (.inl v5), some (.inl v6), some (.inl v7), some (.inl x3)]) rfl ?_
    refine ex_iload (pc := 97) (fr_get fo_101_3 0 rfl) rfl ?_
    refine xv_bne (pc := 99) (fr_get fo_101_3 1 rfl) (t := 107) rfl (fun c => ?_) (fun c => ?_)
    · replace h := h.1 c
      refine ex_iload_n (pc := 107) (fr_get fo_101_3 4 rfl) rfl ?_
      refine ex_iload (pc := 108) (fr_get fo_101_3 5 rfl) rfl ?_
      refine xv_idiv (pc := 110) (fr_get fo_101_3 6 rfl) h.1 ?_
      replace h := h.2
      refine ex_i2l (pc := 111) (fr_get fo_101_3 7 rfl) ?_
      exact ex_lreturn (pc := 112) (fr_get fo_101_3 8 rfl) rfl rfl rfl (ma_end_mk h)
    · replace h := h.2 c
      refine ex_iload (pc := 102) (fr_get fo_101_3 2 rfl) rfl ?_
      refine ex_goto (pc := 104) (fr_get fo_101_3 3 rfl) (t := 108) rfl ?_
      refine ex_iload (pc := 108) (fr_get fo_101_3 5 rfl) rfl ?_
      refine xv_idiv (pc := 110) (fr_get fo_101_3 6 rfl) h.1 ?_
      replace h := h.2
      refine ex_i2l (pc := 111) (fr_get fo_101_3 7 rfl) ?_
      exact ex_lreturn (pc := 112) (fr_get fo_101_3 8 rfl) rfl rfl rfl (ma_end_mk h)
  · replace h := h.2 c
    refine ex_aload_n (pc := 66) (fr_get fo_101_2 1 rfl) rfl rfl ?_
    refine ex_iload_n (pc := 67) (fr_get fo_101_2 2 rfl) rfl ?_
    refine ex_iload_n (pc := 68) (fr_get fo_101_2 3 rfl) rfl ?_
    refine ex_iload (pc := 69) (fr_get fo_101_2 4 rfl) rfl ?_
    refine ex_iadd (pc := 71) (fr_get fo_101_2 5 rfl) ?_
    refine xv_kv1 (pc := 72) (fr_get fo_101_2 6 rfl) cc_101_307 (as := [.inr (.inr (5, 0)), .inl v1, .inl (v2 + v8)]) (rs := []) rfl rfl rfl rfl rfl ?_
    refine h.mono (fun r J4 p5 h => ?_)
    obtain ⟨x6, hr, h⟩ := h
    refine ⟨x6, hr, ?_⟩
    refine ex_iload (pc := 75) (fr_get fo_101_2 7 rfl) rfl ?_
    refine xv_clt (pc := 77) (fr_get fo_101_2 8 rfl) (t := 83) rfl (fun c => ?_) (fun c => ?_)
    · replace h := h.1 c
      refine xv_iinc (pc := 83) (fr_get fo_101_2 10 rfl) rfl ic_1 (L' := [some (.inr (.inr (5, 0))), some (.inl v1), some (.inl v2), some (.inl v3), some (.inl v4), some (.inl v5), some (.inl v6), some (.inl v7), some (.inl (v8 + (1 : Int32)))]) rfl ?_
      refine ex_goto (pc := 86) (fr_get fo_101_2 11 rfl) (t := 60) rfl ?_
      exact h
    · replace h := h.2 c
      refine xv_iinc (pc := 80) (fr_get fo_101_2 9 rfl) rfl ic_1 (L' := [some (.inr (.inr (5, 0))), some (.inl v1), some (.inl v2), some (.inl v3), some (.inl v4), some (.inl v5), some (.inl v6), some (.inl (v7 + (1 : Int32))), some (.inl v8)]) rfl ?_
      refine xv_iinc (pc := 83) (fr_get fo_101_2 10 rfl) rfl ic_1 (L' := [some (.inr (.inr (5, 0))), some (.inl v1), some (.inl v2), some (.inl v3), some (.inl v4), some (.inl v5), some (.inl v6), some (.inl (v7 + (1 : Int32))), some (.inl (v8 + (1 : Int32)))]) rfl ?_
      refine ex_goto (pc := 86) (fr_get fo_101_2 11 rfl) (t := 60) rfl ?_
      exact h

theorem e_102 {d : Nat} {I : ma_I} {o : Nat} {Q : ma_Q} {a0 : Int32} {a1 : Int32}
  (h :
    Ex (d) 102 (3, [some (.inl a0), some (.inl a1), some (.inl (20 : Int32))], [], ma_mem I o, 0, 0) (ma_end Q)) :
  Exm (d) 102 [.inl a0, .inl a1] I o Q := by
  show Ex (d) 102 (0, [some (.inl a0), some (.inl a1), none], [], ma_mem I o, 0, 0) (ma_end Q)
  refine ex_bipush (pc := 0) (fr_get fo_102_0 0 rfl) bp_20 ?_
  refine ex_istore_n (pc := 2) (fr_get fo_102_0 1 rfl) rfl (L' := [some (.inl a0), some (.inl a1), some (.inl (20 : Int32))]) rfl ?_
  exact h

theorem b_102_3 {d : Nat} {I : ma_I} {o : Nat} {Q : ma_Q} {v0 : Int32} {v1 : Int32} {v2 : Int32}
  (h :
    (v2 ≤ (1 : Int32) →
      Q (some (.inl (1 : Int32))) I o) ∧
    ((1 : Int32) < v2 →
      v2 ≠ 0 ∧
      (xv_rm v0 v2 ≠ 0 →
        Ex (d) 102 (3, [some (.inl v0), some (.inl v1), some (.inl (v2 + (-1 : Int32)))], [], ma_mem I o, 0, 0) (ma_end Q)) ∧
      (xv_rm v0 v2 = 0 →
        v2 ≠ 0 ∧
        (xv_rm v1 v2 ≠ 0 →
          Ex (d) 102 (3, [some (.inl v0), some (.inl v1), some (.inl (v2 + (-1 : Int32)))], [], ma_mem I o, 0, 0) (ma_end Q)) ∧
        (xv_rm v1 v2 = 0 →
          Q (some (.inl v2)) I o)))) :
  Ex (d) 102 (3, [some (.inl v0), some (.inl v1), some (.inl v2)], [], ma_mem I o, 0, 0) (ma_end Q) := by
  refine ex_iload_n (pc := 3) (fr_get fo_102_0 2 rfl) rfl ?_
  refine ex_iconst (pc := 4) (fr_get fo_102_0 3 rfl) ic_1 ?_
  refine xv_cle (pc := 5) (fr_get fo_102_0 4 rfl) (t := 28) rfl (fun c => ?_) (fun c => ?_)
  · replace h := h.1 c
    refine ex_iconst (pc := 28) (fr_get fo_102_1 1 rfl) ic_1 ?_
    exact ex_ireturn (pc := 29) (fr_get fo_102_1 2 rfl) rt_102 rfl rfl (ma_end_mk h)
  · replace h := h.2 c
    refine ex_iload_n (pc := 8) (fr_get fo_102_0 5 rfl) rfl ?_
    refine ex_iload_n (pc := 9) (fr_get fo_102_0 6 rfl) rfl ?_
    refine xv_irem (pc := 10) (fr_get fo_102_0 7 rfl) h.1 ?_
    replace h := h.2
    refine xv_bne (pc := 11) (fr_get fo_102_0 8 rfl) (t := 22) rfl (fun c => ?_) (fun c => ?_)
    · replace h := h.1 c
      refine xv_iinc (pc := 22) (fr_get fo_102_0 15 rfl) rfl ic_m1 (L' := [some (.inl v0), some (.inl v1), some (.inl (v2 + (-1 : Int32)))]) rfl ?_
      refine ex_goto (pc := 25) (fr_get fo_102_1 0 rfl) (t := 3) rfl ?_
      exact h
    · replace h := h.2 c
      refine ex_iload_n (pc := 14) (fr_get fo_102_0 9 rfl) rfl ?_
      refine ex_iload_n (pc := 15) (fr_get fo_102_0 10 rfl) rfl ?_
      refine xv_irem (pc := 16) (fr_get fo_102_0 11 rfl) h.1 ?_
      replace h := h.2
      refine xv_bne (pc := 17) (fr_get fo_102_0 12 rfl) (t := 22) rfl (fun c => ?_) (fun c => ?_)
      · replace h := h.1 c
        refine xv_iinc (pc := 22) (fr_get fo_102_0 15 rfl) rfl ic_m1 (L' := [some (.inl v0), some (.inl v1), some (.inl (v2 + (-1 : Int32)))]) rfl ?_
        refine ex_goto (pc := 25) (fr_get fo_102_1 0 rfl) (t := 3) rfl ?_
        exact h
      · replace h := h.2 c
        refine ex_iload_n (pc := 20) (fr_get fo_102_0 13 rfl) rfl ?_
        exact ex_ireturn (pc := 21) (fr_get fo_102_0 14 rfl) rt_102 rfl rfl (ma_end_mk h)

theorem e_103 {d : Nat} {I : ma_I} {o : Nat} {Q : ma_Q} 
  (h :
    Exm (d) 1 [.inr (.inr (7, 0)), .inr (.inr (6, 0))] I o (fun r J1 p2 => r = none ∧
      Q (some (.inl (J1 6 0 4))) J1 p2)) :
  Exm (d + 1) 103 [.inr (.inr (5, 0))] I o Q := by
  show Ex (d + 1) 103 (0, [some (.inr (.inr (5, 0)))], [], ma_mem I o, 0, 0) (ma_end Q)
  refine ex_aload_n (pc := 0) (fr_get fo_103_0 0 rfl) rfl rfl ?_
  refine ex_gr (pc := 1) (fr_get fo_103_0 1 rfl) ow_103 fr_8_19_5 (q := (7, 0)) rfl ?_
  refine ex_aload_n (pc := 4) (fr_get fo_103_0 2 rfl) rfl rfl ?_
  refine ex_gr (pc := 5) (fr_get fo_103_0 3 rfl) ow_103 fr_8_12_5 (q := (6, 0)) rfl ?_
  refine xv_kv0 (pc := 8) (fr_get fo_103_0 4 rfl) cc_103_316 (as := [.inr (.inr (7, 0)), .inr (.inr (6, 0))]) (rs := []) rfl rfl rfl rfl rfl ?_
  refine h.mono (fun r J1 p2 h => ⟨h.1, ?_⟩)
  replace h := h.2
  refine ex_aload_n (pc := 11) (fr_get fo_103_0 5 rfl) rfl rfl ?_
  refine ex_gr (pc := 12) (fr_get fo_103_0 6 rfl) ow_103 fr_8_12_5 (q := (6, 0)) rfl ?_
  refine xv_gi (pc := 15) (fr_get fo_103_0 7 rfl) ow_103 fg_8_112_6 rfl ?_
  exact ex_ireturn (pc := 18) (fr_get fo_103_0 8 rfl) rt_103 rfl rfl (ma_end_mk h)

theorem e_104 {d : Nat} {I : ma_I} {o : Nat} {Q : ma_Q} 
  (h :
    (I 7 0 0 ≠ 0 →
      Exm (d) 2 [.inr (.inr (7, 0)), .inr (.inr (6, 0))] I o (fun r J1 p2 => r = none ∧
        Q (some (.inl (J1 6 0 4))) J1 p2)) ∧
    (I 7 0 0 = 0 →
      Q (some (.inl (-3 : Int32))) I o)) :
  Exm (d + 1) 104 [.inr (.inr (5, 0))] I o Q := by
  show Ex (d + 1) 104 (0, [some (.inr (.inr (5, 0)))], [], ma_mem I o, 0, 0) (ma_end Q)
  refine ex_aload_n (pc := 0) (fr_get fo_104_0 0 rfl) rfl rfl ?_
  refine ex_gr (pc := 1) (fr_get fo_104_0 1 rfl) ow_104 fr_8_19_5 (q := (7, 0)) rfl ?_
  refine xv_gi (pc := 4) (fr_get fo_104_0 2 rfl) ow_104 fg_8_320_7 rfl ?_
  refine xv_bne (pc := 7) (fr_get fo_104_0 3 rfl) (t := 13) rfl (fun c => ?_) (fun c => ?_)
  · replace h := h.1 c
    refine ex_aload_n (pc := 13) (fr_get fo_104_0 6 rfl) rfl rfl ?_
    refine ex_gr (pc := 14) (fr_get fo_104_0 7 rfl) ow_104 fr_8_19_5 (q := (7, 0)) rfl ?_
    refine ex_aload_n (pc := 17) (fr_get fo_104_0 8 rfl) rfl rfl ?_
    refine ex_gr (pc := 18) (fr_get fo_104_0 9 rfl) ow_104 fr_8_12_5 (q := (6, 0)) rfl ?_
    refine xv_kv0 (pc := 21) (fr_get fo_104_0 10 rfl) cc_104_323 (as := [.inr (.inr (7, 0)), .inr (.inr (6, 0))]) (rs := []) rfl rfl rfl rfl rfl ?_
    refine h.mono (fun r J1 p2 h => ⟨h.1, ?_⟩)
    replace h := h.2
    refine ex_aload_n (pc := 24) (fr_get fo_104_0 11 rfl) rfl rfl ?_
    refine ex_gr (pc := 25) (fr_get fo_104_0 12 rfl) ow_104 fr_8_12_5 (q := (6, 0)) rfl ?_
    refine xv_gi (pc := 28) (fr_get fo_104_0 13 rfl) ow_104 fg_8_112_6 rfl ?_
    exact ex_ireturn (pc := 31) (fr_get fo_104_0 14 rfl) rt_104 rfl rfl (ma_end_mk h)
  · replace h := h.2 c
    refine ex_bipush (pc := 10) (fr_get fo_104_0 4 rfl) bp_m3 ?_
    exact ex_ireturn (pc := 12) (fr_get fo_104_0 5 rfl) rt_104 rfl rfl (ma_end_mk h)

theorem e_105 {d : Nat} {I : ma_I} {o : Nat} {Q : ma_Q} {a1 : Int32}
  (h :
    (a1 = (0 : Int32) →
      Q (some (.inl (I 6 0 4))) I o) ∧
    (a1 ≠ (0 : Int32) →
      (a1 = (1 : Int32) →
        Q (some (.inl (I 6 0 1))) I o) ∧
      (a1 ≠ (1 : Int32) →
        (a1 = (2 : Int32) →
          Q (some (.inl (I 6 0 0))) I o) ∧
        (a1 ≠ (2 : Int32) →
          (a1 = (3 : Int32) →
            Q (some (.inl (I 6 0 6))) I o) ∧
          (a1 ≠ (3 : Int32) →
            (a1 = (4 : Int32) →
              Q (some (.inl (I 8 0 0))) I o) ∧
            (a1 ≠ (4 : Int32) →
              (a1 = (5 : Int32) →
                Q (some (.inl (I 6 0 8))) I o) ∧
              (a1 ≠ (5 : Int32) →
                Q (some (.inl (-2 : Int32))) I o))))))) :
  Exm (d) 105 [.inr (.inr (5, 0)), .inl a1] I o Q := by
  show Ex (d) 105 (0, [some (.inr (.inr (5, 0))), some (.inl a1)], [], ma_mem I o, 0, 0) (ma_end Q)
  refine ex_iload_n (pc := 0) (fr_get fo_105_0 0 rfl) rfl ?_
  refine xv_ts (pc := 1) (fr_get fo_105_0 1 rfl) (l := [39, 47, 55, 63, 71, 79]) rfl tk_105_1 ?_
  refine xv_tc (t := 40) ic_0 rfl (fun c => ?_) (fun c => ?_)
  · replace h := h.1 c
    refine ex_aload_n (pc := 40) (fr_get fo_105_0 2 rfl) rfl rfl ?_
    refine ex_gr (pc := 41) (fr_get fo_105_0 3 rfl) ow_105 fr_8_12_5 (q := (6, 0)) rfl ?_
    refine xv_gi (pc := 44) (fr_get fo_105_0 4 rfl) ow_105 fg_8_112_6 rfl ?_
    exact ex_ireturn (pc := 47) (fr_get fo_105_0 5 rfl) rt_105 rfl rfl (ma_end_mk h)
  · replace h := h.2 c
    refine xv_tc (t := 48) ic_1 rfl (fun c => ?_) (fun c => ?_)
    · replace h := h.1 c
      refine ex_aload_n (pc := 48) (fr_get fo_105_0 6 rfl) rfl rfl ?_
      refine ex_gr (pc := 49) (fr_get fo_105_0 7 rfl) ow_105 fr_8_12_5 (q := (6, 0)) rfl ?_
      refine xv_gi (pc := 52) (fr_get fo_105_0 8 rfl) ow_105 fg_8_91_6 rfl ?_
      exact ex_ireturn (pc := 55) (fr_get fo_105_0 9 rfl) rt_105 rfl rfl (ma_end_mk h)
    · replace h := h.2 c
      refine xv_tc (t := 56) ic_2 rfl (fun c => ?_) (fun c => ?_)
      · replace h := h.1 c
        refine ex_aload_n (pc := 56) (fr_get fo_105_0 10 rfl) rfl rfl ?_
        refine ex_gr (pc := 57) (fr_get fo_105_0 11 rfl) ow_105 fr_8_12_5 (q := (6, 0)) rfl ?_
        refine xv_gi (pc := 60) (fr_get fo_105_0 12 rfl) ow_105 fg_8_128_6 rfl ?_
        exact ex_ireturn (pc := 63) (fr_get fo_105_0 13 rfl) rt_105 rfl rfl (ma_end_mk h)
      · replace h := h.2 c
        refine xv_tc (t := 64) ic_3 rfl (fun c => ?_) (fun c => ?_)
        · replace h := h.1 c
          refine ex_aload_n (pc := 64) (fr_get fo_105_0 14 rfl) rfl rfl ?_
          refine ex_gr (pc := 65) (fr_get fo_105_0 15 rfl) ow_105 fr_8_12_5 (q := (6, 0)) rfl ?_
          refine xv_gi (pc := 68) (fr_get fo_105_1 0 rfl) ow_105 fg_8_81_6 rfl ?_
          exact ex_ireturn (pc := 71) (fr_get fo_105_1 1 rfl) rt_105 rfl rfl (ma_end_mk h)
        · replace h := h.2 c
          refine xv_tc (t := 72) ic_4 rfl (fun c => ?_) (fun c => ?_)
          · replace h := h.1 c
            refine ex_aload_n (pc := 72) (fr_get fo_105_1 2 rfl) rfl rfl ?_
            refine ex_gr (pc := 73) (fr_get fo_105_1 3 rfl) ow_105 fr_8_26_5 (q := (8, 0)) rfl ?_
            refine xv_gi (pc := 76) (fr_get fo_105_1 4 rfl) ow_105 fg_8_77_8 rfl ?_
            exact ex_ireturn (pc := 79) (fr_get fo_105_1 5 rfl) rt_105 rfl rfl (ma_end_mk h)
          · replace h := h.2 c
            refine xv_tc (t := 80) ic_5 rfl (fun c => ?_) (fun c => ?_)
            · replace h := h.1 c
              refine ex_aload_n (pc := 80) (fr_get fo_105_1 6 rfl) rfl rfl ?_
              refine ex_gr (pc := 81) (fr_get fo_105_1 7 rfl) ow_105 fr_8_12_5 (q := (6, 0)) rfl ?_
              refine xv_gi (pc := 84) (fr_get fo_105_1 8 rfl) ow_105 fg_8_169_6 rfl ?_
              exact ex_ireturn (pc := 87) (fr_get fo_105_1 9 rfl) rt_105 rfl rfl (ma_end_mk h)
            · replace h := h.2 c
              refine xv_tn (t := 88) rfl ?_
              refine ex_bipush (pc := 88) (fr_get fo_105_1 10 rfl) bp_m2 ?_
              exact ex_ireturn (pc := 90) (fr_get fo_105_1 11 rfl) rt_105 rfl rfl (ma_end_mk h)

theorem e_106 {d : Nat} {I : ma_I} {o : Nat} {Q : ma_Q} {a1 : Int32} {a2 : Int32} {a3 : Int32}
  (h :
    (¬((0 : Int32) ≤ a1 ∧ a1 ≤ (3 : Int32)) →
      Q (some (.inl (-2 : Int32))) I o) ∧
    ((0 : Int32) ≤ a1 ∧ a1 ≤ (3 : Int32) →
      ((-1 : Int32) ≤ a2 ∧ a2 ≤ (2 : Int32) →
        (a2 ≠ (-1 : Int32) →
          (a3 ≤ (40 : Int32) →
            (0 ≤ a3 →
              ma_in a1 4 ∧
              Exm (d + 1) 38 [.inr (.inr (12, a1.toNatClampNeg)), .inl a2, .inl a3] I o (fun r J1 p2 => r = none ∧
                Q (some (.inl (1 : Int32))) J1 p2)) ∧
            (a3 < 0 →
              Q (some (.inl (-14 : Int32))) I o)) ∧
          ((40 : Int32) < a3 →
            Q (some (.inl (-2 : Int32))) I o)) ∧
        (a2 = (-1 : Int32) →
          ma_in a1 4 ∧
          Exm (d + 1) 38 [.inr (.inr (12, a1.toNatClampNeg)), .inl (-1 : Int32), .inl (0 : Int32)] I o (fun r J3 p4 => r = none ∧
            Q (some (.inl (1 : Int32))) J3 p4))) ∧
      (¬((-1 : Int32) ≤ a2 ∧ a2 ≤ (2 : Int32)) →
        Q (some (.inl (-2 : Int32))) I o))) :
  Exm (d + 2) 106 [.inr (.inr (5, 0)), .inl a1, .inl a2, .inl a3] I o Q := by
  show Ex (d + 2) 106 (0, [some (.inr (.inr (5, 0))), some (.inl a1), some (.inl a2), some (.inl a3)], [], ma_mem I o, 0, 0) (ma_end Q)
  refine ex_iload_n (pc := 0) (fr_get fo_106_0 0 rfl) rfl ?_
  refine xv_ks1 (pc := 1) (fr_get fo_106_0 1 rfl) cc_106_251 (as := [.inl a1]) (rs := []) rfl rfl rfl rfl ?_
  refine sm_115 ?_
  refine ⟨_, rfl, ?_⟩
  refine xv_peq (pc := 4) (fr_get fo_106_0 2 rfl) (t := 16) rfl (fun c => ?_) (fun c => ?_)
  · replace h := h.1 c
    refine ex_bipush (pc := 16) (fr_get fo_106_0 8 rfl) bp_m2 ?_
    exact ex_ireturn (pc := 18) (fr_get fo_106_0 9 rfl) rt_106 rfl rfl (ma_end_mk h)
  · replace h := h.2 c
    refine ex_iload_n (pc := 7) (fr_get fo_106_0 3 rfl) rfl ?_
    refine ex_iconst (pc := 8) (fr_get fo_106_0 4 rfl) ic_m1 ?_
    refine ex_iconst (pc := 9) (fr_get fo_106_0 5 rfl) ic_2 ?_
    refine xv_ks1 (pc := 10) (fr_get fo_106_0 6 rfl) cc_106_108 (as := [.inl a2, .inl (-1 : Int32), .inl (2 : Int32)]) (rs := []) rfl rfl rfl rfl ?_
    refine sm_112 ?_
    refine ⟨_, rfl, ?_⟩
    refine xv_pne (pc := 13) (fr_get fo_106_0 7 rfl) (t := 19) rfl (fun c => ?_) (fun c => ?_)
    · replace h := h.1 c
      refine ex_iload_n (pc := 19) (fr_get fo_106_0 10 rfl) rfl ?_
      refine ex_iconst (pc := 20) (fr_get fo_106_0 11 rfl) ic_m1 ?_
      refine xv_cne (pc := 21) (fr_get fo_106_0 12 rfl) (t := 37) rfl (fun c => ?_) (fun c => ?_)
      · replace h := h.1 c
        refine ex_iload_n (pc := 37) (fr_get fo_106_1 6 rfl) rfl ?_
        refine ex_bipush (pc := 38) (fr_get fo_106_1 7 rfl) bp_40 ?_
        refine xv_cle (pc := 40) (fr_get fo_106_1 8 rfl) (t := 46) rfl (fun c => ?_) (fun c => ?_)
        · replace h := h.1 c
          refine ex_iload_n (pc := 46) (fr_get fo_106_1 11 rfl) rfl ?_
          refine xv_bge (pc := 47) (fr_get fo_106_1 12 rfl) (t := 53) rfl (fun c => ?_) (fun c => ?_)
          · replace h := h.1 c
            refine ex_aload_n (pc := 53) (fr_get fo_106_1 15 rfl) rfl rfl ?_
            refine ex_gr (pc := 54) (fr_get fo_106_2 0 rfl) ow_106 fr_8_48_5 (q := (11, 0)) rfl ?_
            refine ex_iload_n (pc := 57) (fr_get fo_106_2 1 rfl) rfl ?_
            refine xv_aald (pc := 58) (fr_get fo_106_2 2 rfl) ga_11 gl_11 (q := (12, a1.toNatClampNeg)) rfl rfl h.1 ?_
            replace h := h.2
            refine ex_iload_n (pc := 59) (fr_get fo_106_2 3 rfl) rfl ?_
            refine ex_iload_n (pc := 60) (fr_get fo_106_2 4 rfl) rfl ?_
            refine xv_kv0 (pc := 61) (fr_get fo_106_2 5 rfl) cc_106_301 (as := [.inr (.inr (12, a1.toNatClampNeg)), .inl a2, .inl a3]) (rs := []) rfl rfl rfl rfl rfl ?_
            refine h.mono (fun r J1 p2 h => ⟨h.1, ?_⟩)
            replace h := h.2
            refine ex_iconst (pc := 64) (fr_get fo_106_2 6 rfl) ic_1 ?_
            exact ex_ireturn (pc := 65) (fr_get fo_106_2 7 rfl) rt_106 rfl rfl (ma_end_mk h)
          · replace h := h.2 c
            refine ex_bipush (pc := 50) (fr_get fo_106_1 13 rfl) bp_m14 ?_
            exact ex_ireturn (pc := 52) (fr_get fo_106_1 14 rfl) rt_106 rfl rfl (ma_end_mk h)
        · replace h := h.2 c
          refine ex_bipush (pc := 43) (fr_get fo_106_1 9 rfl) bp_m2 ?_
          exact ex_ireturn (pc := 45) (fr_get fo_106_1 10 rfl) rt_106 rfl rfl (ma_end_mk h)
      · replace h := h.2 c
        refine ex_aload_n (pc := 24) (fr_get fo_106_0 13 rfl) rfl rfl ?_
        refine ex_gr (pc := 25) (fr_get fo_106_0 14 rfl) ow_106 fr_8_48_5 (q := (11, 0)) rfl ?_
        refine ex_iload_n (pc := 28) (fr_get fo_106_0 15 rfl) rfl ?_
        refine xv_aald (pc := 29) (fr_get fo_106_1 0 rfl) ga_11 gl_11 (q := (12, a1.toNatClampNeg)) rfl rfl h.1 ?_
        replace h := h.2
        refine ex_iconst (pc := 30) (fr_get fo_106_1 1 rfl) ic_m1 ?_
        refine ex_iconst (pc := 31) (fr_get fo_106_1 2 rfl) ic_0 ?_
        refine xv_kv0 (pc := 32) (fr_get fo_106_1 3 rfl) cc_106_301 (as := [.inr (.inr (12, a1.toNatClampNeg)), .inl (-1 : Int32), .inl (0 : Int32)]) (rs := []) rfl rfl rfl rfl rfl ?_
        refine h.mono (fun r J3 p4 h => ⟨h.1, ?_⟩)
        replace h := h.2
        refine ex_iconst (pc := 35) (fr_get fo_106_1 4 rfl) ic_1 ?_
        exact ex_ireturn (pc := 36) (fr_get fo_106_1 5 rfl) rt_106 rfl rfl (ma_end_mk h)
    · replace h := h.2 c
      refine ex_bipush (pc := 16) (fr_get fo_106_0 8 rfl) bp_m2 ?_
      exact ex_ireturn (pc := 18) (fr_get fo_106_0 9 rfl) rt_106 rfl rfl (ma_end_mk h)

theorem e_107 {d : Nat} {I : ma_I} {o : Nat} {Q : ma_Q} {a1 : Int32} {a2 : Int32} {a3 : Int32}
  (h :
    ((0 : Int32) ≤ a1 ∧ a1 ≤ (3 : Int32) →
      ma_in a1 4 ∧
      (I 12 a1.toNatClampNeg 0 ≠ (-1 : Int32) →
        ((0 : Int32) ≤ a2 ∧ a2 ≤ ((I 12 a1.toNatClampNeg 1) - (1 : Int32)) →
          Exm (d + 1) 39 [.inr (.inr (12, a1.toNatClampNeg)), .inl a2, .inl a3] I o (fun r J1 p2 => r = none ∧
            Q (some (.inl (1 : Int32))) J1 p2)) ∧
        (¬((0 : Int32) ≤ a2 ∧ a2 ≤ ((I 12 a1.toNatClampNeg 1) - (1 : Int32))) →
          Q (some (.inl (-12 : Int32))) I o)) ∧
      (I 12 a1.toNatClampNeg 0 = (-1 : Int32) →
        Q (some (.inl (-11 : Int32))) I o)) ∧
    (¬((0 : Int32) ≤ a1 ∧ a1 ≤ (3 : Int32)) →
      Q (some (.inl (-2 : Int32))) I o)) :
  Exm (d + 2) 107 [.inr (.inr (5, 0)), .inl a1, .inl a2, .inl a3] I o Q := by
  show Ex (d + 2) 107 (0, [some (.inr (.inr (5, 0))), some (.inl a1), some (.inl a2), some (.inl a3), none], [], ma_mem I o, 0, 0) (ma_end Q)
  refine ex_iload_n (pc := 0) (fr_get fo_107_0 0 rfl) rfl ?_
  refine xv_ks1 (pc := 1) (fr_get fo_107_0 1 rfl) cc_107_251 (as := [.inl a1]) (rs := []) rfl rfl rfl rfl ?_
  refine sm_115 ?_
  refine ⟨_, rfl, ?_⟩
  refine xv_pne (pc := 4) (fr_get fo_107_0 2 rfl) (t := 10) rfl (fun c => ?_) (fun c => ?_)
  · replace h := h.1 c
    refine ex_aload_n (pc := 10) (fr_get fo_107_0 5 rfl) rfl rfl ?_
    refine ex_gr (pc := 11) (fr_get fo_107_0 6 rfl) ow_107 fr_8_48_5 (q := (11, 0)) rfl ?_
    refine ex_iload_n (pc := 14) (fr_get fo_107_0 7 rfl) rfl ?_
    refine xv_aald (pc := 15) (fr_get fo_107_0 8 rfl) ga_11 gl_11 (q := (12, a1.toNatClampNeg)) rfl rfl h.1 ?_
    replace h := h.2
    refine ex_astore (pc := 16) (fr_get fo_107_0 9 rfl) rfl rfl (L' := [some (.inr (.inr (5, 0))), some (.inl a1), some (.inl a2), some (.inl a3), some (.inr (.inr (12, a1.toNatClampNeg)))]) rfl ?_
    refine ex_aload (pc := 18) (fr_get fo_107_0 10 rfl) rfl rfl ?_
    refine xv_gi (pc := 20) (fr_get fo_107_0 11 rfl) ow_107 fg_8_254_12 rfl ?_
    refine ex_iconst (pc := 23) (fr_get fo_107_0 12 rfl) ic_m1 ?_
    refine xv_cne (pc := 24) (fr_get fo_107_0 13 rfl) (t := 30) rfl (fun c => ?_) (fun c => ?_)
    · replace h := h.1 c
      refine ex_iload_n (pc := 30) (fr_get fo_107_1 0 rfl) rfl ?_
      refine ex_iconst (pc := 31) (fr_get fo_107_1 1 rfl) ic_0 ?_
      refine ex_aload (pc := 32) (fr_get fo_107_1 2 rfl) rfl rfl ?_
      refine xv_gi (pc := 34) (fr_get fo_107_1 3 rfl) ow_107 fg_8_303_12 rfl ?_
      refine ex_iconst (pc := 37) (fr_get fo_107_1 4 rfl) ic_1 ?_
      refine ex_isub (pc := 38) (fr_get fo_107_1 5 rfl) ?_
      refine xv_ks1 (pc := 39) (fr_get fo_107_1 6 rfl) cc_107_108 (as := [.inl a2, .inl (0 : Int32), .inl ((I 12 a1.toNatClampNeg 1) - (1 : Int32))]) (rs := []) rfl rfl rfl rfl ?_
      refine sm_112 ?_
      refine ⟨_, rfl, ?_⟩
      refine xv_pne (pc := 42) (fr_get fo_107_1 7 rfl) (t := 48) rfl (fun c => ?_) (fun c => ?_)
      · replace h := h.1 c
        refine ex_aload (pc := 48) (fr_get fo_107_1 10 rfl) rfl rfl ?_
        refine ex_iload_n (pc := 50) (fr_get fo_107_1 11 rfl) rfl ?_
        refine ex_iload_n (pc := 51) (fr_get fo_107_1 12 rfl) rfl ?_
        refine xv_kv0 (pc := 52) (fr_get fo_107_1 13 rfl) cc_107_304 (as := [.inr (.inr (12, a1.toNatClampNeg)), .inl a2, .inl a3]) (rs := []) rfl rfl rfl rfl rfl ?_
        refine h.mono (fun r J1 p2 h => ⟨h.1, ?_⟩)
        replace h := h.2
        refine ex_iconst (pc := 55) (fr_get fo_107_1 14 rfl) ic_1 ?_
        exact ex_ireturn (pc := 56) (fr_get fo_107_1 15 rfl) rt_107 rfl rfl (ma_end_mk h)
      · replace h := h.2 c
        refine ex_bipush (pc := 45) (fr_get fo_107_1 8 rfl) bp_m12 ?_
        exact ex_ireturn (pc := 47) (fr_get fo_107_1 9 rfl) rt_107 rfl rfl (ma_end_mk h)
    · replace h := h.2 c
      refine ex_bipush (pc := 27) (fr_get fo_107_0 14 rfl) bp_m11 ?_
      exact ex_ireturn (pc := 29) (fr_get fo_107_0 15 rfl) rt_107 rfl rfl (ma_end_mk h)
  · replace h := h.2 c
    refine ex_bipush (pc := 7) (fr_get fo_107_0 3 rfl) bp_m2 ?_
    exact ex_ireturn (pc := 9) (fr_get fo_107_0 4 rfl) rt_107 rfl rfl (ma_end_mk h)

theorem e_108 {d : Nat} {I : ma_I} {o : Nat} {Q : ma_Q} {a1 : Int32} {a2 : Int32} {a3 : Int32} {a4 : Int32} {a5 : Int32}
  (h :
    (¬((0 : Int32) ≤ a1 ∧ a1 ≤ (3 : Int32)) →
      Q (some (.inl (-2 : Int32))) I o) ∧
    ((0 : Int32) ≤ a1 ∧ a1 ≤ (3 : Int32) →
      ((0 : Int32) ≤ a3 ∧ a3 ≤ (3 : Int32) →
        ma_in a1 4 ∧
        ma_in a3 4 ∧
        (I 12 a1.toNatClampNeg 0 = (-1 : Int32) →
          Q (some (.inl (-11 : Int32))) I o) ∧
        (I 12 a1.toNatClampNeg 0 ≠ (-1 : Int32) →
          (I 12 a3.toNatClampNeg 0 ≠ (-1 : Int32) →
            (I 12 a1.toNatClampNeg 0 = I 12 a3.toNatClampNeg 0 →
              (¬(xv_ho (I 12 a1.toNatClampNeg 1) a2 a5) →
                Q (some (.inl (-12 : Int32))) I o) ∧
              (xv_ho (I 12 a1.toNatClampNeg 1) a2 a5 →
                (xv_ho (I 12 a3.toNatClampNeg 1) a4 a5 →
                  xv_cq a2 a4 a5 40 40 ∧
                  Q (some (.inl a5)) (ma_cpy I 13 a1.toNatClampNeg a2.toNatClampNeg 13 a3.toNatClampNeg a4.toNatClampNeg a5.toNatClampNeg) o) ∧
                (¬(xv_ho (I 12 a3.toNatClampNeg 1) a4 a5) →
                  Q (some (.inl (-12 : Int32))) I o))) ∧
            (I 12 a1.toNatClampNeg 0 ≠ I 12 a3.toNatClampNeg 0 →
              Q (some (.inl (-13 : Int32))) I o)) ∧
          (I 12 a3.toNatClampNeg 0 = (-1 : Int32) →
            Q (some (.inl (-11 : Int32))) I o))) ∧
      (¬((0 : Int32) ≤ a3 ∧ a3 ≤ (3 : Int32)) →
        Q (some (.inl (-2 : Int32))) I o))) :
  Exm (d + 2) 108 [.inr (.inr (5, 0)), .inl a1, .inl a2, .inl a3, .inl a4, .inl a5] I o Q := by
  show Ex (d + 2) 108 (0, [some (.inr (.inr (5, 0))), some (.inl a1), some (.inl a2), some (.inl a3), some (.inl a4), some (.inl a5), none, none], [], ma_mem I o, 0, 0) (ma_end Q)
  refine ex_iload_n (pc := 0) (fr_get fo_108_0 0 rfl) rfl ?_
  refine xv_ks1 (pc := 1) (fr_get fo_108_0 1 rfl) cc_108_251 (as := [.inl a1]) (rs := []) rfl rfl rfl rfl ?_
  refine sm_115 ?_
  refine ⟨_, rfl, ?_⟩
  refine xv_peq (pc := 4) (fr_get fo_108_0 2 rfl) (t := 14) rfl (fun c => ?_) (fun c => ?_)
  · replace h := h.1 c
    refine ex_bipush (pc := 14) (fr_get fo_108_0 6 rfl) bp_m2 ?_
    exact ex_ireturn (pc := 16) (fr_get fo_108_0 7 rfl) rt_108 rfl rfl (ma_end_mk h)
  · replace h := h.2 c
    refine ex_iload_n (pc := 7) (fr_get fo_108_0 3 rfl) rfl ?_
    refine xv_ks1 (pc := 8) (fr_get fo_108_0 4 rfl) cc_108_251 (as := [.inl a3]) (rs := []) rfl rfl rfl rfl ?_
    refine sm_115 ?_
    refine ⟨_, rfl, ?_⟩
    refine xv_pne (pc := 11) (fr_get fo_108_0 5 rfl) (t := 17) rfl (fun c => ?_) (fun c => ?_)
    · replace h := h.1 c
      refine ex_aload_n (pc := 17) (fr_get fo_108_0 8 rfl) rfl rfl ?_
      refine ex_gr (pc := 18) (fr_get fo_108_0 9 rfl) ow_108 fr_8_48_5 (q := (11, 0)) rfl ?_
      refine ex_iload_n (pc := 21) (fr_get fo_108_0 10 rfl) rfl ?_
      refine xv_aald (pc := 22) (fr_get fo_108_0 11 rfl) ga_11 gl_11 (q := (12, a1.toNatClampNeg)) rfl rfl h.1 ?_
      replace h := h.2
      refine ex_astore (pc := 23) (fr_get fo_108_0 12 rfl) rfl rfl (L' := [some (.inr (.inr (5, 0))), some (.inl a1), some (.inl a2), some (.inl a3), some (.inl a4), some (.inl a5), some (.inr (.inr (12, a1.toNatClampNeg))), none]) rfl ?_
      refine ex_aload_n (pc := 25) (fr_get fo_108_0 13 rfl) rfl rfl ?_
      refine ex_gr (pc := 26) (fr_get fo_108_0 14 rfl) ow_108 fr_8_48_5 (q := (11, 0)) rfl ?_
      refine ex_iload_n (pc := 29) (fr_get fo_108_0 15 rfl) rfl ?_
      refine xv_aald (pc := 30) (fr_get fo_108_1 0 rfl) ga_11 gl_11 (q := (12, a3.toNatClampNeg)) rfl rfl h.1 ?_
      replace h := h.2
      refine ex_astore (pc := 31) (fr_get fo_108_1 1 rfl) rfl rfl (L' := [some (.inr (.inr (5, 0))), some (.inl a1), some (.inl a2), some (.inl a3), some (.inl a4), some (.inl a5), some (.inr (.inr (12, a1.toNatClampNeg))), some (.inr (.inr (12, a3.toNatClampNeg)))]) rfl ?_
      refine ex_aload (pc := 33) (fr_get fo_108_1 2 rfl) rfl rfl ?_
      refine xv_gi (pc := 35) (fr_get fo_108_1 3 rfl) ow_108 fg_8_254_12 rfl ?_
      refine ex_iconst (pc := 38) (fr_get fo_108_1 4 rfl) ic_m1 ?_
      refine xv_ceq (pc := 39) (fr_get fo_108_1 5 rfl) (t := 51) rfl (fun c => ?_) (fun c => ?_)
      · replace h := h.1 c
        refine ex_bipush (pc := 51) (fr_get fo_108_1 10 rfl) bp_m11 ?_
        exact ex_ireturn (pc := 53) (fr_get fo_108_1 11 rfl) rt_108 rfl rfl (ma_end_mk h)
      · replace h := h.2 c
        refine ex_aload (pc := 42) (fr_get fo_108_1 6 rfl) rfl rfl ?_
        refine xv_gi (pc := 44) (fr_get fo_108_1 7 rfl) ow_108 fg_8_254_12 rfl ?_
        refine ex_iconst (pc := 47) (fr_get fo_108_1 8 rfl) ic_m1 ?_
        refine xv_cne (pc := 48) (fr_get fo_108_1 9 rfl) (t := 54) rfl (fun c => ?_) (fun c => ?_)
        · replace h := h.1 c
          refine ex_aload (pc := 54) (fr_get fo_108_1 12 rfl) rfl rfl ?_
          refine xv_gi (pc := 56) (fr_get fo_108_1 13 rfl) ow_108 fg_8_254_12 rfl ?_
          refine ex_aload (pc := 59) (fr_get fo_108_1 14 rfl) rfl rfl ?_
          refine xv_gi (pc := 61) (fr_get fo_108_1 15 rfl) ow_108 fg_8_254_12 rfl ?_
          refine xv_ceq (pc := 64) (fr_get fo_108_2 0 rfl) (t := 70) rfl (fun c => ?_) (fun c => ?_)
          · replace h := h.1 c
            refine ex_aload (pc := 70) (fr_get fo_108_2 3 rfl) rfl rfl ?_
            refine ex_iload_n (pc := 72) (fr_get fo_108_2 4 rfl) rfl ?_
            refine ex_iload (pc := 73) (fr_get fo_108_2 5 rfl) rfl ?_
            refine xv_kv1 (pc := 75) (fr_get fo_108_2 6 rfl) cc_108_326 (as := [.inr (.inr (12, a1.toNatClampNeg)), .inl a2, .inl a5]) (rs := []) rfl rfl rfl rfl rfl ?_
            refine sm_40 rfl ?_
            refine ⟨_, rfl, ?_⟩
            refine xv_peq (pc := 78) (fr_get fo_108_2 7 rfl) (t := 93) rfl (fun c => ?_) (fun c => ?_)
            · replace h := h.1 c
              refine ex_bipush (pc := 93) (fr_get fo_108_2 13 rfl) bp_m12 ?_
              exact ex_ireturn (pc := 95) (fr_get fo_108_2 14 rfl) rt_108 rfl rfl (ma_end_mk h)
            · replace h := h.2 c
              refine ex_aload (pc := 81) (fr_get fo_108_2 8 rfl) rfl rfl ?_
              refine ex_iload (pc := 83) (fr_get fo_108_2 9 rfl) rfl ?_
              refine ex_iload (pc := 85) (fr_get fo_108_2 10 rfl) rfl ?_
              refine xv_kv1 (pc := 87) (fr_get fo_108_2 11 rfl) cc_108_326 (as := [.inr (.inr (12, a3.toNatClampNeg)), .inl a4, .inl a5]) (rs := []) rfl rfl rfl rfl rfl ?_
              refine sm_40 rfl ?_
              refine ⟨_, rfl, ?_⟩
              refine xv_pne (pc := 90) (fr_get fo_108_2 12 rfl) (t := 96) rfl (fun c => ?_) (fun c => ?_)
              · replace h := h.1 c
                refine ex_aload (pc := 96) (fr_get fo_108_2 15 rfl) rfl rfl ?_
                refine ex_gr (pc := 98) (fr_get fo_108_3 0 rfl) ow_108 fr_8_278_12 (q := (13, a1.toNatClampNeg)) rfl ?_
                refine ex_iload_n (pc := 101) (fr_get fo_108_3 1 rfl) rfl ?_
                refine ex_aload (pc := 102) (fr_get fo_108_3 2 rfl) rfl rfl ?_
                refine ex_gr (pc := 104) (fr_get fo_108_3 3 rfl) ow_108 fr_8_278_12 (q := (13, a3.toNatClampNeg)) rfl ?_
                refine ex_iload (pc := 107) (fr_get fo_108_3 4 rfl) rfl ?_
                refine ex_iload (pc := 109) (fr_get fo_108_3 5 rfl) rfl ?_
                refine xv_acp (pc := 111) (fr_get fo_108_3 6 rfl) ow_108 cm_8_329 gy_13_13 (pn := a2.toNatClampNeg) (qn := a4.toNatClampNeg) (nn := a5.toNatClampNeg) rfl rfl rfl gl_13 gl_13 h.1 ?_
                replace h := h.2
                refine ex_iload (pc := 114) (fr_get fo_108_3 7 rfl) rfl ?_
                exact ex_ireturn (pc := 116) (fr_get fo_108_3 8 rfl) rt_108 rfl rfl (ma_end_mk h)
              · replace h := h.2 c
                refine ex_bipush (pc := 93) (fr_get fo_108_2 13 rfl) bp_m12 ?_
                exact ex_ireturn (pc := 95) (fr_get fo_108_2 14 rfl) rt_108 rfl rfl (ma_end_mk h)
          · replace h := h.2 c
            refine ex_bipush (pc := 67) (fr_get fo_108_2 1 rfl) bp_m13 ?_
            exact ex_ireturn (pc := 69) (fr_get fo_108_2 2 rfl) rt_108 rfl rfl (ma_end_mk h)
        · replace h := h.2 c
          refine ex_bipush (pc := 51) (fr_get fo_108_1 10 rfl) bp_m11 ?_
          exact ex_ireturn (pc := 53) (fr_get fo_108_1 11 rfl) rt_108 rfl rfl (ma_end_mk h)
    · replace h := h.2 c
      refine ex_bipush (pc := 14) (fr_get fo_108_0 6 rfl) bp_m2 ?_
      exact ex_ireturn (pc := 16) (fr_get fo_108_0 7 rfl) rt_108 rfl rfl (ma_end_mk h)

theorem e_109 {d : Nat} {I : ma_I} {o : Nat} {Q : ma_Q} {a1 : Int32} {a2 : Int32} {a3 : Int32} {a4 : Int32}
  (h :
    (¬((0 : Int32) ≤ a1 ∧ a1 ≤ (3 : Int32)) →
      Q (some (.inl (-2 : Int32))) I o) ∧
    ((0 : Int32) ≤ a1 ∧ a1 ≤ (3 : Int32) →
      (¬((0 : Int32) ≤ a2 ∧ a2 ≤ (2 : Int32)) →
        Q (some (.inl (-2 : Int32))) I o) ∧
      ((0 : Int32) ≤ a2 ∧ a2 ≤ (2 : Int32) →
        ((0 : Int32) ≤ a4 ∧ a4 ≤ (8 : Int32) →
          ma_in a1 4 ∧
          (I 12 a1.toNatClampNeg 0 ≠ (-1 : Int32) →
            (I 12 a1.toNatClampNeg 0 = a2 →
              Ex (d + 2) 109 (71, [some (.inr (.inr (5, 0))), some (.inl a1), some (.inl a2), some (.inl a3), some (.inl a4), some (.inr (.inr (12, a1.toNatClampNeg))), some (.inl (0 : Int32)), some (.inl a3), some (.inl (0 : Int32))], [], ma_mem I o, 0, 0) (ma_end Q)) ∧
            (I 12 a1.toNatClampNeg 0 ≠ a2 →
              Q (some (.inl (-13 : Int32))) I o)) ∧
          (I 12 a1.toNatClampNeg 0 = (-1 : Int32) →
            Q (some (.inl (-11 : Int32))) I o)) ∧
        (¬((0 : Int32) ≤ a4 ∧ a4 ≤ (8 : Int32)) →
          Q (some (.inl (-2 : Int32))) I o)))) :
  Exm (d + 2) 109 [.inr (.inr (5, 0)), .inl a1, .inl a2, .inl a3, .inl a4] I o Q := by
  show Ex (d + 2) 109 (0, [some (.inr (.inr (5, 0))), some (.inl a1), some (.inl a2), some (.inl a3), some (.inl a4), none, none, none, none], [], ma_mem I o, 0, 0) (ma_end Q)
  refine ex_iload_n (pc := 0) (fr_get fo_109_0 0 rfl) rfl ?_
  refine xv_ks1 (pc := 1) (fr_get fo_109_0 1 rfl) cc_109_251 (as := [.inl a1]) (rs := []) rfl rfl rfl rfl ?_
  refine sm_115 ?_
  refine ⟨_, rfl, ?_⟩
  refine xv_peq (pc := 4) (fr_get fo_109_0 2 rfl) (t := 27) rfl (fun c => ?_) (fun c => ?_)
  · replace h := h.1 c
    refine ex_bipush (pc := 27) (fr_get fo_109_0 13 rfl) bp_m2 ?_
    exact ex_ireturn (pc := 29) (fr_get fo_109_0 14 rfl) rt_109 rfl rfl (ma_end_mk h)
  · replace h := h.2 c
    refine ex_iload_n (pc := 7) (fr_get fo_109_0 3 rfl) rfl ?_
    refine ex_iconst (pc := 8) (fr_get fo_109_0 4 rfl) ic_0 ?_
    refine ex_iconst (pc := 9) (fr_get fo_109_0 5 rfl) ic_2 ?_
    refine xv_ks1 (pc := 10) (fr_get fo_109_0 6 rfl) cc_109_108 (as := [.inl a2, .inl (0 : Int32), .inl (2 : Int32)]) (rs := []) rfl rfl rfl rfl ?_
    refine sm_112 ?_
    refine ⟨_, rfl, ?_⟩
    refine xv_peq (pc := 13) (fr_get fo_109_0 7 rfl) (t := 27) rfl (fun c => ?_) (fun c => ?_)
    · replace h := h.1 c
      refine ex_bipush (pc := 27) (fr_get fo_109_0 13 rfl) bp_m2 ?_
      exact ex_ireturn (pc := 29) (fr_get fo_109_0 14 rfl) rt_109 rfl rfl (ma_end_mk h)
    · replace h := h.2 c
      refine ex_iload (pc := 16) (fr_get fo_109_0 8 rfl) rfl ?_
      refine ex_iconst (pc := 18) (fr_get fo_109_0 9 rfl) ic_0 ?_
      refine ex_bipush (pc := 19) (fr_get fo_109_0 10 rfl) bp_8 ?_
      refine xv_ks1 (pc := 21) (fr_get fo_109_0 11 rfl) cc_109_108 (as := [.inl a4, .inl (0 : Int32), .inl (8 : Int32)]) (rs := []) rfl rfl rfl rfl ?_
      refine sm_112 ?_
      refine ⟨_, rfl, ?_⟩
      refine xv_pne (pc := 24) (fr_get fo_109_0 12 rfl) (t := 30) rfl (fun c => ?_) (fun c => ?_)
      · replace h := h.1 c
        refine ex_aload_n (pc := 30) (fr_get fo_109_0 15 rfl) rfl rfl ?_
        refine ex_gr (pc := 31) (fr_get fo_109_1 0 rfl) ow_109 fr_8_48_5 (q := (11, 0)) rfl ?_
        refine ex_iload_n (pc := 34) (fr_get fo_109_1 1 rfl) rfl ?_
        refine xv_aald (pc := 35) (fr_get fo_109_1 2 rfl) ga_11 gl_11 (q := (12, a1.toNatClampNeg)) rfl rfl h.1 ?_
        replace h := h.2
        refine ex_astore (pc := 36) (fr_get fo_109_1 3 rfl) rfl rfl (L' := [some (.inr (.inr (5, 0))), some (.inl a1), some (.inl a2), some (.inl a3), some (.inl a4), some (.inr (.inr (12, a1.toNatClampNeg))), none, none, none]) rfl ?_
        refine ex_aload (pc := 38) (fr_get fo_109_1 4 rfl) rfl rfl ?_
        refine xv_gi (pc := 40) (fr_get fo_109_1 5 rfl) ow_109 fg_8_254_12 rfl ?_
        refine ex_iconst (pc := 43) (fr_get fo_109_1 6 rfl) ic_m1 ?_
        refine xv_cne (pc := 44) (fr_get fo_109_1 7 rfl) (t := 50) rfl (fun c => ?_) (fun c => ?_)
        · replace h := h.1 c
          refine ex_aload (pc := 50) (fr_get fo_109_1 10 rfl) rfl rfl ?_
          refine xv_gi (pc := 52) (fr_get fo_109_1 11 rfl) ow_109 fg_8_254_12 rfl ?_
          refine ex_iload_n (pc := 55) (fr_get fo_109_1 12 rfl) rfl ?_
          refine xv_ceq (pc := 56) (fr_get fo_109_1 13 rfl) (t := 62) rfl (fun c => ?_) (fun c => ?_)
          · replace h := h.1 c
            refine ex_iconst (pc := 62) (fr_get fo_109_2 0 rfl) ic_0 ?_
            refine ex_istore (pc := 63) (fr_get fo_109_2 1 rfl) rfl (L' := [some (.inr (.inr (5, 0))), some (.inl a1), some (.inl a2), some (.inl a3), some (.inl a4), some (.inr (.inr (12, a1.toNatClampNeg))), some (.inl (0 : Int32)), none, none]) rfl ?_
            refine ex_iload_n (pc := 65) (fr_get fo_109_2 2 rfl) rfl ?_
            refine ex_istore (pc := 66) (fr_get fo_109_2 3 rfl) rfl (L' := [some (.inr (.inr (5, 0))), some (.inl a1), some (.inl a2), some (.inl a3), some (.inl a4), some (.inr (.inr (12, a1.toNatClampNeg))), some (.inl (0 : Int32)), some (.inl a3), none]) rfl ?_
            refine ex_iconst (pc := 68) (fr_get fo_109_2 4 rfl) ic_0 ?_
            refine ex_istore (pc := 69) (fr_get fo_109_2 5 rfl) rfl (L' := [some (.inr (.inr (5, 0))), some (.inl a1), some (.inl a2), some (.inl a3), some (.inl a4), some (.inr (.inr (12, a1.toNatClampNeg))), some (.inl (0 : Int32)), some (.inl a3), some (.inl (0 : Int32))]) rfl ?_
            exact h
          · replace h := h.2 c
            refine ex_bipush (pc := 59) (fr_get fo_109_1 14 rfl) bp_m13 ?_
            exact ex_ireturn (pc := 61) (fr_get fo_109_1 15 rfl) rt_109 rfl rfl (ma_end_mk h)
        · replace h := h.2 c
          refine ex_bipush (pc := 47) (fr_get fo_109_1 8 rfl) bp_m11 ?_
          exact ex_ireturn (pc := 49) (fr_get fo_109_1 9 rfl) rt_109 rfl rfl (ma_end_mk h)
      · replace h := h.2 c
        refine ex_bipush (pc := 27) (fr_get fo_109_0 13 rfl) bp_m2 ?_
        exact ex_ireturn (pc := 29) (fr_get fo_109_0 14 rfl) rt_109 rfl rfl (ma_end_mk h)

theorem b_109_71 {d : Nat} {I : ma_I} {o : Nat} {Q : ma_Q} {v1 : Int32} {v2 : Int32} {v3 : Int32} {v4 : Int32} {q5 : Nat} {v6 : Int32} {v7 : Int32} {v8 : Int32}
  (h :
    (v4 ≤ v8 →
      Q (some (.inl v6)) I o) ∧
    (v8 < v4 →
      (xv_ho (I 12 q5 1) v7 (3 : Int32) →
        ma_in v7 40 ∧
        ma_in (v7 + (1 : Int32)) 40 ∧
        ma_in (v7 + (2 : Int32)) 40 ∧
        Exm (d + 1) 66 [.inr (.inr (5, 0)), .inl (I 13 q5 v7.toNatClampNeg), .inl (I 13 q5 ((v7 + (1 : Int32)).toNatClampNeg)), .inl (I 13 q5 ((v7 + (2 : Int32)).toNatClampNeg))] I o (fun r J1 p2 => ∃ x3 : Int32, r = some (.inl x3) ∧
          (x3 < 0 →
            Ex (d + 2) 109 (71, [some (.inr (.inr (5, 0))), some (.inl v1), some (.inl v2), some (.inl v3), some (.inl v4), some (.inr (.inr (12, q5))), some (.inl v6), some (.inl (v7 + (3 : Int32))), some (.inl (v8 + (1 : Int32)))], [], ma_mem J1 p2, 0, 0) (ma_end Q)) ∧
          (0 ≤ x3 →
            Ex (d + 2) 109 (71, [some (.inr (.inr (5, 0))), some (.inl v1), some (.inl v2), some (.inl v3), some (.inl v4), some (.inr (.inr (12, q5))), some (.inl (v6 + (1 : Int32))), some (.inl (v7 + (3 : Int32))), some (.inl (v8 + (1 : Int32)))], [], ma_mem J1 p2, 0, 0) (ma_end Q)))) ∧
      (¬(xv_ho (I 12 q5 1) v7 (3 : Int32)) →
        Q (some (.inl (-12 : Int32))) I o))) :
  Ex (d + 2) 109 (71, [some (.inr (.inr (5, 0))), some (.inl v1), some (.inl v2), some (.inl v3), some (.inl v4), some (.inr (.inr (12, q5))), some (.inl v6), some (.inl v7), some (.inl v8)], [], ma_mem I o, 0, 0) (ma_end Q) := by
  refine ex_iload (pc := 71) (fr_get fo_109_2 6 rfl) rfl ?_
  refine ex_iload (pc := 73) (fr_get fo_109_2 7 rfl) rfl ?_
  refine xv_cge (pc := 75) (fr_get fo_109_2 8 rfl) (t := 139) rfl (fun c => ?_) (fun c => ?_)
  · replace h := h.1 c
    refine ex_iload (pc := 139) (fr_get fo_109_4 7 rfl) rfl ?_
    exact ex_ireturn (pc := 141) (fr_get fo_109_4 8 rfl) rt_109 rfl rfl (ma_end_mk h)
  · replace h := h.2 c
    refine ex_aload (pc := 78) (fr_get fo_109_2 9 rfl) rfl rfl ?_
    refine ex_iload (pc := 80) (fr_get fo_109_2 10 rfl) rfl ?_
    refine ex_iconst (pc := 82) (fr_get fo_109_2 11 rfl) ic_3 ?_
    refine xv_kv1 (pc := 83) (fr_get fo_109_2 12 rfl) cc_109_326 (as := [.inr (.inr (12, q5)), .inl v7, .inl (3 : Int32)]) (rs := []) rfl rfl rfl rfl rfl ?_
    refine sm_40 rfl ?_
    refine ⟨_, rfl, ?_⟩
    refine xv_pne (pc := 86) (fr_get fo_109_2 13 rfl) (t := 92) rfl (fun c => ?_) (fun c => ?_)
    · replace h := h.1 c
      refine ex_aload_n (pc := 92) (fr_get fo_109_3 0 rfl) rfl rfl ?_
      refine ex_aload (pc := 93) (fr_get fo_109_3 1 rfl) rfl rfl ?_
      refine ex_gr (pc := 95) (fr_get fo_109_3 2 rfl) ow_109 fr_8_278_12 (q := (13, q5)) rfl ?_
      refine ex_iload (pc := 98) (fr_get fo_109_3 3 rfl) rfl ?_
      refine xv_iald (pc := 100) (fr_get fo_109_3 4 rfl) gk_13 (n := 40) (gn_13 ..) rfl rfl h.1 ?_
      replace h := h.2
      refine ex_aload (pc := 101) (fr_get fo_109_3 5 rfl) rfl rfl ?_
      refine ex_gr (pc := 103) (fr_get fo_109_3 6 rfl) ow_109 fr_8_278_12 (q := (13, q5)) rfl ?_
      refine ex_iload (pc := 106) (fr_get fo_109_3 7 rfl) rfl ?_
      refine ex_iconst (pc := 108) (fr_get fo_109_3 8 rfl) ic_1 ?_
      refine ex_iadd (pc := 109) (fr_get fo_109_3 9 rfl) ?_
      refine xv_iald (pc := 110) (fr_get fo_109_3 10 rfl) gk_13 (n := 40) (gn_13 ..) rfl rfl h.1 ?_
      replace h := h.2
      refine ex_aload (pc := 111) (fr_get fo_109_3 11 rfl) rfl rfl ?_
      refine ex_gr (pc := 113) (fr_get fo_109_3 12 rfl) ow_109 fr_8_278_12 (q := (13, q5)) rfl ?_
      refine ex_iload (pc := 116) (fr_get fo_109_3 13 rfl) rfl ?_
      refine ex_iconst (pc := 118) (fr_get fo_109_3 14 rfl) ic_2 ?_
      refine ex_iadd (pc := 119) (fr_get fo_109_3 15 rfl) ?_
      refine xv_iald (pc := 120) (fr_get fo_109_4 0 rfl) gk_13 (n := 40) (gn_13 ..) rfl rfl h.1 ?_
      replace h := h.2
      refine xv_kv1 (pc := 121) (fr_get fo_109_4 1 rfl) cc_109_104 (as := [.inr (.inr (5, 0)), .inl (I 13 q5 v7.toNatClampNeg), .inl (I 13 q5 ((v7 + (1 : Int32)).toNatClampNeg)), .inl (I 13 q5 ((v7 + (2 : Int32)).toNatClampNeg))]) (rs := []) rfl rfl rfl rfl rfl ?_
      refine h.mono (fun r J1 p2 h => ?_)
      obtain ⟨x3, hr, h⟩ := h
      refine ⟨x3, hr, ?_⟩
      refine xv_blt (pc := 124) (fr_get fo_109_4 2 rfl) (t := 130) rfl (fun c => ?_) (fun c => ?_)
      · replace h := h.1 c
        refine xv_iinc (pc := 130) (fr_get fo_109_4 4 rfl) rfl ic_3 (L' := [some (.inr (.inr (5, 0))), some (.inl v1), some (.inl v2), some (.inl v3), some (.inl v4), some (.inr (.inr (12, q5))), some (.inl v6), some (.inl (v7 + (3 : Int32))), some (.inl v8)]) rfl ?_
        refine xv_iinc (pc := 133) (fr_get fo_109_4 5 rfl) rfl ic_1 (L' := [some (.inr (.inr (5, 0))), some (.inl v1), some (.inl v2), some (.inl v3), some (.inl v4), some (.inr (.inr (12, q5))), some (.inl v6), some (.inl (v7 + (3 : Int32))), some (.inl (v8 + (1 : Int32)))]) rfl ?_
        refine ex_goto (pc := 136) (fr_get fo_109_4 6 rfl) (t := 71) rfl ?_
        exact h
      · replace h := h.2 c
        refine xv_iinc (pc := 127) (fr_get fo_109_4 3 rfl) rfl ic_1 (L' := [some (.inr (.inr (5, 0))), some (.inl v1), some (.inl v2), some (.inl v3), some (.inl v4), some (.inr (.inr (12, q5))), some (.inl (v6 + (1 : Int32))), some (.inl v7), some (.inl v8)]) rfl ?_
        refine xv_iinc (pc := 130) (fr_get fo_109_4 4 rfl) rfl ic_3 (L' := [some (.inr (.inr (5, 0))), some (.inl v1), some (.inl v2), some (.inl v3), some (.inl v4), some (.inr (.inr (12, q5))), some (.inl (v6 + (1 : Int32))), some (.inl (v7 + (3 : Int32))), some (.inl v8)]) rfl ?_
        refine xv_iinc (pc := 133) (fr_get fo_109_4 5 rfl) rfl ic_1 (L' := [some (.inr (.inr (5, 0))), some (.inl v1), some (.inl v2), some (.inl v3), some (.inl v4), some (.inr (.inr (12, q5))), some (.inl (v6 + (1 : Int32))), some (.inl (v7 + (3 : Int32))), some (.inl (v8 + (1 : Int32)))]) rfl ?_
        refine ex_goto (pc := 136) (fr_get fo_109_4 6 rfl) (t := 71) rfl ?_
        exact h
    · replace h := h.2 c
      refine ex_bipush (pc := 89) (fr_get fo_109_2 14 rfl) bp_m12 ?_
      exact ex_ireturn (pc := 91) (fr_get fo_109_2 15 rfl) rt_109 rfl rfl (ma_end_mk h)

theorem e_110 {d : Nat} {I : ma_I} {o : Nat} {Q : ma_Q} {a1 : Int32} {a2 : Int32}
  (h :
    ((0 : Int32) ≤ a2 ∧ a2 ≤ (5 : Int32) →
      ((0 : Int32) ≤ a1 ∧ a1 ≤ ((I 6 0 4) - 1) →
        ma_in a1 8 ∧
        (¬(xv_un (I 17 a1.toNatClampNeg 0) a2) →
          Q (some (.inl (-13 : Int32))) I o) ∧
        (xv_un (I 17 a1.toNatClampNeg 0) a2 →
          ma_in a1 8 ∧
          Q (some (.inl (I 17 a1.toNatClampNeg 1))) I o)) ∧
      (¬((0 : Int32) ≤ a1 ∧ a1 ≤ ((I 6 0 4) - 1)) →
        Q (some (.inl (-11 : Int32))) I o)) ∧
    (¬((0 : Int32) ≤ a2 ∧ a2 ≤ (5 : Int32)) →
      Q (some (.inl (-2 : Int32))) I o)) :
  Exm (d + 2) 110 [.inr (.inr (5, 0)), .inl a1, .inl a2] I o Q := by
  show Ex (d + 2) 110 (0, [some (.inr (.inr (5, 0))), some (.inl a1), some (.inl a2)], [], ma_mem I o, 0, 0) (ma_end Q)
  refine ex_iload_n (pc := 0) (fr_get fo_110_0 0 rfl) rfl ?_
  refine ex_iconst (pc := 1) (fr_get fo_110_0 1 rfl) ic_0 ?_
  refine ex_iconst (pc := 2) (fr_get fo_110_0 2 rfl) ic_5 ?_
  refine xv_ks1 (pc := 3) (fr_get fo_110_0 3 rfl) cc_110_108 (as := [.inl a2, .inl (0 : Int32), .inl (5 : Int32)]) (rs := []) rfl rfl rfl rfl ?_
  refine sm_112 ?_
  refine ⟨_, rfl, ?_⟩
  refine xv_pne (pc := 6) (fr_get fo_110_0 4 rfl) (t := 12) rfl (fun c => ?_) (fun c => ?_)
  · replace h := h.1 c
    refine ex_aload_n (pc := 12) (fr_get fo_110_0 7 rfl) rfl rfl ?_
    refine ex_iload_n (pc := 13) (fr_get fo_110_0 8 rfl) rfl ?_
    refine xv_kv1 (pc := 14) (fr_get fo_110_0 9 rfl) cc_110_135 (as := [.inr (.inr (5, 0)), .inl a1]) (rs := []) rfl rfl rfl rfl rfl ?_
    refine sm_116 rfl ?_
    refine ⟨_, rfl, ?_⟩
    refine xv_pne (pc := 17) (fr_get fo_110_0 10 rfl) (t := 23) rfl (fun c => ?_) (fun c => ?_)
    · replace h := h.1 c
      refine ex_aload_n (pc := 23) (fr_get fo_110_0 13 rfl) rfl rfl ?_
      refine ex_gr (pc := 24) (fr_get fo_110_0 14 rfl) ow_110 fr_8_12_5 (q := (6, 0)) rfl ?_
      refine ex_gr (pc := 27) (fr_get fo_110_0 15 rfl) ow_110 fr_8_115_6 (q := (16, 0)) rfl ?_
      refine ex_iload_n (pc := 30) (fr_get fo_110_1 0 rfl) rfl ?_
      refine xv_aald (pc := 31) (fr_get fo_110_1 1 rfl) ga_16 gl_16 (q := (17, a1.toNatClampNeg)) rfl rfl h.1 ?_
      replace h := h.2
      refine xv_gi (pc := 32) (fr_get fo_110_1 2 rfl) ow_110 fg_8_292_17 rfl ?_
      refine ex_iload_n (pc := 35) (fr_get fo_110_1 3 rfl) rfl ?_
      refine xv_ks1 (pc := 36) (fr_get fo_110_1 4 rfl) cc_110_335 (as := [.inl (I 17 a1.toNatClampNeg 0), .inl a2]) (rs := []) rfl rfl rfl rfl ?_
      refine sm_111 ?_
      refine ⟨_, rfl, ?_⟩
      refine xv_peq (pc := 39) (fr_get fo_110_1 5 rfl) (t := 57) rfl (fun c => ?_) (fun c => ?_)
      · replace h := h.1 c
        refine ex_bipush (pc := 57) (fr_get fo_110_1 13 rfl) bp_m13 ?_
        exact ex_ireturn (pc := 59) (fr_get fo_110_1 14 rfl) rt_110 rfl rfl (ma_end_mk h)
      · replace h := h.2 c
        refine ex_aload_n (pc := 42) (fr_get fo_110_1 6 rfl) rfl rfl ?_
        refine ex_gr (pc := 43) (fr_get fo_110_1 7 rfl) ow_110 fr_8_12_5 (q := (6, 0)) rfl ?_
        refine ex_gr (pc := 46) (fr_get fo_110_1 8 rfl) ow_110 fr_8_115_6 (q := (16, 0)) rfl ?_
        refine ex_iload_n (pc := 49) (fr_get fo_110_1 9 rfl) rfl ?_
        refine xv_aald (pc := 50) (fr_get fo_110_1 10 rfl) ga_16 gl_16 (q := (17, a1.toNatClampNeg)) rfl rfl h.1 ?_
        replace h := h.2
        refine xv_gi (pc := 51) (fr_get fo_110_1 11 rfl) ow_110 fg_8_338_17 rfl ?_
        refine ex_goto (pc := 54) (fr_get fo_110_1 12 rfl) (t := 59) rfl ?_
        exact ex_ireturn (pc := 59) (fr_get fo_110_1 14 rfl) rt_110 rfl rfl (ma_end_mk h)
    · replace h := h.2 c
      refine ex_bipush (pc := 20) (fr_get fo_110_0 11 rfl) bp_m11 ?_
      exact ex_ireturn (pc := 22) (fr_get fo_110_0 12 rfl) rt_110 rfl rfl (ma_end_mk h)
  · replace h := h.2 c
    refine ex_bipush (pc := 9) (fr_get fo_110_0 5 rfl) bp_m2 ?_
    exact ex_ireturn (pc := 11) (fr_get fo_110_0 6 rfl) rt_110 rfl rfl (ma_end_mk h)

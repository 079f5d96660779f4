/-! ===== stretches of small methods ===== -/
theorem e_15 {d : Nat} {I : ma_I} {o : Nat} {Q : ma_Q} 
  (h :
    Q (some (.inl (((1 : Int32) <<< ((I 6 0 4) &&& 31)) - (1 : Int32)))) I o) :
  Exm (d) 15 [.inr (.inr (6, 0))] I o Q := by
  show Ex (d) 15 (0, [some (.inr (.inr (6, 0)))], [], ma_mem I o, 0, 0) (ma_end Q)
  refine ex_iconst (pc := 0) (fr_get fo_15_0 0 rfl) ic_1 ?_
  refine ex_aload_n (pc := 1) (fr_get fo_15_0 1 rfl) rfl rfl ?_
  refine xv_gi (pc := 2) (fr_get fo_15_0 2 rfl) ow_15 fg_2_51_6 rfl ?_
  refine ex_ishl (pc := 5) (fr_get fo_15_0 3 rfl) ?_
  refine ex_iconst (pc := 6) (fr_get fo_15_0 4 rfl) ic_1 ?_
  refine ex_isub (pc := 7) (fr_get fo_15_0 5 rfl) ?_
  exact ex_ireturn (pc := 8) (fr_get fo_15_0 6 rfl) rt_15 rfl rfl (ma_end_mk h)

theorem e_24 {d : Nat} {I : ma_I} {o : Nat} {Q : ma_Q} {a1 : Int32} {a2 : Int32} {a3 : Int32} {a4 : Int32} {a5 : Int32} {a6 : Int32}
  (h :
    Q none (ma_up (ma_up (ma_up (ma_up (ma_up (ma_up I 26 0 0 a1) 26 0 1 a2) 26 0 2 a3) 26 0 3 a4) 26 0 4 a5) 26 0 5 a6) o) :
  Exm (d) 24 [.inr (.inr (6, 0)), .inl a1, .inl a2, .inl a3, .inl a4, .inl a5, .inl a6] I o Q := by
  show Ex (d) 24 (0, [some (.inr (.inr (6, 0))), some (.inl a1), some (.inl a2), some (.inl a3), some (.inl a4), some (.inl a5), some (.inl a6)], [], ma_mem I o, 0, 0) (ma_end Q)
  refine ex_aload_n (pc := 0) (fr_get fo_24_0 0 rfl) rfl rfl ?_
  refine ex_gr (pc := 1) (fr_get fo_24_0 1 rfl) ow_24 fr_2_43_6 (q := (26, 0)) rfl ?_
  refine ex_iconst (pc := 4) (fr_get fo_24_0 2 rfl) ic_0 ?_
  refine ex_iload_n (pc := 5) (fr_get fo_24_0 3 rfl) rfl ?_
  refine xv_iast (pc := 6) (fr_get fo_24_0 4 rfl) gs_26 gl_26 cl_0 mi_0_6 ?_
  refine ex_aload_n (pc := 7) (fr_get fo_24_0 5 rfl) rfl rfl ?_
  refine ex_gr (pc := 8) (fr_get fo_24_0 6 rfl) ow_24 fr_2_43_6 (q := (26, 0)) rfl ?_
  refine ex_iconst (pc := 11) (fr_get fo_24_0 7 rfl) ic_1 ?_
  refine ex_iload_n (pc := 12) (fr_get fo_24_0 8 rfl) rfl ?_
  refine xv_iast (pc := 13) (fr_get fo_24_0 9 rfl) gs_26 gl_26 cl_1 mi_1_6 ?_
  refine ex_aload_n (pc := 14) (fr_get fo_24_0 10 rfl) rfl rfl ?_
  refine ex_gr (pc := 15) (fr_get fo_24_0 11 rfl) ow_24 fr_2_43_6 (q := (26, 0)) rfl ?_
  refine ex_iconst (pc := 18) (fr_get fo_24_0 12 rfl) ic_2 ?_
  refine ex_iload_n (pc := 19) (fr_get fo_24_0 13 rfl) rfl ?_
  refine xv_iast (pc := 20) (fr_get fo_24_0 14 rfl) gs_26 gl_26 cl_2 mi_2_6 ?_
  refine ex_aload_n (pc := 21) (fr_get fo_24_0 15 rfl) rfl rfl ?_
  refine ex_gr (pc := 22) (fr_get fo_24_1 0 rfl) ow_24 fr_2_43_6 (q := (26, 0)) rfl ?_
  refine ex_iconst (pc := 25) (fr_get fo_24_1 1 rfl) ic_3 ?_
  refine ex_iload (pc := 26) (fr_get fo_24_1 2 rfl) rfl ?_
  refine xv_iast (pc := 28) (fr_get fo_24_1 3 rfl) gs_26 gl_26 cl_3 mi_3_6 ?_
  refine ex_aload_n (pc := 29) (fr_get fo_24_1 4 rfl) rfl rfl ?_
  refine ex_gr (pc := 30) (fr_get fo_24_1 5 rfl) ow_24 fr_2_43_6 (q := (26, 0)) rfl ?_
  refine ex_iconst (pc := 33) (fr_get fo_24_1 6 rfl) ic_4 ?_
  refine ex_iload (pc := 34) (fr_get fo_24_1 7 rfl) rfl ?_
  refine xv_iast (pc := 36) (fr_get fo_24_1 8 rfl) gs_26 gl_26 cl_4 mi_4_6 ?_
  refine ex_aload_n (pc := 37) (fr_get fo_24_1 9 rfl) rfl rfl ?_
  refine ex_gr (pc := 38) (fr_get fo_24_1 10 rfl) ow_24 fr_2_43_6 (q := (26, 0)) rfl ?_
  refine ex_iconst (pc := 41) (fr_get fo_24_1 11 rfl) ic_5 ?_
  refine ex_iload (pc := 42) (fr_get fo_24_1 12 rfl) rfl ?_
  refine xv_iast (pc := 44) (fr_get fo_24_1 13 rfl) gs_26 gl_26 cl_5 mi_5_6 ?_
  exact ex_return (pc := 45) (fr_get fo_24_1 14 rfl) rt_24 rfl rfl (ma_end_mk h)

theorem e_25 {d : Nat} {I : ma_I} {o : Nat} {Q : ma_Q} {a0 : Int32} {a1 : Int32} {a2 : Int32}
  (h :
    (a1 ≤ a0 →
      (a0 ≤ a2 →
        Q (some (.inl a0)) I o) ∧
      (a2 < a0 →
        Q (some (.inl a2)) I o)) ∧
    (a0 < a1 →
      Q (some (.inl a1)) I o)) :
  Exm (d) 25 [.inl a0, .inl a1, .inl a2] I o Q := by
  show Ex (d) 25 (0, [some (.inl a0), some (.inl a1), some (.inl a2)], [], ma_mem I o, 0, 0) (ma_end Q)
  refine ex_iload_n (pc := 0) (fr_get fo_25_0 0 rfl) rfl ?_
  refine ex_iload_n (pc := 1) (fr_get fo_25_0 1 rfl) rfl ?_
  refine xv_cge (pc := 2) (fr_get fo_25_0 2 rfl) (t := 9) rfl (fun c => ?_) (fun c => ?_)
  · replace h := h.1 c
    refine ex_iload_n (pc := 9) (fr_get fo_25_0 5 rfl) rfl ?_
    refine ex_iload_n (pc := 10) (fr_get fo_25_0 6 rfl) rfl ?_
    refine xv_cle (pc := 11) (fr_get fo_25_0 7 rfl) (t := 18) rfl (fun c => ?_) (fun c => ?_)
    · replace h := h.1 c
      refine ex_iload_n (pc := 18) (fr_get fo_25_0 10 rfl) rfl ?_
      exact ex_ireturn (pc := 19) (fr_get fo_25_0 11 rfl) rt_25 rfl rfl (ma_end_mk h)
    · replace h := h.2 c
      refine ex_iload_n (pc := 14) (fr_get fo_25_0 8 rfl) rfl ?_
      refine ex_goto (pc := 15) (fr_get fo_25_0 9 rfl) (t := 19) rfl ?_
      exact ex_ireturn (pc := 19) (fr_get fo_25_0 11 rfl) rt_25 rfl rfl (ma_end_mk h)
  · replace h := h.2 c
    refine ex_iload_n (pc := 5) (fr_get fo_25_0 3 rfl) rfl ?_
    refine ex_goto (pc := 6) (fr_get fo_25_0 4 rfl) (t := 19) rfl ?_
    exact ex_ireturn (pc := 19) (fr_get fo_25_0 11 rfl) rt_25 rfl rfl (ma_end_mk h)

theorem e_40 {d : Nat} {I : ma_I} {o : Nat} {Q : ma_Q} {q0 : Nat} {a1 : Int32} {a2 : Int32}
  (h :
    (a1 < 0 →
      Q (some (.inl (0 : Int32))) I o) ∧
    (0 ≤ a1 →
      (a2 < 0 →
        Q (some (.inl (0 : Int32))) I o) ∧
      (0 ≤ a2 →
        (I 12 q0 1 < a1 →
          Q (some (.inl (0 : Int32))) I o) ∧
        (a1 ≤ I 12 q0 1 →
          ((I 12 q0 1) - a1 < a2 →
            Q (some (.inl (0 : Int32))) I o) ∧
          (a2 ≤ (I 12 q0 1) - a1 →
            Q (some (.inl (1 : Int32))) I o))))) :
  Exm (d) 40 [.inr (.inr (12, q0)), .inl a1, .inl a2] I o Q := by
  show Ex (d) 40 (0, [some (.inr (.inr (12, q0))), some (.inl a1), some (.inl a2)], [], ma_mem I o, 0, 0) (ma_end Q)
  refine ex_iload_n (pc := 0) (fr_get fo_40_0 0 rfl) rfl ?_
  refine xv_blt (pc := 1) (fr_get fo_40_0 1 rfl) (t := 30) rfl (fun c => ?_) (fun c => ?_)
  · replace h := h.1 c
    refine ex_iconst (pc := 30) (fr_get fo_40_1 0 rfl) ic_0 ?_
    exact ex_zreturn (pc := 31) (fr_get fo_40_1 1 rfl) rt_40 rfl rfl ⟨Or.inl rfl, ma_end_mk h⟩
  · replace h := h.2 c
    refine ex_iload_n (pc := 4) (fr_get fo_40_0 2 rfl) rfl ?_
    refine xv_blt (pc := 5) (fr_get fo_40_0 3 rfl) (t := 30) rfl (fun c => ?_) (fun c => ?_)
    · replace h := h.1 c
      refine ex_iconst (pc := 30) (fr_get fo_40_1 0 rfl) ic_0 ?_
      exact ex_zreturn (pc := 31) (fr_get fo_40_1 1 rfl) rt_40 rfl rfl ⟨Or.inl rfl, ma_end_mk h⟩
    · replace h := h.2 c
      refine ex_iload_n (pc := 8) (fr_get fo_40_0 4 rfl) rfl ?_
      refine ex_aload_n (pc := 9) (fr_get fo_40_0 5 rfl) rfl rfl ?_
      refine xv_gi (pc := 10) (fr_get fo_40_0 6 rfl) ow_40 fg_4_19_12 rfl ?_
      refine xv_cgt (pc := 13) (fr_get fo_40_0 7 rfl) (t := 30) rfl (fun c => ?_) (fun c => ?_)
      · replace h := h.1 c
        refine ex_iconst (pc := 30) (fr_get fo_40_1 0 rfl) ic_0 ?_
        exact ex_zreturn (pc := 31) (fr_get fo_40_1 1 rfl) rt_40 rfl rfl ⟨Or.inl rfl, ma_end_mk h⟩
      · replace h := h.2 c
        refine ex_iload_n (pc := 16) (fr_get fo_40_0 8 rfl) rfl ?_
        refine ex_aload_n (pc := 17) (fr_get fo_40_0 9 rfl) rfl rfl ?_
        refine xv_gi (pc := 18) (fr_get fo_40_0 10 rfl) ow_40 fg_4_19_12 rfl ?_
        refine ex_iload_n (pc := 21) (fr_get fo_40_0 11 rfl) rfl ?_
        refine ex_isub (pc := 22) (fr_get fo_40_0 12 rfl) ?_
        refine xv_cgt (pc := 23) (fr_get fo_40_0 13 rfl) (t := 30) rfl (fun c => ?_) (fun c => ?_)
        · replace h := h.1 c
          refine ex_iconst (pc := 30) (fr_get fo_40_1 0 rfl) ic_0 ?_
          exact ex_zreturn (pc := 31) (fr_get fo_40_1 1 rfl) rt_40 rfl rfl ⟨Or.inl rfl, ma_end_mk h⟩
        · replace h := h.2 c
          refine ex_iconst (pc := 26) (fr_get fo_40_0 14 rfl) ic_1 ?_
          refine ex_goto (pc := 27) (fr_get fo_40_0 15 rfl) (t := 31) rfl ?_
          exact ex_zreturn (pc := 31) (fr_get fo_40_1 1 rfl) rt_40 rfl rfl ⟨Or.inr rfl, ma_end_mk h⟩

theorem e_49 {d : Nat} {I : ma_I} {o : Nat} {Q : ma_Q} {a0 : Int32}
  (h :
    (a0 = (40 : Int32) →
      Q (some (.inl (1 : Int32))) I o) ∧
    (a0 ≠ (40 : Int32) →
      (a0 = (41 : Int32) →
        Q (some (.inl (1 : Int32))) I o) ∧
      (a0 ≠ (41 : Int32) →
        (a0 = (42 : Int32) →
          Q (some (.inl (1 : Int32))) I o) ∧
        (a0 ≠ (42 : Int32) →
          (a0 = (43 : Int32) →
            Q (some (.inl (1 : Int32))) I o) ∧
          (a0 ≠ (43 : Int32) →
            (a0 = (44 : Int32) →
              Q (some (.inl (0 : Int32))) I o) ∧
            (a0 ≠ (44 : Int32) →
              (a0 = (45 : Int32) →
                Q (some (.inl (1 : Int32))) I o) ∧
              (a0 ≠ (45 : Int32) →
                (a0 = (46 : Int32) →
                  Q (some (.inl (0 : Int32))) I o) ∧
                (a0 ≠ (46 : Int32) →
                  (a0 = (47 : Int32) →
                    Q (some (.inl (0 : Int32))) I o) ∧
                  (a0 ≠ (47 : Int32) →
                    (a0 = (48 : Int32) →
                      Q (some (.inl (0 : Int32))) I o) ∧
                    (a0 ≠ (48 : Int32) →
                      (a0 = (49 : Int32) →
                        Q (some (.inl (0 : Int32))) I o) ∧
                      (a0 ≠ (49 : Int32) →
                        (a0 = (50 : Int32) →
                          Q (some (.inl (0 : Int32))) I o) ∧
                        (a0 ≠ (50 : Int32) →
                          (a0 = (51 : Int32) →
                            Q (some (.inl (0 : Int32))) I o) ∧
                          (a0 ≠ (51 : Int32) →
                            (a0 = (52 : Int32) →
                              Q (some (.inl (0 : Int32))) I o) ∧
                            (a0 ≠ (52 : Int32) →
                              (a0 = (53 : Int32) →
                                Q (some (.inl (0 : Int32))) I o) ∧
                              (a0 ≠ (53 : Int32) →
                                (a0 = (54 : Int32) →
                                  Q (some (.inl (0 : Int32))) I o) ∧
                                (a0 ≠ (54 : Int32) →
                                  (a0 = (55 : Int32) →
                                    Q (some (.inl (0 : Int32))) I o) ∧
                                  (a0 ≠ (55 : Int32) →
                                    (a0 = (56 : Int32) →
                                      Q (some (.inl (0 : Int32))) I o) ∧
                                    (a0 ≠ (56 : Int32) →
                                      (a0 = (57 : Int32) →
                                        Q (some (.inl (0 : Int32))) I o) ∧
                                      (a0 ≠ (57 : Int32) →
                                        (a0 = (58 : Int32) →
                                          Q (some (.inl (0 : Int32))) I o) ∧
                                        (a0 ≠ (58 : Int32) →
                                          (a0 = (59 : Int32) →
                                            Q (some (.inl (1 : Int32))) I o) ∧
                                          (a0 ≠ (59 : Int32) →
                                            (a0 = (60 : Int32) →
                                              Q (some (.inl (1 : Int32))) I o) ∧
                                            (a0 ≠ (60 : Int32) →
                                              (a0 = (61 : Int32) →
                                                Q (some (.inl (1 : Int32))) I o) ∧
                                              (a0 ≠ (61 : Int32) →
                                                Q (some (.inl (0 : Int32))) I o))))))))))))))))))))))) :
  Exm (d) 49 [.inl a0] I o Q := by
  show Ex (d) 49 (0, [some (.inl a0)], [], ma_mem I o, 0, 0) (ma_end Q)
  refine ex_iload_n (pc := 0) (fr_get fo_49_0 0 rfl) rfl ?_
  refine xv_ts (pc := 1) (fr_get fo_49_0 1 rfl) (l := [103, 103, 103, 103, 105, 103, 105, 105, 105, 105, 105, 105, 105, 105, 105, 105, 105, 105, 105, 103, 103, 103]) rfl tk_49_1 ?_
  refine xv_tc (t := 104) ic_40 rfl (fun c => ?_) (fun c => ?_)
  · replace h := h.1 c
    refine ex_iconst (pc := 104) (fr_get fo_49_0 2 rfl) ic_1 ?_
    exact ex_zreturn (pc := 105) (fr_get fo_49_0 3 rfl) rt_49 rfl rfl ⟨Or.inr rfl, ma_end_mk h⟩
  · replace h := h.2 c
    refine xv_tc (t := 104) ic_41 rfl (fun c => ?_) (fun c => ?_)
    · replace h := h.1 c
      refine ex_iconst (pc := 104) (fr_get fo_49_0 2 rfl) ic_1 ?_
      exact ex_zreturn (pc := 105) (fr_get fo_49_0 3 rfl) rt_49 rfl rfl ⟨Or.inr rfl, ma_end_mk h⟩
    · replace h := h.2 c
      refine xv_tc (t := 104) ic_42 rfl (fun c => ?_) (fun c => ?_)
      · replace h := h.1 c
        refine ex_iconst (pc := 104) (fr_get fo_49_0 2 rfl) ic_1 ?_
        exact ex_zreturn (pc := 105) (fr_get fo_49_0 3 rfl) rt_49 rfl rfl ⟨Or.inr rfl, ma_end_mk h⟩
      · replace h := h.2 c
        refine xv_tc (t := 104) ic_43 rfl (fun c => ?_) (fun c => ?_)
        · replace h := h.1 c
          refine ex_iconst (pc := 104) (fr_get fo_49_0 2 rfl) ic_1 ?_
          exact ex_zreturn (pc := 105) (fr_get fo_49_0 3 rfl) rt_49 rfl rfl ⟨Or.inr rfl, ma_end_mk h⟩
        · replace h := h.2 c
          refine xv_tc (t := 106) ic_44 rfl (fun c => ?_) (fun c => ?_)
          · replace h := h.1 c
            refine ex_iconst (pc := 106) (fr_get fo_49_0 4 rfl) ic_0 ?_
            exact ex_zreturn (pc := 107) (fr_get fo_49_0 5 rfl) rt_49 rfl rfl ⟨Or.inl rfl, ma_end_mk h⟩
          · replace h := h.2 c
            refine xv_tc (t := 104) ic_45 rfl (fun c => ?_) (fun c => ?_)
            · replace h := h.1 c
              refine ex_iconst (pc := 104) (fr_get fo_49_0 2 rfl) ic_1 ?_
              exact ex_zreturn (pc := 105) (fr_get fo_49_0 3 rfl) rt_49 rfl rfl ⟨Or.inr rfl, ma_end_mk h⟩
            · replace h := h.2 c
              refine xv_tc (t := 106) ic_46 rfl (fun c => ?_) (fun c => ?_)
              · replace h := h.1 c
                refine ex_iconst (pc := 106) (fr_get fo_49_0 4 rfl) ic_0 ?_
                exact ex_zreturn (pc := 107) (fr_get fo_49_0 5 rfl) rt_49 rfl rfl ⟨Or.inl rfl, ma_end_mk h⟩
              · replace h := h.2 c
                refine xv_tc (t := 106) ic_47 rfl (fun c => ?_) (fun c => ?_)
                · replace h := h.1 c
                  refine ex_iconst (pc := 106) (fr_get fo_49_0 4 rfl) ic_0 ?_
                  exact ex_zreturn (pc := 107) (fr_get fo_49_0 5 rfl) rt_49 rfl rfl ⟨Or.inl rfl, ma_end_mk h⟩
                · replace h := h.2 c
                  refine xv_tc (t := 106) ic_48 rfl (fun c => ?_) (fun c => ?_)
                  · replace h := h.1 c
                    refine ex_iconst (pc := 106) (fr_get fo_49_0 4 rfl) ic_0 ?_
                    exact ex_zreturn (pc := 107) (fr_get fo_49_0 5 rfl) rt_49 rfl rfl ⟨Or.inl rfl, ma_end_mk h⟩
                  · replace h := h.2 c
                    refine xv_tc (t := 106) ic_49 rfl (fun c => ?_) (fun c => ?_)
                    · replace h := h.1 c
                      refine ex_iconst (pc := 106) (fr_get fo_49_0 4 rfl) ic_0 ?_
                      exact ex_zreturn (pc := 107) (fr_get fo_49_0 5 rfl) rt_49 rfl rfl ⟨Or.inl rfl, ma_end_mk h⟩
                    · replace h := h.2 c
                      refine xv_tc (t := 106) ic_50 rfl (fun c => ?_) (fun c => ?_)
                      · replace h := h.1 c
                        refine ex_iconst (pc := 106) (fr_get fo_49_0 4 rfl) ic_0 ?_
                        exact ex_zreturn (pc := 107) (fr_get fo_49_0 5 rfl) rt_49 rfl rfl ⟨Or.inl rfl, ma_end_mk h⟩
                      · replace h := h.2 c
                        refine xv_tc (t := 106) ic_51 rfl (fun c => ?_) (fun c => ?_)
                        · replace h := h.1 c
                          refine ex_iconst (pc := 106) (fr_get fo_49_0 4 rfl) ic_0 ?_
                          exact ex_zreturn (pc := 107) (fr_get fo_49_0 5 rfl) rt_49 rfl rfl ⟨Or.inl rfl, ma_end_mk h⟩
                        · replace h := h.2 c
                          refine xv_tc (t := 106) ic_52 rfl (fun c => ?_) (fun c => ?_)
                          · replace h := h.1 c
                            refine ex_iconst (pc := 106) (fr_get fo_49_0 4 rfl) ic_0 ?_
                            exact ex_zreturn (pc := 107) (fr_get fo_49_0 5 rfl) rt_49 rfl rfl ⟨Or.inl rfl, ma_end_mk h⟩
                          · replace h := h.2 c
                            refine xv_tc (t := 106) ic_53 rfl (fun c => ?_) (fun c => ?_)
                            · replace h := h.1 c
                              refine ex_iconst (pc := 106) (fr_get fo_49_0 4 rfl) ic_0 ?_
                              exact ex_zreturn (pc := 107) (fr_get fo_49_0 5 rfl) rt_49 rfl rfl ⟨Or.inl rfl, ma_end_mk h⟩
                            · replace h := h.2 c
                              refine xv_tc (t := 106) ic_54 rfl (fun c => ?_) (fun c => ?_)
                              · replace h := h.1 c
                                refine ex_iconst (pc := 106) (fr_get fo_49_0 4 rfl) ic_0 ?_
                                exact ex_zreturn (pc := 107) (fr_get fo_49_0 5 rfl) rt_49 rfl rfl ⟨Or.inl rfl, ma_end_mk h⟩
                              · replace h := h.2 c
                                refine xv_tc (t := 106) ic_55 rfl (fun c => ?_) (fun c => ?_)
                                · replace h := h.1 c
                                  refine ex_iconst (pc := 106) (fr_get fo_49_0 4 rfl) ic_0 ?_
                                  exact ex_zreturn (pc := 107) (fr_get fo_49_0 5 rfl) rt_49 rfl rfl ⟨Or.inl rfl, ma_end_mk h⟩
                                · replace h := h.2 c
                                  refine xv_tc (t := 106) ic_56 rfl (fun c => ?_) (fun c => ?_)
                                  · replace h := h.1 c
                                    refine ex_iconst (pc := 106) (fr_get fo_49_0 4 rfl) ic_0 ?_
                                    exact ex_zreturn (pc := 107) (fr_get fo_49_0 5 rfl) rt_49 rfl rfl ⟨Or.inl rfl, ma_end_mk h⟩
                                  · replace h := h.2 c
                                    refine xv_tc (t := 106) ic_57 rfl (fun c => ?_) (fun c => ?_)
                                    · replace h := h.1 c
                                      refine ex_iconst (pc := 106) (fr_get fo_49_0 4 rfl) ic_0 ?_
                                      exact ex_zreturn (pc := 107) (fr_get fo_49_0 5 rfl) rt_49 rfl rfl ⟨Or.inl rfl, ma_end_mk h⟩
                                    · replace h := h.2 c
                                      refine xv_tc (t := 106) ic_58 rfl (fun c => ?_) (fun c => ?_)
                                      · replace h := h.1 c
                                        refine ex_iconst (pc := 106) (fr_get fo_49_0 4 rfl) ic_0 ?_
                                        exact ex_zreturn (pc := 107) (fr_get fo_49_0 5 rfl) rt_49 rfl rfl ⟨Or.inl rfl, ma_end_mk h⟩
                                      · replace h := h.2 c
                                        refine xv_tc (t := 104) ic_59 rfl (fun c => ?_) (fun c => ?_)
                                        · replace h := h.1 c
                                          refine ex_iconst (pc := 104) (fr_get fo_49_0 2 rfl) ic_1 ?_
                                          exact ex_zreturn (pc := 105) (fr_get fo_49_0 3 rfl) rt_49 rfl rfl ⟨Or.inr rfl, ma_end_mk h⟩
                                        · replace h := h.2 c
                                          refine xv_tc (t := 104) ic_60 rfl (fun c => ?_) (fun c => ?_)
                                          · replace h := h.1 c
                                            refine ex_iconst (pc := 104) (fr_get fo_49_0 2 rfl) ic_1 ?_
                                            exact ex_zreturn (pc := 105) (fr_get fo_49_0 3 rfl) rt_49 rfl rfl ⟨Or.inr rfl, ma_end_mk h⟩
                                          · replace h := h.2 c
                                            refine xv_tc (t := 104) ic_61 rfl (fun c => ?_) (fun c => ?_)
                                            · replace h := h.1 c
                                              refine ex_iconst (pc := 104) (fr_get fo_49_0 2 rfl) ic_1 ?_
                                              exact ex_zreturn (pc := 105) (fr_get fo_49_0 3 rfl) rt_49 rfl rfl ⟨Or.inr rfl, ma_end_mk h⟩
                                            · replace h := h.2 c
                                              refine xv_tn (t := 106) rfl ?_
                                              refine ex_iconst (pc := 106) (fr_get fo_49_0 4 rfl) ic_0 ?_
                                              exact ex_zreturn (pc := 107) (fr_get fo_49_0 5 rfl) rt_49 rfl rfl ⟨Or.inl rfl, ma_end_mk h⟩

theorem e_60 {d : Nat} {I : ma_I} {o : Nat} {Q : ma_Q} 
  (h :
    Q (some (.inl ((I 10 0 1) - (I 10 0 7)))) I o) :
  Exm (d) 60 [.inr (.inr (10, 0))] I o Q := by
  show Ex (d) 60 (0, [some (.inr (.inr (10, 0)))], [], ma_mem I o, 0, 0) (ma_end Q)
  refine ex_aload_n (pc := 0) (fr_get fo_60_0 0 rfl) rfl rfl ?_
  refine xv_gi (pc := 1) (fr_get fo_60_0 1 rfl) ow_60 fg_7_19_10 rfl ?_
  refine ex_aload_n (pc := 4) (fr_get fo_60_0 2 rfl) rfl rfl ?_
  refine xv_gi (pc := 5) (fr_get fo_60_0 3 rfl) ow_60 fg_7_22_10 rfl ?_
  refine ex_isub (pc := 8) (fr_get fo_60_0 4 rfl) ?_
  exact ex_ireturn (pc := 9) (fr_get fo_60_0 5 rfl) rt_60 rfl rfl (ma_end_mk h)

theorem e_111 {d : Nat} {I : ma_I} {o : Nat} {Q : ma_Q} {a0 : Int32} {a1 : Int32}
  (h :
    (a0 = a1 →
      Q (some (.inl (1 : Int32))) I o) ∧
    (a0 ≠ a1 →
      (a1 = 0 →
        Q (some (.inl (1 : Int32))) I o) ∧
      (a1 ≠ 0 →
        (a0 ≠ (3 : Int32) →
          (a0 ≠ (4 : Int32) →
            Q (some (.inl (0 : Int32))) I o) ∧
          (a0 = (4 : Int32) →
            (a1 ≠ (2 : Int32) →
              Q (some (.inl (0 : Int32))) I o) ∧
            (a1 = (2 : Int32) →
              Q (some (.inl (1 : Int32))) I o))) ∧
        (a0 = (3 : Int32) →
          (a1 = (1 : Int32) →
            Q (some (.inl (1 : Int32))) I o) ∧
          (a1 ≠ (1 : Int32) →
            (a0 ≠ (4 : Int32) →
              Q (some (.inl (0 : Int32))) I o) ∧
            (a0 = (4 : Int32) →
              (a1 ≠ (2 : Int32) →
                Q (some (.inl (0 : Int32))) I o) ∧
              (a1 = (2 : Int32) →
                Q (some (.inl (1 : Int32))) I o))))))) :
  Exm (d) 111 [.inl a0, .inl a1] I o Q := by
  show Ex (d) 111 (0, [some (.inl a0), some (.inl a1)], [], ma_mem I o, 0, 0) (ma_end Q)
  refine ex_iload_n (pc := 0) (fr_get fo_111_0 0 rfl) rfl ?_
  refine ex_iload_n (pc := 1) (fr_get fo_111_0 1 rfl) rfl ?_
  refine xv_ceq (pc := 2) (fr_get fo_111_0 2 rfl) (t := 29) rfl (fun c => ?_) (fun c => ?_)
  · replace h := h.1 c
    refine ex_iconst (pc := 29) (fr_get fo_111_1 1 rfl) ic_1 ?_
    refine ex_goto (pc := 30) (fr_get fo_111_1 2 rfl) (t := 34) rfl ?_
    exact ex_zreturn (pc := 34) (fr_get fo_111_1 4 rfl) rt_111 rfl rfl ⟨Or.inr rfl, ma_end_mk h⟩
  · replace h := h.2 c
    refine ex_iload_n (pc := 5) (fr_get fo_111_0 3 rfl) rfl ?_
    refine xv_beq (pc := 6) (fr_get fo_111_0 4 rfl) (t := 29) rfl (fun c => ?_) (fun c => ?_)
    · replace h := h.1 c
      refine ex_iconst (pc := 29) (fr_get fo_111_1 1 rfl) ic_1 ?_
      refine ex_goto (pc := 30) (fr_get fo_111_1 2 rfl) (t := 34) rfl ?_
      exact ex_zreturn (pc := 34) (fr_get fo_111_1 4 rfl) rt_111 rfl rfl ⟨Or.inr rfl, ma_end_mk h⟩
    · replace h := h.2 c
      refine ex_iload_n (pc := 9) (fr_get fo_111_0 5 rfl) rfl ?_
      refine ex_iconst (pc := 10) (fr_get fo_111_0 6 rfl) ic_3 ?_
      refine xv_cne (pc := 11) (fr_get fo_111_0 7 rfl) (t := 19) rfl (fun c => ?_) (fun c => ?_)
      · replace h := h.1 c
        refine ex_iload_n (pc := 19) (fr_get fo_111_0 11 rfl) rfl ?_
        refine ex_iconst (pc := 20) (fr_get fo_111_0 12 rfl) ic_4 ?_
        refine xv_cne (pc := 21) (fr_get fo_111_0 13 rfl) (t := 33) rfl (fun c => ?_) (fun c => ?_)
        · replace h := h.1 c
          refine ex_iconst (pc := 33) (fr_get fo_111_1 3 rfl) ic_0 ?_
          exact ex_zreturn (pc := 34) (fr_get fo_111_1 4 rfl) rt_111 rfl rfl ⟨Or.inl rfl, ma_end_mk h⟩
        · replace h := h.2 c
          refine ex_iload_n (pc := 24) (fr_get fo_111_0 14 rfl) rfl ?_
          refine ex_iconst (pc := 25) (fr_get fo_111_0 15 rfl) ic_2 ?_
          refine xv_cne (pc := 26) (fr_get fo_111_1 0 rfl) (t := 33) rfl (fun c => ?_) (fun c => ?_)
          · replace h := h.1 c
            refine ex_iconst (pc := 33) (fr_get fo_111_1 3 rfl) ic_0 ?_
            exact ex_zreturn (pc := 34) (fr_get fo_111_1 4 rfl) rt_111 rfl rfl ⟨Or.inl rfl, ma_end_mk h⟩
          · replace h := h.2 c
            refine ex_iconst (pc := 29) (fr_get fo_111_1 1 rfl) ic_1 ?_
            refine ex_goto (pc := 30) (fr_get fo_111_1 2 rfl) (t := 34) rfl ?_
            exact ex_zreturn (pc := 34) (fr_get fo_111_1 4 rfl) rt_111 rfl rfl ⟨Or.inr rfl, ma_end_mk h⟩
      · replace h := h.2 c
        refine ex_iload_n (pc := 14) (fr_get fo_111_0 8 rfl) rfl ?_
        refine ex_iconst (pc := 15) (fr_get fo_111_0 9 rfl) ic_1 ?_
        refine xv_ceq (pc := 16) (fr_get fo_111_0 10 rfl) (t := 29) rfl (fun c => ?_) (fun c => ?_)
        · replace h := h.1 c
          refine ex_iconst (pc := 29) (fr_get fo_111_1 1 rfl) ic_1 ?_
          refine ex_goto (pc := 30) (fr_get fo_111_1 2 rfl) (t := 34) rfl ?_
          exact ex_zreturn (pc := 34) (fr_get fo_111_1 4 rfl) rt_111 rfl rfl ⟨Or.inr rfl, ma_end_mk h⟩
        · replace h := h.2 c
          refine ex_iload_n (pc := 19) (fr_get fo_111_0 11 rfl) rfl ?_
          refine ex_iconst (pc := 20) (fr_get fo_111_0 12 rfl) ic_4 ?_
          refine xv_cne (pc := 21) (fr_get fo_111_0 13 rfl) (t := 33) rfl (fun c => ?_) (fun c => ?_)
          · replace h := h.1 c
            refine ex_iconst (pc := 33) (fr_get fo_111_1 3 rfl) ic_0 ?_
            exact ex_zreturn (pc := 34) (fr_get fo_111_1 4 rfl) rt_111 rfl rfl ⟨Or.inl rfl, ma_end_mk h⟩
          · replace h := h.2 c
            refine ex_iload_n (pc := 24) (fr_get fo_111_0 14 rfl) rfl ?_
            refine ex_iconst (pc := 25) (fr_get fo_111_0 15 rfl) ic_2 ?_
            refine xv_cne (pc := 26) (fr_get fo_111_1 0 rfl) (t := 33) rfl (fun c => ?_) (fun c => ?_)
            · replace h := h.1 c
              refine ex_iconst (pc := 33) (fr_get fo_111_1 3 rfl) ic_0 ?_
              exact ex_zreturn (pc := 34) (fr_get fo_111_1 4 rfl) rt_111 rfl rfl ⟨Or.inl rfl, ma_end_mk h⟩
            · replace h := h.2 c
              refine ex_iconst (pc := 29) (fr_get fo_111_1 1 rfl) ic_1 ?_
              refine ex_goto (pc := 30) (fr_get fo_111_1 2 rfl) (t := 34) rfl ?_
              exact ex_zreturn (pc := 34) (fr_get fo_111_1 4 rfl) rt_111 rfl rfl ⟨Or.inr rfl, ma_end_mk h⟩

theorem e_112 {d : Nat} {I : ma_I} {o : Nat} {Q : ma_Q} {a0 : Int32} {a1 : Int32} {a2 : Int32}
  (h :
    (a0 < a1 →
      Q (some (.inl (0 : Int32))) I o) ∧
    (a1 ≤ a0 →
      (a2 < a0 →
        Q (some (.inl (0 : Int32))) I o) ∧
      (a0 ≤ a2 →
        Q (some (.inl (1 : Int32))) I o))) :
  Exm (d) 112 [.inl a0, .inl a1, .inl a2] I o Q := by
  show Ex (d) 112 (0, [some (.inl a0), some (.inl a1), some (.inl a2)], [], ma_mem I o, 0, 0) (ma_end Q)
  refine ex_iload_n (pc := 0) (fr_get fo_112_0 0 rfl) rfl ?_
  refine ex_iload_n (pc := 1) (fr_get fo_112_0 1 rfl) rfl ?_
  refine xv_cgt (pc := 2) (fr_get fo_112_0 2 rfl) (t := 14) rfl (fun c => ?_) (fun c => ?_)
  · replace h := h.1 c
    refine ex_iconst (pc := 14) (fr_get fo_112_0 8 rfl) ic_0 ?_
    exact ex_zreturn (pc := 15) (fr_get fo_112_0 9 rfl) rt_112 rfl rfl ⟨Or.inl rfl, ma_end_mk h⟩
  · replace h := h.2 c
    refine ex_iload_n (pc := 5) (fr_get fo_112_0 3 rfl) rfl ?_
    refine ex_iload_n (pc := 6) (fr_get fo_112_0 4 rfl) rfl ?_
    refine xv_cgt (pc := 7) (fr_get fo_112_0 5 rfl) (t := 14) rfl (fun c => ?_) (fun c => ?_)
    · replace h := h.1 c
      refine ex_iconst (pc := 14) (fr_get fo_112_0 8 rfl) ic_0 ?_
      exact ex_zreturn (pc := 15) (fr_get fo_112_0 9 rfl) rt_112 rfl rfl ⟨Or.inl rfl, ma_end_mk h⟩
    · replace h := h.2 c
      refine ex_iconst (pc := 10) (fr_get fo_112_0 6 rfl) ic_1 ?_
      refine ex_goto (pc := 11) (fr_get fo_112_0 7 rfl) (t := 15) rfl ?_
      exact ex_zreturn (pc := 15) (fr_get fo_112_0 9 rfl) rt_112 rfl rfl ⟨Or.inr rfl, ma_end_mk h⟩

theorem e_118 {d : Nat} {I : ma_I} {o : Nat} {Q : ma_Q} {a0 : Int32} {a1 : Int32} {a2 : Int32}
  (h :
    (a0 < a1 →
      Q (some (.inl (0 : Int32))) I o) ∧
    (a1 ≤ a0 →
      (a2 < a0 →
        Q (some (.inl (0 : Int32))) I o) ∧
      (a0 ≤ a2 →
        Q (some (.inl (1 : Int32))) I o))) :
  Exm (d) 118 [.inl a0, .inl a1, .inl a2] I o Q := by
  show Ex (d) 118 (0, [some (.inl a0), some (.inl a1), some (.inl a2)], [], ma_mem I o, 0, 0) (ma_end Q)
  refine ex_iload_n (pc := 0) (fr_get fo_118_0 0 rfl) rfl ?_
  refine ex_iload_n (pc := 1) (fr_get fo_118_0 1 rfl) rfl ?_
  refine xv_clt (pc := 2) (fr_get fo_118_0 2 rfl) (t := 14) rfl (fun c => ?_) (fun c => ?_)
  · replace h := h.1 c
    refine ex_iconst (pc := 14) (fr_get fo_118_0 8 rfl) ic_0 ?_
    exact ex_zreturn (pc := 15) (fr_get fo_118_0 9 rfl) rt_118 rfl rfl ⟨Or.inl rfl, ma_end_mk h⟩
  · replace h := h.2 c
    refine ex_iload_n (pc := 5) (fr_get fo_118_0 3 rfl) rfl ?_
    refine ex_iload_n (pc := 6) (fr_get fo_118_0 4 rfl) rfl ?_
    refine xv_cgt (pc := 7) (fr_get fo_118_0 5 rfl) (t := 14) rfl (fun c => ?_) (fun c => ?_)
    · replace h := h.1 c
      refine ex_iconst (pc := 14) (fr_get fo_118_0 8 rfl) ic_0 ?_
      exact ex_zreturn (pc := 15) (fr_get fo_118_0 9 rfl) rt_118 rfl rfl ⟨Or.inl rfl, ma_end_mk h⟩
    · replace h := h.2 c
      refine ex_iconst (pc := 10) (fr_get fo_118_0 6 rfl) ic_1 ?_
      refine ex_goto (pc := 11) (fr_get fo_118_0 7 rfl) (t := 15) rfl ?_
      exact ex_zreturn (pc := 15) (fr_get fo_118_0 9 rfl) rt_118 rfl rfl ⟨Or.inr rfl, ma_end_mk h⟩

theorem e_119 {d : Nat} {I : ma_I} {o : Nat} {Q : ma_Q} {a0 : Int32} {a1 : Int32}
  (h :
    (a1 ≤ a0 →
      Q (some (.inl a1)) I o) ∧
    (a0 < a1 →
      Q (some (.inl a0)) I o)) :
  Exm (d) 119 [.inl a0, .inl a1] I o Q := by
  show Ex (d) 119 (0, [some (.inl a0), some (.inl a1)], [], ma_mem I o, 0, 0) (ma_end Q)
  refine ex_iload_n (pc := 0) (fr_get fo_119_0 0 rfl) rfl ?_
  refine ex_iload_n (pc := 1) (fr_get fo_119_0 1 rfl) rfl ?_
  refine xv_cge (pc := 2) (fr_get fo_119_0 2 rfl) (t := 9) rfl (fun c => ?_) (fun c => ?_)
  · replace h := h.1 c
    refine ex_iload_n (pc := 9) (fr_get fo_119_0 5 rfl) rfl ?_
    exact ex_ireturn (pc := 10) (fr_get fo_119_0 6 rfl) rt_119 rfl rfl (ma_end_mk h)
  · replace h := h.2 c
    refine ex_iload_n (pc := 5) (fr_get fo_119_0 3 rfl) rfl ?_
    refine ex_goto (pc := 6) (fr_get fo_119_0 4 rfl) (t := 10) rfl ?_
    exact ex_ireturn (pc := 10) (fr_get fo_119_0 6 rfl) rt_119 rfl rfl (ma_end_mk h)

theorem e_120 {d : Nat} {I : ma_I} {o : Nat} {Q : ma_Q} {a0 : Int32} {a1 : Int32}
  (h :
    (a0 ≤ a1 →
      Q (some (.inl a1)) I o) ∧
    (a1 < a0 →
      Q (some (.inl a0)) I o)) :
  Exm (d) 120 [.inl a0, .inl a1] I o Q := by
  show Ex (d) 120 (0, [some (.inl a0), some (.inl a1)], [], ma_mem I o, 0, 0) (ma_end Q)
  refine ex_iload_n (pc := 0) (fr_get fo_120_0 0 rfl) rfl ?_
  refine ex_iload_n (pc := 1) (fr_get fo_120_0 1 rfl) rfl ?_
  refine xv_cle (pc := 2) (fr_get fo_120_0 2 rfl) (t := 9) rfl (fun c => ?_) (fun c => ?_)
  · replace h := h.1 c
    refine ex_iload_n (pc := 9) (fr_get fo_120_0 5 rfl) rfl ?_
    exact ex_ireturn (pc := 10) (fr_get fo_120_0 6 rfl) rt_120 rfl rfl (ma_end_mk h)
  · replace h := h.2 c
    refine ex_iload_n (pc := 5) (fr_get fo_120_0 3 rfl) rfl ?_
    refine ex_goto (pc := 6) (fr_get fo_120_0 4 rfl) (t := 10) rfl ?_
    exact ex_ireturn (pc := 10) (fr_get fo_120_0 6 rfl) rt_120 rfl rfl (ma_end_mk h)

theorem e_142 {d : Nat} {I : ma_I} {o : Nat} {Q : ma_Q} {a1 : Int32}
  (h :
    (I 40 0 18 ≠ (4 : Int32) →
      Q (some (.inl (0 : Int32))) I o) ∧
    (I 40 0 18 = (4 : Int32) →
      (I 40 0 19 ≠ a1 →
        Q (some (.inl (0 : Int32))) I o) ∧
      (I 40 0 19 = a1 →
        Q (some (.inl (1 : Int32))) I o))) :
  Exm (d) 142 [.inr (.inr (40, 0)), .inl a1] I o Q := by
  show Ex (d) 142 (0, [some (.inr (.inr (40, 0))), some (.inl a1)], [], ma_mem I o, 0, 0) (ma_end Q)
  refine ex_aload_n (pc := 0) (fr_get fo_142_0 0 rfl) rfl rfl ?_
  refine xv_gi (pc := 1) (fr_get fo_142_0 1 rfl) ow_142 fg_9_94_40 rfl ?_
  refine ex_iconst (pc := 4) (fr_get fo_142_0 2 rfl) ic_4 ?_
  refine xv_cne (pc := 5) (fr_get fo_142_0 3 rfl) (t := 20) rfl (fun c => ?_) (fun c => ?_)
  · replace h := h.1 c
    refine ex_iconst (pc := 20) (fr_get fo_142_0 10 rfl) ic_0 ?_
    exact ex_zreturn (pc := 21) (fr_get fo_142_0 11 rfl) rt_142 rfl rfl ⟨Or.inl rfl, ma_end_mk h⟩
  · replace h := h.2 c
    refine ex_aload_n (pc := 8) (fr_get fo_142_0 4 rfl) rfl rfl ?_
    refine xv_gi (pc := 9) (fr_get fo_142_0 5 rfl) ow_142 fg_9_107_40 rfl ?_
    refine ex_iload_n (pc := 12) (fr_get fo_142_0 6 rfl) rfl ?_
    refine xv_cne (pc := 13) (fr_get fo_142_0 7 rfl) (t := 20) rfl (fun c => ?_) (fun c => ?_)
    · replace h := h.1 c
      refine ex_iconst (pc := 20) (fr_get fo_142_0 10 rfl) ic_0 ?_
      exact ex_zreturn (pc := 21) (fr_get fo_142_0 11 rfl) rt_142 rfl rfl ⟨Or.inl rfl, ma_end_mk h⟩
    · replace h := h.2 c
      refine ex_iconst (pc := 16) (fr_get fo_142_0 8 rfl) ic_1 ?_
      refine ex_goto (pc := 17) (fr_get fo_142_0 9 rfl) (t := 21) rfl ?_
      exact ex_zreturn (pc := 21) (fr_get fo_142_0 11 rfl) rt_142 rfl rfl ⟨Or.inr rfl, ma_end_mk h⟩

theorem e_143 {d : Nat} {I : ma_I} {o : Nat} {Q : ma_Q} {a1 : Int32}
  (h :
    (I 40 0 18 ≠ (3 : Int32) →
      Q (some (.inl (0 : Int32))) I o) ∧
    (I 40 0 18 = (3 : Int32) →
      (I 40 0 19 ≠ a1 →
        Q (some (.inl (0 : Int32))) I o) ∧
      (I 40 0 19 = a1 →
        Q (some (.inl (1 : Int32))) I o))) :
  Exm (d) 143 [.inr (.inr (40, 0)), .inl a1] I o Q := by
  show Ex (d) 143 (0, [some (.inr (.inr (40, 0))), some (.inl a1)], [], ma_mem I o, 0, 0) (ma_end Q)
  refine ex_aload_n (pc := 0) (fr_get fo_143_0 0 rfl) rfl rfl ?_
  refine xv_gi (pc := 1) (fr_get fo_143_0 1 rfl) ow_143 fg_9_94_40 rfl ?_
  refine ex_iconst (pc := 4) (fr_get fo_143_0 2 rfl) ic_3 ?_
  refine xv_cne (pc := 5) (fr_get fo_143_0 3 rfl) (t := 20) rfl (fun c => ?_) (fun c => ?_)
  · replace h := h.1 c
    refine ex_iconst (pc := 20) (fr_get fo_143_0 10 rfl) ic_0 ?_
    exact ex_zreturn (pc := 21) (fr_get fo_143_0 11 rfl) rt_143 rfl rfl ⟨Or.inl rfl, ma_end_mk h⟩
  · replace h := h.2 c
    refine ex_aload_n (pc := 8) (fr_get fo_143_0 4 rfl) rfl rfl ?_
    refine xv_gi (pc := 9) (fr_get fo_143_0 5 rfl) ow_143 fg_9_107_40 rfl ?_
    refine ex_iload_n (pc := 12) (fr_get fo_143_0 6 rfl) rfl ?_
    refine xv_cne (pc := 13) (fr_get fo_143_0 7 rfl) (t := 20) rfl (fun c => ?_) (fun c => ?_)
    · replace h := h.1 c
      refine ex_iconst (pc := 20) (fr_get fo_143_0 10 rfl) ic_0 ?_
      exact ex_zreturn (pc := 21) (fr_get fo_143_0 11 rfl) rt_143 rfl rfl ⟨Or.inl rfl, ma_end_mk h⟩
    · replace h := h.2 c
      refine ex_iconst (pc := 16) (fr_get fo_143_0 8 rfl) ic_1 ?_
      refine ex_goto (pc := 17) (fr_get fo_143_0 9 rfl) (t := 21) rfl ?_
      exact ex_zreturn (pc := 21) (fr_get fo_143_0 11 rfl) rt_143 rfl rfl ⟨Or.inr rfl, ma_end_mk h⟩

theorem e_145 {d : Nat} {I : ma_I} {o : Nat} {Q : ma_Q} {a0 : Int32}
  (h :
    (a0 ≠ (10 : Int32) →
      (a0 ≠ (11 : Int32) →
        (a0 ≠ (12 : Int32) →
          (a0 = (13 : Int32) →
            Q (some (.inl (4 : Int32))) I o) ∧
          (a0 ≠ (13 : Int32) →
            (a0 ≠ (14 : Int32) →
              (a0 = (15 : Int32) →
                Q (some (.inl (5 : Int32))) I o) ∧
              (a0 ≠ (15 : Int32) →
                (a0 ≠ (16 : Int32) →
                  (a0 ≠ (17 : Int32) →
                    (a0 ≠ (18 : Int32) →
                      Q (some (.inl (0 : Int32))) I o) ∧
                    (a0 = (18 : Int32) →
                      Q (some (.inl (7 : Int32))) I o)) ∧
                  (a0 = (17 : Int32) →
                    Q (some (.inl (6 : Int32))) I o)) ∧
                (a0 = (16 : Int32) →
                  Q (some (.inl (5 : Int32))) I o))) ∧
            (a0 = (14 : Int32) →
              Q (some (.inl (4 : Int32))) I o))) ∧
        (a0 = (12 : Int32) →
          Q (some (.inl (3 : Int32))) I o)) ∧
      (a0 = (11 : Int32) →
        Q (some (.inl (2 : Int32))) I o)) ∧
    (a0 = (10 : Int32) →
      Q (some (.inl (1 : Int32))) I o)) :
  Exm (d) 145 [.inl a0] I o Q := by
  show Ex (d) 145 (0, [some (.inl a0)], [], ma_mem I o, 0, 0) (ma_end Q)
  refine ex_iload_n (pc := 0) (fr_get fo_145_0 0 rfl) rfl ?_
  refine ex_bipush (pc := 1) (fr_get fo_145_0 1 rfl) bp_10 ?_
  refine xv_cne (pc := 3) (fr_get fo_145_0 2 rfl) (t := 10) rfl (fun c => ?_) (fun c => ?_)
  · replace h := h.1 c
    refine ex_iload_n (pc := 10) (fr_get fo_145_0 5 rfl) rfl ?_
    refine ex_bipush (pc := 11) (fr_get fo_145_0 6 rfl) bp_11 ?_
    refine xv_cne (pc := 13) (fr_get fo_145_0 7 rfl) (t := 20) rfl (fun c => ?_) (fun c => ?_)
    · replace h := h.1 c
      refine ex_iload_n (pc := 20) (fr_get fo_145_0 10 rfl) rfl ?_
      refine ex_bipush (pc := 21) (fr_get fo_145_0 11 rfl) bp_12 ?_
      refine xv_cne (pc := 23) (fr_get fo_145_0 12 rfl) (t := 30) rfl (fun c => ?_) (fun c => ?_)
      · replace h := h.1 c
        refine ex_iload_n (pc := 30) (fr_get fo_145_0 15 rfl) rfl ?_
        refine ex_bipush (pc := 31) (fr_get fo_145_1 0 rfl) bp_13 ?_
        refine xv_ceq (pc := 33) (fr_get fo_145_1 1 rfl) (t := 42) rfl (fun c => ?_) (fun c => ?_)
        · replace h := h.1 c
          refine ex_iconst (pc := 42) (fr_get fo_145_1 5 rfl) ic_4 ?_
          refine ex_goto (pc := 43) (fr_get fo_145_1 6 rfl) (t := 85) rfl ?_
          exact ex_ireturn (pc := 85) (fr_get fo_145_2 10 rfl) rt_145 rfl rfl (ma_end_mk h)
        · replace h := h.2 c
          refine ex_iload_n (pc := 36) (fr_get fo_145_1 2 rfl) rfl ?_
          refine ex_bipush (pc := 37) (fr_get fo_145_1 3 rfl) bp_14 ?_
          refine xv_cne (pc := 39) (fr_get fo_145_1 4 rfl) (t := 46) rfl (fun c => ?_) (fun c => ?_)
          · replace h := h.1 c
            refine ex_iload_n (pc := 46) (fr_get fo_145_1 7 rfl) rfl ?_
            refine ex_bipush (pc := 47) (fr_get fo_145_1 8 rfl) bp_15 ?_
            refine xv_ceq (pc := 49) (fr_get fo_145_1 9 rfl) (t := 58) rfl (fun c => ?_) (fun c => ?_)
            · replace h := h.1 c
              refine ex_iconst (pc := 58) (fr_get fo_145_1 13 rfl) ic_5 ?_
              refine ex_goto (pc := 59) (fr_get fo_145_1 14 rfl) (t := 85) rfl ?_
              exact ex_ireturn (pc := 85) (fr_get fo_145_2 10 rfl) rt_145 rfl rfl (ma_end_mk h)
            · replace h := h.2 c
              refine ex_iload_n (pc := 52) (fr_get fo_145_1 10 rfl) rfl ?_
              refine ex_bipush (pc := 53) (fr_get fo_145_1 11 rfl) bp_16 ?_
              refine xv_cne (pc := 55) (fr_get fo_145_1 12 rfl) (t := 62) rfl (fun c => ?_) (fun c => ?_)
              · replace h := h.1 c
                refine ex_iload_n (pc := 62) (fr_get fo_145_1 15 rfl) rfl ?_
                refine ex_bipush (pc := 63) (fr_get fo_145_2 0 rfl) bp_17 ?_
                refine xv_cne (pc := 65) (fr_get fo_145_2 1 rfl) (t := 73) rfl (fun c => ?_) (fun c => ?_)
                · replace h := h.1 c
                  refine ex_iload_n (pc := 73) (fr_get fo_145_2 4 rfl) rfl ?_
                  refine ex_bipush (pc := 74) (fr_get fo_145_2 5 rfl) bp_18 ?_
                  refine xv_cne (pc := 76) (fr_get fo_145_2 6 rfl) (t := 84) rfl (fun c => ?_) (fun c => ?_)
                  · replace h := h.1 c
                    refine ex_iconst (pc := 84) (fr_get fo_145_2 9 rfl) ic_0 ?_
                    exact ex_ireturn (pc := 85) (fr_get fo_145_2 10 rfl) rt_145 rfl rfl (ma_end_mk h)
                  · replace h := h.2 c
                    refine ex_bipush (pc := 79) (fr_get fo_145_2 7 rfl) bp_7 ?_
                    refine ex_goto (pc := 81) (fr_get fo_145_2 8 rfl) (t := 85) rfl ?_
                    exact ex_ireturn (pc := 85) (fr_get fo_145_2 10 rfl) rt_145 rfl rfl (ma_end_mk h)
                · replace h := h.2 c
                  refine ex_bipush (pc := 68) (fr_get fo_145_2 2 rfl) bp_6 ?_
                  refine ex_goto (pc := 70) (fr_get fo_145_2 3 rfl) (t := 85) rfl ?_
                  exact ex_ireturn (pc := 85) (fr_get fo_145_2 10 rfl) rt_145 rfl rfl (ma_end_mk h)
              · replace h := h.2 c
                refine ex_iconst (pc := 58) (fr_get fo_145_1 13 rfl) ic_5 ?_
                refine ex_goto (pc := 59) (fr_get fo_145_1 14 rfl) (t := 85) rfl ?_
                exact ex_ireturn (pc := 85) (fr_get fo_145_2 10 rfl) rt_145 rfl rfl (ma_end_mk h)
          · replace h := h.2 c
            refine ex_iconst (pc := 42) (fr_get fo_145_1 5 rfl) ic_4 ?_
            refine ex_goto (pc := 43) (fr_get fo_145_1 6 rfl) (t := 85) rfl ?_
            exact ex_ireturn (pc := 85) (fr_get fo_145_2 10 rfl) rt_145 rfl rfl (ma_end_mk h)
      · replace h := h.2 c
        refine ex_iconst (pc := 26) (fr_get fo_145_0 13 rfl) ic_3 ?_
        refine ex_goto (pc := 27) (fr_get fo_145_0 14 rfl) (t := 85) rfl ?_
        exact ex_ireturn (pc := 85) (fr_get fo_145_2 10 rfl) rt_145 rfl rfl (ma_end_mk h)
    · replace h := h.2 c
      refine ex_iconst (pc := 16) (fr_get fo_145_0 8 rfl) ic_2 ?_
      refine ex_goto (pc := 17) (fr_get fo_145_0 9 rfl) (t := 85) rfl ?_
      exact ex_ireturn (pc := 85) (fr_get fo_145_2 10 rfl) rt_145 rfl rfl (ma_end_mk h)
  · replace h := h.2 c
    refine ex_iconst (pc := 6) (fr_get fo_145_0 3 rfl) ic_1 ?_
    refine ex_goto (pc := 7) (fr_get fo_145_0 4 rfl) (t := 85) rfl ?_
    exact ex_ireturn (pc := 85) (fr_get fo_145_2 10 rfl) rt_145 rfl rfl (ma_end_mk h)

theorem e_156 {d : Nat} {I : ma_I} {o : Nat} {Q : ma_Q} {a0 : Int32} {a1 : Int32} {a2 : Int32}
  (h :
    (a0 = (11 : Int32) →
      (a1 = 0 →
        Q (some (.inl (0 : Int32))) I o) ∧
      (a1 ≠ 0 →
        (a2 = 0 →
          Q (some (.inl (0 : Int32))) I o) ∧
        (a2 ≠ 0 →
          Q (some (.inl (1 : Int32))) I o))) ∧
    (a0 ≠ (11 : Int32) →
      (a0 = (12 : Int32) →
        (a1 ≠ 0 →
          Q (some (.inl (1 : Int32))) I o) ∧
        (a1 = 0 →
          (a2 = 0 →
            Q (some (.inl (0 : Int32))) I o) ∧
          (a2 ≠ 0 →
            Q (some (.inl (1 : Int32))) I o))) ∧
      (a0 ≠ (12 : Int32) →
        (a0 = (13 : Int32) →
          (a2 ≤ a1 →
            Q (some (.inl (0 : Int32))) I o) ∧
          (a1 < a2 →
            Q (some (.inl (1 : Int32))) I o)) ∧
        (a0 ≠ (13 : Int32) →
          (a0 = (14 : Int32) →
            (a1 ≠ a2 →
              Q (some (.inl (0 : Int32))) I o) ∧
            (a1 = a2 →
              Q (some (.inl (1 : Int32))) I o)) ∧
          (a0 ≠ (14 : Int32) →
            (a0 = (15 : Int32) →
              Q (some (.inl (a1 + a2))) I o) ∧
            (a0 ≠ (15 : Int32) →
              (a0 = (16 : Int32) →
                Q (some (.inl (a1 - a2))) I o) ∧
              (a0 ≠ (16 : Int32) →
                (a0 = (17 : Int32) →
                  Q (some (.inl (a1 * a2))) I o) ∧
                (a0 ≠ (17 : Int32) →
                  (a1 ≠ 0 →
                    Q (some (.inl (1 : Int32))) I o) ∧
                  (a1 = 0 →
                    (a2 = 0 →
                      Q (some (.inl (0 : Int32))) I o) ∧
                    (a2 ≠ 0 →
                      Q (some (.inl (1 : Int32))) I o)))))))))) :
  Exm (d) 156 [.inl a0, .inl a1, .inl a2] I o Q := by
  show Ex (d) 156 (0, [some (.inl a0), some (.inl a1), some (.inl a2)], [], ma_mem I o, 0, 0) (ma_end Q)
  refine ex_iload_n (pc := 0) (fr_get fo_156_0 0 rfl) rfl ?_
  refine xv_ts (pc := 1) (fr_get fo_156_0 1 rfl) (l := [77, 91, 55, 66, 43, 47, 51]) rfl tk_156_1 ?_
  refine xv_tc (t := 78) ic_11 rfl (fun c => ?_) (fun c => ?_)
  · replace h := h.1 c
    refine ex_iload_n (pc := 78) (fr_get fo_156_1 12 rfl) rfl ?_
    refine xv_beq (pc := 79) (fr_get fo_156_1 13 rfl) (t := 90) rfl (fun c => ?_) (fun c => ?_)
    · replace h := h.1 c
      refine ex_iconst (pc := 90) (fr_get fo_156_2 2 rfl) ic_0 ?_
      exact ex_ireturn (pc := 91) (fr_get fo_156_2 3 rfl) rt_156 rfl rfl (ma_end_mk h)
    · replace h := h.2 c
      refine ex_iload_n (pc := 82) (fr_get fo_156_1 14 rfl) rfl ?_
      refine xv_beq (pc := 83) (fr_get fo_156_1 15 rfl) (t := 90) rfl (fun c => ?_) (fun c => ?_)
      · replace h := h.1 c
        refine ex_iconst (pc := 90) (fr_get fo_156_2 2 rfl) ic_0 ?_
        exact ex_ireturn (pc := 91) (fr_get fo_156_2 3 rfl) rt_156 rfl rfl (ma_end_mk h)
      · replace h := h.2 c
        refine ex_iconst (pc := 86) (fr_get fo_156_2 0 rfl) ic_1 ?_
        refine ex_goto (pc := 87) (fr_get fo_156_2 1 rfl) (t := 91) rfl ?_
        exact ex_ireturn (pc := 91) (fr_get fo_156_2 3 rfl) rt_156 rfl rfl (ma_end_mk h)
  · replace h := h.2 c
    refine xv_tc (t := 92) ic_12 rfl (fun c => ?_) (fun c => ?_)
    · replace h := h.1 c
      refine ex_iload_n (pc := 92) (fr_get fo_156_2 4 rfl) rfl ?_
      refine xv_bne (pc := 93) (fr_get fo_156_2 5 rfl) (t := 100) rfl (fun c => ?_) (fun c => ?_)
      · replace h := h.1 c
        refine ex_iconst (pc := 100) (fr_get fo_156_2 8 rfl) ic_1 ?_
        refine ex_goto (pc := 101) (fr_get fo_156_2 9 rfl) (t := 105) rfl ?_
        exact ex_ireturn (pc := 105) (fr_get fo_156_2 11 rfl) rt_156 rfl rfl (ma_end_mk h)
      · replace h := h.2 c
        refine ex_iload_n (pc := 96) (fr_get fo_156_2 6 rfl) rfl ?_
        refine xv_beq (pc := 97) (fr_get fo_156_2 7 rfl) (t := 104) rfl (fun c => ?_) (fun c => ?_)
        · replace h := h.1 c
          refine ex_iconst (pc := 104) (fr_get fo_156_2 10 rfl) ic_0 ?_
          exact ex_ireturn (pc := 105) (fr_get fo_156_2 11 rfl) rt_156 rfl rfl (ma_end_mk h)
        · replace h := h.2 c
          refine ex_iconst (pc := 100) (fr_get fo_156_2 8 rfl) ic_1 ?_
          refine ex_goto (pc := 101) (fr_get fo_156_2 9 rfl) (t := 105) rfl ?_
          exact ex_ireturn (pc := 105) (fr_get fo_156_2 11 rfl) rt_156 rfl rfl (ma_end_mk h)
    · replace h := h.2 c
      refine xv_tc (t := 56) ic_13 rfl (fun c => ?_) (fun c => ?_)
      · replace h := h.1 c
        refine ex_iload_n (pc := 56) (fr_get fo_156_0 14 rfl) rfl ?_
        refine ex_iload_n (pc := 57) (fr_get fo_156_0 15 rfl) rfl ?_
        refine xv_cge (pc := 58) (fr_get fo_156_1 0 rfl) (t := 65) rfl (fun c => ?_) (fun c => ?_)
        · replace h := h.1 c
          refine ex_iconst (pc := 65) (fr_get fo_156_1 3 rfl) ic_0 ?_
          exact ex_ireturn (pc := 66) (fr_get fo_156_1 4 rfl) rt_156 rfl rfl (ma_end_mk h)
        · replace h := h.2 c
          refine ex_iconst (pc := 61) (fr_get fo_156_1 1 rfl) ic_1 ?_
          refine ex_goto (pc := 62) (fr_get fo_156_1 2 rfl) (t := 66) rfl ?_
          exact ex_ireturn (pc := 66) (fr_get fo_156_1 4 rfl) rt_156 rfl rfl (ma_end_mk h)
      · replace h := h.2 c
        refine xv_tc (t := 67) ic_14 rfl (fun c => ?_) (fun c => ?_)
        · replace h := h.1 c
          refine ex_iload_n (pc := 67) (fr_get fo_156_1 5 rfl) rfl ?_
          refine ex_iload_n (pc := 68) (fr_get fo_156_1 6 rfl) rfl ?_
          refine xv_cne (pc := 69) (fr_get fo_156_1 7 rfl) (t := 76) rfl (fun c => ?_) (fun c => ?_)
          · replace h := h.1 c
            refine ex_iconst (pc := 76) (fr_get fo_156_1 10 rfl) ic_0 ?_
            exact ex_ireturn (pc := 77) (fr_get fo_156_1 11 rfl) rt_156 rfl rfl (ma_end_mk h)
          · replace h := h.2 c
            refine ex_iconst (pc := 72) (fr_get fo_156_1 8 rfl) ic_1 ?_
            refine ex_goto (pc := 73) (fr_get fo_156_1 9 rfl) (t := 77) rfl ?_
            exact ex_ireturn (pc := 77) (fr_get fo_156_1 11 rfl) rt_156 rfl rfl (ma_end_mk h)
        · replace h := h.2 c
          refine xv_tc (t := 44) ic_15 rfl (fun c => ?_) (fun c => ?_)
          · replace h := h.1 c
            refine ex_iload_n (pc := 44) (fr_get fo_156_0 2 rfl) rfl ?_
            refine ex_iload_n (pc := 45) (fr_get fo_156_0 3 rfl) rfl ?_
            refine ex_iadd (pc := 46) (fr_get fo_156_0 4 rfl) ?_
            exact ex_ireturn (pc := 47) (fr_get fo_156_0 5 rfl) rt_156 rfl rfl (ma_end_mk h)
          · replace h := h.2 c
            refine xv_tc (t := 48) ic_16 rfl (fun c => ?_) (fun c => ?_)
            · replace h := h.1 c
              refine ex_iload_n (pc := 48) (fr_get fo_156_0 6 rfl) rfl ?_
              refine ex_iload_n (pc := 49) (fr_get fo_156_0 7 rfl) rfl ?_
              refine ex_isub (pc := 50) (fr_get fo_156_0 8 rfl) ?_
              exact ex_ireturn (pc := 51) (fr_get fo_156_0 9 rfl) rt_156 rfl rfl (ma_end_mk h)
            · replace h := h.2 c
              refine xv_tc (t := 52) ic_17 rfl (fun c => ?_) (fun c => ?_)
              · replace h := h.1 c
                refine ex_iload_n (pc := 52) (fr_get fo_156_0 10 rfl) rfl ?_
                refine ex_iload_n (pc := 53) (fr_get fo_156_0 11 rfl) rfl ?_
                refine ex_imul (pc := 54) (fr_get fo_156_0 12 rfl) ?_
                exact ex_ireturn (pc := 55) (fr_get fo_156_0 13 rfl) rt_156 rfl rfl (ma_end_mk h)
              · replace h := h.2 c
                refine xv_tn (t := 92) rfl ?_
                refine ex_iload_n (pc := 92) (fr_get fo_156_2 4 rfl) rfl ?_
                refine xv_bne (pc := 93) (fr_get fo_156_2 5 rfl) (t := 100) rfl (fun c => ?_) (fun c => ?_)
                · replace h := h.1 c
                  refine ex_iconst (pc := 100) (fr_get fo_156_2 8 rfl) ic_1 ?_
                  refine ex_goto (pc := 101) (fr_get fo_156_2 9 rfl) (t := 105) rfl ?_
                  exact ex_ireturn (pc := 105) (fr_get fo_156_2 11 rfl) rt_156 rfl rfl (ma_end_mk h)
                · replace h := h.2 c
                  refine ex_iload_n (pc := 96) (fr_get fo_156_2 6 rfl) rfl ?_
                  refine xv_beq (pc := 97) (fr_get fo_156_2 7 rfl) (t := 104) rfl (fun c => ?_) (fun c => ?_)
                  · replace h := h.1 c
                    refine ex_iconst (pc := 104) (fr_get fo_156_2 10 rfl) ic_0 ?_
                    exact ex_ireturn (pc := 105) (fr_get fo_156_2 11 rfl) rt_156 rfl rfl (ma_end_mk h)
                  · replace h := h.2 c
                    refine ex_iconst (pc := 100) (fr_get fo_156_2 8 rfl) ic_1 ?_
                    refine ex_goto (pc := 101) (fr_get fo_156_2 9 rfl) (t := 105) rfl ?_
                    exact ex_ireturn (pc := 105) (fr_get fo_156_2 11 rfl) rt_156 rfl rfl (ma_end_mk h)

theorem e_159 {d : Nat} {I : ma_I} {o : Nat} {Q : ma_Q} 
  (h :
    Q (some (.inl (((1 : Int32) <<< ((I 40 0 4) &&& 31)) - (1 : Int32)))) I o) :
  Exm (d) 159 [.inr (.inr (40, 0))] I o Q := by
  show Ex (d) 159 (0, [some (.inr (.inr (40, 0)))], [], ma_mem I o, 0, 0) (ma_end Q)
  refine ex_iconst (pc := 0) (fr_get fo_159_0 0 rfl) ic_1 ?_
  refine ex_aload_n (pc := 1) (fr_get fo_159_0 1 rfl) rfl rfl ?_
  refine xv_gi (pc := 2) (fr_get fo_159_0 2 rfl) ow_159 fg_9_7_40 rfl ?_
  refine ex_ishl (pc := 5) (fr_get fo_159_0 3 rfl) ?_
  refine ex_iconst (pc := 6) (fr_get fo_159_0 4 rfl) ic_1 ?_
  refine ex_isub (pc := 7) (fr_get fo_159_0 5 rfl) ?_
  exact ex_ireturn (pc := 8) (fr_get fo_159_0 6 rfl) rt_159 rfl rfl (ma_end_mk h)

/-! ===== what small methods answer ===== -/
section SM
variable {d : Nat} {I : ma_I} {o : Nat} {Q : ma_Q}
theorem sm_112 {a0 a1 a2 : Int32} (h : Q (some (.inl (xv_b (a1 ≤ a0 ∧ a0 ≤ a2)))) I o) : Exm d 112 [.inl a0, .inl a1, .inl a2] I o Q := by
  have hq : ∀ c, xv_b (a1 ≤ a0 ∧ a0 ≤ a2) = c → Q (some (.inl c)) I o := fun c e => e ▸ h
  refine e_112 ?_
  (repeat' first | (intro _) | (apply And.intro)) <;> (refine hq _ ?_)
  all_goals (simp only [xv_b, Int32.lt_iff_toInt_lt, Int32.le_iff_toInt_le] at *; split <;> first | rfl | (exfalso; omega))
theorem sm_118 {a0 a1 a2 : Int32} (h : Q (some (.inl (xv_b (a1 ≤ a0 ∧ a0 ≤ a2)))) I o) : Exm d 118 [.inl a0, .inl a1, .inl a2] I o Q := by
  have hq : ∀ c, xv_b (a1 ≤ a0 ∧ a0 ≤ a2) = c → Q (some (.inl c)) I o := fun c e => e ▸ h
  refine e_118 ?_
  (repeat' first | (intro _) | (apply And.intro)) <;> (refine hq _ ?_)
  all_goals (simp only [xv_b, Int32.lt_iff_toInt_lt, Int32.le_iff_toInt_le] at *; split <;> first | rfl | (exfalso; omega))
theorem sm_119 {a0 a1 : Int32} (h : Q (some (.inl (xv_lo a0 a1))) I o) : Exm d 119 [.inl a0, .inl a1] I o Q := by
  have hq : ∀ c, xv_lo a0 a1 = c → Q (some (.inl c)) I o := fun c e => e ▸ h
  refine e_119 ?_
  (repeat' first | (intro _) | (apply And.intro)) <;> (refine hq _ ?_)
  all_goals (simp only [xv_lo, Int32.lt_iff_toInt_lt, Int32.le_iff_toInt_le] at *; split <;> first | rfl | (exfalso; omega))
theorem sm_120 {a0 a1 : Int32} (h : Q (some (.inl (xv_hi a0 a1))) I o) : Exm d 120 [.inl a0, .inl a1] I o Q := by
  have hq : ∀ c, xv_hi a0 a1 = c → Q (some (.inl c)) I o := fun c e => e ▸ h
  refine e_120 ?_
  (repeat' first | (intro _) | (apply And.intro)) <;> (refine hq _ ?_)
  all_goals (simp only [xv_hi, Int32.lt_iff_toInt_lt, Int32.le_iff_toInt_le] at *; split <;> first | rfl | (exfalso; omega))
theorem sm_15 {n : Int32} (hn : I 6 0 4 = n) (h : Q (some (.inl (xv_al n))) I o) : Exm d 15 [.inr (.inr (6, 0))] I o Q := by
  subst hn
  exact e_15 h
theorem sm_159 {n : Int32} (hn : I 40 0 4 = n) (h : Q (some (.inl (xv_al n))) I o) : Exm d 159 [.inr (.inr (40, 0))] I o Q := by
  subst hn
  exact e_159 h
theorem sm_25 {a0 a1 a2 : Int32} (h : Q (some (.inl (xv_wi a0 a1 a2))) I o) : Exm d 25 [.inl a0, .inl a1, .inl a2] I o Q := by
  have hq : ∀ c, xv_wi a0 a1 a2 = c → Q (some (.inl c)) I o := fun c e => e ▸ h
  refine e_25 ?_
  (repeat' first | (intro _) | (apply And.intro)) <;> (refine hq _ ?_)
  all_goals (simp only [xv_wi, Int32.lt_iff_toInt_lt, Int32.le_iff_toInt_le] at *; (repeat' split) <;> first | rfl | (exfalso; omega))
theorem sm_60 {x w : Int32} (hx : I 10 0 1 = x) (hw : I 10 0 7 = w) (h : Q (some (.inl (x - w))) I o) : Exm d 60 [.inr (.inr (10, 0))] I o Q := by
  subst hx
  subst hw
  exact e_60 h
theorem sm_142 {t w a1 : Int32} (ht : I 40 0 18 = t) (hw : I 40 0 19 = w) (h : Q (some (.inl (xv_b (t = 4 ∧ w = a1)))) I o) : Exm d 142 [.inr (.inr (40, 0)), .inl a1] I o Q := by
  subst ht
  subst hw
  have hq : ∀ c, xv_b (I 40 0 18 = 4 ∧ I 40 0 19 = a1) = c → Q (some (.inl c)) I o := fun c e => e ▸ h
  refine e_142 ?_
  (repeat' first | (intro _) | (apply And.intro)) <;> (refine hq _ ?_)
  all_goals (simp_all [xv_b])
theorem sm_143 {t w a1 : Int32} (ht : I 40 0 18 = t) (hw : I 40 0 19 = w) (h : Q (some (.inl (xv_b (t = 3 ∧ w = a1)))) I o) : Exm d 143 [.inr (.inr (40, 0)), .inl a1] I o Q := by
  subst ht
  subst hw
  have hq : ∀ c, xv_b (I 40 0 18 = 3 ∧ I 40 0 19 = a1) = c → Q (some (.inl c)) I o := fun c e => e ▸ h
  refine e_143 ?_
  (repeat' first | (intro _) | (apply And.intro)) <;> (refine hq _ ?_)
  all_goals (simp_all [xv_b])
theorem sm_145 {a0 : Int32} (h : Q (some (.inl (xv_rk a0))) I o) : Exm d 145 [.inl a0] I o Q := by
  have hq : ∀ c, xv_rk a0 = c → Q (some (.inl c)) I o := fun c e => e ▸ h
  refine e_145 ?_
  (repeat' first | (intro _) | (apply And.intro)) <;> (refine hq _ ?_)
  all_goals (simp_all [xv_rk])
theorem sm_111 {a0 a1 : Int32} (h : Q (some (.inl (xv_b (xv_un a0 a1)))) I o) : Exm d 111 [.inl a0, .inl a1] I o Q := by
  have hq : ∀ c, xv_b (xv_un a0 a1) = c → Q (some (.inl c)) I o := fun c e => e ▸ h
  refine e_111 ?_
  (repeat' first | (intro _) | (apply And.intro)) <;> (refine hq _ ?_)
  all_goals (simp_all [xv_b, xv_un])
theorem sm_40 {q0 : Nat} {a1 a2 s : Int32} (hs : I 12 q0 1 = s) (h : Q (some (.inl (xv_b (xv_ho s a1 a2)))) I o) : Exm d 40 [.inr (.inr (12, q0)), .inl a1, .inl a2] I o Q := by
  subst hs
  have hq : ∀ c, xv_b (xv_ho (I 12 q0 1) a1 a2) = c → Q (some (.inl c)) I o := fun c e => e ▸ h
  refine e_40 ?_
  (repeat' first | (intro _) | (apply And.intro)) <;> (refine hq _ ?_)
  all_goals (simp only [xv_b, xv_ho, Int32.lt_iff_toInt_lt, Int32.le_iff_toInt_le] at *; split <;> first | rfl | (exfalso; omega))
theorem sm_24 {a1 a2 a3 a4 a5 a6 : Int32} (h : Q none (ma_up (ma_up (ma_up (ma_up (ma_up (ma_up I 26 0 0 a1) 26 0 1 a2) 26 0 2 a3) 26 0 3 a4) 26 0 4 a5) 26 0 5 a6) o) : Exm d 24 [.inr (.inr (6, 0)), .inl a1, .inl a2, .inl a3, .inl a4, .inl a5, .inl a6] I o Q := e_24 h
theorem sm_49 {a0 : Int32} (h : Q (some (.inl (xv_b (xv_sg a0)))) I o) : Exm d 49 [.inl a0] I o Q := by
  have hq : ∀ c, xv_b (xv_sg a0) = c → Q (some (.inl c)) I o := fun c e => e ▸ h
  refine e_49 ?_
  (repeat' first | (intro _) | (apply And.intro)) <;> (refine hq _ ?_)
  all_goals first | (refine xv_b1 ?_; simp_all [xv_sg]; done) | (refine xv_b0 ?_; simp_all [xv_sg]; done)
theorem sm_156 {a0 a1 a2 : Int32} (h : Q (some (.inl (xv_dn a0 a1 a2))) I o) : Exm d 156 [.inl a0, .inl a1, .inl a2] I o Q := by
  have hq : ∀ c, xv_dn a0 a1 a2 = c → Q (some (.inl c)) I o := fun c e => e ▸ h
  refine e_156 ?_
  (repeat' first | (intro _) | (apply And.intro)) <;> (refine hq _ ?_)
  all_goals first | (simp_all [xv_dn, xv_b]; done) | (simp only [xv_dn, xv_b]; simp_all [Int32.not_lt]; done)

theorem e_113 {d : Nat} {I : ma_I} {o : Nat} {Q : ma_Q} {a0 : Int32}
  (h :
    Q (some (.inl (xv_b ((0 : Int32) ≤ a0 ∧ a0 ≤ (7 : Int32))))) I o) :
  Exm (d + 1) 113 [.inl a0] I o Q := by
  show Ex (d + 1) 113 (0, [some (.inl a0)], [], ma_mem I o, 0, 0) (ma_end Q)
  refine ex_iload_n (pc := 0) (fr_get fo_113_0 0 rfl) rfl ?_
  refine ex_iconst (pc := 1) (fr_get fo_113_0 1 rfl) ic_0 ?_
  refine ex_bipush (pc := 2) (fr_get fo_113_0 2 rfl) bp_7 ?_
  refine xv_ks1 (pc := 4) (fr_get fo_113_0 3 rfl) cc_113_108 (as := [.inl a0, .inl (0 : Int32), .inl (7 : Int32)]) (rs := []) rfl rfl rfl rfl ?_
  refine sm_112 ?_
  refine ⟨_, rfl, ?_⟩
  exact ex_zreturn (pc := 7) (fr_get fo_113_0 4 rfl) rt_113 rfl rfl ⟨xv_b01, ma_end_mk h⟩

theorem e_114 {d : Nat} {I : ma_I} {o : Nat} {Q : ma_Q} {a0 : Int32}
  (h :
    Q (some (.inl (xv_b ((0 : Int32) ≤ a0 ∧ a0 ≤ (99 : Int32))))) I o) :
  Exm (d + 1) 114 [.inl a0] I o Q := by
  show Ex (d + 1) 114 (0, [some (.inl a0)], [], ma_mem I o, 0, 0) (ma_end Q)
  refine ex_iload_n (pc := 0) (fr_get fo_114_0 0 rfl) rfl ?_
  refine ex_iconst (pc := 1) (fr_get fo_114_0 1 rfl) ic_0 ?_
  refine ex_bipush (pc := 2) (fr_get fo_114_0 2 rfl) bp_99 ?_
  refine xv_ks1 (pc := 4) (fr_get fo_114_0 3 rfl) cc_114_108 (as := [.inl a0, .inl (0 : Int32), .inl (99 : Int32)]) (rs := []) rfl rfl rfl rfl ?_
  refine sm_112 ?_
  refine ⟨_, rfl, ?_⟩
  exact ex_zreturn (pc := 7) (fr_get fo_114_0 4 rfl) rt_114 rfl rfl ⟨xv_b01, ma_end_mk h⟩

theorem e_115 {d : Nat} {I : ma_I} {o : Nat} {Q : ma_Q} {a0 : Int32}
  (h :
    Q (some (.inl (xv_b ((0 : Int32) ≤ a0 ∧ a0 ≤ (3 : Int32))))) I o) :
  Exm (d + 1) 115 [.inl a0] I o Q := by
  show Ex (d + 1) 115 (0, [some (.inl a0)], [], ma_mem I o, 0, 0) (ma_end Q)
  refine ex_iload_n (pc := 0) (fr_get fo_115_0 0 rfl) rfl ?_
  refine ex_iconst (pc := 1) (fr_get fo_115_0 1 rfl) ic_0 ?_
  refine ex_iconst (pc := 2) (fr_get fo_115_0 2 rfl) ic_3 ?_
  refine xv_ks1 (pc := 3) (fr_get fo_115_0 3 rfl) cc_115_108 (as := [.inl a0, .inl (0 : Int32), .inl (3 : Int32)]) (rs := []) rfl rfl rfl rfl ?_
  refine sm_112 ?_
  refine ⟨_, rfl, ?_⟩
  exact ex_zreturn (pc := 6) (fr_get fo_115_0 4 rfl) rt_115 rfl rfl ⟨xv_b01, ma_end_mk h⟩

theorem e_116 {d : Nat} {I : ma_I} {o : Nat} {Q : ma_Q} {a1 : Int32}
  (h :
    Q (some (.inl (xv_b ((0 : Int32) ≤ a1 ∧ a1 ≤ ((I 6 0 4) - (1 : Int32)))))) I o) :
  Exm (d + 1) 116 [.inr (.inr (5, 0)), .inl a1] I o Q := by
  show Ex (d + 1) 116 (0, [some (.inr (.inr (5, 0))), some (.inl a1)], [], ma_mem I o, 0, 0) (ma_end Q)
  refine ex_iload_n (pc := 0) (fr_get fo_116_0 0 rfl) rfl ?_
  refine ex_iconst (pc := 1) (fr_get fo_116_0 1 rfl) ic_0 ?_
  refine ex_aload_n (pc := 2) (fr_get fo_116_0 2 rfl) rfl rfl ?_
  refine ex_gr (pc := 3) (fr_get fo_116_0 3 rfl) ow_116 fr_8_12_5 (q := (6, 0)) rfl ?_
  refine xv_gi (pc := 6) (fr_get fo_116_0 4 rfl) ow_116 fg_8_112_6 rfl ?_
  refine ex_iconst (pc := 9) (fr_get fo_116_0 5 rfl) ic_1 ?_
  refine ex_isub (pc := 10) (fr_get fo_116_0 6 rfl) ?_
  refine xv_ks1 (pc := 11) (fr_get fo_116_0 7 rfl) cc_116_108 (as := [.inl a1, .inl (0 : Int32), .inl ((I 6 0 4) - (1 : Int32))]) (rs := []) rfl rfl rfl rfl ?_
  refine sm_112 ?_
  refine ⟨_, rfl, ?_⟩
  exact ex_zreturn (pc := 14) (fr_get fo_116_0 8 rfl) rt_116 rfl rfl ⟨xv_b01, ma_end_mk h⟩

theorem e_117 {d : Nat} {I : ma_I} {o : Nat} {Q : ma_Q} {a1 : Int32}
  (h :
    Q (some (.inl (xv_b ((0 : Int32) ≤ a1 ∧ a1 ≤ ((I 6 0 1) - (1 : Int32)))))) I o) :
  Exm (d + 1) 117 [.inr (.inr (5, 0)), .inl a1] I o Q := by
  show Ex (d + 1) 117 (0, [some (.inr (.inr (5, 0))), some (.inl a1)], [], ma_mem I o, 0, 0) (ma_end Q)
  refine ex_iload_n (pc := 0) (fr_get fo_117_0 0 rfl) rfl ?_
  refine ex_iconst (pc := 1) (fr_get fo_117_0 1 rfl) ic_0 ?_
  refine ex_aload_n (pc := 2) (fr_get fo_117_0 2 rfl) rfl rfl ?_
  refine ex_gr (pc := 3) (fr_get fo_117_0 3 rfl) ow_117 fr_8_12_5 (q := (6, 0)) rfl ?_
  refine xv_gi (pc := 6) (fr_get fo_117_0 4 rfl) ow_117 fg_8_91_6 rfl ?_
  refine ex_iconst (pc := 9) (fr_get fo_117_0 5 rfl) ic_1 ?_
  refine ex_isub (pc := 10) (fr_get fo_117_0 6 rfl) ?_
  refine xv_ks1 (pc := 11) (fr_get fo_117_0 7 rfl) cc_117_108 (as := [.inl a1, .inl (0 : Int32), .inl ((I 6 0 1) - (1 : Int32))]) (rs := []) rfl rfl rfl rfl ?_
  refine sm_112 ?_
  refine ⟨_, rfl, ?_⟩
  exact ex_zreturn (pc := 14) (fr_get fo_117_0 8 rfl) rt_117 rfl rfl ⟨xv_b01, ma_end_mk h⟩

theorem e_121 {d : Nat} {I : ma_I} {o : Nat} {Q : ma_Q} {a0 : Int32}
  (h :
    Q (some (.inl (xv_b ((0 : Int32) ≤ a0 ∧ a0 ≤ (7 : Int32))))) I o) :
  Exm (d + 1) 121 [.inl a0] I o Q := by
  show Ex (d + 1) 121 (0, [some (.inl a0)], [], ma_mem I o, 0, 0) (ma_end Q)
  refine ex_iload_n (pc := 0) (fr_get fo_121_0 0 rfl) rfl ?_
  refine ex_iconst (pc := 1) (fr_get fo_121_0 1 rfl) ic_0 ?_
  refine ex_bipush (pc := 2) (fr_get fo_121_0 2 rfl) bp_7 ?_
  refine xv_ks1 (pc := 4) (fr_get fo_121_0 3 rfl) cc_121_3 (as := [.inl a0, .inl (0 : Int32), .inl (7 : Int32)]) (rs := []) rfl rfl rfl rfl ?_
  refine sm_118 ?_
  refine ⟨_, rfl, ?_⟩
  exact ex_zreturn (pc := 7) (fr_get fo_121_0 4 rfl) rt_121 rfl rfl ⟨xv_b01, ma_end_mk h⟩

theorem e_122 {d : Nat} {I : ma_I} {o : Nat} {Q : ma_Q} {a0 : Int32}
  (h :
    Q (some (.inl (xv_b ((0 : Int32) ≤ a0 ∧ a0 ≤ (99 : Int32))))) I o) :
  Exm (d + 1) 122 [.inl a0] I o Q := by
  show Ex (d + 1) 122 (0, [some (.inl a0)], [], ma_mem I o, 0, 0) (ma_end Q)
  refine ex_iload_n (pc := 0) (fr_get fo_122_0 0 rfl) rfl ?_
  refine ex_iconst (pc := 1) (fr_get fo_122_0 1 rfl) ic_0 ?_
  refine ex_bipush (pc := 2) (fr_get fo_122_0 2 rfl) bp_99 ?_
  refine xv_ks1 (pc := 4) (fr_get fo_122_0 3 rfl) cc_122_3 (as := [.inl a0, .inl (0 : Int32), .inl (99 : Int32)]) (rs := []) rfl rfl rfl rfl ?_
  refine sm_118 ?_
  refine ⟨_, rfl, ?_⟩
  exact ex_zreturn (pc := 7) (fr_get fo_122_0 4 rfl) rt_122 rfl rfl ⟨xv_b01, ma_end_mk h⟩

theorem e_123 {d : Nat} {I : ma_I} {o : Nat} {Q : ma_Q} {a1 : Int32}
  (h :
    Q (some (.inl (xv_b ((0 : Int32) ≤ a1 ∧ a1 ≤ ((I 40 0 4) - (1 : Int32)))))) I o) :
  Exm (d + 1) 123 [.inr (.inr (40, 0)), .inl a1] I o Q := by
  show Ex (d + 1) 123 (0, [some (.inr (.inr (40, 0))), some (.inl a1)], [], ma_mem I o, 0, 0) (ma_end Q)
  refine ex_iload_n (pc := 0) (fr_get fo_123_0 0 rfl) rfl ?_
  refine ex_iconst (pc := 1) (fr_get fo_123_0 1 rfl) ic_0 ?_
  refine ex_aload_n (pc := 2) (fr_get fo_123_0 2 rfl) rfl rfl ?_
  refine xv_gi (pc := 3) (fr_get fo_123_0 3 rfl) ow_123 fg_9_7_40 rfl ?_
  refine ex_iconst (pc := 6) (fr_get fo_123_0 4 rfl) ic_1 ?_
  refine ex_isub (pc := 7) (fr_get fo_123_0 5 rfl) ?_
  refine xv_ks1 (pc := 8) (fr_get fo_123_0 6 rfl) cc_123_3 (as := [.inl a1, .inl (0 : Int32), .inl ((I 40 0 4) - (1 : Int32))]) (rs := []) rfl rfl rfl rfl ?_
  refine sm_118 ?_
  refine ⟨_, rfl, ?_⟩
  exact ex_zreturn (pc := 11) (fr_get fo_123_0 7 rfl) rt_123 rfl rfl ⟨xv_b01, ma_end_mk h⟩

theorem e_178 {d : Nat} {I : ma_I} {o : Nat} {Q : ma_Q} {a0 : Int32}
  (h :
    Q (some (.inl (xv_b ((0 : Int32) ≤ a0 ∧ a0 ≤ (3 : Int32))))) I o) :
  Exm (d + 1) 178 [.inl a0] I o Q := by
  show Ex (d + 1) 178 (0, [some (.inl a0)], [], ma_mem I o, 0, 0) (ma_end Q)
  refine ex_iload_n (pc := 0) (fr_get fo_178_0 0 rfl) rfl ?_
  refine ex_iconst (pc := 1) (fr_get fo_178_0 1 rfl) ic_0 ?_
  refine ex_iconst (pc := 2) (fr_get fo_178_0 2 rfl) ic_3 ?_
  refine xv_ks1 (pc := 3) (fr_get fo_178_0 3 rfl) cc_178_3 (as := [.inl a0, .inl (0 : Int32), .inl (3 : Int32)]) (rs := []) rfl rfl rfl rfl ?_
  refine sm_118 ?_
  refine ⟨_, rfl, ?_⟩
  exact ex_zreturn (pc := 6) (fr_get fo_178_0 4 rfl) rt_178 rfl rfl ⟨xv_b01, ma_end_mk h⟩


theorem sm_113 {a0 : Int32} (h : Q (some (.inl (xv_b (0 ≤ a0 ∧ a0 ≤ 7)))) I o) : Exm (d + 1) 113 [.inl a0] I o Q := e_113 h
theorem sm_114 {a0 : Int32} (h : Q (some (.inl (xv_b (0 ≤ a0 ∧ a0 ≤ 99)))) I o) : Exm (d + 1) 114 [.inl a0] I o Q := e_114 h
theorem sm_115 {a0 : Int32} (h : Q (some (.inl (xv_b (0 ≤ a0 ∧ a0 ≤ 3)))) I o) : Exm (d + 1) 115 [.inl a0] I o Q := e_115 h
theorem sm_121 {a0 : Int32} (h : Q (some (.inl (xv_b (0 ≤ a0 ∧ a0 ≤ 7)))) I o) : Exm (d + 1) 121 [.inl a0] I o Q := e_121 h
theorem sm_122 {a0 : Int32} (h : Q (some (.inl (xv_b (0 ≤ a0 ∧ a0 ≤ 99)))) I o) : Exm (d + 1) 122 [.inl a0] I o Q := e_122 h
theorem sm_178 {a0 : Int32} (h : Q (some (.inl (xv_b (0 ≤ a0 ∧ a0 ≤ 3)))) I o) : Exm (d + 1) 178 [.inl a0] I o Q := e_178 h
theorem sm_116 {a1 n : Int32} (hn : I 6 0 4 = n) (h : Q (some (.inl (xv_b (0 ≤ a1 ∧ a1 ≤ n - 1)))) I o) : Exm (d + 1) 116 [.inr (.inr (5, 0)), .inl a1] I o Q := by
  subst hn
  exact e_116 h
theorem sm_117 {a1 n : Int32} (hn : I 6 0 1 = n) (h : Q (some (.inl (xv_b (0 ≤ a1 ∧ a1 ≤ n - 1)))) I o) : Exm (d + 1) 117 [.inr (.inr (5, 0)), .inl a1] I o Q := by
  subst hn
  exact e_117 h
theorem sm_123 {a1 n : Int32} (hn : I 40 0 4 = n) (h : Q (some (.inl (xv_b (0 ≤ a1 ∧ a1 ≤ n - 1)))) I o) : Exm (d + 1) 123 [.inr (.inr (40, 0)), .inl a1] I o Q := by
  subst hn
  exact e_123 h
end SM

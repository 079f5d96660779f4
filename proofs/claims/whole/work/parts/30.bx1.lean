/-! ===== stretches ===== -/
theorem e_1 {d : Nat} {I : ma_I} {o : Nat} {Q : ma_Q} 
  (h :
    Ex (d + 1) 1 (69, [some (.inr (.inr (7, 0))), some (.inr (.inr (6, 0))), some (.inl (0 : Int32))], [], ma_mem (ma_up (ma_cpy (ma_cpy (ma_up (ma_up (ma_up (ma_up I 7 0 0 (1 : Int32)) 7 0 1 (I 6 0 0)) 7 0 2 (I 6 0 8)) 7 0 3 (I 6 0 1)) 14 0 0 27 0 0 6) 15 0 0 28 0 0 6) 7 0 6 ((ma_cpy (ma_cpy (ma_up (ma_up (ma_up (ma_up I 7 0 0 (1 : Int32)) 7 0 1 (I 6 0 0)) 7 0 2 (I 6 0 8)) 7 0 3 (I 6 0 1)) 14 0 0 27 0 0 6) 15 0 0 28 0 0 6) 6 0 4)) o, 0, 0) (ma_end Q)) :
  Exm (d + 1) 1 [.inr (.inr (7, 0)), .inr (.inr (6, 0))] I o Q := by
  show Ex (d + 1) 1 (0, [some (.inr (.inr (7, 0))), some (.inr (.inr (6, 0))), none], [], ma_mem I o, 0, 0) (ma_end Q)
  refine ex_aload_n (pc := 0) (fr_get fo_1_0 0 rfl) rfl rfl ?_
  refine ex_iconst (pc := 1) (fr_get fo_1_0 1 rfl) ic_1 ?_
  refine xv_pb (pc := 2) (fr_get fo_1_0 2 rfl) ow_1 fb_0_25_7 (Or.inr rfl) ?_
  refine ex_aload_n (pc := 5) (fr_get fo_1_0 3 rfl) rfl rfl ?_
  refine ex_aload_n (pc := 6) (fr_get fo_1_0 4 rfl) rfl rfl ?_
  refine xv_gi (pc := 7) (fr_get fo_1_0 5 rfl) ow_1 fg_0_29_6 (xv_ug rfl) ?_
  refine ex_pi (pc := 10) (fr_get fo_1_0 6 rfl) ow_1 fp_0_35_7 ?_
  refine ex_aload_n (pc := 13) (fr_get fo_1_0 7 rfl) rfl rfl ?_
  refine ex_aload_n (pc := 14) (fr_get fo_1_0 8 rfl) rfl rfl ?_
  refine xv_gi (pc := 15) (fr_get fo_1_0 9 rfl) ow_1 fg_0_36_6 (Eq.trans (xv_ug rfl) (xv_ug rfl)) ?_
  refine ex_pi (pc := 18) (fr_get fo_1_0 10 rfl) ow_1 fp_0_39_7 ?_
  refine ex_aload_n (pc := 21) (fr_get fo_1_0 11 rfl) rfl rfl ?_
  refine ex_aload_n (pc := 22) (fr_get fo_1_0 12 rfl) rfl rfl ?_
  refine xv_gi (pc := 23) (fr_get fo_1_0 13 rfl) ow_1 fg_0_40_6 (Eq.trans (xv_ug rfl) (Eq.trans (xv_ug rfl) (xv_ug rfl))) ?_
  refine ex_pi (pc := 26) (fr_get fo_1_0 14 rfl) ow_1 fp_0_43_7 ?_
  refine ex_aload_n (pc := 29) (fr_get fo_1_0 15 rfl) rfl rfl ?_
  refine ex_gr (pc := 30) (fr_get fo_1_1 0 rfl) ow_1 fr_0_44_6 (q := (14, 0)) rfl ?_
  refine ex_iconst (pc := 33) (fr_get fo_1_1 1 rfl) ic_0 ?_
  refine ex_aload_n (pc := 34) (fr_get fo_1_1 2 rfl) rfl rfl ?_
  refine ex_gr (pc := 35) (fr_get fo_1_1 3 rfl) ow_1 fr_0_9_7 (q := (27, 0)) rfl ?_
  refine ex_iconst (pc := 38) (fr_get fo_1_1 4 rfl) ic_0 ?_
  refine ex_bipush (pc := 39) (fr_get fo_1_1 5 rfl) bp_6 ?_
  refine xv_acp (pc := 41) (fr_get fo_1_1 6 rfl) ow_1 cm_0_45 gy_14_27 (pn := 0) (qn := 0) (nn := 6) cl_0 cl_0 cl_6 gl_14 gl_27 cq_0_0_6_6_6 ?_
  refine ex_aload_n (pc := 44) (fr_get fo_1_1 7 rfl) rfl rfl ?_
  refine ex_gr (pc := 45) (fr_get fo_1_1 8 rfl) ow_1 fr_0_51_6 (q := (15, 0)) rfl ?_
  refine ex_iconst (pc := 48) (fr_get fo_1_1 9 rfl) ic_0 ?_
  refine ex_aload_n (pc := 49) (fr_get fo_1_1 10 rfl) rfl rfl ?_
  refine ex_gr (pc := 50) (fr_get fo_1_1 11 rfl) ow_1 fr_0_15_7 (q := (28, 0)) rfl ?_
  refine ex_iconst (pc := 53) (fr_get fo_1_1 12 rfl) ic_0 ?_
  refine ex_bipush (pc := 54) (fr_get fo_1_1 13 rfl) bp_6 ?_
  refine xv_acp (pc := 56) (fr_get fo_1_1 14 rfl) ow_1 cm_0_45 gy_15_28 (pn := 0) (qn := 0) (nn := 6) cl_0 cl_0 cl_6 gl_15 gl_28 cq_0_0_6_6_6 ?_
  refine ex_aload_n (pc := 59) (fr_get fo_1_1 15 rfl) rfl rfl ?_
  refine ex_aload_n (pc := 60) (fr_get fo_1_2 0 rfl) rfl rfl ?_
  refine xv_gi (pc := 61) (fr_get fo_1_2 1 rfl) ow_1 fg_0_52_6 rfl ?_
  refine ex_pi (pc := 64) (fr_get fo_1_2 2 rfl) ow_1 fp_0_55_7 ?_
  refine ex_iconst (pc := 67) (fr_get fo_1_2 3 rfl) ic_0 ?_
  refine ex_istore_n (pc := 68) (fr_get fo_1_2 4 rfl) rfl (L' := [some (.inr (.inr (7, 0))), some (.inr (.inr (6, 0))), some (.inl (0 : Int32))]) rfl ?_
  exact h

theorem b_1_69 {d : Nat} {I : ma_I} {o : Nat} {Q : ma_Q} {v2 : Int32}
  (h :
    (I 7 0 6 ≤ v2 →
      Q none I o) ∧
    (v2 < I 7 0 6 →
      ma_in v2 8 ∧
      ma_in v2 8 ∧
      Exm (d) 5 [.inr (.inr (30, v2.toNatClampNeg)), .inr (.inr (17, v2.toNatClampNeg))] I o (fun r J1 p2 => r = none ∧
        Ex (d + 1) 1 (69, [some (.inr (.inr (7, 0))), some (.inr (.inr (6, 0))), some (.inl (v2 + (1 : Int32)))], [], ma_mem J1 p2, 0, 0) (ma_end Q)))) :
  Ex (d + 1) 1 (69, [some (.inr (.inr (7, 0))), some (.inr (.inr (6, 0))), some (.inl v2)], [], ma_mem I o, 0, 0) (ma_end Q) := by
  refine ex_iload_n (pc := 69) (fr_get fo_1_2 5 rfl) rfl ?_
  refine ex_aload_n (pc := 70) (fr_get fo_1_2 6 rfl) rfl rfl ?_
  refine xv_gi (pc := 71) (fr_get fo_1_2 7 rfl) ow_1 fg_0_55_7 rfl ?_
  refine xv_cge (pc := 74) (fr_get fo_1_2 8 rfl) (t := 98) rfl (fun c => ?_) (fun c => ?_)
  · replace h := h.1 c
    exact ex_return (pc := 98) (fr_get fo_1_3 4 rfl) rt_1 rfl rfl (ma_end_mk h)
  · replace h := h.2 c
    refine ex_aload_n (pc := 77) (fr_get fo_1_2 9 rfl) rfl rfl ?_
    refine ex_gr (pc := 78) (fr_get fo_1_2 10 rfl) ow_1 fr_0_20_7 (q := (29, 0)) rfl ?_
    refine ex_iload_n (pc := 81) (fr_get fo_1_2 11 rfl) rfl ?_
    refine xv_aald (pc := 82) (fr_get fo_1_2 12 rfl) ga_29 gl_29 (q := (30, v2.toNatClampNeg)) rfl rfl h.1 ?_
    replace h := h.2
    refine ex_aload_n (pc := 83) (fr_get fo_1_2 13 rfl) rfl rfl ?_
    refine ex_gr (pc := 84) (fr_get fo_1_2 14 rfl) ow_1 fr_0_56_6 (q := (16, 0)) rfl ?_
    refine ex_iload_n (pc := 87) (fr_get fo_1_2 15 rfl) rfl ?_
    refine xv_aald (pc := 88) (fr_get fo_1_3 0 rfl) ga_16 gl_16 (q := (17, v2.toNatClampNeg)) rfl rfl h.1 ?_
    replace h := h.2
    refine xv_kv0 (pc := 89) (fr_get fo_1_3 1 rfl) cc_1_57 (as := [.inr (.inr (30, v2.toNatClampNeg)), .inr (.inr (17, v2.toNatClampNeg))]) (rs := []) rfl rfl rfl rfl rfl ?_
    refine h.mono (fun r J1 p2 h => ⟨h.1, ?_⟩)
    replace h := h.2
    refine xv_iinc (pc := 92) (fr_get fo_1_3 2 rfl) rfl ic_1 (L' := [some (.inr (.inr (7, 0))), some (.inr (.inr (6, 0))), some (.inl (v2 + (1 : Int32)))]) rfl ?_
    refine ex_goto (pc := 95) (fr_get fo_1_3 3 rfl) (t := 69) rfl ?_
    exact h

theorem e_2 {d : Nat} {I : ma_I} {o : Nat} {Q : ma_Q} 
  (h :
    Exm (d) 13 [.inr (.inr (6, 0))] (ma_cpy (ma_cpy (ma_up (ma_up (ma_up I 6 0 0 (I 7 0 1)) 6 0 8 (I 7 0 2)) 6 0 1 (I 7 0 3)) 27 0 0 14 0 0 6) 28 0 0 15 0 0 6) o (fun r J1 p2 => r = none ∧
      Ex (d + 1) 2 (60, [some (.inr (.inr (7, 0))), some (.inr (.inr (6, 0))), some (.inl (0 : Int32))], [], ma_mem J1 p2, 0, 0) (ma_end Q))) :
  Exm (d + 1) 2 [.inr (.inr (7, 0)), .inr (.inr (6, 0))] I o Q := by
  show Ex (d + 1) 2 (0, [some (.inr (.inr (7, 0))), some (.inr (.inr (6, 0))), none], [], ma_mem I o, 0, 0) (ma_end Q)
  refine ex_aload_n (pc := 0) (fr_get fo_2_0 0 rfl) rfl rfl ?_
  refine ex_aload_n (pc := 1) (fr_get fo_2_0 1 rfl) rfl rfl ?_
  refine xv_gi (pc := 2) (fr_get fo_2_0 2 rfl) ow_2 fg_0_35_7 rfl ?_
  refine ex_pi (pc := 5) (fr_get fo_2_0 3 rfl) ow_2 fp_0_29_6 ?_
  refine ex_aload_n (pc := 8) (fr_get fo_2_0 4 rfl) rfl rfl ?_
  refine ex_aload_n (pc := 9) (fr_get fo_2_0 5 rfl) rfl rfl ?_
  refine xv_gi (pc := 10) (fr_get fo_2_0 6 rfl) ow_2 fg_0_39_7 (xv_ug rfl) ?_
  refine ex_pi (pc := 13) (fr_get fo_2_0 7 rfl) ow_2 fp_0_36_6 ?_
  refine ex_aload_n (pc := 16) (fr_get fo_2_0 8 rfl) rfl rfl ?_
  refine ex_aload_n (pc := 17) (fr_get fo_2_0 9 rfl) rfl rfl ?_
  refine xv_gi (pc := 18) (fr_get fo_2_0 10 rfl) ow_2 fg_0_43_7 (Eq.trans (xv_ug rfl) (xv_ug rfl)) ?_
  refine ex_pi (pc := 21) (fr_get fo_2_0 11 rfl) ow_2 fp_0_40_6 ?_
  refine ex_aload_n (pc := 24) (fr_get fo_2_0 12 rfl) rfl rfl ?_
  refine ex_gr (pc := 25) (fr_get fo_2_0 13 rfl) ow_2 fr_0_9_7 (q := (27, 0)) rfl ?_
  refine ex_iconst (pc := 28) (fr_get fo_2_0 14 rfl) ic_0 ?_
  refine ex_aload_n (pc := 29) (fr_get fo_2_0 15 rfl) rfl rfl ?_
  refine ex_gr (pc := 30) (fr_get fo_2_1 0 rfl) ow_2 fr_0_44_6 (q := (14, 0)) rfl ?_
  refine ex_iconst (pc := 33) (fr_get fo_2_1 1 rfl) ic_0 ?_
  refine ex_bipush (pc := 34) (fr_get fo_2_1 2 rfl) bp_6 ?_
  refine xv_acp (pc := 36) (fr_get fo_2_1 3 rfl) ow_2 cm_0_45 gy_27_14 (pn := 0) (qn := 0) (nn := 6) cl_0 cl_0 cl_6 gl_27 gl_14 cq_0_0_6_6_6 ?_
  refine ex_aload_n (pc := 39) (fr_get fo_2_1 4 rfl) rfl rfl ?_
  refine ex_gr (pc := 40) (fr_get fo_2_1 5 rfl) ow_2 fr_0_15_7 (q := (28, 0)) rfl ?_
  refine ex_iconst (pc := 43) (fr_get fo_2_1 6 rfl) ic_0 ?_
  refine ex_aload_n (pc := 44) (fr_get fo_2_1 7 rfl) rfl rfl ?_
  refine ex_gr (pc := 45) (fr_get fo_2_1 8 rfl) ow_2 fr_0_51_6 (q := (15, 0)) rfl ?_
  refine ex_iconst (pc := 48) (fr_get fo_2_1 9 rfl) ic_0 ?_
  refine ex_bipush (pc := 49) (fr_get fo_2_1 10 rfl) bp_6 ?_
  refine xv_acp (pc := 51) (fr_get fo_2_1 11 rfl) ow_2 cm_0_45 gy_28_15 (pn := 0) (qn := 0) (nn := 6) cl_0 cl_0 cl_6 gl_28 gl_15 cq_0_0_6_6_6 ?_
  refine ex_aload_n (pc := 54) (fr_get fo_2_1 12 rfl) rfl rfl ?_
  refine xv_kv0 (pc := 55) (fr_get fo_2_1 13 rfl) cc_2_61 (as := [.inr (.inr (6, 0))]) (rs := []) rfl rfl rfl rfl rfl ?_
  refine h.mono (fun r J1 p2 h => ⟨h.1, ?_⟩)
  replace h := h.2
  refine ex_iconst (pc := 58) (fr_get fo_2_1 14 rfl) ic_0 ?_
  refine ex_istore_n (pc := 59) (fr_get fo_2_1 15 rfl) rfl (L' := [some (.inr (.inr (7, 0))), some (.inr (.inr (6, 0))), some (.inl (0 : Int32))]) rfl ?_
  exact h

theorem b_2_60 {d : Nat} {I : ma_I} {o : Nat} {Q : ma_Q} {v2 : Int32}
  (h :
    (I 6 0 4 ≤ v2 →
      Ex (d + 1) 2 (89, [some (.inr (.inr (7, 0))), some (.inr (.inr (6, 0))), some (.inl (0 : Int32))], [], ma_mem (ma_up I 6 0 4 (I 7 0 6)) o, 0, 0) (ma_end Q)) ∧
    (v2 < I 6 0 4 →
      Exm (d) 17 [.inr (.inr (6, 0)), .inl v2] I o (fun r J1 p2 => r = none ∧
        Ex (d + 1) 2 (60, [some (.inr (.inr (7, 0))), some (.inr (.inr (6, 0))), some (.inl (v2 + (1 : Int32)))], [], ma_mem J1 p2, 0, 0) (ma_end Q)))) :
  Ex (d + 1) 2 (60, [some (.inr (.inr (7, 0))), some (.inr (.inr (6, 0))), some (.inl v2)], [], ma_mem I o, 0, 0) (ma_end Q) := by
  refine ex_iload_n (pc := 60) (fr_get fo_2_2 0 rfl) rfl ?_
  refine ex_aload_n (pc := 61) (fr_get fo_2_2 1 rfl) rfl rfl ?_
  refine xv_gi (pc := 62) (fr_get fo_2_2 2 rfl) ow_2 fg_0_52_6 rfl ?_
  refine xv_cge (pc := 65) (fr_get fo_2_2 3 rfl) (t := 79) rfl (fun c => ?_) (fun c => ?_)
  · replace h := h.1 c
    refine ex_aload_n (pc := 79) (fr_get fo_2_2 9 rfl) rfl rfl ?_
    refine ex_aload_n (pc := 80) (fr_get fo_2_2 10 rfl) rfl rfl ?_
    refine xv_gi (pc := 81) (fr_get fo_2_2 11 rfl) ow_2 fg_0_55_7 rfl ?_
    refine ex_pi (pc := 84) (fr_get fo_2_2 12 rfl) ow_2 fp_0_52_6 ?_
    refine ex_iconst (pc := 87) (fr_get fo_2_2 13 rfl) ic_0 ?_
    refine ex_istore_n (pc := 88) (fr_get fo_2_2 14 rfl) rfl (L' := [some (.inr (.inr (7, 0))), some (.inr (.inr (6, 0))), some (.inl (0 : Int32))]) rfl ?_
    exact h
  · replace h := h.2 c
    refine ex_aload_n (pc := 68) (fr_get fo_2_2 4 rfl) rfl rfl ?_
    refine ex_iload_n (pc := 69) (fr_get fo_2_2 5 rfl) rfl ?_
    refine xv_kv0 (pc := 70) (fr_get fo_2_2 6 rfl) cc_2_64 (as := [.inr (.inr (6, 0)), .inl v2]) (rs := []) rfl rfl rfl rfl rfl ?_
    refine h.mono (fun r J1 p2 h => ⟨h.1, ?_⟩)
    replace h := h.2
    refine xv_iinc (pc := 73) (fr_get fo_2_2 7 rfl) rfl ic_1 (L' := [some (.inr (.inr (7, 0))), some (.inr (.inr (6, 0))), some (.inl (v2 + (1 : Int32)))]) rfl ?_
    refine ex_goto (pc := 76) (fr_get fo_2_2 8 rfl) (t := 60) rfl ?_
    exact h

theorem b_2_89 {d : Nat} {I : ma_I} {o : Nat} {Q : ma_Q} {v2 : Int32}
  (h :
    (I 7 0 6 ≤ v2 →
      Q none I o) ∧
    (v2 < I 7 0 6 →
      ma_in v2 8 ∧
      ma_in v2 8 ∧
      Exm (d) 5 [.inr (.inr (17, v2.toNatClampNeg)), .inr (.inr (30, v2.toNatClampNeg))] I o (fun r J1 p2 => r = none ∧
        Exm (d) 16 [.inr (.inr (6, 0)), .inl v2] J1 p2 (fun r J3 p4 => r = none ∧
          Ex (d + 1) 2 (89, [some (.inr (.inr (7, 0))), some (.inr (.inr (6, 0))), some (.inl (v2 + (1 : Int32)))], [], ma_mem J3 p4, 0, 0) (ma_end Q))))) :
  Ex (d + 1) 2 (89, [some (.inr (.inr (7, 0))), some (.inr (.inr (6, 0))), some (.inl v2)], [], ma_mem I o, 0, 0) (ma_end Q) := by
  refine ex_iload_n (pc := 89) (fr_get fo_2_2 15 rfl) rfl ?_
  refine ex_aload_n (pc := 90) (fr_get fo_2_3 0 rfl) rfl rfl ?_
  refine xv_gi (pc := 91) (fr_get fo_2_3 1 rfl) ow_2 fg_0_55_7 rfl ?_
  refine xv_cge (pc := 94) (fr_get fo_2_3 2 rfl) (t := 123) rfl (fun c => ?_) (fun c => ?_)
  · replace h := h.1 c
    exact ex_return (pc := 123) (fr_get fo_2_4 1 rfl) rt_2 rfl rfl (ma_end_mk h)
  · replace h := h.2 c
    refine ex_aload_n (pc := 97) (fr_get fo_2_3 3 rfl) rfl rfl ?_
    refine ex_gr (pc := 98) (fr_get fo_2_3 4 rfl) ow_2 fr_0_56_6 (q := (16, 0)) rfl ?_
    refine ex_iload_n (pc := 101) (fr_get fo_2_3 5 rfl) rfl ?_
    refine xv_aald (pc := 102) (fr_get fo_2_3 6 rfl) ga_16 gl_16 (q := (17, v2.toNatClampNeg)) rfl rfl h.1 ?_
    replace h := h.2
    refine ex_aload_n (pc := 103) (fr_get fo_2_3 7 rfl) rfl rfl ?_
    refine ex_gr (pc := 104) (fr_get fo_2_3 8 rfl) ow_2 fr_0_20_7 (q := (29, 0)) rfl ?_
    refine ex_iload_n (pc := 107) (fr_get fo_2_3 9 rfl) rfl ?_
    refine xv_aald (pc := 108) (fr_get fo_2_3 10 rfl) ga_29 gl_29 (q := (30, v2.toNatClampNeg)) rfl rfl h.1 ?_
    replace h := h.2
    refine xv_kv0 (pc := 109) (fr_get fo_2_3 11 rfl) cc_2_57 (as := [.inr (.inr (17, v2.toNatClampNeg)), .inr (.inr (30, v2.toNatClampNeg))]) (rs := []) rfl rfl rfl rfl rfl ?_
    refine h.mono (fun r J1 p2 h => ⟨h.1, ?_⟩)
    replace h := h.2
    refine ex_aload_n (pc := 112) (fr_get fo_2_3 12 rfl) rfl rfl ?_
    refine ex_iload_n (pc := 113) (fr_get fo_2_3 13 rfl) rfl ?_
    refine xv_kv0 (pc := 114) (fr_get fo_2_3 14 rfl) cc_2_68 (as := [.inr (.inr (6, 0)), .inl v2]) (rs := []) rfl rfl rfl rfl rfl ?_
    refine h.mono (fun r J3 p4 h => ⟨h.1, ?_⟩)
    replace h := h.2
    refine xv_iinc (pc := 117) (fr_get fo_2_3 15 rfl) rfl ic_1 (L' := [some (.inr (.inr (7, 0))), some (.inr (.inr (6, 0))), some (.inl (v2 + (1 : Int32)))]) rfl ?_
    refine ex_goto (pc := 120) (fr_get fo_2_4 0 rfl) (t := 89) rfl ?_
    exact h

theorem e_4_17 {d : Nat} {I : ma_I} {o : Nat} {Q : ma_Q} {q0 : Nat} {a1 : Int32} {a2 : Int32} {a3 : Int32} {a4 : Int32} {a5 : Int32} {a6 : Int32}
  (h :
    Q none (ma_up (ma_up (ma_up (ma_up (ma_up (ma_up I 17 q0 0 a1) 17 q0 1 a2) 17 q0 2 a3) 17 q0 3 a4) 17 q0 4 a5) 17 q0 5 a6) o) :
  Exm (d) 4 [.inr (.inr (17, q0)), .inl a1, .inl a2, .inl a3, .inl a4, .inl a5, .inl a6] I o Q := by
  show Ex (d) 4 (0, [some (.inr (.inr (17, q0))), some (.inl a1), some (.inl a2), some (.inl a3), some (.inl a4), some (.inl a5), some (.inl a6)], [], ma_mem I o, 0, 0) (ma_end Q)
  refine ex_aload_n (pc := 0) (fr_get fo_4_0 0 rfl) rfl rfl ?_
  refine ex_iload_n (pc := 1) (fr_get fo_4_0 1 rfl) rfl ?_
  refine ex_pi (pc := 2) (fr_get fo_4_0 2 rfl) ow_4 fp_1_9_17 ?_
  refine ex_aload_n (pc := 5) (fr_get fo_4_0 3 rfl) rfl rfl ?_
  refine ex_iload_n (pc := 6) (fr_get fo_4_0 4 rfl) rfl ?_
  refine ex_pi (pc := 7) (fr_get fo_4_0 5 rfl) ow_4 fp_1_15_17 ?_
  refine ex_aload_n (pc := 10) (fr_get fo_4_0 6 rfl) rfl rfl ?_
  refine ex_iload_n (pc := 11) (fr_get fo_4_0 7 rfl) rfl ?_
  refine ex_pi (pc := 12) (fr_get fo_4_0 8 rfl) ow_4 fp_1_18_17 ?_
  refine ex_aload_n (pc := 15) (fr_get fo_4_0 9 rfl) rfl rfl ?_
  refine ex_iload (pc := 16) (fr_get fo_4_0 10 rfl) rfl ?_
  refine ex_pi (pc := 18) (fr_get fo_4_0 11 rfl) ow_4 fp_1_21_17 ?_
  refine ex_aload_n (pc := 21) (fr_get fo_4_0 12 rfl) rfl rfl ?_
  refine ex_iload (pc := 22) (fr_get fo_4_0 13 rfl) rfl ?_
  refine ex_pi (pc := 24) (fr_get fo_4_0 14 rfl) ow_4 fp_1_24_17 ?_
  refine ex_aload_n (pc := 27) (fr_get fo_4_0 15 rfl) rfl rfl ?_
  refine ex_iload (pc := 28) (fr_get fo_4_1 0 rfl) rfl ?_
  refine ex_pi (pc := 30) (fr_get fo_4_1 1 rfl) ow_4 fp_1_27_17 ?_
  exact ex_return (pc := 33) (fr_get fo_4_1 2 rfl) rt_4 rfl rfl (ma_end_mk h)

theorem e_4_30 {d : Nat} {I : ma_I} {o : Nat} {Q : ma_Q} {q0 : Nat} {a1 : Int32} {a2 : Int32} {a3 : Int32} {a4 : Int32} {a5 : Int32} {a6 : Int32}
  (h :
    Q none (ma_up (ma_up (ma_up (ma_up (ma_up (ma_up I 30 q0 0 a1) 30 q0 1 a2) 30 q0 2 a3) 30 q0 3 a4) 30 q0 4 a5) 30 q0 5 a6) o) :
  Exm (d) 4 [.inr (.inr (30, q0)), .inl a1, .inl a2, .inl a3, .inl a4, .inl a5, .inl a6] I o Q := by
  show Ex (d) 4 (0, [some (.inr (.inr (30, q0))), some (.inl a1), some (.inl a2), some (.inl a3), some (.inl a4), some (.inl a5), some (.inl a6)], [], ma_mem I o, 0, 0) (ma_end Q)
  refine ex_aload_n (pc := 0) (fr_get fo_4_0 0 rfl) rfl rfl ?_
  refine ex_iload_n (pc := 1) (fr_get fo_4_0 1 rfl) rfl ?_
  refine ex_pi (pc := 2) (fr_get fo_4_0 2 rfl) ow_4 fp_1_9_30 ?_
  refine ex_aload_n (pc := 5) (fr_get fo_4_0 3 rfl) rfl rfl ?_
  refine ex_iload_n (pc := 6) (fr_get fo_4_0 4 rfl) rfl ?_
  refine ex_pi (pc := 7) (fr_get fo_4_0 5 rfl) ow_4 fp_1_15_30 ?_
  refine ex_aload_n (pc := 10) (fr_get fo_4_0 6 rfl) rfl rfl ?_
  refine ex_iload_n (pc := 11) (fr_get fo_4_0 7 rfl) rfl ?_
  refine ex_pi (pc := 12) (fr_get fo_4_0 8 rfl) ow_4 fp_1_18_30 ?_
  refine ex_aload_n (pc := 15) (fr_get fo_4_0 9 rfl) rfl rfl ?_
  refine ex_iload (pc := 16) (fr_get fo_4_0 10 rfl) rfl ?_
  refine ex_pi (pc := 18) (fr_get fo_4_0 11 rfl) ow_4 fp_1_21_30 ?_
  refine ex_aload_n (pc := 21) (fr_get fo_4_0 12 rfl) rfl rfl ?_
  refine ex_iload (pc := 22) (fr_get fo_4_0 13 rfl) rfl ?_
  refine ex_pi (pc := 24) (fr_get fo_4_0 14 rfl) ow_4 fp_1_24_30 ?_
  refine ex_aload_n (pc := 27) (fr_get fo_4_0 15 rfl) rfl rfl ?_
  refine ex_iload (pc := 28) (fr_get fo_4_1 0 rfl) rfl ?_
  refine ex_pi (pc := 30) (fr_get fo_4_1 1 rfl) ow_4 fp_1_27_30 ?_
  exact ex_return (pc := 33) (fr_get fo_4_1 2 rfl) rt_4 rfl rfl (ma_end_mk h)

theorem e_5_17_30 {d : Nat} {I : ma_I} {o : Nat} {Q : ma_Q} {q0 : Nat} {q1 : Nat}
  (h :
    Exm (d) 4 [.inr (.inr (17, q0)), .inl (I 30 q1 0), .inl (I 30 q1 1), .inl (I 30 q1 2), .inl (I 30 q1 3), .inl (I 30 q1 4), .inl (I 30 q1 5)] I o (fun r J1 p2 => r = none ∧
      Q none J1 p2)) :
  Exm (d + 1) 5 [.inr (.inr (17, q0)), .inr (.inr (30, q1))] I o Q := by
  show Ex (d + 1) 5 (0, [some (.inr (.inr (17, q0))), some (.inr (.inr (30, q1)))], [], ma_mem I o, 0, 0) (ma_end Q)
  refine ex_aload_n (pc := 0) (fr_get fo_5_0 0 rfl) rfl rfl ?_
  refine ex_aload_n (pc := 1) (fr_get fo_5_0 1 rfl) rfl rfl ?_
  refine xv_gi (pc := 2) (fr_get fo_5_0 2 rfl) ow_5 fg_1_9_30 rfl ?_
  refine ex_aload_n (pc := 5) (fr_get fo_5_0 3 rfl) rfl rfl ?_
  refine xv_gi (pc := 6) (fr_get fo_5_0 4 rfl) ow_5 fg_1_15_30 rfl ?_
  refine ex_aload_n (pc := 9) (fr_get fo_5_0 5 rfl) rfl rfl ?_
  refine xv_gi (pc := 10) (fr_get fo_5_0 6 rfl) ow_5 fg_1_18_30 rfl ?_
  refine ex_aload_n (pc := 13) (fr_get fo_5_0 7 rfl) rfl rfl ?_
  refine xv_gi (pc := 14) (fr_get fo_5_0 8 rfl) ow_5 fg_1_21_30 rfl ?_
  refine ex_aload_n (pc := 17) (fr_get fo_5_0 9 rfl) rfl rfl ?_
  refine xv_gi (pc := 18) (fr_get fo_5_0 10 rfl) ow_5 fg_1_24_30 rfl ?_
  refine ex_aload_n (pc := 21) (fr_get fo_5_0 11 rfl) rfl rfl ?_
  refine xv_gi (pc := 22) (fr_get fo_5_0 12 rfl) ow_5 fg_1_27_30 rfl ?_
  refine xv_kv0 (pc := 25) (fr_get fo_5_0 13 rfl) cc_5_30 (as := [.inr (.inr (17, q0)), .inl (I 30 q1 0), .inl (I 30 q1 1), .inl (I 30 q1 2), .inl (I 30 q1 3), .inl (I 30 q1 4), .inl (I 30 q1 5)]) (rs := []) rfl rfl rfl rfl rfl ?_
  refine h.mono (fun r J1 p2 h => ⟨h.1, ?_⟩)
  replace h := h.2
  exact ex_return (pc := 28) (fr_get fo_5_0 14 rfl) rt_5 rfl rfl (ma_end_mk h)

theorem e_5_30_17 {d : Nat} {I : ma_I} {o : Nat} {Q : ma_Q} {q0 : Nat} {q1 : Nat}
  (h :
    Exm (d) 4 [.inr (.inr (30, q0)), .inl (I 17 q1 0), .inl (I 17 q1 1), .inl (I 17 q1 2), .inl (I 17 q1 3), .inl (I 17 q1 4), .inl (I 17 q1 5)] I o (fun r J1 p2 => r = none ∧
      Q none J1 p2)) :
  Exm (d + 1) 5 [.inr (.inr (30, q0)), .inr (.inr (17, q1))] I o Q := by
  show Ex (d + 1) 5 (0, [some (.inr (.inr (30, q0))), some (.inr (.inr (17, q1)))], [], ma_mem I o, 0, 0) (ma_end Q)
  refine ex_aload_n (pc := 0) (fr_get fo_5_0 0 rfl) rfl rfl ?_
  refine ex_aload_n (pc := 1) (fr_get fo_5_0 1 rfl) rfl rfl ?_
  refine xv_gi (pc := 2) (fr_get fo_5_0 2 rfl) ow_5 fg_1_9_17 rfl ?_
  refine ex_aload_n (pc := 5) (fr_get fo_5_0 3 rfl) rfl rfl ?_
  refine xv_gi (pc := 6) (fr_get fo_5_0 4 rfl) ow_5 fg_1_15_17 rfl ?_
  refine ex_aload_n (pc := 9) (fr_get fo_5_0 5 rfl) rfl rfl ?_
  refine xv_gi (pc := 10) (fr_get fo_5_0 6 rfl) ow_5 fg_1_18_17 rfl ?_
  refine ex_aload_n (pc := 13) (fr_get fo_5_0 7 rfl) rfl rfl ?_
  refine xv_gi (pc := 14) (fr_get fo_5_0 8 rfl) ow_5 fg_1_21_17 rfl ?_
  refine ex_aload_n (pc := 17) (fr_get fo_5_0 9 rfl) rfl rfl ?_
  refine xv_gi (pc := 18) (fr_get fo_5_0 10 rfl) ow_5 fg_1_24_17 rfl ?_
  refine ex_aload_n (pc := 21) (fr_get fo_5_0 11 rfl) rfl rfl ?_
  refine xv_gi (pc := 22) (fr_get fo_5_0 12 rfl) ow_5 fg_1_27_17 rfl ?_
  refine xv_kv0 (pc := 25) (fr_get fo_5_0 13 rfl) cc_5_30 (as := [.inr (.inr (30, q0)), .inl (I 17 q1 0), .inl (I 17 q1 1), .inl (I 17 q1 2), .inl (I 17 q1 3), .inl (I 17 q1 4), .inl (I 17 q1 5)]) (rs := []) rfl rfl rfl rfl rfl ?_
  refine h.mono (fun r J1 p2 h => ⟨h.1, ?_⟩)
  replace h := h.2
  exact ex_return (pc := 28) (fr_get fo_5_0 14 rfl) rt_5 rfl rfl (ma_end_mk h)

theorem e_6 {d : Nat} {I : ma_I} {o : Nat} {Q : ma_Q} {q0 : Nat} {a1 : Int32}
  (h :
    (a1 = (1 : Int32) →
      Q (some (.inl (I 17 q0 1))) I o) ∧
    (a1 ≠ (1 : Int32) →
      (a1 = (2 : Int32) →
        Q (some (.inl (I 17 q0 2))) I o) ∧
      (a1 ≠ (2 : Int32) →
        (a1 = (3 : Int32) →
          Q (some (.inl (I 17 q0 3))) I o) ∧
        (a1 ≠ (3 : Int32) →
          (a1 = (4 : Int32) →
            Q (some (.inl (I 17 q0 4))) I o) ∧
          (a1 ≠ (4 : Int32) →
            (a1 = (5 : Int32) →
              Q (some (.inl (I 17 q0 5))) I o) ∧
            (a1 ≠ (5 : Int32) →
              (a1 = (6 : Int32) →
                Q (some (.inl (-100 : Int32))) I o) ∧
              (a1 ≠ (6 : Int32) →
                (a1 = (7 : Int32) →
                  Q (some (.inl (I 17 q0 0))) I o) ∧
                (a1 ≠ (7 : Int32) →
                  Q (some (.inl (-100 : Int32))) I o)))))))) :
  Exm (d) 6 [.inr (.inr (17, q0)), .inl a1] I o Q := by
  show Ex (d) 6 (0, [some (.inr (.inr (17, q0))), some (.inl a1)], [], ma_mem I o, 0, 0) (ma_end Q)
  refine ex_iload_n (pc := 0) (fr_get fo_6_0 0 rfl) rfl ?_
  refine xv_ts (pc := 1) (fr_get fo_6_0 1 rfl) (l := [43, 48, 53, 58, 63, 73, 68]) rfl tk_6_1 ?_
  refine xv_tc (t := 44) ic_1 rfl (fun c => ?_) (fun c => ?_)
  · replace h := h.1 c
    refine ex_aload_n (pc := 44) (fr_get fo_6_0 2 rfl) rfl rfl ?_
    refine xv_gi (pc := 45) (fr_get fo_6_0 3 rfl) ow_6 fg_1_15_17 rfl ?_
    exact ex_ireturn (pc := 48) (fr_get fo_6_0 4 rfl) rt_6 rfl rfl (ma_end_mk h)
  · replace h := h.2 c
    refine xv_tc (t := 49) ic_2 rfl (fun c => ?_) (fun c => ?_)
    · replace h := h.1 c
      refine ex_aload_n (pc := 49) (fr_get fo_6_0 5 rfl) rfl rfl ?_
      refine xv_gi (pc := 50) (fr_get fo_6_0 6 rfl) ow_6 fg_1_18_17 rfl ?_
      exact ex_ireturn (pc := 53) (fr_get fo_6_0 7 rfl) rt_6 rfl rfl (ma_end_mk h)
    · replace h := h.2 c
      refine xv_tc (t := 54) ic_3 rfl (fun c => ?_) (fun c => ?_)
      · replace h := h.1 c
        refine ex_aload_n (pc := 54) (fr_get fo_6_0 8 rfl) rfl rfl ?_
        refine xv_gi (pc := 55) (fr_get fo_6_0 9 rfl) ow_6 fg_1_21_17 rfl ?_
        exact ex_ireturn (pc := 58) (fr_get fo_6_0 10 rfl) rt_6 rfl rfl (ma_end_mk h)
      · replace h := h.2 c
        refine xv_tc (t := 59) ic_4 rfl (fun c => ?_) (fun c => ?_)
        · replace h := h.1 c
          refine ex_aload_n (pc := 59) (fr_get fo_6_0 11 rfl) rfl rfl ?_
          refine xv_gi (pc := 60) (fr_get fo_6_0 12 rfl) ow_6 fg_1_24_17 rfl ?_
          exact ex_ireturn (pc := 63) (fr_get fo_6_0 13 rfl) rt_6 rfl rfl (ma_end_mk h)
        · replace h := h.2 c
          refine xv_tc (t := 64) ic_5 rfl (fun c => ?_) (fun c => ?_)
          · replace h := h.1 c
            refine ex_aload_n (pc := 64) (fr_get fo_6_0 14 rfl) rfl rfl ?_
            refine xv_gi (pc := 65) (fr_get fo_6_0 15 rfl) ow_6 fg_1_27_17 rfl ?_
            exact ex_ireturn (pc := 68) (fr_get fo_6_1 0 rfl) rt_6 rfl rfl (ma_end_mk h)
          · replace h := h.2 c
            refine xv_tc (t := 74) ic_6 rfl (fun c => ?_) (fun c => ?_)
            · replace h := h.1 c
              refine ex_bipush (pc := 74) (fr_get fo_6_1 4 rfl) bp_m100 ?_
              exact ex_ireturn (pc := 76) (fr_get fo_6_1 5 rfl) rt_6 rfl rfl (ma_end_mk h)
            · replace h := h.2 c
              refine xv_tc (t := 69) ic_7 rfl (fun c => ?_) (fun c => ?_)
              · replace h := h.1 c
                refine ex_aload_n (pc := 69) (fr_get fo_6_1 1 rfl) rfl rfl ?_
                refine xv_gi (pc := 70) (fr_get fo_6_1 2 rfl) ow_6 fg_1_9_17 rfl ?_
                exact ex_ireturn (pc := 73) (fr_get fo_6_1 3 rfl) rt_6 rfl rfl (ma_end_mk h)
              · replace h := h.2 c
                refine xv_tn (t := 74) rfl ?_
                refine ex_bipush (pc := 74) (fr_get fo_6_1 4 rfl) bp_m100 ?_
                exact ex_ireturn (pc := 76) (fr_get fo_6_1 5 rfl) rt_6 rfl rfl (ma_end_mk h)

theorem e_7 {d : Nat} {I : ma_I} {o : Nat} {Q : ma_Q} {q0 : Nat} {a1 : Int32} {a2 : Int32}
  (h :
    (a1 = (1 : Int32) →
      Q (some (.inl (xv_b ((0 : Int32) ≤ a2 ∧ a2 ≤ (9 : Int32))))) I o) ∧
    (a1 ≠ (1 : Int32) →
      (a1 = (2 : Int32) →
        (¬((0 : Int32) ≤ a2 ∧ a2 ≤ (7 : Int32)) →
          Q (some (.inl (0 : Int32))) I o) ∧
        ((0 : Int32) ≤ a2 ∧ a2 ≤ (7 : Int32) →
          (a2 = I 17 q0 3 →
            Q (some (.inl (0 : Int32))) I o) ∧
          (a2 ≠ I 17 q0 3 →
            Q (some (.inl (1 : Int32))) I o))) ∧
      (a1 ≠ (2 : Int32) →
        (a1 = (3 : Int32) →
          (¬((0 : Int32) ≤ a2 ∧ a2 ≤ (7 : Int32)) →
            Q (some (.inl (0 : Int32))) I o) ∧
          ((0 : Int32) ≤ a2 ∧ a2 ≤ (7 : Int32) →
            (a2 = I 17 q0 2 →
              Q (some (.inl (0 : Int32))) I o) ∧
            (a2 ≠ I 17 q0 2 →
              Q (some (.inl (1 : Int32))) I o))) ∧
        (a1 ≠ (3 : Int32) →
          (a1 = (4 : Int32) →
            Q (some (.inl (xv_b ((0 : Int32) ≤ a2 ∧ a2 ≤ (I 17 q0 5))))) I o) ∧
          (a1 ≠ (4 : Int32) →
            (a1 = (5 : Int32) →
              Q (some (.inl (xv_b ((I 17 q0 4) ≤ a2 ∧ a2 ≤ (99 : Int32))))) I o) ∧
            (a1 ≠ (5 : Int32) →
              Q (some (.inl (0 : Int32))) I o)))))) :
  Exm (d + 2) 7 [.inr (.inr (17, q0)), .inl a1, .inl a2] I o Q := by
  show Ex (d + 2) 7 (0, [some (.inr (.inr (17, q0))), some (.inl a1), some (.inl a2)], [], ma_mem I o, 0, 0) (ma_end Q)
  refine ex_iload_n (pc := 0) (fr_get fo_7_0 0 rfl) rfl ?_
  refine xv_ts (pc := 1) (fr_get fo_7_0 1 rfl) (l := [35, 43, 64, 85, 95]) rfl tk_7_1 ?_
  refine xv_tc (t := 36) ic_1 rfl (fun c => ?_) (fun c => ?_)
  · replace h := h.1 c
    refine ex_iload_n (pc := 36) (fr_get fo_7_0 2 rfl) rfl ?_
    refine ex_iconst (pc := 37) (fr_get fo_7_0 3 rfl) ic_0 ?_
    refine ex_bipush (pc := 38) (fr_get fo_7_0 4 rfl) bp_9 ?_
    refine xv_ks1 (pc := 40) (fr_get fo_7_0 5 rfl) cc_7_34 (as := [.inl a2, .inl (0 : Int32), .inl (9 : Int32)]) (rs := []) rfl rfl rfl rfl ?_
    refine sm_112 ?_
    refine ⟨_, rfl, ?_⟩
    exact ex_zreturn (pc := 43) (fr_get fo_7_0 6 rfl) rt_7 rfl rfl ⟨xv_b01, ma_end_mk h⟩
  · replace h := h.2 c
    refine xv_tc (t := 44) ic_2 rfl (fun c => ?_) (fun c => ?_)
    · replace h := h.1 c
      refine ex_iload_n (pc := 44) (fr_get fo_7_0 7 rfl) rfl ?_
      refine xv_ks1 (pc := 45) (fr_get fo_7_0 8 rfl) cc_7_38 (as := [.inl a2]) (rs := []) rfl rfl rfl rfl ?_
      refine sm_113 ?_
      refine ⟨_, rfl, ?_⟩
      refine xv_peq (pc := 48) (fr_get fo_7_0 9 rfl) (t := 63) rfl (fun c => ?_) (fun c => ?_)
      · replace h := h.1 c
        refine ex_iconst (pc := 63) (fr_get fo_7_1 0 rfl) ic_0 ?_
        exact ex_zreturn (pc := 64) (fr_get fo_7_1 1 rfl) rt_7 rfl rfl ⟨Or.inl rfl, ma_end_mk h⟩
      · replace h := h.2 c
        refine ex_iload_n (pc := 51) (fr_get fo_7_0 10 rfl) rfl ?_
        refine ex_aload_n (pc := 52) (fr_get fo_7_0 11 rfl) rfl rfl ?_
        refine xv_gi (pc := 53) (fr_get fo_7_0 12 rfl) ow_7 fg_1_21_17 rfl ?_
        refine xv_ceq (pc := 56) (fr_get fo_7_0 13 rfl) (t := 63) rfl (fun c => ?_) (fun c => ?_)
        · replace h := h.1 c
          refine ex_iconst (pc := 63) (fr_get fo_7_1 0 rfl) ic_0 ?_
          exact ex_zreturn (pc := 64) (fr_get fo_7_1 1 rfl) rt_7 rfl rfl ⟨Or.inl rfl, ma_end_mk h⟩
        · replace h := h.2 c
          refine ex_iconst (pc := 59) (fr_get fo_7_0 14 rfl) ic_1 ?_
          refine ex_goto (pc := 60) (fr_get fo_7_0 15 rfl) (t := 64) rfl ?_
          exact ex_zreturn (pc := 64) (fr_get fo_7_1 1 rfl) rt_7 rfl rfl ⟨Or.inr rfl, ma_end_mk h⟩
    · replace h := h.2 c
      refine xv_tc (t := 65) ic_3 rfl (fun c => ?_) (fun c => ?_)
      · replace h := h.1 c
        refine ex_iload_n (pc := 65) (fr_get fo_7_1 2 rfl) rfl ?_
        refine xv_ks1 (pc := 66) (fr_get fo_7_1 3 rfl) cc_7_38 (as := [.inl a2]) (rs := []) rfl rfl rfl rfl ?_
        refine sm_113 ?_
        refine ⟨_, rfl, ?_⟩
        refine xv_peq (pc := 69) (fr_get fo_7_1 4 rfl) (t := 84) rfl (fun c => ?_) (fun c => ?_)
        · replace h := h.1 c
          refine ex_iconst (pc := 84) (fr_get fo_7_1 11 rfl) ic_0 ?_
          exact ex_zreturn (pc := 85) (fr_get fo_7_1 12 rfl) rt_7 rfl rfl ⟨Or.inl rfl, ma_end_mk h⟩
        · replace h := h.2 c
          refine ex_iload_n (pc := 72) (fr_get fo_7_1 5 rfl) rfl ?_
          refine ex_aload_n (pc := 73) (fr_get fo_7_1 6 rfl) rfl rfl ?_
          refine xv_gi (pc := 74) (fr_get fo_7_1 7 rfl) ow_7 fg_1_18_17 rfl ?_
          refine xv_ceq (pc := 77) (fr_get fo_7_1 8 rfl) (t := 84) rfl (fun c => ?_) (fun c => ?_)
          · replace h := h.1 c
            refine ex_iconst (pc := 84) (fr_get fo_7_1 11 rfl) ic_0 ?_
            exact ex_zreturn (pc := 85) (fr_get fo_7_1 12 rfl) rt_7 rfl rfl ⟨Or.inl rfl, ma_end_mk h⟩
          · replace h := h.2 c
            refine ex_iconst (pc := 80) (fr_get fo_7_1 9 rfl) ic_1 ?_
            refine ex_goto (pc := 81) (fr_get fo_7_1 10 rfl) (t := 85) rfl ?_
            exact ex_zreturn (pc := 85) (fr_get fo_7_1 12 rfl) rt_7 rfl rfl ⟨Or.inr rfl, ma_end_mk h⟩
      · replace h := h.2 c
        refine xv_tc (t := 86) ic_4 rfl (fun c => ?_) (fun c => ?_)
        · replace h := h.1 c
          refine ex_iload_n (pc := 86) (fr_get fo_7_1 13 rfl) rfl ?_
          refine ex_iconst (pc := 87) (fr_get fo_7_1 14 rfl) ic_0 ?_
          refine ex_aload_n (pc := 88) (fr_get fo_7_1 15 rfl) rfl rfl ?_
          refine xv_gi (pc := 89) (fr_get fo_7_2 0 rfl) ow_7 fg_1_27_17 rfl ?_
          refine xv_ks1 (pc := 92) (fr_get fo_7_2 1 rfl) cc_7_34 (as := [.inl a2, .inl (0 : Int32), .inl (I 17 q0 5)]) (rs := []) rfl rfl rfl rfl ?_
          refine sm_112 ?_
          refine ⟨_, rfl, ?_⟩
          exact ex_zreturn (pc := 95) (fr_get fo_7_2 2 rfl) rt_7 rfl rfl ⟨xv_b01, ma_end_mk h⟩
        · replace h := h.2 c
          refine xv_tc (t := 96) ic_5 rfl (fun c => ?_) (fun c => ?_)
          · replace h := h.1 c
            refine ex_iload_n (pc := 96) (fr_get fo_7_2 3 rfl) rfl ?_
            refine ex_aload_n (pc := 97) (fr_get fo_7_2 4 rfl) rfl rfl ?_
            refine xv_gi (pc := 98) (fr_get fo_7_2 5 rfl) ow_7 fg_1_24_17 rfl ?_
            refine ex_bipush (pc := 101) (fr_get fo_7_2 6 rfl) bp_99 ?_
            refine xv_ks1 (pc := 103) (fr_get fo_7_2 7 rfl) cc_7_34 (as := [.inl a2, .inl (I 17 q0 4), .inl (99 : Int32)]) (rs := []) rfl rfl rfl rfl ?_
            refine sm_112 ?_
            refine ⟨_, rfl, ?_⟩
            exact ex_zreturn (pc := 106) (fr_get fo_7_2 8 rfl) rt_7 rfl rfl ⟨xv_b01, ma_end_mk h⟩
          · replace h := h.2 c
            refine xv_tn (t := 107) rfl ?_
            refine ex_iconst (pc := 107) (fr_get fo_7_2 9 rfl) ic_0 ?_
            exact ex_zreturn (pc := 108) (fr_get fo_7_2 10 rfl) rt_7 rfl rfl ⟨Or.inl rfl, ma_end_mk h⟩

theorem e_8 {d : Nat} {I : ma_I} {o : Nat} {Q : ma_Q} {q0 : Nat} {a1 : Int32} {a2 : Int32}
  (h :
    (a1 = (1 : Int32) →
      Q none (ma_up I 17 q0 1 a2) o) ∧
    (a1 ≠ (1 : Int32) →
      (a1 = (2 : Int32) →
        Q none (ma_up I 17 q0 2 a2) o) ∧
      (a1 ≠ (2 : Int32) →
        (a1 = (3 : Int32) →
          Q none (ma_up I 17 q0 3 a2) o) ∧
        (a1 ≠ (3 : Int32) →
          (a1 = (4 : Int32) →
            Q none (ma_up I 17 q0 4 a2) o) ∧
          (a1 ≠ (4 : Int32) →
            (a1 = (5 : Int32) →
              Q none (ma_up I 17 q0 5 a2) o) ∧
            (a1 ≠ (5 : Int32) →
              Q none I o)))))) :
  Exm (d) 8 [.inr (.inr (17, q0)), .inl a1, .inl a2] I o Q := by
  show Ex (d) 8 (0, [some (.inr (.inr (17, q0))), some (.inl a1), some (.inl a2)], [], ma_mem I o, 0, 0) (ma_end Q)
  refine ex_iload_n (pc := 0) (fr_get fo_8_0 0 rfl) rfl ?_
  refine xv_ts (pc := 1) (fr_get fo_8_0 1 rfl) (l := [35, 43, 51, 59, 67]) rfl tk_8_1 ?_
  refine xv_tc (t := 36) ic_1 rfl (fun c => ?_) (fun c => ?_)
  · replace h := h.1 c
    refine ex_aload_n (pc := 36) (fr_get fo_8_0 2 rfl) rfl rfl ?_
    refine ex_iload_n (pc := 37) (fr_get fo_8_0 3 rfl) rfl ?_
    refine ex_pi (pc := 38) (fr_get fo_8_0 4 rfl) ow_8 fp_1_15_17 ?_
    refine ex_goto (pc := 41) (fr_get fo_8_0 5 rfl) (t := 76) rfl ?_
    exact ex_return (pc := 76) (fr_get fo_8_1 6 rfl) rt_8 rfl rfl (ma_end_mk h)
  · replace h := h.2 c
    refine xv_tc (t := 44) ic_2 rfl (fun c => ?_) (fun c => ?_)
    · replace h := h.1 c
      refine ex_aload_n (pc := 44) (fr_get fo_8_0 6 rfl) rfl rfl ?_
      refine ex_iload_n (pc := 45) (fr_get fo_8_0 7 rfl) rfl ?_
      refine ex_pi (pc := 46) (fr_get fo_8_0 8 rfl) ow_8 fp_1_18_17 ?_
      refine ex_goto (pc := 49) (fr_get fo_8_0 9 rfl) (t := 76) rfl ?_
      exact ex_return (pc := 76) (fr_get fo_8_1 6 rfl) rt_8 rfl rfl (ma_end_mk h)
    · replace h := h.2 c
      refine xv_tc (t := 52) ic_3 rfl (fun c => ?_) (fun c => ?_)
      · replace h := h.1 c
        refine ex_aload_n (pc := 52) (fr_get fo_8_0 10 rfl) rfl rfl ?_
        refine ex_iload_n (pc := 53) (fr_get fo_8_0 11 rfl) rfl ?_
        refine ex_pi (pc := 54) (fr_get fo_8_0 12 rfl) ow_8 fp_1_21_17 ?_
        refine ex_goto (pc := 57) (fr_get fo_8_0 13 rfl) (t := 76) rfl ?_
        exact ex_return (pc := 76) (fr_get fo_8_1 6 rfl) rt_8 rfl rfl (ma_end_mk h)
      · replace h := h.2 c
        refine xv_tc (t := 60) ic_4 rfl (fun c => ?_) (fun c => ?_)
        · replace h := h.1 c
          refine ex_aload_n (pc := 60) (fr_get fo_8_0 14 rfl) rfl rfl ?_
          refine ex_iload_n (pc := 61) (fr_get fo_8_0 15 rfl) rfl ?_
          refine ex_pi (pc := 62) (fr_get fo_8_1 0 rfl) ow_8 fp_1_24_17 ?_
          refine ex_goto (pc := 65) (fr_get fo_8_1 1 rfl) (t := 76) rfl ?_
          exact ex_return (pc := 76) (fr_get fo_8_1 6 rfl) rt_8 rfl rfl (ma_end_mk h)
        · replace h := h.2 c
          refine xv_tc (t := 68) ic_5 rfl (fun c => ?_) (fun c => ?_)
          · replace h := h.1 c
            refine ex_aload_n (pc := 68) (fr_get fo_8_1 2 rfl) rfl rfl ?_
            refine ex_iload_n (pc := 69) (fr_get fo_8_1 3 rfl) rfl ?_
            refine ex_pi (pc := 70) (fr_get fo_8_1 4 rfl) ow_8 fp_1_27_17 ?_
            refine ex_goto (pc := 73) (fr_get fo_8_1 5 rfl) (t := 76) rfl ?_
            exact ex_return (pc := 76) (fr_get fo_8_1 6 rfl) rt_8 rfl rfl (ma_end_mk h)
          · replace h := h.2 c
            refine xv_tn (t := 76) rfl ?_
            exact ex_return (pc := 76) (fr_get fo_8_1 6 rfl) rt_8 rfl rfl (ma_end_mk h)

theorem e_9 {d : Nat} {I : ma_I} {o : Nat} {Q : ma_Q} {q0 : Nat} {a1 : Int32}
  (h :
    (I 17 q0 0 = (2 : Int32) →
      (¬((I 17 q0 4) ≤ a1 ∧ a1 ≤ (I 17 q0 5)) →
        Q (some (.inl (0 : Int32))) I o) ∧
      ((I 17 q0 4) ≤ a1 ∧ a1 ≤ (I 17 q0 5) →
        Exm (d) 10 [.inr (.inr (17, q0)), .inl a1] I o (fun r J1 p2 => ∃ x3 : Int32, r = some (.inl x3) ∧
          (x3 = 0 →
            Q (some (.inl (0 : Int32))) J1 p2) ∧
          (x3 ≠ 0 →
            Q (some (.inl (1 : Int32))) J1 p2)))) ∧
    (I 17 q0 0 ≠ (2 : Int32) →
      (I 17 q0 0 = (3 : Int32) →
        (¬((I 17 q0 4) ≤ a1 ∧ a1 ≤ (I 17 q0 5)) →
          Q (some (.inl (0 : Int32))) I o) ∧
        ((I 17 q0 4) ≤ a1 ∧ a1 ≤ (I 17 q0 5) →
          (a1 = I 17 q0 4 →
            Q (some (.inl (0 : Int32))) I o) ∧
          (a1 ≠ I 17 q0 4 →
            Q (some (.inl (1 : Int32))) I o))) ∧
      (I 17 q0 0 ≠ (3 : Int32) →
        (I 17 q0 0 = (4 : Int32) →
          (¬((I 17 q0 4) ≤ a1 ∧ a1 ≤ (I 17 q0 5)) →
            (¬(((I 17 q0 5) + (1 : Int32)) ≤ a1 ∧ a1 ≤ ((I 17 q0 5) + (I 17 q0 1))) →
              Q (some (.inl (0 : Int32))) I o) ∧
            (((I 17 q0 5) + (1 : Int32)) ≤ a1 ∧ a1 ≤ ((I 17 q0 5) + (I 17 q0 1)) →
              Q (some (.inl (1 : Int32))) I o)) ∧
          ((I 17 q0 4) ≤ a1 ∧ a1 ≤ (I 17 q0 5) →
            Exm (d) 10 [.inr (.inr (17, q0)), .inl a1] I o (fun r J4 p5 => ∃ x6 : Int32, r = some (.inl x6) ∧
              (x6 ≠ 0 →
                Q (some (.inl (1 : Int32))) J4 p5) ∧
              (x6 = 0 →
                (¬(((J4 17 q0 5) + (1 : Int32)) ≤ a1 ∧ a1 ≤ ((J4 17 q0 5) + (J4 17 q0 1))) →
                  Q (some (.inl (0 : Int32))) J4 p5) ∧
                (((J4 17 q0 5) + (1 : Int32)) ≤ a1 ∧ a1 ≤ ((J4 17 q0 5) + (J4 17 q0 1)) →
                  Q (some (.inl (1 : Int32))) J4 p5))))) ∧
        (I 17 q0 0 ≠ (4 : Int32) →
          (I 17 q0 0 = (5 : Int32) →
            (a1 < I 17 q0 4 →
              Q (some (.inl (0 : Int32))) I o) ∧
            (I 17 q0 4 ≤ a1 →
              Q (some (.inl (1 : Int32))) I o)) ∧
          (I 17 q0 0 ≠ (5 : Int32) →
            Q (some (.inl (xv_b ((I 17 q0 4) ≤ a1 ∧ a1 ≤ (I 17 q0 5))))) I o))))) :
  Exm (d + 1) 9 [.inr (.inr (17, q0)), .inl a1] I o Q := by
  show Ex (d + 1) 9 (0, [some (.inr (.inr (17, q0))), some (.inl a1), none], [], ma_mem I o, 0, 0) (ma_end Q)
  refine ex_iload_n (pc := 0) (fr_get fo_9_0 0 rfl) rfl ?_
  refine ex_aload_n (pc := 1) (fr_get fo_9_0 1 rfl) rfl rfl ?_
  refine xv_gi (pc := 2) (fr_get fo_9_0 2 rfl) ow_9 fg_1_24_17 rfl ?_
  refine ex_aload_n (pc := 5) (fr_get fo_9_0 3 rfl) rfl rfl ?_
  refine xv_gi (pc := 6) (fr_get fo_9_0 4 rfl) ow_9 fg_1_27_17 rfl ?_
  refine xv_ks1 (pc := 9) (fr_get fo_9_0 5 rfl) cc_9_34 (as := [.inl a1, .inl (I 17 q0 4), .inl (I 17 q0 5)]) (rs := []) rfl rfl rfl rfl ?_
  refine sm_112 ?_
  refine ⟨_, rfl, ?_⟩
  refine ex_istore_n (pc := 12) (fr_get fo_9_0 6 rfl) rfl (L' := [some (.inr (.inr (17, q0))), some (.inl a1), some (.inl (xv_b ((I 17 q0 4) ≤ a1 ∧ a1 ≤ (I 17 q0 5))))]) rfl ?_
  refine ex_aload_n (pc := 13) (fr_get fo_9_0 7 rfl) rfl rfl ?_
  refine xv_gi (pc := 14) (fr_get fo_9_0 8 rfl) ow_9 fg_1_9_17 rfl ?_
  refine xv_ts (pc := 17) (fr_get fo_9_0 9 rfl) (l := [31, 49, 67, 107]) rfl tk_9_17 ?_
  refine xv_tc (t := 48) ic_2 rfl (fun c => ?_) (fun c => ?_)
  · replace h := h.1 c
    refine ex_iload_n (pc := 48) (fr_get fo_9_0 10 rfl) rfl ?_
    refine xv_peq (pc := 49) (fr_get fo_9_0 11 rfl) (t := 64) rfl (fun c => ?_) (fun c => ?_)
    · replace h := h.1 c
      refine ex_iconst (pc := 64) (fr_get fo_9_1 2 rfl) ic_0 ?_
      exact ex_zreturn (pc := 65) (fr_get fo_9_1 3 rfl) rt_9 rfl rfl ⟨Or.inl rfl, ma_end_mk h⟩
    · replace h := h.2 c
      refine ex_aload_n (pc := 52) (fr_get fo_9_0 12 rfl) rfl rfl ?_
      refine ex_iload_n (pc := 53) (fr_get fo_9_0 13 rfl) rfl ?_
      refine xv_kv1 (pc := 54) (fr_get fo_9_0 14 rfl) cc_9_42 (as := [.inr (.inr (17, q0)), .inl a1]) (rs := []) rfl rfl rfl rfl rfl ?_
      refine h.mono (fun r J1 p2 h => ?_)
      obtain ⟨x3, hr, h⟩ := h
      refine ⟨x3, hr, ?_⟩
      refine xv_beq (pc := 57) (fr_get fo_9_0 15 rfl) (t := 64) rfl (fun c => ?_) (fun c => ?_)
      · replace h := h.1 c
        refine ex_iconst (pc := 64) (fr_get fo_9_1 2 rfl) ic_0 ?_
        exact ex_zreturn (pc := 65) (fr_get fo_9_1 3 rfl) rt_9 rfl rfl ⟨Or.inl rfl, ma_end_mk h⟩
      · replace h := h.2 c
        refine ex_iconst (pc := 60) (fr_get fo_9_1 0 rfl) ic_1 ?_
        refine ex_goto (pc := 61) (fr_get fo_9_1 1 rfl) (t := 65) rfl ?_
        exact ex_zreturn (pc := 65) (fr_get fo_9_1 3 rfl) rt_9 rfl rfl ⟨Or.inr rfl, ma_end_mk h⟩
  · replace h := h.2 c
    refine xv_tc (t := 66) ic_3 rfl (fun c => ?_) (fun c => ?_)
    · replace h := h.1 c
      refine ex_iload_n (pc := 66) (fr_get fo_9_1 4 rfl) rfl ?_
      refine xv_peq (pc := 67) (fr_get fo_9_1 5 rfl) (t := 82) rfl (fun c => ?_) (fun c => ?_)
      · replace h := h.1 c
        refine ex_iconst (pc := 82) (fr_get fo_9_1 12 rfl) ic_0 ?_
        exact ex_zreturn (pc := 83) (fr_get fo_9_1 13 rfl) rt_9 rfl rfl ⟨Or.inl rfl, ma_end_mk h⟩
      · replace h := h.2 c
        refine ex_iload_n (pc := 70) (fr_get fo_9_1 6 rfl) rfl ?_
        refine ex_aload_n (pc := 71) (fr_get fo_9_1 7 rfl) rfl rfl ?_
        refine xv_gi (pc := 72) (fr_get fo_9_1 8 rfl) ow_9 fg_1_24_17 rfl ?_
        refine xv_ceq (pc := 75) (fr_get fo_9_1 9 rfl) (t := 82) rfl (fun c => ?_) (fun c => ?_)
        · replace h := h.1 c
          refine ex_iconst (pc := 82) (fr_get fo_9_1 12 rfl) ic_0 ?_
          exact ex_zreturn (pc := 83) (fr_get fo_9_1 13 rfl) rt_9 rfl rfl ⟨Or.inl rfl, ma_end_mk h⟩
        · replace h := h.2 c
          refine ex_iconst (pc := 78) (fr_get fo_9_1 10 rfl) ic_1 ?_
          refine ex_goto (pc := 79) (fr_get fo_9_1 11 rfl) (t := 83) rfl ?_
          exact ex_zreturn (pc := 83) (fr_get fo_9_1 13 rfl) rt_9 rfl rfl ⟨Or.inr rfl, ma_end_mk h⟩
    · replace h := h.2 c
      refine xv_tc (t := 84) ic_4 rfl (fun c => ?_) (fun c => ?_)
      · replace h := h.1 c
        refine ex_iload_n (pc := 84) (fr_get fo_9_1 14 rfl) rfl ?_
        refine xv_peq (pc := 85) (fr_get fo_9_1 15 rfl) (t := 96) rfl (fun c => ?_) (fun c => ?_)
        · replace h := h.1 c
          refine ex_iload_n (pc := 96) (fr_get fo_9_2 4 rfl) rfl ?_
          refine ex_aload_n (pc := 97) (fr_get fo_9_2 5 rfl) rfl rfl ?_
          refine xv_gi (pc := 98) (fr_get fo_9_2 6 rfl) ow_9 fg_1_27_17 rfl ?_
          refine ex_iconst (pc := 101) (fr_get fo_9_2 7 rfl) ic_1 ?_
          refine ex_iadd (pc := 102) (fr_get fo_9_2 8 rfl) ?_
          refine ex_aload_n (pc := 103) (fr_get fo_9_2 9 rfl) rfl rfl ?_
          refine xv_gi (pc := 104) (fr_get fo_9_2 10 rfl) ow_9 fg_1_27_17 rfl ?_
          refine ex_aload_n (pc := 107) (fr_get fo_9_2 11 rfl) rfl rfl ?_
          refine xv_gi (pc := 108) (fr_get fo_9_2 12 rfl) ow_9 fg_1_15_17 rfl ?_
          refine ex_iadd (pc := 111) (fr_get fo_9_2 13 rfl) ?_
          refine xv_ks1 (pc := 112) (fr_get fo_9_2 14 rfl) cc_9_34 (as := [.inl a1, .inl ((I 17 q0 5) + (1 : Int32)), .inl ((I 17 q0 5) + (I 17 q0 1))]) (rs := []) rfl rfl rfl rfl ?_
          refine sm_112 ?_
          refine ⟨_, rfl, ?_⟩
          refine xv_peq (pc := 115) (fr_get fo_9_2 15 rfl) (t := 122) rfl (fun c => ?_) (fun c => ?_)
          · replace h := h.1 c
            refine ex_iconst (pc := 122) (fr_get fo_9_3 2 rfl) ic_0 ?_
            exact ex_zreturn (pc := 123) (fr_get fo_9_3 3 rfl) rt_9 rfl rfl ⟨Or.inl rfl, ma_end_mk h⟩
          · replace h := h.2 c
            refine ex_iconst (pc := 118) (fr_get fo_9_3 0 rfl) ic_1 ?_
            refine ex_goto (pc := 119) (fr_get fo_9_3 1 rfl) (t := 123) rfl ?_
            exact ex_zreturn (pc := 123) (fr_get fo_9_3 3 rfl) rt_9 rfl rfl ⟨Or.inr rfl, ma_end_mk h⟩
        · replace h := h.2 c
          refine ex_aload_n (pc := 88) (fr_get fo_9_2 0 rfl) rfl rfl ?_
          refine ex_iload_n (pc := 89) (fr_get fo_9_2 1 rfl) rfl ?_
          refine xv_kv1 (pc := 90) (fr_get fo_9_2 2 rfl) cc_9_42 (as := [.inr (.inr (17, q0)), .inl a1]) (rs := []) rfl rfl rfl rfl rfl ?_
          refine h.mono (fun r J4 p5 h => ?_)
          obtain ⟨x6, hr, h⟩ := h
          refine ⟨x6, hr, ?_⟩
          refine xv_bne (pc := 93) (fr_get fo_9_2 3 rfl) (t := 118) rfl (fun c => ?_) (fun c => ?_)
          · replace h := h.1 c
            refine ex_iconst (pc := 118) (fr_get fo_9_3 0 rfl) ic_1 ?_
            refine ex_goto (pc := 119) (fr_get fo_9_3 1 rfl) (t := 123) rfl ?_
            exact ex_zreturn (pc := 123) (fr_get fo_9_3 3 rfl) rt_9 rfl rfl ⟨Or.inr rfl, ma_end_mk h⟩
          · replace h := h.2 c
            refine ex_iload_n (pc := 96) (fr_get fo_9_2 4 rfl) rfl ?_
            refine ex_aload_n (pc := 97) (fr_get fo_9_2 5 rfl) rfl rfl ?_
            refine xv_gi (pc := 98) (fr_get fo_9_2 6 rfl) ow_9 fg_1_27_17 rfl ?_
            refine ex_iconst (pc := 101) (fr_get fo_9_2 7 rfl) ic_1 ?_
            refine ex_iadd (pc := 102) (fr_get fo_9_2 8 rfl) ?_
            refine ex_aload_n (pc := 103) (fr_get fo_9_2 9 rfl) rfl rfl ?_
            refine xv_gi (pc := 104) (fr_get fo_9_2 10 rfl) ow_9 fg_1_27_17 rfl ?_
            refine ex_aload_n (pc := 107) (fr_get fo_9_2 11 rfl) rfl rfl ?_
            refine xv_gi (pc := 108) (fr_get fo_9_2 12 rfl) ow_9 fg_1_15_17 rfl ?_
            refine ex_iadd (pc := 111) (fr_get fo_9_2 13 rfl) ?_
            refine xv_ks1 (pc := 112) (fr_get fo_9_2 14 rfl) cc_9_34 (as := [.inl a1, .inl ((J4 17 q0 5) + (1 : Int32)), .inl ((J4 17 q0 5) + (J4 17 q0 1))]) (rs := []) rfl rfl rfl rfl ?_
            refine sm_112 ?_
            refine ⟨_, rfl, ?_⟩
            refine xv_peq (pc := 115) (fr_get fo_9_2 15 rfl) (t := 122) rfl (fun c => ?_) (fun c => ?_)
            · replace h := h.1 c
              refine ex_iconst (pc := 122) (fr_get fo_9_3 2 rfl) ic_0 ?_
              exact ex_zreturn (pc := 123) (fr_get fo_9_3 3 rfl) rt_9 rfl rfl ⟨Or.inl rfl, ma_end_mk h⟩
            · replace h := h.2 c
              refine ex_iconst (pc := 118) (fr_get fo_9_3 0 rfl) ic_1 ?_
              refine ex_goto (pc := 119) (fr_get fo_9_3 1 rfl) (t := 123) rfl ?_
              exact ex_zreturn (pc := 123) (fr_get fo_9_3 3 rfl) rt_9 rfl rfl ⟨Or.inr rfl, ma_end_mk h⟩
      · replace h := h.2 c
        refine xv_tc (t := 124) ic_5 rfl (fun c => ?_) (fun c => ?_)
        · replace h := h.1 c
          refine ex_iload_n (pc := 124) (fr_get fo_9_3 4 rfl) rfl ?_
          refine ex_aload_n (pc := 125) (fr_get fo_9_3 5 rfl) rfl rfl ?_
          refine xv_gi (pc := 126) (fr_get fo_9_3 6 rfl) ow_9 fg_1_24_17 rfl ?_
          refine xv_clt (pc := 129) (fr_get fo_9_3 7 rfl) (t := 136) rfl (fun c => ?_) (fun c => ?_)
          · replace h := h.1 c
            refine ex_iconst (pc := 136) (fr_get fo_9_3 10 rfl) ic_0 ?_
            exact ex_zreturn (pc := 137) (fr_get fo_9_3 11 rfl) rt_9 rfl rfl ⟨Or.inl rfl, ma_end_mk h⟩
          · replace h := h.2 c
            refine ex_iconst (pc := 132) (fr_get fo_9_3 8 rfl) ic_1 ?_
            refine ex_goto (pc := 133) (fr_get fo_9_3 9 rfl) (t := 137) rfl ?_
            exact ex_zreturn (pc := 137) (fr_get fo_9_3 11 rfl) rt_9 rfl rfl ⟨Or.inr rfl, ma_end_mk h⟩
        · replace h := h.2 c
          refine xv_tn (t := 138) rfl ?_
          refine ex_iload_n (pc := 138) (fr_get fo_9_3 12 rfl) rfl ?_
          exact ex_zreturn (pc := 139) (fr_get fo_9_3 13 rfl) rt_9 rfl rfl ⟨xv_b01, ma_end_mk h⟩

theorem e_10 {d : Nat} {I : ma_I} {o : Nat} {Q : ma_Q} {q0 : Nat} {a1 : Int32}
  (h :
    ((I 17 q0 1) + (1 : Int32) ≤ 0 →
      Q (some (.inl (0 : Int32))) I o) ∧
    (0 < (I 17 q0 1) + (1 : Int32) →
      (I 17 q0 1) + (1 : Int32) ≠ 0 ∧
      (xv_rm a1 ((I 17 q0 1) + (1 : Int32)) ≠ 0 →
        Q (some (.inl (0 : Int32))) I o) ∧
      (xv_rm a1 ((I 17 q0 1) + (1 : Int32)) = 0 →
        Q (some (.inl (1 : Int32))) I o))) :
  Exm (d) 10 [.inr (.inr (17, q0)), .inl a1] I o Q := by
  show Ex (d) 10 (0, [some (.inr (.inr (17, q0))), some (.inl a1), none], [], ma_mem I o, 0, 0) (ma_end Q)
  refine ex_aload_n (pc := 0) (fr_get fo_10_0 0 rfl) rfl rfl ?_
  refine xv_gi (pc := 1) (fr_get fo_10_0 1 rfl) ow_10 fg_1_15_17 rfl ?_
  refine ex_iconst (pc := 4) (fr_get fo_10_0 2 rfl) ic_1 ?_
  refine ex_iadd (pc := 5) (fr_get fo_10_0 3 rfl) ?_
  refine ex_istore_n (pc := 6) (fr_get fo_10_0 4 rfl) rfl (L' := [some (.inr (.inr (17, q0))), some (.inl a1), some (.inl ((I 17 q0 1) + (1 : Int32)))]) rfl ?_
  refine ex_iload_n (pc := 7) (fr_get fo_10_0 5 rfl) rfl ?_
  refine xv_ble (pc := 8) (fr_get fo_10_0 6 rfl) (t := 21) rfl (fun c => ?_) (fun c => ?_)
  · replace h := h.1 c
    refine ex_iconst (pc := 21) (fr_get fo_10_0 13 rfl) ic_0 ?_
    exact ex_zreturn (pc := 22) (fr_get fo_10_0 14 rfl) rt_10 rfl rfl ⟨Or.inl rfl, ma_end_mk h⟩
  · replace h := h.2 c
    refine ex_iload_n (pc := 11) (fr_get fo_10_0 7 rfl) rfl ?_
    refine ex_iload_n (pc := 12) (fr_get fo_10_0 8 rfl) rfl ?_
    refine xv_irem (pc := 13) (fr_get fo_10_0 9 rfl) h.1 ?_
    replace h := h.2
    refine xv_bne (pc := 14) (fr_get fo_10_0 10 rfl) (t := 21) rfl (fun c => ?_) (fun c => ?_)
    · replace h := h.1 c
      refine ex_iconst (pc := 21) (fr_get fo_10_0 13 rfl) ic_0 ?_
      exact ex_zreturn (pc := 22) (fr_get fo_10_0 14 rfl) rt_10 rfl rfl ⟨Or.inl rfl, ma_end_mk h⟩
    · replace h := h.2 c
      refine ex_iconst (pc := 17) (fr_get fo_10_0 11 rfl) ic_1 ?_
      refine ex_goto (pc := 18) (fr_get fo_10_0 12 rfl) (t := 22) rfl ?_
      exact ex_zreturn (pc := 22) (fr_get fo_10_0 14 rfl) rt_10 rfl rfl ⟨Or.inr rfl, ma_end_mk h⟩

theorem e_11 {d : Nat} {I : ma_I} {o : Nat} {Q : ma_Q} {q0 : Nat} {a1 : Int32}
  (h :
    (I 17 q0 0 = (1 : Int32) →
      Q (some (.inl (a1 + (I 17 q0 1)))) I o) ∧
    (I 17 q0 0 ≠ (1 : Int32) →
      (I 17 q0 0 = (2 : Int32) →
        Q (some (.inl a1)) I o) ∧
      (I 17 q0 0 ≠ (2 : Int32) →
        (I 17 q0 0 = (3 : Int32) →
          Q (some (.inl ((2 : Int32) * (a1 + (I 17 q0 1))))) I o) ∧
        (I 17 q0 0 ≠ (3 : Int32) →
          (I 17 q0 0 = (4 : Int32) →
            Q (some (.inl (a1 + (1 : Int32)))) I o) ∧
          (I 17 q0 0 ≠ (4 : Int32) →
            Q (some (.inl a1)) I o))))) :
  Exm (d) 11 [.inr (.inr (17, q0)), .inl a1] I o Q := by
  show Ex (d) 11 (0, [some (.inr (.inr (17, q0))), some (.inl a1)], [], ma_mem I o, 0, 0) (ma_end Q)
  refine ex_aload_n (pc := 0) (fr_get fo_11_0 0 rfl) rfl rfl ?_
  refine xv_gi (pc := 1) (fr_get fo_11_0 1 rfl) ow_11 fg_1_9_17 rfl ?_
  refine xv_ts (pc := 4) (fr_get fo_11_0 2 rfl) (l := [32, 52, 39, 48]) rfl tk_11_4 ?_
  refine xv_tc (t := 36) ic_1 rfl (fun c => ?_) (fun c => ?_)
  · replace h := h.1 c
    refine ex_iload_n (pc := 36) (fr_get fo_11_0 3 rfl) rfl ?_
    refine ex_aload_n (pc := 37) (fr_get fo_11_0 4 rfl) rfl rfl ?_
    refine xv_gi (pc := 38) (fr_get fo_11_0 5 rfl) ow_11 fg_1_15_17 rfl ?_
    refine ex_iadd (pc := 41) (fr_get fo_11_0 6 rfl) ?_
    exact ex_ireturn (pc := 42) (fr_get fo_11_0 7 rfl) rt_11 rfl rfl (ma_end_mk h)
  · replace h := h.2 c
    refine xv_tc (t := 56) ic_2 rfl (fun c => ?_) (fun c => ?_)
    · replace h := h.1 c
      refine ex_iload_n (pc := 56) (fr_get fo_11_1 3 rfl) rfl ?_
      exact ex_ireturn (pc := 57) (fr_get fo_11_1 4 rfl) rt_11 rfl rfl (ma_end_mk h)
    · replace h := h.2 c
      refine xv_tc (t := 43) ic_3 rfl (fun c => ?_) (fun c => ?_)
      · replace h := h.1 c
        refine ex_iconst (pc := 43) (fr_get fo_11_0 8 rfl) ic_2 ?_
        refine ex_iload_n (pc := 44) (fr_get fo_11_0 9 rfl) rfl ?_
        refine ex_aload_n (pc := 45) (fr_get fo_11_0 10 rfl) rfl rfl ?_
        refine xv_gi (pc := 46) (fr_get fo_11_0 11 rfl) ow_11 fg_1_15_17 rfl ?_
        refine ex_iadd (pc := 49) (fr_get fo_11_0 12 rfl) ?_
        refine ex_imul (pc := 50) (fr_get fo_11_0 13 rfl) ?_
        exact ex_ireturn (pc := 51) (fr_get fo_11_0 14 rfl) rt_11 rfl rfl (ma_end_mk h)
      · replace h := h.2 c
        refine xv_tc (t := 52) ic_4 rfl (fun c => ?_) (fun c => ?_)
        · replace h := h.1 c
          refine ex_iload_n (pc := 52) (fr_get fo_11_0 15 rfl) rfl ?_
          refine ex_iconst (pc := 53) (fr_get fo_11_1 0 rfl) ic_1 ?_
          refine ex_iadd (pc := 54) (fr_get fo_11_1 1 rfl) ?_
          exact ex_ireturn (pc := 55) (fr_get fo_11_1 2 rfl) rt_11 rfl rfl (ma_end_mk h)
        · replace h := h.2 c
          refine xv_tn (t := 56) rfl ?_
          refine ex_iload_n (pc := 56) (fr_get fo_11_1 3 rfl) rfl ?_
          exact ex_ireturn (pc := 57) (fr_get fo_11_1 4 rfl) rt_11 rfl rfl (ma_end_mk h)

theorem e_13 {d : Nat} {I : ma_I} {o : Nat} {Q : ma_Q} 
  (h :
    Ex (d) 13 (6, [some (.inr (.inr (6, 0))), some (.inl (0 : Int32)), some (.inl (0 : Int32)), some (.inl (0 : Int32))], [], ma_mem I o, 0, 0) (ma_end Q)) :
  Exm (d) 13 [.inr (.inr (6, 0))] I o Q := by
  show Ex (d) 13 (0, [some (.inr (.inr (6, 0))), none, none, none], [], ma_mem I o, 0, 0) (ma_end Q)
  refine ex_iconst (pc := 0) (fr_get fo_13_0 0 rfl) ic_0 ?_
  refine ex_istore_n (pc := 1) (fr_get fo_13_0 1 rfl) rfl (L' := [some (.inr (.inr (6, 0))), some (.inl (0 : Int32)), none, none]) rfl ?_
  refine ex_iconst (pc := 2) (fr_get fo_13_0 2 rfl) ic_0 ?_
  refine ex_istore_n (pc := 3) (fr_get fo_13_0 3 rfl) rfl (L' := [some (.inr (.inr (6, 0))), some (.inl (0 : Int32)), some (.inl (0 : Int32)), none]) rfl ?_
  refine ex_iconst (pc := 4) (fr_get fo_13_0 4 rfl) ic_0 ?_
  refine ex_istore_n (pc := 5) (fr_get fo_13_0 5 rfl) rfl (L' := [some (.inr (.inr (6, 0))), some (.inl (0 : Int32)), some (.inl (0 : Int32)), some (.inl (0 : Int32))]) rfl ?_
  exact h

theorem b_13_6 {d : Nat} {I : ma_I} {o : Nat} {Q : ma_Q} {v1 : Int32} {v2 : Int32} {v3 : Int32}
  (h :
    ((100 : Int32) ≤ v3 →
      Q none I o) ∧
    (v3 < (100 : Int32) →
      (I 6 0 1 ≤ v2 →
        ma_in v3 100 ∧
        Ex (d) 13 (6, [some (.inr (.inr (6, 0))), some (.inl v1), some (.inl v2), some (.inl (v3 + (1 : Int32)))], [], ma_mem (ma_up I 23 0 v3.toNatClampNeg v1) o, 0, 0) (ma_end Q)) ∧
      (v2 < I 6 0 1 →
        ma_in v2 6 ∧
        (I 14 0 v2.toNatClampNeg ≠ v3 →
          ma_in v3 100 ∧
          Ex (d) 13 (6, [some (.inr (.inr (6, 0))), some (.inl v1), some (.inl v2), some (.inl (v3 + (1 : Int32)))], [], ma_mem (ma_up I 23 0 v3.toNatClampNeg v1) o, 0, 0) (ma_end Q)) ∧
        (I 14 0 v2.toNatClampNeg = v3 →
          ma_in v2 6 ∧
          ma_in v3 100 ∧
          Ex (d) 13 (6, [some (.inr (.inr (6, 0))), some (.inl (I 15 0 v2.toNatClampNeg)), some (.inl (v2 + (1 : Int32))), some (.inl (v3 + (1 : Int32)))], [], ma_mem (ma_up I 23 0 v3.toNatClampNeg (I 15 0 v2.toNatClampNeg)) o, 0, 0) (ma_end Q))))) :
  Ex (d) 13 (6, [some (.inr (.inr (6, 0))), some (.inl v1), some (.inl v2), some (.inl v3)], [], ma_mem I o, 0, 0) (ma_end Q) := by
  refine ex_iload_n (pc := 6) (fr_get fo_13_0 6 rfl) rfl ?_
  refine ex_bipush (pc := 7) (fr_get fo_13_0 7 rfl) bp_100 ?_
  refine xv_cge (pc := 9) (fr_get fo_13_0 8 rfl) (t := 53) rfl (fun c => ?_) (fun c => ?_)
  · replace h := h.1 c
    exact ex_return (pc := 53) (fr_get fo_13_2 0 rfl) rt_13 rfl rfl (ma_end_mk h)
  · replace h := h.2 c
    refine ex_iload_n (pc := 12) (fr_get fo_13_0 9 rfl) rfl ?_
    refine ex_aload_n (pc := 13) (fr_get fo_13_0 10 rfl) rfl rfl ?_
    refine xv_gi (pc := 14) (fr_get fo_13_0 11 rfl) ow_13 fg_2_48_6 rfl ?_
    refine xv_cge (pc := 17) (fr_get fo_13_0 12 rfl) (t := 40) rfl (fun c => ?_) (fun c => ?_)
    · replace h := h.1 c
      refine ex_aload_n (pc := 40) (fr_get fo_13_1 9 rfl) rfl rfl ?_
      refine ex_gr (pc := 41) (fr_get fo_13_1 10 rfl) ow_13 fr_2_34_6 (q := (23, 0)) rfl ?_
      refine ex_iload_n (pc := 44) (fr_get fo_13_1 11 rfl) rfl ?_
      refine ex_iload_n (pc := 45) (fr_get fo_13_1 12 rfl) rfl ?_
      refine xv_iast (pc := 46) (fr_get fo_13_1 13 rfl) gs_23 gl_23 rfl h.1 ?_
      replace h := h.2
      refine xv_iinc (pc := 47) (fr_get fo_13_1 14 rfl) rfl ic_1 (L' := [some (.inr (.inr (6, 0))), some (.inl v1), some (.inl v2), some (.inl (v3 + (1 : Int32)))]) rfl ?_
      refine ex_goto (pc := 50) (fr_get fo_13_1 15 rfl) (t := 6) rfl ?_
      exact h
    · replace h := h.2 c
      refine ex_aload_n (pc := 20) (fr_get fo_13_0 13 rfl) rfl rfl ?_
      refine ex_gr (pc := 21) (fr_get fo_13_0 14 rfl) ow_13 fr_2_15_6 (q := (14, 0)) rfl ?_
      refine ex_iload_n (pc := 24) (fr_get fo_13_0 15 rfl) rfl ?_
      refine xv_iald (pc := 25) (fr_get fo_13_1 0 rfl) gk_14 (n := 6) (gn_14 ..) rfl rfl h.1 ?_
      replace h := h.2
      refine ex_iload_n (pc := 26) (fr_get fo_13_1 1 rfl) rfl ?_
      refine xv_cne (pc := 27) (fr_get fo_13_1 2 rfl) (t := 40) rfl (fun c => ?_) (fun c => ?_)
      · replace h := h.1 c
        refine ex_aload_n (pc := 40) (fr_get fo_13_1 9 rfl) rfl rfl ?_
        refine ex_gr (pc := 41) (fr_get fo_13_1 10 rfl) ow_13 fr_2_34_6 (q := (23, 0)) rfl ?_
        refine ex_iload_n (pc := 44) (fr_get fo_13_1 11 rfl) rfl ?_
        refine ex_iload_n (pc := 45) (fr_get fo_13_1 12 rfl) rfl ?_
        refine xv_iast (pc := 46) (fr_get fo_13_1 13 rfl) gs_23 gl_23 rfl h.1 ?_
        replace h := h.2
        refine xv_iinc (pc := 47) (fr_get fo_13_1 14 rfl) rfl ic_1 (L' := [some (.inr (.inr (6, 0))), some (.inl v1), some (.inl v2), some (.inl (v3 + (1 : Int32)))]) rfl ?_
        refine ex_goto (pc := 50) (fr_get fo_13_1 15 rfl) (t := 6) rfl ?_
        exact h
      · replace h := h.2 c
        refine ex_aload_n (pc := 30) (fr_get fo_13_1 3 rfl) rfl rfl ?_
        refine ex_gr (pc := 31) (fr_get fo_13_1 4 rfl) ow_13 fr_2_19_6 (q := (15, 0)) rfl ?_
        refine ex_iload_n (pc := 34) (fr_get fo_13_1 5 rfl) rfl ?_
        refine xv_iald (pc := 35) (fr_get fo_13_1 6 rfl) gk_15 (n := 6) (gn_15 ..) rfl rfl h.1 ?_
        replace h := h.2
        refine ex_istore_n (pc := 36) (fr_get fo_13_1 7 rfl) rfl (L' := [some (.inr (.inr (6, 0))), some (.inl (I 15 0 v2.toNatClampNeg)), some (.inl v2), some (.inl v3)]) rfl ?_
        refine xv_iinc (pc := 37) (fr_get fo_13_1 8 rfl) rfl ic_1 (L' := [some (.inr (.inr (6, 0))), some (.inl (I 15 0 v2.toNatClampNeg)), some (.inl (v2 + (1 : Int32))), some (.inl v3)]) rfl ?_
        refine ex_aload_n (pc := 40) (fr_get fo_13_1 9 rfl) rfl rfl ?_
        refine ex_gr (pc := 41) (fr_get fo_13_1 10 rfl) ow_13 fr_2_34_6 (q := (23, 0)) rfl ?_
        refine ex_iload_n (pc := 44) (fr_get fo_13_1 11 rfl) rfl ?_
        refine ex_iload_n (pc := 45) (fr_get fo_13_1 12 rfl) rfl ?_
        refine xv_iast (pc := 46) (fr_get fo_13_1 13 rfl) gs_23 gl_23 rfl h.1 ?_
        replace h := h.2
        refine xv_iinc (pc := 47) (fr_get fo_13_1 14 rfl) rfl ic_1 (L' := [some (.inr (.inr (6, 0))), some (.inl (I 15 0 v2.toNatClampNeg)), some (.inl (v2 + (1 : Int32))), some (.inl (v3 + (1 : Int32)))]) rfl ?_
        refine ex_goto (pc := 50) (fr_get fo_13_1 15 rfl) (t := 6) rfl ?_
        exact h

theorem e_14 {d : Nat} {I : ma_I} {o : Nat} {Q : ma_Q} {a1 : Int32}
  (h :
    (a1 ≤ (99 : Int32) →
      ma_in a1 100 ∧
      Q (some (.inl (I 23 0 a1.toNatClampNeg))) I o) ∧
    ((99 : Int32) < a1 →
      Q (some (.inl (I 23 0 99))) I o)) :
  Exm (d) 14 [.inr (.inr (6, 0)), .inl a1] I o Q := by
  show Ex (d) 14 (0, [some (.inr (.inr (6, 0))), some (.inl a1)], [], ma_mem I o, 0, 0) (ma_end Q)
  refine ex_iload_n (pc := 0) (fr_get fo_14_0 0 rfl) rfl ?_
  refine ex_bipush (pc := 1) (fr_get fo_14_0 1 rfl) bp_99 ?_
  refine xv_cle (pc := 3) (fr_get fo_14_0 2 rfl) (t := 16) rfl (fun c => ?_) (fun c => ?_)
  · replace h := h.1 c
    refine ex_aload_n (pc := 16) (fr_get fo_14_0 8 rfl) rfl rfl ?_
    refine ex_gr (pc := 17) (fr_get fo_14_0 9 rfl) ow_14 fr_2_34_6 (q := (23, 0)) rfl ?_
    refine ex_iload_n (pc := 20) (fr_get fo_14_0 10 rfl) rfl ?_
    refine xv_iald (pc := 21) (fr_get fo_14_0 11 rfl) gk_23 (n := 100) (gn_23 ..) rfl rfl h.1 ?_
    replace h := h.2
    exact ex_ireturn (pc := 22) (fr_get fo_14_0 12 rfl) rt_14 rfl rfl (ma_end_mk h)
  · replace h := h.2 c
    refine ex_aload_n (pc := 6) (fr_get fo_14_0 3 rfl) rfl rfl ?_
    refine ex_gr (pc := 7) (fr_get fo_14_0 4 rfl) ow_14 fr_2_34_6 (q := (23, 0)) rfl ?_
    refine ex_bipush (pc := 10) (fr_get fo_14_0 5 rfl) bp_99 ?_
    refine xv_iald (pc := 12) (fr_get fo_14_0 6 rfl) gk_23 (n := 100) (gn_23 ..) cl_99 rfl mi_99_100 ?_
    refine ex_goto (pc := 13) (fr_get fo_14_0 7 rfl) (t := 22) rfl ?_
    exact ex_ireturn (pc := 22) (fr_get fo_14_0 12 rfl) rt_14 rfl rfl (ma_end_mk h)

theorem e_16 {d : Nat} {I : ma_I} {o : Nat} {Q : ma_Q} {a1 : Int32}
  (h :
    ma_in a1 8 ∧
    Ex (d + 1) 16 (9, [some (.inr (.inr (6, 0))), some (.inl a1), some (.inr (.inr (17, a1.toNatClampNeg))), some (.inl (0 : Int32))], [], ma_mem I o, 0, 0) (ma_end Q)) :
  Exm (d + 1) 16 [.inr (.inr (6, 0)), .inl a1] I o Q := by
  show Ex (d + 1) 16 (0, [some (.inr (.inr (6, 0))), some (.inl a1), none, none], [], ma_mem I o, 0, 0) (ma_end Q)
  refine ex_aload_n (pc := 0) (fr_get fo_16_0 0 rfl) rfl rfl ?_
  refine ex_gr (pc := 1) (fr_get fo_16_0 1 rfl) ow_16 fr_2_24_6 (q := (16, 0)) rfl ?_
  refine ex_iload_n (pc := 4) (fr_get fo_16_0 2 rfl) rfl ?_
  refine xv_aald (pc := 5) (fr_get fo_16_0 3 rfl) ga_16 gl_16 (q := (17, a1.toNatClampNeg)) rfl rfl h.1 ?_
  replace h := h.2
  refine ex_astore_n (pc := 6) (fr_get fo_16_0 4 rfl) rfl rfl (L' := [some (.inr (.inr (6, 0))), some (.inl a1), some (.inr (.inr (17, a1.toNatClampNeg))), none]) rfl ?_
  refine ex_iconst (pc := 7) (fr_get fo_16_0 5 rfl) ic_0 ?_
  refine ex_istore_n (pc := 8) (fr_get fo_16_0 6 rfl) rfl (L' := [some (.inr (.inr (6, 0))), some (.inl a1), some (.inr (.inr (17, a1.toNatClampNeg))), some (.inl (0 : Int32))]) rfl ?_
  exact h

theorem b_16_9 {d : Nat} {I : ma_I} {o : Nat} {Q : ma_Q} {v1 : Int32} {q2 : Nat} {v3 : Int32}
  (h :
    ((100 : Int32) ≤ v3 →
      Q none I o) ∧
    (v3 < (100 : Int32) →
      Exm (d) 9 [.inr (.inr (17, q2)), .inl v3] I o (fun r J1 p2 => ∃ x3 : Int32, r = some (.inl x3) ∧
        (x3 = 0 →
          Ex (d + 1) 16 (9, [some (.inr (.inr (6, 0))), some (.inl v1), some (.inr (.inr (17, q2))), some (.inl (v3 + (1 : Int32)))], [], ma_mem J1 p2, 0, 0) (ma_end Q)) ∧
        (x3 ≠ 0 →
          ma_in (((J1 17 q2 2) * (100 : Int32)) + v3) 800 ∧
          ma_in (((J1 17 q2 2) * (100 : Int32)) + v3) 800 ∧
          Ex (d + 1) 16 (9, [some (.inr (.inr (6, 0))), some (.inl v1), some (.inr (.inr (17, q2))), some (.inl (v3 + (1 : Int32)))], [], ma_mem (ma_up J1 24 0 ((((J1 17 q2 2) * (100 : Int32)) + v3).toNatClampNeg) ((J1 24 0 ((((J1 17 q2 2) * (100 : Int32)) + v3).toNatClampNeg)) ||| ((1 : Int32) <<< (v1 &&& 31)))) p2, 0, 0) (ma_end Q))))) :
  Ex (d + 1) 16 (9, [some (.inr (.inr (6, 0))), some (.inl v1), some (.inr (.inr (17, q2))), some (.inl v3)], [], ma_mem I o, 0, 0) (ma_end Q) := by
  refine ex_iload_n (pc := 9) (fr_get fo_16_0 7 rfl) rfl ?_
  refine ex_bipush (pc := 10) (fr_get fo_16_0 8 rfl) bp_100 ?_
  refine xv_cge (pc := 12) (fr_get fo_16_0 9 rfl) (t := 49) rfl (fun c => ?_) (fun c => ?_)
  · replace h := h.1 c
    exact ex_return (pc := 49) (fr_get fo_16_1 15 rfl) rt_16 rfl rfl (ma_end_mk h)
  · replace h := h.2 c
    refine ex_aload_n (pc := 15) (fr_get fo_16_0 10 rfl) rfl rfl ?_
    refine ex_iload_n (pc := 16) (fr_get fo_16_0 11 rfl) rfl ?_
    refine xv_kv1 (pc := 17) (fr_get fo_16_0 12 rfl) cc_16_54 (as := [.inr (.inr (17, q2)), .inl v3]) (rs := []) rfl rfl rfl rfl rfl ?_
    refine h.mono (fun r J1 p2 h => ?_)
    obtain ⟨x3, hr, h⟩ := h
    refine ⟨x3, hr, ?_⟩
    refine xv_beq (pc := 20) (fr_get fo_16_0 13 rfl) (t := 43) rfl (fun c => ?_) (fun c => ?_)
    · replace h := h.1 c
      refine xv_iinc (pc := 43) (fr_get fo_16_1 13 rfl) rfl ic_1 (L' := [some (.inr (.inr (6, 0))), some (.inl v1), some (.inr (.inr (17, q2))), some (.inl (v3 + (1 : Int32)))]) rfl ?_
      refine ex_goto (pc := 46) (fr_get fo_16_1 14 rfl) (t := 9) rfl ?_
      exact h
    · replace h := h.2 c
      refine ex_aload_n (pc := 23) (fr_get fo_16_0 14 rfl) rfl rfl ?_
      refine ex_gr (pc := 24) (fr_get fo_16_0 15 rfl) ow_16 fr_2_37_6 (q := (24, 0)) rfl ?_
      refine ex_aload_n (pc := 27) (fr_get fo_16_1 0 rfl) rfl rfl ?_
      refine xv_gi (pc := 28) (fr_get fo_16_1 1 rfl) ow_16 fg_2_58_17 rfl ?_
      refine ex_bipush (pc := 31) (fr_get fo_16_1 2 rfl) bp_100 ?_
      refine ex_imul (pc := 33) (fr_get fo_16_1 3 rfl) ?_
      refine ex_iload_n (pc := 34) (fr_get fo_16_1 4 rfl) rfl ?_
      refine ex_iadd (pc := 35) (fr_get fo_16_1 5 rfl) ?_
      refine ex_dup2 (pc := 36) (fr_get fo_16_1 6 rfl) ?_
      refine xv_iald (pc := 37) (fr_get fo_16_1 7 rfl) gk_24 (n := 800) (gn_24 ..) rfl rfl h.1 ?_
      replace h := h.2
      refine ex_iconst (pc := 38) (fr_get fo_16_1 8 rfl) ic_1 ?_
      refine ex_iload_n (pc := 39) (fr_get fo_16_1 9 rfl) rfl ?_
      refine ex_ishl (pc := 40) (fr_get fo_16_1 10 rfl) ?_
      refine ex_ior (pc := 41) (fr_get fo_16_1 11 rfl) ?_
      refine xv_iast (pc := 42) (fr_get fo_16_1 12 rfl) gs_24 gl_24 rfl h.1 ?_
      replace h := h.2
      refine xv_iinc (pc := 43) (fr_get fo_16_1 13 rfl) rfl ic_1 (L' := [some (.inr (.inr (6, 0))), some (.inl v1), some (.inr (.inr (17, q2))), some (.inl (v3 + (1 : Int32)))]) rfl ?_
      refine ex_goto (pc := 46) (fr_get fo_16_1 14 rfl) (t := 9) rfl ?_
      exact h

theorem e_17 {d : Nat} {I : ma_I} {o : Nat} {Q : ma_Q} {a1 : Int32}
  (h :
    ma_in a1 8 ∧
    Ex (d) 17 (15, [some (.inr (.inr (6, 0))), some (.inl a1), some (.inl ((I 17 a1.toNatClampNeg 2) * (100 : Int32))), some (.inl (0 : Int32))], [], ma_mem I o, 0, 0) (ma_end Q)) :
  Exm (d) 17 [.inr (.inr (6, 0)), .inl a1] I o Q := by
  show Ex (d) 17 (0, [some (.inr (.inr (6, 0))), some (.inl a1), none, none], [], ma_mem I o, 0, 0) (ma_end Q)
  refine ex_aload_n (pc := 0) (fr_get fo_17_0 0 rfl) rfl rfl ?_
  refine ex_gr (pc := 1) (fr_get fo_17_0 1 rfl) ow_17 fr_2_24_6 (q := (16, 0)) rfl ?_
  refine ex_iload_n (pc := 4) (fr_get fo_17_0 2 rfl) rfl ?_
  refine xv_aald (pc := 5) (fr_get fo_17_0 3 rfl) ga_16 gl_16 (q := (17, a1.toNatClampNeg)) rfl rfl h.1 ?_
  replace h := h.2
  refine xv_gi (pc := 6) (fr_get fo_17_0 4 rfl) ow_17 fg_2_58_17 rfl ?_
  refine ex_bipush (pc := 9) (fr_get fo_17_0 5 rfl) bp_100 ?_
  refine ex_imul (pc := 11) (fr_get fo_17_0 6 rfl) ?_
  refine ex_istore_n (pc := 12) (fr_get fo_17_0 7 rfl) rfl (L' := [some (.inr (.inr (6, 0))), some (.inl a1), some (.inl ((I 17 a1.toNatClampNeg 2) * (100 : Int32))), none]) rfl ?_
  refine ex_iconst (pc := 13) (fr_get fo_17_0 8 rfl) ic_0 ?_
  refine ex_istore_n (pc := 14) (fr_get fo_17_0 9 rfl) rfl (L' := [some (.inr (.inr (6, 0))), some (.inl a1), some (.inl ((I 17 a1.toNatClampNeg 2) * (100 : Int32))), some (.inl (0 : Int32))]) rfl ?_
  exact h

theorem b_17_15 {d : Nat} {I : ma_I} {o : Nat} {Q : ma_Q} {v1 : Int32} {v2 : Int32} {v3 : Int32}
  (h :
    ((100 : Int32) ≤ v3 →
      Q none I o) ∧
    (v3 < (100 : Int32) →
      ma_in (v2 + v3) 800 ∧
      ma_in (v2 + v3) 800 ∧
      Ex (d) 17 (15, [some (.inr (.inr (6, 0))), some (.inl v1), some (.inl v2), some (.inl (v3 + (1 : Int32)))], [], ma_mem (ma_up I 24 0 ((v2 + v3).toNatClampNeg) ((I 24 0 ((v2 + v3).toNatClampNeg)) &&& (((1 : Int32) <<< (v1 &&& 31)) ^^^ (-1 : Int32)))) o, 0, 0) (ma_end Q))) :
  Ex (d) 17 (15, [some (.inr (.inr (6, 0))), some (.inl v1), some (.inl v2), some (.inl v3)], [], ma_mem I o, 0, 0) (ma_end Q) := by
  refine ex_iload_n (pc := 15) (fr_get fo_17_0 10 rfl) rfl ?_
  refine ex_bipush (pc := 16) (fr_get fo_17_0 11 rfl) bp_100 ?_
  refine xv_cge (pc := 18) (fr_get fo_17_0 12 rfl) (t := 43) rfl (fun c => ?_) (fun c => ?_)
  · replace h := h.1 c
    exact ex_return (pc := 43) (fr_get fo_17_1 13 rfl) rt_17 rfl rfl (ma_end_mk h)
  · replace h := h.2 c
    refine ex_aload_n (pc := 21) (fr_get fo_17_0 13 rfl) rfl rfl ?_
    refine ex_gr (pc := 22) (fr_get fo_17_0 14 rfl) ow_17 fr_2_37_6 (q := (24, 0)) rfl ?_
    refine ex_iload_n (pc := 25) (fr_get fo_17_0 15 rfl) rfl ?_
    refine ex_iload_n (pc := 26) (fr_get fo_17_1 0 rfl) rfl ?_
    refine ex_iadd (pc := 27) (fr_get fo_17_1 1 rfl) ?_
    refine ex_dup2 (pc := 28) (fr_get fo_17_1 2 rfl) ?_
    refine xv_iald (pc := 29) (fr_get fo_17_1 3 rfl) gk_24 (n := 800) (gn_24 ..) rfl rfl h.1 ?_
    replace h := h.2
    refine ex_iconst (pc := 30) (fr_get fo_17_1 4 rfl) ic_1 ?_
    refine ex_iload_n (pc := 31) (fr_get fo_17_1 5 rfl) rfl ?_
    refine ex_ishl (pc := 32) (fr_get fo_17_1 6 rfl) ?_
    refine ex_iconst (pc := 33) (fr_get fo_17_1 7 rfl) ic_m1 ?_
    refine ex_ixor (pc := 34) (fr_get fo_17_1 8 rfl) ?_
    refine ex_iand (pc := 35) (fr_get fo_17_1 9 rfl) ?_
    refine xv_iast (pc := 36) (fr_get fo_17_1 10 rfl) gs_24 gl_24 rfl h.1 ?_
    replace h := h.2
    refine xv_iinc (pc := 37) (fr_get fo_17_1 11 rfl) rfl ic_1 (L' := [some (.inr (.inr (6, 0))), some (.inl v1), some (.inl v2), some (.inl (v3 + (1 : Int32)))]) rfl ?_
    refine ex_goto (pc := 40) (fr_get fo_17_1 12 rfl) (t := 15) rfl ?_
    exact h

theorem e_18 {d : Nat} {I : ma_I} {o : Nat} {Q : ma_Q} {a1 : Int32} {a2 : Int32}
  (h :
    Exm (d) 17 [.inr (.inr (6, 0)), .inl a1] I o (fun r J1 p2 => r = none ∧
      ma_in a1 8 ∧
      Exm (d) 16 [.inr (.inr (6, 0)), .inl a1] (ma_up J1 17 a1.toNatClampNeg 0 a2) p2 (fun r J3 p4 => r = none ∧
        Q none J3 p4))) :
  Exm (d + 1) 18 [.inr (.inr (6, 0)), .inl a1, .inl a2] I o Q := by
  show Ex (d + 1) 18 (0, [some (.inr (.inr (6, 0))), some (.inl a1), some (.inl a2)], [], ma_mem I o, 0, 0) (ma_end Q)
  refine ex_aload_n (pc := 0) (fr_get fo_18_0 0 rfl) rfl rfl ?_
  refine ex_iload_n (pc := 1) (fr_get fo_18_0 1 rfl) rfl ?_
  refine xv_kv0 (pc := 2) (fr_get fo_18_0 2 rfl) cc_18_61 (as := [.inr (.inr (6, 0)), .inl a1]) (rs := []) rfl rfl rfl rfl rfl ?_
  refine h.mono (fun r J1 p2 h => ⟨h.1, ?_⟩)
  replace h := h.2
  refine ex_aload_n (pc := 5) (fr_get fo_18_0 3 rfl) rfl rfl ?_
  refine ex_gr (pc := 6) (fr_get fo_18_0 4 rfl) ow_18 fr_2_24_6 (q := (16, 0)) rfl ?_
  refine ex_iload_n (pc := 9) (fr_get fo_18_0 5 rfl) rfl ?_
  refine xv_aald (pc := 10) (fr_get fo_18_0 6 rfl) ga_16 gl_16 (q := (17, a1.toNatClampNeg)) rfl rfl h.1 ?_
  replace h := h.2
  refine ex_iload_n (pc := 11) (fr_get fo_18_0 7 rfl) rfl ?_
  refine ex_pi (pc := 12) (fr_get fo_18_0 8 rfl) ow_18 fp_2_65_17 ?_
  refine ex_aload_n (pc := 15) (fr_get fo_18_0 9 rfl) rfl rfl ?_
  refine ex_iload_n (pc := 16) (fr_get fo_18_0 10 rfl) rfl ?_
  refine xv_kv0 (pc := 17) (fr_get fo_18_0 11 rfl) cc_18_68 (as := [.inr (.inr (6, 0)), .inl a1]) (rs := []) rfl rfl rfl rfl rfl ?_
  refine h.mono (fun r J3 p4 h => ⟨h.1, ?_⟩)
  replace h := h.2
  exact ex_return (pc := 20) (fr_get fo_18_0 12 rfl) rt_18 rfl rfl (ma_end_mk h)

theorem e_19 {d : Nat} {I : ma_I} {o : Nat} {Q : ma_Q} {a1 : Int32} {a2 : Int32} {a3 : Int32}
  (h :
    Ex (d) 19 (9, [some (.inr (.inr (6, 0))), some (.inl a1), some (.inl a2), some (.inl a3), some (.inl (a1 * (100 : Int32))), some (.inl a2)], [], ma_mem I o, 0, 0) (ma_end Q)) :
  Exm (d) 19 [.inr (.inr (6, 0)), .inl a1, .inl a2, .inl a3] I o Q := by
  show Ex (d) 19 (0, [some (.inr (.inr (6, 0))), some (.inl a1), some (.inl a2), some (.inl a3), none, none], [], ma_mem I o, 0, 0) (ma_end Q)
  refine ex_iload_n (pc := 0) (fr_get fo_19_0 0 rfl) rfl ?_
  refine ex_bipush (pc := 1) (fr_get fo_19_0 1 rfl) bp_100 ?_
  refine ex_imul (pc := 3) (fr_get fo_19_0 2 rfl) ?_
  refine ex_istore (pc := 4) (fr_get fo_19_0 3 rfl) rfl (L' := [some (.inr (.inr (6, 0))), some (.inl a1), some (.inl a2), some (.inl a3), some (.inl (a1 * (100 : Int32))), none]) rfl ?_
  refine ex_iload_n (pc := 6) (fr_get fo_19_0 4 rfl) rfl ?_
  refine ex_istore (pc := 7) (fr_get fo_19_0 5 rfl) rfl (L' := [some (.inr (.inr (6, 0))), some (.inl a1), some (.inl a2), some (.inl a3), some (.inl (a1 * (100 : Int32))), some (.inl a2)]) rfl ?_
  exact h

theorem b_19_9 {d : Nat} {I : ma_I} {o : Nat} {Q : ma_Q} {v1 : Int32} {v2 : Int32} {v3 : Int32} {v4 : Int32} {v5 : Int32}
  (h :
    ((99 : Int32) ≤ v5 →
      Q (some (.inl v5)) I o) ∧
    (v5 < (99 : Int32) →
      ma_in v5 100 ∧
      (I 23 0 v5.toNatClampNeg = v1 →
        Q (some (.inl v5)) I o) ∧
      (I 23 0 v5.toNatClampNeg ≠ v1 →
        ma_in (v4 + v5) 800 ∧
        ((I 24 0 ((v4 + v5).toNatClampNeg)) &&& v3 ≠ 0 →
          Q (some (.inl v5)) I o) ∧
        ((I 24 0 ((v4 + v5).toNatClampNeg)) &&& v3 = 0 →
          Ex (d) 19 (9, [some (.inr (.inr (6, 0))), some (.inl v1), some (.inl v2), some (.inl v3), some (.inl v4), some (.inl (v5 + (1 : Int32)))], [], ma_mem I o, 0, 0) (ma_end Q))))) :
  Ex (d) 19 (9, [some (.inr (.inr (6, 0))), some (.inl v1), some (.inl v2), some (.inl v3), some (.inl v4), some (.inl v5)], [], ma_mem I o, 0, 0) (ma_end Q) := by
  refine ex_iload (pc := 9) (fr_get fo_19_0 6 rfl) rfl ?_
  refine ex_bipush (pc := 11) (fr_get fo_19_0 7 rfl) bp_99 ?_
  refine xv_cge (pc := 13) (fr_get fo_19_0 8 rfl) (t := 48) rfl (fun c => ?_) (fun c => ?_)
  · replace h := h.1 c
    refine ex_iload (pc := 48) (fr_get fo_19_1 10 rfl) rfl ?_
    exact ex_ireturn (pc := 50) (fr_get fo_19_1 11 rfl) rt_19 rfl rfl (ma_end_mk h)
  · replace h := h.2 c
    refine ex_aload_n (pc := 16) (fr_get fo_19_0 9 rfl) rfl rfl ?_
    refine ex_gr (pc := 17) (fr_get fo_19_0 10 rfl) ow_19 fr_2_34_6 (q := (23, 0)) rfl ?_
    refine ex_iload (pc := 20) (fr_get fo_19_0 11 rfl) rfl ?_
    refine xv_iald (pc := 22) (fr_get fo_19_0 12 rfl) gk_23 (n := 100) (gn_23 ..) rfl rfl h.1 ?_
    replace h := h.2
    refine ex_iload_n (pc := 23) (fr_get fo_19_0 13 rfl) rfl ?_
    refine xv_ceq (pc := 24) (fr_get fo_19_0 14 rfl) (t := 48) rfl (fun c => ?_) (fun c => ?_)
    · replace h := h.1 c
      refine ex_iload (pc := 48) (fr_get fo_19_1 10 rfl) rfl ?_
      exact ex_ireturn (pc := 50) (fr_get fo_19_1 11 rfl) rt_19 rfl rfl (ma_end_mk h)
    · replace h := h.2 c
      refine ex_aload_n (pc := 27) (fr_get fo_19_0 15 rfl) rfl rfl ?_
      refine ex_gr (pc := 28) (fr_get fo_19_1 0 rfl) ow_19 fr_2_37_6 (q := (24, 0)) rfl ?_
      refine ex_iload (pc := 31) (fr_get fo_19_1 1 rfl) rfl ?_
      refine ex_iload (pc := 33) (fr_get fo_19_1 2 rfl) rfl ?_
      refine ex_iadd (pc := 35) (fr_get fo_19_1 3 rfl) ?_
      refine xv_iald (pc := 36) (fr_get fo_19_1 4 rfl) gk_24 (n := 800) (gn_24 ..) rfl rfl h.1 ?_
      replace h := h.2
      refine ex_iload_n (pc := 37) (fr_get fo_19_1 5 rfl) rfl ?_
      refine ex_iand (pc := 38) (fr_get fo_19_1 6 rfl) ?_
      refine xv_bne (pc := 39) (fr_get fo_19_1 7 rfl) (t := 48) rfl (fun c => ?_) (fun c => ?_)
      · replace h := h.1 c
        refine ex_iload (pc := 48) (fr_get fo_19_1 10 rfl) rfl ?_
        exact ex_ireturn (pc := 50) (fr_get fo_19_1 11 rfl) rt_19 rfl rfl (ma_end_mk h)
      · replace h := h.2 c
        refine xv_iinc (pc := 42) (fr_get fo_19_1 8 rfl) rfl ic_1 (L' := [some (.inr (.inr (6, 0))), some (.inl v1), some (.inl v2), some (.inl v3), some (.inl v4), some (.inl (v5 + (1 : Int32)))]) rfl ?_
        refine ex_goto (pc := 45) (fr_get fo_19_1 9 rfl) (t := 9) rfl ?_
        exact h

theorem e_20 {d : Nat} {I : ma_I} {o : Nat} {Q : ma_Q} {a1 : Int32} {a2 : Int32} {a3 : Int32}
  (h :
    ma_in ((a1 * (100 : Int32)) + a2) 800 ∧
    ((I 24 0 (((a1 * (100 : Int32)) + a2).toNatClampNeg)) &&& a3 ≠ 0 →
      Exm (d) 184 [.inl ((((I 24 0 (((a1 * (100 : Int32)) + a2).toNatClampNeg)) &&& a3) &&& (-((I 24 0 (((a1 * (100 : Int32)) + a2).toNatClampNeg)) &&& a3))) - (1 : Int32))] I o (fun r J1 p2 => ∃ x3 : Int32, r = some (.inl x3) ∧
        Q (some (.inl x3)) J1 p2)) ∧
    ((I 24 0 (((a1 * (100 : Int32)) + a2).toNatClampNeg)) &&& a3 = 0 →
      Q (some (.inl (-1 : Int32))) I o)) :
  Exm (d + 1) 20 [.inr (.inr (6, 0)), .inl a1, .inl a2, .inl a3] I o Q := by
  show Ex (d + 1) 20 (0, [some (.inr (.inr (6, 0))), some (.inl a1), some (.inl a2), some (.inl a3), none], [], ma_mem I o, 0, 0) (ma_end Q)
  refine ex_aload_n (pc := 0) (fr_get fo_20_0 0 rfl) rfl rfl ?_
  refine ex_gr (pc := 1) (fr_get fo_20_0 1 rfl) ow_20 fr_2_37_6 (q := (24, 0)) rfl ?_
  refine ex_iload_n (pc := 4) (fr_get fo_20_0 2 rfl) rfl ?_
  refine ex_bipush (pc := 5) (fr_get fo_20_0 3 rfl) bp_100 ?_
  refine ex_imul (pc := 7) (fr_get fo_20_0 4 rfl) ?_
  refine ex_iload_n (pc := 8) (fr_get fo_20_0 5 rfl) rfl ?_
  refine ex_iadd (pc := 9) (fr_get fo_20_0 6 rfl) ?_
  refine xv_iald (pc := 10) (fr_get fo_20_0 7 rfl) gk_24 (n := 800) (gn_24 ..) rfl rfl h.1 ?_
  replace h := h.2
  refine ex_iload_n (pc := 11) (fr_get fo_20_0 8 rfl) rfl ?_
  refine ex_iand (pc := 12) (fr_get fo_20_0 9 rfl) ?_
  refine ex_istore (pc := 13) (fr_get fo_20_0 10 rfl) rfl (L' := [some (.inr (.inr (6, 0))), some (.inl a1), some (.inl a2), some (.inl a3), some (.inl ((I 24 0 (((a1 * (100 : Int32)) + a2).toNatClampNeg)) &&& a3))]) rfl ?_
  refine ex_iload (pc := 15) (fr_get fo_20_0 11 rfl) rfl ?_
  refine xv_bne (pc := 17) (fr_get fo_20_0 12 rfl) (t := 24) rfl (fun c => ?_) (fun c => ?_)
  · replace h := h.1 c
    refine ex_iload (pc := 24) (fr_get fo_20_0 15 rfl) rfl ?_
    refine ex_iload (pc := 26) (fr_get fo_20_1 0 rfl) rfl ?_
    refine ex_ineg (pc := 28) (fr_get fo_20_1 1 rfl) ?_
    refine ex_iand (pc := 29) (fr_get fo_20_1 2 rfl) ?_
    refine ex_iconst (pc := 30) (fr_get fo_20_1 3 rfl) ic_1 ?_
    refine ex_isub (pc := 31) (fr_get fo_20_1 4 rfl) ?_
    refine xv_ks1 (pc := 32) (fr_get fo_20_1 5 rfl) cc_20_71 (as := [.inl ((((I 24 0 (((a1 * (100 : Int32)) + a2).toNatClampNeg)) &&& a3) &&& (-((I 24 0 (((a1 * (100 : Int32)) + a2).toNatClampNeg)) &&& a3))) - (1 : Int32))]) (rs := []) rfl rfl rfl rfl ?_
    refine h.mono (fun r J1 p2 h => ?_)
    obtain ⟨x3, hr, h⟩ := h
    refine ⟨x3, hr, ?_⟩
    exact ex_ireturn (pc := 35) (fr_get fo_20_1 6 rfl) rt_20 rfl rfl (ma_end_mk h)
  · replace h := h.2 c
    refine ex_iconst (pc := 20) (fr_get fo_20_0 13 rfl) ic_m1 ?_
    refine ex_goto (pc := 21) (fr_get fo_20_0 14 rfl) (t := 35) rfl ?_
    exact ex_ireturn (pc := 35) (fr_get fo_20_1 6 rfl) rt_20 rfl rfl (ma_end_mk h)

theorem e_21 {d : Nat} {I : ma_I} {o : Nat} {Q : ma_Q} {a1 : Int32} {a2 : Int32} {a3 : Int32} {a4 : Int32}
  (h :
    ma_in a1 8 ∧
    ma_in (I 6 0 8) 6 ∧
    Exm (d) 55 [.inr (.inr (19, (I 6 0 8).toNatClampNeg)), .inl (0 : Int32), .inr (.inr (26, 0))] (ma_up (ma_up (ma_up (ma_up (ma_up (ma_up I 26 0 0 a2) 26 0 1 (I 17 a1.toNatClampNeg 2)) 26 0 2 a3) 26 0 3 (I 17 a1.toNatClampNeg 1)) 26 0 4 a1) 26 0 5 a4) o (fun r J1 p2 => ∃ x3 : Int32, r = some (.inl x3) ∧
      Exm (d) 11 [.inr (.inr (17, a1.toNatClampNeg)), .inl (xv_wi x3 (1 : Int32) (40 : Int32))] J1 p2 (fun r J4 p5 => ∃ x6 : Int32, r = some (.inl x6) ∧
        Q (some (.inl x6)) J4 p5))) :
  Exm (d + 1) 21 [.inr (.inr (6, 0)), .inl a1, .inl a2, .inl a3, .inl a4] I o Q := by
  show Ex (d + 1) 21 (0, [some (.inr (.inr (6, 0))), some (.inl a1), some (.inl a2), some (.inl a3), some (.inl a4), none], [], ma_mem I o, 0, 0) (ma_end Q)
  refine ex_aload_n (pc := 0) (fr_get fo_21_0 0 rfl) rfl rfl ?_
  refine ex_gr (pc := 1) (fr_get fo_21_0 1 rfl) ow_21 fr_2_24_6 (q := (16, 0)) rfl ?_
  refine ex_iload_n (pc := 4) (fr_get fo_21_0 2 rfl) rfl ?_
  refine xv_aald (pc := 5) (fr_get fo_21_0 3 rfl) ga_16 gl_16 (q := (17, a1.toNatClampNeg)) rfl rfl h.1 ?_
  replace h := h.2
  refine ex_astore (pc := 6) (fr_get fo_21_0 4 rfl) rfl rfl (L' := [some (.inr (.inr (6, 0))), some (.inl a1), some (.inl a2), some (.inl a3), some (.inl a4), some (.inr (.inr (17, a1.toNatClampNeg)))]) rfl ?_
  refine ex_aload_n (pc := 8) (fr_get fo_21_0 5 rfl) rfl rfl ?_
  refine ex_iload_n (pc := 9) (fr_get fo_21_0 6 rfl) rfl ?_
  refine ex_aload (pc := 10) (fr_get fo_21_0 7 rfl) rfl rfl ?_
  refine xv_gi (pc := 12) (fr_get fo_21_0 8 rfl) ow_21 fg_2_58_17 rfl ?_
  refine ex_iload_n (pc := 15) (fr_get fo_21_0 9 rfl) rfl ?_
  refine ex_aload (pc := 16) (fr_get fo_21_0 10 rfl) rfl rfl ?_
  refine xv_gi (pc := 18) (fr_get fo_21_0 11 rfl) ow_21 fg_2_77_17 rfl ?_
  refine ex_iload_n (pc := 21) (fr_get fo_21_0 12 rfl) rfl ?_
  refine ex_iload (pc := 22) (fr_get fo_21_0 13 rfl) rfl ?_
  refine xv_kv0 (pc := 24) (fr_get fo_21_0 14 rfl) cc_21_80 (as := [.inr (.inr (6, 0)), .inl a2, .inl (I 17 a1.toNatClampNeg 2), .inl a3, .inl (I 17 a1.toNatClampNeg 1), .inl a1, .inl a4]) (rs := []) rfl rfl rfl rfl rfl ?_
  refine sm_24 ?_
  refine ⟨rfl, ?_⟩
  refine ex_aload (pc := 27) (fr_get fo_21_0 15 rfl) rfl rfl ?_
  refine ex_aload_n (pc := 29) (fr_get fo_21_1 0 rfl) rfl rfl ?_
  refine ex_gr (pc := 30) (fr_get fo_21_1 1 rfl) ow_21 fr_2_30_6 (q := (18, 0)) rfl ?_
  refine ex_aload_n (pc := 33) (fr_get fo_21_1 2 rfl) rfl rfl ?_
  refine xv_gi (pc := 34) (fr_get fo_21_1 3 rfl) ow_21 fg_2_84_6 (Eq.trans (xv_ug rfl) (Eq.trans (xv_ug rfl) (Eq.trans (xv_ug rfl) (Eq.trans (xv_ug rfl) (Eq.trans (xv_ug rfl) (xv_ug rfl)))))) ?_
  refine xv_aald (pc := 37) (fr_get fo_21_1 4 rfl) ga_18 gl_18 (q := (19, (I 6 0 8).toNatClampNeg)) rfl rfl h.1 ?_
  replace h := h.2
  refine ex_iconst (pc := 38) (fr_get fo_21_1 5 rfl) ic_0 ?_
  refine ex_aload_n (pc := 39) (fr_get fo_21_1 6 rfl) rfl rfl ?_
  refine ex_gr (pc := 40) (fr_get fo_21_1 7 rfl) ow_21 fr_2_43_6 (q := (26, 0)) rfl ?_
  refine xv_kv1 (pc := 43) (fr_get fo_21_1 8 rfl) cc_21_87 (as := [.inr (.inr (19, (I 6 0 8).toNatClampNeg)), .inl (0 : Int32), .inr (.inr (26, 0))]) (rs := [.inr (.inr (17, a1.toNatClampNeg))]) rfl rfl rfl rfl rfl ?_
  refine h.mono (fun r J1 p2 h => ?_)
  obtain ⟨x3, hr, h⟩ := h
  refine ⟨x3, hr, ?_⟩
  refine ex_iconst (pc := 46) (fr_get fo_21_1 9 rfl) ic_1 ?_
  refine ex_bipush (pc := 47) (fr_get fo_21_1 10 rfl) bp_40 ?_
  refine xv_ks1 (pc := 49) (fr_get fo_21_1 11 rfl) cc_21_91 (as := [.inl x3, .inl (1 : Int32), .inl (40 : Int32)]) (rs := [.inr (.inr (17, a1.toNatClampNeg))]) rfl rfl rfl rfl ?_
  refine sm_25 ?_
  refine ⟨_, rfl, ?_⟩
  refine xv_kv1 (pc := 52) (fr_get fo_21_1 12 rfl) cc_21_95 (as := [.inr (.inr (17, a1.toNatClampNeg)), .inl (xv_wi x3 (1 : Int32) (40 : Int32))]) (rs := []) rfl rfl rfl rfl rfl ?_
  refine h.mono (fun r J4 p5 h => ?_)
  obtain ⟨x6, hr, h⟩ := h
  refine ⟨x6, hr, ?_⟩
  exact ex_ireturn (pc := 55) (fr_get fo_21_1 13 rfl) rt_21 rfl rfl (ma_end_mk h)

theorem e_22 {d : Nat} {I : ma_I} {o : Nat} {Q : ma_Q} {a1 : Int32}
  (h :
    ma_in a1 8 ∧
    ma_in (I 6 0 8) 6 ∧
    Exm (d) 55 [.inr (.inr (19, (I 6 0 8).toNatClampNeg)), .inl (1 : Int32), .inr (.inr (26, 0))] (ma_up (ma_up (ma_up (ma_up (ma_up (ma_up I 26 0 0 (I 17 a1.toNatClampNeg 4)) 26 0 1 (I 17 a1.toNatClampNeg 2)) 26 0 2 (0 : Int32)) 26 0 3 (I 17 a1.toNatClampNeg 1)) 26 0 4 a1) 26 0 5 ((I 17 a1.toNatClampNeg 5) - (I 17 a1.toNatClampNeg 4))) o (fun r J1 p2 => ∃ x3 : Int32, r = some (.inl x3) ∧
      Q (some (.inl (xv_wi x3 (0 : Int32) (99 : Int32)))) J1 p2)) :
  Exm (d + 1) 22 [.inr (.inr (6, 0)), .inl a1] I o Q := by
  show Ex (d + 1) 22 (0, [some (.inr (.inr (6, 0))), some (.inl a1), none], [], ma_mem I o, 0, 0) (ma_end Q)
  refine ex_aload_n (pc := 0) (fr_get fo_22_0 0 rfl) rfl rfl ?_
  refine ex_gr (pc := 1) (fr_get fo_22_0 1 rfl) ow_22 fr_2_24_6 (q := (16, 0)) rfl ?_
  refine ex_iload_n (pc := 4) (fr_get fo_22_0 2 rfl) rfl ?_
  refine xv_aald (pc := 5) (fr_get fo_22_0 3 rfl) ga_16 gl_16 (q := (17, a1.toNatClampNeg)) rfl rfl h.1 ?_
  replace h := h.2
  refine ex_astore_n (pc := 6) (fr_get fo_22_0 4 rfl) rfl rfl (L' := [some (.inr (.inr (6, 0))), some (.inl a1), some (.inr (.inr (17, a1.toNatClampNeg)))]) rfl ?_
  refine ex_aload_n (pc := 7) (fr_get fo_22_0 5 rfl) rfl rfl ?_
  refine ex_aload_n (pc := 8) (fr_get fo_22_0 6 rfl) rfl rfl ?_
  refine xv_gi (pc := 9) (fr_get fo_22_0 7 rfl) ow_22 fg_2_98_17 rfl ?_
  refine ex_aload_n (pc := 12) (fr_get fo_22_0 8 rfl) rfl rfl ?_
  refine xv_gi (pc := 13) (fr_get fo_22_0 9 rfl) ow_22 fg_2_58_17 rfl ?_
  refine ex_iconst (pc := 16) (fr_get fo_22_0 10 rfl) ic_0 ?_
  refine ex_aload_n (pc := 17) (fr_get fo_22_0 11 rfl) rfl rfl ?_
  refine xv_gi (pc := 18) (fr_get fo_22_0 12 rfl) ow_22 fg_2_77_17 rfl ?_
  refine ex_iload_n (pc := 21) (fr_get fo_22_0 13 rfl) rfl ?_
  refine ex_aload_n (pc := 22) (fr_get fo_22_0 14 rfl) rfl rfl ?_
  refine xv_gi (pc := 23) (fr_get fo_22_0 15 rfl) ow_22 fg_2_101_17 rfl ?_
  refine ex_aload_n (pc := 26) (fr_get fo_22_1 0 rfl) rfl rfl ?_
  refine xv_gi (pc := 27) (fr_get fo_22_1 1 rfl) ow_22 fg_2_98_17 rfl ?_
  refine ex_isub (pc := 30) (fr_get fo_22_1 2 rfl) ?_
  refine xv_kv0 (pc := 31) (fr_get fo_22_1 3 rfl) cc_22_80 (as := [.inr (.inr (6, 0)), .inl (I 17 a1.toNatClampNeg 4), .inl (I 17 a1.toNatClampNeg 2), .inl (0 : Int32), .inl (I 17 a1.toNatClampNeg 1), .inl a1, .inl ((I 17 a1.toNatClampNeg 5) - (I 17 a1.toNatClampNeg 4))]) (rs := []) rfl rfl rfl rfl rfl ?_
  refine sm_24 ?_
  refine ⟨rfl, ?_⟩
  refine ex_aload_n (pc := 34) (fr_get fo_22_1 4 rfl) rfl rfl ?_
  refine ex_gr (pc := 35) (fr_get fo_22_1 5 rfl) ow_22 fr_2_30_6 (q := (18, 0)) rfl ?_
  refine ex_aload_n (pc := 38) (fr_get fo_22_1 6 rfl) rfl rfl ?_
  refine xv_gi (pc := 39) (fr_get fo_22_1 7 rfl) ow_22 fg_2_84_6 (Eq.trans (xv_ug rfl) (Eq.trans (xv_ug rfl) (Eq.trans (xv_ug rfl) (Eq.trans (xv_ug rfl) (Eq.trans (xv_ug rfl) (xv_ug rfl)))))) ?_
  refine xv_aald (pc := 42) (fr_get fo_22_1 8 rfl) ga_18 gl_18 (q := (19, (I 6 0 8).toNatClampNeg)) rfl rfl h.1 ?_
  replace h := h.2
  refine ex_iconst (pc := 43) (fr_get fo_22_1 9 rfl) ic_1 ?_
  refine ex_aload_n (pc := 44) (fr_get fo_22_1 10 rfl) rfl rfl ?_
  refine ex_gr (pc := 45) (fr_get fo_22_1 11 rfl) ow_22 fr_2_43_6 (q := (26, 0)) rfl ?_
  refine xv_kv1 (pc := 48) (fr_get fo_22_1 12 rfl) cc_22_87 (as := [.inr (.inr (19, (I 6 0 8).toNatClampNeg)), .inl (1 : Int32), .inr (.inr (26, 0))]) (rs := []) rfl rfl rfl rfl rfl ?_
  refine h.mono (fun r J1 p2 h => ?_)
  obtain ⟨x3, hr, h⟩ := h
  refine ⟨x3, hr, ?_⟩
  refine ex_iconst (pc := 51) (fr_get fo_22_1 13 rfl) ic_0 ?_
  refine ex_bipush (pc := 52) (fr_get fo_22_1 14 rfl) bp_99 ?_
  refine xv_ks1 (pc := 54) (fr_get fo_22_1 15 rfl) cc_22_91 (as := [.inl x3, .inl (0 : Int32), .inl (99 : Int32)]) (rs := []) rfl rfl rfl rfl ?_
  refine sm_25 ?_
  refine ⟨_, rfl, ?_⟩
  exact ex_ireturn (pc := 57) (fr_get fo_22_2 0 rfl) rt_22 rfl rfl (ma_end_mk h)

theorem e_23 {d : Nat} {I : ma_I} {o : Nat} {Q : ma_Q} {a1 : Int32} {a2 : Int32} {a3 : Int32} {a4 : Int32}
  (h :
    ma_in (I 6 0 8) 6 ∧
    Exm (d) 55 [.inr (.inr (19, (I 6 0 8).toNatClampNeg)), .inl (2 : Int32), .inr (.inr (26, 0))] (ma_up (ma_up (ma_up (ma_up (ma_up (ma_up I 26 0 0 a2) 26 0 1 a1) 26 0 2 a3) 26 0 3 (0 : Int32)) 26 0 4 (0 : Int32)) 26 0 5 a4) o (fun r J1 p2 => ∃ x3 : Int32, r = some (.inl x3) ∧
      Q (some (.inl (xv_wi x3 (0 : Int32) (999 : Int32)))) J1 p2)) :
  Exm (d + 1) 23 [.inr (.inr (6, 0)), .inl a1, .inl a2, .inl a3, .inl a4] I o Q := by
  show Ex (d + 1) 23 (0, [some (.inr (.inr (6, 0))), some (.inl a1), some (.inl a2), some (.inl a3), some (.inl a4)], [], ma_mem I o, 0, 0) (ma_end Q)
  refine ex_aload_n (pc := 0) (fr_get fo_23_0 0 rfl) rfl rfl ?_
  refine ex_iload_n (pc := 1) (fr_get fo_23_0 1 rfl) rfl ?_
  refine ex_iload_n (pc := 2) (fr_get fo_23_0 2 rfl) rfl ?_
  refine ex_iload_n (pc := 3) (fr_get fo_23_0 3 rfl) rfl ?_
  refine ex_iconst (pc := 4) (fr_get fo_23_0 4 rfl) ic_0 ?_
  refine ex_iconst (pc := 5) (fr_get fo_23_0 5 rfl) ic_0 ?_
  refine ex_iload (pc := 6) (fr_get fo_23_0 6 rfl) rfl ?_
  refine xv_kv0 (pc := 8) (fr_get fo_23_0 7 rfl) cc_23_80 (as := [.inr (.inr (6, 0)), .inl a2, .inl a1, .inl a3, .inl (0 : Int32), .inl (0 : Int32), .inl a4]) (rs := []) rfl rfl rfl rfl rfl ?_
  refine sm_24 ?_
  refine ⟨rfl, ?_⟩
  refine ex_aload_n (pc := 11) (fr_get fo_23_0 8 rfl) rfl rfl ?_
  refine ex_gr (pc := 12) (fr_get fo_23_0 9 rfl) ow_23 fr_2_30_6 (q := (18, 0)) rfl ?_
  refine ex_aload_n (pc := 15) (fr_get fo_23_0 10 rfl) rfl rfl ?_
  refine xv_gi (pc := 16) (fr_get fo_23_0 11 rfl) ow_23 fg_2_84_6 (Eq.trans (xv_ug rfl) (Eq.trans (xv_ug rfl) (Eq.trans (xv_ug rfl) (Eq.trans (xv_ug rfl) (Eq.trans (xv_ug rfl) (xv_ug rfl)))))) ?_
  refine xv_aald (pc := 19) (fr_get fo_23_0 12 rfl) ga_18 gl_18 (q := (19, (I 6 0 8).toNatClampNeg)) rfl rfl h.1 ?_
  replace h := h.2
  refine ex_iconst (pc := 20) (fr_get fo_23_0 13 rfl) ic_2 ?_
  refine ex_aload_n (pc := 21) (fr_get fo_23_0 14 rfl) rfl rfl ?_
  refine ex_gr (pc := 22) (fr_get fo_23_0 15 rfl) ow_23 fr_2_43_6 (q := (26, 0)) rfl ?_
  refine xv_kv1 (pc := 25) (fr_get fo_23_1 0 rfl) cc_23_87 (as := [.inr (.inr (19, (I 6 0 8).toNatClampNeg)), .inl (2 : Int32), .inr (.inr (26, 0))]) (rs := []) rfl rfl rfl rfl rfl ?_
  refine h.mono (fun r J1 p2 h => ?_)
  obtain ⟨x3, hr, h⟩ := h
  refine ⟨x3, hr, ?_⟩
  refine ex_iconst (pc := 28) (fr_get fo_23_1 1 rfl) ic_0 ?_
  refine ex_sipush (pc := 29) (fr_get fo_23_1 2 rfl) sp_999 ?_
  refine xv_ks1 (pc := 32) (fr_get fo_23_1 3 rfl) cc_23_91 (as := [.inl x3, .inl (0 : Int32), .inl (999 : Int32)]) (rs := []) rfl rfl rfl rfl ?_
  refine sm_25 ?_
  refine ⟨_, rfl, ?_⟩
  exact ex_ireturn (pc := 35) (fr_get fo_23_1 4 rfl) rt_23 rfl rfl (ma_end_mk h)

theorem e_26 {d : Nat} {I : ma_I} {o : Nat} {Q : ma_Q} 
  (h :
    Ex (d + 1) 26 (2, [some (.inr (.inr (6, 0))), some (.inl (0 : Int32))], [], ma_mem I o, 0, 0) (ma_end Q)) :
  Exm (d + 1) 26 [.inr (.inr (6, 0))] I o Q := by
  show Ex (d + 1) 26 (0, [some (.inr (.inr (6, 0))), none], [], ma_mem I o, 0, 0) (ma_end Q)
  refine ex_iconst (pc := 0) (fr_get fo_26_0 0 rfl) ic_0 ?_
  refine ex_istore_n (pc := 1) (fr_get fo_26_0 1 rfl) rfl (L' := [some (.inr (.inr (6, 0))), some (.inl (0 : Int32))]) rfl ?_
  exact h

theorem b_26_2 {d : Nat} {I : ma_I} {o : Nat} {Q : ma_Q} {v1 : Int32}
  (h :
    (I 6 0 4 ≤ v1 →
      Q none I o) ∧
    (v1 < I 6 0 4 →
      Exm (d) 22 [.inr (.inr (6, 0)), .inl v1] I o (fun r J1 p2 => ∃ x3 : Int32, r = some (.inl x3) ∧
        ma_in v1 8 ∧
        Ex (d + 1) 26 (2, [some (.inr (.inr (6, 0))), some (.inl (v1 + (1 : Int32)))], [], ma_mem (ma_up J1 25 0 v1.toNatClampNeg x3) p2, 0, 0) (ma_end Q)))) :
  Ex (d + 1) 26 (2, [some (.inr (.inr (6, 0))), some (.inl v1)], [], ma_mem I o, 0, 0) (ma_end Q) := by
  refine ex_iload_n (pc := 2) (fr_get fo_26_0 2 rfl) rfl ?_
  refine ex_aload_n (pc := 3) (fr_get fo_26_0 3 rfl) rfl rfl ?_
  refine xv_gi (pc := 4) (fr_get fo_26_0 4 rfl) ow_26 fg_2_51_6 rfl ?_
  refine xv_cge (pc := 7) (fr_get fo_26_0 5 rfl) (t := 27) rfl (fun c => ?_) (fun c => ?_)
  · replace h := h.1 c
    exact ex_return (pc := 27) (fr_get fo_26_0 15 rfl) rt_26 rfl rfl (ma_end_mk h)
  · replace h := h.2 c
    refine ex_aload_n (pc := 10) (fr_get fo_26_0 6 rfl) rfl rfl ?_
    refine ex_gr (pc := 11) (fr_get fo_26_0 7 rfl) ow_26 fr_2_40_6 (q := (25, 0)) rfl ?_
    refine ex_iload_n (pc := 14) (fr_get fo_26_0 8 rfl) rfl ?_
    refine ex_aload_n (pc := 15) (fr_get fo_26_0 9 rfl) rfl rfl ?_
    refine ex_iload_n (pc := 16) (fr_get fo_26_0 10 rfl) rfl ?_
    refine xv_kv1 (pc := 17) (fr_get fo_26_0 11 rfl) cc_26_104 (as := [.inr (.inr (6, 0)), .inl v1]) (rs := [.inl v1, .inr (.inr (25, 0))]) rfl rfl rfl rfl rfl ?_
    refine h.mono (fun r J1 p2 h => ?_)
    obtain ⟨x3, hr, h⟩ := h
    refine ⟨x3, hr, ?_⟩
    refine xv_iast (pc := 20) (fr_get fo_26_0 12 rfl) gs_25 gl_25 rfl h.1 ?_
    replace h := h.2
    refine xv_iinc (pc := 21) (fr_get fo_26_0 13 rfl) rfl ic_1 (L' := [some (.inr (.inr (6, 0))), some (.inl (v1 + (1 : Int32)))]) rfl ?_
    refine ex_goto (pc := 24) (fr_get fo_26_0 14 rfl) (t := 2) rfl ?_
    exact h

theorem e_27 {d : Nat} {I : ma_I} {o : Nat} {Q : ma_Q} {a1 : Int32}
  (h :
    Ex (d) 27 (4, [some (.inr (.inr (6, 0))), some (.inl a1), some (.inl (0 : Int32)), some (.inl (0 : Int32))], [], ma_mem I o, 0, 0) (ma_end Q)) :
  Exm (d) 27 [.inr (.inr (6, 0)), .inl a1] I o Q := by
  show Ex (d) 27 (0, [some (.inr (.inr (6, 0))), some (.inl a1), none, none], [], ma_mem I o, 0, 0) (ma_end Q)
  refine ex_iconst (pc := 0) (fr_get fo_27_0 0 rfl) ic_0 ?_
  refine ex_istore_n (pc := 1) (fr_get fo_27_0 1 rfl) rfl (L' := [some (.inr (.inr (6, 0))), some (.inl a1), some (.inl (0 : Int32)), none]) rfl ?_
  refine ex_iconst (pc := 2) (fr_get fo_27_0 2 rfl) ic_0 ?_
  refine ex_istore_n (pc := 3) (fr_get fo_27_0 3 rfl) rfl (L' := [some (.inr (.inr (6, 0))), some (.inl a1), some (.inl (0 : Int32)), some (.inl (0 : Int32))]) rfl ?_
  exact h

theorem b_27_4 {d : Nat} {I : ma_I} {o : Nat} {Q : ma_Q} {v1 : Int32} {v2 : Int32} {v3 : Int32}
  (h :
    (I 6 0 4 ≤ v3 →
      Q (some (.inl v2)) I o) ∧
    (v3 < I 6 0 4 →
      ((v1 >>> (v3 &&& 31)) &&& (1 : Int32) = 0 →
        Ex (d) 27 (4, [some (.inr (.inr (6, 0))), some (.inl v1), some (.inl v2), some (.inl (v3 + (1 : Int32)))], [], ma_mem I o, 0, 0) (ma_end Q)) ∧
      ((v1 >>> (v3 &&& 31)) &&& (1 : Int32) ≠ 0 →
        ma_in v3 8 ∧
        Ex (d) 27 (4, [some (.inr (.inr (6, 0))), some (.inl v1), some (.inl (v2 + (I 25 0 v3.toNatClampNeg))), some (.inl (v3 + (1 : Int32)))], [], ma_mem I o, 0, 0) (ma_end Q)))) :
  Ex (d) 27 (4, [some (.inr (.inr (6, 0))), some (.inl v1), some (.inl v2), some (.inl v3)], [], ma_mem I o, 0, 0) (ma_end Q) := by
  refine ex_iload_n (pc := 4) (fr_get fo_27_0 4 rfl) rfl ?_
  refine ex_aload_n (pc := 5) (fr_get fo_27_0 5 rfl) rfl rfl ?_
  refine xv_gi (pc := 6) (fr_get fo_27_0 6 rfl) ow_27 fg_2_51_6 rfl ?_
  refine xv_cge (pc := 9) (fr_get fo_27_0 7 rfl) (t := 35) rfl (fun c => ?_) (fun c => ?_)
  · replace h := h.1 c
    refine ex_iload_n (pc := 35) (fr_get fo_27_1 7 rfl) rfl ?_
    exact ex_ireturn (pc := 36) (fr_get fo_27_1 8 rfl) rt_27 rfl rfl (ma_end_mk h)
  · replace h := h.2 c
    refine ex_iload_n (pc := 12) (fr_get fo_27_0 8 rfl) rfl ?_
    refine ex_iload_n (pc := 13) (fr_get fo_27_0 9 rfl) rfl ?_
    refine ex_ishr (pc := 14) (fr_get fo_27_0 10 rfl) ?_
    refine ex_iconst (pc := 15) (fr_get fo_27_0 11 rfl) ic_1 ?_
    refine ex_iand (pc := 16) (fr_get fo_27_0 12 rfl) ?_
    refine xv_beq (pc := 17) (fr_get fo_27_0 13 rfl) (t := 29) rfl (fun c => ?_) (fun c => ?_)
    · replace h := h.1 c
      refine xv_iinc (pc := 29) (fr_get fo_27_1 5 rfl) rfl ic_1 (L' := [some (.inr (.inr (6, 0))), some (.inl v1), some (.inl v2), some (.inl (v3 + (1 : Int32)))]) rfl ?_
      refine ex_goto (pc := 32) (fr_get fo_27_1 6 rfl) (t := 4) rfl ?_
      exact h
    · replace h := h.2 c
      refine ex_iload_n (pc := 20) (fr_get fo_27_0 14 rfl) rfl ?_
      refine ex_aload_n (pc := 21) (fr_get fo_27_0 15 rfl) rfl rfl ?_
      refine ex_gr (pc := 22) (fr_get fo_27_1 0 rfl) ow_27 fr_2_40_6 (q := (25, 0)) rfl ?_
      refine ex_iload_n (pc := 25) (fr_get fo_27_1 1 rfl) rfl ?_
      refine xv_iald (pc := 26) (fr_get fo_27_1 2 rfl) gk_25 (n := 8) (gn_25 ..) rfl rfl h.1 ?_
      replace h := h.2
      refine ex_iadd (pc := 27) (fr_get fo_27_1 3 rfl) ?_
      refine ex_istore_n (pc := 28) (fr_get fo_27_1 4 rfl) rfl (L' := [some (.inr (.inr (6, 0))), some (.inl v1), some (.inl (v2 + (I 25 0 v3.toNatClampNeg))), some (.inl v3)]) rfl ?_
      refine xv_iinc (pc := 29) (fr_get fo_27_1 5 rfl) rfl ic_1 (L' := [some (.inr (.inr (6, 0))), some (.inl v1), some (.inl (v2 + (I 25 0 v3.toNatClampNeg))), some (.inl (v3 + (1 : Int32)))]) rfl ?_
      refine ex_goto (pc := 32) (fr_get fo_27_1 6 rfl) (t := 4) rfl ?_
      exact h

theorem e_28 {d : Nat} {I : ma_I} {o : Nat} {Q : ma_Q} {a1 : Int32}
  (h :
    Ex (d) 28 (4, [some (.inr (.inr (6, 0))), some (.inl a1), some (.inl (0 : Int32)), some (.inl (0 : Int32))], [], ma_mem I o, 0, 0) (ma_end Q)) :
  Exm (d) 28 [.inr (.inr (6, 0)), .inl a1] I o Q := by
  show Ex (d) 28 (0, [some (.inr (.inr (6, 0))), some (.inl a1), none, none], [], ma_mem I o, 0, 0) (ma_end Q)
  refine ex_iconst (pc := 0) (fr_get fo_28_0 0 rfl) ic_0 ?_
  refine ex_istore_n (pc := 1) (fr_get fo_28_0 1 rfl) rfl (L' := [some (.inr (.inr (6, 0))), some (.inl a1), some (.inl (0 : Int32)), none]) rfl ?_
  refine ex_iconst (pc := 2) (fr_get fo_28_0 2 rfl) ic_0 ?_
  refine ex_istore_n (pc := 3) (fr_get fo_28_0 3 rfl) rfl (L' := [some (.inr (.inr (6, 0))), some (.inl a1), some (.inl (0 : Int32)), some (.inl (0 : Int32))]) rfl ?_
  exact h

theorem b_28_4 {d : Nat} {I : ma_I} {o : Nat} {Q : ma_Q} {v1 : Int32} {v2 : Int32} {v3 : Int32}
  (h :
    (I 6 0 4 ≤ v3 →
      Q (some (.inl v2)) I o) ∧
    (v3 < I 6 0 4 →
      ((v1 >>> (v3 &&& 31)) &&& (1 : Int32) = 0 →
        Ex (d) 28 (4, [some (.inr (.inr (6, 0))), some (.inl v1), some (.inl v2), some (.inl (v3 + (1 : Int32)))], [], ma_mem I o, 0, 0) (ma_end Q)) ∧
      ((v1 >>> (v3 &&& 31)) &&& (1 : Int32) ≠ 0 →
        ma_in v3 8 ∧
        Ex (d) 28 (4, [some (.inr (.inr (6, 0))), some (.inl v1), some (.inl (v2 + (I 25 0 v3.toNatClampNeg))), some (.inl (v3 + (1 : Int32)))], [], ma_mem I o, 0, 0) (ma_end Q)))) :
  Ex (d) 28 (4, [some (.inr (.inr (6, 0))), some (.inl v1), some (.inl v2), some (.inl v3)], [], ma_mem I o, 0, 0) (ma_end Q) := by
  refine ex_iload_n (pc := 4) (fr_get fo_28_0 4 rfl) rfl ?_
  refine ex_aload_n (pc := 5) (fr_get fo_28_0 5 rfl) rfl rfl ?_
  refine xv_gi (pc := 6) (fr_get fo_28_0 6 rfl) ow_28 fg_2_51_6 rfl ?_
  refine xv_cge (pc := 9) (fr_get fo_28_0 7 rfl) (t := 35) rfl (fun c => ?_) (fun c => ?_)
  · replace h := h.1 c
    refine ex_iload_n (pc := 35) (fr_get fo_28_1 7 rfl) rfl ?_
    exact ex_ireturn (pc := 36) (fr_get fo_28_1 8 rfl) rt_28 rfl rfl (ma_end_mk h)
  · replace h := h.2 c
    refine ex_iload_n (pc := 12) (fr_get fo_28_0 8 rfl) rfl ?_
    refine ex_iload_n (pc := 13) (fr_get fo_28_0 9 rfl) rfl ?_
    refine ex_ishr (pc := 14) (fr_get fo_28_0 10 rfl) ?_
    refine ex_iconst (pc := 15) (fr_get fo_28_0 11 rfl) ic_1 ?_
    refine ex_iand (pc := 16) (fr_get fo_28_0 12 rfl) ?_
    refine xv_beq (pc := 17) (fr_get fo_28_0 13 rfl) (t := 29) rfl (fun c => ?_) (fun c => ?_)
    · replace h := h.1 c
      refine xv_iinc (pc := 29) (fr_get fo_28_1 5 rfl) rfl ic_1 (L' := [some (.inr (.inr (6, 0))), some (.inl v1), some (.inl v2), some (.inl (v3 + (1 : Int32)))]) rfl ?_
      refine ex_goto (pc := 32) (fr_get fo_28_1 6 rfl) (t := 4) rfl ?_
      exact h
    · replace h := h.2 c
      refine ex_iload_n (pc := 20) (fr_get fo_28_0 14 rfl) rfl ?_
      refine ex_aload_n (pc := 21) (fr_get fo_28_0 15 rfl) rfl rfl ?_
      refine ex_gr (pc := 22) (fr_get fo_28_1 0 rfl) ow_28 fr_2_40_6 (q := (25, 0)) rfl ?_
      refine ex_iload_n (pc := 25) (fr_get fo_28_1 1 rfl) rfl ?_
      refine xv_iald (pc := 26) (fr_get fo_28_1 2 rfl) gk_25 (n := 8) (gn_25 ..) rfl rfl h.1 ?_
      replace h := h.2
      refine ex_iadd (pc := 27) (fr_get fo_28_1 3 rfl) ?_
      refine ex_istore_n (pc := 28) (fr_get fo_28_1 4 rfl) rfl (L' := [some (.inr (.inr (6, 0))), some (.inl v1), some (.inl (v2 + (I 25 0 v3.toNatClampNeg))), some (.inl v3)]) rfl ?_
      refine xv_iinc (pc := 29) (fr_get fo_28_1 5 rfl) rfl ic_1 (L' := [some (.inr (.inr (6, 0))), some (.inl v1), some (.inl (v2 + (I 25 0 v3.toNatClampNeg))), some (.inl (v3 + (1 : Int32)))]) rfl ?_
      refine ex_goto (pc := 32) (fr_get fo_28_1 6 rfl) (t := 4) rfl ?_
      exact h

theorem e_30 {d : Nat} {I : ma_I} {o : Nat} {Q : ma_Q} {q1 : Nat}
  (h :
    Exm (d) 52 [.inr (.inr (19, q1))] I q1 (fun r J1 p2 => r = none ∧
      Exm (d) 44 [.inr (.inr (8, 0))] J1 p2 (fun r J3 p4 => r = none ∧
        Ex (d + 1) 30 (21, [some (.inr (.inr (9, 0))), some (.inr (.inr (19, q1))), some (.inl (0 : Int32))], [], ma_mem J3 p4, 0, 0) (ma_end Q)))) :
  Exm (d + 1) 30 [.inr (.inr (9, 0)), .inr (.inr (19, q1))] I o Q := by
  show Ex (d + 1) 30 (0, [some (.inr (.inr (9, 0))), some (.inr (.inr (19, q1))), none], [], ma_mem I o, 0, 0) (ma_end Q)
  refine ex_aload_n (pc := 0) (fr_get fo_30_0 0 rfl) rfl rfl ?_
  refine ex_aload_n (pc := 1) (fr_get fo_30_0 1 rfl) rfl rfl ?_
  refine xv_out (pc := 2) (fr_get fo_30_0 2 rfl) ow_30 fo_x_3_15 ?_
  refine ex_aload_n (pc := 5) (fr_get fo_30_0 3 rfl) rfl rfl ?_
  refine ex_gr (pc := 6) (fr_get fo_30_0 4 rfl) ow_30 fr_3_15_9 (q := (19, q1)) rfl ?_
  refine xv_kv0 (pc := 9) (fr_get fo_30_0 5 rfl) cc_30_19 (as := [.inr (.inr (19, q1))]) (rs := []) rfl rfl rfl rfl rfl ?_
  refine h.mono (fun r J1 p2 h => ⟨h.1, ?_⟩)
  replace h := h.2
  refine ex_aload_n (pc := 12) (fr_get fo_30_0 6 rfl) rfl rfl ?_
  refine ex_gr (pc := 13) (fr_get fo_30_0 7 rfl) ow_30 fr_3_9_9 (q := (8, 0)) rfl ?_
  refine xv_kv0 (pc := 16) (fr_get fo_30_0 8 rfl) cc_30_24 (as := [.inr (.inr (8, 0))]) (rs := []) rfl rfl rfl rfl rfl ?_
  refine h.mono (fun r J3 p4 h => ⟨h.1, ?_⟩)
  replace h := h.2
  refine ex_iconst (pc := 19) (fr_get fo_30_0 9 rfl) ic_0 ?_
  refine ex_istore_n (pc := 20) (fr_get fo_30_0 10 rfl) rfl (L' := [some (.inr (.inr (9, 0))), some (.inr (.inr (19, q1))), some (.inl (0 : Int32))]) rfl ?_
  exact h

theorem b_30_21 {d : Nat} {I : ma_I} {o : Nat} {Q : ma_Q} {q1 : Nat} {v2 : Int32}
  (h :
    ((3 : Int32) ≤ v2 →
      (I 8 0 1 ≠ 0 →
        Q (some (.inl (I 8 0 2))) I o) ∧
      (I 8 0 1 = 0 →
        Q (some (.inl (-1 : Int32))) I o)) ∧
    (v2 < (3 : Int32) →
      (I 8 0 1 = (4 : Int32) + v2 →
        Exm (d) 45 [.inr (.inr (8, 0))] I o (fun r J1 p2 => r = none ∧
          Exm (d) 31 [.inr (.inr (9, 0)), .inl (0 : Int32)] J1 p2 (fun r J3 p4 => ∃ x5 : Int32, r = some (.inl x5) ∧
            (x5 = 0 →
              Q (some (.inl (J3 8 0 2))) J3 p4) ∧
            (x5 ≠ 0 →
              (J3 8 0 1 = (59 : Int32) →
                Exm (d) 45 [.inr (.inr (8, 0))] J3 p4 (fun r J6 p7 => r = none ∧
                  Exm (d) 54 [.inr (.inr (19, p7)), .inl v2] J6 p7 (fun r J8 p9 => r = none ∧
                    Ex (d + 1) 30 (21, [some (.inr (.inr (9, 0))), some (.inr (.inr (19, q1))), some (.inl (v2 + (1 : Int32)))], [], ma_mem J8 p9, 0, 0) (ma_end Q)))) ∧
              (J3 8 0 1 ≠ (59 : Int32) →
                Q (some (.inl (J3 8 0 2))) J3 p4))))) ∧
      (I 8 0 1 ≠ (4 : Int32) + v2 →
        Q (some (.inl (I 8 0 2))) I o))) :
  Ex (d + 1) 30 (21, [some (.inr (.inr (9, 0))), some (.inr (.inr (19, q1))), some (.inl v2)], [], ma_mem I o, 0, 0) (ma_end Q) := by
  refine ex_iload_n (pc := 21) (fr_get fo_30_0 11 rfl) rfl ?_
  refine ex_iconst (pc := 22) (fr_get fo_30_0 12 rfl) ic_3 ?_
  refine xv_cge (pc := 23) (fr_get fo_30_0 13 rfl) (t := 103) rfl (fun c => ?_) (fun c => ?_)
  · replace h := h.1 c
    refine ex_aload_n (pc := 103) (fr_get fo_30_3 2 rfl) rfl rfl ?_
    refine ex_gr (pc := 104) (fr_get fo_30_3 3 rfl) ow_30 fr_3_9_9 (q := (8, 0)) rfl ?_
    refine xv_gi (pc := 107) (fr_get fo_30_3 4 rfl) ow_30 fg_3_29_8 rfl ?_
    refine xv_bne (pc := 110) (fr_get fo_30_3 5 rfl) (t := 117) rfl (fun c => ?_) (fun c => ?_)
    · replace h := h.1 c
      refine ex_aload_n (pc := 117) (fr_get fo_30_3 8 rfl) rfl rfl ?_
      refine ex_gr (pc := 118) (fr_get fo_30_3 9 rfl) ow_30 fr_3_9_9 (q := (8, 0)) rfl ?_
      refine xv_gi (pc := 121) (fr_get fo_30_3 10 rfl) ow_30 fg_3_33_8 rfl ?_
      exact ex_ireturn (pc := 124) (fr_get fo_30_3 11 rfl) rt_30 rfl rfl (ma_end_mk h)
    · replace h := h.2 c
      refine ex_iconst (pc := 113) (fr_get fo_30_3 6 rfl) ic_m1 ?_
      refine ex_goto (pc := 114) (fr_get fo_30_3 7 rfl) (t := 124) rfl ?_
      exact ex_ireturn (pc := 124) (fr_get fo_30_3 11 rfl) rt_30 rfl rfl (ma_end_mk h)
  · replace h := h.2 c
    refine ex_aload_n (pc := 26) (fr_get fo_30_0 14 rfl) rfl rfl ?_
    refine ex_gr (pc := 27) (fr_get fo_30_0 15 rfl) ow_30 fr_3_9_9 (q := (8, 0)) rfl ?_
    refine xv_gi (pc := 30) (fr_get fo_30_1 0 rfl) ow_30 fg_3_29_8 rfl ?_
    refine ex_iconst (pc := 33) (fr_get fo_30_1 1 rfl) ic_4 ?_
    refine ex_iload_n (pc := 34) (fr_get fo_30_1 2 rfl) rfl ?_
    refine ex_iadd (pc := 35) (fr_get fo_30_1 3 rfl) ?_
    refine xv_ceq (pc := 36) (fr_get fo_30_1 4 rfl) (t := 47) rfl (fun c => ?_) (fun c => ?_)
    · replace h := h.1 c
      refine ex_aload_n (pc := 47) (fr_get fo_30_1 9 rfl) rfl rfl ?_
      refine ex_gr (pc := 48) (fr_get fo_30_1 10 rfl) ow_30 fr_3_9_9 (q := (8, 0)) rfl ?_
      refine xv_kv0 (pc := 51) (fr_get fo_30_1 11 rfl) cc_30_36 (as := [.inr (.inr (8, 0))]) (rs := []) rfl rfl rfl rfl rfl ?_
      refine h.mono (fun r J1 p2 h => ⟨h.1, ?_⟩)
      replace h := h.2
      refine ex_aload_n (pc := 54) (fr_get fo_30_1 12 rfl) rfl rfl ?_
      refine ex_iconst (pc := 55) (fr_get fo_30_1 13 rfl) ic_0 ?_
      refine xv_kv1 (pc := 56) (fr_get fo_30_1 14 rfl) cc_30_39 (as := [.inr (.inr (9, 0)), .inl (0 : Int32)]) (rs := []) rfl rfl rfl rfl rfl ?_
      refine h.mono (fun r J3 p4 h => ?_)
      obtain ⟨x5, hr, h⟩ := h
      refine ⟨x5, hr, ?_⟩
      refine xv_beq (pc := 59) (fr_get fo_30_1 15 rfl) (t := 74) rfl (fun c => ?_) (fun c => ?_)
      · replace h := h.1 c
        refine ex_aload_n (pc := 74) (fr_get fo_30_2 5 rfl) rfl rfl ?_
        refine ex_gr (pc := 75) (fr_get fo_30_2 6 rfl) ow_30 fr_3_9_9 (q := (8, 0)) rfl ?_
        refine xv_gi (pc := 78) (fr_get fo_30_2 7 rfl) ow_30 fg_3_33_8 rfl ?_
        exact ex_ireturn (pc := 81) (fr_get fo_30_2 8 rfl) rt_30 rfl rfl (ma_end_mk h)
      · replace h := h.2 c
        refine ex_aload_n (pc := 62) (fr_get fo_30_2 0 rfl) rfl rfl ?_
        refine ex_gr (pc := 63) (fr_get fo_30_2 1 rfl) ow_30 fr_3_9_9 (q := (8, 0)) rfl ?_
        refine xv_gi (pc := 66) (fr_get fo_30_2 2 rfl) ow_30 fg_3_29_8 rfl ?_
        refine ex_bipush (pc := 69) (fr_get fo_30_2 3 rfl) bp_59 ?_
        refine xv_ceq (pc := 71) (fr_get fo_30_2 4 rfl) (t := 82) rfl (fun c => ?_) (fun c => ?_)
        · replace h := h.1 c
          refine ex_aload_n (pc := 82) (fr_get fo_30_2 9 rfl) rfl rfl ?_
          refine ex_gr (pc := 83) (fr_get fo_30_2 10 rfl) ow_30 fr_3_9_9 (q := (8, 0)) rfl ?_
          refine xv_kv0 (pc := 86) (fr_get fo_30_2 11 rfl) cc_30_36 (as := [.inr (.inr (8, 0))]) (rs := []) rfl rfl rfl rfl rfl ?_
          refine h.mono (fun r J6 p7 h => ⟨h.1, ?_⟩)
          replace h := h.2
          refine ex_aload_n (pc := 89) (fr_get fo_30_2 12 rfl) rfl rfl ?_
          refine ex_gr (pc := 90) (fr_get fo_30_2 13 rfl) ow_30 fr_3_15_9 (q := (19, p7)) rfl ?_
          refine ex_iload_n (pc := 93) (fr_get fo_30_2 14 rfl) rfl ?_
          refine xv_kv0 (pc := 94) (fr_get fo_30_2 15 rfl) cc_30_43 (as := [.inr (.inr (19, p7)), .inl v2]) (rs := []) rfl rfl rfl rfl rfl ?_
          refine h.mono (fun r J8 p9 h => ⟨h.1, ?_⟩)
          replace h := h.2
          refine xv_iinc (pc := 97) (fr_get fo_30_3 0 rfl) rfl ic_1 (L' := [some (.inr (.inr (9, 0))), some (.inr (.inr (19, q1))), some (.inl (v2 + (1 : Int32)))]) rfl ?_
          refine ex_goto (pc := 100) (fr_get fo_30_3 1 rfl) (t := 21) rfl ?_
          exact h
        · replace h := h.2 c
          refine ex_aload_n (pc := 74) (fr_get fo_30_2 5 rfl) rfl rfl ?_
          refine ex_gr (pc := 75) (fr_get fo_30_2 6 rfl) ow_30 fr_3_9_9 (q := (8, 0)) rfl ?_
          refine xv_gi (pc := 78) (fr_get fo_30_2 7 rfl) ow_30 fg_3_33_8 rfl ?_
          exact ex_ireturn (pc := 81) (fr_get fo_30_2 8 rfl) rt_30 rfl rfl (ma_end_mk h)
    · replace h := h.2 c
      refine ex_aload_n (pc := 39) (fr_get fo_30_1 5 rfl) rfl rfl ?_
      refine ex_gr (pc := 40) (fr_get fo_30_1 6 rfl) ow_30 fr_3_9_9 (q := (8, 0)) rfl ?_
      refine xv_gi (pc := 43) (fr_get fo_30_1 7 rfl) ow_30 fg_3_33_8 rfl ?_
      exact ex_ireturn (pc := 46) (fr_get fo_30_1 8 rfl) rt_30 rfl rfl (ma_end_mk h)

theorem e_31 {d : Nat} {I : ma_I} {o : Nat} {Q : ma_Q} {a1 : Int32}
  (h :
    Exm (d) 32 [.inr (.inr (9, 0)), .inl a1] I o (fun r J1 p2 => ∃ x3 : Int32, r = some (.inl x3) ∧
      Ex (d + 1) 31 (8, [some (.inr (.inr (9, 0))), some (.inl a1), some (.inl x3), some (.inl (0 : Int32))], [], ma_mem J1 p2, 0, 0) (ma_end Q))) :
  Exm (d + 1) 31 [.inr (.inr (9, 0)), .inl a1] I o Q := by
  show Ex (d + 1) 31 (0, [some (.inr (.inr (9, 0))), some (.inl a1), none, none], [], ma_mem I o, 0, 0) (ma_end Q)
  refine ex_aload_n (pc := 0) (fr_get fo_31_0 0 rfl) rfl rfl ?_
  refine ex_iload_n (pc := 1) (fr_get fo_31_0 1 rfl) rfl ?_
  refine xv_kv1 (pc := 2) (fr_get fo_31_0 2 rfl) cc_31_47 (as := [.inr (.inr (9, 0)), .inl a1]) (rs := []) rfl rfl rfl rfl rfl ?_
  refine h.mono (fun r J1 p2 h => ?_)
  obtain ⟨x3, hr, h⟩ := h
  refine ⟨x3, hr, ?_⟩
  refine ex_istore_n (pc := 5) (fr_get fo_31_0 3 rfl) rfl (L' := [some (.inr (.inr (9, 0))), some (.inl a1), some (.inl x3), none]) rfl ?_
  refine ex_iconst (pc := 6) (fr_get fo_31_0 4 rfl) ic_0 ?_
  refine ex_istore_n (pc := 7) (fr_get fo_31_0 5 rfl) rfl (L' := [some (.inr (.inr (9, 0))), some (.inl a1), some (.inl x3), some (.inl (0 : Int32))]) rfl ?_
  exact h

theorem b_31_8 {d : Nat} {I : ma_I} {o : Nat} {Q : ma_Q} {v1 : Int32} {v2 : Int32} {v3 : Int32}
  (h :
    (v2 = 0 →
      (v2 = 0 ∨ v2 = 1) ∧ Q (some (.inl v2)) I o) ∧
    (v2 ≠ 0 →
      (I 8 0 1 ≠ (7 : Int32) →
        (v2 = 0 ∨ v2 = 1) ∧ Q (some (.inl v2)) I o) ∧
      (I 8 0 1 = (7 : Int32) →
        ((160 : Int32) ≤ v3 →
          (v2 = 0 ∨ v2 = 1) ∧ Q (some (.inl v2)) I o) ∧
        (v3 < (160 : Int32) →
          Exm (d) 45 [.inr (.inr (8, 0))] I o (fun r J1 p2 => r = none ∧
            Exm (d) 32 [.inr (.inr (9, 0)), .inl v1] J1 p2 (fun r J3 p4 => ∃ x5 : Int32, r = some (.inl x5) ∧
              Exm (d) 53 [.inr (.inr (19, p4)), .inl (10012 : Int32)] J3 p4 (fun r J6 p7 => r = none ∧
                Ex (d + 1) 31 (8, [some (.inr (.inr (9, 0))), some (.inl v1), some (.inl x5), some (.inl (v3 + (1 : Int32)))], [], ma_mem J6 p7, 0, 0) (ma_end Q)))))))) :
  Ex (d + 1) 31 (8, [some (.inr (.inr (9, 0))), some (.inl v1), some (.inl v2), some (.inl v3)], [], ma_mem I o, 0, 0) (ma_end Q) := by
  refine ex_iload_n (pc := 8) (fr_get fo_31_0 6 rfl) rfl ?_
  refine xv_beq (pc := 9) (fr_get fo_31_0 7 rfl) (t := 60) rfl (fun c => ?_) (fun c => ?_)
  · replace h := h.1 c
    refine ex_iload_n (pc := 60) (fr_get fo_31_1 13 rfl) rfl ?_
    exact ex_zreturn (pc := 61) (fr_get fo_31_1 14 rfl) rt_31 rfl rfl ⟨h.1, ma_end_mk h.2⟩
  · replace h := h.2 c
    refine ex_aload_n (pc := 12) (fr_get fo_31_0 8 rfl) rfl rfl ?_
    refine ex_gr (pc := 13) (fr_get fo_31_0 9 rfl) ow_31 fr_3_9_9 (q := (8, 0)) rfl ?_
    refine xv_gi (pc := 16) (fr_get fo_31_0 10 rfl) ow_31 fg_3_29_8 rfl ?_
    refine ex_bipush (pc := 19) (fr_get fo_31_0 11 rfl) bp_7 ?_
    refine xv_cne (pc := 21) (fr_get fo_31_0 12 rfl) (t := 60) rfl (fun c => ?_) (fun c => ?_)
    · replace h := h.1 c
      refine ex_iload_n (pc := 60) (fr_get fo_31_1 13 rfl) rfl ?_
      exact ex_zreturn (pc := 61) (fr_get fo_31_1 14 rfl) rt_31 rfl rfl ⟨h.1, ma_end_mk h.2⟩
    · replace h := h.2 c
      refine ex_iload_n (pc := 24) (fr_get fo_31_0 13 rfl) rfl ?_
      refine ex_sipush (pc := 25) (fr_get fo_31_0 14 rfl) sp_160 ?_
      refine xv_cge (pc := 28) (fr_get fo_31_0 15 rfl) (t := 60) rfl (fun c => ?_) (fun c => ?_)
      · replace h := h.1 c
        refine ex_iload_n (pc := 60) (fr_get fo_31_1 13 rfl) rfl ?_
        exact ex_zreturn (pc := 61) (fr_get fo_31_1 14 rfl) rt_31 rfl rfl ⟨h.1, ma_end_mk h.2⟩
      · replace h := h.2 c
        refine ex_aload_n (pc := 31) (fr_get fo_31_1 0 rfl) rfl rfl ?_
        refine ex_gr (pc := 32) (fr_get fo_31_1 1 rfl) ow_31 fr_3_9_9 (q := (8, 0)) rfl ?_
        refine xv_kv0 (pc := 35) (fr_get fo_31_1 2 rfl) cc_31_36 (as := [.inr (.inr (8, 0))]) (rs := []) rfl rfl rfl rfl rfl ?_
        refine h.mono (fun r J1 p2 h => ⟨h.1, ?_⟩)
        replace h := h.2
        refine ex_aload_n (pc := 38) (fr_get fo_31_1 3 rfl) rfl rfl ?_
        refine ex_iload_n (pc := 39) (fr_get fo_31_1 4 rfl) rfl ?_
        refine xv_kv1 (pc := 40) (fr_get fo_31_1 5 rfl) cc_31_47 (as := [.inr (.inr (9, 0)), .inl v1]) (rs := []) rfl rfl rfl rfl rfl ?_
        refine h.mono (fun r J3 p4 h => ?_)
        obtain ⟨x5, hr, h⟩ := h
        refine ⟨x5, hr, ?_⟩
        refine ex_istore_n (pc := 43) (fr_get fo_31_1 6 rfl) rfl (L' := [some (.inr (.inr (9, 0))), some (.inl v1), some (.inl x5), some (.inl v3)]) rfl ?_
        refine ex_aload_n (pc := 44) (fr_get fo_31_1 7 rfl) rfl rfl ?_
        refine ex_gr (pc := 45) (fr_get fo_31_1 8 rfl) ow_31 fr_3_15_9 (q := (19, p4)) rfl ?_
        refine ex_sipush (pc := 48) (fr_get fo_31_1 9 rfl) sp_10012 ?_
        refine xv_kv0 (pc := 51) (fr_get fo_31_1 10 rfl) cc_31_50 (as := [.inr (.inr (19, p4)), .inl (10012 : Int32)]) (rs := []) rfl rfl rfl rfl rfl ?_
        refine h.mono (fun r J6 p7 h => ⟨h.1, ?_⟩)
        replace h := h.2
        refine xv_iinc (pc := 54) (fr_get fo_31_1 11 rfl) rfl ic_1 (L' := [some (.inr (.inr (9, 0))), some (.inl v1), some (.inl x5), some (.inl (v3 + (1 : Int32)))]) rfl ?_
        refine ex_goto (pc := 57) (fr_get fo_31_1 12 rfl) (t := 8) rfl ?_
        exact h

theorem e_32 {d : Nat} {I : ma_I} {o : Nat} {Q : ma_Q} {a1 : Int32}
  (h :
    Exm (d) 33 [.inr (.inr (9, 0)), .inl a1] I o (fun r J1 p2 => ∃ x3 : Int32, r = some (.inl x3) ∧
      Ex (d + 1) 32 (8, [some (.inr (.inr (9, 0))), some (.inl a1), some (.inl x3), some (.inl (0 : Int32))], [], ma_mem J1 p2, 0, 0) (ma_end Q))) :
  Exm (d + 1) 32 [.inr (.inr (9, 0)), .inl a1] I o Q := by
  show Ex (d + 1) 32 (0, [some (.inr (.inr (9, 0))), some (.inl a1), none, none], [], ma_mem I o, 0, 0) (ma_end Q)
  refine ex_aload_n (pc := 0) (fr_get fo_32_0 0 rfl) rfl rfl ?_
  refine ex_iload_n (pc := 1) (fr_get fo_32_0 1 rfl) rfl ?_
  refine xv_kv1 (pc := 2) (fr_get fo_32_0 2 rfl) cc_32_53 (as := [.inr (.inr (9, 0)), .inl a1]) (rs := []) rfl rfl rfl rfl rfl ?_
  refine h.mono (fun r J1 p2 h => ?_)
  obtain ⟨x3, hr, h⟩ := h
  refine ⟨x3, hr, ?_⟩
  refine ex_istore_n (pc := 5) (fr_get fo_32_0 3 rfl) rfl (L' := [some (.inr (.inr (9, 0))), some (.inl a1), some (.inl x3), none]) rfl ?_
  refine ex_iconst (pc := 6) (fr_get fo_32_0 4 rfl) ic_0 ?_
  refine ex_istore_n (pc := 7) (fr_get fo_32_0 5 rfl) rfl (L' := [some (.inr (.inr (9, 0))), some (.inl a1), some (.inl x3), some (.inl (0 : Int32))]) rfl ?_
  exact h

theorem b_32_8 {d : Nat} {I : ma_I} {o : Nat} {Q : ma_Q} {v1 : Int32} {v2 : Int32} {v3 : Int32}
  (h :
    (v2 = 0 →
      (v2 = 0 ∨ v2 = 1) ∧ Q (some (.inl v2)) I o) ∧
    (v2 ≠ 0 →
      (I 8 0 1 ≠ (8 : Int32) →
        (v2 = 0 ∨ v2 = 1) ∧ Q (some (.inl v2)) I o) ∧
      (I 8 0 1 = (8 : Int32) →
        ((160 : Int32) ≤ v3 →
          (v2 = 0 ∨ v2 = 1) ∧ Q (some (.inl v2)) I o) ∧
        (v3 < (160 : Int32) →
          Exm (d) 45 [.inr (.inr (8, 0))] I o (fun r J1 p2 => r = none ∧
            Exm (d) 33 [.inr (.inr (9, 0)), .inl v1] J1 p2 (fun r J3 p4 => ∃ x5 : Int32, r = some (.inl x5) ∧
              Exm (d) 53 [.inr (.inr (19, p4)), .inl (10013 : Int32)] J3 p4 (fun r J6 p7 => r = none ∧
                Ex (d + 1) 32 (8, [some (.inr (.inr (9, 0))), some (.inl v1), some (.inl x5), some (.inl (v3 + (1 : Int32)))], [], ma_mem J6 p7, 0, 0) (ma_end Q)))))))) :
  Ex (d + 1) 32 (8, [some (.inr (.inr (9, 0))), some (.inl v1), some (.inl v2), some (.inl v3)], [], ma_mem I o, 0, 0) (ma_end Q) := by
  refine ex_iload_n (pc := 8) (fr_get fo_32_0 6 rfl) rfl ?_
  refine xv_beq (pc := 9) (fr_get fo_32_0 7 rfl) (t := 60) rfl (fun c => ?_) (fun c => ?_)
  · replace h := h.1 c
    refine ex_iload_n (pc := 60) (fr_get fo_32_1 13 rfl) rfl ?_
    exact ex_zreturn (pc := 61) (fr_get fo_32_1 14 rfl) rt_32 rfl rfl ⟨h.1, ma_end_mk h.2⟩
  · replace h := h.2 c
    refine ex_aload_n (pc := 12) (fr_get fo_32_0 8 rfl) rfl rfl ?_
    refine ex_gr (pc := 13) (fr_get fo_32_0 9 rfl) ow_32 fr_3_9_9 (q := (8, 0)) rfl ?_
    refine xv_gi (pc := 16) (fr_get fo_32_0 10 rfl) ow_32 fg_3_29_8 rfl ?_
    refine ex_bipush (pc := 19) (fr_get fo_32_0 11 rfl) bp_8 ?_
    refine xv_cne (pc := 21) (fr_get fo_32_0 12 rfl) (t := 60) rfl (fun c => ?_) (fun c => ?_)
    · replace h := h.1 c
      refine ex_iload_n (pc := 60) (fr_get fo_32_1 13 rfl) rfl ?_
      exact ex_zreturn (pc := 61) (fr_get fo_32_1 14 rfl) rt_32 rfl rfl ⟨h.1, ma_end_mk h.2⟩
    · replace h := h.2 c
      refine ex_iload_n (pc := 24) (fr_get fo_32_0 13 rfl) rfl ?_
      refine ex_sipush (pc := 25) (fr_get fo_32_0 14 rfl) sp_160 ?_
      refine xv_cge (pc := 28) (fr_get fo_32_0 15 rfl) (t := 60) rfl (fun c => ?_) (fun c => ?_)
      · replace h := h.1 c
        refine ex_iload_n (pc := 60) (fr_get fo_32_1 13 rfl) rfl ?_
        exact ex_zreturn (pc := 61) (fr_get fo_32_1 14 rfl) rt_32 rfl rfl ⟨h.1, ma_end_mk h.2⟩
      · replace h := h.2 c
        refine ex_aload_n (pc := 31) (fr_get fo_32_1 0 rfl) rfl rfl ?_
        refine ex_gr (pc := 32) (fr_get fo_32_1 1 rfl) ow_32 fr_3_9_9 (q := (8, 0)) rfl ?_
        refine xv_kv0 (pc := 35) (fr_get fo_32_1 2 rfl) cc_32_36 (as := [.inr (.inr (8, 0))]) (rs := []) rfl rfl rfl rfl rfl ?_
        refine h.mono (fun r J1 p2 h => ⟨h.1, ?_⟩)
        replace h := h.2
        refine ex_aload_n (pc := 38) (fr_get fo_32_1 3 rfl) rfl rfl ?_
        refine ex_iload_n (pc := 39) (fr_get fo_32_1 4 rfl) rfl ?_
        refine xv_kv1 (pc := 40) (fr_get fo_32_1 5 rfl) cc_32_53 (as := [.inr (.inr (9, 0)), .inl v1]) (rs := []) rfl rfl rfl rfl rfl ?_
        refine h.mono (fun r J3 p4 h => ?_)
        obtain ⟨x5, hr, h⟩ := h
        refine ⟨x5, hr, ?_⟩
        refine ex_istore_n (pc := 43) (fr_get fo_32_1 6 rfl) rfl (L' := [some (.inr (.inr (9, 0))), some (.inl v1), some (.inl x5), some (.inl v3)]) rfl ?_
        refine ex_aload_n (pc := 44) (fr_get fo_32_1 7 rfl) rfl rfl ?_
        refine ex_gr (pc := 45) (fr_get fo_32_1 8 rfl) ow_32 fr_3_15_9 (q := (19, p4)) rfl ?_
        refine ex_sipush (pc := 48) (fr_get fo_32_1 9 rfl) sp_10013 ?_
        refine xv_kv0 (pc := 51) (fr_get fo_32_1 10 rfl) cc_32_50 (as := [.inr (.inr (19, p4)), .inl (10013 : Int32)]) (rs := []) rfl rfl rfl rfl rfl ?_
        refine h.mono (fun r J6 p7 h => ⟨h.1, ?_⟩)
        replace h := h.2
        refine xv_iinc (pc := 54) (fr_get fo_32_1 11 rfl) rfl ic_1 (L' := [some (.inr (.inr (9, 0))), some (.inl v1), some (.inl x5), some (.inl (v3 + (1 : Int32)))]) rfl ?_
        refine ex_goto (pc := 57) (fr_get fo_32_1 12 rfl) (t := 8) rfl ?_
        exact h

theorem e_33 {d : Nat} {I : ma_I} {o : Nat} {Q : ma_Q} {a1 : Int32}
  (h :
    (I 8 0 1 ≠ (9 : Int32) →
      Exm (d) 34 [.inr (.inr (9, 0)), .inl a1] I o (fun r J1 p2 => ∃ x3 : Int32, r = some (.inl x3) ∧
        (x3 = 0 →
          (x3 = 0 ∨ x3 = 1) ∧ Q (some (.inl x3)) J1 p2) ∧
        (x3 ≠ 0 →
          (J1 8 0 1 = (60 : Int32) →
            (J1 8 0 1 ≠ (60 : Int32) →
              Ex (d + 1) 33 (102, [some (.inr (.inr (9, 0))), some (.inl a1), some (.inl x3), some (.inl (10015 : Int32))], [], ma_mem J1 p2, 0, 0) (ma_end Q)) ∧
            (J1 8 0 1 = (60 : Int32) →
              Ex (d + 1) 33 (102, [some (.inr (.inr (9, 0))), some (.inl a1), some (.inl x3), some (.inl (10014 : Int32))], [], ma_mem J1 p2, 0, 0) (ma_end Q))) ∧
          (J1 8 0 1 ≠ (60 : Int32) →
            (J1 8 0 1 ≠ (61 : Int32) →
              (x3 = 0 ∨ x3 = 1) ∧ Q (some (.inl x3)) J1 p2) ∧
            (J1 8 0 1 = (61 : Int32) →
              (J1 8 0 1 ≠ (60 : Int32) →
                Ex (d + 1) 33 (102, [some (.inr (.inr (9, 0))), some (.inl a1), some (.inl x3), some (.inl (10015 : Int32))], [], ma_mem J1 p2, 0, 0) (ma_end Q)) ∧
              (J1 8 0 1 = (60 : Int32) →
                Ex (d + 1) 33 (102, [some (.inr (.inr (9, 0))), some (.inl a1), some (.inl x3), some (.inl (10014 : Int32))], [], ma_mem J1 p2, 0, 0) (ma_end Q))))))) ∧
    (I 8 0 1 = (9 : Int32) →
      (a1 < (5 : Int32) →
        Exm (d) 45 [.inr (.inr (8, 0))] I o (fun r J4 p5 => r = none ∧
          Exm (d) 33 [.inr (.inr (9, 0)), .inl (a1 + (1 : Int32))] J4 p5 (fun r J6 p7 => ∃ x8 : Int32, r = some (.inl x8) ∧
            Exm (d) 53 [.inr (.inr (19, p7)), .inl (10011 : Int32)] J6 p7 (fun r J9 p10 => r = none ∧
              (x8 = 0 ∨ x8 = 1) ∧ Q (some (.inl x8)) J9 p10)))) ∧
      ((5 : Int32) ≤ a1 →
        Q (some (.inl (0 : Int32))) I o))) :
  Exm (d + 1) 33 [.inr (.inr (9, 0)), .inl a1] I o Q := by
  show Ex (d + 1) 33 (0, [some (.inr (.inr (9, 0))), some (.inl a1), none, none], [], ma_mem I o, 0, 0) (ma_end Q)
  refine ex_aload_n (pc := 0) (fr_get fo_33_0 0 rfl) rfl rfl ?_
  refine ex_gr (pc := 1) (fr_get fo_33_0 1 rfl) ow_33 fr_3_9_9 (q := (8, 0)) rfl ?_
  refine xv_gi (pc := 4) (fr_get fo_33_0 2 rfl) ow_33 fg_3_29_8 rfl ?_
  refine ex_bipush (pc := 7) (fr_get fo_33_0 3 rfl) bp_9 ?_
  refine xv_cne (pc := 9) (fr_get fo_33_0 4 rfl) (t := 46) rfl (fun c => ?_) (fun c => ?_)
  · replace h := h.1 c
    refine ex_aload_n (pc := 46) (fr_get fo_33_1 9 rfl) rfl rfl ?_
    refine ex_iload_n (pc := 47) (fr_get fo_33_1 10 rfl) rfl ?_
    refine xv_kv1 (pc := 48) (fr_get fo_33_1 11 rfl) cc_33_56 (as := [.inr (.inr (9, 0)), .inl a1]) (rs := []) rfl rfl rfl rfl rfl ?_
    refine h.mono (fun r J1 p2 h => ?_)
    obtain ⟨x3, hr, h⟩ := h
    refine ⟨x3, hr, ?_⟩
    refine ex_istore_n (pc := 51) (fr_get fo_33_1 12 rfl) rfl (L' := [some (.inr (.inr (9, 0))), some (.inl a1), some (.inl x3), none]) rfl ?_
    refine ex_iload_n (pc := 52) (fr_get fo_33_1 13 rfl) rfl ?_
    refine xv_beq (pc := 53) (fr_get fo_33_1 14 rfl) (t := 123) rfl (fun c => ?_) (fun c => ?_)
    · replace h := h.1 c
      refine ex_iload_n (pc := 123) (fr_get fo_33_3 13 rfl) rfl ?_
      exact ex_zreturn (pc := 124) (fr_get fo_33_3 14 rfl) rt_33 rfl rfl ⟨h.1, ma_end_mk h.2⟩
    · replace h := h.2 c
      refine ex_aload_n (pc := 56) (fr_get fo_33_1 15 rfl) rfl rfl ?_
      refine ex_gr (pc := 57) (fr_get fo_33_2 0 rfl) ow_33 fr_3_9_9 (q := (8, 0)) rfl ?_
      refine xv_gi (pc := 60) (fr_get fo_33_2 1 rfl) ow_33 fg_3_29_8 rfl ?_
      refine ex_bipush (pc := 63) (fr_get fo_33_2 2 rfl) bp_60 ?_
      refine xv_ceq (pc := 65) (fr_get fo_33_2 3 rfl) (t := 80) rfl (fun c => ?_) (fun c => ?_)
      · replace h := h.1 c
        refine ex_aload_n (pc := 80) (fr_get fo_33_2 9 rfl) rfl rfl ?_
        refine ex_gr (pc := 81) (fr_get fo_33_2 10 rfl) ow_33 fr_3_9_9 (q := (8, 0)) rfl ?_
        refine xv_gi (pc := 84) (fr_get fo_33_2 11 rfl) ow_33 fg_3_29_8 rfl ?_
        refine ex_bipush (pc := 87) (fr_get fo_33_2 12 rfl) bp_60 ?_
        refine xv_cne (pc := 89) (fr_get fo_33_2 13 rfl) (t := 98) rfl (fun c => ?_) (fun c => ?_)
        · replace h := h.1 c
          refine ex_sipush (pc := 98) (fr_get fo_33_3 0 rfl) sp_10015 ?_
          refine ex_istore_n (pc := 101) (fr_get fo_33_3 1 rfl) rfl (L' := [some (.inr (.inr (9, 0))), some (.inl a1), some (.inl x3), some (.inl (10015 : Int32))]) rfl ?_
          exact h
        · replace h := h.2 c
          refine ex_sipush (pc := 92) (fr_get fo_33_2 14 rfl) sp_10014 ?_
          refine ex_goto (pc := 95) (fr_get fo_33_2 15 rfl) (t := 101) rfl ?_
          refine ex_istore_n (pc := 101) (fr_get fo_33_3 1 rfl) rfl (L' := [some (.inr (.inr (9, 0))), some (.inl a1), some (.inl x3), some (.inl (10014 : Int32))]) rfl ?_
          exact h
      · replace h := h.2 c
        refine ex_aload_n (pc := 68) (fr_get fo_33_2 4 rfl) rfl rfl ?_
        refine ex_gr (pc := 69) (fr_get fo_33_2 5 rfl) ow_33 fr_3_9_9 (q := (8, 0)) rfl ?_
        refine xv_gi (pc := 72) (fr_get fo_33_2 6 rfl) ow_33 fg_3_29_8 rfl ?_
        refine ex_bipush (pc := 75) (fr_get fo_33_2 7 rfl) bp_61 ?_
        refine xv_cne (pc := 77) (fr_get fo_33_2 8 rfl) (t := 123) rfl (fun c => ?_) (fun c => ?_)
        · replace h := h.1 c
          refine ex_iload_n (pc := 123) (fr_get fo_33_3 13 rfl) rfl ?_
          exact ex_zreturn (pc := 124) (fr_get fo_33_3 14 rfl) rt_33 rfl rfl ⟨h.1, ma_end_mk h.2⟩
        · replace h := h.2 c
          refine ex_aload_n (pc := 80) (fr_get fo_33_2 9 rfl) rfl rfl ?_
          refine ex_gr (pc := 81) (fr_get fo_33_2 10 rfl) ow_33 fr_3_9_9 (q := (8, 0)) rfl ?_
          refine xv_gi (pc := 84) (fr_get fo_33_2 11 rfl) ow_33 fg_3_29_8 rfl ?_
          refine ex_bipush (pc := 87) (fr_get fo_33_2 12 rfl) bp_60 ?_
          refine xv_cne (pc := 89) (fr_get fo_33_2 13 rfl) (t := 98) rfl (fun c => ?_) (fun c => ?_)
          · replace h := h.1 c
            refine ex_sipush (pc := 98) (fr_get fo_33_3 0 rfl) sp_10015 ?_
            refine ex_istore_n (pc := 101) (fr_get fo_33_3 1 rfl) rfl (L' := [some (.inr (.inr (9, 0))), some (.inl a1), some (.inl x3), some (.inl (10015 : Int32))]) rfl ?_
            exact h
          · replace h := h.2 c
            refine ex_sipush (pc := 92) (fr_get fo_33_2 14 rfl) sp_10014 ?_
            refine ex_goto (pc := 95) (fr_get fo_33_2 15 rfl) (t := 101) rfl ?_
            refine ex_istore_n (pc := 101) (fr_get fo_33_3 1 rfl) rfl (L' := [some (.inr (.inr (9, 0))), some (.inl a1), some (.inl x3), some (.inl (10014 : Int32))]) rfl ?_
            exact h
  · replace h := h.2 c
    refine ex_iload_n (pc := 12) (fr_get fo_33_0 5 rfl) rfl ?_
    refine ex_iconst (pc := 13) (fr_get fo_33_0 6 rfl) ic_5 ?_
    refine xv_clt (pc := 14) (fr_get fo_33_0 7 rfl) (t := 19) rfl (fun c => ?_) (fun c => ?_)
    · replace h := h.1 c
      refine ex_aload_n (pc := 19) (fr_get fo_33_0 10 rfl) rfl rfl ?_
      refine ex_gr (pc := 20) (fr_get fo_33_0 11 rfl) ow_33 fr_3_9_9 (q := (8, 0)) rfl ?_
      refine xv_kv0 (pc := 23) (fr_get fo_33_0 12 rfl) cc_33_36 (as := [.inr (.inr (8, 0))]) (rs := []) rfl rfl rfl rfl rfl ?_
      refine h.mono (fun r J4 p5 h => ⟨h.1, ?_⟩)
      replace h := h.2
      refine ex_aload_n (pc := 26) (fr_get fo_33_0 13 rfl) rfl rfl ?_
      refine ex_iload_n (pc := 27) (fr_get fo_33_0 14 rfl) rfl ?_
      refine ex_iconst (pc := 28) (fr_get fo_33_0 15 rfl) ic_1 ?_
      refine ex_iadd (pc := 29) (fr_get fo_33_1 0 rfl) ?_
      refine xv_kv1 (pc := 30) (fr_get fo_33_1 1 rfl) cc_33_53 (as := [.inr (.inr (9, 0)), .inl (a1 + (1 : Int32))]) (rs := []) rfl rfl rfl rfl rfl ?_
      refine h.mono (fun r J6 p7 h => ?_)
      obtain ⟨x8, hr, h⟩ := h
      refine ⟨x8, hr, ?_⟩
      refine ex_istore_n (pc := 33) (fr_get fo_33_1 2 rfl) rfl (L' := [some (.inr (.inr (9, 0))), some (.inl a1), some (.inl x8), none]) rfl ?_
      refine ex_aload_n (pc := 34) (fr_get fo_33_1 3 rfl) rfl rfl ?_
      refine ex_gr (pc := 35) (fr_get fo_33_1 4 rfl) ow_33 fr_3_15_9 (q := (19, p7)) rfl ?_
      refine ex_sipush (pc := 38) (fr_get fo_33_1 5 rfl) sp_10011 ?_
      refine xv_kv0 (pc := 41) (fr_get fo_33_1 6 rfl) cc_33_50 (as := [.inr (.inr (19, p7)), .inl (10011 : Int32)]) (rs := []) rfl rfl rfl rfl rfl ?_
      refine h.mono (fun r J9 p10 h => ⟨h.1, ?_⟩)
      replace h := h.2
      refine ex_iload_n (pc := 44) (fr_get fo_33_1 7 rfl) rfl ?_
      exact ex_zreturn (pc := 45) (fr_get fo_33_1 8 rfl) rt_33 rfl rfl ⟨h.1, ma_end_mk h.2⟩
    · replace h := h.2 c
      refine ex_iconst (pc := 17) (fr_get fo_33_0 8 rfl) ic_0 ?_
      exact ex_zreturn (pc := 18) (fr_get fo_33_0 9 rfl) rt_33 rfl rfl ⟨Or.inl rfl, ma_end_mk h⟩

theorem b_33_102 {d : Nat} {I : ma_I} {o : Nat} {Q : ma_Q} {v1 : Int32} {v2 : Int32} {v3 : Int32}
  (h :
    Exm (d) 45 [.inr (.inr (8, 0))] I o (fun r J1 p2 => r = none ∧
      Exm (d) 34 [.inr (.inr (9, 0)), .inl v1] J1 p2 (fun r J3 p4 => ∃ x5 : Int32, r = some (.inl x5) ∧
        Exm (d) 53 [.inr (.inr (19, p4)), .inl v3] J3 p4 (fun r J6 p7 => r = none ∧
          (x5 = 0 ∨ x5 = 1) ∧ Q (some (.inl x5)) J6 p7)))) :
  Ex (d + 1) 33 (102, [some (.inr (.inr (9, 0))), some (.inl v1), some (.inl v2), some (.inl v3)], [], ma_mem I o, 0, 0) (ma_end Q) := by
  refine ex_aload_n (pc := 102) (fr_get fo_33_3 2 rfl) rfl rfl ?_
  refine ex_gr (pc := 103) (fr_get fo_33_3 3 rfl) ow_33 fr_3_9_9 (q := (8, 0)) rfl ?_
  refine xv_kv0 (pc := 106) (fr_get fo_33_3 4 rfl) cc_33_36 (as := [.inr (.inr (8, 0))]) (rs := []) rfl rfl rfl rfl rfl ?_
  refine h.mono (fun r J1 p2 h => ⟨h.1, ?_⟩)
  replace h := h.2
  refine ex_aload_n (pc := 109) (fr_get fo_33_3 5 rfl) rfl rfl ?_
  refine ex_iload_n (pc := 110) (fr_get fo_33_3 6 rfl) rfl ?_
  refine xv_kv1 (pc := 111) (fr_get fo_33_3 7 rfl) cc_33_56 (as := [.inr (.inr (9, 0)), .inl v1]) (rs := []) rfl rfl rfl rfl rfl ?_
  refine h.mono (fun r J3 p4 h => ?_)
  obtain ⟨x5, hr, h⟩ := h
  refine ⟨x5, hr, ?_⟩
  refine ex_istore_n (pc := 114) (fr_get fo_33_3 8 rfl) rfl (L' := [some (.inr (.inr (9, 0))), some (.inl v1), some (.inl x5), some (.inl v3)]) rfl ?_
  refine ex_aload_n (pc := 115) (fr_get fo_33_3 9 rfl) rfl rfl ?_
  refine ex_gr (pc := 116) (fr_get fo_33_3 10 rfl) ow_33 fr_3_15_9 (q := (19, p4)) rfl ?_
  refine ex_iload_n (pc := 119) (fr_get fo_33_3 11 rfl) rfl ?_
  refine xv_kv0 (pc := 120) (fr_get fo_33_3 12 rfl) cc_33_50 (as := [.inr (.inr (19, p4)), .inl v3]) (rs := []) rfl rfl rfl rfl rfl ?_
  refine h.mono (fun r J6 p7 h => ⟨h.1, ?_⟩)
  replace h := h.2
  refine ex_iload_n (pc := 123) (fr_get fo_33_3 13 rfl) rfl ?_
  exact ex_zreturn (pc := 124) (fr_get fo_33_3 14 rfl) rt_33 rfl rfl ⟨h.1, ma_end_mk h.2⟩

theorem e_34 {d : Nat} {I : ma_I} {o : Nat} {Q : ma_Q} {a1 : Int32}
  (h :
    Exm (d) 35 [.inr (.inr (9, 0)), .inl a1] I o (fun r J1 p2 => ∃ x3 : Int32, r = some (.inl x3) ∧
      Ex (d + 1) 34 (8, [some (.inr (.inr (9, 0))), some (.inl a1), some (.inl x3), some (.inl (0 : Int32)), none], [], ma_mem J1 p2, 0, 0) (ma_end Q))) :
  Exm (d + 1) 34 [.inr (.inr (9, 0)), .inl a1] I o Q := by
  show Ex (d + 1) 34 (0, [some (.inr (.inr (9, 0))), some (.inl a1), none, none, none], [], ma_mem I o, 0, 0) (ma_end Q)
  refine ex_aload_n (pc := 0) (fr_get fo_34_0 0 rfl) rfl rfl ?_
  refine ex_iload_n (pc := 1) (fr_get fo_34_0 1 rfl) rfl ?_
  refine xv_kv1 (pc := 2) (fr_get fo_34_0 2 rfl) cc_34_59 (as := [.inr (.inr (9, 0)), .inl a1]) (rs := []) rfl rfl rfl rfl rfl ?_
  refine h.mono (fun r J1 p2 h => ?_)
  obtain ⟨x3, hr, h⟩ := h
  refine ⟨x3, hr, ?_⟩
  refine ex_istore_n (pc := 5) (fr_get fo_34_0 3 rfl) rfl (L' := [some (.inr (.inr (9, 0))), some (.inl a1), some (.inl x3), none, none]) rfl ?_
  refine ex_iconst (pc := 6) (fr_get fo_34_0 4 rfl) ic_0 ?_
  refine ex_istore_n (pc := 7) (fr_get fo_34_0 5 rfl) rfl (L' := [some (.inr (.inr (9, 0))), some (.inl a1), some (.inl x3), some (.inl (0 : Int32)), none]) rfl ?_
  exact h

theorem b_34_8 {d : Nat} {I : ma_I} {o : Nat} {Q : ma_Q} {v1 : Int32} {v2 : Int32} {v3 : Int32} {w4 : Option ma_V}
  (h :
    (v2 = 0 →
      (v2 = 0 ∨ v2 = 1) ∧ Q (some (.inl v2)) I o) ∧
    (v2 ≠ 0 →
      (I 8 0 1 = (43 : Int32) →
        ((160 : Int32) ≤ v3 →
          (v2 = 0 ∨ v2 = 1) ∧ Q (some (.inl v2)) I o) ∧
        (v3 < (160 : Int32) →
          (I 8 0 1 ≠ (43 : Int32) →
            Ex (d + 1) 34 (66, [some (.inr (.inr (9, 0))), some (.inl v1), some (.inl v2), some (.inl v3), some (.inl (10017 : Int32))], [], ma_mem I o, 0, 0) (ma_end Q)) ∧
          (I 8 0 1 = (43 : Int32) →
            Ex (d + 1) 34 (66, [some (.inr (.inr (9, 0))), some (.inl v1), some (.inl v2), some (.inl v3), some (.inl (10016 : Int32))], [], ma_mem I o, 0, 0) (ma_end Q)))) ∧
      (I 8 0 1 ≠ (43 : Int32) →
        (I 8 0 1 ≠ (45 : Int32) →
          (v2 = 0 ∨ v2 = 1) ∧ Q (some (.inl v2)) I o) ∧
        (I 8 0 1 = (45 : Int32) →
          ((160 : Int32) ≤ v3 →
            (v2 = 0 ∨ v2 = 1) ∧ Q (some (.inl v2)) I o) ∧
          (v3 < (160 : Int32) →
            (I 8 0 1 ≠ (43 : Int32) →
              Ex (d + 1) 34 (66, [some (.inr (.inr (9, 0))), some (.inl v1), some (.inl v2), some (.inl v3), some (.inl (10017 : Int32))], [], ma_mem I o, 0, 0) (ma_end Q)) ∧
            (I 8 0 1 = (43 : Int32) →
              Ex (d + 1) 34 (66, [some (.inr (.inr (9, 0))), some (.inl v1), some (.inl v2), some (.inl v3), some (.inl (10016 : Int32))], [], ma_mem I o, 0, 0) (ma_end Q))))))) :
  Ex (d + 1) 34 (8, [some (.inr (.inr (9, 0))), some (.inl v1), some (.inl v2), some (.inl v3), w4], [], ma_mem I o, 0, 0) (ma_end Q) := by
  refine ex_iload_n (pc := 8) (fr_get fo_34_0 6 rfl) rfl ?_
  refine xv_beq (pc := 9) (fr_get fo_34_0 7 rfl) (t := 94) rfl (fun c => ?_) (fun c => ?_)
  · replace h := h.1 c
    refine ex_iload_n (pc := 94) (fr_get fo_34_2 11 rfl) rfl ?_
    exact ex_zreturn (pc := 95) (fr_get fo_34_2 12 rfl) rt_34 rfl rfl ⟨h.1, ma_end_mk h.2⟩
  · replace h := h.2 c
    refine ex_aload_n (pc := 12) (fr_get fo_34_0 8 rfl) rfl rfl ?_
    refine ex_gr (pc := 13) (fr_get fo_34_0 9 rfl) ow_34 fr_3_9_9 (q := (8, 0)) rfl ?_
    refine xv_gi (pc := 16) (fr_get fo_34_0 10 rfl) ow_34 fg_3_29_8 rfl ?_
    refine ex_bipush (pc := 19) (fr_get fo_34_0 11 rfl) bp_43 ?_
    refine xv_ceq (pc := 21) (fr_get fo_34_0 12 rfl) (t := 36) rfl (fun c => ?_) (fun c => ?_)
    · replace h := h.1 c
      refine ex_iload_n (pc := 36) (fr_get fo_34_1 2 rfl) rfl ?_
      refine ex_sipush (pc := 37) (fr_get fo_34_1 3 rfl) sp_160 ?_
      refine xv_cge (pc := 40) (fr_get fo_34_1 4 rfl) (t := 94) rfl (fun c => ?_) (fun c => ?_)
      · replace h := h.1 c
        refine ex_iload_n (pc := 94) (fr_get fo_34_2 11 rfl) rfl ?_
        exact ex_zreturn (pc := 95) (fr_get fo_34_2 12 rfl) rt_34 rfl rfl ⟨h.1, ma_end_mk h.2⟩
      · replace h := h.2 c
        refine ex_aload_n (pc := 43) (fr_get fo_34_1 5 rfl) rfl rfl ?_
        refine ex_gr (pc := 44) (fr_get fo_34_1 6 rfl) ow_34 fr_3_9_9 (q := (8, 0)) rfl ?_
        refine xv_gi (pc := 47) (fr_get fo_34_1 7 rfl) ow_34 fg_3_29_8 rfl ?_
        refine ex_bipush (pc := 50) (fr_get fo_34_1 8 rfl) bp_43 ?_
        refine xv_cne (pc := 52) (fr_get fo_34_1 9 rfl) (t := 61) rfl (fun c => ?_) (fun c => ?_)
        · replace h := h.1 c
          refine ex_sipush (pc := 61) (fr_get fo_34_1 12 rfl) sp_10017 ?_
          refine ex_istore (pc := 64) (fr_get fo_34_1 13 rfl) rfl (L' := [some (.inr (.inr (9, 0))), some (.inl v1), some (.inl v2), some (.inl v3), some (.inl (10017 : Int32))]) rfl ?_
          exact h
        · replace h := h.2 c
          refine ex_sipush (pc := 55) (fr_get fo_34_1 10 rfl) sp_10016 ?_
          refine ex_goto (pc := 58) (fr_get fo_34_1 11 rfl) (t := 64) rfl ?_
          refine ex_istore (pc := 64) (fr_get fo_34_1 13 rfl) rfl (L' := [some (.inr (.inr (9, 0))), some (.inl v1), some (.inl v2), some (.inl v3), some (.inl (10016 : Int32))]) rfl ?_
          exact h
    · replace h := h.2 c
      refine ex_aload_n (pc := 24) (fr_get fo_34_0 13 rfl) rfl rfl ?_
      refine ex_gr (pc := 25) (fr_get fo_34_0 14 rfl) ow_34 fr_3_9_9 (q := (8, 0)) rfl ?_
      refine xv_gi (pc := 28) (fr_get fo_34_0 15 rfl) ow_34 fg_3_29_8 rfl ?_
      refine ex_bipush (pc := 31) (fr_get fo_34_1 0 rfl) bp_45 ?_
      refine xv_cne (pc := 33) (fr_get fo_34_1 1 rfl) (t := 94) rfl (fun c => ?_) (fun c => ?_)
      · replace h := h.1 c
        refine ex_iload_n (pc := 94) (fr_get fo_34_2 11 rfl) rfl ?_
        exact ex_zreturn (pc := 95) (fr_get fo_34_2 12 rfl) rt_34 rfl rfl ⟨h.1, ma_end_mk h.2⟩
      · replace h := h.2 c
        refine ex_iload_n (pc := 36) (fr_get fo_34_1 2 rfl) rfl ?_
        refine ex_sipush (pc := 37) (fr_get fo_34_1 3 rfl) sp_160 ?_
        refine xv_cge (pc := 40) (fr_get fo_34_1 4 rfl) (t := 94) rfl (fun c => ?_) (fun c => ?_)
        · replace h := h.1 c
          refine ex_iload_n (pc := 94) (fr_get fo_34_2 11 rfl) rfl ?_
          exact ex_zreturn (pc := 95) (fr_get fo_34_2 12 rfl) rt_34 rfl rfl ⟨h.1, ma_end_mk h.2⟩
        · replace h := h.2 c
          refine ex_aload_n (pc := 43) (fr_get fo_34_1 5 rfl) rfl rfl ?_
          refine ex_gr (pc := 44) (fr_get fo_34_1 6 rfl) ow_34 fr_3_9_9 (q := (8, 0)) rfl ?_
          refine xv_gi (pc := 47) (fr_get fo_34_1 7 rfl) ow_34 fg_3_29_8 rfl ?_
          refine ex_bipush (pc := 50) (fr_get fo_34_1 8 rfl) bp_43 ?_
          refine xv_cne (pc := 52) (fr_get fo_34_1 9 rfl) (t := 61) rfl (fun c => ?_) (fun c => ?_)
          · replace h := h.1 c
            refine ex_sipush (pc := 61) (fr_get fo_34_1 12 rfl) sp_10017 ?_
            refine ex_istore (pc := 64) (fr_get fo_34_1 13 rfl) rfl (L' := [some (.inr (.inr (9, 0))), some (.inl v1), some (.inl v2), some (.inl v3), some (.inl (10017 : Int32))]) rfl ?_
            exact h
          · replace h := h.2 c
            refine ex_sipush (pc := 55) (fr_get fo_34_1 10 rfl) sp_10016 ?_
            refine ex_goto (pc := 58) (fr_get fo_34_1 11 rfl) (t := 64) rfl ?_
            refine ex_istore (pc := 64) (fr_get fo_34_1 13 rfl) rfl (L' := [some (.inr (.inr (9, 0))), some (.inl v1), some (.inl v2), some (.inl v3), some (.inl (10016 : Int32))]) rfl ?_
            exact h

theorem b_34_66 {d : Nat} {I : ma_I} {o : Nat} {Q : ma_Q} {v1 : Int32} {v2 : Int32} {v3 : Int32} {v4 : Int32}
  (h :
    Exm (d) 45 [.inr (.inr (8, 0))] I o (fun r J1 p2 => r = none ∧
      Exm (d) 35 [.inr (.inr (9, 0)), .inl v1] J1 p2 (fun r J3 p4 => ∃ x5 : Int32, r = some (.inl x5) ∧
        Exm (d) 53 [.inr (.inr (19, p4)), .inl v4] J3 p4 (fun r J6 p7 => r = none ∧
          Ex (d + 1) 34 (8, [some (.inr (.inr (9, 0))), some (.inl v1), some (.inl x5), some (.inl (v3 + (1 : Int32))), some (.inl v4)], [], ma_mem J6 p7, 0, 0) (ma_end Q))))) :
  Ex (d + 1) 34 (66, [some (.inr (.inr (9, 0))), some (.inl v1), some (.inl v2), some (.inl v3), some (.inl v4)], [], ma_mem I o, 0, 0) (ma_end Q) := by
  refine ex_aload_n (pc := 66) (fr_get fo_34_1 14 rfl) rfl rfl ?_
  refine ex_gr (pc := 67) (fr_get fo_34_1 15 rfl) ow_34 fr_3_9_9 (q := (8, 0)) rfl ?_
  refine xv_kv0 (pc := 70) (fr_get fo_34_2 0 rfl) cc_34_36 (as := [.inr (.inr (8, 0))]) (rs := []) rfl rfl rfl rfl rfl ?_
  refine h.mono (fun r J1 p2 h => ⟨h.1, ?_⟩)
  replace h := h.2
  refine ex_aload_n (pc := 73) (fr_get fo_34_2 1 rfl) rfl rfl ?_
  refine ex_iload_n (pc := 74) (fr_get fo_34_2 2 rfl) rfl ?_
  refine xv_kv1 (pc := 75) (fr_get fo_34_2 3 rfl) cc_34_59 (as := [.inr (.inr (9, 0)), .inl v1]) (rs := []) rfl rfl rfl rfl rfl ?_
  refine h.mono (fun r J3 p4 h => ?_)
  obtain ⟨x5, hr, h⟩ := h
  refine ⟨x5, hr, ?_⟩
  refine ex_istore_n (pc := 78) (fr_get fo_34_2 4 rfl) rfl (L' := [some (.inr (.inr (9, 0))), some (.inl v1), some (.inl x5), some (.inl v3), some (.inl v4)]) rfl ?_
  refine ex_aload_n (pc := 79) (fr_get fo_34_2 5 rfl) rfl rfl ?_
  refine ex_gr (pc := 80) (fr_get fo_34_2 6 rfl) ow_34 fr_3_15_9 (q := (19, p4)) rfl ?_
  refine ex_iload (pc := 83) (fr_get fo_34_2 7 rfl) rfl ?_
  refine xv_kv0 (pc := 85) (fr_get fo_34_2 8 rfl) cc_34_50 (as := [.inr (.inr (19, p4)), .inl v4]) (rs := []) rfl rfl rfl rfl rfl ?_
  refine h.mono (fun r J6 p7 h => ⟨h.1, ?_⟩)
  replace h := h.2
  refine xv_iinc (pc := 88) (fr_get fo_34_2 9 rfl) rfl ic_1 (L' := [some (.inr (.inr (9, 0))), some (.inl v1), some (.inl x5), some (.inl (v3 + (1 : Int32))), some (.inl v4)]) rfl ?_
  refine ex_goto (pc := 91) (fr_get fo_34_2 10 rfl) (t := 8) rfl ?_
  exact h

theorem e_35 {d : Nat} {I : ma_I} {o : Nat} {Q : ma_Q} {a1 : Int32}
  (h :
    Exm (d) 36 [.inr (.inr (9, 0)), .inl a1] I o (fun r J1 p2 => ∃ x3 : Int32, r = some (.inl x3) ∧
      Ex (d + 1) 35 (8, [some (.inr (.inr (9, 0))), some (.inl a1), some (.inl x3), some (.inl (0 : Int32))], [], ma_mem J1 p2, 0, 0) (ma_end Q))) :
  Exm (d + 1) 35 [.inr (.inr (9, 0)), .inl a1] I o Q := by
  show Ex (d + 1) 35 (0, [some (.inr (.inr (9, 0))), some (.inl a1), none, none], [], ma_mem I o, 0, 0) (ma_end Q)
  refine ex_aload_n (pc := 0) (fr_get fo_35_0 0 rfl) rfl rfl ?_
  refine ex_iload_n (pc := 1) (fr_get fo_35_0 1 rfl) rfl ?_
  refine xv_kv1 (pc := 2) (fr_get fo_35_0 2 rfl) cc_35_62 (as := [.inr (.inr (9, 0)), .inl a1]) (rs := []) rfl rfl rfl rfl rfl ?_
  refine h.mono (fun r J1 p2 h => ?_)
  obtain ⟨x3, hr, h⟩ := h
  refine ⟨x3, hr, ?_⟩
  refine ex_istore_n (pc := 5) (fr_get fo_35_0 3 rfl) rfl (L' := [some (.inr (.inr (9, 0))), some (.inl a1), some (.inl x3), none]) rfl ?_
  refine ex_iconst (pc := 6) (fr_get fo_35_0 4 rfl) ic_0 ?_
  refine ex_istore_n (pc := 7) (fr_get fo_35_0 5 rfl) rfl (L' := [some (.inr (.inr (9, 0))), some (.inl a1), some (.inl x3), some (.inl (0 : Int32))]) rfl ?_
  exact h

theorem b_35_8 {d : Nat} {I : ma_I} {o : Nat} {Q : ma_Q} {v1 : Int32} {v2 : Int32} {v3 : Int32}
  (h :
    (v2 = 0 →
      (v2 = 0 ∨ v2 = 1) ∧ Q (some (.inl v2)) I o) ∧
    (v2 ≠ 0 →
      (I 8 0 1 ≠ (42 : Int32) →
        (v2 = 0 ∨ v2 = 1) ∧ Q (some (.inl v2)) I o) ∧
      (I 8 0 1 = (42 : Int32) →
        ((160 : Int32) ≤ v3 →
          (v2 = 0 ∨ v2 = 1) ∧ Q (some (.inl v2)) I o) ∧
        (v3 < (160 : Int32) →
          Exm (d) 45 [.inr (.inr (8, 0))] I o (fun r J1 p2 => r = none ∧
            Exm (d) 36 [.inr (.inr (9, 0)), .inl v1] J1 p2 (fun r J3 p4 => ∃ x5 : Int32, r = some (.inl x5) ∧
              Exm (d) 53 [.inr (.inr (19, p4)), .inl (10018 : Int32)] J3 p4 (fun r J6 p7 => r = none ∧
                Ex (d + 1) 35 (8, [some (.inr (.inr (9, 0))), some (.inl v1), some (.inl x5), some (.inl (v3 + (1 : Int32)))], [], ma_mem J6 p7, 0, 0) (ma_end Q)))))))) :
  Ex (d + 1) 35 (8, [some (.inr (.inr (9, 0))), some (.inl v1), some (.inl v2), some (.inl v3)], [], ma_mem I o, 0, 0) (ma_end Q) := by
  refine ex_iload_n (pc := 8) (fr_get fo_35_0 6 rfl) rfl ?_
  refine xv_beq (pc := 9) (fr_get fo_35_0 7 rfl) (t := 60) rfl (fun c => ?_) (fun c => ?_)
  · replace h := h.1 c
    refine ex_iload_n (pc := 60) (fr_get fo_35_1 13 rfl) rfl ?_
    exact ex_zreturn (pc := 61) (fr_get fo_35_1 14 rfl) rt_35 rfl rfl ⟨h.1, ma_end_mk h.2⟩
  · replace h := h.2 c
    refine ex_aload_n (pc := 12) (fr_get fo_35_0 8 rfl) rfl rfl ?_
    refine ex_gr (pc := 13) (fr_get fo_35_0 9 rfl) ow_35 fr_3_9_9 (q := (8, 0)) rfl ?_
    refine xv_gi (pc := 16) (fr_get fo_35_0 10 rfl) ow_35 fg_3_29_8 rfl ?_
    refine ex_bipush (pc := 19) (fr_get fo_35_0 11 rfl) bp_42 ?_
    refine xv_cne (pc := 21) (fr_get fo_35_0 12 rfl) (t := 60) rfl (fun c => ?_) (fun c => ?_)
    · replace h := h.1 c
      refine ex_iload_n (pc := 60) (fr_get fo_35_1 13 rfl) rfl ?_
      exact ex_zreturn (pc := 61) (fr_get fo_35_1 14 rfl) rt_35 rfl rfl ⟨h.1, ma_end_mk h.2⟩
    · replace h := h.2 c
      refine ex_iload_n (pc := 24) (fr_get fo_35_0 13 rfl) rfl ?_
      refine ex_sipush (pc := 25) (fr_get fo_35_0 14 rfl) sp_160 ?_
      refine xv_cge (pc := 28) (fr_get fo_35_0 15 rfl) (t := 60) rfl (fun c => ?_) (fun c => ?_)
      · replace h := h.1 c
        refine ex_iload_n (pc := 60) (fr_get fo_35_1 13 rfl) rfl ?_
        exact ex_zreturn (pc := 61) (fr_get fo_35_1 14 rfl) rt_35 rfl rfl ⟨h.1, ma_end_mk h.2⟩
      · replace h := h.2 c
        refine ex_aload_n (pc := 31) (fr_get fo_35_1 0 rfl) rfl rfl ?_
        refine ex_gr (pc := 32) (fr_get fo_35_1 1 rfl) ow_35 fr_3_9_9 (q := (8, 0)) rfl ?_
        refine xv_kv0 (pc := 35) (fr_get fo_35_1 2 rfl) cc_35_36 (as := [.inr (.inr (8, 0))]) (rs := []) rfl rfl rfl rfl rfl ?_
        refine h.mono (fun r J1 p2 h => ⟨h.1, ?_⟩)
        replace h := h.2
        refine ex_aload_n (pc := 38) (fr_get fo_35_1 3 rfl) rfl rfl ?_
        refine ex_iload_n (pc := 39) (fr_get fo_35_1 4 rfl) rfl ?_
        refine xv_kv1 (pc := 40) (fr_get fo_35_1 5 rfl) cc_35_62 (as := [.inr (.inr (9, 0)), .inl v1]) (rs := []) rfl rfl rfl rfl rfl ?_
        refine h.mono (fun r J3 p4 h => ?_)
        obtain ⟨x5, hr, h⟩ := h
        refine ⟨x5, hr, ?_⟩
        refine ex_istore_n (pc := 43) (fr_get fo_35_1 6 rfl) rfl (L' := [some (.inr (.inr (9, 0))), some (.inl v1), some (.inl x5), some (.inl v3)]) rfl ?_
        refine ex_aload_n (pc := 44) (fr_get fo_35_1 7 rfl) rfl rfl ?_
        refine ex_gr (pc := 45) (fr_get fo_35_1 8 rfl) ow_35 fr_3_15_9 (q := (19, p4)) rfl ?_
        refine ex_sipush (pc := 48) (fr_get fo_35_1 9 rfl) sp_10018 ?_
        refine xv_kv0 (pc := 51) (fr_get fo_35_1 10 rfl) cc_35_50 (as := [.inr (.inr (19, p4)), .inl (10018 : Int32)]) (rs := []) rfl rfl rfl rfl rfl ?_
        refine h.mono (fun r J6 p7 h => ⟨h.1, ?_⟩)
        replace h := h.2
        refine xv_iinc (pc := 54) (fr_get fo_35_1 11 rfl) rfl ic_1 (L' := [some (.inr (.inr (9, 0))), some (.inl v1), some (.inl x5), some (.inl (v3 + (1 : Int32)))]) rfl ?_
        refine ex_goto (pc := 57) (fr_get fo_35_1 12 rfl) (t := 8) rfl ?_
        exact h

theorem e_36 {d : Nat} {I : ma_I} {o : Nat} {Q : ma_Q} {a1 : Int32}
  (h :
    (I 8 0 1 = (1 : Int32) →
      (I 8 0 1 ≠ (1 : Int32) →
        Exm (d) 53 [.inr (.inr (19, o)), .inl ((10000 : Int32) + (I 8 0 3))] I o (fun r J1 p2 => r = none ∧
          Exm (d) 45 [.inr (.inr (8, 0))] J1 p2 (fun r J3 p4 => r = none ∧
            Q (some (.inl (1 : Int32))) J3 p4))) ∧
      (I 8 0 1 = (1 : Int32) →
        Exm (d) 53 [.inr (.inr (19, o)), .inl (I 8 0 3)] I o (fun r J5 p6 => r = none ∧
          Exm (d) 45 [.inr (.inr (8, 0))] J5 p6 (fun r J7 p8 => r = none ∧
            Q (some (.inl (1 : Int32))) J7 p8)))) ∧
    (I 8 0 1 ≠ (1 : Int32) →
      (I 8 0 1 ≠ (2 : Int32) →
        (I 8 0 1 = (45 : Int32) →
          (a1 < (5 : Int32) →
            (I 8 0 1 ≠ (45 : Int32) →
              Exm (d) 45 [.inr (.inr (8, 0))] I o (fun r J9 p10 => r = none ∧
                Exm (d) 31 [.inr (.inr (9, 0)), .inl (a1 + (1 : Int32))] J9 p10 (fun r J11 p12 => ∃ x13 : Int32, r = some (.inl x13) ∧
                  (x13 = 0 →
                    Q (some (.inl (0 : Int32))) J11 p12) ∧
                  (x13 ≠ 0 →
                    (J11 8 0 1 = (41 : Int32) →
                      Exm (d) 45 [.inr (.inr (8, 0))] J11 p12 (fun r J14 p15 => r = none ∧
                        Q (some (.inl (1 : Int32))) J14 p15)) ∧
                    (J11 8 0 1 ≠ (41 : Int32) →
                      Q (some (.inl (0 : Int32))) J11 p12))))) ∧
            (I 8 0 1 = (45 : Int32) →
              Exm (d) 45 [.inr (.inr (8, 0))] I o (fun r J16 p17 => r = none ∧
                Exm (d) 36 [.inr (.inr (9, 0)), .inl (a1 + (1 : Int32))] J16 p17 (fun r J18 p19 => ∃ x20 : Int32, r = some (.inl x20) ∧
                  Exm (d) 53 [.inr (.inr (19, p19)), .inl (10010 : Int32)] J18 p19 (fun r J21 p22 => r = none ∧
                    (x20 = 0 ∨ x20 = 1) ∧ Q (some (.inl x20)) J21 p22))))) ∧
          ((5 : Int32) ≤ a1 →
            Q (some (.inl (0 : Int32))) I o)) ∧
        (I 8 0 1 ≠ (45 : Int32) →
          (I 8 0 1 ≠ (40 : Int32) →
            Q (some (.inl (0 : Int32))) I o) ∧
          (I 8 0 1 = (40 : Int32) →
            (a1 < (5 : Int32) →
              (I 8 0 1 ≠ (45 : Int32) →
                Exm (d) 45 [.inr (.inr (8, 0))] I o (fun r J23 p24 => r = none ∧
                  Exm (d) 31 [.inr (.inr (9, 0)), .inl (a1 + (1 : Int32))] J23 p24 (fun r J25 p26 => ∃ x27 : Int32, r = some (.inl x27) ∧
                    (x27 = 0 →
                      Q (some (.inl (0 : Int32))) J25 p26) ∧
                    (x27 ≠ 0 →
                      (J25 8 0 1 = (41 : Int32) →
                        Exm (d) 45 [.inr (.inr (8, 0))] J25 p26 (fun r J28 p29 => r = none ∧
                          Q (some (.inl (1 : Int32))) J28 p29)) ∧
                      (J25 8 0 1 ≠ (41 : Int32) →
                        Q (some (.inl (0 : Int32))) J25 p26))))) ∧
              (I 8 0 1 = (45 : Int32) →
                Exm (d) 45 [.inr (.inr (8, 0))] I o (fun r J30 p31 => r = none ∧
                  Exm (d) 36 [.inr (.inr (9, 0)), .inl (a1 + (1 : Int32))] J30 p31 (fun r J32 p33 => ∃ x34 : Int32, r = some (.inl x34) ∧
                    Exm (d) 53 [.inr (.inr (19, p33)), .inl (10010 : Int32)] J32 p33 (fun r J35 p36 => r = none ∧
                      (x34 = 0 ∨ x34 = 1) ∧ Q (some (.inl x34)) J35 p36))))) ∧
            ((5 : Int32) ≤ a1 →
              Q (some (.inl (0 : Int32))) I o)))) ∧
      (I 8 0 1 = (2 : Int32) →
        (I 8 0 1 ≠ (1 : Int32) →
          Exm (d) 53 [.inr (.inr (19, o)), .inl ((10000 : Int32) + (I 8 0 3))] I o (fun r J37 p38 => r = none ∧
            Exm (d) 45 [.inr (.inr (8, 0))] J37 p38 (fun r J39 p40 => r = none ∧
              Q (some (.inl (1 : Int32))) J39 p40))) ∧
        (I 8 0 1 = (1 : Int32) →
          Exm (d) 53 [.inr (.inr (19, o)), .inl (I 8 0 3)] I o (fun r J41 p42 => r = none ∧
            Exm (d) 45 [.inr (.inr (8, 0))] J41 p42 (fun r J43 p44 => r = none ∧
              Q (some (.inl (1 : Int32))) J43 p44)))))) :
  Exm (d + 1) 36 [.inr (.inr (9, 0)), .inl a1] I o Q := by
  show Ex (d + 1) 36 (0, [some (.inr (.inr (9, 0))), some (.inl a1), none], [], ma_mem I o, 0, 0) (ma_end Q)
  refine ex_aload_n (pc := 0) (fr_get fo_36_0 0 rfl) rfl rfl ?_
  refine ex_gr (pc := 1) (fr_get fo_36_0 1 rfl) ow_36 fr_3_9_9 (q := (8, 0)) rfl ?_
  refine xv_gi (pc := 4) (fr_get fo_36_0 2 rfl) ow_36 fg_3_29_8 rfl ?_
  refine ex_iconst (pc := 7) (fr_get fo_36_0 3 rfl) ic_1 ?_
  refine xv_ceq (pc := 8) (fr_get fo_36_0 4 rfl) (t := 22) rfl (fun c => ?_) (fun c => ?_)
  · replace h := h.1 c
    refine ex_aload_n (pc := 22) (fr_get fo_36_0 10 rfl) rfl rfl ?_
    refine ex_gr (pc := 23) (fr_get fo_36_0 11 rfl) ow_36 fr_3_15_9 (q := (19, o)) rfl ?_
    refine ex_aload_n (pc := 26) (fr_get fo_36_0 12 rfl) rfl rfl ?_
    refine ex_gr (pc := 27) (fr_get fo_36_0 13 rfl) ow_36 fr_3_9_9 (q := (8, 0)) rfl ?_
    refine xv_gi (pc := 30) (fr_get fo_36_0 14 rfl) ow_36 fg_3_29_8 rfl ?_
    refine ex_iconst (pc := 33) (fr_get fo_36_0 15 rfl) ic_1 ?_
    refine xv_cne (pc := 34) (fr_get fo_36_1 0 rfl) (t := 47) rfl (fun c => ?_) (fun c => ?_)
    · replace h := h.1 c
      refine ex_sipush (pc := 47) (fr_get fo_36_1 5 rfl) sp_10000 ?_
      refine ex_aload_n (pc := 50) (fr_get fo_36_1 6 rfl) rfl rfl ?_
      refine ex_gr (pc := 51) (fr_get fo_36_1 7 rfl) ow_36 fr_3_9_9 (q := (8, 0)) rfl ?_
      refine xv_gi (pc := 54) (fr_get fo_36_1 8 rfl) ow_36 fg_3_65_8 rfl ?_
      refine ex_iadd (pc := 57) (fr_get fo_36_1 9 rfl) ?_
      refine xv_kv0 (pc := 58) (fr_get fo_36_1 10 rfl) cc_36_50 (as := [.inr (.inr (19, o)), .inl ((10000 : Int32) + (I 8 0 3))]) (rs := []) rfl rfl rfl rfl rfl ?_
      refine h.mono (fun r J1 p2 h => ⟨h.1, ?_⟩)
      replace h := h.2
      refine ex_aload_n (pc := 61) (fr_get fo_36_1 11 rfl) rfl rfl ?_
      refine ex_gr (pc := 62) (fr_get fo_36_1 12 rfl) ow_36 fr_3_9_9 (q := (8, 0)) rfl ?_
      refine xv_kv0 (pc := 65) (fr_get fo_36_1 13 rfl) cc_36_36 (as := [.inr (.inr (8, 0))]) (rs := []) rfl rfl rfl rfl rfl ?_
      refine h.mono (fun r J3 p4 h => ⟨h.1, ?_⟩)
      replace h := h.2
      refine ex_iconst (pc := 68) (fr_get fo_36_1 14 rfl) ic_1 ?_
      exact ex_zreturn (pc := 69) (fr_get fo_36_1 15 rfl) rt_36 rfl rfl ⟨Or.inr rfl, ma_end_mk h⟩
    · replace h := h.2 c
      refine ex_aload_n (pc := 37) (fr_get fo_36_1 1 rfl) rfl rfl ?_
      refine ex_gr (pc := 38) (fr_get fo_36_1 2 rfl) ow_36 fr_3_9_9 (q := (8, 0)) rfl ?_
      refine xv_gi (pc := 41) (fr_get fo_36_1 3 rfl) ow_36 fg_3_65_8 rfl ?_
      refine ex_goto (pc := 44) (fr_get fo_36_1 4 rfl) (t := 58) rfl ?_
      refine xv_kv0 (pc := 58) (fr_get fo_36_1 10 rfl) cc_36_50 (as := [.inr (.inr (19, o)), .inl (I 8 0 3)]) (rs := []) rfl rfl rfl rfl rfl ?_
      refine h.mono (fun r J5 p6 h => ⟨h.1, ?_⟩)
      replace h := h.2
      refine ex_aload_n (pc := 61) (fr_get fo_36_1 11 rfl) rfl rfl ?_
      refine ex_gr (pc := 62) (fr_get fo_36_1 12 rfl) ow_36 fr_3_9_9 (q := (8, 0)) rfl ?_
      refine xv_kv0 (pc := 65) (fr_get fo_36_1 13 rfl) cc_36_36 (as := [.inr (.inr (8, 0))]) (rs := []) rfl rfl rfl rfl rfl ?_
      refine h.mono (fun r J7 p8 h => ⟨h.1, ?_⟩)
      replace h := h.2
      refine ex_iconst (pc := 68) (fr_get fo_36_1 14 rfl) ic_1 ?_
      exact ex_zreturn (pc := 69) (fr_get fo_36_1 15 rfl) rt_36 rfl rfl ⟨Or.inr rfl, ma_end_mk h⟩
  · replace h := h.2 c
    refine ex_aload_n (pc := 11) (fr_get fo_36_0 5 rfl) rfl rfl ?_
    refine ex_gr (pc := 12) (fr_get fo_36_0 6 rfl) ow_36 fr_3_9_9 (q := (8, 0)) rfl ?_
    refine xv_gi (pc := 15) (fr_get fo_36_0 7 rfl) ow_36 fg_3_29_8 rfl ?_
    refine ex_iconst (pc := 18) (fr_get fo_36_0 8 rfl) ic_2 ?_
    refine xv_cne (pc := 19) (fr_get fo_36_0 9 rfl) (t := 70) rfl (fun c => ?_) (fun c => ?_)
    · replace h := h.1 c
      refine ex_aload_n (pc := 70) (fr_get fo_36_2 0 rfl) rfl rfl ?_
      refine ex_gr (pc := 71) (fr_get fo_36_2 1 rfl) ow_36 fr_3_9_9 (q := (8, 0)) rfl ?_
      refine xv_gi (pc := 74) (fr_get fo_36_2 2 rfl) ow_36 fg_3_29_8 rfl ?_
      refine ex_bipush (pc := 77) (fr_get fo_36_2 3 rfl) bp_45 ?_
      refine xv_ceq (pc := 79) (fr_get fo_36_2 4 rfl) (t := 94) rfl (fun c => ?_) (fun c => ?_)
      · replace h := h.1 c
        refine ex_iload_n (pc := 94) (fr_get fo_36_2 10 rfl) rfl ?_
        refine ex_iconst (pc := 95) (fr_get fo_36_2 11 rfl) ic_5 ?_
        refine xv_clt (pc := 96) (fr_get fo_36_2 12 rfl) (t := 101) rfl (fun c => ?_) (fun c => ?_)
        · replace h := h.1 c
          refine ex_aload_n (pc := 101) (fr_get fo_36_2 15 rfl) rfl rfl ?_
          refine ex_gr (pc := 102) (fr_get fo_36_3 0 rfl) ow_36 fr_3_9_9 (q := (8, 0)) rfl ?_
          refine xv_gi (pc := 105) (fr_get fo_36_3 1 rfl) ow_36 fg_3_29_8 rfl ?_
          refine ex_bipush (pc := 108) (fr_get fo_36_3 2 rfl) bp_45 ?_
          refine xv_cne (pc := 110) (fr_get fo_36_3 3 rfl) (t := 140) rfl (fun c => ?_) (fun c => ?_)
          · replace h := h.1 c
            refine ex_aload_n (pc := 140) (fr_get fo_36_4 3 rfl) rfl rfl ?_
            refine ex_gr (pc := 141) (fr_get fo_36_4 4 rfl) ow_36 fr_3_9_9 (q := (8, 0)) rfl ?_
            refine xv_kv0 (pc := 144) (fr_get fo_36_4 5 rfl) cc_36_36 (as := [.inr (.inr (8, 0))]) (rs := []) rfl rfl rfl rfl rfl ?_
            refine h.mono (fun r J9 p10 h => ⟨h.1, ?_⟩)
            replace h := h.2
            refine ex_aload_n (pc := 147) (fr_get fo_36_4 6 rfl) rfl rfl ?_
            refine ex_iload_n (pc := 148) (fr_get fo_36_4 7 rfl) rfl ?_
            refine ex_iconst (pc := 149) (fr_get fo_36_4 8 rfl) ic_1 ?_
            refine ex_iadd (pc := 150) (fr_get fo_36_4 9 rfl) ?_
            refine xv_kv1 (pc := 151) (fr_get fo_36_4 10 rfl) cc_36_39 (as := [.inr (.inr (9, 0)), .inl (a1 + (1 : Int32))]) (rs := []) rfl rfl rfl rfl rfl ?_
            refine h.mono (fun r J11 p12 h => ?_)
            obtain ⟨x13, hr, h⟩ := h
            refine ⟨x13, hr, ?_⟩
            refine xv_beq (pc := 154) (fr_get fo_36_4 11 rfl) (t := 169) rfl (fun c => ?_) (fun c => ?_)
            · replace h := h.1 c
              refine ex_iconst (pc := 169) (fr_get fo_36_5 1 rfl) ic_0 ?_
              exact ex_zreturn (pc := 170) (fr_get fo_36_5 2 rfl) rt_36 rfl rfl ⟨Or.inl rfl, ma_end_mk h⟩
            · replace h := h.2 c
              refine ex_aload_n (pc := 157) (fr_get fo_36_4 12 rfl) rfl rfl ?_
              refine ex_gr (pc := 158) (fr_get fo_36_4 13 rfl) ow_36 fr_3_9_9 (q := (8, 0)) rfl ?_
              refine xv_gi (pc := 161) (fr_get fo_36_4 14 rfl) ow_36 fg_3_29_8 rfl ?_
              refine ex_bipush (pc := 164) (fr_get fo_36_4 15 rfl) bp_41 ?_
              refine xv_ceq (pc := 166) (fr_get fo_36_5 0 rfl) (t := 171) rfl (fun c => ?_) (fun c => ?_)
              · replace h := h.1 c
                refine ex_aload_n (pc := 171) (fr_get fo_36_5 3 rfl) rfl rfl ?_
                refine ex_gr (pc := 172) (fr_get fo_36_5 4 rfl) ow_36 fr_3_9_9 (q := (8, 0)) rfl ?_
                refine xv_kv0 (pc := 175) (fr_get fo_36_5 5 rfl) cc_36_36 (as := [.inr (.inr (8, 0))]) (rs := []) rfl rfl rfl rfl rfl ?_
                refine h.mono (fun r J14 p15 h => ⟨h.1, ?_⟩)
                replace h := h.2
                refine ex_iconst (pc := 178) (fr_get fo_36_5 6 rfl) ic_1 ?_
                exact ex_zreturn (pc := 179) (fr_get fo_36_5 7 rfl) rt_36 rfl rfl ⟨Or.inr rfl, ma_end_mk h⟩
              · replace h := h.2 c
                refine ex_iconst (pc := 169) (fr_get fo_36_5 1 rfl) ic_0 ?_
                exact ex_zreturn (pc := 170) (fr_get fo_36_5 2 rfl) rt_36 rfl rfl ⟨Or.inl rfl, ma_end_mk h⟩
          · replace h := h.2 c
            refine ex_aload_n (pc := 113) (fr_get fo_36_3 4 rfl) rfl rfl ?_
            refine ex_gr (pc := 114) (fr_get fo_36_3 5 rfl) ow_36 fr_3_9_9 (q := (8, 0)) rfl ?_
            refine xv_kv0 (pc := 117) (fr_get fo_36_3 6 rfl) cc_36_36 (as := [.inr (.inr (8, 0))]) (rs := []) rfl rfl rfl rfl rfl ?_
            refine h.mono (fun r J16 p17 h => ⟨h.1, ?_⟩)
            replace h := h.2
            refine ex_aload_n (pc := 120) (fr_get fo_36_3 7 rfl) rfl rfl ?_
            refine ex_iload_n (pc := 121) (fr_get fo_36_3 8 rfl) rfl ?_
            refine ex_iconst (pc := 122) (fr_get fo_36_3 9 rfl) ic_1 ?_
            refine ex_iadd (pc := 123) (fr_get fo_36_3 10 rfl) ?_
            refine xv_kv1 (pc := 124) (fr_get fo_36_3 11 rfl) cc_36_62 (as := [.inr (.inr (9, 0)), .inl (a1 + (1 : Int32))]) (rs := []) rfl rfl rfl rfl rfl ?_
            refine h.mono (fun r J18 p19 h => ?_)
            obtain ⟨x20, hr, h⟩ := h
            refine ⟨x20, hr, ?_⟩
            refine ex_istore_n (pc := 127) (fr_get fo_36_3 12 rfl) rfl (L' := [some (.inr (.inr (9, 0))), some (.inl a1), some (.inl x20)]) rfl ?_
            refine ex_aload_n (pc := 128) (fr_get fo_36_3 13 rfl) rfl rfl ?_
            refine ex_gr (pc := 129) (fr_get fo_36_3 14 rfl) ow_36 fr_3_15_9 (q := (19, p19)) rfl ?_
            refine ex_sipush (pc := 132) (fr_get fo_36_3 15 rfl) sp_10010 ?_
            refine xv_kv0 (pc := 135) (fr_get fo_36_4 0 rfl) cc_36_50 (as := [.inr (.inr (19, p19)), .inl (10010 : Int32)]) (rs := []) rfl rfl rfl rfl rfl ?_
            refine h.mono (fun r J21 p22 h => ⟨h.1, ?_⟩)
            replace h := h.2
            refine ex_iload_n (pc := 138) (fr_get fo_36_4 1 rfl) rfl ?_
            exact ex_zreturn (pc := 139) (fr_get fo_36_4 2 rfl) rt_36 rfl rfl ⟨h.1, ma_end_mk h.2⟩
        · replace h := h.2 c
          refine ex_iconst (pc := 99) (fr_get fo_36_2 13 rfl) ic_0 ?_
          exact ex_zreturn (pc := 100) (fr_get fo_36_2 14 rfl) rt_36 rfl rfl ⟨Or.inl rfl, ma_end_mk h⟩
      · replace h := h.2 c
        refine ex_aload_n (pc := 82) (fr_get fo_36_2 5 rfl) rfl rfl ?_
        refine ex_gr (pc := 83) (fr_get fo_36_2 6 rfl) ow_36 fr_3_9_9 (q := (8, 0)) rfl ?_
        refine xv_gi (pc := 86) (fr_get fo_36_2 7 rfl) ow_36 fg_3_29_8 rfl ?_
        refine ex_bipush (pc := 89) (fr_get fo_36_2 8 rfl) bp_40 ?_
        refine xv_cne (pc := 91) (fr_get fo_36_2 9 rfl) (t := 99) rfl (fun c => ?_) (fun c => ?_)
        · replace h := h.1 c
          refine ex_iconst (pc := 99) (fr_get fo_36_2 13 rfl) ic_0 ?_
          exact ex_zreturn (pc := 100) (fr_get fo_36_2 14 rfl) rt_36 rfl rfl ⟨Or.inl rfl, ma_end_mk h⟩
        · replace h := h.2 c
          refine ex_iload_n (pc := 94) (fr_get fo_36_2 10 rfl) rfl ?_
          refine ex_iconst (pc := 95) (fr_get fo_36_2 11 rfl) ic_5 ?_
          refine xv_clt (pc := 96) (fr_get fo_36_2 12 rfl) (t := 101) rfl (fun c => ?_) (fun c => ?_)
          · replace h := h.1 c
            refine ex_aload_n (pc := 101) (fr_get fo_36_2 15 rfl) rfl rfl ?_
            refine ex_gr (pc := 102) (fr_get fo_36_3 0 rfl) ow_36 fr_3_9_9 (q := (8, 0)) rfl ?_
            refine xv_gi (pc := 105) (fr_get fo_36_3 1 rfl) ow_36 fg_3_29_8 rfl ?_
            refine ex_bipush (pc := 108) (fr_get fo_36_3 2 rfl) bp_45 ?_
            refine xv_cne (pc := 110) (fr_get fo_36_3 3 rfl) (t := 140) rfl (fun c => ?_) (fun c => ?_)
            · replace h := h.1 c
              refine ex_aload_n (pc := 140) (fr_get fo_36_4 3 rfl) rfl rfl ?_
              refine ex_gr (pc := 141) (fr_get fo_36_4 4 rfl) ow_36 fr_3_9_9 (q := (8, 0)) rfl ?_
              refine xv_kv0 (pc := 144) (fr_get fo_36_4 5 rfl) cc_36_36 (as := [.inr (.inr (8, 0))]) (rs := []) rfl rfl rfl rfl rfl ?_
              refine h.mono (fun r J23 p24 h => ⟨h.1, ?_⟩)
              replace h := h.2
              refine ex_aload_n (pc := 147) (fr_get fo_36_4 6 rfl) rfl rfl ?_
              refine ex_iload_n (pc := 148) (fr_get fo_36_4 7 rfl) rfl ?_
              refine ex_iconst (pc := 149) (fr_get fo_36_4 8 rfl) ic_1 ?_
              refine ex_iadd (pc := 150) (fr_get fo_36_4 9 rfl) ?_
              refine xv_kv1 (pc := 151) (fr_get fo_36_4 10 rfl) cc_36_39 (as := [.inr (.inr (9, 0)), .inl (a1 + (1 : Int32))]) (rs := []) rfl rfl rfl rfl rfl ?_
              refine h.mono (fun r J25 p26 h => ?_)
              obtain ⟨x27, hr, h⟩ := h
              refine ⟨x27, hr, ?_⟩
              refine xv_beq (pc := 154) (fr_get fo_36_4 11 rfl) (t := 169) rfl (fun c => ?_) (fun c => ?_)
              · replace h := h.1 c
                refine ex_iconst (pc := 169) (fr_get fo_36_5 1 rfl) ic_0 ?_
                exact ex_zreturn (pc := 170) (fr_get fo_36_5 2 rfl) rt_36 rfl rfl ⟨Or.inl rfl, ma_end_mk h⟩
              · replace h := h.2 c
                refine ex_aload_n (pc := 157) (fr_get fo_36_4 12 rfl) rfl rfl ?_
                refine ex_gr (pc := 158) (fr_get fo_36_4 13 rfl) ow_36 fr_3_9_9 (q := (8, 0)) rfl ?_
                refine xv_gi (pc := 161) (fr_get fo_36_4 14 rfl) ow_36 fg_3_29_8 rfl ?_
                refine ex_bipush (pc := 164) (fr_get fo_36_4 15 rfl) bp_41 ?_
                refine xv_ceq (pc := 166) (fr_get fo_36_5 0 rfl) (t := 171) rfl (fun c => ?_) (fun c => ?_)
                · replace h := h.1 c
                  refine ex_aload_n (pc := 171) (fr_get fo_36_5 3 rfl) rfl rfl ?_
                  refine ex_gr (pc := 172) (fr_get fo_36_5 4 rfl) ow_36 fr_3_9_9 (q := (8, 0)) rfl ?_
                  refine xv_kv0 (pc := 175) (fr_get fo_36_5 5 rfl) cc_36_36 (as := [.inr (.inr (8, 0))]) (rs := []) rfl rfl rfl rfl rfl ?_
                  refine h.mono (fun r J28 p29 h => ⟨h.1, ?_⟩)
                  replace h := h.2
                  refine ex_iconst (pc := 178) (fr_get fo_36_5 6 rfl) ic_1 ?_
                  exact ex_zreturn (pc := 179) (fr_get fo_36_5 7 rfl) rt_36 rfl rfl ⟨Or.inr rfl, ma_end_mk h⟩
                · replace h := h.2 c
                  refine ex_iconst (pc := 169) (fr_get fo_36_5 1 rfl) ic_0 ?_
                  exact ex_zreturn (pc := 170) (fr_get fo_36_5 2 rfl) rt_36 rfl rfl ⟨Or.inl rfl, ma_end_mk h⟩
            · replace h := h.2 c
              refine ex_aload_n (pc := 113) (fr_get fo_36_3 4 rfl) rfl rfl ?_
              refine ex_gr (pc := 114) (fr_get fo_36_3 5 rfl) ow_36 fr_3_9_9 (q := (8, 0)) rfl ?_
              refine xv_kv0 (pc := 117) (fr_get fo_36_3 6 rfl) cc_36_36 (as := [.inr (.inr (8, 0))]) (rs := []) rfl rfl rfl rfl rfl ?_
              refine h.mono (fun r J30 p31 h => ⟨h.1, ?_⟩)
              replace h := h.2
              refine ex_aload_n (pc := 120) (fr_get fo_36_3 7 rfl) rfl rfl ?_
              refine ex_iload_n (pc := 121) (fr_get fo_36_3 8 rfl) rfl ?_
              refine ex_iconst (pc := 122) (fr_get fo_36_3 9 rfl) ic_1 ?_
              refine ex_iadd (pc := 123) (fr_get fo_36_3 10 rfl) ?_
              refine xv_kv1 (pc := 124) (fr_get fo_36_3 11 rfl) cc_36_62 (as := [.inr (.inr (9, 0)), .inl (a1 + (1 : Int32))]) (rs := []) rfl rfl rfl rfl rfl ?_
              refine h.mono (fun r J32 p33 h => ?_)
              obtain ⟨x34, hr, h⟩ := h
              refine ⟨x34, hr, ?_⟩
              refine ex_istore_n (pc := 127) (fr_get fo_36_3 12 rfl) rfl (L' := [some (.inr (.inr (9, 0))), some (.inl a1), some (.inl x34)]) rfl ?_
              refine ex_aload_n (pc := 128) (fr_get fo_36_3 13 rfl) rfl rfl ?_
              refine ex_gr (pc := 129) (fr_get fo_36_3 14 rfl) ow_36 fr_3_15_9 (q := (19, p33)) rfl ?_
              refine ex_sipush (pc := 132) (fr_get fo_36_3 15 rfl) sp_10010 ?_
              refine xv_kv0 (pc := 135) (fr_get fo_36_4 0 rfl) cc_36_50 (as := [.inr (.inr (19, p33)), .inl (10010 : Int32)]) (rs := []) rfl rfl rfl rfl rfl ?_
              refine h.mono (fun r J35 p36 h => ⟨h.1, ?_⟩)
              replace h := h.2
              refine ex_iload_n (pc := 138) (fr_get fo_36_4 1 rfl) rfl ?_
              exact ex_zreturn (pc := 139) (fr_get fo_36_4 2 rfl) rt_36 rfl rfl ⟨h.1, ma_end_mk h.2⟩
          · replace h := h.2 c
            refine ex_iconst (pc := 99) (fr_get fo_36_2 13 rfl) ic_0 ?_
            exact ex_zreturn (pc := 100) (fr_get fo_36_2 14 rfl) rt_36 rfl rfl ⟨Or.inl rfl, ma_end_mk h⟩
    · replace h := h.2 c
      refine ex_aload_n (pc := 22) (fr_get fo_36_0 10 rfl) rfl rfl ?_
      refine ex_gr (pc := 23) (fr_get fo_36_0 11 rfl) ow_36 fr_3_15_9 (q := (19, o)) rfl ?_
      refine ex_aload_n (pc := 26) (fr_get fo_36_0 12 rfl) rfl rfl ?_
      refine ex_gr (pc := 27) (fr_get fo_36_0 13 rfl) ow_36 fr_3_9_9 (q := (8, 0)) rfl ?_
      refine xv_gi (pc := 30) (fr_get fo_36_0 14 rfl) ow_36 fg_3_29_8 rfl ?_
      refine ex_iconst (pc := 33) (fr_get fo_36_0 15 rfl) ic_1 ?_
      refine xv_cne (pc := 34) (fr_get fo_36_1 0 rfl) (t := 47) rfl (fun c => ?_) (fun c => ?_)
      · replace h := h.1 c
        refine ex_sipush (pc := 47) (fr_get fo_36_1 5 rfl) sp_10000 ?_
        refine ex_aload_n (pc := 50) (fr_get fo_36_1 6 rfl) rfl rfl ?_
        refine ex_gr (pc := 51) (fr_get fo_36_1 7 rfl) ow_36 fr_3_9_9 (q := (8, 0)) rfl ?_
        refine xv_gi (pc := 54) (fr_get fo_36_1 8 rfl) ow_36 fg_3_65_8 rfl ?_
        refine ex_iadd (pc := 57) (fr_get fo_36_1 9 rfl) ?_
        refine xv_kv0 (pc := 58) (fr_get fo_36_1 10 rfl) cc_36_50 (as := [.inr (.inr (19, o)), .inl ((10000 : Int32) + (I 8 0 3))]) (rs := []) rfl rfl rfl rfl rfl ?_
        refine h.mono (fun r J37 p38 h => ⟨h.1, ?_⟩)
        replace h := h.2
        refine ex_aload_n (pc := 61) (fr_get fo_36_1 11 rfl) rfl rfl ?_
        refine ex_gr (pc := 62) (fr_get fo_36_1 12 rfl) ow_36 fr_3_9_9 (q := (8, 0)) rfl ?_
        refine xv_kv0 (pc := 65) (fr_get fo_36_1 13 rfl) cc_36_36 (as := [.inr (.inr (8, 0))]) (rs := []) rfl rfl rfl rfl rfl ?_
        refine h.mono (fun r J39 p40 h => ⟨h.1, ?_⟩)
        replace h := h.2
        refine ex_iconst (pc := 68) (fr_get fo_36_1 14 rfl) ic_1 ?_
        exact ex_zreturn (pc := 69) (fr_get fo_36_1 15 rfl) rt_36 rfl rfl ⟨Or.inr rfl, ma_end_mk h⟩
      · replace h := h.2 c
        refine ex_aload_n (pc := 37) (fr_get fo_36_1 1 rfl) rfl rfl ?_
        refine ex_gr (pc := 38) (fr_get fo_36_1 2 rfl) ow_36 fr_3_9_9 (q := (8, 0)) rfl ?_
        refine xv_gi (pc := 41) (fr_get fo_36_1 3 rfl) ow_36 fg_3_65_8 rfl ?_
        refine ex_goto (pc := 44) (fr_get fo_36_1 4 rfl) (t := 58) rfl ?_
        refine xv_kv0 (pc := 58) (fr_get fo_36_1 10 rfl) cc_36_50 (as := [.inr (.inr (19, o)), .inl (I 8 0 3)]) (rs := []) rfl rfl rfl rfl rfl ?_
        refine h.mono (fun r J41 p42 h => ⟨h.1, ?_⟩)
        replace h := h.2
        refine ex_aload_n (pc := 61) (fr_get fo_36_1 11 rfl) rfl rfl ?_
        refine ex_gr (pc := 62) (fr_get fo_36_1 12 rfl) ow_36 fr_3_9_9 (q := (8, 0)) rfl ?_
        refine xv_kv0 (pc := 65) (fr_get fo_36_1 13 rfl) cc_36_36 (as := [.inr (.inr (8, 0))]) (rs := []) rfl rfl rfl rfl rfl ?_
        refine h.mono (fun r J43 p44 h => ⟨h.1, ?_⟩)
        replace h := h.2
        refine ex_iconst (pc := 68) (fr_get fo_36_1 14 rfl) ic_1 ?_
        exact ex_zreturn (pc := 69) (fr_get fo_36_1 15 rfl) rt_36 rfl rfl ⟨Or.inr rfl, ma_end_mk h⟩

theorem e_38 {d : Nat} {I : ma_I} {o : Nat} {Q : ma_Q} {q0 : Nat} {a1 : Int32} {a2 : Int32}
  (h :
    Ex (d) 38 (12, [some (.inr (.inr (12, q0))), some (.inl a1), some (.inl a2), some (.inl (0 : Int32))], [], ma_mem (ma_up (ma_up I 12 q0 0 a1) 12 q0 1 a2) o, 0, 0) (ma_end Q)) :
  Exm (d) 38 [.inr (.inr (12, q0)), .inl a1, .inl a2] I o Q := by
  show Ex (d) 38 (0, [some (.inr (.inr (12, q0))), some (.inl a1), some (.inl a2), none], [], ma_mem I o, 0, 0) (ma_end Q)
  refine ex_aload_n (pc := 0) (fr_get fo_38_0 0 rfl) rfl rfl ?_
  refine ex_iload_n (pc := 1) (fr_get fo_38_0 1 rfl) rfl ?_
  refine ex_pi (pc := 2) (fr_get fo_38_0 2 rfl) ow_38 fp_4_9_12 ?_
  refine ex_aload_n (pc := 5) (fr_get fo_38_0 3 rfl) rfl rfl ?_
  refine ex_iload_n (pc := 6) (fr_get fo_38_0 4 rfl) rfl ?_
  refine ex_pi (pc := 7) (fr_get fo_38_0 5 rfl) ow_38 fp_4_19_12 ?_
  refine ex_iconst (pc := 10) (fr_get fo_38_0 6 rfl) ic_0 ?_
  refine ex_istore_n (pc := 11) (fr_get fo_38_0 7 rfl) rfl (L' := [some (.inr (.inr (12, q0))), some (.inl a1), some (.inl a2), some (.inl (0 : Int32))]) rfl ?_
  exact h

theorem b_38_12 {d : Nat} {I : ma_I} {o : Nat} {Q : ma_Q} {q0 : Nat} {v1 : Int32} {v2 : Int32} {v3 : Int32}
  (h :
    ((40 : Int32) ≤ v3 →
      Q none I o) ∧
    (v3 < (40 : Int32) →
      ma_in v3 40 ∧
      Ex (d) 38 (12, [some (.inr (.inr (12, q0))), some (.inl v1), some (.inl v2), some (.inl (v3 + (1 : Int32)))], [], ma_mem (ma_up I 13 q0 v3.toNatClampNeg (0 : Int32)) o, 0, 0) (ma_end Q))) :
  Ex (d) 38 (12, [some (.inr (.inr (12, q0))), some (.inl v1), some (.inl v2), some (.inl v3)], [], ma_mem I o, 0, 0) (ma_end Q) := by
  refine ex_iload_n (pc := 12) (fr_get fo_38_0 8 rfl) rfl ?_
  refine ex_bipush (pc := 13) (fr_get fo_38_0 9 rfl) bp_40 ?_
  refine xv_cge (pc := 15) (fr_get fo_38_0 10 rfl) (t := 31) rfl (fun c => ?_) (fun c => ?_)
  · replace h := h.1 c
    exact ex_return (pc := 31) (fr_get fo_38_1 2 rfl) rt_38 rfl rfl (ma_end_mk h)
  · replace h := h.2 c
    refine ex_aload_n (pc := 18) (fr_get fo_38_0 11 rfl) rfl rfl ?_
    refine ex_gr (pc := 19) (fr_get fo_38_0 12 rfl) ow_38 fr_4_15_12 (q := (13, q0)) rfl ?_
    refine ex_iload_n (pc := 22) (fr_get fo_38_0 13 rfl) rfl ?_
    refine ex_iconst (pc := 23) (fr_get fo_38_0 14 rfl) ic_0 ?_
    refine xv_iast (pc := 24) (fr_get fo_38_0 15 rfl) gs_13 gl_13 rfl h.1 ?_
    replace h := h.2
    refine xv_iinc (pc := 25) (fr_get fo_38_1 0 rfl) rfl ic_1 (L' := [some (.inr (.inr (12, q0))), some (.inl v1), some (.inl v2), some (.inl (v3 + (1 : Int32)))]) rfl ?_
    refine ex_goto (pc := 28) (fr_get fo_38_1 1 rfl) (t := 12) rfl ?_
    exact h

theorem e_39 {d : Nat} {I : ma_I} {o : Nat} {Q : ma_Q} {q0 : Nat} {a1 : Int32} {a2 : Int32}
  (h :
    (I 12 q0 0 ≠ 0 →
      (I 12 q0 0 ≠ (1 : Int32) →
        ma_in a1 40 ∧
        Q none (ma_up I 13 q0 a1.toNatClampNeg a2) o) ∧
      (I 12 q0 0 = (1 : Int32) →
        ma_in a1 40 ∧
        Q none (ma_up I 13 q0 a1.toNatClampNeg ((Int32.toInt16 a2).toInt32)) o)) ∧
    (I 12 q0 0 = 0 →
      ma_in a1 40 ∧
      Q none (ma_up I 13 q0 a1.toNatClampNeg ((Int32.toInt8 a2).toInt32)) o)) :
  Exm (d) 39 [.inr (.inr (12, q0)), .inl a1, .inl a2] I o Q := by
  show Ex (d) 39 (0, [some (.inr (.inr (12, q0))), some (.inl a1), some (.inl a2)], [], ma_mem I o, 0, 0) (ma_end Q)
  refine ex_aload_n (pc := 0) (fr_get fo_39_0 0 rfl) rfl rfl ?_
  refine xv_gi (pc := 1) (fr_get fo_39_0 1 rfl) ow_39 fg_4_9_12 rfl ?_
  refine xv_bne (pc := 4) (fr_get fo_39_0 2 rfl) (t := 18) rfl (fun c => ?_) (fun c => ?_)
  · replace h := h.1 c
    refine ex_aload_n (pc := 18) (fr_get fo_39_0 10 rfl) rfl rfl ?_
    refine xv_gi (pc := 19) (fr_get fo_39_0 11 rfl) ow_39 fg_4_9_12 rfl ?_
    refine ex_iconst (pc := 22) (fr_get fo_39_0 12 rfl) ic_1 ?_
    refine xv_cne (pc := 23) (fr_get fo_39_0 13 rfl) (t := 37) rfl (fun c => ?_) (fun c => ?_)
    · replace h := h.1 c
      refine ex_aload_n (pc := 37) (fr_get fo_39_1 5 rfl) rfl rfl ?_
      refine ex_gr (pc := 38) (fr_get fo_39_1 6 rfl) ow_39 fr_4_15_12 (q := (13, q0)) rfl ?_
      refine ex_iload_n (pc := 41) (fr_get fo_39_1 7 rfl) rfl ?_
      refine ex_iload_n (pc := 42) (fr_get fo_39_1 8 rfl) rfl ?_
      refine xv_iast (pc := 43) (fr_get fo_39_1 9 rfl) gs_13 gl_13 rfl h.1 ?_
      replace h := h.2
      exact ex_return (pc := 44) (fr_get fo_39_1 10 rfl) rt_39 rfl rfl (ma_end_mk h)
    · replace h := h.2 c
      refine ex_aload_n (pc := 26) (fr_get fo_39_0 14 rfl) rfl rfl ?_
      refine ex_gr (pc := 27) (fr_get fo_39_0 15 rfl) ow_39 fr_4_15_12 (q := (13, q0)) rfl ?_
      refine ex_iload_n (pc := 30) (fr_get fo_39_1 0 rfl) rfl ?_
      refine ex_iload_n (pc := 31) (fr_get fo_39_1 1 rfl) rfl ?_
      refine ex_i2s (pc := 32) (fr_get fo_39_1 2 rfl) ?_
      refine xv_iast (pc := 33) (fr_get fo_39_1 3 rfl) gs_13 gl_13 rfl h.1 ?_
      replace h := h.2
      refine ex_goto (pc := 34) (fr_get fo_39_1 4 rfl) (t := 44) rfl ?_
      exact ex_return (pc := 44) (fr_get fo_39_1 10 rfl) rt_39 rfl rfl (ma_end_mk h)
  · replace h := h.2 c
    refine ex_aload_n (pc := 7) (fr_get fo_39_0 3 rfl) rfl rfl ?_
    refine ex_gr (pc := 8) (fr_get fo_39_0 4 rfl) ow_39 fr_4_15_12 (q := (13, q0)) rfl ?_
    refine ex_iload_n (pc := 11) (fr_get fo_39_0 5 rfl) rfl ?_
    refine ex_iload_n (pc := 12) (fr_get fo_39_0 6 rfl) rfl ?_
    refine ex_i2b (pc := 13) (fr_get fo_39_0 7 rfl) ?_
    refine xv_iast (pc := 14) (fr_get fo_39_0 8 rfl) gs_13 gl_13 rfl h.1 ?_
    replace h := h.2
    refine ex_goto (pc := 15) (fr_get fo_39_0 9 rfl) (t := 44) rfl ?_
    exact ex_return (pc := 44) (fr_get fo_39_1 10 rfl) rt_39 rfl rfl (ma_end_mk h)

theorem e_41 {d : Nat} {I : ma_I} {o : Nat} {Q : ma_Q} {q0 : Nat}
  (h :
    Ex (d + 2) 41 (2, [some (.inr (.inr (12, q0))), some (.inl (0 : Int32))], [], ma_mem I o, 0, 0) (ma_end Q)) :
  Exm (d + 2) 41 [.inr (.inr (12, q0))] I o Q := by
  show Ex (d + 2) 41 (0, [some (.inr (.inr (12, q0))), none], [], ma_mem I o, 0, 0) (ma_end Q)
  refine ex_iconst (pc := 0) (fr_get fo_41_0 0 rfl) ic_0 ?_
  refine ex_istore_n (pc := 1) (fr_get fo_41_0 1 rfl) rfl (L' := [some (.inr (.inr (12, q0))), some (.inl (0 : Int32))]) rfl ?_
  exact h

theorem b_41_2 {d : Nat} {I : ma_I} {o : Nat} {Q : ma_Q} {q0 : Nat} {v1 : Int32}
  (h :
    (I 12 q0 1 ≤ v1 →
      Q (some (.inl (xv_b ((1 : Int32) ≤ (I 12 q0 1) ∧ (I 12 q0 1) ≤ (20 : Int32))))) I o) ∧
    (v1 < I 12 q0 1 →
      ma_in v1 40 ∧
      ((0 : Int32) ≤ (I 13 q0 v1.toNatClampNeg) ∧ (I 13 q0 v1.toNatClampNeg) ≤ (7 : Int32) →
        Ex (d + 2) 41 (2, [some (.inr (.inr (12, q0))), some (.inl (v1 + (1 : Int32)))], [], ma_mem I o, 0, 0) (ma_end Q)) ∧
      (¬((0 : Int32) ≤ (I 13 q0 v1.toNatClampNeg) ∧ (I 13 q0 v1.toNatClampNeg) ≤ (7 : Int32)) →
        Q (some (.inl (0 : Int32))) I o))) :
  Ex (d + 2) 41 (2, [some (.inr (.inr (12, q0))), some (.inl v1)], [], ma_mem I o, 0, 0) (ma_end Q) := by
  refine ex_iload_n (pc := 2) (fr_get fo_41_0 2 rfl) rfl ?_
  refine ex_aload_n (pc := 3) (fr_get fo_41_0 3 rfl) rfl rfl ?_
  refine xv_gi (pc := 4) (fr_get fo_41_0 4 rfl) ow_41 fg_4_19_12 rfl ?_
  refine xv_cge (pc := 7) (fr_get fo_41_0 5 rfl) (t := 30) rfl (fun c => ?_) (fun c => ?_)
  · replace h := h.1 c
    refine ex_aload_n (pc := 30) (fr_get fo_41_1 0 rfl) rfl rfl ?_
    refine xv_gi (pc := 31) (fr_get fo_41_1 1 rfl) ow_41 fg_4_19_12 rfl ?_
    refine ex_iconst (pc := 34) (fr_get fo_41_1 2 rfl) ic_1 ?_
    refine ex_bipush (pc := 35) (fr_get fo_41_1 3 rfl) bp_20 ?_
    refine xv_ks1 (pc := 37) (fr_get fo_41_1 4 rfl) cc_41_26 (as := [.inl (I 12 q0 1), .inl (1 : Int32), .inl (20 : Int32)]) (rs := []) rfl rfl rfl rfl ?_
    refine sm_112 ?_
    refine ⟨_, rfl, ?_⟩
    exact ex_zreturn (pc := 40) (fr_get fo_41_1 5 rfl) rt_41 rfl rfl ⟨xv_b01, ma_end_mk h⟩
  · replace h := h.2 c
    refine ex_aload_n (pc := 10) (fr_get fo_41_0 6 rfl) rfl rfl ?_
    refine ex_gr (pc := 11) (fr_get fo_41_0 7 rfl) ow_41 fr_4_15_12 (q := (13, q0)) rfl ?_
    refine ex_iload_n (pc := 14) (fr_get fo_41_0 8 rfl) rfl ?_
    refine xv_iald (pc := 15) (fr_get fo_41_0 9 rfl) gk_13 (n := 40) (gn_13 ..) rfl rfl h.1 ?_
    replace h := h.2
    refine xv_ks1 (pc := 16) (fr_get fo_41_0 10 rfl) cc_41_22 (as := [.inl (I 13 q0 v1.toNatClampNeg)]) (rs := []) rfl rfl rfl rfl ?_
    refine sm_113 ?_
    refine ⟨_, rfl, ?_⟩
    refine xv_pne (pc := 19) (fr_get fo_41_0 11 rfl) (t := 24) rfl (fun c => ?_) (fun c => ?_)
    · replace h := h.1 c
      refine xv_iinc (pc := 24) (fr_get fo_41_0 14 rfl) rfl ic_1 (L' := [some (.inr (.inr (12, q0))), some (.inl (v1 + (1 : Int32)))]) rfl ?_
      refine ex_goto (pc := 27) (fr_get fo_41_0 15 rfl) (t := 2) rfl ?_
      exact h
    · replace h := h.2 c
      refine ex_iconst (pc := 22) (fr_get fo_41_0 12 rfl) ic_0 ?_
      exact ex_zreturn (pc := 23) (fr_get fo_41_0 13 rfl) rt_41 rfl rfl ⟨Or.inl rfl, ma_end_mk h⟩

theorem e_43 {d : Nat} {I : ma_I} {o : Nat} {Q : ma_Q} {a1 : Int32}
  (h :
    ((160 : Int32) ≤ I 8 0 0 →
      Q none I o) ∧
    (I 8 0 0 < (160 : Int32) →
      ma_in (I 8 0 0) 160 ∧
      Q none (ma_up (ma_up I 31 0 ((I 8 0 0).toNatClampNeg) a1) 8 0 0 ((I 8 0 0) + (1 : Int32))) o)) :
  Exm (d) 43 [.inr (.inr (8, 0)), .inl a1] I o Q := by
  show Ex (d) 43 (0, [some (.inr (.inr (8, 0))), some (.inl a1)], [], ma_mem I o, 0, 0) (ma_end Q)
  refine ex_aload_n (pc := 0) (fr_get fo_43_0 0 rfl) rfl rfl ?_
  refine xv_gi (pc := 1) (fr_get fo_43_0 1 rfl) ow_43 fg_5_15_8 rfl ?_
  refine ex_sipush (pc := 4) (fr_get fo_43_0 2 rfl) sp_160 ?_
  refine xv_cge (pc := 7) (fr_get fo_43_0 3 rfl) (t := 30) rfl (fun c => ?_) (fun c => ?_)
  · replace h := h.1 c
    exact ex_return (pc := 30) (fr_get fo_43_1 0 rfl) rt_43 rfl rfl (ma_end_mk h)
  · replace h := h.2 c
    refine ex_aload_n (pc := 10) (fr_get fo_43_0 4 rfl) rfl rfl ?_
    refine ex_gr (pc := 11) (fr_get fo_43_0 5 rfl) ow_43 fr_5_9_8 (q := (31, 0)) rfl ?_
    refine ex_aload_n (pc := 14) (fr_get fo_43_0 6 rfl) rfl rfl ?_
    refine xv_gi (pc := 15) (fr_get fo_43_0 7 rfl) ow_43 fg_5_15_8 rfl ?_
    refine ex_iload_n (pc := 18) (fr_get fo_43_0 8 rfl) rfl ?_
    refine xv_iast (pc := 19) (fr_get fo_43_0 9 rfl) gs_31 gl_31 rfl h.1 ?_
    replace h := h.2
    refine ex_aload_n (pc := 20) (fr_get fo_43_0 10 rfl) rfl rfl ?_
    refine ex_dupr (pc := 21) (fr_get fo_43_0 11 rfl) ?_
    refine xv_gi (pc := 22) (fr_get fo_43_0 12 rfl) ow_43 fg_5_15_8 (xv_ug rfl) ?_
    refine ex_iconst (pc := 25) (fr_get fo_43_0 13 rfl) ic_1 ?_
    refine ex_iadd (pc := 26) (fr_get fo_43_0 14 rfl) ?_
    refine ex_pi (pc := 27) (fr_get fo_43_0 15 rfl) ow_43 fp_5_15_8 ?_
    exact ex_return (pc := 30) (fr_get fo_43_1 0 rfl) rt_43 rfl rfl (ma_end_mk h)

theorem e_44 {d : Nat} {I : ma_I} {o : Nat} {Q : ma_Q} 
  (h :
    Exm (d) 45 [.inr (.inr (8, 0))] (ma_up I 8 0 4 (0 : Int32)) o (fun r J1 p2 => r = none ∧
      Q none J1 p2)) :
  Exm (d + 1) 44 [.inr (.inr (8, 0))] I o Q := by
  show Ex (d + 1) 44 (0, [some (.inr (.inr (8, 0)))], [], ma_mem I o, 0, 0) (ma_end Q)
  refine ex_aload_n (pc := 0) (fr_get fo_44_0 0 rfl) rfl rfl ?_
  refine ex_iconst (pc := 1) (fr_get fo_44_0 1 rfl) ic_0 ?_
  refine ex_pi (pc := 2) (fr_get fo_44_0 2 rfl) ow_44 fp_5_19_8 ?_
  refine ex_aload_n (pc := 5) (fr_get fo_44_0 3 rfl) rfl rfl ?_
  refine xv_kv0 (pc := 6) (fr_get fo_44_0 4 rfl) cc_44_22 (as := [.inr (.inr (8, 0))]) (rs := []) rfl rfl rfl rfl rfl ?_
  refine h.mono (fun r J1 p2 h => ⟨h.1, ?_⟩)
  replace h := h.2
  exact ex_return (pc := 9) (fr_get fo_44_0 5 rfl) rt_44 rfl rfl (ma_end_mk h)

theorem e_45 {d : Nat} {I : ma_I} {o : Nat} {Q : ma_Q} 
  (h :
    Ex (d + 1) 45 (0, [some (.inr (.inr (8, 0)))], [], ma_mem I o, 0, 0) (ma_end Q)) :
  Exm (d + 1) 45 [.inr (.inr (8, 0))] I o Q := by
  show Ex (d + 1) 45 (0, [some (.inr (.inr (8, 0)))], [], ma_mem I o, 0, 0) (ma_end Q)
  exact h

theorem b_45_0 {d : Nat} {I : ma_I} {o : Nat} {Q : ma_Q} 
  (h :
    (I 8 0 0 ≤ I 8 0 4 →
      Ex (d + 1) 45 (52, [some (.inr (.inr (8, 0)))], [], ma_mem I o, 0, 0) (ma_end Q)) ∧
    (I 8 0 4 < I 8 0 0 →
      ma_in (I 8 0 4) 160 ∧
      (I 31 0 ((I 8 0 4).toNatClampNeg) = (32 : Int32) →
        Ex (d + 1) 45 (0, [some (.inr (.inr (8, 0)))], [], ma_mem (ma_up I 8 0 4 ((I 8 0 4) + (1 : Int32))) o, 0, 0) (ma_end Q)) ∧
      (I 31 0 ((I 8 0 4).toNatClampNeg) ≠ (32 : Int32) →
        ma_in (I 8 0 4) 160 ∧
        (I 31 0 ((I 8 0 4).toNatClampNeg) ≠ (10 : Int32) →
          Ex (d + 1) 45 (52, [some (.inr (.inr (8, 0)))], [], ma_mem I o, 0, 0) (ma_end Q)) ∧
        (I 31 0 ((I 8 0 4).toNatClampNeg) = (10 : Int32) →
          Ex (d + 1) 45 (0, [some (.inr (.inr (8, 0)))], [], ma_mem (ma_up I 8 0 4 ((I 8 0 4) + (1 : Int32))) o, 0, 0) (ma_end Q))))) :
  Ex (d + 1) 45 (0, [some (.inr (.inr (8, 0)))], [], ma_mem I o, 0, 0) (ma_end Q) := by
  refine ex_aload_n (pc := 0) (fr_get fo_45_0 0 rfl) rfl rfl ?_
  refine xv_gi (pc := 1) (fr_get fo_45_0 1 rfl) ow_45 fg_5_19_8 rfl ?_
  refine ex_aload_n (pc := 4) (fr_get fo_45_0 2 rfl) rfl rfl ?_
  refine xv_gi (pc := 5) (fr_get fo_45_0 3 rfl) ow_45 fg_5_15_8 rfl ?_
  refine xv_cge (pc := 8) (fr_get fo_45_0 4 rfl) (t := 52) rfl (fun c => ?_) (fun c => ?_)
  · replace h := h.1 c
    exact h
  · replace h := h.2 c
    refine ex_aload_n (pc := 11) (fr_get fo_45_0 5 rfl) rfl rfl ?_
    refine ex_gr (pc := 12) (fr_get fo_45_0 6 rfl) ow_45 fr_5_9_8 (q := (31, 0)) rfl ?_
    refine ex_aload_n (pc := 15) (fr_get fo_45_0 7 rfl) rfl rfl ?_
    refine xv_gi (pc := 16) (fr_get fo_45_0 8 rfl) ow_45 fg_5_19_8 rfl ?_
    refine xv_iald (pc := 19) (fr_get fo_45_0 9 rfl) gk_31 (n := 160) (gn_31 ..) rfl rfl h.1 ?_
    replace h := h.2
    refine ex_bipush (pc := 20) (fr_get fo_45_0 10 rfl) bp_32 ?_
    refine xv_ceq (pc := 22) (fr_get fo_45_0 11 rfl) (t := 39) rfl (fun c => ?_) (fun c => ?_)
    · replace h := h.1 c
      refine ex_aload_n (pc := 39) (fr_get fo_45_1 3 rfl) rfl rfl ?_
      refine ex_dupr (pc := 40) (fr_get fo_45_1 4 rfl) ?_
      refine xv_gi (pc := 41) (fr_get fo_45_1 5 rfl) ow_45 fg_5_19_8 rfl ?_
      refine ex_iconst (pc := 44) (fr_get fo_45_1 6 rfl) ic_1 ?_
      refine ex_iadd (pc := 45) (fr_get fo_45_1 7 rfl) ?_
      refine ex_pi (pc := 46) (fr_get fo_45_1 8 rfl) ow_45 fp_5_19_8 ?_
      refine ex_goto (pc := 49) (fr_get fo_45_1 9 rfl) (t := 0) rfl ?_
      exact h
    · replace h := h.2 c
      refine ex_aload_n (pc := 25) (fr_get fo_45_0 12 rfl) rfl rfl ?_
      refine ex_gr (pc := 26) (fr_get fo_45_0 13 rfl) ow_45 fr_5_9_8 (q := (31, 0)) rfl ?_
      refine ex_aload_n (pc := 29) (fr_get fo_45_0 14 rfl) rfl rfl ?_
      refine xv_gi (pc := 30) (fr_get fo_45_0 15 rfl) ow_45 fg_5_19_8 rfl ?_
      refine xv_iald (pc := 33) (fr_get fo_45_1 0 rfl) gk_31 (n := 160) (gn_31 ..) rfl rfl h.1 ?_
      replace h := h.2
      refine ex_bipush (pc := 34) (fr_get fo_45_1 1 rfl) bp_10 ?_
      refine xv_cne (pc := 36) (fr_get fo_45_1 2 rfl) (t := 52) rfl (fun c => ?_) (fun c => ?_)
      · replace h := h.1 c
        exact h
      · replace h := h.2 c
        refine ex_aload_n (pc := 39) (fr_get fo_45_1 3 rfl) rfl rfl ?_
        refine ex_dupr (pc := 40) (fr_get fo_45_1 4 rfl) ?_
        refine xv_gi (pc := 41) (fr_get fo_45_1 5 rfl) ow_45 fg_5_19_8 rfl ?_
        refine ex_iconst (pc := 44) (fr_get fo_45_1 6 rfl) ic_1 ?_
        refine ex_iadd (pc := 45) (fr_get fo_45_1 7 rfl) ?_
        refine ex_pi (pc := 46) (fr_get fo_45_1 8 rfl) ow_45 fp_5_19_8 ?_
        refine ex_goto (pc := 49) (fr_get fo_45_1 9 rfl) (t := 0) rfl ?_
        exact h

theorem b_45_52 {d : Nat} {I : ma_I} {o : Nat} {Q : ma_Q} 
  (h :
    (I 8 0 4 < I 8 0 0 →
      ma_in (I 8 0 4) 160 ∧
      (¬((97 : Int32) ≤ (I 31 0 ((I 8 0 4).toNatClampNeg)) ∧ (I 31 0 ((I 8 0 4).toNatClampNeg)) ≤ (122 : Int32)) →
        ma_in (I 8 0 4) 160 ∧
        (¬((48 : Int32) ≤ (I 31 0 ((I 8 0 4).toNatClampNeg)) ∧ (I 31 0 ((I 8 0 4).toNatClampNeg)) ≤ (57 : Int32)) →
          ma_in (I 8 0 4) 160 ∧
          (¬(xv_sg (I 31 0 ((I 8 0 4).toNatClampNeg))) →
            Q none (ma_up (ma_up (ma_up I 8 0 2 (I 8 0 4)) 8 0 1 (3 : Int32)) 8 0 4 ((I 8 0 4) + (1 : Int32))) o) ∧
          (xv_sg (I 31 0 ((I 8 0 4).toNatClampNeg)) →
            ma_in (I 8 0 4) 160 ∧
            Q none (ma_up (ma_up (ma_up I 8 0 2 (I 8 0 4)) 8 0 1 (I 31 0 ((I 8 0 4).toNatClampNeg))) 8 0 4 ((I 8 0 4) + (1 : Int32))) o)) ∧
        ((48 : Int32) ≤ (I 31 0 ((I 8 0 4).toNatClampNeg)) ∧ (I 31 0 ((I 8 0 4).toNatClampNeg)) ≤ (57 : Int32) →
          Exm (d) 47 [.inr (.inr (8, 0))] (ma_up I 8 0 2 (I 8 0 4)) o (fun r J1 p2 => r = none ∧
            Q none J1 p2))) ∧
      ((97 : Int32) ≤ (I 31 0 ((I 8 0 4).toNatClampNeg)) ∧ (I 31 0 ((I 8 0 4).toNatClampNeg)) ≤ (122 : Int32) →
        Exm (d) 46 [.inr (.inr (8, 0))] (ma_up I 8 0 2 (I 8 0 4)) o (fun r J3 p4 => r = none ∧
          Q none J3 p4))) ∧
    (I 8 0 0 ≤ I 8 0 4 →
      Q none (ma_up (ma_up I 8 0 2 (I 8 0 4)) 8 0 1 (0 : Int32)) o)) :
  Ex (d + 1) 45 (52, [some (.inr (.inr (8, 0)))], [], ma_mem I o, 0, 0) (ma_end Q) := by
  refine ex_aload_n (pc := 52) (fr_get fo_45_1 10 rfl) rfl rfl ?_
  refine ex_aload_n (pc := 53) (fr_get fo_45_1 11 rfl) rfl rfl ?_
  refine xv_gi (pc := 54) (fr_get fo_45_1 12 rfl) ow_45 fg_5_19_8 rfl ?_
  refine ex_pi (pc := 57) (fr_get fo_45_1 13 rfl) ow_45 fp_5_25_8 ?_
  refine ex_aload_n (pc := 60) (fr_get fo_45_1 14 rfl) rfl rfl ?_
  refine xv_gi (pc := 61) (fr_get fo_45_1 15 rfl) ow_45 fg_5_19_8 (xv_uj rfl) ?_
  refine ex_aload_n (pc := 64) (fr_get fo_45_2 0 rfl) rfl rfl ?_
  refine xv_gi (pc := 65) (fr_get fo_45_2 1 rfl) ow_45 fg_5_15_8 (xv_uj rfl) ?_
  refine xv_clt (pc := 68) (fr_get fo_45_2 2 rfl) (t := 79) rfl (fun c => ?_) (fun c => ?_)
  · replace h := h.1 c
    refine ex_aload_n (pc := 79) (fr_get fo_45_2 7 rfl) rfl rfl ?_
    refine ex_gr (pc := 80) (fr_get fo_45_2 8 rfl) ow_45 fr_5_9_8 (q := (31, 0)) rfl ?_
    refine ex_aload_n (pc := 83) (fr_get fo_45_2 9 rfl) rfl rfl ?_
    refine xv_gi (pc := 84) (fr_get fo_45_2 10 rfl) ow_45 fg_5_19_8 (xv_uj rfl) ?_
    refine xv_iald (pc := 87) (fr_get fo_45_2 11 rfl) gk_31 (n := 160) (gn_31 ..) rfl (xv_ug rfl) h.1 ?_
    replace h := h.2
    refine ex_bipush (pc := 88) (fr_get fo_45_2 12 rfl) bp_97 ?_
    refine ex_bipush (pc := 90) (fr_get fo_45_2 13 rfl) bp_122 ?_
    refine xv_ks1 (pc := 92) (fr_get fo_45_2 14 rfl) cc_45_31 (as := [.inl (I 31 0 ((I 8 0 4).toNatClampNeg)), .inl (97 : Int32), .inl (122 : Int32)]) (rs := []) rfl rfl rfl rfl ?_
    refine sm_112 ?_
    refine ⟨_, rfl, ?_⟩
    refine xv_peq (pc := 95) (fr_get fo_45_2 15 rfl) (t := 105) rfl (fun c => ?_) (fun c => ?_)
    · replace h := h.1 c
      refine ex_aload_n (pc := 105) (fr_get fo_45_3 3 rfl) rfl rfl ?_
      refine ex_gr (pc := 106) (fr_get fo_45_3 4 rfl) ow_45 fr_5_9_8 (q := (31, 0)) rfl ?_
      refine ex_aload_n (pc := 109) (fr_get fo_45_3 5 rfl) rfl rfl ?_
      refine xv_gi (pc := 110) (fr_get fo_45_3 6 rfl) ow_45 fg_5_19_8 (xv_uj rfl) ?_
      refine xv_iald (pc := 113) (fr_get fo_45_3 7 rfl) gk_31 (n := 160) (gn_31 ..) rfl (xv_ug rfl) h.1 ?_
      replace h := h.2
      refine ex_bipush (pc := 114) (fr_get fo_45_3 8 rfl) bp_48 ?_
      refine ex_bipush (pc := 116) (fr_get fo_45_3 9 rfl) bp_57 ?_
      refine xv_ks1 (pc := 118) (fr_get fo_45_3 10 rfl) cc_45_31 (as := [.inl (I 31 0 ((I 8 0 4).toNatClampNeg)), .inl (48 : Int32), .inl (57 : Int32)]) (rs := []) rfl rfl rfl rfl ?_
      refine sm_112 ?_
      refine ⟨_, rfl, ?_⟩
      refine xv_peq (pc := 121) (fr_get fo_45_3 11 rfl) (t := 131) rfl (fun c => ?_) (fun c => ?_)
      · replace h := h.1 c
        refine ex_aload_n (pc := 131) (fr_get fo_45_3 15 rfl) rfl rfl ?_
        refine ex_aload_n (pc := 132) (fr_get fo_45_4 0 rfl) rfl rfl ?_
        refine ex_gr (pc := 133) (fr_get fo_45_4 1 rfl) ow_45 fr_5_9_8 (q := (31, 0)) rfl ?_
        refine ex_aload_n (pc := 136) (fr_get fo_45_4 2 rfl) rfl rfl ?_
        refine xv_gi (pc := 137) (fr_get fo_45_4 3 rfl) ow_45 fg_5_19_8 (xv_uj rfl) ?_
        refine xv_iald (pc := 140) (fr_get fo_45_4 4 rfl) gk_31 (n := 160) (gn_31 ..) rfl (xv_ug rfl) h.1 ?_
        replace h := h.2
        refine xv_ks1 (pc := 141) (fr_get fo_45_4 5 rfl) cc_45_41 (as := [.inl (I 31 0 ((I 8 0 4).toNatClampNeg))]) (rs := [.inr (.inr (8, 0))]) rfl rfl rfl rfl ?_
        refine sm_49 ?_
        refine ⟨_, rfl, ?_⟩
        refine xv_peq (pc := 144) (fr_get fo_45_4 6 rfl) (t := 159) rfl (fun c => ?_) (fun c => ?_)
        · replace h := h.1 c
          refine ex_iconst (pc := 159) (fr_get fo_45_4 13 rfl) ic_3 ?_
          refine ex_pi (pc := 160) (fr_get fo_45_4 14 rfl) ow_45 fp_5_28_8 ?_
          refine ex_aload_n (pc := 163) (fr_get fo_45_4 15 rfl) rfl rfl ?_
          refine ex_dupr (pc := 164) (fr_get fo_45_5 0 rfl) ?_
          refine xv_gi (pc := 165) (fr_get fo_45_5 1 rfl) ow_45 fg_5_19_8 (Eq.trans (xv_uj rfl) (xv_uj rfl)) ?_
          refine ex_iconst (pc := 168) (fr_get fo_45_5 2 rfl) ic_1 ?_
          refine ex_iadd (pc := 169) (fr_get fo_45_5 3 rfl) ?_
          refine ex_pi (pc := 170) (fr_get fo_45_5 4 rfl) ow_45 fp_5_19_8 ?_
          exact ex_return (pc := 173) (fr_get fo_45_5 5 rfl) rt_45 rfl rfl (ma_end_mk h)
        · replace h := h.2 c
          refine ex_aload_n (pc := 147) (fr_get fo_45_4 7 rfl) rfl rfl ?_
          refine ex_gr (pc := 148) (fr_get fo_45_4 8 rfl) ow_45 fr_5_9_8 (q := (31, 0)) rfl ?_
          refine ex_aload_n (pc := 151) (fr_get fo_45_4 9 rfl) rfl rfl ?_
          refine xv_gi (pc := 152) (fr_get fo_45_4 10 rfl) ow_45 fg_5_19_8 (xv_uj rfl) ?_
          refine xv_iald (pc := 155) (fr_get fo_45_4 11 rfl) gk_31 (n := 160) (gn_31 ..) rfl (xv_ug rfl) h.1 ?_
          replace h := h.2
          refine ex_goto (pc := 156) (fr_get fo_45_4 12 rfl) (t := 160) rfl ?_
          refine ex_pi (pc := 160) (fr_get fo_45_4 14 rfl) ow_45 fp_5_28_8 ?_
          refine ex_aload_n (pc := 163) (fr_get fo_45_4 15 rfl) rfl rfl ?_
          refine ex_dupr (pc := 164) (fr_get fo_45_5 0 rfl) ?_
          refine xv_gi (pc := 165) (fr_get fo_45_5 1 rfl) ow_45 fg_5_19_8 (Eq.trans (xv_uj rfl) (xv_uj rfl)) ?_
          refine ex_iconst (pc := 168) (fr_get fo_45_5 2 rfl) ic_1 ?_
          refine ex_iadd (pc := 169) (fr_get fo_45_5 3 rfl) ?_
          refine ex_pi (pc := 170) (fr_get fo_45_5 4 rfl) ow_45 fp_5_19_8 ?_
          exact ex_return (pc := 173) (fr_get fo_45_5 5 rfl) rt_45 rfl rfl (ma_end_mk h)
      · replace h := h.2 c
        refine ex_aload_n (pc := 124) (fr_get fo_45_3 12 rfl) rfl rfl ?_
        refine xv_kv0 (pc := 125) (fr_get fo_45_3 13 rfl) cc_45_38 (as := [.inr (.inr (8, 0))]) (rs := []) rfl rfl rfl rfl rfl ?_
        refine h.mono (fun r J1 p2 h => ⟨h.1, ?_⟩)
        replace h := h.2
        refine ex_goto (pc := 128) (fr_get fo_45_3 14 rfl) (t := 173) rfl ?_
        exact ex_return (pc := 173) (fr_get fo_45_5 5 rfl) rt_45 rfl rfl (ma_end_mk h)
    · replace h := h.2 c
      refine ex_aload_n (pc := 98) (fr_get fo_45_3 0 rfl) rfl rfl ?_
      refine xv_kv0 (pc := 99) (fr_get fo_45_3 1 rfl) cc_45_35 (as := [.inr (.inr (8, 0))]) (rs := []) rfl rfl rfl rfl rfl ?_
      refine h.mono (fun r J3 p4 h => ⟨h.1, ?_⟩)
      replace h := h.2
      refine ex_goto (pc := 102) (fr_get fo_45_3 2 rfl) (t := 173) rfl ?_
      exact ex_return (pc := 173) (fr_get fo_45_5 5 rfl) rt_45 rfl rfl (ma_end_mk h)
  · replace h := h.2 c
    refine ex_aload_n (pc := 71) (fr_get fo_45_2 3 rfl) rfl rfl ?_
    refine ex_iconst (pc := 72) (fr_get fo_45_2 4 rfl) ic_0 ?_
    refine ex_pi (pc := 73) (fr_get fo_45_2 5 rfl) ow_45 fp_5_28_8 ?_
    refine ex_goto (pc := 76) (fr_get fo_45_2 6 rfl) (t := 173) rfl ?_
    exact ex_return (pc := 173) (fr_get fo_45_5 5 rfl) rt_45 rfl rfl (ma_end_mk h)

theorem e_46 {d : Nat} {I : ma_I} {o : Nat} {Q : ma_Q} 
  (h :
    Ex (d + 1) 46 (0, [some (.inr (.inr (8, 0))), none], [], ma_mem I o, 0, 0) (ma_end Q)) :
  Exm (d + 1) 46 [.inr (.inr (8, 0))] I o Q := by
  show Ex (d + 1) 46 (0, [some (.inr (.inr (8, 0))), none], [], ma_mem I o, 0, 0) (ma_end Q)
  exact h

theorem b_46_0 {d : Nat} {I : ma_I} {o : Nat} {Q : ma_Q} 
  (h :
    (I 8 0 0 ≤ I 8 0 4 →
      Ex (d + 1) 46 (50, [some (.inr (.inr (8, 0))), some (.inl (0 : Int32))], [], ma_mem (ma_up I 8 0 1 (3 : Int32)) o, 0, 0) (ma_end Q)) ∧
    (I 8 0 4 < I 8 0 0 →
      ma_in (I 8 0 4) 160 ∧
      (¬((97 : Int32) ≤ (I 31 0 ((I 8 0 4).toNatClampNeg)) ∧ (I 31 0 ((I 8 0 4).toNatClampNeg)) ≤ (122 : Int32)) →
        Ex (d + 1) 46 (50, [some (.inr (.inr (8, 0))), some (.inl (0 : Int32))], [], ma_mem (ma_up I 8 0 1 (3 : Int32)) o, 0, 0) (ma_end Q)) ∧
      ((97 : Int32) ≤ (I 31 0 ((I 8 0 4).toNatClampNeg)) ∧ (I 31 0 ((I 8 0 4).toNatClampNeg)) ≤ (122 : Int32) →
        Ex (d + 1) 46 (0, [some (.inr (.inr (8, 0))), none], [], ma_mem (ma_up I 8 0 4 ((I 8 0 4) + (1 : Int32))) o, 0, 0) (ma_end Q)))) :
  Ex (d + 1) 46 (0, [some (.inr (.inr (8, 0))), none], [], ma_mem I o, 0, 0) (ma_end Q) := by
  refine ex_aload_n (pc := 0) (fr_get fo_46_0 0 rfl) rfl rfl ?_
  refine xv_gi (pc := 1) (fr_get fo_46_0 1 rfl) ow_46 fg_5_19_8 rfl ?_
  refine ex_aload_n (pc := 4) (fr_get fo_46_0 2 rfl) rfl rfl ?_
  refine xv_gi (pc := 5) (fr_get fo_46_0 3 rfl) ow_46 fg_5_15_8 rfl ?_
  refine xv_cge (pc := 8) (fr_get fo_46_0 4 rfl) (t := 43) rfl (fun c => ?_) (fun c => ?_)
  · replace h := h.1 c
    refine ex_aload_n (pc := 43) (fr_get fo_46_1 5 rfl) rfl rfl ?_
    refine ex_iconst (pc := 44) (fr_get fo_46_1 6 rfl) ic_3 ?_
    refine ex_pi (pc := 45) (fr_get fo_46_1 7 rfl) ow_46 fp_5_28_8 ?_
    refine ex_iconst (pc := 48) (fr_get fo_46_1 8 rfl) ic_0 ?_
    refine ex_istore_n (pc := 49) (fr_get fo_46_1 9 rfl) rfl (L' := [some (.inr (.inr (8, 0))), some (.inl (0 : Int32))]) rfl ?_
    exact h
  · replace h := h.2 c
    refine ex_aload_n (pc := 11) (fr_get fo_46_0 5 rfl) rfl rfl ?_
    refine ex_gr (pc := 12) (fr_get fo_46_0 6 rfl) ow_46 fr_5_9_8 (q := (31, 0)) rfl ?_
    refine ex_aload_n (pc := 15) (fr_get fo_46_0 7 rfl) rfl rfl ?_
    refine xv_gi (pc := 16) (fr_get fo_46_0 8 rfl) ow_46 fg_5_19_8 rfl ?_
    refine xv_iald (pc := 19) (fr_get fo_46_0 9 rfl) gk_31 (n := 160) (gn_31 ..) rfl rfl h.1 ?_
    replace h := h.2
    refine ex_bipush (pc := 20) (fr_get fo_46_0 10 rfl) bp_97 ?_
    refine ex_bipush (pc := 22) (fr_get fo_46_0 11 rfl) bp_122 ?_
    refine xv_ks1 (pc := 24) (fr_get fo_46_0 12 rfl) cc_46_31 (as := [.inl (I 31 0 ((I 8 0 4).toNatClampNeg)), .inl (97 : Int32), .inl (122 : Int32)]) (rs := []) rfl rfl rfl rfl ?_
    refine sm_112 ?_
    refine ⟨_, rfl, ?_⟩
    refine xv_peq (pc := 27) (fr_get fo_46_0 13 rfl) (t := 43) rfl (fun c => ?_) (fun c => ?_)
    · replace h := h.1 c
      refine ex_aload_n (pc := 43) (fr_get fo_46_1 5 rfl) rfl rfl ?_
      refine ex_iconst (pc := 44) (fr_get fo_46_1 6 rfl) ic_3 ?_
      refine ex_pi (pc := 45) (fr_get fo_46_1 7 rfl) ow_46 fp_5_28_8 ?_
      refine ex_iconst (pc := 48) (fr_get fo_46_1 8 rfl) ic_0 ?_
      refine ex_istore_n (pc := 49) (fr_get fo_46_1 9 rfl) rfl (L' := [some (.inr (.inr (8, 0))), some (.inl (0 : Int32))]) rfl ?_
      exact h
    · replace h := h.2 c
      refine ex_aload_n (pc := 30) (fr_get fo_46_0 14 rfl) rfl rfl ?_
      refine ex_dupr (pc := 31) (fr_get fo_46_0 15 rfl) ?_
      refine xv_gi (pc := 32) (fr_get fo_46_1 0 rfl) ow_46 fg_5_19_8 rfl ?_
      refine ex_iconst (pc := 35) (fr_get fo_46_1 1 rfl) ic_1 ?_
      refine ex_iadd (pc := 36) (fr_get fo_46_1 2 rfl) ?_
      refine ex_pi (pc := 37) (fr_get fo_46_1 3 rfl) ow_46 fp_5_19_8 ?_
      refine ex_goto (pc := 40) (fr_get fo_46_1 4 rfl) (t := 0) rfl ?_
      exact h

theorem b_46_50 {d : Nat} {I : ma_I} {o : Nat} {Q : ma_Q} {v1 : Int32}
  (h :
    ((12 : Int32) ≤ v1 →
      Q none I o) ∧
    (v1 < (12 : Int32) →
      (I 8 0 1 ≠ (3 : Int32) →
        Q none I o) ∧
      (I 8 0 1 = (3 : Int32) →
        Exm (d) 50 [.inl v1] I o (fun r J1 p2 => ∃ x3 : Nat, r = some (.inr (.inr (2, x3))) ∧
          Exm (d) 48 [.inr (.inr (8, 0)), .inr (.inr (2, x3))] J1 p2 (fun r J4 p5 => ∃ x6 : Int32, r = some (.inl x6) ∧
            (x6 = 0 →
              Ex (d + 1) 46 (50, [some (.inr (.inr (8, 0))), some (.inl (v1 + (1 : Int32)))], [], ma_mem J4 p5, 0, 0) (ma_end Q)) ∧
            (x6 ≠ 0 →
              ((6 : Int32) ≤ v1 →
                Ex (d + 1) 46 (50, [some (.inr (.inr (8, 0))), some (.inl (v1 + (1 : Int32)))], [], ma_mem (ma_up (ma_up J4 8 0 1 (((4 : Int32) + v1) - (6 : Int32))) 8 0 3 v1) p5, 0, 0) (ma_end Q)) ∧
              (v1 < (6 : Int32) →
                Ex (d + 1) 46 (50, [some (.inr (.inr (8, 0))), some (.inl (v1 + (1 : Int32)))], [], ma_mem (ma_up (ma_up J4 8 0 1 (2 : Int32)) 8 0 3 v1) p5, 0, 0) (ma_end Q)))))))) :
  Ex (d + 1) 46 (50, [some (.inr (.inr (8, 0))), some (.inl v1)], [], ma_mem I o, 0, 0) (ma_end Q) := by
  refine ex_iload_n (pc := 50) (fr_get fo_46_1 10 rfl) rfl ?_
  refine ex_bipush (pc := 51) (fr_get fo_46_1 11 rfl) bp_12 ?_
  refine xv_cge (pc := 53) (fr_get fo_46_1 12 rfl) (t := 106) rfl (fun c => ?_) (fun c => ?_)
  · replace h := h.1 c
    exact ex_return (pc := 106) (fr_get fo_46_3 7 rfl) rt_46 rfl rfl (ma_end_mk h)
  · replace h := h.2 c
    refine ex_aload_n (pc := 56) (fr_get fo_46_1 13 rfl) rfl rfl ?_
    refine xv_gi (pc := 57) (fr_get fo_46_1 14 rfl) ow_46 fg_5_28_8 rfl ?_
    refine ex_iconst (pc := 60) (fr_get fo_46_1 15 rfl) ic_3 ?_
    refine xv_cne (pc := 61) (fr_get fo_46_2 0 rfl) (t := 106) rfl (fun c => ?_) (fun c => ?_)
    · replace h := h.1 c
      exact ex_return (pc := 106) (fr_get fo_46_3 7 rfl) rt_46 rfl rfl (ma_end_mk h)
    · replace h := h.2 c
      refine ex_aload_n (pc := 64) (fr_get fo_46_2 1 rfl) rfl rfl ?_
      refine ex_iload_n (pc := 65) (fr_get fo_46_2 2 rfl) rfl ?_
      refine xv_ks3 (pc := 66) (fr_get fo_46_2 3 rfl) cc_46_45 (as := [.inl v1]) (rs := [.inr (.inr (8, 0))]) rfl rfl rfl rfl ?_
      refine h.mono (fun r J1 p2 h => ?_)
      obtain ⟨x3, hr, h⟩ := h
      refine ⟨(2, x3), hr, ?_⟩
      refine xv_kv1 (pc := 69) (fr_get fo_46_2 4 rfl) cc_46_49 (as := [.inr (.inr (8, 0)), .inr (.inr (2, x3))]) (rs := []) rfl rfl rfl rfl rfl ?_
      refine h.mono (fun r J4 p5 h => ?_)
      obtain ⟨x6, hr, h⟩ := h
      refine ⟨x6, hr, ?_⟩
      refine xv_beq (pc := 72) (fr_get fo_46_2 5 rfl) (t := 100) rfl (fun c => ?_) (fun c => ?_)
      · replace h := h.1 c
        refine xv_iinc (pc := 100) (fr_get fo_46_3 5 rfl) rfl ic_1 (L' := [some (.inr (.inr (8, 0))), some (.inl (v1 + (1 : Int32)))]) rfl ?_
        refine ex_goto (pc := 103) (fr_get fo_46_3 6 rfl) (t := 50) rfl ?_
        exact h
      · replace h := h.2 c
        refine ex_aload_n (pc := 75) (fr_get fo_46_2 6 rfl) rfl rfl ?_
        refine ex_iload_n (pc := 76) (fr_get fo_46_2 7 rfl) rfl ?_
        refine ex_bipush (pc := 77) (fr_get fo_46_2 8 rfl) bp_6 ?_
        refine xv_cge (pc := 79) (fr_get fo_46_2 9 rfl) (t := 86) rfl (fun c => ?_) (fun c => ?_)
        · replace h := h.1 c
          refine ex_iconst (pc := 86) (fr_get fo_46_2 12 rfl) ic_4 ?_
          refine ex_iload_n (pc := 87) (fr_get fo_46_2 13 rfl) rfl ?_
          refine ex_iadd (pc := 88) (fr_get fo_46_2 14 rfl) ?_
          refine ex_bipush (pc := 89) (fr_get fo_46_2 15 rfl) bp_6 ?_
          refine ex_isub (pc := 91) (fr_get fo_46_3 0 rfl) ?_
          refine ex_pi (pc := 92) (fr_get fo_46_3 1 rfl) ow_46 fp_5_28_8 ?_
          refine ex_aload_n (pc := 95) (fr_get fo_46_3 2 rfl) rfl rfl ?_
          refine ex_iload_n (pc := 96) (fr_get fo_46_3 3 rfl) rfl ?_
          refine ex_pi (pc := 97) (fr_get fo_46_3 4 rfl) ow_46 fp_5_53_8 ?_
          refine xv_iinc (pc := 100) (fr_get fo_46_3 5 rfl) rfl ic_1 (L' := [some (.inr (.inr (8, 0))), some (.inl (v1 + (1 : Int32)))]) rfl ?_
          refine ex_goto (pc := 103) (fr_get fo_46_3 6 rfl) (t := 50) rfl ?_
          exact h
        · replace h := h.2 c
          refine ex_iconst (pc := 82) (fr_get fo_46_2 10 rfl) ic_2 ?_
          refine ex_goto (pc := 83) (fr_get fo_46_2 11 rfl) (t := 92) rfl ?_
          refine ex_pi (pc := 92) (fr_get fo_46_3 1 rfl) ow_46 fp_5_28_8 ?_
          refine ex_aload_n (pc := 95) (fr_get fo_46_3 2 rfl) rfl rfl ?_
          refine ex_iload_n (pc := 96) (fr_get fo_46_3 3 rfl) rfl ?_
          refine ex_pi (pc := 97) (fr_get fo_46_3 4 rfl) ow_46 fp_5_53_8 ?_
          refine xv_iinc (pc := 100) (fr_get fo_46_3 5 rfl) rfl ic_1 (L' := [some (.inr (.inr (8, 0))), some (.inl (v1 + (1 : Int32)))]) rfl ?_
          refine ex_goto (pc := 103) (fr_get fo_46_3 6 rfl) (t := 50) rfl ?_
          exact h

theorem e_47 {d : Nat} {I : ma_I} {o : Nat} {Q : ma_Q} 
  (h :
    Ex (d + 1) 47 (5, [some (.inr (.inr (8, 0)))], [], ma_mem (ma_up I 8 0 3 (0 : Int32)) o, 0, 0) (ma_end Q)) :
  Exm (d + 1) 47 [.inr (.inr (8, 0))] I o Q := by
  show Ex (d + 1) 47 (0, [some (.inr (.inr (8, 0)))], [], ma_mem I o, 0, 0) (ma_end Q)
  refine ex_aload_n (pc := 0) (fr_get fo_47_0 0 rfl) rfl rfl ?_
  refine ex_iconst (pc := 1) (fr_get fo_47_0 1 rfl) ic_0 ?_
  refine ex_pi (pc := 2) (fr_get fo_47_0 2 rfl) ow_47 fp_5_53_8 ?_
  exact h

theorem b_47_5 {d : Nat} {I : ma_I} {o : Nat} {Q : ma_Q} 
  (h :
    (I 8 0 0 ≤ I 8 0 4 →
      ((I 8 0 4) - (I 8 0 2) ≤ (4 : Int32) →
        Q none (ma_up I 8 0 1 (1 : Int32)) o) ∧
      ((4 : Int32) < (I 8 0 4) - (I 8 0 2) →
        Q none (ma_up I 8 0 1 (3 : Int32)) o)) ∧
    (I 8 0 4 < I 8 0 0 →
      ma_in (I 8 0 4) 160 ∧
      (¬((48 : Int32) ≤ (I 31 0 ((I 8 0 4).toNatClampNeg)) ∧ (I 31 0 ((I 8 0 4).toNatClampNeg)) ≤ (57 : Int32)) →
        ((I 8 0 4) - (I 8 0 2) ≤ (4 : Int32) →
          Q none (ma_up I 8 0 1 (1 : Int32)) o) ∧
        ((4 : Int32) < (I 8 0 4) - (I 8 0 2) →
          Q none (ma_up I 8 0 1 (3 : Int32)) o)) ∧
      ((48 : Int32) ≤ (I 31 0 ((I 8 0 4).toNatClampNeg)) ∧ (I 31 0 ((I 8 0 4).toNatClampNeg)) ≤ (57 : Int32) →
        ma_in (I 8 0 4) 160 ∧
        Ex (d + 1) 47 (5, [some (.inr (.inr (8, 0)))], [], ma_mem (ma_up (ma_up I 8 0 3 ((((I 8 0 3) * (10 : Int32)) + (I 31 0 ((I 8 0 4).toNatClampNeg))) - (48 : Int32))) 8 0 4 ((I 8 0 4) + (1 : Int32))) o, 0, 0) (ma_end Q)))) :
  Ex (d + 1) 47 (5, [some (.inr (.inr (8, 0)))], [], ma_mem I o, 0, 0) (ma_end Q) := by
  refine ex_aload_n (pc := 5) (fr_get fo_47_0 3 rfl) rfl rfl ?_
  refine xv_gi (pc := 6) (fr_get fo_47_0 4 rfl) ow_47 fg_5_19_8 rfl ?_
  refine ex_aload_n (pc := 9) (fr_get fo_47_0 5 rfl) rfl rfl ?_
  refine xv_gi (pc := 10) (fr_get fo_47_0 6 rfl) ow_47 fg_5_15_8 rfl ?_
  refine xv_cge (pc := 13) (fr_get fo_47_0 7 rfl) (t := 72) rfl (fun c => ?_) (fun c => ?_)
  · replace h := h.1 c
    refine ex_aload_n (pc := 72) (fr_get fo_47_2 6 rfl) rfl rfl ?_
    refine ex_aload_n (pc := 73) (fr_get fo_47_2 7 rfl) rfl rfl ?_
    refine xv_gi (pc := 74) (fr_get fo_47_2 8 rfl) ow_47 fg_5_19_8 rfl ?_
    refine ex_aload_n (pc := 77) (fr_get fo_47_2 9 rfl) rfl rfl ?_
    refine xv_gi (pc := 78) (fr_get fo_47_2 10 rfl) ow_47 fg_5_25_8 rfl ?_
    refine ex_isub (pc := 81) (fr_get fo_47_2 11 rfl) ?_
    refine ex_iconst (pc := 82) (fr_get fo_47_2 12 rfl) ic_4 ?_
    refine xv_cle (pc := 83) (fr_get fo_47_2 13 rfl) (t := 90) rfl (fun c => ?_) (fun c => ?_)
    · replace h := h.1 c
      refine ex_iconst (pc := 90) (fr_get fo_47_3 0 rfl) ic_1 ?_
      refine ex_pi (pc := 91) (fr_get fo_47_3 1 rfl) ow_47 fp_5_28_8 ?_
      exact ex_return (pc := 94) (fr_get fo_47_3 2 rfl) rt_47 rfl rfl (ma_end_mk h)
    · replace h := h.2 c
      refine ex_iconst (pc := 86) (fr_get fo_47_2 14 rfl) ic_3 ?_
      refine ex_goto (pc := 87) (fr_get fo_47_2 15 rfl) (t := 91) rfl ?_
      refine ex_pi (pc := 91) (fr_get fo_47_3 1 rfl) ow_47 fp_5_28_8 ?_
      exact ex_return (pc := 94) (fr_get fo_47_3 2 rfl) rt_47 rfl rfl (ma_end_mk h)
  · replace h := h.2 c
    refine ex_aload_n (pc := 16) (fr_get fo_47_0 8 rfl) rfl rfl ?_
    refine ex_gr (pc := 17) (fr_get fo_47_0 9 rfl) ow_47 fr_5_9_8 (q := (31, 0)) rfl ?_
    refine ex_aload_n (pc := 20) (fr_get fo_47_0 10 rfl) rfl rfl ?_
    refine xv_gi (pc := 21) (fr_get fo_47_0 11 rfl) ow_47 fg_5_19_8 rfl ?_
    refine xv_iald (pc := 24) (fr_get fo_47_0 12 rfl) gk_31 (n := 160) (gn_31 ..) rfl rfl h.1 ?_
    replace h := h.2
    refine ex_bipush (pc := 25) (fr_get fo_47_0 13 rfl) bp_48 ?_
    refine ex_bipush (pc := 27) (fr_get fo_47_0 14 rfl) bp_57 ?_
    refine xv_ks1 (pc := 29) (fr_get fo_47_0 15 rfl) cc_47_31 (as := [.inl (I 31 0 ((I 8 0 4).toNatClampNeg)), .inl (48 : Int32), .inl (57 : Int32)]) (rs := []) rfl rfl rfl rfl ?_
    refine sm_112 ?_
    refine ⟨_, rfl, ?_⟩
    refine xv_peq (pc := 32) (fr_get fo_47_1 0 rfl) (t := 72) rfl (fun c => ?_) (fun c => ?_)
    · replace h := h.1 c
      refine ex_aload_n (pc := 72) (fr_get fo_47_2 6 rfl) rfl rfl ?_
      refine ex_aload_n (pc := 73) (fr_get fo_47_2 7 rfl) rfl rfl ?_
      refine xv_gi (pc := 74) (fr_get fo_47_2 8 rfl) ow_47 fg_5_19_8 rfl ?_
      refine ex_aload_n (pc := 77) (fr_get fo_47_2 9 rfl) rfl rfl ?_
      refine xv_gi (pc := 78) (fr_get fo_47_2 10 rfl) ow_47 fg_5_25_8 rfl ?_
      refine ex_isub (pc := 81) (fr_get fo_47_2 11 rfl) ?_
      refine ex_iconst (pc := 82) (fr_get fo_47_2 12 rfl) ic_4 ?_
      refine xv_cle (pc := 83) (fr_get fo_47_2 13 rfl) (t := 90) rfl (fun c => ?_) (fun c => ?_)
      · replace h := h.1 c
        refine ex_iconst (pc := 90) (fr_get fo_47_3 0 rfl) ic_1 ?_
        refine ex_pi (pc := 91) (fr_get fo_47_3 1 rfl) ow_47 fp_5_28_8 ?_
        exact ex_return (pc := 94) (fr_get fo_47_3 2 rfl) rt_47 rfl rfl (ma_end_mk h)
      · replace h := h.2 c
        refine ex_iconst (pc := 86) (fr_get fo_47_2 14 rfl) ic_3 ?_
        refine ex_goto (pc := 87) (fr_get fo_47_2 15 rfl) (t := 91) rfl ?_
        refine ex_pi (pc := 91) (fr_get fo_47_3 1 rfl) ow_47 fp_5_28_8 ?_
        exact ex_return (pc := 94) (fr_get fo_47_3 2 rfl) rt_47 rfl rfl (ma_end_mk h)
    · replace h := h.2 c
      refine ex_aload_n (pc := 35) (fr_get fo_47_1 1 rfl) rfl rfl ?_
      refine ex_aload_n (pc := 36) (fr_get fo_47_1 2 rfl) rfl rfl ?_
      refine xv_gi (pc := 37) (fr_get fo_47_1 3 rfl) ow_47 fg_5_53_8 rfl ?_
      refine ex_bipush (pc := 40) (fr_get fo_47_1 4 rfl) bp_10 ?_
      refine ex_imul (pc := 42) (fr_get fo_47_1 5 rfl) ?_
      refine ex_aload_n (pc := 43) (fr_get fo_47_1 6 rfl) rfl rfl ?_
      refine ex_gr (pc := 44) (fr_get fo_47_1 7 rfl) ow_47 fr_5_9_8 (q := (31, 0)) rfl ?_
      refine ex_aload_n (pc := 47) (fr_get fo_47_1 8 rfl) rfl rfl ?_
      refine xv_gi (pc := 48) (fr_get fo_47_1 9 rfl) ow_47 fg_5_19_8 rfl ?_
      refine xv_iald (pc := 51) (fr_get fo_47_1 10 rfl) gk_31 (n := 160) (gn_31 ..) rfl rfl h.1 ?_
      replace h := h.2
      refine ex_iadd (pc := 52) (fr_get fo_47_1 11 rfl) ?_
      refine ex_bipush (pc := 53) (fr_get fo_47_1 12 rfl) bp_48 ?_
      refine ex_isub (pc := 55) (fr_get fo_47_1 13 rfl) ?_
      refine ex_pi (pc := 56) (fr_get fo_47_1 14 rfl) ow_47 fp_5_53_8 ?_
      refine ex_aload_n (pc := 59) (fr_get fo_47_1 15 rfl) rfl rfl ?_
      refine ex_dupr (pc := 60) (fr_get fo_47_2 0 rfl) ?_
      refine xv_gi (pc := 61) (fr_get fo_47_2 1 rfl) ow_47 fg_5_19_8 (xv_uj rfl) ?_
      refine ex_iconst (pc := 64) (fr_get fo_47_2 2 rfl) ic_1 ?_
      refine ex_iadd (pc := 65) (fr_get fo_47_2 3 rfl) ?_
      refine ex_pi (pc := 66) (fr_get fo_47_2 4 rfl) ow_47 fp_5_19_8 ?_
      refine ex_goto (pc := 69) (fr_get fo_47_2 5 rfl) (t := 5) rfl ?_
      exact h

theorem e_48 {d : Nat} {I : ma_I} {o : Nat} {Q : ma_Q} {q1 : Nat}
  (h :
    Exm (d) 185 [.inr (.inr (2, q1))] I o (fun r J1 p2 => ∃ x3 : Int32, r = some (.inl x3) ∧
      (x3 = (J1 8 0 4) - (J1 8 0 2) →
        Ex (d + 1) 48 (20, [some (.inr (.inr (8, 0))), some (.inr (.inr (2, q1))), some (.inl (0 : Int32))], [], ma_mem J1 p2, 0, 0) (ma_end Q)) ∧
      (x3 ≠ (J1 8 0 4) - (J1 8 0 2) →
        Q (some (.inl (0 : Int32))) J1 p2))) :
  Exm (d + 1) 48 [.inr (.inr (8, 0)), .inr (.inr (2, q1))] I o Q := by
  show Ex (d + 1) 48 (0, [some (.inr (.inr (8, 0))), some (.inr (.inr (2, q1))), none], [], ma_mem I o, 0, 0) (ma_end Q)
  refine ex_aload_n (pc := 0) (fr_get fo_48_0 0 rfl) rfl rfl ?_
  refine xv_kv1 (pc := 1) (fr_get fo_48_0 1 rfl) cc_48_56 (as := [.inr (.inr (2, q1))]) (rs := []) rfl rfl rfl rfl rfl ?_
  refine h.mono (fun r J1 p2 h => ?_)
  obtain ⟨x3, hr, h⟩ := h
  refine ⟨x3, hr, ?_⟩
  refine ex_aload_n (pc := 4) (fr_get fo_48_0 2 rfl) rfl rfl ?_
  refine xv_gi (pc := 5) (fr_get fo_48_0 3 rfl) ow_48 fg_5_19_8 rfl ?_
  refine ex_aload_n (pc := 8) (fr_get fo_48_0 4 rfl) rfl rfl ?_
  refine xv_gi (pc := 9) (fr_get fo_48_0 5 rfl) ow_48 fg_5_25_8 rfl ?_
  refine ex_isub (pc := 12) (fr_get fo_48_0 6 rfl) ?_
  refine xv_ceq (pc := 13) (fr_get fo_48_0 7 rfl) (t := 18) rfl (fun c => ?_) (fun c => ?_)
  · replace h := h.1 c
    refine ex_iconst (pc := 18) (fr_get fo_48_0 10 rfl) ic_0 ?_
    refine ex_istore_n (pc := 19) (fr_get fo_48_0 11 rfl) rfl (L' := [some (.inr (.inr (8, 0))), some (.inr (.inr (2, q1))), some (.inl (0 : Int32))]) rfl ?_
    exact h
  · replace h := h.2 c
    refine ex_iconst (pc := 16) (fr_get fo_48_0 8 rfl) ic_0 ?_
    exact ex_zreturn (pc := 17) (fr_get fo_48_0 9 rfl) rt_48 rfl rfl ⟨Or.inl rfl, ma_end_mk h⟩

theorem b_48_20 {d : Nat} {I : ma_I} {o : Nat} {Q : ma_Q} {q1 : Nat} {v2 : Int32}
  (h :
    Exm (d) 185 [.inr (.inr (2, q1))] I o (fun r J1 p2 => ∃ x3 : Int32, r = some (.inl x3) ∧
      (x3 ≤ v2 →
        Q (some (.inl (1 : Int32))) J1 p2) ∧
      (v2 < x3 →
        Exm (d) 186 [.inr (.inr (2, q1)), .inl v2] J1 p2 (fun r J4 p5 => ∃ x6 : Int32, r = some (.inl x6) ∧
          ma_in ((J4 8 0 2) + v2) 160 ∧
          (x6 = J4 31 0 (((J4 8 0 2) + v2).toNatClampNeg) →
            Ex (d + 1) 48 (20, [some (.inr (.inr (8, 0))), some (.inr (.inr (2, q1))), some (.inl (v2 + (1 : Int32)))], [], ma_mem J4 p5, 0, 0) (ma_end Q)) ∧
          (x6 ≠ J4 31 0 (((J4 8 0 2) + v2).toNatClampNeg) →
            Q (some (.inl (0 : Int32))) J4 p5))))) :
  Ex (d + 1) 48 (20, [some (.inr (.inr (8, 0))), some (.inr (.inr (2, q1))), some (.inl v2)], [], ma_mem I o, 0, 0) (ma_end Q) := by
  refine ex_iload_n (pc := 20) (fr_get fo_48_0 12 rfl) rfl ?_
  refine ex_aload_n (pc := 21) (fr_get fo_48_0 13 rfl) rfl rfl ?_
  refine xv_kv1 (pc := 22) (fr_get fo_48_0 14 rfl) cc_48_56 (as := [.inr (.inr (2, q1))]) (rs := [.inl v2]) rfl rfl rfl rfl rfl ?_
  refine h.mono (fun r J1 p2 h => ?_)
  obtain ⟨x3, hr, h⟩ := h
  refine ⟨x3, hr, ?_⟩
  refine xv_cge (pc := 25) (fr_get fo_48_0 15 rfl) (t := 55) rfl (fun c => ?_) (fun c => ?_)
  · replace h := h.1 c
    refine ex_iconst (pc := 55) (fr_get fo_48_1 15 rfl) ic_1 ?_
    exact ex_zreturn (pc := 56) (fr_get fo_48_2 0 rfl) rt_48 rfl rfl ⟨Or.inr rfl, ma_end_mk h⟩
  · replace h := h.2 c
    refine ex_aload_n (pc := 28) (fr_get fo_48_1 0 rfl) rfl rfl ?_
    refine ex_iload_n (pc := 29) (fr_get fo_48_1 1 rfl) rfl ?_
    refine xv_kv1 (pc := 30) (fr_get fo_48_1 2 rfl) cc_48_62 (as := [.inr (.inr (2, q1)), .inl v2]) (rs := []) rfl rfl rfl rfl rfl ?_
    refine h.mono (fun r J4 p5 h => ?_)
    obtain ⟨x6, hr, h⟩ := h
    refine ⟨x6, hr, ?_⟩
    refine ex_aload_n (pc := 33) (fr_get fo_48_1 3 rfl) rfl rfl ?_
    refine ex_gr (pc := 34) (fr_get fo_48_1 4 rfl) ow_48 fr_5_9_8 (q := (31, 0)) rfl ?_
    refine ex_aload_n (pc := 37) (fr_get fo_48_1 5 rfl) rfl rfl ?_
    refine xv_gi (pc := 38) (fr_get fo_48_1 6 rfl) ow_48 fg_5_25_8 rfl ?_
    refine ex_iload_n (pc := 41) (fr_get fo_48_1 7 rfl) rfl ?_
    refine ex_iadd (pc := 42) (fr_get fo_48_1 8 rfl) ?_
    refine xv_iald (pc := 43) (fr_get fo_48_1 9 rfl) gk_31 (n := 160) (gn_31 ..) rfl rfl h.1 ?_
    replace h := h.2
    refine xv_ceq (pc := 44) (fr_get fo_48_1 10 rfl) (t := 49) rfl (fun c => ?_) (fun c => ?_)
    · replace h := h.1 c
      refine xv_iinc (pc := 49) (fr_get fo_48_1 13 rfl) rfl ic_1 (L' := [some (.inr (.inr (8, 0))), some (.inr (.inr (2, q1))), some (.inl (v2 + (1 : Int32)))]) rfl ?_
      refine ex_goto (pc := 52) (fr_get fo_48_1 14 rfl) (t := 20) rfl ?_
      exact h
    · replace h := h.2 c
      refine ex_iconst (pc := 47) (fr_get fo_48_1 11 rfl) ic_0 ?_
      exact ex_zreturn (pc := 48) (fr_get fo_48_1 12 rfl) rt_48 rfl rfl ⟨Or.inl rfl, ma_end_mk h⟩

theorem e_50 {d : Nat} {I : ma_I} {o : Nat} {Q : ma_Q} {a0 : Int32}
  (h :
    (a0 = (0 : Int32) →
      Q (some (.inr (.inr (2, 0)))) I o) ∧
    (a0 ≠ (0 : Int32) →
      (a0 = (1 : Int32) →
        Q (some (.inr (.inr (2, 1)))) I o) ∧
      (a0 ≠ (1 : Int32) →
        (a0 = (2 : Int32) →
          Q (some (.inr (.inr (2, 2)))) I o) ∧
        (a0 ≠ (2 : Int32) →
          (a0 = (3 : Int32) →
            Q (some (.inr (.inr (2, 3)))) I o) ∧
          (a0 ≠ (3 : Int32) →
            (a0 = (4 : Int32) →
              Q (some (.inr (.inr (2, 4)))) I o) ∧
            (a0 ≠ (4 : Int32) →
              (a0 = (5 : Int32) →
                Q (some (.inr (.inr (2, 5)))) I o) ∧
              (a0 ≠ (5 : Int32) →
                (a0 = (6 : Int32) →
                  Q (some (.inr (.inr (2, 6)))) I o) ∧
                (a0 ≠ (6 : Int32) →
                  (a0 = (7 : Int32) →
                    Q (some (.inr (.inr (2, 7)))) I o) ∧
                  (a0 ≠ (7 : Int32) →
                    (a0 = (8 : Int32) →
                      Q (some (.inr (.inr (2, 8)))) I o) ∧
                    (a0 ≠ (8 : Int32) →
                      (a0 = (9 : Int32) →
                        Q (some (.inr (.inr (2, 9)))) I o) ∧
                      (a0 ≠ (9 : Int32) →
                        (a0 = (10 : Int32) →
                          Q (some (.inr (.inr (2, 10)))) I o) ∧
                        (a0 ≠ (10 : Int32) →
                          Q (some (.inr (.inr (2, 11)))) I o)))))))))))) :
  Exm (d) 50 [.inl a0] I o Q := by
  show Ex (d) 50 (0, [some (.inl a0)], [], ma_mem I o, 0, 0) (ma_end Q)
  refine ex_iload_n (pc := 0) (fr_get fo_50_0 0 rfl) rfl ?_
  refine xv_ts (pc := 1) (fr_get fo_50_0 1 rfl) (l := [59, 62, 65, 68, 71, 74, 77, 80, 83, 86, 89]) rfl tk_50_1 ?_
  refine xv_tc (t := 60) ic_0 rfl (fun c => ?_) (fun c => ?_)
  · replace h := h.1 c
    refine ex_ldcs (pc := 60) (fr_get fo_50_0 2 rfl) ow_50 kn_5_66 ks_5_66 ?_
    exact ex_areturn (pc := 62) (fr_get fo_50_0 3 rfl) rfl rfl rfl rfl (ma_end_mk h)
  · replace h := h.2 c
    refine xv_tc (t := 63) ic_1 rfl (fun c => ?_) (fun c => ?_)
    · replace h := h.1 c
      refine ex_ldcs (pc := 63) (fr_get fo_50_0 4 rfl) ow_50 kn_5_68 ks_5_68 ?_
      exact ex_areturn (pc := 65) (fr_get fo_50_0 5 rfl) rfl rfl rfl rfl (ma_end_mk h)
    · replace h := h.2 c
      refine xv_tc (t := 66) ic_2 rfl (fun c => ?_) (fun c => ?_)
      · replace h := h.1 c
        refine ex_ldcs (pc := 66) (fr_get fo_50_0 6 rfl) ow_50 kn_5_70 ks_5_70 ?_
        exact ex_areturn (pc := 68) (fr_get fo_50_0 7 rfl) rfl rfl rfl rfl (ma_end_mk h)
      · replace h := h.2 c
        refine xv_tc (t := 69) ic_3 rfl (fun c => ?_) (fun c => ?_)
        · replace h := h.1 c
          refine ex_ldcs (pc := 69) (fr_get fo_50_0 8 rfl) ow_50 kn_5_72 ks_5_72 ?_
          exact ex_areturn (pc := 71) (fr_get fo_50_0 9 rfl) rfl rfl rfl rfl (ma_end_mk h)
        · replace h := h.2 c
          refine xv_tc (t := 72) ic_4 rfl (fun c => ?_) (fun c => ?_)
          · replace h := h.1 c
            refine ex_ldcs (pc := 72) (fr_get fo_50_0 10 rfl) ow_50 kn_5_74 ks_5_74 ?_
            exact ex_areturn (pc := 74) (fr_get fo_50_0 11 rfl) rfl rfl rfl rfl (ma_end_mk h)
          · replace h := h.2 c
            refine xv_tc (t := 75) ic_5 rfl (fun c => ?_) (fun c => ?_)
            · replace h := h.1 c
              refine ex_ldcs (pc := 75) (fr_get fo_50_0 12 rfl) ow_50 kn_5_76 ks_5_76 ?_
              exact ex_areturn (pc := 77) (fr_get fo_50_0 13 rfl) rfl rfl rfl rfl (ma_end_mk h)
            · replace h := h.2 c
              refine xv_tc (t := 78) ic_6 rfl (fun c => ?_) (fun c => ?_)
              · replace h := h.1 c
                refine ex_ldcs (pc := 78) (fr_get fo_50_0 14 rfl) ow_50 kn_5_78 ks_5_78 ?_
                exact ex_areturn (pc := 80) (fr_get fo_50_0 15 rfl) rfl rfl rfl rfl (ma_end_mk h)
              · replace h := h.2 c
                refine xv_tc (t := 81) ic_7 rfl (fun c => ?_) (fun c => ?_)
                · replace h := h.1 c
                  refine ex_ldcs (pc := 81) (fr_get fo_50_1 0 rfl) ow_50 kn_5_80 ks_5_80 ?_
                  exact ex_areturn (pc := 83) (fr_get fo_50_1 1 rfl) rfl rfl rfl rfl (ma_end_mk h)
                · replace h := h.2 c
                  refine xv_tc (t := 84) ic_8 rfl (fun c => ?_) (fun c => ?_)
                  · replace h := h.1 c
                    refine ex_ldcs (pc := 84) (fr_get fo_50_1 2 rfl) ow_50 kn_5_82 ks_5_82 ?_
                    exact ex_areturn (pc := 86) (fr_get fo_50_1 3 rfl) rfl rfl rfl rfl (ma_end_mk h)
                  · replace h := h.2 c
                    refine xv_tc (t := 87) ic_9 rfl (fun c => ?_) (fun c => ?_)
                    · replace h := h.1 c
                      refine ex_ldcs (pc := 87) (fr_get fo_50_1 4 rfl) ow_50 kn_5_84 ks_5_84 ?_
                      exact ex_areturn (pc := 89) (fr_get fo_50_1 5 rfl) rfl rfl rfl rfl (ma_end_mk h)
                    · replace h := h.2 c
                      refine xv_tc (t := 90) ic_10 rfl (fun c => ?_) (fun c => ?_)
                      · replace h := h.1 c
                        refine ex_ldcs (pc := 90) (fr_get fo_50_1 6 rfl) ow_50 kn_5_86 ks_5_86 ?_
                        exact ex_areturn (pc := 92) (fr_get fo_50_1 7 rfl) rfl rfl rfl rfl (ma_end_mk h)
                      · replace h := h.2 c
                        refine xv_tn (t := 93) rfl ?_
                        refine ex_ldcs (pc := 93) (fr_get fo_50_1 8 rfl) ow_50 kn_5_88 ks_5_88 ?_
                        exact ex_areturn (pc := 95) (fr_get fo_50_1 9 rfl) rfl rfl rfl rfl (ma_end_mk h)

theorem e_52 {d : Nat} {I : ma_I} {o : Nat} {Q : ma_Q} {q0 : Nat}
  (h :
    Q none (ma_up I 19 q0 0 (0 : Int32)) o) :
  Exm (d) 52 [.inr (.inr (19, q0))] I o Q := by
  show Ex (d) 52 (0, [some (.inr (.inr (19, q0)))], [], ma_mem I o, 0, 0) (ma_end Q)
  refine ex_aload_n (pc := 0) (fr_get fo_52_0 0 rfl) rfl rfl ?_
  refine ex_iconst (pc := 1) (fr_get fo_52_0 1 rfl) ic_0 ?_
  refine ex_pi (pc := 2) (fr_get fo_52_0 2 rfl) ow_52 fp_6_21_19 ?_
  exact ex_return (pc := 5) (fr_get fo_52_0 3 rfl) rt_52 rfl rfl (ma_end_mk h)

theorem e_53 {d : Nat} {I : ma_I} {o : Nat} {Q : ma_Q} {q0 : Nat} {a1 : Int32}
  (h :
    ((160 : Int32) ≤ I 19 q0 0 →
      Q none I o) ∧
    (I 19 q0 0 < (160 : Int32) →
      ma_in (I 19 q0 0) 160 ∧
      Q none (ma_up (ma_up I 20 q0 ((I 19 q0 0).toNatClampNeg) a1) 19 q0 0 ((I 19 q0 0) + (1 : Int32))) o)) :
  Exm (d) 53 [.inr (.inr (19, q0)), .inl a1] I o Q := by
  show Ex (d) 53 (0, [some (.inr (.inr (19, q0))), some (.inl a1)], [], ma_mem I o, 0, 0) (ma_end Q)
  refine ex_aload_n (pc := 0) (fr_get fo_53_0 0 rfl) rfl rfl ?_
  refine xv_gi (pc := 1) (fr_get fo_53_0 1 rfl) ow_53 fg_6_21_19 rfl ?_
  refine ex_sipush (pc := 4) (fr_get fo_53_0 2 rfl) sp_160 ?_
  refine xv_cge (pc := 7) (fr_get fo_53_0 3 rfl) (t := 30) rfl (fun c => ?_) (fun c => ?_)
  · replace h := h.1 c
    exact ex_return (pc := 30) (fr_get fo_53_1 0 rfl) rt_53 rfl rfl (ma_end_mk h)
  · replace h := h.2 c
    refine ex_aload_n (pc := 10) (fr_get fo_53_0 4 rfl) rfl rfl ?_
    refine ex_gr (pc := 11) (fr_get fo_53_0 5 rfl) ow_53 fr_6_9_19 (q := (20, q0)) rfl ?_
    refine ex_aload_n (pc := 14) (fr_get fo_53_0 6 rfl) rfl rfl ?_
    refine xv_gi (pc := 15) (fr_get fo_53_0 7 rfl) ow_53 fg_6_21_19 rfl ?_
    refine ex_iload_n (pc := 18) (fr_get fo_53_0 8 rfl) rfl ?_
    refine xv_iast (pc := 19) (fr_get fo_53_0 9 rfl) gs_20 gl_20 rfl h.1 ?_
    replace h := h.2
    refine ex_aload_n (pc := 20) (fr_get fo_53_0 10 rfl) rfl rfl ?_
    refine ex_dupr (pc := 21) (fr_get fo_53_0 11 rfl) ?_
    refine xv_gi (pc := 22) (fr_get fo_53_0 12 rfl) ow_53 fg_6_21_19 (xv_ug rfl) ?_
    refine ex_iconst (pc := 25) (fr_get fo_53_0 13 rfl) ic_1 ?_
    refine ex_iadd (pc := 26) (fr_get fo_53_0 14 rfl) ?_
    refine ex_pi (pc := 27) (fr_get fo_53_0 15 rfl) ow_53 fp_6_21_19 ?_
    exact ex_return (pc := 30) (fr_get fo_53_1 0 rfl) rt_53 rfl rfl (ma_end_mk h)

theorem e_54 {d : Nat} {I : ma_I} {o : Nat} {Q : ma_Q} {q0 : Nat} {a1 : Int32}
  (h :
    ma_in a1 3 ∧
    Q none (ma_up I 21 q0 a1.toNatClampNeg (I 19 q0 0)) o) :
  Exm (d) 54 [.inr (.inr (19, q0)), .inl a1] I o Q := by
  show Ex (d) 54 (0, [some (.inr (.inr (19, q0))), some (.inl a1)], [], ma_mem I o, 0, 0) (ma_end Q)
  refine ex_aload_n (pc := 0) (fr_get fo_54_0 0 rfl) rfl rfl ?_
  refine ex_gr (pc := 1) (fr_get fo_54_0 1 rfl) ow_54 fr_6_15_19 (q := (21, q0)) rfl ?_
  refine ex_iload_n (pc := 4) (fr_get fo_54_0 2 rfl) rfl ?_
  refine ex_aload_n (pc := 5) (fr_get fo_54_0 3 rfl) rfl rfl ?_
  refine xv_gi (pc := 6) (fr_get fo_54_0 4 rfl) ow_54 fg_6_21_19 rfl ?_
  refine xv_iast (pc := 9) (fr_get fo_54_0 5 rfl) gs_21 gl_21 rfl h.1 ?_
  replace h := h.2
  exact ex_return (pc := 10) (fr_get fo_54_0 6 rfl) rt_54 rfl rfl (ma_end_mk h)

theorem e_55_19_26 {d : Nat} {I : ma_I} {o : Nat} {Q : ma_Q} {q0 : Nat} {a1 : Int32}
  (h :
    (a1 ≠ 0 →
      ma_in (a1 - (1 : Int32)) 3 ∧
      Ex (d) 55 (20, [some (.inr (.inr (19, q0))), some (.inl a1), some (.inr (.inr (26, 0))), some (.inl (0 : Int32)), some (.inl (I 21 q0 ((a1 - (1 : Int32)).toNatClampNeg))), none, none, none, none], [], ma_mem I o, 0, 0) (ma_end Q)) ∧
    (a1 = 0 →
      Ex (d) 55 (20, [some (.inr (.inr (19, q0))), some (.inl a1), some (.inr (.inr (26, 0))), some (.inl (0 : Int32)), some (.inl (0 : Int32)), none, none, none, none], [], ma_mem I o, 0, 0) (ma_end Q))) :
  Exm (d) 55 [.inr (.inr (19, q0)), .inl a1, .inr (.inr (26, 0))] I o Q := by
  show Ex (d) 55 (0, [some (.inr (.inr (19, q0))), some (.inl a1), some (.inr (.inr (26, 0))), none, none, none, none, none, none], [], ma_mem I o, 0, 0) (ma_end Q)
  refine ex_iconst (pc := 0) (fr_get fo_55_0 0 rfl) ic_0 ?_
  refine ex_istore_n (pc := 1) (fr_get fo_55_0 1 rfl) rfl (L' := [some (.inr (.inr (19, q0))), some (.inl a1), some (.inr (.inr (26, 0))), some (.inl (0 : Int32)), none, none, none, none, none]) rfl ?_
  refine ex_iload_n (pc := 2) (fr_get fo_55_0 2 rfl) rfl ?_
  refine xv_bne (pc := 3) (fr_get fo_55_0 3 rfl) (t := 10) rfl (fun c => ?_) (fun c => ?_)
  · replace h := h.1 c
    refine ex_aload_n (pc := 10) (fr_get fo_55_0 6 rfl) rfl rfl ?_
    refine ex_gr (pc := 11) (fr_get fo_55_0 7 rfl) ow_55 fr_6_15_19 (q := (21, q0)) rfl ?_
    refine ex_iload_n (pc := 14) (fr_get fo_55_0 8 rfl) rfl ?_
    refine ex_iconst (pc := 15) (fr_get fo_55_0 9 rfl) ic_1 ?_
    refine ex_isub (pc := 16) (fr_get fo_55_0 10 rfl) ?_
    refine xv_iald (pc := 17) (fr_get fo_55_0 11 rfl) gk_21 (n := 3) (gn_21 ..) rfl rfl h.1 ?_
    replace h := h.2
    refine ex_istore (pc := 18) (fr_get fo_55_0 12 rfl) rfl (L' := [some (.inr (.inr (19, q0))), some (.inl a1), some (.inr (.inr (26, 0))), some (.inl (0 : Int32)), some (.inl (I 21 q0 ((a1 - (1 : Int32)).toNatClampNeg))), none, none, none, none]) rfl ?_
    exact h
  · replace h := h.2 c
    refine ex_iconst (pc := 6) (fr_get fo_55_0 4 rfl) ic_0 ?_
    refine ex_goto (pc := 7) (fr_get fo_55_0 5 rfl) (t := 18) rfl ?_
    refine ex_istore (pc := 18) (fr_get fo_55_0 12 rfl) rfl (L' := [some (.inr (.inr (19, q0))), some (.inl a1), some (.inr (.inr (26, 0))), some (.inl (0 : Int32)), some (.inl (0 : Int32)), none, none, none, none]) rfl ?_
    exact h

theorem b_55_19_26_20 {d : Nat} {I : ma_I} {o : Nat} {Q : ma_Q} {q0 : Nat} {v1 : Int32} {v3 : Int32} {v4 : Int32} {w5 : Option ma_V} {w6 : Option ma_V} {w7 : Option ma_V} {w8 : Option ma_V}
  (h :
    ma_in v1 3 ∧
    (I 21 q0 v1.toNatClampNeg ≤ v4 →
      Q (some (.inl (I 22 q0 0))) I o) ∧
    (v4 < I 21 q0 v1.toNatClampNeg →
      ma_in v4 160 ∧
      (v3 ≤ 0 →
        Ex (d) 55 (58, [some (.inr (.inr (19, q0))), some (.inl v1), some (.inr (.inr (26, 0))), some (.inl v3), some (.inl v4), some (.inl (I 20 q0 v4.toNatClampNeg)), some (.inl (0 : Int32)), w7, w8], [], ma_mem I o, 0, 0) (ma_end Q)) ∧
      (0 < v3 →
        ma_in (v3 - (1 : Int32)) 40 ∧
        Ex (d) 55 (58, [some (.inr (.inr (19, q0))), some (.inl v1), some (.inr (.inr (26, 0))), some (.inl v3), some (.inl v4), some (.inl (I 20 q0 v4.toNatClampNeg)), some (.inl (I 22 q0 ((v3 - (1 : Int32)).toNatClampNeg))), w7, w8], [], ma_mem I o, 0, 0) (ma_end Q)))) :
  Ex (d) 55 (20, [some (.inr (.inr (19, q0))), some (.inl v1), some (.inr (.inr (26, 0))), some (.inl v3), some (.inl v4), w5, w6, w7, w8], [], ma_mem I o, 0, 0) (ma_end Q) := by
  refine ex_iload (pc := 20) (fr_get fo_55_0 13 rfl) rfl ?_
  refine ex_aload_n (pc := 22) (fr_get fo_55_0 14 rfl) rfl rfl ?_
  refine ex_gr (pc := 23) (fr_get fo_55_0 15 rfl) ow_55 fr_6_15_19 (q := (21, q0)) rfl ?_
  refine ex_iload_n (pc := 26) (fr_get fo_55_1 0 rfl) rfl ?_
  refine xv_iald (pc := 27) (fr_get fo_55_1 1 rfl) gk_21 (n := 3) (gn_21 ..) rfl rfl h.1 ?_
  replace h := h.2
  refine xv_cge (pc := 28) (fr_get fo_55_1 2 rfl) (t := 330) rfl (fun c => ?_) (fun c => ?_)
  · replace h := h.1 c
    refine ex_aload_n (pc := 330) (fr_get fo_55_9 0 rfl) rfl rfl ?_
    refine ex_gr (pc := 331) (fr_get fo_55_9 1 rfl) ow_55 fr_6_18_19 (q := (22, q0)) rfl ?_
    refine ex_iconst (pc := 334) (fr_get fo_55_9 2 rfl) ic_0 ?_
    refine xv_iald (pc := 335) (fr_get fo_55_9 3 rfl) gk_22 (n := 40) (gn_22 ..) cl_0 rfl mi_0_40 ?_
    exact ex_ireturn (pc := 336) (fr_get fo_55_9 4 rfl) rt_55 rfl rfl (ma_end_mk h)
  · replace h := h.2 c
    refine ex_aload_n (pc := 31) (fr_get fo_55_1 3 rfl) rfl rfl ?_
    refine ex_gr (pc := 32) (fr_get fo_55_1 4 rfl) ow_55 fr_6_9_19 (q := (20, q0)) rfl ?_
    refine ex_iload (pc := 35) (fr_get fo_55_1 5 rfl) rfl ?_
    refine xv_iald (pc := 37) (fr_get fo_55_1 6 rfl) gk_20 (n := 160) (gn_20 ..) rfl rfl h.1 ?_
    replace h := h.2
    refine ex_istore (pc := 38) (fr_get fo_55_1 7 rfl) rfl (L' := [some (.inr (.inr (19, q0))), some (.inl v1), some (.inr (.inr (26, 0))), some (.inl v3), some (.inl v4), some (.inl (I 20 q0 v4.toNatClampNeg)), w6, w7, w8]) rfl ?_
    refine ex_iload_n (pc := 40) (fr_get fo_55_1 8 rfl) rfl ?_
    refine xv_ble (pc := 41) (fr_get fo_55_1 9 rfl) (t := 55) rfl (fun c => ?_) (fun c => ?_)
    · replace h := h.1 c
      refine ex_iconst (pc := 55) (fr_get fo_55_2 1 rfl) ic_0 ?_
      refine ex_istore (pc := 56) (fr_get fo_55_2 2 rfl) rfl (L' := [some (.inr (.inr (19, q0))), some (.inl v1), some (.inr (.inr (26, 0))), some (.inl v3), some (.inl v4), some (.inl (I 20 q0 v4.toNatClampNeg)), some (.inl (0 : Int32)), w7, w8]) rfl ?_
      exact h
    · replace h := h.2 c
      refine ex_aload_n (pc := 44) (fr_get fo_55_1 10 rfl) rfl rfl ?_
      refine ex_gr (pc := 45) (fr_get fo_55_1 11 rfl) ow_55 fr_6_18_19 (q := (22, q0)) rfl ?_
      refine ex_iload_n (pc := 48) (fr_get fo_55_1 12 rfl) rfl ?_
      refine ex_iconst (pc := 49) (fr_get fo_55_1 13 rfl) ic_1 ?_
      refine ex_isub (pc := 50) (fr_get fo_55_1 14 rfl) ?_
      refine xv_iald (pc := 51) (fr_get fo_55_1 15 rfl) gk_22 (n := 40) (gn_22 ..) rfl rfl h.1 ?_
      replace h := h.2
      refine ex_goto (pc := 52) (fr_get fo_55_2 0 rfl) (t := 56) rfl ?_
      refine ex_istore (pc := 56) (fr_get fo_55_2 2 rfl) rfl (L' := [some (.inr (.inr (19, q0))), some (.inl v1), some (.inr (.inr (26, 0))), some (.inl v3), some (.inl v4), some (.inl (I 20 q0 v4.toNatClampNeg)), some (.inl (I 22 q0 ((v3 - (1 : Int32)).toNatClampNeg))), w7, w8]) rfl ?_
      exact h

theorem b_55_19_26_58 {d : Nat} {I : ma_I} {o : Nat} {Q : ma_Q} {q0 : Nat} {v1 : Int32} {v3 : Int32} {v4 : Int32} {v5 : Int32} {v6 : Int32} {w7 : Option ma_V} {w8 : Option ma_V}
  (h :
    (v3 ≤ (1 : Int32) →
      Ex (d) 55 (77, [some (.inr (.inr (19, q0))), some (.inl v1), some (.inr (.inr (26, 0))), some (.inl v3), some (.inl v4), some (.inl v5), some (.inl v6), some (.inl (0 : Int32)), w8], [], ma_mem I o, 0, 0) (ma_end Q)) ∧
    ((1 : Int32) < v3 →
      ma_in (v3 - (2 : Int32)) 40 ∧
      Ex (d) 55 (77, [some (.inr (.inr (19, q0))), some (.inl v1), some (.inr (.inr (26, 0))), some (.inl v3), some (.inl v4), some (.inl v5), some (.inl v6), some (.inl (I 22 q0 ((v3 - (2 : Int32)).toNatClampNeg))), w8], [], ma_mem I o, 0, 0) (ma_end Q))) :
  Ex (d) 55 (58, [some (.inr (.inr (19, q0))), some (.inl v1), some (.inr (.inr (26, 0))), some (.inl v3), some (.inl v4), some (.inl v5), some (.inl v6), w7, w8], [], ma_mem I o, 0, 0) (ma_end Q) := by
  refine ex_iload_n (pc := 58) (fr_get fo_55_2 3 rfl) rfl ?_
  refine ex_iconst (pc := 59) (fr_get fo_55_2 4 rfl) ic_1 ?_
  refine xv_cle (pc := 60) (fr_get fo_55_2 5 rfl) (t := 74) rfl (fun c => ?_) (fun c => ?_)
  · replace h := h.1 c
    refine ex_iconst (pc := 74) (fr_get fo_55_2 13 rfl) ic_0 ?_
    refine ex_istore (pc := 75) (fr_get fo_55_2 14 rfl) rfl (L' := [some (.inr (.inr (19, q0))), some (.inl v1), some (.inr (.inr (26, 0))), some (.inl v3), some (.inl v4), some (.inl v5), some (.inl v6), some (.inl (0 : Int32)), w8]) rfl ?_
    exact h
  · replace h := h.2 c
    refine ex_aload_n (pc := 63) (fr_get fo_55_2 6 rfl) rfl rfl ?_
    refine ex_gr (pc := 64) (fr_get fo_55_2 7 rfl) ow_55 fr_6_18_19 (q := (22, q0)) rfl ?_
    refine ex_iload_n (pc := 67) (fr_get fo_55_2 8 rfl) rfl ?_
    refine ex_iconst (pc := 68) (fr_get fo_55_2 9 rfl) ic_2 ?_
    refine ex_isub (pc := 69) (fr_get fo_55_2 10 rfl) ?_
    refine xv_iald (pc := 70) (fr_get fo_55_2 11 rfl) gk_22 (n := 40) (gn_22 ..) rfl rfl h.1 ?_
    replace h := h.2
    refine ex_goto (pc := 71) (fr_get fo_55_2 12 rfl) (t := 75) rfl ?_
    refine ex_istore (pc := 75) (fr_get fo_55_2 14 rfl) rfl (L' := [some (.inr (.inr (19, q0))), some (.inl v1), some (.inr (.inr (26, 0))), some (.inl v3), some (.inl v4), some (.inl v5), some (.inl v6), some (.inl (I 22 q0 ((v3 - (2 : Int32)).toNatClampNeg))), w8]) rfl ?_
    exact h

theorem b_55_19_26_77 {d : Nat} {I : ma_I} {o : Nat} {Q : ma_Q} {q0 : Nat} {v1 : Int32} {v3 : Int32} {v4 : Int32} {v5 : Int32} {v6 : Int32} {v7 : Int32} {w8 : Option ma_V}
  (h :
    (v5 = (10010 : Int32) →
      Ex (d) 55 (278, [some (.inr (.inr (19, q0))), some (.inl v1), some (.inr (.inr (26, 0))), some (.inl v3), some (.inl v4), some (.inl v5), some (.inl v6), some (.inl v7), some (.inl (-v6))], [], ma_mem I o, 0, 0) (ma_end Q)) ∧
    (v5 ≠ (10010 : Int32) →
      (v5 = (10011 : Int32) →
        (v6 ≠ 0 →
          Ex (d) 55 (278, [some (.inr (.inr (19, q0))), some (.inl v1), some (.inr (.inr (26, 0))), some (.inl v3), some (.inl v4), some (.inl v5), some (.inl v6), some (.inl v7), some (.inl (0 : Int32))], [], ma_mem I o, 0, 0) (ma_end Q)) ∧
        (v6 = 0 →
          Ex (d) 55 (278, [some (.inr (.inr (19, q0))), some (.inl v1), some (.inr (.inr (26, 0))), some (.inl v3), some (.inl v4), some (.inl v5), some (.inl v6), some (.inl v7), some (.inl (1 : Int32))], [], ma_mem I o, 0, 0) (ma_end Q))) ∧
      (v5 ≠ (10011 : Int32) →
        (v5 = (10012 : Int32) →
          (v7 ≠ 0 →
            Ex (d) 55 (278, [some (.inr (.inr (19, q0))), some (.inl v1), some (.inr (.inr (26, 0))), some (.inl v3), some (.inl v4), some (.inl v5), some (.inl v6), some (.inl v7), some (.inl (1 : Int32))], [], ma_mem I o, 0, 0) (ma_end Q)) ∧
          (v7 = 0 →
            (v6 = 0 →
              Ex (d) 55 (278, [some (.inr (.inr (19, q0))), some (.inl v1), some (.inr (.inr (26, 0))), some (.inl v3), some (.inl v4), some (.inl v5), some (.inl v6), some (.inl v7), some (.inl (0 : Int32))], [], ma_mem I o, 0, 0) (ma_end Q)) ∧
            (v6 ≠ 0 →
              Ex (d) 55 (278, [some (.inr (.inr (19, q0))), some (.inl v1), some (.inr (.inr (26, 0))), some (.inl v3), some (.inl v4), some (.inl v5), some (.inl v6), some (.inl v7), some (.inl (1 : Int32))], [], ma_mem I o, 0, 0) (ma_end Q)))) ∧
        (v5 ≠ (10012 : Int32) →
          (v5 = (10013 : Int32) →
            (v7 = 0 →
              Ex (d) 55 (278, [some (.inr (.inr (19, q0))), some (.inl v1), some (.inr (.inr (26, 0))), some (.inl v3), some (.inl v4), some (.inl v5), some (.inl v6), some (.inl v7), some (.inl (0 : Int32))], [], ma_mem I o, 0, 0) (ma_end Q)) ∧
            (v7 ≠ 0 →
              (v6 = 0 →
                Ex (d) 55 (278, [some (.inr (.inr (19, q0))), some (.inl v1), some (.inr (.inr (26, 0))), some (.inl v3), some (.inl v4), some (.inl v5), some (.inl v6), some (.inl v7), some (.inl (0 : Int32))], [], ma_mem I o, 0, 0) (ma_end Q)) ∧
              (v6 ≠ 0 →
                Ex (d) 55 (278, [some (.inr (.inr (19, q0))), some (.inl v1), some (.inr (.inr (26, 0))), some (.inl v3), some (.inl v4), some (.inl v5), some (.inl v6), some (.inl v7), some (.inl (1 : Int32))], [], ma_mem I o, 0, 0) (ma_end Q)))) ∧
          (v5 ≠ (10013 : Int32) →
            (v5 = (10014 : Int32) →
              (v6 ≤ v7 →
                Ex (d) 55 (278, [some (.inr (.inr (19, q0))), some (.inl v1), some (.inr (.inr (26, 0))), some (.inl v3), some (.inl v4), some (.inl v5), some (.inl v6), some (.inl v7), some (.inl (0 : Int32))], [], ma_mem I o, 0, 0) (ma_end Q)) ∧
              (v7 < v6 →
                Ex (d) 55 (278, [some (.inr (.inr (19, q0))), some (.inl v1), some (.inr (.inr (26, 0))), some (.inl v3), some (.inl v4), some (.inl v5), some (.inl v6), some (.inl v7), some (.inl (1 : Int32))], [], ma_mem I o, 0, 0) (ma_end Q))) ∧
            (v5 ≠ (10014 : Int32) →
              (v5 = (10015 : Int32) →
                (v7 ≠ v6 →
                  Ex (d) 55 (278, [some (.inr (.inr (19, q0))), some (.inl v1), some (.inr (.inr (26, 0))), some (.inl v3), some (.inl v4), some (.inl v5), some (.inl v6), some (.inl v7), some (.inl (0 : Int32))], [], ma_mem I o, 0, 0) (ma_end Q)) ∧
                (v7 = v6 →
                  Ex (d) 55 (278, [some (.inr (.inr (19, q0))), some (.inl v1), some (.inr (.inr (26, 0))), some (.inl v3), some (.inl v4), some (.inl v5), some (.inl v6), some (.inl v7), some (.inl (1 : Int32))], [], ma_mem I o, 0, 0) (ma_end Q))) ∧
              (v5 ≠ (10015 : Int32) →
                (v5 = (10016 : Int32) →
                  Ex (d) 55 (278, [some (.inr (.inr (19, q0))), some (.inl v1), some (.inr (.inr (26, 0))), some (.inl v3), some (.inl v4), some (.inl v5), some (.inl v6), some (.inl v7), some (.inl (v7 + v6))], [], ma_mem I o, 0, 0) (ma_end Q)) ∧
                (v5 ≠ (10016 : Int32) →
                  (v5 = (10017 : Int32) →
                    Ex (d) 55 (278, [some (.inr (.inr (19, q0))), some (.inl v1), some (.inr (.inr (26, 0))), some (.inl v3), some (.inl v4), some (.inl v5), some (.inl v6), some (.inl v7), some (.inl (v7 - v6))], [], ma_mem I o, 0, 0) (ma_end Q)) ∧
                  (v5 ≠ (10017 : Int32) →
                    (v5 = (10018 : Int32) →
                      Ex (d) 55 (278, [some (.inr (.inr (19, q0))), some (.inl v1), some (.inr (.inr (26, 0))), some (.inl v3), some (.inl v4), some (.inl v5), some (.inl v6), some (.inl v7), some (.inl (v7 * v6))], [], ma_mem I o, 0, 0) (ma_end Q)) ∧
                    (v5 ≠ (10018 : Int32) →
                      ((10000 : Int32) ≤ v5 →
                        ma_in (v5 - (10000 : Int32)) 6 ∧
                        Ex (d) 55 (278, [some (.inr (.inr (19, q0))), some (.inl v1), some (.inr (.inr (26, 0))), some (.inl v3), some (.inl v4), some (.inl v5), some (.inl v6), some (.inl v7), some (.inl (I 26 0 ((v5 - (10000 : Int32)).toNatClampNeg)))], [], ma_mem I o, 0, 0) (ma_end Q)) ∧
                      (v5 < (10000 : Int32) →
                        Ex (d) 55 (278, [some (.inr (.inr (19, q0))), some (.inl v1), some (.inr (.inr (26, 0))), some (.inl v3), some (.inl v4), some (.inl v5), some (.inl v6), some (.inl v7), some (.inl v5)], [], ma_mem I o, 0, 0) (ma_end Q)))))))))))) :
  Ex (d) 55 (77, [some (.inr (.inr (19, q0))), some (.inl v1), some (.inr (.inr (26, 0))), some (.inl v3), some (.inl v4), some (.inl v5), some (.inl v6), some (.inl v7), w8], [], ma_mem I o, 0, 0) (ma_end Q) := by
  refine ex_iload (pc := 77) (fr_get fo_55_2 15 rfl) rfl ?_
  refine xv_ts (pc := 79) (fr_get fo_55_3 0 rfl) (l := [49, 57, 72, 92, 112, 129, 146, 156, 166]) rfl tk_55_79 ?_
  refine xv_tc (t := 128) ic_10010 rfl (fun c => ?_) (fun c => ?_)
  · replace h := h.1 c
    refine ex_iload (pc := 128) (fr_get fo_55_3 1 rfl) rfl ?_
    refine ex_ineg (pc := 130) (fr_get fo_55_3 2 rfl) ?_
    refine ex_istore (pc := 131) (fr_get fo_55_3 3 rfl) rfl (L' := [some (.inr (.inr (19, q0))), some (.inl v1), some (.inr (.inr (26, 0))), some (.inl v3), some (.inl v4), some (.inl v5), some (.inl v6), some (.inl v7), some (.inl (-v6))]) rfl ?_
    refine ex_goto (pc := 133) (fr_get fo_55_3 4 rfl) (t := 278) rfl ?_
    exact h
  · replace h := h.2 c
    refine xv_tc (t := 136) ic_10011 rfl (fun c => ?_) (fun c => ?_)
    · replace h := h.1 c
      refine ex_iload (pc := 136) (fr_get fo_55_3 5 rfl) rfl ?_
      refine xv_bne (pc := 138) (fr_get fo_55_3 6 rfl) (t := 145) rfl (fun c => ?_) (fun c => ?_)
      · replace h := h.1 c
        refine ex_iconst (pc := 145) (fr_get fo_55_3 9 rfl) ic_0 ?_
        refine ex_istore (pc := 146) (fr_get fo_55_3 10 rfl) rfl (L' := [some (.inr (.inr (19, q0))), some (.inl v1), some (.inr (.inr (26, 0))), some (.inl v3), some (.inl v4), some (.inl v5), some (.inl v6), some (.inl v7), some (.inl (0 : Int32))]) rfl ?_
        refine ex_goto (pc := 148) (fr_get fo_55_3 11 rfl) (t := 278) rfl ?_
        exact h
      · replace h := h.2 c
        refine ex_iconst (pc := 141) (fr_get fo_55_3 7 rfl) ic_1 ?_
        refine ex_goto (pc := 142) (fr_get fo_55_3 8 rfl) (t := 146) rfl ?_
        refine ex_istore (pc := 146) (fr_get fo_55_3 10 rfl) rfl (L' := [some (.inr (.inr (19, q0))), some (.inl v1), some (.inr (.inr (26, 0))), some (.inl v3), some (.inl v4), some (.inl v5), some (.inl v6), some (.inl v7), some (.inl (1 : Int32))]) rfl ?_
        refine ex_goto (pc := 148) (fr_get fo_55_3 11 rfl) (t := 278) rfl ?_
        exact h
    · replace h := h.2 c
      refine xv_tc (t := 151) ic_10012 rfl (fun c => ?_) (fun c => ?_)
      · replace h := h.1 c
        refine ex_iload (pc := 151) (fr_get fo_55_3 12 rfl) rfl ?_
        refine xv_bne (pc := 153) (fr_get fo_55_3 13 rfl) (t := 161) rfl (fun c => ?_) (fun c => ?_)
        · replace h := h.1 c
          refine ex_iconst (pc := 161) (fr_get fo_55_4 0 rfl) ic_1 ?_
          refine ex_goto (pc := 162) (fr_get fo_55_4 1 rfl) (t := 166) rfl ?_
          refine ex_istore (pc := 166) (fr_get fo_55_4 3 rfl) rfl (L' := [some (.inr (.inr (19, q0))), some (.inl v1), some (.inr (.inr (26, 0))), some (.inl v3), some (.inl v4), some (.inl v5), some (.inl v6), some (.inl v7), some (.inl (1 : Int32))]) rfl ?_
          refine ex_goto (pc := 168) (fr_get fo_55_4 4 rfl) (t := 278) rfl ?_
          exact h
        · replace h := h.2 c
          refine ex_iload (pc := 156) (fr_get fo_55_3 14 rfl) rfl ?_
          refine xv_beq (pc := 158) (fr_get fo_55_3 15 rfl) (t := 165) rfl (fun c => ?_) (fun c => ?_)
          · replace h := h.1 c
            refine ex_iconst (pc := 165) (fr_get fo_55_4 2 rfl) ic_0 ?_
            refine ex_istore (pc := 166) (fr_get fo_55_4 3 rfl) rfl (L' := [some (.inr (.inr (19, q0))), some (.inl v1), some (.inr (.inr (26, 0))), some (.inl v3), some (.inl v4), some (.inl v5), some (.inl v6), some (.inl v7), some (.inl (0 : Int32))]) rfl ?_
            refine ex_goto (pc := 168) (fr_get fo_55_4 4 rfl) (t := 278) rfl ?_
            exact h
          · replace h := h.2 c
            refine ex_iconst (pc := 161) (fr_get fo_55_4 0 rfl) ic_1 ?_
            refine ex_goto (pc := 162) (fr_get fo_55_4 1 rfl) (t := 166) rfl ?_
            refine ex_istore (pc := 166) (fr_get fo_55_4 3 rfl) rfl (L' := [some (.inr (.inr (19, q0))), some (.inl v1), some (.inr (.inr (26, 0))), some (.inl v3), some (.inl v4), some (.inl v5), some (.inl v6), some (.inl v7), some (.inl (1 : Int32))]) rfl ?_
            refine ex_goto (pc := 168) (fr_get fo_55_4 4 rfl) (t := 278) rfl ?_
            exact h
      · replace h := h.2 c
        refine xv_tc (t := 171) ic_10013 rfl (fun c => ?_) (fun c => ?_)
        · replace h := h.1 c
          refine ex_iload (pc := 171) (fr_get fo_55_4 5 rfl) rfl ?_
          refine xv_beq (pc := 173) (fr_get fo_55_4 6 rfl) (t := 185) rfl (fun c => ?_) (fun c => ?_)
          · replace h := h.1 c
            refine ex_iconst (pc := 185) (fr_get fo_55_4 11 rfl) ic_0 ?_
            refine ex_istore (pc := 186) (fr_get fo_55_4 12 rfl) rfl (L' := [some (.inr (.inr (19, q0))), some (.inl v1), some (.inr (.inr (26, 0))), some (.inl v3), some (.inl v4), some (.inl v5), some (.inl v6), some (.inl v7), some (.inl (0 : Int32))]) rfl ?_
            refine ex_goto (pc := 188) (fr_get fo_55_4 13 rfl) (t := 278) rfl ?_
            exact h
          · replace h := h.2 c
            refine ex_iload (pc := 176) (fr_get fo_55_4 7 rfl) rfl ?_
            refine xv_beq (pc := 178) (fr_get fo_55_4 8 rfl) (t := 185) rfl (fun c => ?_) (fun c => ?_)
            · replace h := h.1 c
              refine ex_iconst (pc := 185) (fr_get fo_55_4 11 rfl) ic_0 ?_
              refine ex_istore (pc := 186) (fr_get fo_55_4 12 rfl) rfl (L' := [some (.inr (.inr (19, q0))), some (.inl v1), some (.inr (.inr (26, 0))), some (.inl v3), some (.inl v4), some (.inl v5), some (.inl v6), some (.inl v7), some (.inl (0 : Int32))]) rfl ?_
              refine ex_goto (pc := 188) (fr_get fo_55_4 13 rfl) (t := 278) rfl ?_
              exact h
            · replace h := h.2 c
              refine ex_iconst (pc := 181) (fr_get fo_55_4 9 rfl) ic_1 ?_
              refine ex_goto (pc := 182) (fr_get fo_55_4 10 rfl) (t := 186) rfl ?_
              refine ex_istore (pc := 186) (fr_get fo_55_4 12 rfl) rfl (L' := [some (.inr (.inr (19, q0))), some (.inl v1), some (.inr (.inr (26, 0))), some (.inl v3), some (.inl v4), some (.inl v5), some (.inl v6), some (.inl v7), some (.inl (1 : Int32))]) rfl ?_
              refine ex_goto (pc := 188) (fr_get fo_55_4 13 rfl) (t := 278) rfl ?_
              exact h
        · replace h := h.2 c
          refine xv_tc (t := 191) ic_10014 rfl (fun c => ?_) (fun c => ?_)
          · replace h := h.1 c
            refine ex_iload (pc := 191) (fr_get fo_55_4 14 rfl) rfl ?_
            refine ex_iload (pc := 193) (fr_get fo_55_4 15 rfl) rfl ?_
            refine xv_cge (pc := 195) (fr_get fo_55_5 0 rfl) (t := 202) rfl (fun c => ?_) (fun c => ?_)
            · replace h := h.1 c
              refine ex_iconst (pc := 202) (fr_get fo_55_5 3 rfl) ic_0 ?_
              refine ex_istore (pc := 203) (fr_get fo_55_5 4 rfl) rfl (L' := [some (.inr (.inr (19, q0))), some (.inl v1), some (.inr (.inr (26, 0))), some (.inl v3), some (.inl v4), some (.inl v5), some (.inl v6), some (.inl v7), some (.inl (0 : Int32))]) rfl ?_
              refine ex_goto (pc := 205) (fr_get fo_55_5 5 rfl) (t := 278) rfl ?_
              exact h
            · replace h := h.2 c
              refine ex_iconst (pc := 198) (fr_get fo_55_5 1 rfl) ic_1 ?_
              refine ex_goto (pc := 199) (fr_get fo_55_5 2 rfl) (t := 203) rfl ?_
              refine ex_istore (pc := 203) (fr_get fo_55_5 4 rfl) rfl (L' := [some (.inr (.inr (19, q0))), some (.inl v1), some (.inr (.inr (26, 0))), some (.inl v3), some (.inl v4), some (.inl v5), some (.inl v6), some (.inl v7), some (.inl (1 : Int32))]) rfl ?_
              refine ex_goto (pc := 205) (fr_get fo_55_5 5 rfl) (t := 278) rfl ?_
              exact h
          · replace h := h.2 c
            refine xv_tc (t := 208) ic_10015 rfl (fun c => ?_) (fun c => ?_)
            · replace h := h.1 c
              refine ex_iload (pc := 208) (fr_get fo_55_5 6 rfl) rfl ?_
              refine ex_iload (pc := 210) (fr_get fo_55_5 7 rfl) rfl ?_
              refine xv_cne (pc := 212) (fr_get fo_55_5 8 rfl) (t := 219) rfl (fun c => ?_) (fun c => ?_)
              · replace h := h.1 c
                refine ex_iconst (pc := 219) (fr_get fo_55_5 11 rfl) ic_0 ?_
                refine ex_istore (pc := 220) (fr_get fo_55_5 12 rfl) rfl (L' := [some (.inr (.inr (19, q0))), some (.inl v1), some (.inr (.inr (26, 0))), some (.inl v3), some (.inl v4), some (.inl v5), some (.inl v6), some (.inl v7), some (.inl (0 : Int32))]) rfl ?_
                refine ex_goto (pc := 222) (fr_get fo_55_5 13 rfl) (t := 278) rfl ?_
                exact h
              · replace h := h.2 c
                refine ex_iconst (pc := 215) (fr_get fo_55_5 9 rfl) ic_1 ?_
                refine ex_goto (pc := 216) (fr_get fo_55_5 10 rfl) (t := 220) rfl ?_
                refine ex_istore (pc := 220) (fr_get fo_55_5 12 rfl) rfl (L' := [some (.inr (.inr (19, q0))), some (.inl v1), some (.inr (.inr (26, 0))), some (.inl v3), some (.inl v4), some (.inl v5), some (.inl v6), some (.inl v7), some (.inl (1 : Int32))]) rfl ?_
                refine ex_goto (pc := 222) (fr_get fo_55_5 13 rfl) (t := 278) rfl ?_
                exact h
            · replace h := h.2 c
              refine xv_tc (t := 225) ic_10016 rfl (fun c => ?_) (fun c => ?_)
              · replace h := h.1 c
                refine ex_iload (pc := 225) (fr_get fo_55_5 14 rfl) rfl ?_
                refine ex_iload (pc := 227) (fr_get fo_55_5 15 rfl) rfl ?_
                refine ex_iadd (pc := 229) (fr_get fo_55_6 0 rfl) ?_
                refine ex_istore (pc := 230) (fr_get fo_55_6 1 rfl) rfl (L' := [some (.inr (.inr (19, q0))), some (.inl v1), some (.inr (.inr (26, 0))), some (.inl v3), some (.inl v4), some (.inl v5), some (.inl v6), some (.inl v7), some (.inl (v7 + v6))]) rfl ?_
                refine ex_goto (pc := 232) (fr_get fo_55_6 2 rfl) (t := 278) rfl ?_
                exact h
              · replace h := h.2 c
                refine xv_tc (t := 235) ic_10017 rfl (fun c => ?_) (fun c => ?_)
                · replace h := h.1 c
                  refine ex_iload (pc := 235) (fr_get fo_55_6 3 rfl) rfl ?_
                  refine ex_iload (pc := 237) (fr_get fo_55_6 4 rfl) rfl ?_
                  refine ex_isub (pc := 239) (fr_get fo_55_6 5 rfl) ?_
                  refine ex_istore (pc := 240) (fr_get fo_55_6 6 rfl) rfl (L' := [some (.inr (.inr (19, q0))), some (.inl v1), some (.inr (.inr (26, 0))), some (.inl v3), some (.inl v4), some (.inl v5), some (.inl v6), some (.inl v7), some (.inl (v7 - v6))]) rfl ?_
                  refine ex_goto (pc := 242) (fr_get fo_55_6 7 rfl) (t := 278) rfl ?_
                  exact h
                · replace h := h.2 c
                  refine xv_tc (t := 245) ic_10018 rfl (fun c => ?_) (fun c => ?_)
                  · replace h := h.1 c
                    refine ex_iload (pc := 245) (fr_get fo_55_6 8 rfl) rfl ?_
                    refine ex_iload (pc := 247) (fr_get fo_55_6 9 rfl) rfl ?_
                    refine ex_imul (pc := 249) (fr_get fo_55_6 10 rfl) ?_
                    refine ex_istore (pc := 250) (fr_get fo_55_6 11 rfl) rfl (L' := [some (.inr (.inr (19, q0))), some (.inl v1), some (.inr (.inr (26, 0))), some (.inl v3), some (.inl v4), some (.inl v5), some (.inl v6), some (.inl v7), some (.inl (v7 * v6))]) rfl ?_
                    refine ex_goto (pc := 252) (fr_get fo_55_6 12 rfl) (t := 278) rfl ?_
                    exact h
                  · replace h := h.2 c
                    refine xv_tn (t := 255) rfl ?_
                    refine ex_iload (pc := 255) (fr_get fo_55_6 13 rfl) rfl ?_
                    refine ex_sipush (pc := 257) (fr_get fo_55_6 14 rfl) sp_10000 ?_
                    refine xv_cge (pc := 260) (fr_get fo_55_6 15 rfl) (t := 268) rfl (fun c => ?_) (fun c => ?_)
                    · replace h := h.1 c
                      refine ex_aload_n (pc := 268) (fr_get fo_55_7 2 rfl) rfl rfl ?_
                      refine ex_iload (pc := 269) (fr_get fo_55_7 3 rfl) rfl ?_
                      refine ex_sipush (pc := 271) (fr_get fo_55_7 4 rfl) sp_10000 ?_
                      refine ex_isub (pc := 274) (fr_get fo_55_7 5 rfl) ?_
                      refine xv_iald (pc := 275) (fr_get fo_55_7 6 rfl) gk_26 (n := 6) (gn_26 ..) rfl rfl h.1 ?_
                      replace h := h.2
                      refine ex_istore (pc := 276) (fr_get fo_55_7 7 rfl) rfl (L' := [some (.inr (.inr (19, q0))), some (.inl v1), some (.inr (.inr (26, 0))), some (.inl v3), some (.inl v4), some (.inl v5), some (.inl v6), some (.inl v7), some (.inl (I 26 0 ((v5 - (10000 : Int32)).toNatClampNeg)))]) rfl ?_
                      exact h
                    · replace h := h.2 c
                      refine ex_iload (pc := 263) (fr_get fo_55_7 0 rfl) rfl ?_
                      refine ex_goto (pc := 265) (fr_get fo_55_7 1 rfl) (t := 276) rfl ?_
                      refine ex_istore (pc := 276) (fr_get fo_55_7 7 rfl) rfl (L' := [some (.inr (.inr (19, q0))), some (.inl v1), some (.inr (.inr (26, 0))), some (.inl v3), some (.inl v4), some (.inl v5), some (.inl v6), some (.inl v7), some (.inl v5)]) rfl ?_
                      exact h

theorem b_55_19_26_278 {d : Nat} {I : ma_I} {o : Nat} {Q : ma_Q} {q0 : Nat} {v1 : Int32} {v3 : Int32} {v4 : Int32} {v5 : Int32} {v6 : Int32} {v7 : Int32} {v8 : Int32}
  (h :
    ((10010 : Int32) ≤ v5 →
      (v5 ≤ (10011 : Int32) →
        (v3 < (1 : Int32) →
          Ex (d) 55 (20, [some (.inr (.inr (19, q0))), some (.inl v1), some (.inr (.inr (26, 0))), some (.inl v3), some (.inl (v4 + (1 : Int32))), some (.inl v5), some (.inl v6), some (.inl v7), some (.inl v8)], [], ma_mem I o, 0, 0) (ma_end Q)) ∧
        ((1 : Int32) ≤ v3 →
          ((40 : Int32) < v3 →
            Ex (d) 55 (20, [some (.inr (.inr (19, q0))), some (.inl v1), some (.inr (.inr (26, 0))), some (.inl v3), some (.inl (v4 + (1 : Int32))), some (.inl v5), some (.inl v6), some (.inl v7), some (.inl v8)], [], ma_mem I o, 0, 0) (ma_end Q)) ∧
          (v3 ≤ (40 : Int32) →
            ma_in (v3 - (1 : Int32)) 40 ∧
            Ex (d) 55 (20, [some (.inr (.inr (19, q0))), some (.inl v1), some (.inr (.inr (26, 0))), some (.inl v3), some (.inl (v4 + (1 : Int32))), some (.inl v5), some (.inl v6), some (.inl v7), some (.inl v8)], [], ma_mem (ma_up I 22 q0 ((v3 - (1 : Int32)).toNatClampNeg) v8) o, 0, 0) (ma_end Q)))) ∧
      ((10011 : Int32) < v5 →
        (v3 + (-1 : Int32) < (1 : Int32) →
          Ex (d) 55 (20, [some (.inr (.inr (19, q0))), some (.inl v1), some (.inr (.inr (26, 0))), some (.inl (v3 + (-1 : Int32))), some (.inl (v4 + (1 : Int32))), some (.inl v5), some (.inl v6), some (.inl v7), some (.inl v8)], [], ma_mem I o, 0, 0) (ma_end Q)) ∧
        ((1 : Int32) ≤ v3 + (-1 : Int32) →
          ((40 : Int32) < v3 + (-1 : Int32) →
            Ex (d) 55 (20, [some (.inr (.inr (19, q0))), some (.inl v1), some (.inr (.inr (26, 0))), some (.inl (v3 + (-1 : Int32))), some (.inl (v4 + (1 : Int32))), some (.inl v5), some (.inl v6), some (.inl v7), some (.inl v8)], [], ma_mem I o, 0, 0) (ma_end Q)) ∧
          (v3 + (-1 : Int32) ≤ (40 : Int32) →
            ma_in ((v3 + (-1 : Int32)) - (1 : Int32)) 40 ∧
            Ex (d) 55 (20, [some (.inr (.inr (19, q0))), some (.inl v1), some (.inr (.inr (26, 0))), some (.inl (v3 + (-1 : Int32))), some (.inl (v4 + (1 : Int32))), some (.inl v5), some (.inl v6), some (.inl v7), some (.inl v8)], [], ma_mem (ma_up I 22 q0 (((v3 + (-1 : Int32)) - (1 : Int32)).toNatClampNeg) v8) o, 0, 0) (ma_end Q))))) ∧
    (v5 < (10010 : Int32) →
      (v3 + (1 : Int32) < (1 : Int32) →
        Ex (d) 55 (20, [some (.inr (.inr (19, q0))), some (.inl v1), some (.inr (.inr (26, 0))), some (.inl (v3 + (1 : Int32))), some (.inl (v4 + (1 : Int32))), some (.inl v5), some (.inl v6), some (.inl v7), some (.inl v8)], [], ma_mem I o, 0, 0) (ma_end Q)) ∧
      ((1 : Int32) ≤ v3 + (1 : Int32) →
        ((40 : Int32) < v3 + (1 : Int32) →
          Ex (d) 55 (20, [some (.inr (.inr (19, q0))), some (.inl v1), some (.inr (.inr (26, 0))), some (.inl (v3 + (1 : Int32))), some (.inl (v4 + (1 : Int32))), some (.inl v5), some (.inl v6), some (.inl v7), some (.inl v8)], [], ma_mem I o, 0, 0) (ma_end Q)) ∧
        (v3 + (1 : Int32) ≤ (40 : Int32) →
          ma_in ((v3 + (1 : Int32)) - (1 : Int32)) 40 ∧
          Ex (d) 55 (20, [some (.inr (.inr (19, q0))), some (.inl v1), some (.inr (.inr (26, 0))), some (.inl (v3 + (1 : Int32))), some (.inl (v4 + (1 : Int32))), some (.inl v5), some (.inl v6), some (.inl v7), some (.inl v8)], [], ma_mem (ma_up I 22 q0 (((v3 + (1 : Int32)) - (1 : Int32)).toNatClampNeg) v8) o, 0, 0) (ma_end Q))))) :
  Ex (d) 55 (278, [some (.inr (.inr (19, q0))), some (.inl v1), some (.inr (.inr (26, 0))), some (.inl v3), some (.inl v4), some (.inl v5), some (.inl v6), some (.inl v7), some (.inl v8)], [], ma_mem I o, 0, 0) (ma_end Q) := by
  refine ex_iload (pc := 278) (fr_get fo_55_7 8 rfl) rfl ?_
  refine ex_sipush (pc := 280) (fr_get fo_55_7 9 rfl) sp_10010 ?_
  refine xv_cge (pc := 283) (fr_get fo_55_7 10 rfl) (t := 292) rfl (fun c => ?_) (fun c => ?_)
  · replace h := h.1 c
    refine ex_iload (pc := 292) (fr_get fo_55_7 13 rfl) rfl ?_
    refine ex_sipush (pc := 294) (fr_get fo_55_7 14 rfl) sp_10011 ?_
    refine xv_cle (pc := 297) (fr_get fo_55_7 15 rfl) (t := 303) rfl (fun c => ?_) (fun c => ?_)
    · replace h := h.1 c
      refine ex_iload_n (pc := 303) (fr_get fo_55_8 1 rfl) rfl ?_
      refine ex_iconst (pc := 304) (fr_get fo_55_8 2 rfl) ic_1 ?_
      refine xv_clt (pc := 305) (fr_get fo_55_8 3 rfl) (t := 324) rfl (fun c => ?_) (fun c => ?_)
      · replace h := h.1 c
        refine xv_iinc (pc := 324) (fr_get fo_55_8 14 rfl) rfl ic_1 (L' := [some (.inr (.inr (19, q0))), some (.inl v1), some (.inr (.inr (26, 0))), some (.inl v3), some (.inl (v4 + (1 : Int32))), some (.inl v5), some (.inl v6), some (.inl v7), some (.inl v8)]) rfl ?_
        refine ex_goto (pc := 327) (fr_get fo_55_8 15 rfl) (t := 20) rfl ?_
        exact h
      · replace h := h.2 c
        refine ex_iload_n (pc := 308) (fr_get fo_55_8 4 rfl) rfl ?_
        refine ex_bipush (pc := 309) (fr_get fo_55_8 5 rfl) bp_40 ?_
        refine xv_cgt (pc := 311) (fr_get fo_55_8 6 rfl) (t := 324) rfl (fun c => ?_) (fun c => ?_)
        · replace h := h.1 c
          refine xv_iinc (pc := 324) (fr_get fo_55_8 14 rfl) rfl ic_1 (L' := [some (.inr (.inr (19, q0))), some (.inl v1), some (.inr (.inr (26, 0))), some (.inl v3), some (.inl (v4 + (1 : Int32))), some (.inl v5), some (.inl v6), some (.inl v7), some (.inl v8)]) rfl ?_
          refine ex_goto (pc := 327) (fr_get fo_55_8 15 rfl) (t := 20) rfl ?_
          exact h
        · replace h := h.2 c
          refine ex_aload_n (pc := 314) (fr_get fo_55_8 7 rfl) rfl rfl ?_
          refine ex_gr (pc := 315) (fr_get fo_55_8 8 rfl) ow_55 fr_6_18_19 (q := (22, q0)) rfl ?_
          refine ex_iload_n (pc := 318) (fr_get fo_55_8 9 rfl) rfl ?_
          refine ex_iconst (pc := 319) (fr_get fo_55_8 10 rfl) ic_1 ?_
          refine ex_isub (pc := 320) (fr_get fo_55_8 11 rfl) ?_
          refine ex_iload (pc := 321) (fr_get fo_55_8 12 rfl) rfl ?_
          refine xv_iast (pc := 323) (fr_get fo_55_8 13 rfl) gs_22 gl_22 rfl h.1 ?_
          replace h := h.2
          refine xv_iinc (pc := 324) (fr_get fo_55_8 14 rfl) rfl ic_1 (L' := [some (.inr (.inr (19, q0))), some (.inl v1), some (.inr (.inr (26, 0))), some (.inl v3), some (.inl (v4 + (1 : Int32))), some (.inl v5), some (.inl v6), some (.inl v7), some (.inl v8)]) rfl ?_
          refine ex_goto (pc := 327) (fr_get fo_55_8 15 rfl) (t := 20) rfl ?_
          exact h
    · replace h := h.2 c
      refine xv_iinc (pc := 300) (fr_get fo_55_8 0 rfl) rfl ic_m1 (L' := [some (.inr (.inr (19, q0))), some (.inl v1), some (.inr (.inr (26, 0))), some (.inl (v3 + (-1 : Int32))), some (.inl v4), some (.inl v5), some (.inl v6), some (.inl v7), some (.inl v8)]) rfl ?_
      refine ex_iload_n (pc := 303) (fr_get fo_55_8 1 rfl) rfl ?_
      refine ex_iconst (pc := 304) (fr_get fo_55_8 2 rfl) ic_1 ?_
      refine xv_clt (pc := 305) (fr_get fo_55_8 3 rfl) (t := 324) rfl (fun c => ?_) (fun c => ?_)
      · replace h := h.1 c
        refine xv_iinc (pc := 324) (fr_get fo_55_8 14 rfl) rfl ic_1 (L' := [some (.inr (.inr (19, q0))), some (.inl v1), some (.inr (.inr (26, 0))), some (.inl (v3 + (-1 : Int32))), some (.inl (v4 + (1 : Int32))), some (.inl v5), some (.inl v6), some (.inl v7), some (.inl v8)]) rfl ?_
        refine ex_goto (pc := 327) (fr_get fo_55_8 15 rfl) (t := 20) rfl ?_
        exact h
      · replace h := h.2 c
        refine ex_iload_n (pc := 308) (fr_get fo_55_8 4 rfl) rfl ?_
        refine ex_bipush (pc := 309) (fr_get fo_55_8 5 rfl) bp_40 ?_
        refine xv_cgt (pc := 311) (fr_get fo_55_8 6 rfl) (t := 324) rfl (fun c => ?_) (fun c => ?_)
        · replace h := h.1 c
          refine xv_iinc (pc := 324) (fr_get fo_55_8 14 rfl) rfl ic_1 (L' := [some (.inr (.inr (19, q0))), some (.inl v1), some (.inr (.inr (26, 0))), some (.inl (v3 + (-1 : Int32))), some (.inl (v4 + (1 : Int32))), some (.inl v5), some (.inl v6), some (.inl v7), some (.inl v8)]) rfl ?_
          refine ex_goto (pc := 327) (fr_get fo_55_8 15 rfl) (t := 20) rfl ?_
          exact h
        · replace h := h.2 c
          refine ex_aload_n (pc := 314) (fr_get fo_55_8 7 rfl) rfl rfl ?_
          refine ex_gr (pc := 315) (fr_get fo_55_8 8 rfl) ow_55 fr_6_18_19 (q := (22, q0)) rfl ?_
          refine ex_iload_n (pc := 318) (fr_get fo_55_8 9 rfl) rfl ?_
          refine ex_iconst (pc := 319) (fr_get fo_55_8 10 rfl) ic_1 ?_
          refine ex_isub (pc := 320) (fr_get fo_55_8 11 rfl) ?_
          refine ex_iload (pc := 321) (fr_get fo_55_8 12 rfl) rfl ?_
          refine xv_iast (pc := 323) (fr_get fo_55_8 13 rfl) gs_22 gl_22 rfl h.1 ?_
          replace h := h.2
          refine xv_iinc (pc := 324) (fr_get fo_55_8 14 rfl) rfl ic_1 (L' := [some (.inr (.inr (19, q0))), some (.inl v1), some (.inr (.inr (26, 0))), some (.inl (v3 + (-1 : Int32))), some (.inl (v4 + (1 : Int32))), some (.inl v5), some (.inl v6), some (.inl v7), some (.inl v8)]) rfl ?_
          refine ex_goto (pc := 327) (fr_get fo_55_8 15 rfl) (t := 20) rfl ?_
          exact h
  · replace h := h.2 c
    refine xv_iinc (pc := 286) (fr_get fo_55_7 11 rfl) rfl ic_1 (L' := [some (.inr (.inr (19, q0))), some (.inl v1), some (.inr (.inr (26, 0))), some (.inl (v3 + (1 : Int32))), some (.inl v4), some (.inl v5), some (.inl v6), some (.inl v7), some (.inl v8)]) rfl ?_
    refine ex_goto (pc := 289) (fr_get fo_55_7 12 rfl) (t := 303) rfl ?_
    refine ex_iload_n (pc := 303) (fr_get fo_55_8 1 rfl) rfl ?_
    refine ex_iconst (pc := 304) (fr_get fo_55_8 2 rfl) ic_1 ?_
    refine xv_clt (pc := 305) (fr_get fo_55_8 3 rfl) (t := 324) rfl (fun c => ?_) (fun c => ?_)
    · replace h := h.1 c
      refine xv_iinc (pc := 324) (fr_get fo_55_8 14 rfl) rfl ic_1 (L' := [some (.inr (.inr (19, q0))), some (.inl v1), some (.inr (.inr (26, 0))), some (.inl (v3 + (1 : Int32))), some (.inl (v4 + (1 : Int32))), some (.inl v5), some (.inl v6), some (.inl v7), some (.inl v8)]) rfl ?_
      refine ex_goto (pc := 327) (fr_get fo_55_8 15 rfl) (t := 20) rfl ?_
      exact h
    · replace h := h.2 c
      refine ex_iload_n (pc := 308) (fr_get fo_55_8 4 rfl) rfl ?_
      refine ex_bipush (pc := 309) (fr_get fo_55_8 5 rfl) bp_40 ?_
      refine xv_cgt (pc := 311) (fr_get fo_55_8 6 rfl) (t := 324) rfl (fun c => ?_) (fun c => ?_)
      · replace h := h.1 c
        refine xv_iinc (pc := 324) (fr_get fo_55_8 14 rfl) rfl ic_1 (L' := [some (.inr (.inr (19, q0))), some (.inl v1), some (.inr (.inr (26, 0))), some (.inl (v3 + (1 : Int32))), some (.inl (v4 + (1 : Int32))), some (.inl v5), some (.inl v6), some (.inl v7), some (.inl v8)]) rfl ?_
        refine ex_goto (pc := 327) (fr_get fo_55_8 15 rfl) (t := 20) rfl ?_
        exact h
      · replace h := h.2 c
        refine ex_aload_n (pc := 314) (fr_get fo_55_8 7 rfl) rfl rfl ?_
        refine ex_gr (pc := 315) (fr_get fo_55_8 8 rfl) ow_55 fr_6_18_19 (q := (22, q0)) rfl ?_
        refine ex_iload_n (pc := 318) (fr_get fo_55_8 9 rfl) rfl ?_
        refine ex_iconst (pc := 319) (fr_get fo_55_8 10 rfl) ic_1 ?_
        refine ex_isub (pc := 320) (fr_get fo_55_8 11 rfl) ?_
        refine ex_iload (pc := 321) (fr_get fo_55_8 12 rfl) rfl ?_
        refine xv_iast (pc := 323) (fr_get fo_55_8 13 rfl) gs_22 gl_22 rfl h.1 ?_
        replace h := h.2
        refine xv_iinc (pc := 324) (fr_get fo_55_8 14 rfl) rfl ic_1 (L' := [some (.inr (.inr (19, q0))), some (.inl v1), some (.inr (.inr (26, 0))), some (.inl (v3 + (1 : Int32))), some (.inl (v4 + (1 : Int32))), some (.inl v5), some (.inl v6), some (.inl v7), some (.inl v8)]) rfl ?_
        refine ex_goto (pc := 327) (fr_get fo_55_8 15 rfl) (t := 20) rfl ?_
        exact h

theorem e_57 {d : Nat} {I : ma_I} {o : Nat} {Q : ma_Q} {a2 : Int32} {a3 : Int32} {a4 : Int32}
  (h :
    Ex (d + 1) 57 (50, [some (.inr (.inr (10, 0))), some (.inr (.inr (6, 0))), some (.inl a2), some (.inl a3), some (.inl a4), some (.inl (0 : Int32))], [], ma_mem (ma_up (ma_up (ma_up (ma_up (ma_up (ma_up (ma_up (ma_up (ma_up I 10 0 0 (-1 : Int32)) 10 0 1 a3) 10 0 7 a3) 10 0 2 a2) 10 0 3 (0 : Int32)) 10 0 5 (0 : Int32)) 10 0 6 (0 : Int32)) 32 0 0 a2) 10 0 4 (1 : Int32)) o, 0, 0) (ma_end Q)) :
  Exm (d + 1) 57 [.inr (.inr (10, 0)), .inr (.inr (6, 0)), .inl a2, .inl a3, .inl a4] I o Q := by
  show Ex (d + 1) 57 (0, [some (.inr (.inr (10, 0))), some (.inr (.inr (6, 0))), some (.inl a2), some (.inl a3), some (.inl a4), none], [], ma_mem I o, 0, 0) (ma_end Q)
  refine ex_aload_n (pc := 0) (fr_get fo_57_0 0 rfl) rfl rfl ?_
  refine ex_iconst (pc := 1) (fr_get fo_57_0 1 rfl) ic_m1 ?_
  refine ex_pi (pc := 2) (fr_get fo_57_0 2 rfl) ow_57 fp_7_15_10 ?_
  refine ex_aload_n (pc := 5) (fr_get fo_57_0 3 rfl) rfl rfl ?_
  refine ex_iload_n (pc := 6) (fr_get fo_57_0 4 rfl) rfl ?_
  refine ex_pi (pc := 7) (fr_get fo_57_0 5 rfl) ow_57 fp_7_19_10 ?_
  refine ex_aload_n (pc := 10) (fr_get fo_57_0 6 rfl) rfl rfl ?_
  refine ex_iload_n (pc := 11) (fr_get fo_57_0 7 rfl) rfl ?_
  refine ex_pi (pc := 12) (fr_get fo_57_0 8 rfl) ow_57 fp_7_22_10 ?_
  refine ex_aload_n (pc := 15) (fr_get fo_57_0 9 rfl) rfl rfl ?_
  refine ex_iload_n (pc := 16) (fr_get fo_57_0 10 rfl) rfl ?_
  refine ex_pi (pc := 17) (fr_get fo_57_0 11 rfl) ow_57 fp_7_25_10 ?_
  refine ex_aload_n (pc := 20) (fr_get fo_57_0 12 rfl) rfl rfl ?_
  refine ex_iconst (pc := 21) (fr_get fo_57_0 13 rfl) ic_0 ?_
  refine ex_pi (pc := 22) (fr_get fo_57_0 14 rfl) ow_57 fp_7_28_10 ?_
  refine ex_aload_n (pc := 25) (fr_get fo_57_0 15 rfl) rfl rfl ?_
  refine ex_iconst (pc := 26) (fr_get fo_57_1 0 rfl) ic_0 ?_
  refine ex_pi (pc := 27) (fr_get fo_57_1 1 rfl) ow_57 fp_7_31_10 ?_
  refine ex_aload_n (pc := 30) (fr_get fo_57_1 2 rfl) rfl rfl ?_
  refine ex_iconst (pc := 31) (fr_get fo_57_1 3 rfl) ic_0 ?_
  refine xv_pb (pc := 32) (fr_get fo_57_1 4 rfl) ow_57 fb_7_34_10 (Or.inl rfl) ?_
  refine ex_aload_n (pc := 35) (fr_get fo_57_1 5 rfl) rfl rfl ?_
  refine ex_gr (pc := 36) (fr_get fo_57_1 6 rfl) ow_57 fr_7_9_10 (q := (32, 0)) rfl ?_
  refine ex_iconst (pc := 39) (fr_get fo_57_1 7 rfl) ic_0 ?_
  refine ex_iload_n (pc := 40) (fr_get fo_57_1 8 rfl) rfl ?_
  refine xv_iast (pc := 41) (fr_get fo_57_1 9 rfl) gs_32 gl_32 cl_0 mi_0_22 ?_
  refine ex_aload_n (pc := 42) (fr_get fo_57_1 10 rfl) rfl rfl ?_
  refine ex_iconst (pc := 43) (fr_get fo_57_1 11 rfl) ic_1 ?_
  refine ex_pi (pc := 44) (fr_get fo_57_1 12 rfl) ow_57 fp_7_38_10 ?_
  refine ex_iconst (pc := 47) (fr_get fo_57_1 13 rfl) ic_0 ?_
  refine ex_istore (pc := 48) (fr_get fo_57_1 14 rfl) rfl (L' := [some (.inr (.inr (10, 0))), some (.inr (.inr (6, 0))), some (.inl a2), some (.inl a3), some (.inl a4), some (.inl (0 : Int32))]) rfl ?_
  exact h

theorem b_57_50 {d : Nat} {I : ma_I} {o : Nat} {Q : ma_Q} {v2 : Int32} {v3 : Int32} {v4 : Int32} {v5 : Int32}
  (h :
    ((22 : Int32) ≤ v5 →
      Q none I o) ∧
    (v5 < (22 : Int32) →
      (I 10 0 0 ≠ (-1 : Int32) →
        Q none I o) ∧
      (I 10 0 0 = (-1 : Int32) →
        Exm (d) 14 [.inr (.inr (6, 0)), .inl (I 10 0 1)] I o (fun r J1 p2 => ∃ x3 : Int32, r = some (.inl x3) ∧
          (x3 ≠ J1 10 0 2 →
            (J1 6 0 0 < J1 10 0 3 →
              Ex (d + 1) 57 (50, [some (.inr (.inr (10, 0))), some (.inr (.inr (6, 0))), some (.inl v2), some (.inl v3), some (.inl v4), some (.inl (v5 + (1 : Int32)))], [], ma_mem (ma_up J1 10 0 0 (1 : Int32)) p2, 0, 0) (ma_end Q)) ∧
            (J1 10 0 3 ≤ J1 6 0 0 →
              (J1 10 0 1 ≤ (99 : Int32) →
                Exm (d) 58 [.inr (.inr (10, 0)), .inr (.inr (6, 0)), .inl v4] J1 p2 (fun r J4 p5 => r = none ∧
                  Ex (d + 1) 57 (50, [some (.inr (.inr (10, 0))), some (.inr (.inr (6, 0))), some (.inl v2), some (.inl v3), some (.inl v4), some (.inl (v5 + (1 : Int32)))], [], ma_mem J4 p5, 0, 0) (ma_end Q))) ∧
              ((99 : Int32) < J1 10 0 1 →
                Ex (d + 1) 57 (50, [some (.inr (.inr (10, 0))), some (.inr (.inr (6, 0))), some (.inl v2), some (.inl v3), some (.inl v4), some (.inl (v5 + (1 : Int32)))], [], ma_mem (ma_up J1 10 0 0 (1 : Int32)) p2, 0, 0) (ma_end Q)))) ∧
          (x3 = J1 10 0 2 →
            Ex (d + 1) 57 (50, [some (.inr (.inr (10, 0))), some (.inr (.inr (6, 0))), some (.inl v2), some (.inl v3), some (.inl v4), some (.inl (v5 + (1 : Int32)))], [], ma_mem (ma_up J1 10 0 0 (0 : Int32)) p2, 0, 0) (ma_end Q)))))) :
  Ex (d + 1) 57 (50, [some (.inr (.inr (10, 0))), some (.inr (.inr (6, 0))), some (.inl v2), some (.inl v3), some (.inl v4), some (.inl v5)], [], ma_mem I o, 0, 0) (ma_end Q) := by
  refine ex_iload (pc := 50) (fr_get fo_57_1 15 rfl) rfl ?_
  refine ex_bipush (pc := 52) (fr_get fo_57_2 0 rfl) bp_22 ?_
  refine xv_cge (pc := 54) (fr_get fo_57_2 1 rfl) (t := 129) rfl (fun c => ?_) (fun c => ?_)
  · replace h := h.1 c
    exact ex_return (pc := 129) (fr_get fo_57_4 4 rfl) rt_57 rfl rfl (ma_end_mk h)
  · replace h := h.2 c
    refine ex_aload_n (pc := 57) (fr_get fo_57_2 2 rfl) rfl rfl ?_
    refine xv_gi (pc := 58) (fr_get fo_57_2 3 rfl) ow_57 fg_7_15_10 rfl ?_
    refine ex_iconst (pc := 61) (fr_get fo_57_2 4 rfl) ic_m1 ?_
    refine xv_cne (pc := 62) (fr_get fo_57_2 5 rfl) (t := 129) rfl (fun c => ?_) (fun c => ?_)
    · replace h := h.1 c
      exact ex_return (pc := 129) (fr_get fo_57_4 4 rfl) rt_57 rfl rfl (ma_end_mk h)
    · replace h := h.2 c
      refine ex_aload_n (pc := 65) (fr_get fo_57_2 6 rfl) rfl rfl ?_
      refine ex_aload_n (pc := 66) (fr_get fo_57_2 7 rfl) rfl rfl ?_
      refine xv_gi (pc := 67) (fr_get fo_57_2 8 rfl) ow_57 fg_7_19_10 rfl ?_
      refine xv_kv1 (pc := 70) (fr_get fo_57_2 9 rfl) cc_57_41 (as := [.inr (.inr (6, 0)), .inl (I 10 0 1)]) (rs := []) rfl rfl rfl rfl rfl ?_
      refine h.mono (fun r J1 p2 h => ?_)
      obtain ⟨x3, hr, h⟩ := h
      refine ⟨x3, hr, ?_⟩
      refine ex_aload_n (pc := 73) (fr_get fo_57_2 10 rfl) rfl rfl ?_
      refine xv_gi (pc := 74) (fr_get fo_57_2 11 rfl) ow_57 fg_7_25_10 rfl ?_
      refine xv_cne (pc := 77) (fr_get fo_57_2 12 rfl) (t := 88) rfl (fun c => ?_) (fun c => ?_)
      · replace h := h.1 c
        refine ex_aload_n (pc := 88) (fr_get fo_57_3 1 rfl) rfl rfl ?_
        refine xv_gi (pc := 89) (fr_get fo_57_3 2 rfl) ow_57 fg_7_28_10 rfl ?_
        refine ex_aload_n (pc := 92) (fr_get fo_57_3 3 rfl) rfl rfl ?_
        refine xv_gi (pc := 93) (fr_get fo_57_3 4 rfl) ow_57 fg_7_47_6 rfl ?_
        refine xv_cgt (pc := 96) (fr_get fo_57_3 5 rfl) (t := 108) rfl (fun c => ?_) (fun c => ?_)
        · replace h := h.1 c
          refine ex_aload_n (pc := 108) (fr_get fo_57_3 10 rfl) rfl rfl ?_
          refine ex_iconst (pc := 109) (fr_get fo_57_3 11 rfl) ic_1 ?_
          refine ex_pi (pc := 110) (fr_get fo_57_3 12 rfl) ow_57 fp_7_15_10 ?_
          refine ex_goto (pc := 113) (fr_get fo_57_3 13 rfl) (t := 123) rfl ?_
          refine xv_iinc (pc := 123) (fr_get fo_57_4 2 rfl) rfl ic_1 (L' := [some (.inr (.inr (10, 0))), some (.inr (.inr (6, 0))), some (.inl v2), some (.inl v3), some (.inl v4), some (.inl (v5 + (1 : Int32)))]) rfl ?_
          refine ex_goto (pc := 126) (fr_get fo_57_4 3 rfl) (t := 50) rfl ?_
          exact h
        · replace h := h.2 c
          refine ex_aload_n (pc := 99) (fr_get fo_57_3 6 rfl) rfl rfl ?_
          refine xv_gi (pc := 100) (fr_get fo_57_3 7 rfl) ow_57 fg_7_19_10 rfl ?_
          refine ex_bipush (pc := 103) (fr_get fo_57_3 8 rfl) bp_99 ?_
          refine xv_cle (pc := 105) (fr_get fo_57_3 9 rfl) (t := 116) rfl (fun c => ?_) (fun c => ?_)
          · replace h := h.1 c
            refine ex_aload_n (pc := 116) (fr_get fo_57_3 14 rfl) rfl rfl ?_
            refine ex_aload_n (pc := 117) (fr_get fo_57_3 15 rfl) rfl rfl ?_
            refine ex_iload (pc := 118) (fr_get fo_57_4 0 rfl) rfl ?_
            refine xv_kv0 (pc := 120) (fr_get fo_57_4 1 rfl) cc_57_50 (as := [.inr (.inr (10, 0)), .inr (.inr (6, 0)), .inl v4]) (rs := []) rfl rfl rfl rfl rfl ?_
            refine h.mono (fun r J4 p5 h => ⟨h.1, ?_⟩)
            replace h := h.2
            refine xv_iinc (pc := 123) (fr_get fo_57_4 2 rfl) rfl ic_1 (L' := [some (.inr (.inr (10, 0))), some (.inr (.inr (6, 0))), some (.inl v2), some (.inl v3), some (.inl v4), some (.inl (v5 + (1 : Int32)))]) rfl ?_
            refine ex_goto (pc := 126) (fr_get fo_57_4 3 rfl) (t := 50) rfl ?_
            exact h
          · replace h := h.2 c
            refine ex_aload_n (pc := 108) (fr_get fo_57_3 10 rfl) rfl rfl ?_
            refine ex_iconst (pc := 109) (fr_get fo_57_3 11 rfl) ic_1 ?_
            refine ex_pi (pc := 110) (fr_get fo_57_3 12 rfl) ow_57 fp_7_15_10 ?_
            refine ex_goto (pc := 113) (fr_get fo_57_3 13 rfl) (t := 123) rfl ?_
            refine xv_iinc (pc := 123) (fr_get fo_57_4 2 rfl) rfl ic_1 (L' := [some (.inr (.inr (10, 0))), some (.inr (.inr (6, 0))), some (.inl v2), some (.inl v3), some (.inl v4), some (.inl (v5 + (1 : Int32)))]) rfl ?_
            refine ex_goto (pc := 126) (fr_get fo_57_4 3 rfl) (t := 50) rfl ?_
            exact h
      · replace h := h.2 c
        refine ex_aload_n (pc := 80) (fr_get fo_57_2 13 rfl) rfl rfl ?_
        refine ex_iconst (pc := 81) (fr_get fo_57_2 14 rfl) ic_0 ?_
        refine ex_pi (pc := 82) (fr_get fo_57_2 15 rfl) ow_57 fp_7_15_10 ?_
        refine ex_goto (pc := 85) (fr_get fo_57_3 0 rfl) (t := 123) rfl ?_
        refine xv_iinc (pc := 123) (fr_get fo_57_4 2 rfl) rfl ic_1 (L' := [some (.inr (.inr (10, 0))), some (.inr (.inr (6, 0))), some (.inl v2), some (.inl v3), some (.inl v4), some (.inl (v5 + (1 : Int32)))]) rfl ?_
        refine ex_goto (pc := 126) (fr_get fo_57_4 3 rfl) (t := 50) rfl ?_
        exact h

theorem e_58 {d : Nat} {I : ma_I} {o : Nat} {Q : ma_Q} {a2 : Int32}
  (h :
    Exm (d) 19 [.inr (.inr (6, 0)), .inl (I 10 0 2), .inl (I 10 0 1), .inl a2] I o (fun r J1 p2 => ∃ x3 : Int32, r = some (.inl x3) ∧
      Exm (d) 20 [.inr (.inr (6, 0)), .inl (J1 10 0 2), .inl x3, .inl a2] (ma_up J1 10 0 1 x3) p2 (fun r J4 p5 => ∃ x6 : Int32, r = some (.inl x6) ∧
        Exm (d) 14 [.inr (.inr (6, 0)), .inl (J4 10 0 1)] J4 p5 (fun r J7 p8 => ∃ x9 : Int32, r = some (.inl x9) ∧
          (x9 ≠ J7 10 0 2 →
            (x6 ≠ (-1 : Int32) →
              Exm (d) 21 [.inr (.inr (6, 0)), .inl x6, .inl (J7 10 0 1), .inl (J7 10 0 3), .inl ((J7 10 0 1) - (J7 10 0 7))] J7 p8 (fun r J10 p11 => ∃ x12 : Int32, r = some (.inl x12) ∧
                ma_in x6 8 ∧
                (J10 10 0 6 ≠ 0 →
                  Exm (d) 59 [.inr (.inr (10, 0))] (ma_up (ma_up (ma_up (ma_up (ma_up J10 10 0 1 ((J7 10 0 1) + x12)) 10 0 2 (J10 17 x6.toNatClampNeg 3)) 10 0 3 ((J10 10 0 3) + (1 : Int32))) 10 0 6 (1 : Int32)) 10 0 5 ((J10 10 0 5) ||| ((1 : Int32) <<< (x6 &&& 31)))) p11 (fun r J13 p14 => r = none ∧
                    Q none J13 p14)) ∧
                (J10 10 0 6 = 0 →
                  (((J10 10 0 5) >>> (x6 &&& 31)) &&& (1 : Int32) = 0 →
                    Exm (d) 59 [.inr (.inr (10, 0))] (ma_up (ma_up (ma_up (ma_up (ma_up J10 10 0 1 ((J7 10 0 1) + x12)) 10 0 2 (J10 17 x6.toNatClampNeg 3)) 10 0 3 ((J10 10 0 3) + (1 : Int32))) 10 0 6 (0 : Int32)) 10 0 5 ((J10 10 0 5) ||| ((1 : Int32) <<< (x6 &&& 31)))) p11 (fun r J15 p16 => r = none ∧
                      Q none J15 p16)) ∧
                  (((J10 10 0 5) >>> (x6 &&& 31)) &&& (1 : Int32) ≠ 0 →
                    Exm (d) 59 [.inr (.inr (10, 0))] (ma_up (ma_up (ma_up (ma_up (ma_up J10 10 0 1 ((J7 10 0 1) + x12)) 10 0 2 (J10 17 x6.toNatClampNeg 3)) 10 0 3 ((J10 10 0 3) + (1 : Int32))) 10 0 6 (1 : Int32)) 10 0 5 ((J10 10 0 5) ||| ((1 : Int32) <<< (x6 &&& 31)))) p11 (fun r J17 p18 => r = none ∧
                      Q none J17 p18))))) ∧
            (x6 = (-1 : Int32) →
              Q none (ma_up J7 10 0 0 (2 : Int32)) p8)) ∧
          (x9 = J7 10 0 2 →
            Q none (ma_up J7 10 0 0 (0 : Int32)) p8))))) :
  Exm (d + 1) 58 [.inr (.inr (10, 0)), .inr (.inr (6, 0)), .inl a2] I o Q := by
  show Ex (d + 1) 58 (0, [some (.inr (.inr (10, 0))), some (.inr (.inr (6, 0))), some (.inl a2), none], [], ma_mem I o, 0, 0) (ma_end Q)
  refine ex_aload_n (pc := 0) (fr_get fo_58_0 0 rfl) rfl rfl ?_
  refine ex_aload_n (pc := 1) (fr_get fo_58_0 1 rfl) rfl rfl ?_
  refine ex_aload_n (pc := 2) (fr_get fo_58_0 2 rfl) rfl rfl ?_
  refine xv_gi (pc := 3) (fr_get fo_58_0 3 rfl) ow_58 fg_7_25_10 rfl ?_
  refine ex_aload_n (pc := 6) (fr_get fo_58_0 4 rfl) rfl rfl ?_
  refine xv_gi (pc := 7) (fr_get fo_58_0 5 rfl) ow_58 fg_7_19_10 rfl ?_
  refine ex_iload_n (pc := 10) (fr_get fo_58_0 6 rfl) rfl ?_
  refine xv_kv1 (pc := 11) (fr_get fo_58_0 7 rfl) cc_58_54 (as := [.inr (.inr (6, 0)), .inl (I 10 0 2), .inl (I 10 0 1), .inl a2]) (rs := [.inr (.inr (10, 0))]) rfl rfl rfl rfl rfl ?_
  refine h.mono (fun r J1 p2 h => ?_)
  obtain ⟨x3, hr, h⟩ := h
  refine ⟨x3, hr, ?_⟩
  refine ex_pi (pc := 14) (fr_get fo_58_0 8 rfl) ow_58 fp_7_19_10 ?_
  refine ex_aload_n (pc := 17) (fr_get fo_58_0 9 rfl) rfl rfl ?_
  refine ex_aload_n (pc := 18) (fr_get fo_58_0 10 rfl) rfl rfl ?_
  refine xv_gi (pc := 19) (fr_get fo_58_0 11 rfl) ow_58 fg_7_25_10 (xv_uj rfl) ?_
  refine ex_aload_n (pc := 22) (fr_get fo_58_0 12 rfl) rfl rfl ?_
  refine xv_gi (pc := 23) (fr_get fo_58_0 13 rfl) ow_58 fg_7_19_10 xv_us ?_
  refine ex_iload_n (pc := 26) (fr_get fo_58_0 14 rfl) rfl ?_
  refine xv_kv1 (pc := 27) (fr_get fo_58_0 15 rfl) cc_58_58 (as := [.inr (.inr (6, 0)), .inl (J1 10 0 2), .inl x3, .inl a2]) (rs := []) rfl rfl rfl rfl rfl ?_
  refine h.mono (fun r J4 p5 h => ?_)
  obtain ⟨x6, hr, h⟩ := h
  refine ⟨x6, hr, ?_⟩
  refine ex_istore_n (pc := 30) (fr_get fo_58_1 0 rfl) rfl (L' := [some (.inr (.inr (10, 0))), some (.inr (.inr (6, 0))), some (.inl a2), some (.inl x6)]) rfl ?_
  refine ex_aload_n (pc := 31) (fr_get fo_58_1 1 rfl) rfl rfl ?_
  refine ex_aload_n (pc := 32) (fr_get fo_58_1 2 rfl) rfl rfl ?_
  refine xv_gi (pc := 33) (fr_get fo_58_1 3 rfl) ow_58 fg_7_19_10 rfl ?_
  refine xv_kv1 (pc := 36) (fr_get fo_58_1 4 rfl) cc_58_41 (as := [.inr (.inr (6, 0)), .inl (J4 10 0 1)]) (rs := []) rfl rfl rfl rfl rfl ?_
  refine h.mono (fun r J7 p8 h => ?_)
  obtain ⟨x9, hr, h⟩ := h
  refine ⟨x9, hr, ?_⟩
  refine ex_aload_n (pc := 39) (fr_get fo_58_1 5 rfl) rfl rfl ?_
  refine xv_gi (pc := 40) (fr_get fo_58_1 6 rfl) ow_58 fg_7_25_10 rfl ?_
  refine xv_cne (pc := 43) (fr_get fo_58_1 7 rfl) (t := 54) rfl (fun c => ?_) (fun c => ?_)
  · replace h := h.1 c
    refine ex_iload_n (pc := 54) (fr_get fo_58_1 12 rfl) rfl ?_
    refine ex_iconst (pc := 55) (fr_get fo_58_1 13 rfl) ic_m1 ?_
    refine xv_cne (pc := 56) (fr_get fo_58_1 14 rfl) (t := 67) rfl (fun c => ?_) (fun c => ?_)
    · replace h := h.1 c
      refine ex_aload_n (pc := 67) (fr_get fo_58_2 3 rfl) rfl rfl ?_
      refine ex_dupr (pc := 68) (fr_get fo_58_2 4 rfl) ?_
      refine xv_gi (pc := 69) (fr_get fo_58_2 5 rfl) ow_58 fg_7_19_10 rfl ?_
      refine ex_aload_n (pc := 72) (fr_get fo_58_2 6 rfl) rfl rfl ?_
      refine ex_iload_n (pc := 73) (fr_get fo_58_2 7 rfl) rfl ?_
      refine ex_aload_n (pc := 74) (fr_get fo_58_2 8 rfl) rfl rfl ?_
      refine xv_gi (pc := 75) (fr_get fo_58_2 9 rfl) ow_58 fg_7_19_10 rfl ?_
      refine ex_aload_n (pc := 78) (fr_get fo_58_2 10 rfl) rfl rfl ?_
      refine xv_gi (pc := 79) (fr_get fo_58_2 11 rfl) ow_58 fg_7_28_10 rfl ?_
      refine ex_aload_n (pc := 82) (fr_get fo_58_2 12 rfl) rfl rfl ?_
      refine xv_kv1 (pc := 83) (fr_get fo_58_2 13 rfl) cc_58_61 (as := [.inr (.inr (10, 0))]) (rs := [.inl (J7 10 0 3), .inl (J7 10 0 1), .inl x6, .inr (.inr (6, 0)), .inl (J7 10 0 1), .inr (.inr (10, 0))]) rfl rfl rfl rfl rfl ?_
      refine sm_60 rfl rfl ?_
      refine ⟨_, rfl, ?_⟩
      refine xv_kv1 (pc := 86) (fr_get fo_58_2 14 rfl) cc_58_65 (as := [.inr (.inr (6, 0)), .inl x6, .inl (J7 10 0 1), .inl (J7 10 0 3), .inl ((J7 10 0 1) - (J7 10 0 7))]) (rs := [.inl (J7 10 0 1), .inr (.inr (10, 0))]) rfl rfl rfl rfl rfl ?_
      refine h.mono (fun r J10 p11 h => ?_)
      obtain ⟨x12, hr, h⟩ := h
      refine ⟨x12, hr, ?_⟩
      refine ex_iadd (pc := 89) (fr_get fo_58_2 15 rfl) ?_
      refine ex_pi (pc := 90) (fr_get fo_58_3 0 rfl) ow_58 fp_7_19_10 ?_
      refine ex_aload_n (pc := 93) (fr_get fo_58_3 1 rfl) rfl rfl ?_
      refine ex_aload_n (pc := 94) (fr_get fo_58_3 2 rfl) rfl rfl ?_
      refine ex_gr (pc := 95) (fr_get fo_58_3 3 rfl) ow_58 fr_7_69_6 (q := (16, 0)) rfl ?_
      refine ex_iload_n (pc := 98) (fr_get fo_58_3 4 rfl) rfl ?_
      refine xv_aald (pc := 99) (fr_get fo_58_3 5 rfl) ga_16 gl_16 (q := (17, x6.toNatClampNeg)) rfl rfl h.1 ?_
      replace h := h.2
      refine xv_gi (pc := 100) (fr_get fo_58_3 6 rfl) ow_58 fg_7_73_17 (xv_ug rfl) ?_
      refine ex_pi (pc := 103) (fr_get fo_58_3 7 rfl) ow_58 fp_7_25_10 ?_
      refine ex_aload_n (pc := 106) (fr_get fo_58_3 8 rfl) rfl rfl ?_
      refine ex_dupr (pc := 107) (fr_get fo_58_3 9 rfl) ?_
      refine xv_gi (pc := 108) (fr_get fo_58_3 10 rfl) ow_58 fg_7_28_10 (Eq.trans (xv_uj rfl) (xv_uj rfl)) ?_
      refine ex_iconst (pc := 111) (fr_get fo_58_3 11 rfl) ic_1 ?_
      refine ex_iadd (pc := 112) (fr_get fo_58_3 12 rfl) ?_
      refine ex_pi (pc := 113) (fr_get fo_58_3 13 rfl) ow_58 fp_7_28_10 ?_
      refine ex_aload_n (pc := 116) (fr_get fo_58_3 14 rfl) rfl rfl ?_
      refine ex_aload_n (pc := 117) (fr_get fo_58_3 15 rfl) rfl rfl ?_
      refine xv_gi (pc := 118) (fr_get fo_58_4 0 rfl) ow_58 fg_7_34_10 (Eq.trans (xv_uj rfl) (Eq.trans (xv_uj rfl) (xv_uj rfl))) ?_
      refine xv_bne (pc := 121) (fr_get fo_58_4 1 rfl) (t := 135) rfl (fun c => ?_) (fun c => ?_)
      · replace h := h.1 c
        refine ex_iconst (pc := 135) (fr_get fo_58_4 9 rfl) ic_1 ?_
        refine ex_goto (pc := 136) (fr_get fo_58_4 10 rfl) (t := 140) rfl ?_
        refine xv_pb (pc := 140) (fr_get fo_58_4 12 rfl) ow_58 fb_7_34_10 (Or.inr rfl) ?_
        refine ex_aload_n (pc := 143) (fr_get fo_58_4 13 rfl) rfl rfl ?_
        refine ex_dupr (pc := 144) (fr_get fo_58_4 14 rfl) ?_
        refine xv_gi (pc := 145) (fr_get fo_58_4 15 rfl) ow_58 fg_7_31_10 (Eq.trans (xv_uj rfl) (Eq.trans (xv_uj rfl) (Eq.trans (xv_uj rfl) (xv_uj rfl)))) ?_
        refine ex_iconst (pc := 148) (fr_get fo_58_5 0 rfl) ic_1 ?_
        refine ex_iload_n (pc := 149) (fr_get fo_58_5 1 rfl) rfl ?_
        refine ex_ishl (pc := 150) (fr_get fo_58_5 2 rfl) ?_
        refine ex_ior (pc := 151) (fr_get fo_58_5 3 rfl) ?_
        refine ex_pi (pc := 152) (fr_get fo_58_5 4 rfl) ow_58 fp_7_31_10 ?_
        refine ex_aload_n (pc := 155) (fr_get fo_58_5 5 rfl) rfl rfl ?_
        refine xv_kv0 (pc := 156) (fr_get fo_58_5 6 rfl) cc_58_78 (as := [.inr (.inr (10, 0))]) (rs := []) rfl rfl rfl rfl rfl ?_
        refine h.mono (fun r J13 p14 h => ⟨h.1, ?_⟩)
        replace h := h.2
        exact ex_return (pc := 159) (fr_get fo_58_5 7 rfl) rt_58 rfl rfl (ma_end_mk h)
      · replace h := h.2 c
        refine ex_aload_n (pc := 124) (fr_get fo_58_4 2 rfl) rfl rfl ?_
        refine xv_gi (pc := 125) (fr_get fo_58_4 3 rfl) ow_58 fg_7_31_10 (Eq.trans (xv_uj rfl) (Eq.trans (xv_uj rfl) (xv_uj rfl))) ?_
        refine ex_iload_n (pc := 128) (fr_get fo_58_4 4 rfl) rfl ?_
        refine ex_ishr (pc := 129) (fr_get fo_58_4 5 rfl) ?_
        refine ex_iconst (pc := 130) (fr_get fo_58_4 6 rfl) ic_1 ?_
        refine ex_iand (pc := 131) (fr_get fo_58_4 7 rfl) ?_
        refine xv_beq (pc := 132) (fr_get fo_58_4 8 rfl) (t := 139) rfl (fun c => ?_) (fun c => ?_)
        · replace h := h.1 c
          refine ex_iconst (pc := 139) (fr_get fo_58_4 11 rfl) ic_0 ?_
          refine xv_pb (pc := 140) (fr_get fo_58_4 12 rfl) ow_58 fb_7_34_10 (Or.inl rfl) ?_
          refine ex_aload_n (pc := 143) (fr_get fo_58_4 13 rfl) rfl rfl ?_
          refine ex_dupr (pc := 144) (fr_get fo_58_4 14 rfl) ?_
          refine xv_gi (pc := 145) (fr_get fo_58_4 15 rfl) ow_58 fg_7_31_10 (Eq.trans (xv_uj rfl) (Eq.trans (xv_uj rfl) (Eq.trans (xv_uj rfl) (xv_uj rfl)))) ?_
          refine ex_iconst (pc := 148) (fr_get fo_58_5 0 rfl) ic_1 ?_
          refine ex_iload_n (pc := 149) (fr_get fo_58_5 1 rfl) rfl ?_
          refine ex_ishl (pc := 150) (fr_get fo_58_5 2 rfl) ?_
          refine ex_ior (pc := 151) (fr_get fo_58_5 3 rfl) ?_
          refine ex_pi (pc := 152) (fr_get fo_58_5 4 rfl) ow_58 fp_7_31_10 ?_
          refine ex_aload_n (pc := 155) (fr_get fo_58_5 5 rfl) rfl rfl ?_
          refine xv_kv0 (pc := 156) (fr_get fo_58_5 6 rfl) cc_58_78 (as := [.inr (.inr (10, 0))]) (rs := []) rfl rfl rfl rfl rfl ?_
          refine h.mono (fun r J15 p16 h => ⟨h.1, ?_⟩)
          replace h := h.2
          exact ex_return (pc := 159) (fr_get fo_58_5 7 rfl) rt_58 rfl rfl (ma_end_mk h)
        · replace h := h.2 c
          refine ex_iconst (pc := 135) (fr_get fo_58_4 9 rfl) ic_1 ?_
          refine ex_goto (pc := 136) (fr_get fo_58_4 10 rfl) (t := 140) rfl ?_
          refine xv_pb (pc := 140) (fr_get fo_58_4 12 rfl) ow_58 fb_7_34_10 (Or.inr rfl) ?_
          refine ex_aload_n (pc := 143) (fr_get fo_58_4 13 rfl) rfl rfl ?_
          refine ex_dupr (pc := 144) (fr_get fo_58_4 14 rfl) ?_
          refine xv_gi (pc := 145) (fr_get fo_58_4 15 rfl) ow_58 fg_7_31_10 (Eq.trans (xv_uj rfl) (Eq.trans (xv_uj rfl) (Eq.trans (xv_uj rfl) (xv_uj rfl)))) ?_
          refine ex_iconst (pc := 148) (fr_get fo_58_5 0 rfl) ic_1 ?_
          refine ex_iload_n (pc := 149) (fr_get fo_58_5 1 rfl) rfl ?_
          refine ex_ishl (pc := 150) (fr_get fo_58_5 2 rfl) ?_
          refine ex_ior (pc := 151) (fr_get fo_58_5 3 rfl) ?_
          refine ex_pi (pc := 152) (fr_get fo_58_5 4 rfl) ow_58 fp_7_31_10 ?_
          refine ex_aload_n (pc := 155) (fr_get fo_58_5 5 rfl) rfl rfl ?_
          refine xv_kv0 (pc := 156) (fr_get fo_58_5 6 rfl) cc_58_78 (as := [.inr (.inr (10, 0))]) (rs := []) rfl rfl rfl rfl rfl ?_
          refine h.mono (fun r J17 p18 h => ⟨h.1, ?_⟩)
          replace h := h.2
          exact ex_return (pc := 159) (fr_get fo_58_5 7 rfl) rt_58 rfl rfl (ma_end_mk h)
    · replace h := h.2 c
      refine ex_aload_n (pc := 59) (fr_get fo_58_1 15 rfl) rfl rfl ?_
      refine ex_iconst (pc := 60) (fr_get fo_58_2 0 rfl) ic_2 ?_
      refine ex_pi (pc := 61) (fr_get fo_58_2 1 rfl) ow_58 fp_7_15_10 ?_
      refine ex_goto (pc := 64) (fr_get fo_58_2 2 rfl) (t := 159) rfl ?_
      exact ex_return (pc := 159) (fr_get fo_58_5 7 rfl) rt_58 rfl rfl (ma_end_mk h)
  · replace h := h.2 c
    refine ex_aload_n (pc := 46) (fr_get fo_58_1 8 rfl) rfl rfl ?_
    refine ex_iconst (pc := 47) (fr_get fo_58_1 9 rfl) ic_0 ?_
    refine ex_pi (pc := 48) (fr_get fo_58_1 10 rfl) ow_58 fp_7_15_10 ?_
    refine ex_goto (pc := 51) (fr_get fo_58_1 11 rfl) (t := 159) rfl ?_
    exact ex_return (pc := 159) (fr_get fo_58_5 7 rfl) rt_58 rfl rfl (ma_end_mk h)

theorem e_59 {d : Nat} {I : ma_I} {o : Nat} {Q : ma_Q} 
  (h :
    ((22 : Int32) ≤ I 10 0 4 →
      Q none I o) ∧
    (I 10 0 4 < (22 : Int32) →
      ma_in (I 10 0 4) 22 ∧
      Q none (ma_up (ma_up I 32 0 ((I 10 0 4).toNatClampNeg) (I 10 0 2)) 10 0 4 ((I 10 0 4) + (1 : Int32))) o)) :
  Exm (d) 59 [.inr (.inr (10, 0))] I o Q := by
  show Ex (d) 59 (0, [some (.inr (.inr (10, 0)))], [], ma_mem I o, 0, 0) (ma_end Q)
  refine ex_aload_n (pc := 0) (fr_get fo_59_0 0 rfl) rfl rfl ?_
  refine xv_gi (pc := 1) (fr_get fo_59_0 1 rfl) ow_59 fg_7_38_10 rfl ?_
  refine ex_bipush (pc := 4) (fr_get fo_59_0 2 rfl) bp_22 ?_
  refine xv_cge (pc := 6) (fr_get fo_59_0 3 rfl) (t := 32) rfl (fun c => ?_) (fun c => ?_)
  · replace h := h.1 c
    exact ex_return (pc := 32) (fr_get fo_59_1 1 rfl) rt_59 rfl rfl (ma_end_mk h)
  · replace h := h.2 c
    refine ex_aload_n (pc := 9) (fr_get fo_59_0 4 rfl) rfl rfl ?_
    refine ex_gr (pc := 10) (fr_get fo_59_0 5 rfl) ow_59 fr_7_9_10 (q := (32, 0)) rfl ?_
    refine ex_aload_n (pc := 13) (fr_get fo_59_0 6 rfl) rfl rfl ?_
    refine xv_gi (pc := 14) (fr_get fo_59_0 7 rfl) ow_59 fg_7_38_10 rfl ?_
    refine ex_aload_n (pc := 17) (fr_get fo_59_0 8 rfl) rfl rfl ?_
    refine xv_gi (pc := 18) (fr_get fo_59_0 9 rfl) ow_59 fg_7_25_10 rfl ?_
    refine xv_iast (pc := 21) (fr_get fo_59_0 10 rfl) gs_32 gl_32 rfl h.1 ?_
    replace h := h.2
    refine ex_aload_n (pc := 22) (fr_get fo_59_0 11 rfl) rfl rfl ?_
    refine ex_dupr (pc := 23) (fr_get fo_59_0 12 rfl) ?_
    refine xv_gi (pc := 24) (fr_get fo_59_0 13 rfl) ow_59 fg_7_38_10 (xv_ug rfl) ?_
    refine ex_iconst (pc := 27) (fr_get fo_59_0 14 rfl) ic_1 ?_
    refine ex_iadd (pc := 28) (fr_get fo_59_0 15 rfl) ?_
    refine ex_pi (pc := 29) (fr_get fo_59_1 0 rfl) ow_59 fp_7_38_10 ?_
    exact ex_return (pc := 32) (fr_get fo_59_1 1 rfl) rt_59 rfl rfl (ma_end_mk h)

theorem e_61 {d : Nat} {I : ma_I} {o : Nat} {Q : ma_Q} {a1 : Int32}
  (h :
    (¬((0 : Int32) ≤ a1 ∧ a1 ≤ ((I 10 0 4) - (1 : Int32))) →
      Q (some (.inl (-1 : Int32))) I o) ∧
    ((0 : Int32) ≤ a1 ∧ a1 ≤ ((I 10 0 4) - (1 : Int32)) →
      ma_in a1 22 ∧
      Q (some (.inl (I 32 0 a1.toNatClampNeg))) I o)) :
  Exm (d + 1) 61 [.inr (.inr (10, 0)), .inl a1] I o Q := by
  show Ex (d + 1) 61 (0, [some (.inr (.inr (10, 0))), some (.inl a1)], [], ma_mem I o, 0, 0) (ma_end Q)
  refine ex_iload_n (pc := 0) (fr_get fo_61_0 0 rfl) rfl ?_
  refine ex_iconst (pc := 1) (fr_get fo_61_0 1 rfl) ic_0 ?_
  refine ex_aload_n (pc := 2) (fr_get fo_61_0 2 rfl) rfl rfl ?_
  refine xv_gi (pc := 3) (fr_get fo_61_0 3 rfl) ow_61 fg_7_38_10 rfl ?_
  refine ex_iconst (pc := 6) (fr_get fo_61_0 4 rfl) ic_1 ?_
  refine ex_isub (pc := 7) (fr_get fo_61_0 5 rfl) ?_
  refine xv_ks1 (pc := 8) (fr_get fo_61_0 6 rfl) cc_61_81 (as := [.inl a1, .inl (0 : Int32), .inl ((I 10 0 4) - (1 : Int32))]) (rs := []) rfl rfl rfl rfl ?_
  refine sm_112 ?_
  refine ⟨_, rfl, ?_⟩
  refine xv_peq (pc := 11) (fr_get fo_61_0 7 rfl) (t := 23) rfl (fun c => ?_) (fun c => ?_)
  · replace h := h.1 c
    refine ex_iconst (pc := 23) (fr_get fo_61_0 13 rfl) ic_m1 ?_
    exact ex_ireturn (pc := 24) (fr_get fo_61_0 14 rfl) rt_61 rfl rfl (ma_end_mk h)
  · replace h := h.2 c
    refine ex_aload_n (pc := 14) (fr_get fo_61_0 8 rfl) rfl rfl ?_
    refine ex_gr (pc := 15) (fr_get fo_61_0 9 rfl) ow_61 fr_7_9_10 (q := (32, 0)) rfl ?_
    refine ex_iload_n (pc := 18) (fr_get fo_61_0 10 rfl) rfl ?_
    refine xv_iald (pc := 19) (fr_get fo_61_0 11 rfl) gk_32 (n := 22) (gn_32 ..) rfl rfl h.1 ?_
    replace h := h.2
    refine ex_goto (pc := 20) (fr_get fo_61_0 12 rfl) (t := 24) rfl ?_
    exact ex_ireturn (pc := 24) (fr_get fo_61_0 14 rfl) rt_61 rfl rfl (ma_end_mk h)

theorem e_62_10_12 {d : Nat} {I : ma_I} {o : Nat} {Q : ma_Q} {q1 : Nat}
  (h :
    (I 12 q1 1 = I 10 0 4 →
      Ex (d) 62 (15, [some (.inr (.inr (10, 0))), some (.inr (.inr (12, q1))), some (.inl (0 : Int32))], [], ma_mem I o, 0, 0) (ma_end Q)) ∧
    (I 12 q1 1 ≠ I 10 0 4 →
      Q (some (.inl (0 : Int32))) I o)) :
  Exm (d) 62 [.inr (.inr (10, 0)), .inr (.inr (12, q1))] I o Q := by
  show Ex (d) 62 (0, [some (.inr (.inr (10, 0))), some (.inr (.inr (12, q1))), none], [], ma_mem I o, 0, 0) (ma_end Q)
  refine ex_aload_n (pc := 0) (fr_get fo_62_0 0 rfl) rfl rfl ?_
  refine xv_gi (pc := 1) (fr_get fo_62_0 1 rfl) ow_62 fg_7_85_12 rfl ?_
  refine ex_aload_n (pc := 4) (fr_get fo_62_0 2 rfl) rfl rfl ?_
  refine xv_gi (pc := 5) (fr_get fo_62_0 3 rfl) ow_62 fg_7_38_10 rfl ?_
  refine xv_ceq (pc := 8) (fr_get fo_62_0 4 rfl) (t := 13) rfl (fun c => ?_) (fun c => ?_)
  · replace h := h.1 c
    refine ex_iconst (pc := 13) (fr_get fo_62_0 7 rfl) ic_0 ?_
    refine ex_istore_n (pc := 14) (fr_get fo_62_0 8 rfl) rfl (L' := [some (.inr (.inr (10, 0))), some (.inr (.inr (12, q1))), some (.inl (0 : Int32))]) rfl ?_
    exact h
  · replace h := h.2 c
    refine ex_iconst (pc := 11) (fr_get fo_62_0 5 rfl) ic_0 ?_
    exact ex_zreturn (pc := 12) (fr_get fo_62_0 6 rfl) rt_62 rfl rfl ⟨Or.inl rfl, ma_end_mk h⟩

theorem b_62_10_12_15 {d : Nat} {I : ma_I} {o : Nat} {Q : ma_Q} {q1 : Nat} {v2 : Int32}
  (h :
    (I 10 0 4 ≤ v2 →
      Q (some (.inl (1 : Int32))) I o) ∧
    (v2 < I 10 0 4 →
      ma_in v2 40 ∧
      ma_in v2 22 ∧
      (I 13 q1 v2.toNatClampNeg = I 32 0 v2.toNatClampNeg →
        Ex (d) 62 (15, [some (.inr (.inr (10, 0))), some (.inr (.inr (12, q1))), some (.inl (v2 + (1 : Int32)))], [], ma_mem I o, 0, 0) (ma_end Q)) ∧
      (I 13 q1 v2.toNatClampNeg ≠ I 32 0 v2.toNatClampNeg →
        Q (some (.inl (0 : Int32))) I o))) :
  Ex (d) 62 (15, [some (.inr (.inr (10, 0))), some (.inr (.inr (12, q1))), some (.inl v2)], [], ma_mem I o, 0, 0) (ma_end Q) := by
  refine ex_iload_n (pc := 15) (fr_get fo_62_0 9 rfl) rfl ?_
  refine ex_aload_n (pc := 16) (fr_get fo_62_0 10 rfl) rfl rfl ?_
  refine xv_gi (pc := 17) (fr_get fo_62_0 11 rfl) ow_62 fg_7_38_10 rfl ?_
  refine xv_cge (pc := 20) (fr_get fo_62_0 12 rfl) (t := 46) rfl (fun c => ?_) (fun c => ?_)
  · replace h := h.1 c
    refine ex_iconst (pc := 46) (fr_get fo_62_1 10 rfl) ic_1 ?_
    exact ex_zreturn (pc := 47) (fr_get fo_62_1 11 rfl) rt_62 rfl rfl ⟨Or.inr rfl, ma_end_mk h⟩
  · replace h := h.2 c
    refine ex_aload_n (pc := 23) (fr_get fo_62_0 13 rfl) rfl rfl ?_
    refine ex_gr (pc := 24) (fr_get fo_62_0 14 rfl) ow_62 fr_7_90_12 (q := (13, q1)) rfl ?_
    refine ex_iload_n (pc := 27) (fr_get fo_62_0 15 rfl) rfl ?_
    refine xv_iald (pc := 28) (fr_get fo_62_1 0 rfl) gk_13 (n := 40) (gn_13 ..) rfl rfl h.1 ?_
    replace h := h.2
    refine ex_aload_n (pc := 29) (fr_get fo_62_1 1 rfl) rfl rfl ?_
    refine ex_gr (pc := 30) (fr_get fo_62_1 2 rfl) ow_62 fr_7_9_10 (q := (32, 0)) rfl ?_
    refine ex_iload_n (pc := 33) (fr_get fo_62_1 3 rfl) rfl ?_
    refine xv_iald (pc := 34) (fr_get fo_62_1 4 rfl) gk_32 (n := 22) (gn_32 ..) rfl rfl h.1 ?_
    replace h := h.2
    refine xv_ceq (pc := 35) (fr_get fo_62_1 5 rfl) (t := 40) rfl (fun c => ?_) (fun c => ?_)
    · replace h := h.1 c
      refine xv_iinc (pc := 40) (fr_get fo_62_1 8 rfl) rfl ic_1 (L' := [some (.inr (.inr (10, 0))), some (.inr (.inr (12, q1))), some (.inl (v2 + (1 : Int32)))]) rfl ?_
      refine ex_goto (pc := 43) (fr_get fo_62_1 9 rfl) (t := 15) rfl ?_
      exact h
    · replace h := h.2 c
      refine ex_iconst (pc := 38) (fr_get fo_62_1 6 rfl) ic_0 ?_
      exact ex_zreturn (pc := 39) (fr_get fo_62_1 7 rfl) rt_62 rfl rfl ⟨Or.inl rfl, ma_end_mk h⟩

/-! ===== stretches ===== -/
theorem e_157 {d : Nat} {I : ma_I} {o : Nat} {Q : ma_Q} {a1 : Int32} {a2 : Int32} {a3 : Int32} {a4 : Int32} {a5 : Int32} {a6 : Int32} {a7 : Int32}
  (h :
    Ex (d + 1) 157 (62, [some (.inr (.inr (40, 0))), some (.inl a1), some (.inl a2), some (.inl a3), some (.inl a4), some (.inl a5), some (.inl a6), some (.inl a7), some (.inl (((3 : Int32) * (I 40 0 14)) + a1)), some (.inl (0 : Int32)), some (.inl (0 : Int32)), none], [], ma_mem (ma_up (ma_up (ma_up (ma_up (ma_up (ma_up I 57 0 0 a2) 57 0 1 a3) 57 0 2 a4) 57 0 3 a5) 57 0 4 a6) 57 0 5 a7) o, 0, 0) (ma_end Q)) :
  Exm (d + 1) 157 [.inr (.inr (40, 0)), .inl a1, .inl a2, .inl a3, .inl a4, .inl a5, .inl a6, .inl a7] I o Q := by
  show Ex (d + 1) 157 (0, [some (.inr (.inr (40, 0))), some (.inl a1), some (.inl a2), some (.inl a3), some (.inl a4), some (.inl a5), some (.inl a6), some (.inl a7), none, none, none, none], [], ma_mem I o, 0, 0) (ma_end Q)
  refine ex_aload_n (pc := 0) (fr_get fo_157_0 0 rfl) rfl rfl ?_
  refine ex_gr (pc := 1) (fr_get fo_157_0 1 rfl) ow_157 fr_9_201_40 (q := (57, 0)) rfl ?_
  refine ex_iconst (pc := 4) (fr_get fo_157_0 2 rfl) ic_0 ?_
  refine ex_iload_n (pc := 5) (fr_get fo_157_0 3 rfl) rfl ?_
  refine xv_iast (pc := 6) (fr_get fo_157_0 4 rfl) gs_57 gl_57 cl_0 mi_0_6 ?_
  refine ex_aload_n (pc := 7) (fr_get fo_157_0 5 rfl) rfl rfl ?_
  refine ex_gr (pc := 8) (fr_get fo_157_0 6 rfl) ow_157 fr_9_201_40 (q := (57, 0)) rfl ?_
  refine ex_iconst (pc := 11) (fr_get fo_157_0 7 rfl) ic_1 ?_
  refine ex_iload_n (pc := 12) (fr_get fo_157_0 8 rfl) rfl ?_
  refine xv_iast (pc := 13) (fr_get fo_157_0 9 rfl) gs_57 gl_57 cl_1 mi_1_6 ?_
  refine ex_aload_n (pc := 14) (fr_get fo_157_0 10 rfl) rfl rfl ?_
  refine ex_gr (pc := 15) (fr_get fo_157_0 11 rfl) ow_157 fr_9_201_40 (q := (57, 0)) rfl ?_
  refine ex_iconst (pc := 18) (fr_get fo_157_0 12 rfl) ic_2 ?_
  refine ex_iload (pc := 19) (fr_get fo_157_0 13 rfl) rfl ?_
  refine xv_iast (pc := 21) (fr_get fo_157_0 14 rfl) gs_57 gl_57 cl_2 mi_2_6 ?_
  refine ex_aload_n (pc := 22) (fr_get fo_157_0 15 rfl) rfl rfl ?_
  refine ex_gr (pc := 23) (fr_get fo_157_1 0 rfl) ow_157 fr_9_201_40 (q := (57, 0)) rfl ?_
  refine ex_iconst (pc := 26) (fr_get fo_157_1 1 rfl) ic_3 ?_
  refine ex_iload (pc := 27) (fr_get fo_157_1 2 rfl) rfl ?_
  refine xv_iast (pc := 29) (fr_get fo_157_1 3 rfl) gs_57 gl_57 cl_3 mi_3_6 ?_
  refine ex_aload_n (pc := 30) (fr_get fo_157_1 4 rfl) rfl rfl ?_
  refine ex_gr (pc := 31) (fr_get fo_157_1 5 rfl) ow_157 fr_9_201_40 (q := (57, 0)) rfl ?_
  refine ex_iconst (pc := 34) (fr_get fo_157_1 6 rfl) ic_4 ?_
  refine ex_iload (pc := 35) (fr_get fo_157_1 7 rfl) rfl ?_
  refine xv_iast (pc := 37) (fr_get fo_157_1 8 rfl) gs_57 gl_57 cl_4 mi_4_6 ?_
  refine ex_aload_n (pc := 38) (fr_get fo_157_1 9 rfl) rfl rfl ?_
  refine ex_gr (pc := 39) (fr_get fo_157_1 10 rfl) ow_157 fr_9_201_40 (q := (57, 0)) rfl ?_
  refine ex_iconst (pc := 42) (fr_get fo_157_1 11 rfl) ic_5 ?_
  refine ex_iload (pc := 43) (fr_get fo_157_1 12 rfl) rfl ?_
  refine xv_iast (pc := 45) (fr_get fo_157_1 13 rfl) gs_57 gl_57 cl_5 mi_5_6 ?_
  refine ex_iconst (pc := 46) (fr_get fo_157_1 14 rfl) ic_3 ?_
  refine ex_aload_n (pc := 47) (fr_get fo_157_1 15 rfl) rfl rfl ?_
  refine xv_gi (pc := 48) (fr_get fo_157_2 0 rfl) ow_157 fg_9_190_40 (Eq.trans (xv_ug rfl) (Eq.trans (xv_ug rfl) (Eq.trans (xv_ug rfl) (Eq.trans (xv_ug rfl) (Eq.trans (xv_ug rfl) (xv_ug rfl)))))) ?_
  refine ex_imul (pc := 51) (fr_get fo_157_2 1 rfl) ?_
  refine ex_iload_n (pc := 52) (fr_get fo_157_2 2 rfl) rfl ?_
  refine ex_iadd (pc := 53) (fr_get fo_157_2 3 rfl) ?_
  refine ex_istore (pc := 54) (fr_get fo_157_2 4 rfl) rfl (L' := [some (.inr (.inr (40, 0))), some (.inl a1), some (.inl a2), some (.inl a3), some (.inl a4), some (.inl a5), some (.inl a6), some (.inl a7), some (.inl (((3 : Int32) * (I 40 0 14)) + a1)), none, none, none]) rfl ?_
  refine ex_iconst (pc := 56) (fr_get fo_157_2 5 rfl) ic_0 ?_
  refine ex_istore (pc := 57) (fr_get fo_157_2 6 rfl) rfl (L' := [some (.inr (.inr (40, 0))), some (.inl a1), some (.inl a2), some (.inl a3), some (.inl a4), some (.inl a5), some (.inl a6), some (.inl a7), some (.inl (((3 : Int32) * (I 40 0 14)) + a1)), some (.inl (0 : Int32)), none, none]) rfl ?_
  refine ex_iconst (pc := 59) (fr_get fo_157_2 7 rfl) ic_0 ?_
  refine ex_istore (pc := 60) (fr_get fo_157_2 8 rfl) rfl (L' := [some (.inr (.inr (40, 0))), some (.inl a1), some (.inl a2), some (.inl a3), some (.inl a4), some (.inl a5), some (.inl a6), some (.inl a7), some (.inl (((3 : Int32) * (I 40 0 14)) + a1)), some (.inl (0 : Int32)), some (.inl (0 : Int32)), none]) rfl ?_
  exact h

theorem b_157_62 {d : Nat} {I : ma_I} {o : Nat} {Q : ma_Q} {v1 : Int32} {v2 : Int32} {v3 : Int32} {v4 : Int32} {v5 : Int32} {v6 : Int32} {v7 : Int32} {v8 : Int32} {v9 : Int32} {v10 : Int32} {w11 : Option ma_V}
  (h :
    ma_in v8 18 ∧
    (I 51 0 v8.toNatClampNeg ≤ v10 →
      (v1 ≠ 0 →
        (v1 ≠ 0 →
          (v1 ≠ (1 : Int32) →
            Q (some (.inl (xv_hi (0 : Int32) (xv_lo (999 : Int32) (I 56 0 0))))) I o) ∧
          (v1 = (1 : Int32) →
            Q (some (.inl (xv_hi (0 : Int32) (xv_lo (99 : Int32) (I 56 0 0))))) I o)) ∧
        (v1 = 0 →
          Q (some (.inl (xv_hi (0 : Int32) (xv_lo (40 : Int32) (I 56 0 0))))) I o)) ∧
      (v1 = 0 →
        (v1 ≠ 0 →
          (v1 ≠ (1 : Int32) →
            Q (some (.inl (xv_hi (1 : Int32) (xv_lo (999 : Int32) (I 56 0 0))))) I o) ∧
          (v1 = (1 : Int32) →
            Q (some (.inl (xv_hi (1 : Int32) (xv_lo (99 : Int32) (I 56 0 0))))) I o)) ∧
        (v1 = 0 →
          Q (some (.inl (xv_hi (1 : Int32) (xv_lo (40 : Int32) (I 56 0 0))))) I o))) ∧
    (v10 < I 51 0 v8.toNatClampNeg →
      ma_in (((160 : Int32) * v8) + v10) 2880 ∧
      (0 ≤ I 50 0 ((((160 : Int32) * v8) + v10).toNatClampNeg) →
        ((6 : Int32) ≤ I 50 0 ((((160 : Int32) * v8) + v10).toNatClampNeg) →
          (I 50 0 ((((160 : Int32) * v8) + v10).toNatClampNeg) ≠ (12 : Int32) →
            (I 50 0 ((((160 : Int32) * v8) + v10).toNatClampNeg) ≠ (18 : Int32) →
              ma_in ((v9 + (-1 : Int32)) - (1 : Int32)) 170 ∧
              ma_in (v9 + (-1 : Int32)) 170 ∧
              ma_in ((v9 + (-1 : Int32)) - (1 : Int32)) 170 ∧
              Ex (d + 1) 157 (62, [some (.inr (.inr (40, 0))), some (.inl v1), some (.inl v2), some (.inl v3), some (.inl v4), some (.inl v5), some (.inl v6), some (.inl v7), some (.inl v8), some (.inl (v9 + (-1 : Int32))), some (.inl (v10 + (1 : Int32))), some (.inl (I 50 0 ((((160 : Int32) * v8) + v10).toNatClampNeg)))], [], ma_mem (ma_up I 56 0 (((v9 + (-1 : Int32)) - (1 : Int32)).toNatClampNeg) (xv_dn (I 50 0 ((((160 : Int32) * v8) + v10).toNatClampNeg)) (I 56 0 (((v9 + (-1 : Int32)) - (1 : Int32)).toNatClampNeg)) (I 56 0 ((v9 + (-1 : Int32)).toNatClampNeg)))) o, 0, 0) (ma_end Q)) ∧
            (I 50 0 ((((160 : Int32) * v8) + v10).toNatClampNeg) = (18 : Int32) →
              ma_in (v9 - (1 : Int32)) 170 ∧
              ma_in (v9 - (1 : Int32)) 170 ∧
              Ex (d + 1) 157 (62, [some (.inr (.inr (40, 0))), some (.inl v1), some (.inl v2), some (.inl v3), some (.inl v4), some (.inl v5), some (.inl v6), some (.inl v7), some (.inl v8), some (.inl v9), some (.inl (v10 + (1 : Int32))), some (.inl (I 50 0 ((((160 : Int32) * v8) + v10).toNatClampNeg)))], [], ma_mem (ma_up I 56 0 ((v9 - (1 : Int32)).toNatClampNeg) (-(I 56 0 ((v9 - (1 : Int32)).toNatClampNeg)))) o, 0, 0) (ma_end Q))) ∧
          (I 50 0 ((((160 : Int32) * v8) + v10).toNatClampNeg) = (12 : Int32) →
            ma_in (v9 - (1 : Int32)) 170 ∧
            (I 56 0 ((v9 - (1 : Int32)).toNatClampNeg) ≠ 0 →
              ma_in (v9 - (1 : Int32)) 170 ∧
              Ex (d + 1) 157 (62, [some (.inr (.inr (40, 0))), some (.inl v1), some (.inl v2), some (.inl v3), some (.inl v4), some (.inl v5), some (.inl v6), some (.inl v7), some (.inl v8), some (.inl v9), some (.inl (v10 + (1 : Int32))), some (.inl (I 50 0 ((((160 : Int32) * v8) + v10).toNatClampNeg)))], [], ma_mem (ma_up I 56 0 ((v9 - (1 : Int32)).toNatClampNeg) (0 : Int32)) o, 0, 0) (ma_end Q)) ∧
            (I 56 0 ((v9 - (1 : Int32)).toNatClampNeg) = 0 →
              ma_in (v9 - (1 : Int32)) 170 ∧
              Ex (d + 1) 157 (62, [some (.inr (.inr (40, 0))), some (.inl v1), some (.inl v2), some (.inl v3), some (.inl v4), some (.inl v5), some (.inl v6), some (.inl v7), some (.inl v8), some (.inl v9), some (.inl (v10 + (1 : Int32))), some (.inl (I 50 0 ((((160 : Int32) * v8) + v10).toNatClampNeg)))], [], ma_mem (ma_up I 56 0 ((v9 - (1 : Int32)).toNatClampNeg) (1 : Int32)) o, 0, 0) (ma_end Q)))) ∧
        (I 50 0 ((((160 : Int32) * v8) + v10).toNatClampNeg) < (6 : Int32) →
          ma_in (I 50 0 ((((160 : Int32) * v8) + v10).toNatClampNeg)) 6 ∧
          ma_in v9 170 ∧
          Ex (d + 1) 157 (62, [some (.inr (.inr (40, 0))), some (.inl v1), some (.inl v2), some (.inl v3), some (.inl v4), some (.inl v5), some (.inl v6), some (.inl v7), some (.inl v8), some (.inl (v9 + (1 : Int32))), some (.inl (v10 + (1 : Int32))), some (.inl (I 50 0 ((((160 : Int32) * v8) + v10).toNatClampNeg)))], [], ma_mem (ma_up I 56 0 v9.toNatClampNeg (I 57 0 ((I 50 0 ((((160 : Int32) * v8) + v10).toNatClampNeg)).toNatClampNeg))) o, 0, 0) (ma_end Q))) ∧
      (I 50 0 ((((160 : Int32) * v8) + v10).toNatClampNeg) < 0 →
        ma_in v9 170 ∧
        Ex (d + 1) 157 (62, [some (.inr (.inr (40, 0))), some (.inl v1), some (.inl v2), some (.inl v3), some (.inl v4), some (.inl v5), some (.inl v6), some (.inl v7), some (.inl v8), some (.inl (v9 + (1 : Int32))), some (.inl (v10 + (1 : Int32))), some (.inl (I 50 0 ((((160 : Int32) * v8) + v10).toNatClampNeg)))], [], ma_mem (ma_up I 56 0 v9.toNatClampNeg ((-1 : Int32) - (I 50 0 ((((160 : Int32) * v8) + v10).toNatClampNeg)))) o, 0, 0) (ma_end Q)))) :
  Ex (d + 1) 157 (62, [some (.inr (.inr (40, 0))), some (.inl v1), some (.inl v2), some (.inl v3), some (.inl v4), some (.inl v5), some (.inl v6), some (.inl v7), some (.inl v8), some (.inl v9), some (.inl v10), w11], [], ma_mem I o, 0, 0) (ma_end Q) := by
  refine ex_iload (pc := 62) (fr_get fo_157_2 9 rfl) rfl ?_
  refine ex_aload_n (pc := 64) (fr_get fo_157_2 10 rfl) rfl rfl ?_
  refine ex_gr (pc := 65) (fr_get fo_157_2 11 rfl) ow_157 fr_9_168_40 (q := (51, 0)) rfl ?_
  refine ex_iload (pc := 68) (fr_get fo_157_2 12 rfl) rfl ?_
  refine xv_iald (pc := 70) (fr_get fo_157_2 13 rfl) gk_51 (n := 18) (gn_51 ..) rfl rfl h.1 ?_
  replace h := h.2
  refine xv_cge (pc := 71) (fr_get fo_157_2 14 rfl) (t := 243) rfl (fun c => ?_) (fun c => ?_)
  · replace h := h.1 c
    refine ex_iload_n (pc := 243) (fr_get fo_157_8 10 rfl) rfl ?_
    refine xv_bne (pc := 244) (fr_get fo_157_8 11 rfl) (t := 251) rfl (fun c => ?_) (fun c => ?_)
    · replace h := h.1 c
      refine ex_iconst (pc := 251) (fr_get fo_157_8 14 rfl) ic_0 ?_
      refine ex_istore (pc := 252) (fr_get fo_157_8 15 rfl) rfl (L' := [some (.inr (.inr (40, 0))), some (.inl v1), some (.inl v2), some (.inl v3), some (.inl v4), some (.inl v5), some (.inl v6), some (.inl v7), some (.inl v8), some (.inl v9), some (.inl (0 : Int32)), w11]) rfl ?_
      refine ex_iload_n (pc := 254) (fr_get fo_157_9 0 rfl) rfl ?_
      refine xv_bne (pc := 255) (fr_get fo_157_9 1 rfl) (t := 263) rfl (fun c => ?_) (fun c => ?_)
      · replace h := h.1 c
        refine ex_iload_n (pc := 263) (fr_get fo_157_9 4 rfl) rfl ?_
        refine ex_iconst (pc := 264) (fr_get fo_157_9 5 rfl) ic_1 ?_
        refine xv_cne (pc := 265) (fr_get fo_157_9 6 rfl) (t := 273) rfl (fun c => ?_) (fun c => ?_)
        · replace h := h.1 c
          refine ex_sipush (pc := 273) (fr_get fo_157_9 9 rfl) sp_999 ?_
          refine ex_istore (pc := 276) (fr_get fo_157_9 10 rfl) rfl (L' := [some (.inr (.inr (40, 0))), some (.inl v1), some (.inl v2), some (.inl v3), some (.inl v4), some (.inl v5), some (.inl v6), some (.inl v7), some (.inl v8), some (.inl v9), some (.inl (0 : Int32)), some (.inl (999 : Int32))]) rfl ?_
          refine ex_iload (pc := 278) (fr_get fo_157_9 11 rfl) rfl ?_
          refine ex_iload (pc := 280) (fr_get fo_157_9 12 rfl) rfl ?_
          refine ex_aload_n (pc := 282) (fr_get fo_157_9 13 rfl) rfl rfl ?_
          refine ex_gr (pc := 283) (fr_get fo_157_9 14 rfl) ow_157 fr_9_198_40 (q := (56, 0)) rfl ?_
          refine ex_iconst (pc := 286) (fr_get fo_157_9 15 rfl) ic_0 ?_
          refine xv_iald (pc := 287) (fr_get fo_157_10 0 rfl) gk_56 (n := 170) (gn_56 ..) cl_0 rfl mi_0_170 ?_
          refine xv_ks1 (pc := 288) (fr_get fo_157_10 1 rfl) cc_157_229 (as := [.inl (999 : Int32), .inl (I 56 0 0)]) (rs := [.inl (0 : Int32)]) rfl rfl rfl rfl ?_
          refine sm_119 ?_
          refine ⟨_, rfl, ?_⟩
          refine xv_ks1 (pc := 291) (fr_get fo_157_10 2 rfl) cc_157_232 (as := [.inl (0 : Int32), .inl (xv_lo (999 : Int32) (I 56 0 0))]) (rs := []) rfl rfl rfl rfl ?_
          refine sm_120 ?_
          refine ⟨_, rfl, ?_⟩
          exact ex_ireturn (pc := 294) (fr_get fo_157_10 3 rfl) rt_157 rfl rfl (ma_end_mk h)
        · replace h := h.2 c
          refine ex_bipush (pc := 268) (fr_get fo_157_9 7 rfl) bp_99 ?_
          refine ex_goto (pc := 270) (fr_get fo_157_9 8 rfl) (t := 276) rfl ?_
          refine ex_istore (pc := 276) (fr_get fo_157_9 10 rfl) rfl (L' := [some (.inr (.inr (40, 0))), some (.inl v1), some (.inl v2), some (.inl v3), some (.inl v4), some (.inl v5), some (.inl v6), some (.inl v7), some (.inl v8), some (.inl v9), some (.inl (0 : Int32)), some (.inl (99 : Int32))]) rfl ?_
          refine ex_iload (pc := 278) (fr_get fo_157_9 11 rfl) rfl ?_
          refine ex_iload (pc := 280) (fr_get fo_157_9 12 rfl) rfl ?_
          refine ex_aload_n (pc := 282) (fr_get fo_157_9 13 rfl) rfl rfl ?_
          refine ex_gr (pc := 283) (fr_get fo_157_9 14 rfl) ow_157 fr_9_198_40 (q := (56, 0)) rfl ?_
          refine ex_iconst (pc := 286) (fr_get fo_157_9 15 rfl) ic_0 ?_
          refine xv_iald (pc := 287) (fr_get fo_157_10 0 rfl) gk_56 (n := 170) (gn_56 ..) cl_0 rfl mi_0_170 ?_
          refine xv_ks1 (pc := 288) (fr_get fo_157_10 1 rfl) cc_157_229 (as := [.inl (99 : Int32), .inl (I 56 0 0)]) (rs := [.inl (0 : Int32)]) rfl rfl rfl rfl ?_
          refine sm_119 ?_
          refine ⟨_, rfl, ?_⟩
          refine xv_ks1 (pc := 291) (fr_get fo_157_10 2 rfl) cc_157_232 (as := [.inl (0 : Int32), .inl (xv_lo (99 : Int32) (I 56 0 0))]) (rs := []) rfl rfl rfl rfl ?_
          refine sm_120 ?_
          refine ⟨_, rfl, ?_⟩
          exact ex_ireturn (pc := 294) (fr_get fo_157_10 3 rfl) rt_157 rfl rfl (ma_end_mk h)
      · replace h := h.2 c
        refine ex_bipush (pc := 258) (fr_get fo_157_9 2 rfl) bp_40 ?_
        refine ex_goto (pc := 260) (fr_get fo_157_9 3 rfl) (t := 276) rfl ?_
        refine ex_istore (pc := 276) (fr_get fo_157_9 10 rfl) rfl (L' := [some (.inr (.inr (40, 0))), some (.inl v1), some (.inl v2), some (.inl v3), some (.inl v4), some (.inl v5), some (.inl v6), some (.inl v7), some (.inl v8), some (.inl v9), some (.inl (0 : Int32)), some (.inl (40 : Int32))]) rfl ?_
        refine ex_iload (pc := 278) (fr_get fo_157_9 11 rfl) rfl ?_
        refine ex_iload (pc := 280) (fr_get fo_157_9 12 rfl) rfl ?_
        refine ex_aload_n (pc := 282) (fr_get fo_157_9 13 rfl) rfl rfl ?_
        refine ex_gr (pc := 283) (fr_get fo_157_9 14 rfl) ow_157 fr_9_198_40 (q := (56, 0)) rfl ?_
        refine ex_iconst (pc := 286) (fr_get fo_157_9 15 rfl) ic_0 ?_
        refine xv_iald (pc := 287) (fr_get fo_157_10 0 rfl) gk_56 (n := 170) (gn_56 ..) cl_0 rfl mi_0_170 ?_
        refine xv_ks1 (pc := 288) (fr_get fo_157_10 1 rfl) cc_157_229 (as := [.inl (40 : Int32), .inl (I 56 0 0)]) (rs := [.inl (0 : Int32)]) rfl rfl rfl rfl ?_
        refine sm_119 ?_
        refine ⟨_, rfl, ?_⟩
        refine xv_ks1 (pc := 291) (fr_get fo_157_10 2 rfl) cc_157_232 (as := [.inl (0 : Int32), .inl (xv_lo (40 : Int32) (I 56 0 0))]) (rs := []) rfl rfl rfl rfl ?_
        refine sm_120 ?_
        refine ⟨_, rfl, ?_⟩
        exact ex_ireturn (pc := 294) (fr_get fo_157_10 3 rfl) rt_157 rfl rfl (ma_end_mk h)
    · replace h := h.2 c
      refine ex_iconst (pc := 247) (fr_get fo_157_8 12 rfl) ic_1 ?_
      refine ex_goto (pc := 248) (fr_get fo_157_8 13 rfl) (t := 252) rfl ?_
      refine ex_istore (pc := 252) (fr_get fo_157_8 15 rfl) rfl (L' := [some (.inr (.inr (40, 0))), some (.inl v1), some (.inl v2), some (.inl v3), some (.inl v4), some (.inl v5), some (.inl v6), some (.inl v7), some (.inl v8), some (.inl v9), some (.inl (1 : Int32)), w11]) rfl ?_
      refine ex_iload_n (pc := 254) (fr_get fo_157_9 0 rfl) rfl ?_
      refine xv_bne (pc := 255) (fr_get fo_157_9 1 rfl) (t := 263) rfl (fun c => ?_) (fun c => ?_)
      · replace h := h.1 c
        refine ex_iload_n (pc := 263) (fr_get fo_157_9 4 rfl) rfl ?_
        refine ex_iconst (pc := 264) (fr_get fo_157_9 5 rfl) ic_1 ?_
        refine xv_cne (pc := 265) (fr_get fo_157_9 6 rfl) (t := 273) rfl (fun c => ?_) (fun c => ?_)
        · replace h := h.1 c
          refine ex_sipush (pc := 273) (fr_get fo_157_9 9 rfl) sp_999 ?_
          refine ex_istore (pc := 276) (fr_get fo_157_9 10 rfl) rfl (L' := [some (.inr (.inr (40, 0))), some (.inl v1), some (.inl v2), some (.inl v3), some (.inl v4), some (.inl v5), some (.inl v6), some (.inl v7), some (.inl v8), some (.inl v9), some (.inl (1 : Int32)), some (.inl (999 : Int32))]) rfl ?_
          refine ex_iload (pc := 278) (fr_get fo_157_9 11 rfl) rfl ?_
          refine ex_iload (pc := 280) (fr_get fo_157_9 12 rfl) rfl ?_
          refine ex_aload_n (pc := 282) (fr_get fo_157_9 13 rfl) rfl rfl ?_
          refine ex_gr (pc := 283) (fr_get fo_157_9 14 rfl) ow_157 fr_9_198_40 (q := (56, 0)) rfl ?_
          refine ex_iconst (pc := 286) (fr_get fo_157_9 15 rfl) ic_0 ?_
          refine xv_iald (pc := 287) (fr_get fo_157_10 0 rfl) gk_56 (n := 170) (gn_56 ..) cl_0 rfl mi_0_170 ?_
          refine xv_ks1 (pc := 288) (fr_get fo_157_10 1 rfl) cc_157_229 (as := [.inl (999 : Int32), .inl (I 56 0 0)]) (rs := [.inl (1 : Int32)]) rfl rfl rfl rfl ?_
          refine sm_119 ?_
          refine ⟨_, rfl, ?_⟩
          refine xv_ks1 (pc := 291) (fr_get fo_157_10 2 rfl) cc_157_232 (as := [.inl (1 : Int32), .inl (xv_lo (999 : Int32) (I 56 0 0))]) (rs := []) rfl rfl rfl rfl ?_
          refine sm_120 ?_
          refine ⟨_, rfl, ?_⟩
          exact ex_ireturn (pc := 294) (fr_get fo_157_10 3 rfl) rt_157 rfl rfl (ma_end_mk h)
        · replace h := h.2 c
          refine ex_bipush (pc := 268) (fr_get fo_157_9 7 rfl) bp_99 ?_
          refine ex_goto (pc := 270) (fr_get fo_157_9 8 rfl) (t := 276) rfl ?_
          refine ex_istore (pc := 276) (fr_get fo_157_9 10 rfl) rfl (L' := [some (.inr (.inr (40, 0))), some (.inl v1), some (.inl v2), some (.inl v3), some (.inl v4), some (.inl v5), some (.inl v6), some (.inl v7), some (.inl v8), some (.inl v9), some (.inl (1 : Int32)), some (.inl (99 : Int32))]) rfl ?_
          refine ex_iload (pc := 278) (fr_get fo_157_9 11 rfl) rfl ?_
          refine ex_iload (pc := 280) (fr_get fo_157_9 12 rfl) rfl ?_
          refine ex_aload_n (pc := 282) (fr_get fo_157_9 13 rfl) rfl rfl ?_
          refine ex_gr (pc := 283) (fr_get fo_157_9 14 rfl) ow_157 fr_9_198_40 (q := (56, 0)) rfl ?_
          refine ex_iconst (pc := 286) (fr_get fo_157_9 15 rfl) ic_0 ?_
          refine xv_iald (pc := 287) (fr_get fo_157_10 0 rfl) gk_56 (n := 170) (gn_56 ..) cl_0 rfl mi_0_170 ?_
          refine xv_ks1 (pc := 288) (fr_get fo_157_10 1 rfl) cc_157_229 (as := [.inl (99 : Int32), .inl (I 56 0 0)]) (rs := [.inl (1 : Int32)]) rfl rfl rfl rfl ?_
          refine sm_119 ?_
          refine ⟨_, rfl, ?_⟩
          refine xv_ks1 (pc := 291) (fr_get fo_157_10 2 rfl) cc_157_232 (as := [.inl (1 : Int32), .inl (xv_lo (99 : Int32) (I 56 0 0))]) (rs := []) rfl rfl rfl rfl ?_
          refine sm_120 ?_
          refine ⟨_, rfl, ?_⟩
          exact ex_ireturn (pc := 294) (fr_get fo_157_10 3 rfl) rt_157 rfl rfl (ma_end_mk h)
      · replace h := h.2 c
        refine ex_bipush (pc := 258) (fr_get fo_157_9 2 rfl) bp_40 ?_
        refine ex_goto (pc := 260) (fr_get fo_157_9 3 rfl) (t := 276) rfl ?_
        refine ex_istore (pc := 276) (fr_get fo_157_9 10 rfl) rfl (L' := [some (.inr (.inr (40, 0))), some (.inl v1), some (.inl v2), some (.inl v3), some (.inl v4), some (.inl v5), some (.inl v6), some (.inl v7), some (.inl v8), some (.inl v9), some (.inl (1 : Int32)), some (.inl (40 : Int32))]) rfl ?_
        refine ex_iload (pc := 278) (fr_get fo_157_9 11 rfl) rfl ?_
        refine ex_iload (pc := 280) (fr_get fo_157_9 12 rfl) rfl ?_
        refine ex_aload_n (pc := 282) (fr_get fo_157_9 13 rfl) rfl rfl ?_
        refine ex_gr (pc := 283) (fr_get fo_157_9 14 rfl) ow_157 fr_9_198_40 (q := (56, 0)) rfl ?_
        refine ex_iconst (pc := 286) (fr_get fo_157_9 15 rfl) ic_0 ?_
        refine xv_iald (pc := 287) (fr_get fo_157_10 0 rfl) gk_56 (n := 170) (gn_56 ..) cl_0 rfl mi_0_170 ?_
        refine xv_ks1 (pc := 288) (fr_get fo_157_10 1 rfl) cc_157_229 (as := [.inl (40 : Int32), .inl (I 56 0 0)]) (rs := [.inl (1 : Int32)]) rfl rfl rfl rfl ?_
        refine sm_119 ?_
        refine ⟨_, rfl, ?_⟩
        refine xv_ks1 (pc := 291) (fr_get fo_157_10 2 rfl) cc_157_232 (as := [.inl (1 : Int32), .inl (xv_lo (40 : Int32) (I 56 0 0))]) (rs := []) rfl rfl rfl rfl ?_
        refine sm_120 ?_
        refine ⟨_, rfl, ?_⟩
        exact ex_ireturn (pc := 294) (fr_get fo_157_10 3 rfl) rt_157 rfl rfl (ma_end_mk h)
  · replace h := h.2 c
    refine ex_aload_n (pc := 74) (fr_get fo_157_2 15 rfl) rfl rfl ?_
    refine ex_gr (pc := 75) (fr_get fo_157_3 0 rfl) ow_157 fr_9_120_40 (q := (50, 0)) rfl ?_
    refine ex_sipush (pc := 78) (fr_get fo_157_3 1 rfl) sp_160 ?_
    refine ex_iload (pc := 81) (fr_get fo_157_3 2 rfl) rfl ?_
    refine ex_imul (pc := 83) (fr_get fo_157_3 3 rfl) ?_
    refine ex_iload (pc := 84) (fr_get fo_157_3 4 rfl) rfl ?_
    refine ex_iadd (pc := 86) (fr_get fo_157_3 5 rfl) ?_
    refine xv_iald (pc := 87) (fr_get fo_157_3 6 rfl) gk_50 (n := 2880) (gn_50 ..) rfl rfl h.1 ?_
    replace h := h.2
    refine ex_istore (pc := 88) (fr_get fo_157_3 7 rfl) rfl (L' := [some (.inr (.inr (40, 0))), some (.inl v1), some (.inl v2), some (.inl v3), some (.inl v4), some (.inl v5), some (.inl v6), some (.inl v7), some (.inl v8), some (.inl v9), some (.inl v10), some (.inl (I 50 0 ((((160 : Int32) * v8) + v10).toNatClampNeg)))]) rfl ?_
    refine ex_iload (pc := 90) (fr_get fo_157_3 8 rfl) rfl ?_
    refine xv_bge (pc := 92) (fr_get fo_157_3 9 rfl) (t := 112) rfl (fun c => ?_) (fun c => ?_)
    · replace h := h.1 c
      refine ex_iload (pc := 112) (fr_get fo_157_4 3 rfl) rfl ?_
      refine ex_bipush (pc := 114) (fr_get fo_157_4 4 rfl) bp_6 ?_
      refine xv_cge (pc := 116) (fr_get fo_157_4 5 rfl) (t := 139) rfl (fun c => ?_) (fun c => ?_)
      · replace h := h.1 c
        refine ex_iload (pc := 139) (fr_get fo_157_5 0 rfl) rfl ?_
        refine ex_bipush (pc := 141) (fr_get fo_157_5 1 rfl) bp_12 ?_
        refine xv_cne (pc := 143) (fr_get fo_157_5 2 rfl) (t := 175) rfl (fun c => ?_) (fun c => ?_)
        · replace h := h.1 c
          refine ex_iload (pc := 175) (fr_get fo_157_6 4 rfl) rfl ?_
          refine ex_bipush (pc := 177) (fr_get fo_157_6 5 rfl) bp_18 ?_
          refine xv_cne (pc := 179) (fr_get fo_157_6 6 rfl) (t := 204) rfl (fun c => ?_) (fun c => ?_)
          · replace h := h.1 c
            refine xv_iinc (pc := 204) (fr_get fo_157_7 5 rfl) rfl ic_m1 (L' := [some (.inr (.inr (40, 0))), some (.inl v1), some (.inl v2), some (.inl v3), some (.inl v4), some (.inl v5), some (.inl v6), some (.inl v7), some (.inl v8), some (.inl (v9 + (-1 : Int32))), some (.inl v10), some (.inl (I 50 0 ((((160 : Int32) * v8) + v10).toNatClampNeg)))]) rfl ?_
            refine ex_aload_n (pc := 207) (fr_get fo_157_7 6 rfl) rfl rfl ?_
            refine ex_gr (pc := 208) (fr_get fo_157_7 7 rfl) ow_157 fr_9_198_40 (q := (56, 0)) rfl ?_
            refine ex_iload (pc := 211) (fr_get fo_157_7 8 rfl) rfl ?_
            refine ex_iconst (pc := 213) (fr_get fo_157_7 9 rfl) ic_1 ?_
            refine ex_isub (pc := 214) (fr_get fo_157_7 10 rfl) ?_
            refine ex_iload (pc := 215) (fr_get fo_157_7 11 rfl) rfl ?_
            refine ex_aload_n (pc := 217) (fr_get fo_157_7 12 rfl) rfl rfl ?_
            refine ex_gr (pc := 218) (fr_get fo_157_7 13 rfl) ow_157 fr_9_198_40 (q := (56, 0)) rfl ?_
            refine ex_iload (pc := 221) (fr_get fo_157_7 14 rfl) rfl ?_
            refine ex_iconst (pc := 223) (fr_get fo_157_7 15 rfl) ic_1 ?_
            refine ex_isub (pc := 224) (fr_get fo_157_8 0 rfl) ?_
            refine xv_iald (pc := 225) (fr_get fo_157_8 1 rfl) gk_56 (n := 170) (gn_56 ..) rfl rfl h.1 ?_
            replace h := h.2
            refine ex_aload_n (pc := 226) (fr_get fo_157_8 2 rfl) rfl rfl ?_
            refine ex_gr (pc := 227) (fr_get fo_157_8 3 rfl) ow_157 fr_9_198_40 (q := (56, 0)) rfl ?_
            refine ex_iload (pc := 230) (fr_get fo_157_8 4 rfl) rfl ?_
            refine xv_iald (pc := 232) (fr_get fo_157_8 5 rfl) gk_56 (n := 170) (gn_56 ..) rfl rfl h.1 ?_
            replace h := h.2
            refine xv_ks1 (pc := 233) (fr_get fo_157_8 6 rfl) cc_157_225 (as := [.inl (I 50 0 ((((160 : Int32) * v8) + v10).toNatClampNeg)), .inl (I 56 0 (((v9 + (-1 : Int32)) - (1 : Int32)).toNatClampNeg)), .inl (I 56 0 ((v9 + (-1 : Int32)).toNatClampNeg))]) (rs := [.inl ((v9 + (-1 : Int32)) - (1 : Int32)), .inr (.inr (56, 0))]) rfl rfl rfl rfl ?_
            refine sm_156 ?_
            refine ⟨_, rfl, ?_⟩
            refine xv_iast (pc := 236) (fr_get fo_157_8 7 rfl) gs_56 gl_56 rfl h.1 ?_
            replace h := h.2
            refine xv_iinc (pc := 237) (fr_get fo_157_8 8 rfl) rfl ic_1 (L' := [some (.inr (.inr (40, 0))), some (.inl v1), some (.inl v2), some (.inl v3), some (.inl v4), some (.inl v5), some (.inl v6), some (.inl v7), some (.inl v8), some (.inl (v9 + (-1 : Int32))), some (.inl (v10 + (1 : Int32))), some (.inl (I 50 0 ((((160 : Int32) * v8) + v10).toNatClampNeg)))]) rfl ?_
            refine ex_goto (pc := 240) (fr_get fo_157_8 9 rfl) (t := 62) rfl ?_
            exact h
          · replace h := h.2 c
            refine ex_aload_n (pc := 182) (fr_get fo_157_6 7 rfl) rfl rfl ?_
            refine ex_gr (pc := 183) (fr_get fo_157_6 8 rfl) ow_157 fr_9_198_40 (q := (56, 0)) rfl ?_
            refine ex_iload (pc := 186) (fr_get fo_157_6 9 rfl) rfl ?_
            refine ex_iconst (pc := 188) (fr_get fo_157_6 10 rfl) ic_1 ?_
            refine ex_isub (pc := 189) (fr_get fo_157_6 11 rfl) ?_
            refine ex_aload_n (pc := 190) (fr_get fo_157_6 12 rfl) rfl rfl ?_
            refine ex_gr (pc := 191) (fr_get fo_157_6 13 rfl) ow_157 fr_9_198_40 (q := (56, 0)) rfl ?_
            refine ex_iload (pc := 194) (fr_get fo_157_6 14 rfl) rfl ?_
            refine ex_iconst (pc := 196) (fr_get fo_157_6 15 rfl) ic_1 ?_
            refine ex_isub (pc := 197) (fr_get fo_157_7 0 rfl) ?_
            refine xv_iald (pc := 198) (fr_get fo_157_7 1 rfl) gk_56 (n := 170) (gn_56 ..) rfl rfl h.1 ?_
            replace h := h.2
            refine ex_ineg (pc := 199) (fr_get fo_157_7 2 rfl) ?_
            refine xv_iast (pc := 200) (fr_get fo_157_7 3 rfl) gs_56 gl_56 rfl h.1 ?_
            replace h := h.2
            refine ex_goto (pc := 201) (fr_get fo_157_7 4 rfl) (t := 237) rfl ?_
            refine xv_iinc (pc := 237) (fr_get fo_157_8 8 rfl) rfl ic_1 (L' := [some (.inr (.inr (40, 0))), some (.inl v1), some (.inl v2), some (.inl v3), some (.inl v4), some (.inl v5), some (.inl v6), some (.inl v7), some (.inl v8), some (.inl v9), some (.inl (v10 + (1 : Int32))), some (.inl (I 50 0 ((((160 : Int32) * v8) + v10).toNatClampNeg)))]) rfl ?_
            refine ex_goto (pc := 240) (fr_get fo_157_8 9 rfl) (t := 62) rfl ?_
            exact h
        · replace h := h.2 c
          refine ex_aload_n (pc := 146) (fr_get fo_157_5 3 rfl) rfl rfl ?_
          refine ex_gr (pc := 147) (fr_get fo_157_5 4 rfl) ow_157 fr_9_198_40 (q := (56, 0)) rfl ?_
          refine ex_iload (pc := 150) (fr_get fo_157_5 5 rfl) rfl ?_
          refine ex_iconst (pc := 152) (fr_get fo_157_5 6 rfl) ic_1 ?_
          refine ex_isub (pc := 153) (fr_get fo_157_5 7 rfl) ?_
          refine ex_aload_n (pc := 154) (fr_get fo_157_5 8 rfl) rfl rfl ?_
          refine ex_gr (pc := 155) (fr_get fo_157_5 9 rfl) ow_157 fr_9_198_40 (q := (56, 0)) rfl ?_
          refine ex_iload (pc := 158) (fr_get fo_157_5 10 rfl) rfl ?_
          refine ex_iconst (pc := 160) (fr_get fo_157_5 11 rfl) ic_1 ?_
          refine ex_isub (pc := 161) (fr_get fo_157_5 12 rfl) ?_
          refine xv_iald (pc := 162) (fr_get fo_157_5 13 rfl) gk_56 (n := 170) (gn_56 ..) rfl rfl h.1 ?_
          replace h := h.2
          refine xv_bne (pc := 163) (fr_get fo_157_5 14 rfl) (t := 170) rfl (fun c => ?_) (fun c => ?_)
          · replace h := h.1 c
            refine ex_iconst (pc := 170) (fr_get fo_157_6 1 rfl) ic_0 ?_
            refine xv_iast (pc := 171) (fr_get fo_157_6 2 rfl) gs_56 gl_56 rfl h.1 ?_
            replace h := h.2
            refine ex_goto (pc := 172) (fr_get fo_157_6 3 rfl) (t := 237) rfl ?_
            refine xv_iinc (pc := 237) (fr_get fo_157_8 8 rfl) rfl ic_1 (L' := [some (.inr (.inr (40, 0))), some (.inl v1), some (.inl v2), some (.inl v3), some (.inl v4), some (.inl v5), some (.inl v6), some (.inl v7), some (.inl v8), some (.inl v9), some (.inl (v10 + (1 : Int32))), some (.inl (I 50 0 ((((160 : Int32) * v8) + v10).toNatClampNeg)))]) rfl ?_
            refine ex_goto (pc := 240) (fr_get fo_157_8 9 rfl) (t := 62) rfl ?_
            exact h
          · replace h := h.2 c
            refine ex_iconst (pc := 166) (fr_get fo_157_5 15 rfl) ic_1 ?_
            refine ex_goto (pc := 167) (fr_get fo_157_6 0 rfl) (t := 171) rfl ?_
            refine xv_iast (pc := 171) (fr_get fo_157_6 2 rfl) gs_56 gl_56 rfl h.1 ?_
            replace h := h.2
            refine ex_goto (pc := 172) (fr_get fo_157_6 3 rfl) (t := 237) rfl ?_
            refine xv_iinc (pc := 237) (fr_get fo_157_8 8 rfl) rfl ic_1 (L' := [some (.inr (.inr (40, 0))), some (.inl v1), some (.inl v2), some (.inl v3), some (.inl v4), some (.inl v5), some (.inl v6), some (.inl v7), some (.inl v8), some (.inl v9), some (.inl (v10 + (1 : Int32))), some (.inl (I 50 0 ((((160 : Int32) * v8) + v10).toNatClampNeg)))]) rfl ?_
            refine ex_goto (pc := 240) (fr_get fo_157_8 9 rfl) (t := 62) rfl ?_
            exact h
      · replace h := h.2 c
        refine ex_aload_n (pc := 119) (fr_get fo_157_4 6 rfl) rfl rfl ?_
        refine ex_gr (pc := 120) (fr_get fo_157_4 7 rfl) ow_157 fr_9_198_40 (q := (56, 0)) rfl ?_
        refine ex_iload (pc := 123) (fr_get fo_157_4 8 rfl) rfl ?_
        refine ex_aload_n (pc := 125) (fr_get fo_157_4 9 rfl) rfl rfl ?_
        refine ex_gr (pc := 126) (fr_get fo_157_4 10 rfl) ow_157 fr_9_201_40 (q := (57, 0)) rfl ?_
        refine ex_iload (pc := 129) (fr_get fo_157_4 11 rfl) rfl ?_
        refine xv_iald (pc := 131) (fr_get fo_157_4 12 rfl) gk_57 (n := 6) (gn_57 ..) rfl rfl h.1 ?_
        replace h := h.2
        refine xv_iast (pc := 132) (fr_get fo_157_4 13 rfl) gs_56 gl_56 rfl h.1 ?_
        replace h := h.2
        refine xv_iinc (pc := 133) (fr_get fo_157_4 14 rfl) rfl ic_1 (L' := [some (.inr (.inr (40, 0))), some (.inl v1), some (.inl v2), some (.inl v3), some (.inl v4), some (.inl v5), some (.inl v6), some (.inl v7), some (.inl v8), some (.inl (v9 + (1 : Int32))), some (.inl v10), some (.inl (I 50 0 ((((160 : Int32) * v8) + v10).toNatClampNeg)))]) rfl ?_
        refine ex_goto (pc := 136) (fr_get fo_157_4 15 rfl) (t := 237) rfl ?_
        refine xv_iinc (pc := 237) (fr_get fo_157_8 8 rfl) rfl ic_1 (L' := [some (.inr (.inr (40, 0))), some (.inl v1), some (.inl v2), some (.inl v3), some (.inl v4), some (.inl v5), some (.inl v6), some (.inl v7), some (.inl v8), some (.inl (v9 + (1 : Int32))), some (.inl (v10 + (1 : Int32))), some (.inl (I 50 0 ((((160 : Int32) * v8) + v10).toNatClampNeg)))]) rfl ?_
        refine ex_goto (pc := 240) (fr_get fo_157_8 9 rfl) (t := 62) rfl ?_
        exact h
    · replace h := h.2 c
      refine ex_aload_n (pc := 95) (fr_get fo_157_3 10 rfl) rfl rfl ?_
      refine ex_gr (pc := 96) (fr_get fo_157_3 11 rfl) ow_157 fr_9_198_40 (q := (56, 0)) rfl ?_
      refine ex_iload (pc := 99) (fr_get fo_157_3 12 rfl) rfl ?_
      refine ex_iconst (pc := 101) (fr_get fo_157_3 13 rfl) ic_m1 ?_
      refine ex_iload (pc := 102) (fr_get fo_157_3 14 rfl) rfl ?_
      refine ex_isub (pc := 104) (fr_get fo_157_3 15 rfl) ?_
      refine xv_iast (pc := 105) (fr_get fo_157_4 0 rfl) gs_56 gl_56 rfl h.1 ?_
      replace h := h.2
      refine xv_iinc (pc := 106) (fr_get fo_157_4 1 rfl) rfl ic_1 (L' := [some (.inr (.inr (40, 0))), some (.inl v1), some (.inl v2), some (.inl v3), some (.inl v4), some (.inl v5), some (.inl v6), some (.inl v7), some (.inl v8), some (.inl (v9 + (1 : Int32))), some (.inl v10), some (.inl (I 50 0 ((((160 : Int32) * v8) + v10).toNatClampNeg)))]) rfl ?_
      refine ex_goto (pc := 109) (fr_get fo_157_4 2 rfl) (t := 237) rfl ?_
      refine xv_iinc (pc := 237) (fr_get fo_157_8 8 rfl) rfl ic_1 (L' := [some (.inr (.inr (40, 0))), some (.inl v1), some (.inl v2), some (.inl v3), some (.inl v4), some (.inl v5), some (.inl v6), some (.inl v7), some (.inl v8), some (.inl (v9 + (1 : Int32))), some (.inl (v10 + (1 : Int32))), some (.inl (I 50 0 ((((160 : Int32) * v8) + v10).toNatClampNeg)))]) rfl ?_
      refine ex_goto (pc := 240) (fr_get fo_157_8 9 rfl) (t := 62) rfl ?_
      exact h

theorem e_158 {d : Nat} {I : ma_I} {o : Nat} {Q : ma_Q} {a1 : Int32} {a2 : Int32} {a3 : Int32}
  (h :
    Ex (d + 1) 158 (36, [some (.inr (.inr (40, 0))), some (.inl a1), some (.inl a2), some (.inl a3), some (.inl a1), some (.inl a2), some (.inl (0 : Int32)), none, none], [], ma_mem (ma_up (ma_up (ma_up (ma_up (ma_up I 58 0 0 a1) 40 0 33 (1 : Int32)) 40 0 34 (0 : Int32)) 40 0 35 (0 : Int32)) 40 0 36 (-1 : Int32)) o, 0, 0) (ma_end Q)) :
  Exm (d + 1) 158 [.inr (.inr (40, 0)), .inl a1, .inl a2, .inl a3] I o Q := by
  show Ex (d + 1) 158 (0, [some (.inr (.inr (40, 0))), some (.inl a1), some (.inl a2), some (.inl a3), none, none, none, none, none], [], ma_mem I o, 0, 0) (ma_end Q)
  refine ex_iload_n (pc := 0) (fr_get fo_158_0 0 rfl) rfl ?_
  refine ex_istore (pc := 1) (fr_get fo_158_0 1 rfl) rfl (L' := [some (.inr (.inr (40, 0))), some (.inl a1), some (.inl a2), some (.inl a3), some (.inl a1), none, none, none, none]) rfl ?_
  refine ex_iload_n (pc := 3) (fr_get fo_158_0 2 rfl) rfl ?_
  refine ex_istore (pc := 4) (fr_get fo_158_0 3 rfl) rfl (L' := [some (.inr (.inr (40, 0))), some (.inl a1), some (.inl a2), some (.inl a3), some (.inl a1), some (.inl a2), none, none, none]) rfl ?_
  refine ex_iconst (pc := 6) (fr_get fo_158_0 4 rfl) ic_0 ?_
  refine ex_istore (pc := 7) (fr_get fo_158_0 5 rfl) rfl (L' := [some (.inr (.inr (40, 0))), some (.inl a1), some (.inl a2), some (.inl a3), some (.inl a1), some (.inl a2), some (.inl (0 : Int32)), none, none]) rfl ?_
  refine ex_aload_n (pc := 9) (fr_get fo_158_0 6 rfl) rfl rfl ?_
  refine ex_gr (pc := 10) (fr_get fo_158_0 7 rfl) ow_158 fr_9_204_40 (q := (58, 0)) rfl ?_
  refine ex_iconst (pc := 13) (fr_get fo_158_0 8 rfl) ic_0 ?_
  refine ex_iload_n (pc := 14) (fr_get fo_158_0 9 rfl) rfl ?_
  refine xv_iast (pc := 15) (fr_get fo_158_0 10 rfl) gs_58 gl_58 cl_0 mi_0_24 ?_
  refine ex_aload_n (pc := 16) (fr_get fo_158_0 11 rfl) rfl rfl ?_
  refine ex_iconst (pc := 17) (fr_get fo_158_0 12 rfl) ic_1 ?_
  refine ex_pi (pc := 18) (fr_get fo_158_0 13 rfl) ow_158 fp_9_235_40 ?_
  refine ex_aload_n (pc := 21) (fr_get fo_158_0 14 rfl) rfl rfl ?_
  refine ex_iconst (pc := 22) (fr_get fo_158_0 15 rfl) ic_0 ?_
  refine ex_pi (pc := 23) (fr_get fo_158_1 0 rfl) ow_158 fp_9_238_40 ?_
  refine ex_aload_n (pc := 26) (fr_get fo_158_1 1 rfl) rfl rfl ?_
  refine ex_iconst (pc := 27) (fr_get fo_158_1 2 rfl) ic_0 ?_
  refine xv_pb (pc := 28) (fr_get fo_158_1 3 rfl) ow_158 fb_9_241_40 (Or.inl rfl) ?_
  refine ex_aload_n (pc := 31) (fr_get fo_158_1 4 rfl) rfl rfl ?_
  refine ex_iconst (pc := 32) (fr_get fo_158_1 5 rfl) ic_m1 ?_
  refine ex_pi (pc := 33) (fr_get fo_158_1 6 rfl) ow_158 fp_9_245_40 ?_
  exact h

theorem b_158_36 {d : Nat} {I : ma_I} {o : Nat} {Q : ma_Q} {v1 : Int32} {v2 : Int32} {v3 : Int32} {v4 : Int32} {v5 : Int32} {v6 : Int32} {w7 : Option ma_V} {w8 : Option ma_V}
  (h :
    (I 40 0 36 ≠ (-1 : Int32) →
      Q none (ma_up I 40 0 37 v5) o) ∧
    (I 40 0 36 = (-1 : Int32) →
      Exm (d) 130 [.inr (.inr (40, 0)), .inl (xv_lo v5 (99 : Int32))] I o (fun r J1 p2 => ∃ x3 : Int32, r = some (.inl x3) ∧
        (x3 ≠ v4 →
          (J1 40 0 0 < v6 →
            Ex (d + 1) 158 (36, [some (.inr (.inr (40, 0))), some (.inl v1), some (.inl v2), some (.inl v3), some (.inl v4), some (.inl v5), some (.inl v6), w7, w8], [], ma_mem (ma_up J1 40 0 36 (1 : Int32)) p2, 0, 0) (ma_end Q)) ∧
          (v6 ≤ J1 40 0 0 →
            (v5 < (100 : Int32) →
              Ex (d + 1) 158 (103, [some (.inr (.inr (40, 0))), some (.inl v1), some (.inl v2), some (.inl v3), some (.inl v4), some (.inl v5), some (.inl v6), some (.inl (-1 : Int32)), some (.inl ((J1 40 0 4) - (1 : Int32)))], [], ma_mem J1 p2, 0, 0) (ma_end Q)) ∧
            ((100 : Int32) ≤ v5 →
              Ex (d + 1) 158 (36, [some (.inr (.inr (40, 0))), some (.inl v1), some (.inl v2), some (.inl v3), some (.inl v4), some (.inl v5), some (.inl v6), w7, w8], [], ma_mem (ma_up J1 40 0 36 (1 : Int32)) p2, 0, 0) (ma_end Q)))) ∧
        (x3 = v4 →
          Ex (d + 1) 158 (36, [some (.inr (.inr (40, 0))), some (.inl v1), some (.inl v2), some (.inl v3), some (.inl v4), some (.inl v5), some (.inl v6), w7, w8], [], ma_mem (ma_up J1 40 0 36 (0 : Int32)) p2, 0, 0) (ma_end Q))))) :
  Ex (d + 1) 158 (36, [some (.inr (.inr (40, 0))), some (.inl v1), some (.inl v2), some (.inl v3), some (.inl v4), some (.inl v5), some (.inl v6), w7, w8], [], ma_mem I o, 0, 0) (ma_end Q) := by
  refine ex_aload_n (pc := 36) (fr_get fo_158_1 7 rfl) rfl rfl ?_
  refine xv_gi (pc := 37) (fr_get fo_158_1 8 rfl) ow_158 fg_9_245_40 rfl ?_
  refine ex_iconst (pc := 40) (fr_get fo_158_1 9 rfl) ic_m1 ?_
  refine xv_cne (pc := 41) (fr_get fo_158_1 10 rfl) (t := 280) rfl (fun c => ?_) (fun c => ?_)
  · replace h := h.1 c
    refine ex_aload_n (pc := 280) (fr_get fo_158_9 4 rfl) rfl rfl ?_
    refine ex_iload (pc := 281) (fr_get fo_158_9 5 rfl) rfl ?_
    refine ex_pi (pc := 283) (fr_get fo_158_9 6 rfl) ow_158 fp_9_248_40 ?_
    exact ex_return (pc := 286) (fr_get fo_158_9 7 rfl) rt_158 rfl rfl (ma_end_mk h)
  · replace h := h.2 c
    refine ex_aload_n (pc := 44) (fr_get fo_158_1 11 rfl) rfl rfl ?_
    refine ex_iload (pc := 45) (fr_get fo_158_1 12 rfl) rfl ?_
    refine ex_bipush (pc := 47) (fr_get fo_158_1 13 rfl) bp_99 ?_
    refine xv_ks1 (pc := 49) (fr_get fo_158_1 14 rfl) cc_158_229 (as := [.inl v5, .inl (99 : Int32)]) (rs := [.inr (.inr (40, 0))]) rfl rfl rfl rfl ?_
    refine sm_119 ?_
    refine ⟨_, rfl, ?_⟩
    refine xv_kv1 (pc := 52) (fr_get fo_158_1 15 rfl) cc_158_63 (as := [.inr (.inr (40, 0)), .inl (xv_lo v5 (99 : Int32))]) (rs := []) rfl rfl rfl rfl rfl ?_
    refine h.mono (fun r J1 p2 h => ?_)
    obtain ⟨x3, hr, h⟩ := h
    refine ⟨x3, hr, ?_⟩
    refine ex_iload (pc := 55) (fr_get fo_158_2 0 rfl) rfl ?_
    refine xv_cne (pc := 57) (fr_get fo_158_2 1 rfl) (t := 68) rfl (fun c => ?_) (fun c => ?_)
    · replace h := h.1 c
      refine ex_iload (pc := 68) (fr_get fo_158_2 6 rfl) rfl ?_
      refine ex_aload_n (pc := 70) (fr_get fo_158_2 7 rfl) rfl rfl ?_
      refine xv_gi (pc := 71) (fr_get fo_158_2 8 rfl) ow_158 fg_9_50_40 rfl ?_
      refine xv_cgt (pc := 74) (fr_get fo_158_2 9 rfl) (t := 84) rfl (fun c => ?_) (fun c => ?_)
      · replace h := h.1 c
        refine ex_aload_n (pc := 84) (fr_get fo_158_2 13 rfl) rfl rfl ?_
        refine ex_iconst (pc := 85) (fr_get fo_158_2 14 rfl) ic_1 ?_
        refine ex_pi (pc := 86) (fr_get fo_158_2 15 rfl) ow_158 fp_9_245_40 ?_
        refine ex_goto (pc := 89) (fr_get fo_158_3 0 rfl) (t := 36) rfl ?_
        exact h
      · replace h := h.2 c
        refine ex_iload (pc := 77) (fr_get fo_158_2 10 rfl) rfl ?_
        refine ex_bipush (pc := 79) (fr_get fo_158_2 11 rfl) bp_100 ?_
        refine xv_clt (pc := 81) (fr_get fo_158_2 12 rfl) (t := 92) rfl (fun c => ?_) (fun c => ?_)
        · replace h := h.1 c
          refine ex_iconst (pc := 92) (fr_get fo_158_3 1 rfl) ic_m1 ?_
          refine ex_istore (pc := 93) (fr_get fo_158_3 2 rfl) rfl (L' := [some (.inr (.inr (40, 0))), some (.inl v1), some (.inl v2), some (.inl v3), some (.inl v4), some (.inl v5), some (.inl v6), some (.inl (-1 : Int32)), w8]) rfl ?_
          refine ex_aload_n (pc := 95) (fr_get fo_158_3 3 rfl) rfl rfl ?_
          refine xv_gi (pc := 96) (fr_get fo_158_3 4 rfl) ow_158 fg_9_7_40 rfl ?_
          refine ex_iconst (pc := 99) (fr_get fo_158_3 5 rfl) ic_1 ?_
          refine ex_isub (pc := 100) (fr_get fo_158_3 6 rfl) ?_
          refine ex_istore (pc := 101) (fr_get fo_158_3 7 rfl) rfl (L' := [some (.inr (.inr (40, 0))), some (.inl v1), some (.inl v2), some (.inl v3), some (.inl v4), some (.inl v5), some (.inl v6), some (.inl (-1 : Int32)), some (.inl ((J1 40 0 4) - (1 : Int32)))]) rfl ?_
          exact h
        · replace h := h.2 c
          refine ex_aload_n (pc := 84) (fr_get fo_158_2 13 rfl) rfl rfl ?_
          refine ex_iconst (pc := 85) (fr_get fo_158_2 14 rfl) ic_1 ?_
          refine ex_pi (pc := 86) (fr_get fo_158_2 15 rfl) ow_158 fp_9_245_40 ?_
          refine ex_goto (pc := 89) (fr_get fo_158_3 0 rfl) (t := 36) rfl ?_
          exact h
    · replace h := h.2 c
      refine ex_aload_n (pc := 60) (fr_get fo_158_2 2 rfl) rfl rfl ?_
      refine ex_iconst (pc := 61) (fr_get fo_158_2 3 rfl) ic_0 ?_
      refine ex_pi (pc := 62) (fr_get fo_158_2 4 rfl) ow_158 fp_9_245_40 ?_
      refine ex_goto (pc := 65) (fr_get fo_158_2 5 rfl) (t := 36) rfl ?_
      exact h

theorem b_158_103 {d : Nat} {I : ma_I} {o : Nat} {Q : ma_Q} {v1 : Int32} {v2 : Int32} {v3 : Int32} {v4 : Int32} {v5 : Int32} {v6 : Int32} {v7 : Int32} {v8 : Int32}
  (h :
    (v8 < 0 →
      (v7 = (-1 : Int32) →
        (v5 ≠ (99 : Int32) →
          Ex (d + 1) 158 (36, [some (.inr (.inr (40, 0))), some (.inl v1), some (.inl v2), some (.inl v3), some (.inl v4), some (.inl (v5 + (1 : Int32))), some (.inl v6), some (.inl v7), some (.inl v8)], [], ma_mem I o, 0, 0) (ma_end Q)) ∧
        (v5 = (99 : Int32) →
          Ex (d + 1) 158 (36, [some (.inr (.inr (40, 0))), some (.inl v1), some (.inl v2), some (.inl v3), some (.inl v4), some (.inl v5), some (.inl v6), some (.inl v7), some (.inl v8)], [], ma_mem (ma_up I 40 0 36 (2 : Int32)) o, 0, 0) (ma_end Q))) ∧
      (v7 ≠ (-1 : Int32) →
        Exm (d) 133 [.inr (.inr (40, 0)), .inl v7, .inl v5, .inl v6, .inl (v5 - v2)] I o (fun r J1 p2 => ∃ x3 : Int32, r = some (.inl x3) ∧
          ma_in v7 9 ∧
          ma_in (J1 40 0 33) 24 ∧
          (J1 40 0 35 ≠ 0 →
            Ex (d + 1) 158 (36, [some (.inr (.inr (40, 0))), some (.inl v1), some (.inl v2), some (.inl v3), some (.inl (J1 46 0 v7.toNatClampNeg)), some (.inl (v5 + x3)), some (.inl (v6 + (1 : Int32))), some (.inl v7), some (.inl v8)], [], ma_mem (ma_up (ma_up (ma_up (ma_up J1 58 0 ((J1 40 0 33).toNatClampNeg) (J1 46 0 v7.toNatClampNeg)) 40 0 33 ((J1 40 0 33) + (1 : Int32))) 40 0 35 (1 : Int32)) 40 0 34 ((J1 40 0 34) ||| ((1 : Int32) <<< (v7 &&& 31)))) p2, 0, 0) (ma_end Q)) ∧
          (J1 40 0 35 = 0 →
            (((J1 40 0 34) >>> (v7 &&& 31)) &&& (1 : Int32) ≠ (1 : Int32) →
              Ex (d + 1) 158 (36, [some (.inr (.inr (40, 0))), some (.inl v1), some (.inl v2), some (.inl v3), some (.inl (J1 46 0 v7.toNatClampNeg)), some (.inl (v5 + x3)), some (.inl (v6 + (1 : Int32))), some (.inl v7), some (.inl v8)], [], ma_mem (ma_up (ma_up (ma_up (ma_up J1 58 0 ((J1 40 0 33).toNatClampNeg) (J1 46 0 v7.toNatClampNeg)) 40 0 33 ((J1 40 0 33) + (1 : Int32))) 40 0 35 (0 : Int32)) 40 0 34 ((J1 40 0 34) ||| ((1 : Int32) <<< (v7 &&& 31)))) p2, 0, 0) (ma_end Q)) ∧
            (((J1 40 0 34) >>> (v7 &&& 31)) &&& (1 : Int32) = (1 : Int32) →
              Ex (d + 1) 158 (36, [some (.inr (.inr (40, 0))), some (.inl v1), some (.inl v2), some (.inl v3), some (.inl (J1 46 0 v7.toNatClampNeg)), some (.inl (v5 + x3)), some (.inl (v6 + (1 : Int32))), some (.inl v7), some (.inl v8)], [], ma_mem (ma_up (ma_up (ma_up (ma_up J1 58 0 ((J1 40 0 33).toNatClampNeg) (J1 46 0 v7.toNatClampNeg)) 40 0 33 ((J1 40 0 33) + (1 : Int32))) 40 0 35 (1 : Int32)) 40 0 34 ((J1 40 0 34) ||| ((1 : Int32) <<< (v7 &&& 31)))) p2, 0, 0) (ma_end Q)))))) ∧
    (0 ≤ v8 →
      ((v3 >>> (v8 &&& 31)) &&& (1 : Int32) ≠ (1 : Int32) →
        Ex (d + 1) 158 (103, [some (.inr (.inr (40, 0))), some (.inl v1), some (.inl v2), some (.inl v3), some (.inl v4), some (.inl v5), some (.inl v6), some (.inl v7), some (.inl (v8 + (-1 : Int32)))], [], ma_mem I o, 0, 0) (ma_end Q)) ∧
      ((v3 >>> (v8 &&& 31)) &&& (1 : Int32) = (1 : Int32) →
        ma_in v8 9 ∧
        (I 45 0 v8.toNatClampNeg ≠ v4 →
          Ex (d + 1) 158 (103, [some (.inr (.inr (40, 0))), some (.inl v1), some (.inl v2), some (.inl v3), some (.inl v4), some (.inl v5), some (.inl v6), some (.inl v7), some (.inl (v8 + (-1 : Int32)))], [], ma_mem I o, 0, 0) (ma_end Q)) ∧
        (I 45 0 v8.toNatClampNeg = v4 →
          Exm (d) 132 [.inr (.inr (40, 0)), .inl v8, .inl v5] I o (fun r J4 p5 => ∃ x6 : Int32, r = some (.inl x6) ∧
            (x6 = 0 →
              Ex (d + 1) 158 (103, [some (.inr (.inr (40, 0))), some (.inl v1), some (.inl v2), some (.inl v3), some (.inl v4), some (.inl v5), some (.inl v6), some (.inl v7), some (.inl (v8 + (-1 : Int32)))], [], ma_mem J4 p5, 0, 0) (ma_end Q)) ∧
            (x6 ≠ 0 →
              Ex (d + 1) 158 (103, [some (.inr (.inr (40, 0))), some (.inl v1), some (.inl v2), some (.inl v3), some (.inl v4), some (.inl v5), some (.inl v6), some (.inl v8), some (.inl (v8 + (-1 : Int32)))], [], ma_mem J4 p5, 0, 0) (ma_end Q))))))) :
  Ex (d + 1) 158 (103, [some (.inr (.inr (40, 0))), some (.inl v1), some (.inl v2), some (.inl v3), some (.inl v4), some (.inl v5), some (.inl v6), some (.inl v7), some (.inl v8)], [], ma_mem I o, 0, 0) (ma_end Q) := by
  refine ex_iload (pc := 103) (fr_get fo_158_3 8 rfl) rfl ?_
  refine xv_blt (pc := 105) (fr_get fo_158_3 9 rfl) (t := 156) rfl (fun c => ?_) (fun c => ?_)
  · replace h := h.1 c
    refine ex_iload (pc := 156) (fr_get fo_158_5 2 rfl) rfl ?_
    refine ex_iconst (pc := 158) (fr_get fo_158_5 3 rfl) ic_m1 ?_
    refine xv_ceq (pc := 159) (fr_get fo_158_5 4 rfl) (t := 259) rfl (fun c => ?_) (fun c => ?_)
    · replace h := h.1 c
      refine ex_iload (pc := 259) (fr_get fo_158_8 11 rfl) rfl ?_
      refine ex_bipush (pc := 261) (fr_get fo_158_8 12 rfl) bp_99 ?_
      refine xv_cne (pc := 263) (fr_get fo_158_8 13 rfl) (t := 274) rfl (fun c => ?_) (fun c => ?_)
      · replace h := h.1 c
        refine xv_iinc (pc := 274) (fr_get fo_158_9 2 rfl) rfl ic_1 (L' := [some (.inr (.inr (40, 0))), some (.inl v1), some (.inl v2), some (.inl v3), some (.inl v4), some (.inl (v5 + (1 : Int32))), some (.inl v6), some (.inl v7), some (.inl v8)]) rfl ?_
        refine ex_goto (pc := 277) (fr_get fo_158_9 3 rfl) (t := 36) rfl ?_
        exact h
      · replace h := h.2 c
        refine ex_aload_n (pc := 266) (fr_get fo_158_8 14 rfl) rfl rfl ?_
        refine ex_iconst (pc := 267) (fr_get fo_158_8 15 rfl) ic_2 ?_
        refine ex_pi (pc := 268) (fr_get fo_158_9 0 rfl) ow_158 fp_9_245_40 ?_
        refine ex_goto (pc := 271) (fr_get fo_158_9 1 rfl) (t := 277) rfl ?_
        refine ex_goto (pc := 277) (fr_get fo_158_9 3 rfl) (t := 36) rfl ?_
        exact h
    · replace h := h.2 c
      refine ex_iload (pc := 162) (fr_get fo_158_5 5 rfl) rfl ?_
      refine ex_aload_n (pc := 164) (fr_get fo_158_5 6 rfl) rfl rfl ?_
      refine ex_iload (pc := 165) (fr_get fo_158_5 7 rfl) rfl ?_
      refine ex_iload (pc := 167) (fr_get fo_158_5 8 rfl) rfl ?_
      refine ex_iload (pc := 169) (fr_get fo_158_5 9 rfl) rfl ?_
      refine ex_iload (pc := 171) (fr_get fo_158_5 10 rfl) rfl ?_
      refine ex_iload_n (pc := 173) (fr_get fo_158_5 11 rfl) rfl ?_
      refine ex_isub (pc := 174) (fr_get fo_158_5 12 rfl) ?_
      refine xv_kv1 (pc := 175) (fr_get fo_158_5 13 rfl) cc_158_75 (as := [.inr (.inr (40, 0)), .inl v7, .inl v5, .inl v6, .inl (v5 - v2)]) (rs := [.inl v5]) rfl rfl rfl rfl rfl ?_
      refine h.mono (fun r J1 p2 h => ?_)
      obtain ⟨x3, hr, h⟩ := h
      refine ⟨x3, hr, ?_⟩
      refine ex_iadd (pc := 178) (fr_get fo_158_5 14 rfl) ?_
      refine ex_istore (pc := 179) (fr_get fo_158_5 15 rfl) rfl (L' := [some (.inr (.inr (40, 0))), some (.inl v1), some (.inl v2), some (.inl v3), some (.inl v4), some (.inl (v5 + x3)), some (.inl v6), some (.inl v7), some (.inl v8)]) rfl ?_
      refine ex_aload_n (pc := 181) (fr_get fo_158_6 0 rfl) rfl rfl ?_
      refine ex_gr (pc := 182) (fr_get fo_158_6 1 rfl) ow_158 fr_9_37_40 (q := (46, 0)) rfl ?_
      refine ex_iload (pc := 185) (fr_get fo_158_6 2 rfl) rfl ?_
      refine xv_iald (pc := 187) (fr_get fo_158_6 3 rfl) gk_46 (n := 9) (gn_46 ..) rfl rfl h.1 ?_
      replace h := h.2
      refine ex_istore (pc := 188) (fr_get fo_158_6 4 rfl) rfl (L' := [some (.inr (.inr (40, 0))), some (.inl v1), some (.inl v2), some (.inl v3), some (.inl (J1 46 0 v7.toNatClampNeg)), some (.inl (v5 + x3)), some (.inl v6), some (.inl v7), some (.inl v8)]) rfl ?_
      refine xv_iinc (pc := 190) (fr_get fo_158_6 5 rfl) rfl ic_1 (L' := [some (.inr (.inr (40, 0))), some (.inl v1), some (.inl v2), some (.inl v3), some (.inl (J1 46 0 v7.toNatClampNeg)), some (.inl (v5 + x3)), some (.inl (v6 + (1 : Int32))), some (.inl v7), some (.inl v8)]) rfl ?_
      refine ex_aload_n (pc := 193) (fr_get fo_158_6 6 rfl) rfl rfl ?_
      refine ex_gr (pc := 194) (fr_get fo_158_6 7 rfl) ow_158 fr_9_204_40 (q := (58, 0)) rfl ?_
      refine ex_aload_n (pc := 197) (fr_get fo_158_6 8 rfl) rfl rfl ?_
      refine xv_gi (pc := 198) (fr_get fo_158_6 9 rfl) ow_158 fg_9_235_40 rfl ?_
      refine ex_iload (pc := 201) (fr_get fo_158_6 10 rfl) rfl ?_
      refine xv_iast (pc := 203) (fr_get fo_158_6 11 rfl) gs_58 gl_58 rfl h.1 ?_
      replace h := h.2
      refine ex_aload_n (pc := 204) (fr_get fo_158_6 12 rfl) rfl rfl ?_
      refine ex_dupr (pc := 205) (fr_get fo_158_6 13 rfl) ?_
      refine xv_gi (pc := 206) (fr_get fo_158_6 14 rfl) ow_158 fg_9_235_40 (xv_ug rfl) ?_
      refine ex_iconst (pc := 209) (fr_get fo_158_6 15 rfl) ic_1 ?_
      refine ex_iadd (pc := 210) (fr_get fo_158_7 0 rfl) ?_
      refine ex_pi (pc := 211) (fr_get fo_158_7 1 rfl) ow_158 fp_9_235_40 ?_
      refine ex_aload_n (pc := 214) (fr_get fo_158_7 2 rfl) rfl rfl ?_
      refine ex_aload_n (pc := 215) (fr_get fo_158_7 3 rfl) rfl rfl ?_
      refine xv_gi (pc := 216) (fr_get fo_158_7 4 rfl) ow_158 fg_9_241_40 (Eq.trans (xv_uj rfl) (xv_ug rfl)) ?_
      refine xv_bne (pc := 219) (fr_get fo_158_7 5 rfl) (t := 235) rfl (fun c => ?_) (fun c => ?_)
      · replace h := h.1 c
        refine ex_iconst (pc := 235) (fr_get fo_158_7 14 rfl) ic_1 ?_
        refine ex_goto (pc := 236) (fr_get fo_158_7 15 rfl) (t := 240) rfl ?_
        refine xv_pb (pc := 240) (fr_get fo_158_8 1 rfl) ow_158 fb_9_241_40 (Or.inr rfl) ?_
        refine ex_aload_n (pc := 243) (fr_get fo_158_8 2 rfl) rfl rfl ?_
        refine ex_dupr (pc := 244) (fr_get fo_158_8 3 rfl) ?_
        refine xv_gi (pc := 245) (fr_get fo_158_8 4 rfl) ow_158 fg_9_238_40 (Eq.trans (xv_uj rfl) (Eq.trans (xv_uj rfl) (xv_ug rfl))) ?_
        refine ex_iconst (pc := 248) (fr_get fo_158_8 5 rfl) ic_1 ?_
        refine ex_iload (pc := 249) (fr_get fo_158_8 6 rfl) rfl ?_
        refine ex_ishl (pc := 251) (fr_get fo_158_8 7 rfl) ?_
        refine ex_ior (pc := 252) (fr_get fo_158_8 8 rfl) ?_
        refine ex_pi (pc := 253) (fr_get fo_158_8 9 rfl) ow_158 fp_9_238_40 ?_
        refine ex_goto (pc := 256) (fr_get fo_158_8 10 rfl) (t := 277) rfl ?_
        refine ex_goto (pc := 277) (fr_get fo_158_9 3 rfl) (t := 36) rfl ?_
        exact h
      · replace h := h.2 c
        refine ex_aload_n (pc := 222) (fr_get fo_158_7 6 rfl) rfl rfl ?_
        refine xv_gi (pc := 223) (fr_get fo_158_7 7 rfl) ow_158 fg_9_238_40 (Eq.trans (xv_uj rfl) (xv_ug rfl)) ?_
        refine ex_iload (pc := 226) (fr_get fo_158_7 8 rfl) rfl ?_
        refine ex_ishr (pc := 228) (fr_get fo_158_7 9 rfl) ?_
        refine ex_iconst (pc := 229) (fr_get fo_158_7 10 rfl) ic_1 ?_
        refine ex_iand (pc := 230) (fr_get fo_158_7 11 rfl) ?_
        refine ex_iconst (pc := 231) (fr_get fo_158_7 12 rfl) ic_1 ?_
        refine xv_cne (pc := 232) (fr_get fo_158_7 13 rfl) (t := 239) rfl (fun c => ?_) (fun c => ?_)
        · replace h := h.1 c
          refine ex_iconst (pc := 239) (fr_get fo_158_8 0 rfl) ic_0 ?_
          refine xv_pb (pc := 240) (fr_get fo_158_8 1 rfl) ow_158 fb_9_241_40 (Or.inl rfl) ?_
          refine ex_aload_n (pc := 243) (fr_get fo_158_8 2 rfl) rfl rfl ?_
          refine ex_dupr (pc := 244) (fr_get fo_158_8 3 rfl) ?_
          refine xv_gi (pc := 245) (fr_get fo_158_8 4 rfl) ow_158 fg_9_238_40 (Eq.trans (xv_uj rfl) (Eq.trans (xv_uj rfl) (xv_ug rfl))) ?_
          refine ex_iconst (pc := 248) (fr_get fo_158_8 5 rfl) ic_1 ?_
          refine ex_iload (pc := 249) (fr_get fo_158_8 6 rfl) rfl ?_
          refine ex_ishl (pc := 251) (fr_get fo_158_8 7 rfl) ?_
          refine ex_ior (pc := 252) (fr_get fo_158_8 8 rfl) ?_
          refine ex_pi (pc := 253) (fr_get fo_158_8 9 rfl) ow_158 fp_9_238_40 ?_
          refine ex_goto (pc := 256) (fr_get fo_158_8 10 rfl) (t := 277) rfl ?_
          refine ex_goto (pc := 277) (fr_get fo_158_9 3 rfl) (t := 36) rfl ?_
          exact h
        · replace h := h.2 c
          refine ex_iconst (pc := 235) (fr_get fo_158_7 14 rfl) ic_1 ?_
          refine ex_goto (pc := 236) (fr_get fo_158_7 15 rfl) (t := 240) rfl ?_
          refine xv_pb (pc := 240) (fr_get fo_158_8 1 rfl) ow_158 fb_9_241_40 (Or.inr rfl) ?_
          refine ex_aload_n (pc := 243) (fr_get fo_158_8 2 rfl) rfl rfl ?_
          refine ex_dupr (pc := 244) (fr_get fo_158_8 3 rfl) ?_
          refine xv_gi (pc := 245) (fr_get fo_158_8 4 rfl) ow_158 fg_9_238_40 (Eq.trans (xv_uj rfl) (Eq.trans (xv_uj rfl) (xv_ug rfl))) ?_
          refine ex_iconst (pc := 248) (fr_get fo_158_8 5 rfl) ic_1 ?_
          refine ex_iload (pc := 249) (fr_get fo_158_8 6 rfl) rfl ?_
          refine ex_ishl (pc := 251) (fr_get fo_158_8 7 rfl) ?_
          refine ex_ior (pc := 252) (fr_get fo_158_8 8 rfl) ?_
          refine ex_pi (pc := 253) (fr_get fo_158_8 9 rfl) ow_158 fp_9_238_40 ?_
          refine ex_goto (pc := 256) (fr_get fo_158_8 10 rfl) (t := 277) rfl ?_
          refine ex_goto (pc := 277) (fr_get fo_158_9 3 rfl) (t := 36) rfl ?_
          exact h
  · replace h := h.2 c
    refine ex_iload_n (pc := 108) (fr_get fo_158_3 10 rfl) rfl ?_
    refine ex_iload (pc := 109) (fr_get fo_158_3 11 rfl) rfl ?_
    refine ex_ishr (pc := 111) (fr_get fo_158_3 12 rfl) ?_
    refine ex_iconst (pc := 112) (fr_get fo_158_3 13 rfl) ic_1 ?_
    refine ex_iand (pc := 113) (fr_get fo_158_3 14 rfl) ?_
    refine ex_iconst (pc := 114) (fr_get fo_158_3 15 rfl) ic_1 ?_
    refine xv_cne (pc := 115) (fr_get fo_158_4 0 rfl) (t := 146) rfl (fun c => ?_) (fun c => ?_)
    · replace h := h.1 c
      refine ex_iload (pc := 146) (fr_get fo_158_4 14 rfl) rfl ?_
      refine ex_istore (pc := 148) (fr_get fo_158_4 15 rfl) rfl (L' := [some (.inr (.inr (40, 0))), some (.inl v1), some (.inl v2), some (.inl v3), some (.inl v4), some (.inl v5), some (.inl v6), some (.inl v7), some (.inl v8)]) rfl ?_
      refine xv_iinc (pc := 150) (fr_get fo_158_5 0 rfl) rfl ic_m1 (L' := [some (.inr (.inr (40, 0))), some (.inl v1), some (.inl v2), some (.inl v3), some (.inl v4), some (.inl v5), some (.inl v6), some (.inl v7), some (.inl (v8 + (-1 : Int32)))]) rfl ?_
      refine ex_goto (pc := 153) (fr_get fo_158_5 1 rfl) (t := 103) rfl ?_
      exact h
    · replace h := h.2 c
      refine ex_aload_n (pc := 118) (fr_get fo_158_4 1 rfl) rfl rfl ?_
      refine ex_gr (pc := 119) (fr_get fo_158_4 2 rfl) ow_158 fr_9_34_40 (q := (45, 0)) rfl ?_
      refine ex_iload (pc := 122) (fr_get fo_158_4 3 rfl) rfl ?_
      refine xv_iald (pc := 124) (fr_get fo_158_4 4 rfl) gk_45 (n := 9) (gn_45 ..) rfl rfl h.1 ?_
      replace h := h.2
      refine ex_iload (pc := 125) (fr_get fo_158_4 5 rfl) rfl ?_
      refine xv_cne (pc := 127) (fr_get fo_158_4 6 rfl) (t := 146) rfl (fun c => ?_) (fun c => ?_)
      · replace h := h.1 c
        refine ex_iload (pc := 146) (fr_get fo_158_4 14 rfl) rfl ?_
        refine ex_istore (pc := 148) (fr_get fo_158_4 15 rfl) rfl (L' := [some (.inr (.inr (40, 0))), some (.inl v1), some (.inl v2), some (.inl v3), some (.inl v4), some (.inl v5), some (.inl v6), some (.inl v7), some (.inl v8)]) rfl ?_
        refine xv_iinc (pc := 150) (fr_get fo_158_5 0 rfl) rfl ic_m1 (L' := [some (.inr (.inr (40, 0))), some (.inl v1), some (.inl v2), some (.inl v3), some (.inl v4), some (.inl v5), some (.inl v6), some (.inl v7), some (.inl (v8 + (-1 : Int32)))]) rfl ?_
        refine ex_goto (pc := 153) (fr_get fo_158_5 1 rfl) (t := 103) rfl ?_
        exact h
      · replace h := h.2 c
        refine ex_aload_n (pc := 130) (fr_get fo_158_4 7 rfl) rfl rfl ?_
        refine ex_iload (pc := 131) (fr_get fo_158_4 8 rfl) rfl ?_
        refine ex_iload (pc := 133) (fr_get fo_158_4 9 rfl) rfl ?_
        refine xv_kv1 (pc := 135) (fr_get fo_158_4 10 rfl) cc_158_71 (as := [.inr (.inr (40, 0)), .inl v8, .inl v5]) (rs := []) rfl rfl rfl rfl rfl ?_
        refine h.mono (fun r J4 p5 h => ?_)
        obtain ⟨x6, hr, h⟩ := h
        refine ⟨x6, hr, ?_⟩
        refine xv_beq (pc := 138) (fr_get fo_158_4 11 rfl) (t := 146) rfl (fun c => ?_) (fun c => ?_)
        · replace h := h.1 c
          refine ex_iload (pc := 146) (fr_get fo_158_4 14 rfl) rfl ?_
          refine ex_istore (pc := 148) (fr_get fo_158_4 15 rfl) rfl (L' := [some (.inr (.inr (40, 0))), some (.inl v1), some (.inl v2), some (.inl v3), some (.inl v4), some (.inl v5), some (.inl v6), some (.inl v7), some (.inl v8)]) rfl ?_
          refine xv_iinc (pc := 150) (fr_get fo_158_5 0 rfl) rfl ic_m1 (L' := [some (.inr (.inr (40, 0))), some (.inl v1), some (.inl v2), some (.inl v3), some (.inl v4), some (.inl v5), some (.inl v6), some (.inl v7), some (.inl (v8 + (-1 : Int32)))]) rfl ?_
          refine ex_goto (pc := 153) (fr_get fo_158_5 1 rfl) (t := 103) rfl ?_
          exact h
        · replace h := h.2 c
          refine ex_iload (pc := 141) (fr_get fo_158_4 12 rfl) rfl ?_
          refine ex_goto (pc := 143) (fr_get fo_158_4 13 rfl) (t := 148) rfl ?_
          refine ex_istore (pc := 148) (fr_get fo_158_4 15 rfl) rfl (L' := [some (.inr (.inr (40, 0))), some (.inl v1), some (.inl v2), some (.inl v3), some (.inl v4), some (.inl v5), some (.inl v6), some (.inl v8), some (.inl v8)]) rfl ?_
          refine xv_iinc (pc := 150) (fr_get fo_158_5 0 rfl) rfl ic_m1 (L' := [some (.inr (.inr (40, 0))), some (.inl v1), some (.inl v2), some (.inl v3), some (.inl v4), some (.inl v5), some (.inl v6), some (.inl v8), some (.inl (v8 + (-1 : Int32)))]) rfl ?_
          refine ex_goto (pc := 153) (fr_get fo_158_5 1 rfl) (t := 103) rfl ?_
          exact h

theorem e_160 {d : Nat} {I : ma_I} {o : Nat} {Q : ma_Q} {a1 : Int32} {a2 : Int32} {a3 : Int32}
  (h :
    (¬((0 : Int32) ≤ a1 ∧ a1 ≤ (7 : Int32)) →
      Q (some (.inl (-2 : Int32))) I o) ∧
    ((0 : Int32) ≤ a1 ∧ a1 ≤ (7 : Int32) →
      (¬((0 : Int32) ≤ a2 ∧ a2 ≤ (99 : Int32)) →
        Q (some (.inl (-2 : Int32))) I o) ∧
      ((0 : Int32) ≤ a2 ∧ a2 ≤ (99 : Int32) →
        ((0 : Int32) ≤ a3 ∧ a3 ≤ (4 : Int32) →
          Exm (d + 1) 158 [.inr (.inr (40, 0)), .inl a1, .inl a2, .inl (xv_al (I 40 0 4))] I o (fun r J1 p2 => r = none ∧
            (a3 = (0 : Int32) →
              Q (some (.inl (J1 40 0 36))) J1 p2) ∧
            (a3 ≠ (0 : Int32) →
              (a3 = (1 : Int32) →
                Q (some (.inl (J1 40 0 37))) J1 p2) ∧
              (a3 ≠ (1 : Int32) →
                (a3 = (2 : Int32) →
                  ma_in ((J1 40 0 33) - (1 : Int32)) 24 ∧
                  Q (some (.inl (J1 58 0 (((J1 40 0 33) - (1 : Int32)).toNatClampNeg)))) J1 p2) ∧
                (a3 ≠ (2 : Int32) →
                  (a3 = (3 : Int32) →
                    Q (some (.inl ((J1 40 0 33) - (1 : Int32)))) J1 p2) ∧
                  (a3 ≠ (3 : Int32) →
                    (a3 = (4 : Int32) →
                      Q (some (.inl ((J1 40 0 37) - a2))) J1 p2) ∧
                    (a3 ≠ (4 : Int32) →
                      (J1 40 0 33 ≤ a3 - (10 : Int32) →
                        Q (some (.inl (-1 : Int32))) J1 p2) ∧
                      (a3 - (10 : Int32) < J1 40 0 33 →
                        ma_in (a3 - (10 : Int32)) 24 ∧
                        Q (some (.inl (J1 58 0 ((a3 - (10 : Int32)).toNatClampNeg)))) J1 p2)))))))) ∧
        (¬((0 : Int32) ≤ a3 ∧ a3 ≤ (4 : Int32)) →
          ((10 : Int32) ≤ a3 ∧ a3 ≤ (29 : Int32) →
            Exm (d + 1) 158 [.inr (.inr (40, 0)), .inl a1, .inl a2, .inl (xv_al (I 40 0 4))] I o (fun r J3 p4 => r = none ∧
              (a3 = (0 : Int32) →
                Q (some (.inl (J3 40 0 36))) J3 p4) ∧
              (a3 ≠ (0 : Int32) →
                (a3 = (1 : Int32) →
                  Q (some (.inl (J3 40 0 37))) J3 p4) ∧
                (a3 ≠ (1 : Int32) →
                  (a3 = (2 : Int32) →
                    ma_in ((J3 40 0 33) - (1 : Int32)) 24 ∧
                    Q (some (.inl (J3 58 0 (((J3 40 0 33) - (1 : Int32)).toNatClampNeg)))) J3 p4) ∧
                  (a3 ≠ (2 : Int32) →
                    (a3 = (3 : Int32) →
                      Q (some (.inl ((J3 40 0 33) - (1 : Int32)))) J3 p4) ∧
                    (a3 ≠ (3 : Int32) →
                      (a3 = (4 : Int32) →
                        Q (some (.inl ((J3 40 0 37) - a2))) J3 p4) ∧
                      (a3 ≠ (4 : Int32) →
                        (J3 40 0 33 ≤ a3 - (10 : Int32) →
                          Q (some (.inl (-1 : Int32))) J3 p4) ∧
                        (a3 - (10 : Int32) < J3 40 0 33 →
                          ma_in (a3 - (10 : Int32)) 24 ∧
                          Q (some (.inl (J3 58 0 ((a3 - (10 : Int32)).toNatClampNeg)))) J3 p4)))))))) ∧
          (¬((10 : Int32) ≤ a3 ∧ a3 ≤ (29 : Int32)) →
            Q (some (.inl (-2 : Int32))) I o))))) :
  Exm (d + 2) 160 [.inr (.inr (40, 0)), .inl a1, .inl a2, .inl a3] I o Q := by
  show Ex (d + 2) 160 (0, [some (.inr (.inr (40, 0))), some (.inl a1), some (.inl a2), some (.inl a3)], [], ma_mem I o, 0, 0) (ma_end Q)
  refine ex_iload_n (pc := 0) (fr_get fo_160_0 0 rfl) rfl ?_
  refine xv_ks1 (pc := 1) (fr_get fo_160_0 1 rfl) cc_160_15 (as := [.inl a1]) (rs := []) rfl rfl rfl rfl ?_
  refine sm_121 ?_
  refine ⟨_, rfl, ?_⟩
  refine xv_peq (pc := 4) (fr_get fo_160_0 2 rfl) (t := 34) rfl (fun c => ?_) (fun c => ?_)
  · replace h := h.1 c
    refine ex_bipush (pc := 34) (fr_get fo_160_1 0 rfl) bp_m2 ?_
    exact ex_ireturn (pc := 36) (fr_get fo_160_1 1 rfl) rt_160 rfl rfl (ma_end_mk h)
  · replace h := h.2 c
    refine ex_iload_n (pc := 7) (fr_get fo_160_0 3 rfl) rfl ?_
    refine xv_ks1 (pc := 8) (fr_get fo_160_0 4 rfl) cc_160_11 (as := [.inl a2]) (rs := []) rfl rfl rfl rfl ?_
    refine sm_122 ?_
    refine ⟨_, rfl, ?_⟩
    refine xv_peq (pc := 11) (fr_get fo_160_0 5 rfl) (t := 34) rfl (fun c => ?_) (fun c => ?_)
    · replace h := h.1 c
      refine ex_bipush (pc := 34) (fr_get fo_160_1 0 rfl) bp_m2 ?_
      exact ex_ireturn (pc := 36) (fr_get fo_160_1 1 rfl) rt_160 rfl rfl (ma_end_mk h)
    · replace h := h.2 c
      refine ex_iload_n (pc := 14) (fr_get fo_160_0 6 rfl) rfl ?_
      refine ex_iconst (pc := 15) (fr_get fo_160_0 7 rfl) ic_0 ?_
      refine ex_iconst (pc := 16) (fr_get fo_160_0 8 rfl) ic_4 ?_
      refine xv_ks1 (pc := 17) (fr_get fo_160_0 9 rfl) cc_160_3 (as := [.inl a3, .inl (0 : Int32), .inl (4 : Int32)]) (rs := []) rfl rfl rfl rfl ?_
      refine sm_118 ?_
      refine ⟨_, rfl, ?_⟩
      refine xv_pne (pc := 20) (fr_get fo_160_0 10 rfl) (t := 37) rfl (fun c => ?_) (fun c => ?_)
      · replace h := h.1 c
        refine ex_aload_n (pc := 37) (fr_get fo_160_1 2 rfl) rfl rfl ?_
        refine ex_iload_n (pc := 38) (fr_get fo_160_1 3 rfl) rfl ?_
        refine ex_iload_n (pc := 39) (fr_get fo_160_1 4 rfl) rfl ?_
        refine ex_aload_n (pc := 40) (fr_get fo_160_1 5 rfl) rfl rfl ?_
        refine xv_kv1 (pc := 41) (fr_get fo_160_1 6 rfl) cc_160_251 (as := [.inr (.inr (40, 0))]) (rs := [.inl a2, .inl a1, .inr (.inr (40, 0))]) rfl rfl rfl rfl rfl ?_
        refine sm_159 rfl ?_
        refine ⟨_, rfl, ?_⟩
        refine xv_kv0 (pc := 44) (fr_get fo_160_1 7 rfl) cc_160_255 (as := [.inr (.inr (40, 0)), .inl a1, .inl a2, .inl (xv_al (I 40 0 4))]) (rs := []) rfl rfl rfl rfl rfl ?_
        refine h.mono (fun r J1 p2 h => ⟨h.1, ?_⟩)
        replace h := h.2
        refine ex_iload_n (pc := 47) (fr_get fo_160_1 8 rfl) rfl ?_
        refine xv_ts (pc := 48) (fr_get fo_160_1 9 rfl) (l := [36, 41, 46, 58, 65]) rfl tk_160_48 ?_
        refine xv_tc (t := 84) ic_0 rfl (fun c => ?_) (fun c => ?_)
        · replace h := h.1 c
          refine ex_aload_n (pc := 84) (fr_get fo_160_1 10 rfl) rfl rfl ?_
          refine xv_gi (pc := 85) (fr_get fo_160_1 11 rfl) ow_160 fg_9_245_40 rfl ?_
          exact ex_ireturn (pc := 88) (fr_get fo_160_1 12 rfl) rt_160 rfl rfl (ma_end_mk h)
        · replace h := h.2 c
          refine xv_tc (t := 89) ic_1 rfl (fun c => ?_) (fun c => ?_)
          · replace h := h.1 c
            refine ex_aload_n (pc := 89) (fr_get fo_160_1 13 rfl) rfl rfl ?_
            refine xv_gi (pc := 90) (fr_get fo_160_1 14 rfl) ow_160 fg_9_248_40 rfl ?_
            exact ex_ireturn (pc := 93) (fr_get fo_160_1 15 rfl) rt_160 rfl rfl (ma_end_mk h)
          · replace h := h.2 c
            refine xv_tc (t := 94) ic_2 rfl (fun c => ?_) (fun c => ?_)
            · replace h := h.1 c
              refine ex_aload_n (pc := 94) (fr_get fo_160_2 0 rfl) rfl rfl ?_
              refine ex_gr (pc := 95) (fr_get fo_160_2 1 rfl) ow_160 fr_9_204_40 (q := (58, 0)) rfl ?_
              refine ex_aload_n (pc := 98) (fr_get fo_160_2 2 rfl) rfl rfl ?_
              refine xv_gi (pc := 99) (fr_get fo_160_2 3 rfl) ow_160 fg_9_235_40 rfl ?_
              refine ex_iconst (pc := 102) (fr_get fo_160_2 4 rfl) ic_1 ?_
              refine ex_isub (pc := 103) (fr_get fo_160_2 5 rfl) ?_
              refine xv_iald (pc := 104) (fr_get fo_160_2 6 rfl) gk_58 (n := 24) (gn_58 ..) rfl rfl h.1 ?_
              replace h := h.2
              exact ex_ireturn (pc := 105) (fr_get fo_160_2 7 rfl) rt_160 rfl rfl (ma_end_mk h)
            · replace h := h.2 c
              refine xv_tc (t := 106) ic_3 rfl (fun c => ?_) (fun c => ?_)
              · replace h := h.1 c
                refine ex_aload_n (pc := 106) (fr_get fo_160_2 8 rfl) rfl rfl ?_
                refine xv_gi (pc := 107) (fr_get fo_160_2 9 rfl) ow_160 fg_9_235_40 rfl ?_
                refine ex_iconst (pc := 110) (fr_get fo_160_2 10 rfl) ic_1 ?_
                refine ex_isub (pc := 111) (fr_get fo_160_2 11 rfl) ?_
                exact ex_ireturn (pc := 112) (fr_get fo_160_2 12 rfl) rt_160 rfl rfl (ma_end_mk h)
              · replace h := h.2 c
                refine xv_tc (t := 113) ic_4 rfl (fun c => ?_) (fun c => ?_)
                · replace h := h.1 c
                  refine ex_aload_n (pc := 113) (fr_get fo_160_2 13 rfl) rfl rfl ?_
                  refine xv_gi (pc := 114) (fr_get fo_160_2 14 rfl) ow_160 fg_9_248_40 rfl ?_
                  refine ex_iload_n (pc := 117) (fr_get fo_160_2 15 rfl) rfl ?_
                  refine ex_isub (pc := 118) (fr_get fo_160_3 0 rfl) ?_
                  exact ex_ireturn (pc := 119) (fr_get fo_160_3 1 rfl) rt_160 rfl rfl (ma_end_mk h)
                · replace h := h.2 c
                  refine xv_tn (t := 120) rfl ?_
                  refine ex_iload_n (pc := 120) (fr_get fo_160_3 2 rfl) rfl ?_
                  refine ex_bipush (pc := 121) (fr_get fo_160_3 3 rfl) bp_10 ?_
                  refine ex_isub (pc := 123) (fr_get fo_160_3 4 rfl) ?_
                  refine ex_aload_n (pc := 124) (fr_get fo_160_3 5 rfl) rfl rfl ?_
                  refine xv_gi (pc := 125) (fr_get fo_160_3 6 rfl) ow_160 fg_9_235_40 rfl ?_
                  refine xv_cge (pc := 128) (fr_get fo_160_3 7 rfl) (t := 143) rfl (fun c => ?_) (fun c => ?_)
                  · replace h := h.1 c
                    refine ex_iconst (pc := 143) (fr_get fo_160_3 15 rfl) ic_m1 ?_
                    exact ex_ireturn (pc := 144) (fr_get fo_160_4 0 rfl) rt_160 rfl rfl (ma_end_mk h)
                  · replace h := h.2 c
                    refine ex_aload_n (pc := 131) (fr_get fo_160_3 8 rfl) rfl rfl ?_
                    refine ex_gr (pc := 132) (fr_get fo_160_3 9 rfl) ow_160 fr_9_204_40 (q := (58, 0)) rfl ?_
                    refine ex_iload_n (pc := 135) (fr_get fo_160_3 10 rfl) rfl ?_
                    refine ex_bipush (pc := 136) (fr_get fo_160_3 11 rfl) bp_10 ?_
                    refine ex_isub (pc := 138) (fr_get fo_160_3 12 rfl) ?_
                    refine xv_iald (pc := 139) (fr_get fo_160_3 13 rfl) gk_58 (n := 24) (gn_58 ..) rfl rfl h.1 ?_
                    replace h := h.2
                    refine ex_goto (pc := 140) (fr_get fo_160_3 14 rfl) (t := 144) rfl ?_
                    exact ex_ireturn (pc := 144) (fr_get fo_160_4 0 rfl) rt_160 rfl rfl (ma_end_mk h)
      · replace h := h.2 c
        refine ex_iload_n (pc := 23) (fr_get fo_160_0 11 rfl) rfl ?_
        refine ex_bipush (pc := 24) (fr_get fo_160_0 12 rfl) bp_10 ?_
        refine ex_bipush (pc := 26) (fr_get fo_160_0 13 rfl) bp_29 ?_
        refine xv_ks1 (pc := 28) (fr_get fo_160_0 14 rfl) cc_160_3 (as := [.inl a3, .inl (10 : Int32), .inl (29 : Int32)]) (rs := []) rfl rfl rfl rfl ?_
        refine sm_118 ?_
        refine ⟨_, rfl, ?_⟩
        refine xv_pne (pc := 31) (fr_get fo_160_0 15 rfl) (t := 37) rfl (fun c => ?_) (fun c => ?_)
        · replace h := h.1 c
          refine ex_aload_n (pc := 37) (fr_get fo_160_1 2 rfl) rfl rfl ?_
          refine ex_iload_n (pc := 38) (fr_get fo_160_1 3 rfl) rfl ?_
          refine ex_iload_n (pc := 39) (fr_get fo_160_1 4 rfl) rfl ?_
          refine ex_aload_n (pc := 40) (fr_get fo_160_1 5 rfl) rfl rfl ?_
          refine xv_kv1 (pc := 41) (fr_get fo_160_1 6 rfl) cc_160_251 (as := [.inr (.inr (40, 0))]) (rs := [.inl a2, .inl a1, .inr (.inr (40, 0))]) rfl rfl rfl rfl rfl ?_
          refine sm_159 rfl ?_
          refine ⟨_, rfl, ?_⟩
          refine xv_kv0 (pc := 44) (fr_get fo_160_1 7 rfl) cc_160_255 (as := [.inr (.inr (40, 0)), .inl a1, .inl a2, .inl (xv_al (I 40 0 4))]) (rs := []) rfl rfl rfl rfl rfl ?_
          refine h.mono (fun r J3 p4 h => ⟨h.1, ?_⟩)
          replace h := h.2
          refine ex_iload_n (pc := 47) (fr_get fo_160_1 8 rfl) rfl ?_
          refine xv_ts (pc := 48) (fr_get fo_160_1 9 rfl) (l := [36, 41, 46, 58, 65]) rfl tk_160_48 ?_
          refine xv_tc (t := 84) ic_0 rfl (fun c => ?_) (fun c => ?_)
          · replace h := h.1 c
            refine ex_aload_n (pc := 84) (fr_get fo_160_1 10 rfl) rfl rfl ?_
            refine xv_gi (pc := 85) (fr_get fo_160_1 11 rfl) ow_160 fg_9_245_40 rfl ?_
            exact ex_ireturn (pc := 88) (fr_get fo_160_1 12 rfl) rt_160 rfl rfl (ma_end_mk h)
          · replace h := h.2 c
            refine xv_tc (t := 89) ic_1 rfl (fun c => ?_) (fun c => ?_)
            · replace h := h.1 c
              refine ex_aload_n (pc := 89) (fr_get fo_160_1 13 rfl) rfl rfl ?_
              refine xv_gi (pc := 90) (fr_get fo_160_1 14 rfl) ow_160 fg_9_248_40 rfl ?_
              exact ex_ireturn (pc := 93) (fr_get fo_160_1 15 rfl) rt_160 rfl rfl (ma_end_mk h)
            · replace h := h.2 c
              refine xv_tc (t := 94) ic_2 rfl (fun c => ?_) (fun c => ?_)
              · replace h := h.1 c
                refine ex_aload_n (pc := 94) (fr_get fo_160_2 0 rfl) rfl rfl ?_
                refine ex_gr (pc := 95) (fr_get fo_160_2 1 rfl) ow_160 fr_9_204_40 (q := (58, 0)) rfl ?_
                refine ex_aload_n (pc := 98) (fr_get fo_160_2 2 rfl) rfl rfl ?_
                refine xv_gi (pc := 99) (fr_get fo_160_2 3 rfl) ow_160 fg_9_235_40 rfl ?_
                refine ex_iconst (pc := 102) (fr_get fo_160_2 4 rfl) ic_1 ?_
                refine ex_isub (pc := 103) (fr_get fo_160_2 5 rfl) ?_
                refine xv_iald (pc := 104) (fr_get fo_160_2 6 rfl) gk_58 (n := 24) (gn_58 ..) rfl rfl h.1 ?_
                replace h := h.2
                exact ex_ireturn (pc := 105) (fr_get fo_160_2 7 rfl) rt_160 rfl rfl (ma_end_mk h)
              · replace h := h.2 c
                refine xv_tc (t := 106) ic_3 rfl (fun c => ?_) (fun c => ?_)
                · replace h := h.1 c
                  refine ex_aload_n (pc := 106) (fr_get fo_160_2 8 rfl) rfl rfl ?_
                  refine xv_gi (pc := 107) (fr_get fo_160_2 9 rfl) ow_160 fg_9_235_40 rfl ?_
                  refine ex_iconst (pc := 110) (fr_get fo_160_2 10 rfl) ic_1 ?_
                  refine ex_isub (pc := 111) (fr_get fo_160_2 11 rfl) ?_
                  exact ex_ireturn (pc := 112) (fr_get fo_160_2 12 rfl) rt_160 rfl rfl (ma_end_mk h)
                · replace h := h.2 c
                  refine xv_tc (t := 113) ic_4 rfl (fun c => ?_) (fun c => ?_)
                  · replace h := h.1 c
                    refine ex_aload_n (pc := 113) (fr_get fo_160_2 13 rfl) rfl rfl ?_
                    refine xv_gi (pc := 114) (fr_get fo_160_2 14 rfl) ow_160 fg_9_248_40 rfl ?_
                    refine ex_iload_n (pc := 117) (fr_get fo_160_2 15 rfl) rfl ?_
                    refine ex_isub (pc := 118) (fr_get fo_160_3 0 rfl) ?_
                    exact ex_ireturn (pc := 119) (fr_get fo_160_3 1 rfl) rt_160 rfl rfl (ma_end_mk h)
                  · replace h := h.2 c
                    refine xv_tn (t := 120) rfl ?_
                    refine ex_iload_n (pc := 120) (fr_get fo_160_3 2 rfl) rfl ?_
                    refine ex_bipush (pc := 121) (fr_get fo_160_3 3 rfl) bp_10 ?_
                    refine ex_isub (pc := 123) (fr_get fo_160_3 4 rfl) ?_
                    refine ex_aload_n (pc := 124) (fr_get fo_160_3 5 rfl) rfl rfl ?_
                    refine xv_gi (pc := 125) (fr_get fo_160_3 6 rfl) ow_160 fg_9_235_40 rfl ?_
                    refine xv_cge (pc := 128) (fr_get fo_160_3 7 rfl) (t := 143) rfl (fun c => ?_) (fun c => ?_)
                    · replace h := h.1 c
                      refine ex_iconst (pc := 143) (fr_get fo_160_3 15 rfl) ic_m1 ?_
                      exact ex_ireturn (pc := 144) (fr_get fo_160_4 0 rfl) rt_160 rfl rfl (ma_end_mk h)
                    · replace h := h.2 c
                      refine ex_aload_n (pc := 131) (fr_get fo_160_3 8 rfl) rfl rfl ?_
                      refine ex_gr (pc := 132) (fr_get fo_160_3 9 rfl) ow_160 fr_9_204_40 (q := (58, 0)) rfl ?_
                      refine ex_iload_n (pc := 135) (fr_get fo_160_3 10 rfl) rfl ?_
                      refine ex_bipush (pc := 136) (fr_get fo_160_3 11 rfl) bp_10 ?_
                      refine ex_isub (pc := 138) (fr_get fo_160_3 12 rfl) ?_
                      refine xv_iald (pc := 139) (fr_get fo_160_3 13 rfl) gk_58 (n := 24) (gn_58 ..) rfl rfl h.1 ?_
                      replace h := h.2
                      refine ex_goto (pc := 140) (fr_get fo_160_3 14 rfl) (t := 144) rfl ?_
                      exact ex_ireturn (pc := 144) (fr_get fo_160_4 0 rfl) rt_160 rfl rfl (ma_end_mk h)
        · replace h := h.2 c
          refine ex_bipush (pc := 34) (fr_get fo_160_1 0 rfl) bp_m2 ?_
          exact ex_ireturn (pc := 36) (fr_get fo_160_1 1 rfl) rt_160 rfl rfl (ma_end_mk h)

theorem e_161 {d : Nat} {I : ma_I} {o : Nat} {Q : ma_Q} {a1 : Int32} {a2 : Int32}
  (h :
    Ex (d + 1) 161 (5, [some (.inr (.inr (40, 0))), some (.inl a1), some (.inl a2), some (.inl (0 : Int32)), some (.inl (0 : Int32))], [], ma_mem I o, 0, 0) (ma_end Q)) :
  Exm (d + 1) 161 [.inr (.inr (40, 0)), .inl a1, .inl a2] I o Q := by
  show Ex (d + 1) 161 (0, [some (.inr (.inr (40, 0))), some (.inl a1), some (.inl a2), none, none], [], ma_mem I o, 0, 0) (ma_end Q)
  refine ex_iconst (pc := 0) (fr_get fo_161_0 0 rfl) ic_0 ?_
  refine ex_istore_n (pc := 1) (fr_get fo_161_0 1 rfl) rfl (L' := [some (.inr (.inr (40, 0))), some (.inl a1), some (.inl a2), some (.inl (0 : Int32)), none]) rfl ?_
  refine ex_iconst (pc := 2) (fr_get fo_161_0 2 rfl) ic_0 ?_
  refine ex_istore (pc := 3) (fr_get fo_161_0 3 rfl) rfl (L' := [some (.inr (.inr (40, 0))), some (.inl a1), some (.inl a2), some (.inl (0 : Int32)), some (.inl (0 : Int32))]) rfl ?_
  exact h

theorem b_161_5 {d : Nat} {I : ma_I} {o : Nat} {Q : ma_Q} {v1 : Int32} {v2 : Int32} {v3 : Int32} {v4 : Int32}
  (h :
    ((100 : Int32) ≤ v4 →
      Q (some (.inl v3)) I o) ∧
    (v4 < (100 : Int32) →
      Exm (d) 158 [.inr (.inr (40, 0)), .inl v1, .inl v4, .inl v2] I o (fun r J1 p2 => r = none ∧
        (J1 40 0 36 ≠ 0 →
          Ex (d + 1) 161 (5, [some (.inr (.inr (40, 0))), some (.inl v1), some (.inl v2), some (.inl (v3 + (0 : Int32))), some (.inl (v4 + (1 : Int32)))], [], ma_mem J1 p2, 0, 0) (ma_end Q)) ∧
        (J1 40 0 36 = 0 →
          Ex (d + 1) 161 (5, [some (.inr (.inr (40, 0))), some (.inl v1), some (.inl v2), some (.inl (v3 + (1 : Int32))), some (.inl (v4 + (1 : Int32)))], [], ma_mem J1 p2, 0, 0) (ma_end Q))))) :
  Ex (d + 1) 161 (5, [some (.inr (.inr (40, 0))), some (.inl v1), some (.inl v2), some (.inl v3), some (.inl v4)], [], ma_mem I o, 0, 0) (ma_end Q) := by
  refine ex_iload (pc := 5) (fr_get fo_161_0 4 rfl) rfl ?_
  refine ex_bipush (pc := 7) (fr_get fo_161_0 5 rfl) bp_100 ?_
  refine xv_cge (pc := 9) (fr_get fo_161_0 6 rfl) (t := 41) rfl (fun c => ?_) (fun c => ?_)
  · replace h := h.1 c
    refine ex_iload_n (pc := 41) (fr_get fo_161_1 7 rfl) rfl ?_
    exact ex_ireturn (pc := 42) (fr_get fo_161_1 8 rfl) rt_161 rfl rfl (ma_end_mk h)
  · replace h := h.2 c
    refine ex_aload_n (pc := 12) (fr_get fo_161_0 7 rfl) rfl rfl ?_
    refine ex_iload_n (pc := 13) (fr_get fo_161_0 8 rfl) rfl ?_
    refine ex_iload (pc := 14) (fr_get fo_161_0 9 rfl) rfl ?_
    refine ex_iload_n (pc := 16) (fr_get fo_161_0 10 rfl) rfl ?_
    refine xv_kv0 (pc := 17) (fr_get fo_161_0 11 rfl) cc_161_255 (as := [.inr (.inr (40, 0)), .inl v1, .inl v4, .inl v2]) (rs := []) rfl rfl rfl rfl rfl ?_
    refine h.mono (fun r J1 p2 h => ⟨h.1, ?_⟩)
    replace h := h.2
    refine ex_iload_n (pc := 20) (fr_get fo_161_0 12 rfl) rfl ?_
    refine ex_aload_n (pc := 21) (fr_get fo_161_0 13 rfl) rfl rfl ?_
    refine xv_gi (pc := 22) (fr_get fo_161_0 14 rfl) ow_161 fg_9_245_40 rfl ?_
    refine xv_bne (pc := 25) (fr_get fo_161_0 15 rfl) (t := 32) rfl (fun c => ?_) (fun c => ?_)
    · replace h := h.1 c
      refine ex_iconst (pc := 32) (fr_get fo_161_1 2 rfl) ic_0 ?_
      refine ex_iadd (pc := 33) (fr_get fo_161_1 3 rfl) ?_
      refine ex_istore_n (pc := 34) (fr_get fo_161_1 4 rfl) rfl (L' := [some (.inr (.inr (40, 0))), some (.inl v1), some (.inl v2), some (.inl (v3 + (0 : Int32))), some (.inl v4)]) rfl ?_
      refine xv_iinc (pc := 35) (fr_get fo_161_1 5 rfl) rfl ic_1 (L' := [some (.inr (.inr (40, 0))), some (.inl v1), some (.inl v2), some (.inl (v3 + (0 : Int32))), some (.inl (v4 + (1 : Int32)))]) rfl ?_
      refine ex_goto (pc := 38) (fr_get fo_161_1 6 rfl) (t := 5) rfl ?_
      exact h
    · replace h := h.2 c
      refine ex_iconst (pc := 28) (fr_get fo_161_1 0 rfl) ic_1 ?_
      refine ex_goto (pc := 29) (fr_get fo_161_1 1 rfl) (t := 33) rfl ?_
      refine ex_iadd (pc := 33) (fr_get fo_161_1 3 rfl) ?_
      refine ex_istore_n (pc := 34) (fr_get fo_161_1 4 rfl) rfl (L' := [some (.inr (.inr (40, 0))), some (.inl v1), some (.inl v2), some (.inl (v3 + (1 : Int32))), some (.inl v4)]) rfl ?_
      refine xv_iinc (pc := 35) (fr_get fo_161_1 5 rfl) rfl ic_1 (L' := [some (.inr (.inr (40, 0))), some (.inl v1), some (.inl v2), some (.inl (v3 + (1 : Int32))), some (.inl (v4 + (1 : Int32)))]) rfl ?_
      refine ex_goto (pc := 38) (fr_get fo_161_1 6 rfl) (t := 5) rfl ?_
      exact h

theorem e_162 {d : Nat} {I : ma_I} {o : Nat} {Q : ma_Q} {a1 : Int32} {a2 : Int32}
  (h :
    (¬((0 : Int32) ≤ a1 ∧ a1 ≤ (7 : Int32)) →
      Q (some (.inl (-2 : Int32))) I o) ∧
    ((0 : Int32) ≤ a1 ∧ a1 ≤ (7 : Int32) →
      ((0 : Int32) ≤ a2 ∧ a2 ≤ (5 : Int32) →
        Ex (d + 2) 162 (36, [some (.inr (.inr (40, 0))), some (.inl a1), some (.inl a2), some (.inl (0 : Int32)), some (.inl (-1 : Int32)), some (.inl (0 : Int32)), some (.inl (-1 : Int32)), some (.inl (-1 : Int32)), some (.inl (0 : Int32)), none, none], [], ma_mem I o, 0, 0) (ma_end Q)) ∧
      (¬((0 : Int32) ≤ a2 ∧ a2 ≤ (5 : Int32)) →
        Q (some (.inl (-2 : Int32))) I o))) :
  Exm (d + 2) 162 [.inr (.inr (40, 0)), .inl a1, .inl a2] I o Q := by
  show Ex (d + 2) 162 (0, [some (.inr (.inr (40, 0))), some (.inl a1), some (.inl a2), none, none, none, none, none, none, none, none], [], ma_mem I o, 0, 0) (ma_end Q)
  refine ex_iload_n (pc := 0) (fr_get fo_162_0 0 rfl) rfl ?_
  refine xv_ks1 (pc := 1) (fr_get fo_162_0 1 rfl) cc_162_15 (as := [.inl a1]) (rs := []) rfl rfl rfl rfl ?_
  refine sm_121 ?_
  refine ⟨_, rfl, ?_⟩
  refine xv_peq (pc := 4) (fr_get fo_162_0 2 rfl) (t := 16) rfl (fun c => ?_) (fun c => ?_)
  · replace h := h.1 c
    refine ex_bipush (pc := 16) (fr_get fo_162_0 8 rfl) bp_m2 ?_
    exact ex_ireturn (pc := 18) (fr_get fo_162_0 9 rfl) rt_162 rfl rfl (ma_end_mk h)
  · replace h := h.2 c
    refine ex_iload_n (pc := 7) (fr_get fo_162_0 3 rfl) rfl ?_
    refine ex_iconst (pc := 8) (fr_get fo_162_0 4 rfl) ic_0 ?_
    refine ex_iconst (pc := 9) (fr_get fo_162_0 5 rfl) ic_5 ?_
    refine xv_ks1 (pc := 10) (fr_get fo_162_0 6 rfl) cc_162_3 (as := [.inl a2, .inl (0 : Int32), .inl (5 : Int32)]) (rs := []) rfl rfl rfl rfl ?_
    refine sm_118 ?_
    refine ⟨_, rfl, ?_⟩
    refine xv_pne (pc := 13) (fr_get fo_162_0 7 rfl) (t := 19) rfl (fun c => ?_) (fun c => ?_)
    · replace h := h.1 c
      refine ex_iconst (pc := 19) (fr_get fo_162_0 10 rfl) ic_0 ?_
      refine ex_istore_n (pc := 20) (fr_get fo_162_0 11 rfl) rfl (L' := [some (.inr (.inr (40, 0))), some (.inl a1), some (.inl a2), some (.inl (0 : Int32)), none, none, none, none, none, none, none]) rfl ?_
      refine ex_iconst (pc := 21) (fr_get fo_162_0 12 rfl) ic_m1 ?_
      refine ex_istore (pc := 22) (fr_get fo_162_0 13 rfl) rfl (L' := [some (.inr (.inr (40, 0))), some (.inl a1), some (.inl a2), some (.inl (0 : Int32)), some (.inl (-1 : Int32)), none, none, none, none, none, none]) rfl ?_
      refine ex_iconst (pc := 24) (fr_get fo_162_0 14 rfl) ic_0 ?_
      refine ex_istore (pc := 25) (fr_get fo_162_0 15 rfl) rfl (L' := [some (.inr (.inr (40, 0))), some (.inl a1), some (.inl a2), some (.inl (0 : Int32)), some (.inl (-1 : Int32)), some (.inl (0 : Int32)), none, none, none, none, none]) rfl ?_
      refine ex_iconst (pc := 27) (fr_get fo_162_1 0 rfl) ic_m1 ?_
      refine ex_istore (pc := 28) (fr_get fo_162_1 1 rfl) rfl (L' := [some (.inr (.inr (40, 0))), some (.inl a1), some (.inl a2), some (.inl (0 : Int32)), some (.inl (-1 : Int32)), some (.inl (0 : Int32)), some (.inl (-1 : Int32)), none, none, none, none]) rfl ?_
      refine ex_iconst (pc := 30) (fr_get fo_162_1 2 rfl) ic_m1 ?_
      refine ex_istore (pc := 31) (fr_get fo_162_1 3 rfl) rfl (L' := [some (.inr (.inr (40, 0))), some (.inl a1), some (.inl a2), some (.inl (0 : Int32)), some (.inl (-1 : Int32)), some (.inl (0 : Int32)), some (.inl (-1 : Int32)), some (.inl (-1 : Int32)), none, none, none]) rfl ?_
      refine ex_iconst (pc := 33) (fr_get fo_162_1 4 rfl) ic_0 ?_
      refine ex_istore (pc := 34) (fr_get fo_162_1 5 rfl) rfl (L' := [some (.inr (.inr (40, 0))), some (.inl a1), some (.inl a2), some (.inl (0 : Int32)), some (.inl (-1 : Int32)), some (.inl (0 : Int32)), some (.inl (-1 : Int32)), some (.inl (-1 : Int32)), some (.inl (0 : Int32)), none, none]) rfl ?_
      exact h
    · replace h := h.2 c
      refine ex_bipush (pc := 16) (fr_get fo_162_0 8 rfl) bp_m2 ?_
      exact ex_ireturn (pc := 18) (fr_get fo_162_0 9 rfl) rt_162 rfl rfl (ma_end_mk h)

theorem b_162_36 {d : Nat} {I : ma_I} {o : Nat} {Q : ma_Q} {v1 : Int32} {v2 : Int32} {v3 : Int32} {v4 : Int32} {v5 : Int32} {v6 : Int32} {v7 : Int32} {v8 : Int32}
  (h :
    ((100 : Int32) ≤ v8 →
      Ex (d + 2) 162 (175, [some (.inr (.inr (40, 0))), some (.inl v1), some (.inl v2), some (.inl v3), some (.inl v4), some (.inl v5), some (.inl v6), some (.inl v7), some (.inl (0 : Int32)), some (.inl (1000 : Int32)), some (.inl (99 : Int32))], [], ma_mem I o, 0, 0) (ma_end Q)) ∧
    (v8 < (100 : Int32) →
      Exm (d + 1) 158 [.inr (.inr (40, 0)), .inl v1, .inl v8, .inl (xv_al (I 40 0 4))] I o (fun r J1 p2 => r = none ∧
        (v7 ≠ (-1 : Int32) →
          (J1 40 0 36 ≠ 0 →
            ma_in v8 100 ∧
            (J1 40 0 36 ≠ 0 →
              Exm (d + 1) 157 [.inr (.inr (40, 0)), .inl (2 : Int32), .inl v8, .inl v1, .inl ((J1 40 0 33) - (1 : Int32)), .inl (0 : Int32), .inl (0 : Int32), .inl ((J1 40 0 37) - v8)] (ma_up J1 59 0 v8.toNatClampNeg (-1 : Int32)) p2 (fun r J3 p4 => ∃ x5 : Int32, r = some (.inl x5) ∧
                Ex (d + 2) 162 (36, [some (.inr (.inr (40, 0))), some (.inl v1), some (.inl v2), some (.inl v3), some (.inl v4), some (.inl (v5 + x5)), some (.inl v6), some (.inl v7), some (.inl (v8 + (1 : Int32))), none, none], [], ma_mem J3 p4, 0, 0) (ma_end Q))) ∧
            (J1 40 0 36 = 0 →
              Ex (d + 2) 162 (36, [some (.inr (.inr (40, 0))), some (.inl v1), some (.inl v2), some (.inl (v3 + (1 : Int32))), some (.inl v8), some (.inl v5), some (.inl (xv_hi v6 ((J1 40 0 37) - v8))), some (.inl v7), some (.inl (v8 + (1 : Int32))), none, none], [], ma_mem (ma_up J1 59 0 v8.toNatClampNeg (-1 : Int32)) p2, 0, 0) (ma_end Q))) ∧
          (J1 40 0 36 = 0 →
            ma_in v8 100 ∧
            (J1 40 0 36 ≠ 0 →
              Exm (d + 1) 157 [.inr (.inr (40, 0)), .inl (2 : Int32), .inl v8, .inl v1, .inl ((J1 40 0 33) - (1 : Int32)), .inl (0 : Int32), .inl (0 : Int32), .inl ((J1 40 0 37) - v8)] (ma_up J1 59 0 v8.toNatClampNeg (J1 40 0 37)) p2 (fun r J6 p7 => ∃ x8 : Int32, r = some (.inl x8) ∧
                Ex (d + 2) 162 (36, [some (.inr (.inr (40, 0))), some (.inl v1), some (.inl v2), some (.inl v3), some (.inl v4), some (.inl (v5 + x8)), some (.inl v6), some (.inl v7), some (.inl (v8 + (1 : Int32))), none, none], [], ma_mem J6 p7, 0, 0) (ma_end Q))) ∧
            (J1 40 0 36 = 0 →
              Ex (d + 2) 162 (36, [some (.inr (.inr (40, 0))), some (.inl v1), some (.inl v2), some (.inl (v3 + (1 : Int32))), some (.inl v8), some (.inl v5), some (.inl (xv_hi v6 ((J1 40 0 37) - v8))), some (.inl v7), some (.inl (v8 + (1 : Int32))), none, none], [], ma_mem (ma_up J1 59 0 v8.toNatClampNeg (J1 40 0 37)) p2, 0, 0) (ma_end Q)))) ∧
        (v7 = (-1 : Int32) →
          (J1 40 0 35 = 0 →
            (J1 40 0 36 ≠ 0 →
              ma_in v8 100 ∧
              (J1 40 0 36 ≠ 0 →
                Exm (d + 1) 157 [.inr (.inr (40, 0)), .inl (2 : Int32), .inl v8, .inl v1, .inl ((J1 40 0 33) - (1 : Int32)), .inl (0 : Int32), .inl (0 : Int32), .inl ((J1 40 0 37) - v8)] (ma_up J1 59 0 v8.toNatClampNeg (-1 : Int32)) p2 (fun r J9 p10 => ∃ x11 : Int32, r = some (.inl x11) ∧
                  Ex (d + 2) 162 (36, [some (.inr (.inr (40, 0))), some (.inl v1), some (.inl v2), some (.inl v3), some (.inl v4), some (.inl (v5 + x11)), some (.inl v6), some (.inl v7), some (.inl (v8 + (1 : Int32))), none, none], [], ma_mem J9 p10, 0, 0) (ma_end Q))) ∧
              (J1 40 0 36 = 0 →
                Ex (d + 2) 162 (36, [some (.inr (.inr (40, 0))), some (.inl v1), some (.inl v2), some (.inl (v3 + (1 : Int32))), some (.inl v8), some (.inl v5), some (.inl (xv_hi v6 ((J1 40 0 37) - v8))), some (.inl v7), some (.inl (v8 + (1 : Int32))), none, none], [], ma_mem (ma_up J1 59 0 v8.toNatClampNeg (-1 : Int32)) p2, 0, 0) (ma_end Q))) ∧
            (J1 40 0 36 = 0 →
              ma_in v8 100 ∧
              (J1 40 0 36 ≠ 0 →
                Exm (d + 1) 157 [.inr (.inr (40, 0)), .inl (2 : Int32), .inl v8, .inl v1, .inl ((J1 40 0 33) - (1 : Int32)), .inl (0 : Int32), .inl (0 : Int32), .inl ((J1 40 0 37) - v8)] (ma_up J1 59 0 v8.toNatClampNeg (J1 40 0 37)) p2 (fun r J12 p13 => ∃ x14 : Int32, r = some (.inl x14) ∧
                  Ex (d + 2) 162 (36, [some (.inr (.inr (40, 0))), some (.inl v1), some (.inl v2), some (.inl v3), some (.inl v4), some (.inl (v5 + x14)), some (.inl v6), some (.inl v7), some (.inl (v8 + (1 : Int32))), none, none], [], ma_mem J12 p13, 0, 0) (ma_end Q))) ∧
              (J1 40 0 36 = 0 →
                Ex (d + 2) 162 (36, [some (.inr (.inr (40, 0))), some (.inl v1), some (.inl v2), some (.inl (v3 + (1 : Int32))), some (.inl v8), some (.inl v5), some (.inl (xv_hi v6 ((J1 40 0 37) - v8))), some (.inl v7), some (.inl (v8 + (1 : Int32))), none, none], [], ma_mem (ma_up J1 59 0 v8.toNatClampNeg (J1 40 0 37)) p2, 0, 0) (ma_end Q)))) ∧
          (J1 40 0 35 ≠ 0 →
            (J1 40 0 36 ≠ 0 →
              ma_in v8 100 ∧
              (J1 40 0 36 ≠ 0 →
                Exm (d + 1) 157 [.inr (.inr (40, 0)), .inl (2 : Int32), .inl v8, .inl v1, .inl ((J1 40 0 33) - (1 : Int32)), .inl (0 : Int32), .inl (0 : Int32), .inl ((J1 40 0 37) - v8)] (ma_up J1 59 0 v8.toNatClampNeg (-1 : Int32)) p2 (fun r J15 p16 => ∃ x17 : Int32, r = some (.inl x17) ∧
                  Ex (d + 2) 162 (36, [some (.inr (.inr (40, 0))), some (.inl v1), some (.inl v2), some (.inl v3), some (.inl v4), some (.inl (v5 + x17)), some (.inl v6), some (.inl v8), some (.inl (v8 + (1 : Int32))), none, none], [], ma_mem J15 p16, 0, 0) (ma_end Q))) ∧
              (J1 40 0 36 = 0 →
                Ex (d + 2) 162 (36, [some (.inr (.inr (40, 0))), some (.inl v1), some (.inl v2), some (.inl (v3 + (1 : Int32))), some (.inl v8), some (.inl v5), some (.inl (xv_hi v6 ((J1 40 0 37) - v8))), some (.inl v8), some (.inl (v8 + (1 : Int32))), none, none], [], ma_mem (ma_up J1 59 0 v8.toNatClampNeg (-1 : Int32)) p2, 0, 0) (ma_end Q))) ∧
            (J1 40 0 36 = 0 →
              ma_in v8 100 ∧
              (J1 40 0 36 ≠ 0 →
                Exm (d + 1) 157 [.inr (.inr (40, 0)), .inl (2 : Int32), .inl v8, .inl v1, .inl ((J1 40 0 33) - (1 : Int32)), .inl (0 : Int32), .inl (0 : Int32), .inl ((J1 40 0 37) - v8)] (ma_up J1 59 0 v8.toNatClampNeg (J1 40 0 37)) p2 (fun r J18 p19 => ∃ x20 : Int32, r = some (.inl x20) ∧
                  Ex (d + 2) 162 (36, [some (.inr (.inr (40, 0))), some (.inl v1), some (.inl v2), some (.inl v3), some (.inl v4), some (.inl (v5 + x20)), some (.inl v6), some (.inl v8), some (.inl (v8 + (1 : Int32))), none, none], [], ma_mem J18 p19, 0, 0) (ma_end Q))) ∧
              (J1 40 0 36 = 0 →
                Ex (d + 2) 162 (36, [some (.inr (.inr (40, 0))), some (.inl v1), some (.inl v2), some (.inl (v3 + (1 : Int32))), some (.inl v8), some (.inl v5), some (.inl (xv_hi v6 ((J1 40 0 37) - v8))), some (.inl v8), some (.inl (v8 + (1 : Int32))), none, none], [], ma_mem (ma_up J1 59 0 v8.toNatClampNeg (J1 40 0 37)) p2, 0, 0) (ma_end Q)))))))) :
  Ex (d + 2) 162 (36, [some (.inr (.inr (40, 0))), some (.inl v1), some (.inl v2), some (.inl v3), some (.inl v4), some (.inl v5), some (.inl v6), some (.inl v7), some (.inl v8), none, none], [], ma_mem I o, 0, 0) (ma_end Q) := by
  refine ex_iload (pc := 36) (fr_get fo_162_1 6 rfl) rfl ?_
  refine ex_bipush (pc := 38) (fr_get fo_162_1 7 rfl) bp_100 ?_
  refine xv_cge (pc := 40) (fr_get fo_162_1 8 rfl) (t := 163) rfl (fun c => ?_) (fun c => ?_)
  · replace h := h.1 c
    refine ex_iconst (pc := 163) (fr_get fo_162_5 6 rfl) ic_0 ?_
    refine ex_istore (pc := 164) (fr_get fo_162_5 7 rfl) rfl (L' := [some (.inr (.inr (40, 0))), some (.inl v1), some (.inl v2), some (.inl v3), some (.inl v4), some (.inl v5), some (.inl v6), some (.inl v7), some (.inl (0 : Int32)), none, none]) rfl ?_
    refine ex_sipush (pc := 166) (fr_get fo_162_5 8 rfl) sp_1000 ?_
    refine ex_istore (pc := 169) (fr_get fo_162_5 9 rfl) rfl (L' := [some (.inr (.inr (40, 0))), some (.inl v1), some (.inl v2), some (.inl v3), some (.inl v4), some (.inl v5), some (.inl v6), some (.inl v7), some (.inl (0 : Int32)), some (.inl (1000 : Int32)), none]) rfl ?_
    refine ex_bipush (pc := 171) (fr_get fo_162_5 10 rfl) bp_99 ?_
    refine ex_istore (pc := 173) (fr_get fo_162_5 11 rfl) rfl (L' := [some (.inr (.inr (40, 0))), some (.inl v1), some (.inl v2), some (.inl v3), some (.inl v4), some (.inl v5), some (.inl v6), some (.inl v7), some (.inl (0 : Int32)), some (.inl (1000 : Int32)), some (.inl (99 : Int32))]) rfl ?_
    exact h
  · replace h := h.2 c
    refine ex_aload_n (pc := 43) (fr_get fo_162_1 9 rfl) rfl rfl ?_
    refine ex_iload_n (pc := 44) (fr_get fo_162_1 10 rfl) rfl ?_
    refine ex_iload (pc := 45) (fr_get fo_162_1 11 rfl) rfl ?_
    refine ex_aload_n (pc := 47) (fr_get fo_162_1 12 rfl) rfl rfl ?_
    refine xv_kv1 (pc := 48) (fr_get fo_162_1 13 rfl) cc_162_251 (as := [.inr (.inr (40, 0))]) (rs := [.inl v8, .inl v1, .inr (.inr (40, 0))]) rfl rfl rfl rfl rfl ?_
    refine sm_159 rfl ?_
    refine ⟨_, rfl, ?_⟩
    refine xv_kv0 (pc := 51) (fr_get fo_162_1 14 rfl) cc_162_255 (as := [.inr (.inr (40, 0)), .inl v1, .inl v8, .inl (xv_al (I 40 0 4))]) (rs := []) rfl rfl rfl rfl rfl ?_
    refine h.mono (fun r J1 p2 h => ⟨h.1, ?_⟩)
    replace h := h.2
    refine ex_iload (pc := 54) (fr_get fo_162_1 15 rfl) rfl ?_
    refine ex_iconst (pc := 56) (fr_get fo_162_2 0 rfl) ic_m1 ?_
    refine xv_cne (pc := 57) (fr_get fo_162_2 1 rfl) (t := 72) rfl (fun c => ?_) (fun c => ?_)
    · replace h := h.1 c
      refine ex_iload (pc := 72) (fr_get fo_162_2 7 rfl) rfl ?_
      refine ex_istore (pc := 74) (fr_get fo_162_2 8 rfl) rfl (L' := [some (.inr (.inr (40, 0))), some (.inl v1), some (.inl v2), some (.inl v3), some (.inl v4), some (.inl v5), some (.inl v6), some (.inl v7), some (.inl v8), none, none]) rfl ?_
      refine ex_aload_n (pc := 76) (fr_get fo_162_2 9 rfl) rfl rfl ?_
      refine ex_gr (pc := 77) (fr_get fo_162_2 10 rfl) ow_162 fr_9_207_40 (q := (59, 0)) rfl ?_
      refine ex_iload (pc := 80) (fr_get fo_162_2 11 rfl) rfl ?_
      refine ex_aload_n (pc := 82) (fr_get fo_162_2 12 rfl) rfl rfl ?_
      refine xv_gi (pc := 83) (fr_get fo_162_2 13 rfl) ow_162 fg_9_245_40 rfl ?_
      refine xv_bne (pc := 86) (fr_get fo_162_2 14 rfl) (t := 96) rfl (fun c => ?_) (fun c => ?_)
      · replace h := h.1 c
        refine ex_iconst (pc := 96) (fr_get fo_162_3 2 rfl) ic_m1 ?_
        refine xv_iast (pc := 97) (fr_get fo_162_3 3 rfl) gs_59 gl_59 rfl h.1 ?_
        replace h := h.2
        refine ex_aload_n (pc := 98) (fr_get fo_162_3 4 rfl) rfl rfl ?_
        refine xv_gi (pc := 99) (fr_get fo_162_3 5 rfl) ow_162 fg_9_245_40 (xv_ug rfl) ?_
        refine xv_bne (pc := 102) (fr_get fo_162_3 6 rfl) (t := 129) rfl (fun c => ?_) (fun c => ?_)
        · replace h := h.1 c
          refine ex_iload (pc := 129) (fr_get fo_162_4 2 rfl) rfl ?_
          refine ex_aload_n (pc := 131) (fr_get fo_162_4 3 rfl) rfl rfl ?_
          refine ex_iconst (pc := 132) (fr_get fo_162_4 4 rfl) ic_2 ?_
          refine ex_iload (pc := 133) (fr_get fo_162_4 5 rfl) rfl ?_
          refine ex_iload_n (pc := 135) (fr_get fo_162_4 6 rfl) rfl ?_
          refine ex_aload_n (pc := 136) (fr_get fo_162_4 7 rfl) rfl rfl ?_
          refine xv_gi (pc := 137) (fr_get fo_162_4 8 rfl) ow_162 fg_9_235_40 (xv_ug rfl) ?_
          refine ex_iconst (pc := 140) (fr_get fo_162_4 9 rfl) ic_1 ?_
          refine ex_isub (pc := 141) (fr_get fo_162_4 10 rfl) ?_
          refine ex_iconst (pc := 142) (fr_get fo_162_4 11 rfl) ic_0 ?_
          refine ex_iconst (pc := 143) (fr_get fo_162_4 12 rfl) ic_0 ?_
          refine ex_aload_n (pc := 144) (fr_get fo_162_4 13 rfl) rfl rfl ?_
          refine xv_gi (pc := 145) (fr_get fo_162_4 14 rfl) ow_162 fg_9_248_40 (xv_ug rfl) ?_
          refine ex_iload (pc := 148) (fr_get fo_162_4 15 rfl) rfl ?_
          refine ex_isub (pc := 150) (fr_get fo_162_5 0 rfl) ?_
          refine xv_kv1 (pc := 151) (fr_get fo_162_5 1 rfl) cc_162_67 (as := [.inr (.inr (40, 0)), .inl (2 : Int32), .inl v8, .inl v1, .inl ((J1 40 0 33) - (1 : Int32)), .inl (0 : Int32), .inl (0 : Int32), .inl ((J1 40 0 37) - v8)]) (rs := [.inl v5]) rfl rfl rfl rfl rfl ?_
          refine h.mono (fun r J3 p4 h => ?_)
          obtain ⟨x5, hr, h⟩ := h
          refine ⟨x5, hr, ?_⟩
          refine ex_iadd (pc := 154) (fr_get fo_162_5 2 rfl) ?_
          refine ex_istore (pc := 155) (fr_get fo_162_5 3 rfl) rfl (L' := [some (.inr (.inr (40, 0))), some (.inl v1), some (.inl v2), some (.inl v3), some (.inl v4), some (.inl (v5 + x5)), some (.inl v6), some (.inl v7), some (.inl v8), none, none]) rfl ?_
          refine xv_iinc (pc := 157) (fr_get fo_162_5 4 rfl) rfl ic_1 (L' := [some (.inr (.inr (40, 0))), some (.inl v1), some (.inl v2), some (.inl v3), some (.inl v4), some (.inl (v5 + x5)), some (.inl v6), some (.inl v7), some (.inl (v8 + (1 : Int32))), none, none]) rfl ?_
          refine ex_goto (pc := 160) (fr_get fo_162_5 5 rfl) (t := 36) rfl ?_
          exact h
        · replace h := h.2 c
          refine xv_iinc (pc := 105) (fr_get fo_162_3 7 rfl) rfl ic_1 (L' := [some (.inr (.inr (40, 0))), some (.inl v1), some (.inl v2), some (.inl (v3 + (1 : Int32))), some (.inl v4), some (.inl v5), some (.inl v6), some (.inl v7), some (.inl v8), none, none]) rfl ?_
          refine ex_iload (pc := 108) (fr_get fo_162_3 8 rfl) rfl ?_
          refine ex_istore (pc := 110) (fr_get fo_162_3 9 rfl) rfl (L' := [some (.inr (.inr (40, 0))), some (.inl v1), some (.inl v2), some (.inl (v3 + (1 : Int32))), some (.inl v8), some (.inl v5), some (.inl v6), some (.inl v7), some (.inl v8), none, none]) rfl ?_
          refine ex_iload (pc := 112) (fr_get fo_162_3 10 rfl) rfl ?_
          refine ex_aload_n (pc := 114) (fr_get fo_162_3 11 rfl) rfl rfl ?_
          refine xv_gi (pc := 115) (fr_get fo_162_3 12 rfl) ow_162 fg_9_248_40 (xv_ug rfl) ?_
          refine ex_iload (pc := 118) (fr_get fo_162_3 13 rfl) rfl ?_
          refine ex_isub (pc := 120) (fr_get fo_162_3 14 rfl) ?_
          refine xv_ks1 (pc := 121) (fr_get fo_162_3 15 rfl) cc_162_232 (as := [.inl v6, .inl ((J1 40 0 37) - v8)]) (rs := []) rfl rfl rfl rfl ?_
          refine sm_120 ?_
          refine ⟨_, rfl, ?_⟩
          refine ex_istore (pc := 124) (fr_get fo_162_4 0 rfl) rfl (L' := [some (.inr (.inr (40, 0))), some (.inl v1), some (.inl v2), some (.inl (v3 + (1 : Int32))), some (.inl v8), some (.inl v5), some (.inl (xv_hi v6 ((J1 40 0 37) - v8))), some (.inl v7), some (.inl v8), none, none]) rfl ?_
          refine ex_goto (pc := 126) (fr_get fo_162_4 1 rfl) (t := 157) rfl ?_
          refine xv_iinc (pc := 157) (fr_get fo_162_5 4 rfl) rfl ic_1 (L' := [some (.inr (.inr (40, 0))), some (.inl v1), some (.inl v2), some (.inl (v3 + (1 : Int32))), some (.inl v8), some (.inl v5), some (.inl (xv_hi v6 ((J1 40 0 37) - v8))), some (.inl v7), some (.inl (v8 + (1 : Int32))), none, none]) rfl ?_
          refine ex_goto (pc := 160) (fr_get fo_162_5 5 rfl) (t := 36) rfl ?_
          exact h
      · replace h := h.2 c
        refine ex_aload_n (pc := 89) (fr_get fo_162_2 15 rfl) rfl rfl ?_
        refine xv_gi (pc := 90) (fr_get fo_162_3 0 rfl) ow_162 fg_9_248_40 rfl ?_
        refine ex_goto (pc := 93) (fr_get fo_162_3 1 rfl) (t := 97) rfl ?_
        refine xv_iast (pc := 97) (fr_get fo_162_3 3 rfl) gs_59 gl_59 rfl h.1 ?_
        replace h := h.2
        refine ex_aload_n (pc := 98) (fr_get fo_162_3 4 rfl) rfl rfl ?_
        refine xv_gi (pc := 99) (fr_get fo_162_3 5 rfl) ow_162 fg_9_245_40 (xv_ug rfl) ?_
        refine xv_bne (pc := 102) (fr_get fo_162_3 6 rfl) (t := 129) rfl (fun c => ?_) (fun c => ?_)
        · replace h := h.1 c
          refine ex_iload (pc := 129) (fr_get fo_162_4 2 rfl) rfl ?_
          refine ex_aload_n (pc := 131) (fr_get fo_162_4 3 rfl) rfl rfl ?_
          refine ex_iconst (pc := 132) (fr_get fo_162_4 4 rfl) ic_2 ?_
          refine ex_iload (pc := 133) (fr_get fo_162_4 5 rfl) rfl ?_
          refine ex_iload_n (pc := 135) (fr_get fo_162_4 6 rfl) rfl ?_
          refine ex_aload_n (pc := 136) (fr_get fo_162_4 7 rfl) rfl rfl ?_
          refine xv_gi (pc := 137) (fr_get fo_162_4 8 rfl) ow_162 fg_9_235_40 (xv_ug rfl) ?_
          refine ex_iconst (pc := 140) (fr_get fo_162_4 9 rfl) ic_1 ?_
          refine ex_isub (pc := 141) (fr_get fo_162_4 10 rfl) ?_
          refine ex_iconst (pc := 142) (fr_get fo_162_4 11 rfl) ic_0 ?_
          refine ex_iconst (pc := 143) (fr_get fo_162_4 12 rfl) ic_0 ?_
          refine ex_aload_n (pc := 144) (fr_get fo_162_4 13 rfl) rfl rfl ?_
          refine xv_gi (pc := 145) (fr_get fo_162_4 14 rfl) ow_162 fg_9_248_40 (xv_ug rfl) ?_
          refine ex_iload (pc := 148) (fr_get fo_162_4 15 rfl) rfl ?_
          refine ex_isub (pc := 150) (fr_get fo_162_5 0 rfl) ?_
          refine xv_kv1 (pc := 151) (fr_get fo_162_5 1 rfl) cc_162_67 (as := [.inr (.inr (40, 0)), .inl (2 : Int32), .inl v8, .inl v1, .inl ((J1 40 0 33) - (1 : Int32)), .inl (0 : Int32), .inl (0 : Int32), .inl ((J1 40 0 37) - v8)]) (rs := [.inl v5]) rfl rfl rfl rfl rfl ?_
          refine h.mono (fun r J6 p7 h => ?_)
          obtain ⟨x8, hr, h⟩ := h
          refine ⟨x8, hr, ?_⟩
          refine ex_iadd (pc := 154) (fr_get fo_162_5 2 rfl) ?_
          refine ex_istore (pc := 155) (fr_get fo_162_5 3 rfl) rfl (L' := [some (.inr (.inr (40, 0))), some (.inl v1), some (.inl v2), some (.inl v3), some (.inl v4), some (.inl (v5 + x8)), some (.inl v6), some (.inl v7), some (.inl v8), none, none]) rfl ?_
          refine xv_iinc (pc := 157) (fr_get fo_162_5 4 rfl) rfl ic_1 (L' := [some (.inr (.inr (40, 0))), some (.inl v1), some (.inl v2), some (.inl v3), some (.inl v4), some (.inl (v5 + x8)), some (.inl v6), some (.inl v7), some (.inl (v8 + (1 : Int32))), none, none]) rfl ?_
          refine ex_goto (pc := 160) (fr_get fo_162_5 5 rfl) (t := 36) rfl ?_
          exact h
        · replace h := h.2 c
          refine xv_iinc (pc := 105) (fr_get fo_162_3 7 rfl) rfl ic_1 (L' := [some (.inr (.inr (40, 0))), some (.inl v1), some (.inl v2), some (.inl (v3 + (1 : Int32))), some (.inl v4), some (.inl v5), some (.inl v6), some (.inl v7), some (.inl v8), none, none]) rfl ?_
          refine ex_iload (pc := 108) (fr_get fo_162_3 8 rfl) rfl ?_
          refine ex_istore (pc := 110) (fr_get fo_162_3 9 rfl) rfl (L' := [some (.inr (.inr (40, 0))), some (.inl v1), some (.inl v2), some (.inl (v3 + (1 : Int32))), some (.inl v8), some (.inl v5), some (.inl v6), some (.inl v7), some (.inl v8), none, none]) rfl ?_
          refine ex_iload (pc := 112) (fr_get fo_162_3 10 rfl) rfl ?_
          refine ex_aload_n (pc := 114) (fr_get fo_162_3 11 rfl) rfl rfl ?_
          refine xv_gi (pc := 115) (fr_get fo_162_3 12 rfl) ow_162 fg_9_248_40 (xv_ug rfl) ?_
          refine ex_iload (pc := 118) (fr_get fo_162_3 13 rfl) rfl ?_
          refine ex_isub (pc := 120) (fr_get fo_162_3 14 rfl) ?_
          refine xv_ks1 (pc := 121) (fr_get fo_162_3 15 rfl) cc_162_232 (as := [.inl v6, .inl ((J1 40 0 37) - v8)]) (rs := []) rfl rfl rfl rfl ?_
          refine sm_120 ?_
          refine ⟨_, rfl, ?_⟩
          refine ex_istore (pc := 124) (fr_get fo_162_4 0 rfl) rfl (L' := [some (.inr (.inr (40, 0))), some (.inl v1), some (.inl v2), some (.inl (v3 + (1 : Int32))), some (.inl v8), some (.inl v5), some (.inl (xv_hi v6 ((J1 40 0 37) - v8))), some (.inl v7), some (.inl v8), none, none]) rfl ?_
          refine ex_goto (pc := 126) (fr_get fo_162_4 1 rfl) (t := 157) rfl ?_
          refine xv_iinc (pc := 157) (fr_get fo_162_5 4 rfl) rfl ic_1 (L' := [some (.inr (.inr (40, 0))), some (.inl v1), some (.inl v2), some (.inl (v3 + (1 : Int32))), some (.inl v8), some (.inl v5), some (.inl (xv_hi v6 ((J1 40 0 37) - v8))), some (.inl v7), some (.inl (v8 + (1 : Int32))), none, none]) rfl ?_
          refine ex_goto (pc := 160) (fr_get fo_162_5 5 rfl) (t := 36) rfl ?_
          exact h
    · replace h := h.2 c
      refine ex_aload_n (pc := 60) (fr_get fo_162_2 2 rfl) rfl rfl ?_
      refine xv_gi (pc := 61) (fr_get fo_162_2 3 rfl) ow_162 fg_9_241_40 rfl ?_
      refine xv_beq (pc := 64) (fr_get fo_162_2 4 rfl) (t := 72) rfl (fun c => ?_) (fun c => ?_)
      · replace h := h.1 c
        refine ex_iload (pc := 72) (fr_get fo_162_2 7 rfl) rfl ?_
        refine ex_istore (pc := 74) (fr_get fo_162_2 8 rfl) rfl (L' := [some (.inr (.inr (40, 0))), some (.inl v1), some (.inl v2), some (.inl v3), some (.inl v4), some (.inl v5), some (.inl v6), some (.inl v7), some (.inl v8), none, none]) rfl ?_
        refine ex_aload_n (pc := 76) (fr_get fo_162_2 9 rfl) rfl rfl ?_
        refine ex_gr (pc := 77) (fr_get fo_162_2 10 rfl) ow_162 fr_9_207_40 (q := (59, 0)) rfl ?_
        refine ex_iload (pc := 80) (fr_get fo_162_2 11 rfl) rfl ?_
        refine ex_aload_n (pc := 82) (fr_get fo_162_2 12 rfl) rfl rfl ?_
        refine xv_gi (pc := 83) (fr_get fo_162_2 13 rfl) ow_162 fg_9_245_40 rfl ?_
        refine xv_bne (pc := 86) (fr_get fo_162_2 14 rfl) (t := 96) rfl (fun c => ?_) (fun c => ?_)
        · replace h := h.1 c
          refine ex_iconst (pc := 96) (fr_get fo_162_3 2 rfl) ic_m1 ?_
          refine xv_iast (pc := 97) (fr_get fo_162_3 3 rfl) gs_59 gl_59 rfl h.1 ?_
          replace h := h.2
          refine ex_aload_n (pc := 98) (fr_get fo_162_3 4 rfl) rfl rfl ?_
          refine xv_gi (pc := 99) (fr_get fo_162_3 5 rfl) ow_162 fg_9_245_40 (xv_ug rfl) ?_
          refine xv_bne (pc := 102) (fr_get fo_162_3 6 rfl) (t := 129) rfl (fun c => ?_) (fun c => ?_)
          · replace h := h.1 c
            refine ex_iload (pc := 129) (fr_get fo_162_4 2 rfl) rfl ?_
            refine ex_aload_n (pc := 131) (fr_get fo_162_4 3 rfl) rfl rfl ?_
            refine ex_iconst (pc := 132) (fr_get fo_162_4 4 rfl) ic_2 ?_
            refine ex_iload (pc := 133) (fr_get fo_162_4 5 rfl) rfl ?_
            refine ex_iload_n (pc := 135) (fr_get fo_162_4 6 rfl) rfl ?_
            refine ex_aload_n (pc := 136) (fr_get fo_162_4 7 rfl) rfl rfl ?_
            refine xv_gi (pc := 137) (fr_get fo_162_4 8 rfl) ow_162 fg_9_235_40 (xv_ug rfl) ?_
            refine ex_iconst (pc := 140) (fr_get fo_162_4 9 rfl) ic_1 ?_
            refine ex_isub (pc := 141) (fr_get fo_162_4 10 rfl) ?_
            refine ex_iconst (pc := 142) (fr_get fo_162_4 11 rfl) ic_0 ?_
            refine ex_iconst (pc := 143) (fr_get fo_162_4 12 rfl) ic_0 ?_
            refine ex_aload_n (pc := 144) (fr_get fo_162_4 13 rfl) rfl rfl ?_
            refine xv_gi (pc := 145) (fr_get fo_162_4 14 rfl) ow_162 fg_9_248_40 (xv_ug rfl) ?_
            refine ex_iload (pc := 148) (fr_get fo_162_4 15 rfl) rfl ?_
            refine ex_isub (pc := 150) (fr_get fo_162_5 0 rfl) ?_
            refine xv_kv1 (pc := 151) (fr_get fo_162_5 1 rfl) cc_162_67 (as := [.inr (.inr (40, 0)), .inl (2 : Int32), .inl v8, .inl v1, .inl ((J1 40 0 33) - (1 : Int32)), .inl (0 : Int32), .inl (0 : Int32), .inl ((J1 40 0 37) - v8)]) (rs := [.inl v5]) rfl rfl rfl rfl rfl ?_
            refine h.mono (fun r J9 p10 h => ?_)
            obtain ⟨x11, hr, h⟩ := h
            refine ⟨x11, hr, ?_⟩
            refine ex_iadd (pc := 154) (fr_get fo_162_5 2 rfl) ?_
            refine ex_istore (pc := 155) (fr_get fo_162_5 3 rfl) rfl (L' := [some (.inr (.inr (40, 0))), some (.inl v1), some (.inl v2), some (.inl v3), some (.inl v4), some (.inl (v5 + x11)), some (.inl v6), some (.inl v7), some (.inl v8), none, none]) rfl ?_
            refine xv_iinc (pc := 157) (fr_get fo_162_5 4 rfl) rfl ic_1 (L' := [some (.inr (.inr (40, 0))), some (.inl v1), some (.inl v2), some (.inl v3), some (.inl v4), some (.inl (v5 + x11)), some (.inl v6), some (.inl v7), some (.inl (v8 + (1 : Int32))), none, none]) rfl ?_
            refine ex_goto (pc := 160) (fr_get fo_162_5 5 rfl) (t := 36) rfl ?_
            exact h
          · replace h := h.2 c
            refine xv_iinc (pc := 105) (fr_get fo_162_3 7 rfl) rfl ic_1 (L' := [some (.inr (.inr (40, 0))), some (.inl v1), some (.inl v2), some (.inl (v3 + (1 : Int32))), some (.inl v4), some (.inl v5), some (.inl v6), some (.inl v7), some (.inl v8), none, none]) rfl ?_
            refine ex_iload (pc := 108) (fr_get fo_162_3 8 rfl) rfl ?_
            refine ex_istore (pc := 110) (fr_get fo_162_3 9 rfl) rfl (L' := [some (.inr (.inr (40, 0))), some (.inl v1), some (.inl v2), some (.inl (v3 + (1 : Int32))), some (.inl v8), some (.inl v5), some (.inl v6), some (.inl v7), some (.inl v8), none, none]) rfl ?_
            refine ex_iload (pc := 112) (fr_get fo_162_3 10 rfl) rfl ?_
            refine ex_aload_n (pc := 114) (fr_get fo_162_3 11 rfl) rfl rfl ?_
            refine xv_gi (pc := 115) (fr_get fo_162_3 12 rfl) ow_162 fg_9_248_40 (xv_ug rfl) ?_
            refine ex_iload (pc := 118) (fr_get fo_162_3 13 rfl) rfl ?_
            refine ex_isub (pc := 120) (fr_get fo_162_3 14 rfl) ?_
            refine xv_ks1 (pc := 121) (fr_get fo_162_3 15 rfl) cc_162_232 (as := [.inl v6, .inl ((J1 40 0 37) - v8)]) (rs := []) rfl rfl rfl rfl ?_
            refine sm_120 ?_
            refine ⟨_, rfl, ?_⟩
            refine ex_istore (pc := 124) (fr_get fo_162_4 0 rfl) rfl (L' := [some (.inr (.inr (40, 0))), some (.inl v1), some (.inl v2), some (.inl (v3 + (1 : Int32))), some (.inl v8), some (.inl v5), some (.inl (xv_hi v6 ((J1 40 0 37) - v8))), some (.inl v7), some (.inl v8), none, none]) rfl ?_
            refine ex_goto (pc := 126) (fr_get fo_162_4 1 rfl) (t := 157) rfl ?_
            refine xv_iinc (pc := 157) (fr_get fo_162_5 4 rfl) rfl ic_1 (L' := [some (.inr (.inr (40, 0))), some (.inl v1), some (.inl v2), some (.inl (v3 + (1 : Int32))), some (.inl v8), some (.inl v5), some (.inl (xv_hi v6 ((J1 40 0 37) - v8))), some (.inl v7), some (.inl (v8 + (1 : Int32))), none, none]) rfl ?_
            refine ex_goto (pc := 160) (fr_get fo_162_5 5 rfl) (t := 36) rfl ?_
            exact h
        · replace h := h.2 c
          refine ex_aload_n (pc := 89) (fr_get fo_162_2 15 rfl) rfl rfl ?_
          refine xv_gi (pc := 90) (fr_get fo_162_3 0 rfl) ow_162 fg_9_248_40 rfl ?_
          refine ex_goto (pc := 93) (fr_get fo_162_3 1 rfl) (t := 97) rfl ?_
          refine xv_iast (pc := 97) (fr_get fo_162_3 3 rfl) gs_59 gl_59 rfl h.1 ?_
          replace h := h.2
          refine ex_aload_n (pc := 98) (fr_get fo_162_3 4 rfl) rfl rfl ?_
          refine xv_gi (pc := 99) (fr_get fo_162_3 5 rfl) ow_162 fg_9_245_40 (xv_ug rfl) ?_
          refine xv_bne (pc := 102) (fr_get fo_162_3 6 rfl) (t := 129) rfl (fun c => ?_) (fun c => ?_)
          · replace h := h.1 c
            refine ex_iload (pc := 129) (fr_get fo_162_4 2 rfl) rfl ?_
            refine ex_aload_n (pc := 131) (fr_get fo_162_4 3 rfl) rfl rfl ?_
            refine ex_iconst (pc := 132) (fr_get fo_162_4 4 rfl) ic_2 ?_
            refine ex_iload (pc := 133) (fr_get fo_162_4 5 rfl) rfl ?_
            refine ex_iload_n (pc := 135) (fr_get fo_162_4 6 rfl) rfl ?_
            refine ex_aload_n (pc := 136) (fr_get fo_162_4 7 rfl) rfl rfl ?_
            refine xv_gi (pc := 137) (fr_get fo_162_4 8 rfl) ow_162 fg_9_235_40 (xv_ug rfl) ?_
            refine ex_iconst (pc := 140) (fr_get fo_162_4 9 rfl) ic_1 ?_
            refine ex_isub (pc := 141) (fr_get fo_162_4 10 rfl) ?_
            refine ex_iconst (pc := 142) (fr_get fo_162_4 11 rfl) ic_0 ?_
            refine ex_iconst (pc := 143) (fr_get fo_162_4 12 rfl) ic_0 ?_
            refine ex_aload_n (pc := 144) (fr_get fo_162_4 13 rfl) rfl rfl ?_
            refine xv_gi (pc := 145) (fr_get fo_162_4 14 rfl) ow_162 fg_9_248_40 (xv_ug rfl) ?_
            refine ex_iload (pc := 148) (fr_get fo_162_4 15 rfl) rfl ?_
            refine ex_isub (pc := 150) (fr_get fo_162_5 0 rfl) ?_
            refine xv_kv1 (pc := 151) (fr_get fo_162_5 1 rfl) cc_162_67 (as := [.inr (.inr (40, 0)), .inl (2 : Int32), .inl v8, .inl v1, .inl ((J1 40 0 33) - (1 : Int32)), .inl (0 : Int32), .inl (0 : Int32), .inl ((J1 40 0 37) - v8)]) (rs := [.inl v5]) rfl rfl rfl rfl rfl ?_
            refine h.mono (fun r J12 p13 h => ?_)
            obtain ⟨x14, hr, h⟩ := h
            refine ⟨x14, hr, ?_⟩
            refine ex_iadd (pc := 154) (fr_get fo_162_5 2 rfl) ?_
            refine ex_istore (pc := 155) (fr_get fo_162_5 3 rfl) rfl (L' := [some (.inr (.inr (40, 0))), some (.inl v1), some (.inl v2), some (.inl v3), some (.inl v4), some (.inl (v5 + x14)), some (.inl v6), some (.inl v7), some (.inl v8), none, none]) rfl ?_
            refine xv_iinc (pc := 157) (fr_get fo_162_5 4 rfl) rfl ic_1 (L' := [some (.inr (.inr (40, 0))), some (.inl v1), some (.inl v2), some (.inl v3), some (.inl v4), some (.inl (v5 + x14)), some (.inl v6), some (.inl v7), some (.inl (v8 + (1 : Int32))), none, none]) rfl ?_
            refine ex_goto (pc := 160) (fr_get fo_162_5 5 rfl) (t := 36) rfl ?_
            exact h
          · replace h := h.2 c
            refine xv_iinc (pc := 105) (fr_get fo_162_3 7 rfl) rfl ic_1 (L' := [some (.inr (.inr (40, 0))), some (.inl v1), some (.inl v2), some (.inl (v3 + (1 : Int32))), some (.inl v4), some (.inl v5), some (.inl v6), some (.inl v7), some (.inl v8), none, none]) rfl ?_
            refine ex_iload (pc := 108) (fr_get fo_162_3 8 rfl) rfl ?_
            refine ex_istore (pc := 110) (fr_get fo_162_3 9 rfl) rfl (L' := [some (.inr (.inr (40, 0))), some (.inl v1), some (.inl v2), some (.inl (v3 + (1 : Int32))), some (.inl v8), some (.inl v5), some (.inl v6), some (.inl v7), some (.inl v8), none, none]) rfl ?_
            refine ex_iload (pc := 112) (fr_get fo_162_3 10 rfl) rfl ?_
            refine ex_aload_n (pc := 114) (fr_get fo_162_3 11 rfl) rfl rfl ?_
            refine xv_gi (pc := 115) (fr_get fo_162_3 12 rfl) ow_162 fg_9_248_40 (xv_ug rfl) ?_
            refine ex_iload (pc := 118) (fr_get fo_162_3 13 rfl) rfl ?_
            refine ex_isub (pc := 120) (fr_get fo_162_3 14 rfl) ?_
            refine xv_ks1 (pc := 121) (fr_get fo_162_3 15 rfl) cc_162_232 (as := [.inl v6, .inl ((J1 40 0 37) - v8)]) (rs := []) rfl rfl rfl rfl ?_
            refine sm_120 ?_
            refine ⟨_, rfl, ?_⟩
            refine ex_istore (pc := 124) (fr_get fo_162_4 0 rfl) rfl (L' := [some (.inr (.inr (40, 0))), some (.inl v1), some (.inl v2), some (.inl (v3 + (1 : Int32))), some (.inl v8), some (.inl v5), some (.inl (xv_hi v6 ((J1 40 0 37) - v8))), some (.inl v7), some (.inl v8), none, none]) rfl ?_
            refine ex_goto (pc := 126) (fr_get fo_162_4 1 rfl) (t := 157) rfl ?_
            refine xv_iinc (pc := 157) (fr_get fo_162_5 4 rfl) rfl ic_1 (L' := [some (.inr (.inr (40, 0))), some (.inl v1), some (.inl v2), some (.inl (v3 + (1 : Int32))), some (.inl v8), some (.inl v5), some (.inl (xv_hi v6 ((J1 40 0 37) - v8))), some (.inl v7), some (.inl (v8 + (1 : Int32))), none, none]) rfl ?_
            refine ex_goto (pc := 160) (fr_get fo_162_5 5 rfl) (t := 36) rfl ?_
            exact h
      · replace h := h.2 c
        refine ex_iload (pc := 67) (fr_get fo_162_2 5 rfl) rfl ?_
        refine ex_goto (pc := 69) (fr_get fo_162_2 6 rfl) (t := 74) rfl ?_
        refine ex_istore (pc := 74) (fr_get fo_162_2 8 rfl) rfl (L' := [some (.inr (.inr (40, 0))), some (.inl v1), some (.inl v2), some (.inl v3), some (.inl v4), some (.inl v5), some (.inl v6), some (.inl v8), some (.inl v8), none, none]) rfl ?_
        refine ex_aload_n (pc := 76) (fr_get fo_162_2 9 rfl) rfl rfl ?_
        refine ex_gr (pc := 77) (fr_get fo_162_2 10 rfl) ow_162 fr_9_207_40 (q := (59, 0)) rfl ?_
        refine ex_iload (pc := 80) (fr_get fo_162_2 11 rfl) rfl ?_
        refine ex_aload_n (pc := 82) (fr_get fo_162_2 12 rfl) rfl rfl ?_
        refine xv_gi (pc := 83) (fr_get fo_162_2 13 rfl) ow_162 fg_9_245_40 rfl ?_
        refine xv_bne (pc := 86) (fr_get fo_162_2 14 rfl) (t := 96) rfl (fun c => ?_) (fun c => ?_)
        · replace h := h.1 c
          refine ex_iconst (pc := 96) (fr_get fo_162_3 2 rfl) ic_m1 ?_
          refine xv_iast (pc := 97) (fr_get fo_162_3 3 rfl) gs_59 gl_59 rfl h.1 ?_
          replace h := h.2
          refine ex_aload_n (pc := 98) (fr_get fo_162_3 4 rfl) rfl rfl ?_
          refine xv_gi (pc := 99) (fr_get fo_162_3 5 rfl) ow_162 fg_9_245_40 (xv_ug rfl) ?_
          refine xv_bne (pc := 102) (fr_get fo_162_3 6 rfl) (t := 129) rfl (fun c => ?_) (fun c => ?_)
          · replace h := h.1 c
            refine ex_iload (pc := 129) (fr_get fo_162_4 2 rfl) rfl ?_
            refine ex_aload_n (pc := 131) (fr_get fo_162_4 3 rfl) rfl rfl ?_
            refine ex_iconst (pc := 132) (fr_get fo_162_4 4 rfl) ic_2 ?_
            refine ex_iload (pc := 133) (fr_get fo_162_4 5 rfl) rfl ?_
            refine ex_iload_n (pc := 135) (fr_get fo_162_4 6 rfl) rfl ?_
            refine ex_aload_n (pc := 136) (fr_get fo_162_4 7 rfl) rfl rfl ?_
            refine xv_gi (pc := 137) (fr_get fo_162_4 8 rfl) ow_162 fg_9_235_40 (xv_ug rfl) ?_
            refine ex_iconst (pc := 140) (fr_get fo_162_4 9 rfl) ic_1 ?_
            refine ex_isub (pc := 141) (fr_get fo_162_4 10 rfl) ?_
            refine ex_iconst (pc := 142) (fr_get fo_162_4 11 rfl) ic_0 ?_
            refine ex_iconst (pc := 143) (fr_get fo_162_4 12 rfl) ic_0 ?_
            refine ex_aload_n (pc := 144) (fr_get fo_162_4 13 rfl) rfl rfl ?_
            refine xv_gi (pc := 145) (fr_get fo_162_4 14 rfl) ow_162 fg_9_248_40 (xv_ug rfl) ?_
            refine ex_iload (pc := 148) (fr_get fo_162_4 15 rfl) rfl ?_
            refine ex_isub (pc := 150) (fr_get fo_162_5 0 rfl) ?_
            refine xv_kv1 (pc := 151) (fr_get fo_162_5 1 rfl) cc_162_67 (as := [.inr (.inr (40, 0)), .inl (2 : Int32), .inl v8, .inl v1, .inl ((J1 40 0 33) - (1 : Int32)), .inl (0 : Int32), .inl (0 : Int32), .inl ((J1 40 0 37) - v8)]) (rs := [.inl v5]) rfl rfl rfl rfl rfl ?_
            refine h.mono (fun r J15 p16 h => ?_)
            obtain ⟨x17, hr, h⟩ := h
            refine ⟨x17, hr, ?_⟩
            refine ex_iadd (pc := 154) (fr_get fo_162_5 2 rfl) ?_
            refine ex_istore (pc := 155) (fr_get fo_162_5 3 rfl) rfl (L' := [some (.inr (.inr (40, 0))), some (.inl v1), some (.inl v2), some (.inl v3), some (.inl v4), some (.inl (v5 + x17)), some (.inl v6), some (.inl v8), some (.inl v8), none, none]) rfl ?_
            refine xv_iinc (pc := 157) (fr_get fo_162_5 4 rfl) rfl ic_1 (L' := [some (.inr (.inr (40, 0))), some (.inl v1), some (.inl v2), some (.inl v3), some (.inl v4), some (.inl (v5 + x17)), some (.inl v6), some (.inl v8), some (.inl (v8 + (1 : Int32))), none, none]) rfl ?_
            refine ex_goto (pc := 160) (fr_get fo_162_5 5 rfl) (t := 36) rfl ?_
            exact h
          · replace h := h.2 c
            refine xv_iinc (pc := 105) (fr_get fo_162_3 7 rfl) rfl ic_1 (L' := [some (.inr (.inr (40, 0))), some (.inl v1), some (.inl v2), some (.inl (v3 + (1 : Int32))), some (.inl v4), some (.inl v5), some (.inl v6), some (.inl v8), some (.inl v8), none, none]) rfl ?_
            refine ex_iload (pc := 108) (fr_get fo_162_3 8 rfl) rfl ?_
            refine ex_istore (pc := 110) (fr_get fo_162_3 9 rfl) rfl (L' := [some (.inr (.inr (40, 0))), some (.inl v1), some (.inl v2), some (.inl (v3 + (1 : Int32))), some (.inl v8), some (.inl v5), some (.inl v6), some (.inl v8), some (.inl v8), none, none]) rfl ?_
            refine ex_iload (pc := 112) (fr_get fo_162_3 10 rfl) rfl ?_
            refine ex_aload_n (pc := 114) (fr_get fo_162_3 11 rfl) rfl rfl ?_
            refine xv_gi (pc := 115) (fr_get fo_162_3 12 rfl) ow_162 fg_9_248_40 (xv_ug rfl) ?_
            refine ex_iload (pc := 118) (fr_get fo_162_3 13 rfl) rfl ?_
            refine ex_isub (pc := 120) (fr_get fo_162_3 14 rfl) ?_
            refine xv_ks1 (pc := 121) (fr_get fo_162_3 15 rfl) cc_162_232 (as := [.inl v6, .inl ((J1 40 0 37) - v8)]) (rs := []) rfl rfl rfl rfl ?_
            refine sm_120 ?_
            refine ⟨_, rfl, ?_⟩
            refine ex_istore (pc := 124) (fr_get fo_162_4 0 rfl) rfl (L' := [some (.inr (.inr (40, 0))), some (.inl v1), some (.inl v2), some (.inl (v3 + (1 : Int32))), some (.inl v8), some (.inl v5), some (.inl (xv_hi v6 ((J1 40 0 37) - v8))), some (.inl v8), some (.inl v8), none, none]) rfl ?_
            refine ex_goto (pc := 126) (fr_get fo_162_4 1 rfl) (t := 157) rfl ?_
            refine xv_iinc (pc := 157) (fr_get fo_162_5 4 rfl) rfl ic_1 (L' := [some (.inr (.inr (40, 0))), some (.inl v1), some (.inl v2), some (.inl (v3 + (1 : Int32))), some (.inl v8), some (.inl v5), some (.inl (xv_hi v6 ((J1 40 0 37) - v8))), some (.inl v8), some (.inl (v8 + (1 : Int32))), none, none]) rfl ?_
            refine ex_goto (pc := 160) (fr_get fo_162_5 5 rfl) (t := 36) rfl ?_
            exact h
        · replace h := h.2 c
          refine ex_aload_n (pc := 89) (fr_get fo_162_2 15 rfl) rfl rfl ?_
          refine xv_gi (pc := 90) (fr_get fo_162_3 0 rfl) ow_162 fg_9_248_40 rfl ?_
          refine ex_goto (pc := 93) (fr_get fo_162_3 1 rfl) (t := 97) rfl ?_
          refine xv_iast (pc := 97) (fr_get fo_162_3 3 rfl) gs_59 gl_59 rfl h.1 ?_
          replace h := h.2
          refine ex_aload_n (pc := 98) (fr_get fo_162_3 4 rfl) rfl rfl ?_
          refine xv_gi (pc := 99) (fr_get fo_162_3 5 rfl) ow_162 fg_9_245_40 (xv_ug rfl) ?_
          refine xv_bne (pc := 102) (fr_get fo_162_3 6 rfl) (t := 129) rfl (fun c => ?_) (fun c => ?_)
          · replace h := h.1 c
            refine ex_iload (pc := 129) (fr_get fo_162_4 2 rfl) rfl ?_
            refine ex_aload_n (pc := 131) (fr_get fo_162_4 3 rfl) rfl rfl ?_
            refine ex_iconst (pc := 132) (fr_get fo_162_4 4 rfl) ic_2 ?_
            refine ex_iload (pc := 133) (fr_get fo_162_4 5 rfl) rfl ?_
            refine ex_iload_n (pc := 135) (fr_get fo_162_4 6 rfl) rfl ?_
            refine ex_aload_n (pc := 136) (fr_get fo_162_4 7 rfl) rfl rfl ?_
            refine xv_gi (pc := 137) (fr_get fo_162_4 8 rfl) ow_162 fg_9_235_40 (xv_ug rfl) ?_
            refine ex_iconst (pc := 140) (fr_get fo_162_4 9 rfl) ic_1 ?_
            refine ex_isub (pc := 141) (fr_get fo_162_4 10 rfl) ?_
            refine ex_iconst (pc := 142) (fr_get fo_162_4 11 rfl) ic_0 ?_
            refine ex_iconst (pc := 143) (fr_get fo_162_4 12 rfl) ic_0 ?_
            refine ex_aload_n (pc := 144) (fr_get fo_162_4 13 rfl) rfl rfl ?_
            refine xv_gi (pc := 145) (fr_get fo_162_4 14 rfl) ow_162 fg_9_248_40 (xv_ug rfl) ?_
            refine ex_iload (pc := 148) (fr_get fo_162_4 15 rfl) rfl ?_
            refine ex_isub (pc := 150) (fr_get fo_162_5 0 rfl) ?_
            refine xv_kv1 (pc := 151) (fr_get fo_162_5 1 rfl) cc_162_67 (as := [.inr (.inr (40, 0)), .inl (2 : Int32), .inl v8, .inl v1, .inl ((J1 40 0 33) - (1 : Int32)), .inl (0 : Int32), .inl (0 : Int32), .inl ((J1 40 0 37) - v8)]) (rs := [.inl v5]) rfl rfl rfl rfl rfl ?_
            refine h.mono (fun r J18 p19 h => ?_)
            obtain ⟨x20, hr, h⟩ := h
            refine ⟨x20, hr, ?_⟩
            refine ex_iadd (pc := 154) (fr_get fo_162_5 2 rfl) ?_
            refine ex_istore (pc := 155) (fr_get fo_162_5 3 rfl) rfl (L' := [some (.inr (.inr (40, 0))), some (.inl v1), some (.inl v2), some (.inl v3), some (.inl v4), some (.inl (v5 + x20)), some (.inl v6), some (.inl v8), some (.inl v8), none, none]) rfl ?_
            refine xv_iinc (pc := 157) (fr_get fo_162_5 4 rfl) rfl ic_1 (L' := [some (.inr (.inr (40, 0))), some (.inl v1), some (.inl v2), some (.inl v3), some (.inl v4), some (.inl (v5 + x20)), some (.inl v6), some (.inl v8), some (.inl (v8 + (1 : Int32))), none, none]) rfl ?_
            refine ex_goto (pc := 160) (fr_get fo_162_5 5 rfl) (t := 36) rfl ?_
            exact h
          · replace h := h.2 c
            refine xv_iinc (pc := 105) (fr_get fo_162_3 7 rfl) rfl ic_1 (L' := [some (.inr (.inr (40, 0))), some (.inl v1), some (.inl v2), some (.inl (v3 + (1 : Int32))), some (.inl v4), some (.inl v5), some (.inl v6), some (.inl v8), some (.inl v8), none, none]) rfl ?_
            refine ex_iload (pc := 108) (fr_get fo_162_3 8 rfl) rfl ?_
            refine ex_istore (pc := 110) (fr_get fo_162_3 9 rfl) rfl (L' := [some (.inr (.inr (40, 0))), some (.inl v1), some (.inl v2), some (.inl (v3 + (1 : Int32))), some (.inl v8), some (.inl v5), some (.inl v6), some (.inl v8), some (.inl v8), none, none]) rfl ?_
            refine ex_iload (pc := 112) (fr_get fo_162_3 10 rfl) rfl ?_
            refine ex_aload_n (pc := 114) (fr_get fo_162_3 11 rfl) rfl rfl ?_
            refine xv_gi (pc := 115) (fr_get fo_162_3 12 rfl) ow_162 fg_9_248_40 (xv_ug rfl) ?_
            refine ex_iload (pc := 118) (fr_get fo_162_3 13 rfl) rfl ?_
            refine ex_isub (pc := 120) (fr_get fo_162_3 14 rfl) ?_
            refine xv_ks1 (pc := 121) (fr_get fo_162_3 15 rfl) cc_162_232 (as := [.inl v6, .inl ((J1 40 0 37) - v8)]) (rs := []) rfl rfl rfl rfl ?_
            refine sm_120 ?_
            refine ⟨_, rfl, ?_⟩
            refine ex_istore (pc := 124) (fr_get fo_162_4 0 rfl) rfl (L' := [some (.inr (.inr (40, 0))), some (.inl v1), some (.inl v2), some (.inl (v3 + (1 : Int32))), some (.inl v8), some (.inl v5), some (.inl (xv_hi v6 ((J1 40 0 37) - v8))), some (.inl v8), some (.inl v8), none, none]) rfl ?_
            refine ex_goto (pc := 126) (fr_get fo_162_4 1 rfl) (t := 157) rfl ?_
            refine xv_iinc (pc := 157) (fr_get fo_162_5 4 rfl) rfl ic_1 (L' := [some (.inr (.inr (40, 0))), some (.inl v1), some (.inl v2), some (.inl (v3 + (1 : Int32))), some (.inl v8), some (.inl v5), some (.inl (xv_hi v6 ((J1 40 0 37) - v8))), some (.inl v8), some (.inl (v8 + (1 : Int32))), none, none]) rfl ?_
            refine ex_goto (pc := 160) (fr_get fo_162_5 5 rfl) (t := 36) rfl ?_
            exact h

theorem b_162_175 {d : Nat} {I : ma_I} {o : Nat} {Q : ma_Q} {v1 : Int32} {v2 : Int32} {v3 : Int32} {v4 : Int32} {v5 : Int32} {v6 : Int32} {v7 : Int32} {v8 : Int32} {v9 : Int32} {v10 : Int32}
  (h :
    (v10 < 0 →
      (v2 ≠ 0 →
        (v2 ≠ (1 : Int32) →
          (v2 ≠ (2 : Int32) →
            (v2 ≠ (3 : Int32) →
              (v2 ≠ (4 : Int32) →
                Q (some (.inl v7)) I o) ∧
              (v2 = (4 : Int32) →
                Q (some (.inl v8)) I o)) ∧
            (v2 = (3 : Int32) →
              Q (some (.inl v6)) I o)) ∧
          (v2 = (2 : Int32) →
            Q (some (.inl v5)) I o)) ∧
        (v2 = (1 : Int32) →
          Q (some (.inl v4)) I o)) ∧
      (v2 = 0 →
        Q (some (.inl v3)) I o)) ∧
    (0 ≤ v10 →
      ma_in v10 100 ∧
      (I 59 0 v10.toNatClampNeg = (-1 : Int32) →
        Ex (d + 2) 162 (175, [some (.inr (.inr (40, 0))), some (.inl v1), some (.inl v2), some (.inl v3), some (.inl v4), some (.inl v5), some (.inl v6), some (.inl v7), some (.inl v8), some (.inl v9), some (.inl (v10 + (-1 : Int32)))], [], ma_mem I o, 0, 0) (ma_end Q)) ∧
      (I 59 0 v10.toNatClampNeg ≠ (-1 : Int32) →
        ma_in v10 100 ∧
        (I 59 0 v10.toNatClampNeg ≤ v9 →
          ma_in v10 100 ∧
          Ex (d + 2) 162 (175, [some (.inr (.inr (40, 0))), some (.inl v1), some (.inl v2), some (.inl v3), some (.inl v4), some (.inl v5), some (.inl v6), some (.inl v7), some (.inl (v8 + (0 : Int32))), some (.inl (xv_lo v9 (I 59 0 v10.toNatClampNeg))), some (.inl (v10 + (-1 : Int32)))], [], ma_mem I o, 0, 0) (ma_end Q)) ∧
        (v9 < I 59 0 v10.toNatClampNeg →
          ma_in v10 100 ∧
          Ex (d + 2) 162 (175, [some (.inr (.inr (40, 0))), some (.inl v1), some (.inl v2), some (.inl v3), some (.inl v4), some (.inl v5), some (.inl v6), some (.inl v7), some (.inl (v8 + (1 : Int32))), some (.inl (xv_lo v9 (I 59 0 v10.toNatClampNeg))), some (.inl (v10 + (-1 : Int32)))], [], ma_mem I o, 0, 0) (ma_end Q))))) :
  Ex (d + 2) 162 (175, [some (.inr (.inr (40, 0))), some (.inl v1), some (.inl v2), some (.inl v3), some (.inl v4), some (.inl v5), some (.inl v6), some (.inl v7), some (.inl v8), some (.inl v9), some (.inl v10)], [], ma_mem I o, 0, 0) (ma_end Q) := by
  refine ex_iload (pc := 175) (fr_get fo_162_5 12 rfl) rfl ?_
  refine xv_blt (pc := 177) (fr_get fo_162_5 13 rfl) (t := 233) rfl (fun c => ?_) (fun c => ?_)
  · replace h := h.1 c
    refine ex_iload_n (pc := 233) (fr_get fo_162_7 9 rfl) rfl ?_
    refine xv_bne (pc := 234) (fr_get fo_162_7 10 rfl) (t := 241) rfl (fun c => ?_) (fun c => ?_)
    · replace h := h.1 c
      refine ex_iload_n (pc := 241) (fr_get fo_162_7 13 rfl) rfl ?_
      refine ex_iconst (pc := 242) (fr_get fo_162_7 14 rfl) ic_1 ?_
      refine xv_cne (pc := 243) (fr_get fo_162_7 15 rfl) (t := 251) rfl (fun c => ?_) (fun c => ?_)
      · replace h := h.1 c
        refine ex_iload_n (pc := 251) (fr_get fo_162_8 2 rfl) rfl ?_
        refine ex_iconst (pc := 252) (fr_get fo_162_8 3 rfl) ic_2 ?_
        refine xv_cne (pc := 253) (fr_get fo_162_8 4 rfl) (t := 261) rfl (fun c => ?_) (fun c => ?_)
        · replace h := h.1 c
          refine ex_iload_n (pc := 261) (fr_get fo_162_8 7 rfl) rfl ?_
          refine ex_iconst (pc := 262) (fr_get fo_162_8 8 rfl) ic_3 ?_
          refine xv_cne (pc := 263) (fr_get fo_162_8 9 rfl) (t := 271) rfl (fun c => ?_) (fun c => ?_)
          · replace h := h.1 c
            refine ex_iload_n (pc := 271) (fr_get fo_162_8 12 rfl) rfl ?_
            refine ex_iconst (pc := 272) (fr_get fo_162_8 13 rfl) ic_4 ?_
            refine xv_cne (pc := 273) (fr_get fo_162_8 14 rfl) (t := 281) rfl (fun c => ?_) (fun c => ?_)
            · replace h := h.1 c
              refine ex_iload (pc := 281) (fr_get fo_162_9 1 rfl) rfl ?_
              exact ex_ireturn (pc := 283) (fr_get fo_162_9 2 rfl) rt_162 rfl rfl (ma_end_mk h)
            · replace h := h.2 c
              refine ex_iload (pc := 276) (fr_get fo_162_8 15 rfl) rfl ?_
              refine ex_goto (pc := 278) (fr_get fo_162_9 0 rfl) (t := 283) rfl ?_
              exact ex_ireturn (pc := 283) (fr_get fo_162_9 2 rfl) rt_162 rfl rfl (ma_end_mk h)
          · replace h := h.2 c
            refine ex_iload (pc := 266) (fr_get fo_162_8 10 rfl) rfl ?_
            refine ex_goto (pc := 268) (fr_get fo_162_8 11 rfl) (t := 283) rfl ?_
            exact ex_ireturn (pc := 283) (fr_get fo_162_9 2 rfl) rt_162 rfl rfl (ma_end_mk h)
        · replace h := h.2 c
          refine ex_iload (pc := 256) (fr_get fo_162_8 5 rfl) rfl ?_
          refine ex_goto (pc := 258) (fr_get fo_162_8 6 rfl) (t := 283) rfl ?_
          exact ex_ireturn (pc := 283) (fr_get fo_162_9 2 rfl) rt_162 rfl rfl (ma_end_mk h)
      · replace h := h.2 c
        refine ex_iload (pc := 246) (fr_get fo_162_8 0 rfl) rfl ?_
        refine ex_goto (pc := 248) (fr_get fo_162_8 1 rfl) (t := 283) rfl ?_
        exact ex_ireturn (pc := 283) (fr_get fo_162_9 2 rfl) rt_162 rfl rfl (ma_end_mk h)
    · replace h := h.2 c
      refine ex_iload_n (pc := 237) (fr_get fo_162_7 11 rfl) rfl ?_
      refine ex_goto (pc := 238) (fr_get fo_162_7 12 rfl) (t := 283) rfl ?_
      exact ex_ireturn (pc := 283) (fr_get fo_162_9 2 rfl) rt_162 rfl rfl (ma_end_mk h)
  · replace h := h.2 c
    refine ex_aload_n (pc := 180) (fr_get fo_162_5 14 rfl) rfl rfl ?_
    refine ex_gr (pc := 181) (fr_get fo_162_5 15 rfl) ow_162 fr_9_207_40 (q := (59, 0)) rfl ?_
    refine ex_iload (pc := 184) (fr_get fo_162_6 0 rfl) rfl ?_
    refine xv_iald (pc := 186) (fr_get fo_162_6 1 rfl) gk_59 (n := 100) (gn_59 ..) rfl rfl h.1 ?_
    replace h := h.2
    refine ex_iconst (pc := 187) (fr_get fo_162_6 2 rfl) ic_m1 ?_
    refine xv_ceq (pc := 188) (fr_get fo_162_6 3 rfl) (t := 227) rfl (fun c => ?_) (fun c => ?_)
    · replace h := h.1 c
      refine xv_iinc (pc := 227) (fr_get fo_162_7 7 rfl) rfl ic_m1 (L' := [some (.inr (.inr (40, 0))), some (.inl v1), some (.inl v2), some (.inl v3), some (.inl v4), some (.inl v5), some (.inl v6), some (.inl v7), some (.inl v8), some (.inl v9), some (.inl (v10 + (-1 : Int32)))]) rfl ?_
      refine ex_goto (pc := 230) (fr_get fo_162_7 8 rfl) (t := 175) rfl ?_
      exact h
    · replace h := h.2 c
      refine ex_iload (pc := 191) (fr_get fo_162_6 4 rfl) rfl ?_
      refine ex_aload_n (pc := 193) (fr_get fo_162_6 5 rfl) rfl rfl ?_
      refine ex_gr (pc := 194) (fr_get fo_162_6 6 rfl) ow_162 fr_9_207_40 (q := (59, 0)) rfl ?_
      refine ex_iload (pc := 197) (fr_get fo_162_6 7 rfl) rfl ?_
      refine xv_iald (pc := 199) (fr_get fo_162_6 8 rfl) gk_59 (n := 100) (gn_59 ..) rfl rfl h.1 ?_
      replace h := h.2
      refine ex_iload (pc := 200) (fr_get fo_162_6 9 rfl) rfl ?_
      refine xv_cle (pc := 202) (fr_get fo_162_6 10 rfl) (t := 209) rfl (fun c => ?_) (fun c => ?_)
      · replace h := h.1 c
        refine ex_iconst (pc := 209) (fr_get fo_162_6 13 rfl) ic_0 ?_
        refine ex_iadd (pc := 210) (fr_get fo_162_6 14 rfl) ?_
        refine ex_istore (pc := 211) (fr_get fo_162_6 15 rfl) rfl (L' := [some (.inr (.inr (40, 0))), some (.inl v1), some (.inl v2), some (.inl v3), some (.inl v4), some (.inl v5), some (.inl v6), some (.inl v7), some (.inl (v8 + (0 : Int32))), some (.inl v9), some (.inl v10)]) rfl ?_
        refine ex_iload (pc := 213) (fr_get fo_162_7 0 rfl) rfl ?_
        refine ex_aload_n (pc := 215) (fr_get fo_162_7 1 rfl) rfl rfl ?_
        refine ex_gr (pc := 216) (fr_get fo_162_7 2 rfl) ow_162 fr_9_207_40 (q := (59, 0)) rfl ?_
        refine ex_iload (pc := 219) (fr_get fo_162_7 3 rfl) rfl ?_
        refine xv_iald (pc := 221) (fr_get fo_162_7 4 rfl) gk_59 (n := 100) (gn_59 ..) rfl rfl h.1 ?_
        replace h := h.2
        refine xv_ks1 (pc := 222) (fr_get fo_162_7 5 rfl) cc_162_229 (as := [.inl v9, .inl (I 59 0 v10.toNatClampNeg)]) (rs := []) rfl rfl rfl rfl ?_
        refine sm_119 ?_
        refine ⟨_, rfl, ?_⟩
        refine ex_istore (pc := 225) (fr_get fo_162_7 6 rfl) rfl (L' := [some (.inr (.inr (40, 0))), some (.inl v1), some (.inl v2), some (.inl v3), some (.inl v4), some (.inl v5), some (.inl v6), some (.inl v7), some (.inl (v8 + (0 : Int32))), some (.inl (xv_lo v9 (I 59 0 v10.toNatClampNeg))), some (.inl v10)]) rfl ?_
        refine xv_iinc (pc := 227) (fr_get fo_162_7 7 rfl) rfl ic_m1 (L' := [some (.inr (.inr (40, 0))), some (.inl v1), some (.inl v2), some (.inl v3), some (.inl v4), some (.inl v5), some (.inl v6), some (.inl v7), some (.inl (v8 + (0 : Int32))), some (.inl (xv_lo v9 (I 59 0 v10.toNatClampNeg))), some (.inl (v10 + (-1 : Int32)))]) rfl ?_
        refine ex_goto (pc := 230) (fr_get fo_162_7 8 rfl) (t := 175) rfl ?_
        exact h
      · replace h := h.2 c
        refine ex_iconst (pc := 205) (fr_get fo_162_6 11 rfl) ic_1 ?_
        refine ex_goto (pc := 206) (fr_get fo_162_6 12 rfl) (t := 210) rfl ?_
        refine ex_iadd (pc := 210) (fr_get fo_162_6 14 rfl) ?_
        refine ex_istore (pc := 211) (fr_get fo_162_6 15 rfl) rfl (L' := [some (.inr (.inr (40, 0))), some (.inl v1), some (.inl v2), some (.inl v3), some (.inl v4), some (.inl v5), some (.inl v6), some (.inl v7), some (.inl (v8 + (1 : Int32))), some (.inl v9), some (.inl v10)]) rfl ?_
        refine ex_iload (pc := 213) (fr_get fo_162_7 0 rfl) rfl ?_
        refine ex_aload_n (pc := 215) (fr_get fo_162_7 1 rfl) rfl rfl ?_
        refine ex_gr (pc := 216) (fr_get fo_162_7 2 rfl) ow_162 fr_9_207_40 (q := (59, 0)) rfl ?_
        refine ex_iload (pc := 219) (fr_get fo_162_7 3 rfl) rfl ?_
        refine xv_iald (pc := 221) (fr_get fo_162_7 4 rfl) gk_59 (n := 100) (gn_59 ..) rfl rfl h.1 ?_
        replace h := h.2
        refine xv_ks1 (pc := 222) (fr_get fo_162_7 5 rfl) cc_162_229 (as := [.inl v9, .inl (I 59 0 v10.toNatClampNeg)]) (rs := []) rfl rfl rfl rfl ?_
        refine sm_119 ?_
        refine ⟨_, rfl, ?_⟩
        refine ex_istore (pc := 225) (fr_get fo_162_7 6 rfl) rfl (L' := [some (.inr (.inr (40, 0))), some (.inl v1), some (.inl v2), some (.inl v3), some (.inl v4), some (.inl v5), some (.inl v6), some (.inl v7), some (.inl (v8 + (1 : Int32))), some (.inl (xv_lo v9 (I 59 0 v10.toNatClampNeg))), some (.inl v10)]) rfl ?_
        refine xv_iinc (pc := 227) (fr_get fo_162_7 7 rfl) rfl ic_m1 (L' := [some (.inr (.inr (40, 0))), some (.inl v1), some (.inl v2), some (.inl v3), some (.inl v4), some (.inl v5), some (.inl v6), some (.inl v7), some (.inl (v8 + (1 : Int32))), some (.inl (xv_lo v9 (I 59 0 v10.toNatClampNeg))), some (.inl (v10 + (-1 : Int32)))]) rfl ?_
        refine ex_goto (pc := 230) (fr_get fo_162_7 8 rfl) (t := 175) rfl ?_
        exact h

theorem e_163 {d : Nat} {I : ma_I} {o : Nat} {Q : ma_Q} {a1 : Int32}
  (h :
    Ex (d + 1) 163 (4, [some (.inr (.inr (40, 0))), some (.inl a1), some (.inl (0 : Int32)), some (.inl (0 : Int32))], [], ma_mem I o, 0, 0) (ma_end Q)) :
  Exm (d + 1) 163 [.inr (.inr (40, 0)), .inl a1] I o Q := by
  show Ex (d + 1) 163 (0, [some (.inr (.inr (40, 0))), some (.inl a1), none, none], [], ma_mem I o, 0, 0) (ma_end Q)
  refine ex_iconst (pc := 0) (fr_get fo_163_0 0 rfl) ic_0 ?_
  refine ex_istore_n (pc := 1) (fr_get fo_163_0 1 rfl) rfl (L' := [some (.inr (.inr (40, 0))), some (.inl a1), some (.inl (0 : Int32)), none]) rfl ?_
  refine ex_iconst (pc := 2) (fr_get fo_163_0 2 rfl) ic_0 ?_
  refine ex_istore_n (pc := 3) (fr_get fo_163_0 3 rfl) rfl (L' := [some (.inr (.inr (40, 0))), some (.inl a1), some (.inl (0 : Int32)), some (.inl (0 : Int32))]) rfl ?_
  exact h

theorem b_163_4 {d : Nat} {I : ma_I} {o : Nat} {Q : ma_Q} {v1 : Int32} {v2 : Int32} {v3 : Int32}
  (h :
    (I 40 0 4 ≤ v3 →
      Q (some (.inl v2)) I o) ∧
    (v3 < I 40 0 4 →
      ((v1 >>> (v3 &&& 31)) &&& (1 : Int32) ≠ (1 : Int32) →
        Ex (d + 1) 163 (4, [some (.inr (.inr (40, 0))), some (.inl v1), some (.inl (v2 + (0 : Int32))), some (.inl (v3 + (1 : Int32)))], [], ma_mem I o, 0, 0) (ma_end Q)) ∧
      ((v1 >>> (v3 &&& 31)) &&& (1 : Int32) = (1 : Int32) →
        Exm (d) 134 [.inr (.inr (40, 0)), .inl v3] I o (fun r J1 p2 => ∃ x3 : Int32, r = some (.inl x3) ∧
          Ex (d + 1) 163 (4, [some (.inr (.inr (40, 0))), some (.inl v1), some (.inl (v2 + x3)), some (.inl (v3 + (1 : Int32)))], [], ma_mem J1 p2, 0, 0) (ma_end Q))))) :
  Ex (d + 1) 163 (4, [some (.inr (.inr (40, 0))), some (.inl v1), some (.inl v2), some (.inl v3)], [], ma_mem I o, 0, 0) (ma_end Q) := by
  refine ex_iload_n (pc := 4) (fr_get fo_163_0 4 rfl) rfl ?_
  refine ex_aload_n (pc := 5) (fr_get fo_163_0 5 rfl) rfl rfl ?_
  refine xv_gi (pc := 6) (fr_get fo_163_0 6 rfl) ow_163 fg_9_7_40 rfl ?_
  refine xv_cge (pc := 9) (fr_get fo_163_0 7 rfl) (t := 39) rfl (fun c => ?_) (fun c => ?_)
  · replace h := h.1 c
    refine ex_iload_n (pc := 39) (fr_get fo_163_1 9 rfl) rfl ?_
    exact ex_ireturn (pc := 40) (fr_get fo_163_1 10 rfl) rt_163 rfl rfl (ma_end_mk h)
  · replace h := h.2 c
    refine ex_iload_n (pc := 12) (fr_get fo_163_0 8 rfl) rfl ?_
    refine ex_iload_n (pc := 13) (fr_get fo_163_0 9 rfl) rfl ?_
    refine ex_iload_n (pc := 14) (fr_get fo_163_0 10 rfl) rfl ?_
    refine ex_ishr (pc := 15) (fr_get fo_163_0 11 rfl) ?_
    refine ex_iconst (pc := 16) (fr_get fo_163_0 12 rfl) ic_1 ?_
    refine ex_iand (pc := 17) (fr_get fo_163_0 13 rfl) ?_
    refine ex_iconst (pc := 18) (fr_get fo_163_0 14 rfl) ic_1 ?_
    refine xv_cne (pc := 19) (fr_get fo_163_0 15 rfl) (t := 30) rfl (fun c => ?_) (fun c => ?_)
    · replace h := h.1 c
      refine ex_iconst (pc := 30) (fr_get fo_163_1 4 rfl) ic_0 ?_
      refine ex_iadd (pc := 31) (fr_get fo_163_1 5 rfl) ?_
      refine ex_istore_n (pc := 32) (fr_get fo_163_1 6 rfl) rfl (L' := [some (.inr (.inr (40, 0))), some (.inl v1), some (.inl (v2 + (0 : Int32))), some (.inl v3)]) rfl ?_
      refine xv_iinc (pc := 33) (fr_get fo_163_1 7 rfl) rfl ic_1 (L' := [some (.inr (.inr (40, 0))), some (.inl v1), some (.inl (v2 + (0 : Int32))), some (.inl (v3 + (1 : Int32)))]) rfl ?_
      refine ex_goto (pc := 36) (fr_get fo_163_1 8 rfl) (t := 4) rfl ?_
      exact h
    · replace h := h.2 c
      refine ex_aload_n (pc := 22) (fr_get fo_163_1 0 rfl) rfl rfl ?_
      refine ex_iload_n (pc := 23) (fr_get fo_163_1 1 rfl) rfl ?_
      refine xv_kv1 (pc := 24) (fr_get fo_163_1 2 rfl) cc_163_79 (as := [.inr (.inr (40, 0)), .inl v3]) (rs := [.inl v2]) rfl rfl rfl rfl rfl ?_
      refine h.mono (fun r J1 p2 h => ?_)
      obtain ⟨x3, hr, h⟩ := h
      refine ⟨x3, hr, ?_⟩
      refine ex_goto (pc := 27) (fr_get fo_163_1 3 rfl) (t := 31) rfl ?_
      refine ex_iadd (pc := 31) (fr_get fo_163_1 5 rfl) ?_
      refine ex_istore_n (pc := 32) (fr_get fo_163_1 6 rfl) rfl (L' := [some (.inr (.inr (40, 0))), some (.inl v1), some (.inl (v2 + x3)), some (.inl v3)]) rfl ?_
      refine xv_iinc (pc := 33) (fr_get fo_163_1 7 rfl) rfl ic_1 (L' := [some (.inr (.inr (40, 0))), some (.inl v1), some (.inl (v2 + x3)), some (.inl (v3 + (1 : Int32)))]) rfl ?_
      refine ex_goto (pc := 36) (fr_get fo_163_1 8 rfl) (t := 4) rfl ?_
      exact h

theorem e_164 {d : Nat} {I : ma_I} {o : Nat} {Q : ma_Q} {a1 : Int32} {a2 : Int32}
  (h :
    (¬((0 : Int32) ≤ a1 ∧ a1 ≤ (7 : Int32)) →
      Q (some (.inl (-2 : Int32))) I o) ∧
    ((0 : Int32) ≤ a1 ∧ a1 ≤ (7 : Int32) →
      ((0 : Int32) ≤ a2 ∧ a2 ≤ (2 : Int32) →
        Exm (d + 1) 161 [.inr (.inr (40, 0)), .inl a1, .inl (xv_al (I 40 0 4))] I o (fun r J1 p2 => ∃ x3 : Int32, r = some (.inl x3) ∧
          (a2 ≠ 0 →
            Exm (d + 1) 163 [.inr (.inr (40, 0)), .inl (xv_al (J1 40 0 4))] J1 p2 (fun r J4 p5 => ∃ x6 : Int32, r = some (.inl x6) ∧
              Ex (d + 2) 164 (112, [some (.inr (.inr (40, 0))), some (.inl a1), some (.inl a2), some (.inl x3), some (.inl (xv_al (J1 40 0 4))), some (.inl x6), some (.inl ((xv_al (J4 40 0 4)) - (1 : Int32))), none], [], ma_mem J4 p5, 0, 0) (ma_end Q))) ∧
          (a2 = 0 →
            Ex (d + 2) 164 (39, [some (.inr (.inr (40, 0))), some (.inl a1), some (.inl a2), some (.inl x3), some (.inl (0 : Int32)), some (.inl (0 : Int32)), none, none], [], ma_mem J1 p2, 0, 0) (ma_end Q)))) ∧
      (¬((0 : Int32) ≤ a2 ∧ a2 ≤ (2 : Int32)) →
        Q (some (.inl (-2 : Int32))) I o))) :
  Exm (d + 2) 164 [.inr (.inr (40, 0)), .inl a1, .inl a2] I o Q := by
  show Ex (d + 2) 164 (0, [some (.inr (.inr (40, 0))), some (.inl a1), some (.inl a2), none, none, none, none, none], [], ma_mem I o, 0, 0) (ma_end Q)
  refine ex_iload_n (pc := 0) (fr_get fo_164_0 0 rfl) rfl ?_
  refine xv_ks1 (pc := 1) (fr_get fo_164_0 1 rfl) cc_164_15 (as := [.inl a1]) (rs := []) rfl rfl rfl rfl ?_
  refine sm_121 ?_
  refine ⟨_, rfl, ?_⟩
  refine xv_peq (pc := 4) (fr_get fo_164_0 2 rfl) (t := 16) rfl (fun c => ?_) (fun c => ?_)
  · replace h := h.1 c
    refine ex_bipush (pc := 16) (fr_get fo_164_0 8 rfl) bp_m2 ?_
    exact ex_ireturn (pc := 18) (fr_get fo_164_0 9 rfl) rt_164 rfl rfl (ma_end_mk h)
  · replace h := h.2 c
    refine ex_iload_n (pc := 7) (fr_get fo_164_0 3 rfl) rfl ?_
    refine ex_iconst (pc := 8) (fr_get fo_164_0 4 rfl) ic_0 ?_
    refine ex_iconst (pc := 9) (fr_get fo_164_0 5 rfl) ic_2 ?_
    refine xv_ks1 (pc := 10) (fr_get fo_164_0 6 rfl) cc_164_3 (as := [.inl a2, .inl (0 : Int32), .inl (2 : Int32)]) (rs := []) rfl rfl rfl rfl ?_
    refine sm_118 ?_
    refine ⟨_, rfl, ?_⟩
    refine xv_pne (pc := 13) (fr_get fo_164_0 7 rfl) (t := 19) rfl (fun c => ?_) (fun c => ?_)
    · replace h := h.1 c
      refine ex_aload_n (pc := 19) (fr_get fo_164_0 10 rfl) rfl rfl ?_
      refine ex_iload_n (pc := 20) (fr_get fo_164_0 11 rfl) rfl ?_
      refine ex_aload_n (pc := 21) (fr_get fo_164_0 12 rfl) rfl rfl ?_
      refine xv_kv1 (pc := 22) (fr_get fo_164_0 13 rfl) cc_164_251 (as := [.inr (.inr (40, 0))]) (rs := [.inl a1, .inr (.inr (40, 0))]) rfl rfl rfl rfl rfl ?_
      refine sm_159 rfl ?_
      refine ⟨_, rfl, ?_⟩
      refine xv_kv1 (pc := 25) (fr_get fo_164_0 14 rfl) cc_164_259 (as := [.inr (.inr (40, 0)), .inl a1, .inl (xv_al (I 40 0 4))]) (rs := []) rfl rfl rfl rfl rfl ?_
      refine h.mono (fun r J1 p2 h => ?_)
      obtain ⟨x3, hr, h⟩ := h
      refine ⟨x3, hr, ?_⟩
      refine ex_istore_n (pc := 28) (fr_get fo_164_0 15 rfl) rfl (L' := [some (.inr (.inr (40, 0))), some (.inl a1), some (.inl a2), some (.inl x3), none, none, none, none]) rfl ?_
      refine ex_iload_n (pc := 29) (fr_get fo_164_1 0 rfl) rfl ?_
      refine xv_bne (pc := 30) (fr_get fo_164_1 1 rfl) (t := 90) rfl (fun c => ?_) (fun c => ?_)
      · replace h := h.1 c
        refine ex_aload_n (pc := 90) (fr_get fo_164_3 3 rfl) rfl rfl ?_
        refine xv_kv1 (pc := 91) (fr_get fo_164_3 4 rfl) cc_164_251 (as := [.inr (.inr (40, 0))]) (rs := []) rfl rfl rfl rfl rfl ?_
        refine sm_159 rfl ?_
        refine ⟨_, rfl, ?_⟩
        refine ex_istore (pc := 94) (fr_get fo_164_3 5 rfl) rfl (L' := [some (.inr (.inr (40, 0))), some (.inl a1), some (.inl a2), some (.inl x3), some (.inl (xv_al (J1 40 0 4))), none, none, none]) rfl ?_
        refine ex_aload_n (pc := 96) (fr_get fo_164_3 6 rfl) rfl rfl ?_
        refine ex_iload (pc := 97) (fr_get fo_164_3 7 rfl) rfl ?_
        refine xv_kv1 (pc := 99) (fr_get fo_164_3 8 rfl) cc_164_262 (as := [.inr (.inr (40, 0)), .inl (xv_al (J1 40 0 4))]) (rs := []) rfl rfl rfl rfl rfl ?_
        refine h.mono (fun r J4 p5 h => ?_)
        obtain ⟨x6, hr, h⟩ := h
        refine ⟨x6, hr, ?_⟩
        refine ex_istore (pc := 102) (fr_get fo_164_3 9 rfl) rfl (L' := [some (.inr (.inr (40, 0))), some (.inl a1), some (.inl a2), some (.inl x3), some (.inl (xv_al (J1 40 0 4))), some (.inl x6), none, none]) rfl ?_
        refine ex_aload_n (pc := 104) (fr_get fo_164_3 10 rfl) rfl rfl ?_
        refine xv_kv1 (pc := 105) (fr_get fo_164_3 11 rfl) cc_164_251 (as := [.inr (.inr (40, 0))]) (rs := []) rfl rfl rfl rfl rfl ?_
        refine sm_159 rfl ?_
        refine ⟨_, rfl, ?_⟩
        refine ex_iconst (pc := 108) (fr_get fo_164_3 12 rfl) ic_1 ?_
        refine ex_isub (pc := 109) (fr_get fo_164_3 13 rfl) ?_
        refine ex_istore (pc := 110) (fr_get fo_164_3 14 rfl) rfl (L' := [some (.inr (.inr (40, 0))), some (.inl a1), some (.inl a2), some (.inl x3), some (.inl (xv_al (J1 40 0 4))), some (.inl x6), some (.inl ((xv_al (J4 40 0 4)) - (1 : Int32))), none]) rfl ?_
        exact h
      · replace h := h.2 c
        refine ex_iconst (pc := 33) (fr_get fo_164_1 2 rfl) ic_0 ?_
        refine ex_istore (pc := 34) (fr_get fo_164_1 3 rfl) rfl (L' := [some (.inr (.inr (40, 0))), some (.inl a1), some (.inl a2), some (.inl x3), some (.inl (0 : Int32)), none, none, none]) rfl ?_
        refine ex_iconst (pc := 36) (fr_get fo_164_1 4 rfl) ic_0 ?_
        refine ex_istore (pc := 37) (fr_get fo_164_1 5 rfl) rfl (L' := [some (.inr (.inr (40, 0))), some (.inl a1), some (.inl a2), some (.inl x3), some (.inl (0 : Int32)), some (.inl (0 : Int32)), none, none]) rfl ?_
        exact h
    · replace h := h.2 c
      refine ex_bipush (pc := 16) (fr_get fo_164_0 8 rfl) bp_m2 ?_
      exact ex_ireturn (pc := 18) (fr_get fo_164_0 9 rfl) rt_164 rfl rfl (ma_end_mk h)

theorem b_164_39 {d : Nat} {I : ma_I} {o : Nat} {Q : ma_Q} {v1 : Int32} {v2 : Int32} {v3 : Int32} {v4 : Int32} {v5 : Int32}
  (h :
    (I 40 0 4 ≤ v5 →
      Q (some (.inl v4)) I o) ∧
    (v5 < I 40 0 4 →
      Exm (d + 1) 161 [.inr (.inr (40, 0)), .inl v1, .inl ((xv_al (I 40 0 4)) &&& (((1 : Int32) <<< (v5 &&& 31)) ^^^ (-1 : Int32)))] I o (fun r J1 p2 => ∃ x3 : Int32, r = some (.inl x3) ∧
        (x3 < v3 →
          Ex (d + 2) 164 (39, [some (.inr (.inr (40, 0))), some (.inl v1), some (.inl v2), some (.inl v3), some (.inl (v4 ||| (0 : Int32))), some (.inl (v5 + (1 : Int32))), none, none], [], ma_mem J1 p2, 0, 0) (ma_end Q)) ∧
        (v3 ≤ x3 →
          Ex (d + 2) 164 (39, [some (.inr (.inr (40, 0))), some (.inl v1), some (.inl v2), some (.inl v3), some (.inl (v4 ||| ((1 : Int32) <<< (v5 &&& 31)))), some (.inl (v5 + (1 : Int32))), none, none], [], ma_mem J1 p2, 0, 0) (ma_end Q))))) :
  Ex (d + 2) 164 (39, [some (.inr (.inr (40, 0))), some (.inl v1), some (.inl v2), some (.inl v3), some (.inl v4), some (.inl v5), none, none], [], ma_mem I o, 0, 0) (ma_end Q) := by
  refine ex_iload (pc := 39) (fr_get fo_164_1 6 rfl) rfl ?_
  refine ex_aload_n (pc := 41) (fr_get fo_164_1 7 rfl) rfl rfl ?_
  refine xv_gi (pc := 42) (fr_get fo_164_1 8 rfl) ow_164 fg_9_7_40 rfl ?_
  refine xv_cge (pc := 45) (fr_get fo_164_1 9 rfl) (t := 87) rfl (fun c => ?_) (fun c => ?_)
  · replace h := h.1 c
    refine ex_iload (pc := 87) (fr_get fo_164_3 1 rfl) rfl ?_
    exact ex_ireturn (pc := 89) (fr_get fo_164_3 2 rfl) rt_164 rfl rfl (ma_end_mk h)
  · replace h := h.2 c
    refine ex_iload (pc := 48) (fr_get fo_164_1 10 rfl) rfl ?_
    refine ex_aload_n (pc := 50) (fr_get fo_164_1 11 rfl) rfl rfl ?_
    refine ex_iload_n (pc := 51) (fr_get fo_164_1 12 rfl) rfl ?_
    refine ex_aload_n (pc := 52) (fr_get fo_164_1 13 rfl) rfl rfl ?_
    refine xv_kv1 (pc := 53) (fr_get fo_164_1 14 rfl) cc_164_251 (as := [.inr (.inr (40, 0))]) (rs := [.inl v1, .inr (.inr (40, 0)), .inl v4]) rfl rfl rfl rfl rfl ?_
    refine sm_159 rfl ?_
    refine ⟨_, rfl, ?_⟩
    refine ex_iconst (pc := 56) (fr_get fo_164_1 15 rfl) ic_1 ?_
    refine ex_iload (pc := 57) (fr_get fo_164_2 0 rfl) rfl ?_
    refine ex_ishl (pc := 59) (fr_get fo_164_2 1 rfl) ?_
    refine ex_iconst (pc := 60) (fr_get fo_164_2 2 rfl) ic_m1 ?_
    refine ex_ixor (pc := 61) (fr_get fo_164_2 3 rfl) ?_
    refine ex_iand (pc := 62) (fr_get fo_164_2 4 rfl) ?_
    refine xv_kv1 (pc := 63) (fr_get fo_164_2 5 rfl) cc_164_259 (as := [.inr (.inr (40, 0)), .inl v1, .inl ((xv_al (I 40 0 4)) &&& (((1 : Int32) <<< (v5 &&& 31)) ^^^ (-1 : Int32)))]) (rs := [.inl v4]) rfl rfl rfl rfl rfl ?_
    refine h.mono (fun r J1 p2 h => ?_)
    obtain ⟨x3, hr, h⟩ := h
    refine ⟨x3, hr, ?_⟩
    refine ex_iload_n (pc := 66) (fr_get fo_164_2 6 rfl) rfl ?_
    refine xv_clt (pc := 67) (fr_get fo_164_2 7 rfl) (t := 77) rfl (fun c => ?_) (fun c => ?_)
    · replace h := h.1 c
      refine ex_iconst (pc := 77) (fr_get fo_164_2 12 rfl) ic_0 ?_
      refine ex_ior (pc := 78) (fr_get fo_164_2 13 rfl) ?_
      refine ex_istore (pc := 79) (fr_get fo_164_2 14 rfl) rfl (L' := [some (.inr (.inr (40, 0))), some (.inl v1), some (.inl v2), some (.inl v3), some (.inl (v4 ||| (0 : Int32))), some (.inl v5), none, none]) rfl ?_
      refine xv_iinc (pc := 81) (fr_get fo_164_2 15 rfl) rfl ic_1 (L' := [some (.inr (.inr (40, 0))), some (.inl v1), some (.inl v2), some (.inl v3), some (.inl (v4 ||| (0 : Int32))), some (.inl (v5 + (1 : Int32))), none, none]) rfl ?_
      refine ex_goto (pc := 84) (fr_get fo_164_3 0 rfl) (t := 39) rfl ?_
      exact h
    · replace h := h.2 c
      refine ex_iconst (pc := 70) (fr_get fo_164_2 8 rfl) ic_1 ?_
      refine ex_iload (pc := 71) (fr_get fo_164_2 9 rfl) rfl ?_
      refine ex_ishl (pc := 73) (fr_get fo_164_2 10 rfl) ?_
      refine ex_goto (pc := 74) (fr_get fo_164_2 11 rfl) (t := 78) rfl ?_
      refine ex_ior (pc := 78) (fr_get fo_164_2 13 rfl) ?_
      refine ex_istore (pc := 79) (fr_get fo_164_2 14 rfl) rfl (L' := [some (.inr (.inr (40, 0))), some (.inl v1), some (.inl v2), some (.inl v3), some (.inl (v4 ||| ((1 : Int32) <<< (v5 &&& 31)))), some (.inl v5), none, none]) rfl ?_
      refine xv_iinc (pc := 81) (fr_get fo_164_2 15 rfl) rfl ic_1 (L' := [some (.inr (.inr (40, 0))), some (.inl v1), some (.inl v2), some (.inl v3), some (.inl (v4 ||| ((1 : Int32) <<< (v5 &&& 31)))), some (.inl (v5 + (1 : Int32))), none, none]) rfl ?_
      refine ex_goto (pc := 84) (fr_get fo_164_3 0 rfl) (t := 39) rfl ?_
      exact h

theorem b_164_112 {d : Nat} {I : ma_I} {o : Nat} {Q : ma_Q} {v1 : Int32} {v2 : Int32} {v3 : Int32} {v4 : Int32} {v5 : Int32} {v6 : Int32} {w7 : Option ma_V}
  (h :
    (v6 < 0 →
      (v2 ≠ (1 : Int32) →
        Q (some (.inl v5)) I o) ∧
      (v2 = (1 : Int32) →
        Q (some (.inl v4)) I o)) ∧
    (0 ≤ v6 →
      Exm (d + 1) 163 [.inr (.inr (40, 0)), .inl v6] I o (fun r J1 p2 => ∃ x3 : Int32, r = some (.inl x3) ∧
        (v5 < x3 →
          Ex (d + 2) 164 (112, [some (.inr (.inr (40, 0))), some (.inl v1), some (.inl v2), some (.inl v3), some (.inl v4), some (.inl v5), some (.inl (v6 + (-1 : Int32))), some (.inl x3)], [], ma_mem J1 p2, 0, 0) (ma_end Q)) ∧
        (x3 ≤ v5 →
          Exm (d + 1) 161 [.inr (.inr (40, 0)), .inl v1, .inl v6] J1 p2 (fun r J4 p5 => ∃ x6 : Int32, r = some (.inl x6) ∧
            (x6 < v3 →
              Ex (d + 2) 164 (112, [some (.inr (.inr (40, 0))), some (.inl v1), some (.inl v2), some (.inl v3), some (.inl v4), some (.inl v5), some (.inl (v6 + (-1 : Int32))), some (.inl x3)], [], ma_mem J4 p5, 0, 0) (ma_end Q)) ∧
            (v3 ≤ x6 →
              Ex (d + 2) 164 (112, [some (.inr (.inr (40, 0))), some (.inl v1), some (.inl v2), some (.inl v3), some (.inl v6), some (.inl x3), some (.inl (v6 + (-1 : Int32))), some (.inl x3)], [], ma_mem J4 p5, 0, 0) (ma_end Q))))))) :
  Ex (d + 2) 164 (112, [some (.inr (.inr (40, 0))), some (.inl v1), some (.inl v2), some (.inl v3), some (.inl v4), some (.inl v5), some (.inl v6), w7], [], ma_mem I o, 0, 0) (ma_end Q) := by
  refine ex_iload (pc := 112) (fr_get fo_164_3 15 rfl) rfl ?_
  refine xv_blt (pc := 114) (fr_get fo_164_4 0 rfl) (t := 157) rfl (fun c => ?_) (fun c => ?_)
  · replace h := h.1 c
    refine ex_iload_n (pc := 157) (fr_get fo_164_5 4 rfl) rfl ?_
    refine ex_iconst (pc := 158) (fr_get fo_164_5 5 rfl) ic_1 ?_
    refine xv_cne (pc := 159) (fr_get fo_164_5 6 rfl) (t := 167) rfl (fun c => ?_) (fun c => ?_)
    · replace h := h.1 c
      refine ex_iload (pc := 167) (fr_get fo_164_5 9 rfl) rfl ?_
      exact ex_ireturn (pc := 169) (fr_get fo_164_5 10 rfl) rt_164 rfl rfl (ma_end_mk h)
    · replace h := h.2 c
      refine ex_iload (pc := 162) (fr_get fo_164_5 7 rfl) rfl ?_
      refine ex_goto (pc := 164) (fr_get fo_164_5 8 rfl) (t := 169) rfl ?_
      exact ex_ireturn (pc := 169) (fr_get fo_164_5 10 rfl) rt_164 rfl rfl (ma_end_mk h)
  · replace h := h.2 c
    refine ex_aload_n (pc := 117) (fr_get fo_164_4 1 rfl) rfl rfl ?_
    refine ex_iload (pc := 118) (fr_get fo_164_4 2 rfl) rfl ?_
    refine xv_kv1 (pc := 120) (fr_get fo_164_4 3 rfl) cc_164_262 (as := [.inr (.inr (40, 0)), .inl v6]) (rs := []) rfl rfl rfl rfl rfl ?_
    refine h.mono (fun r J1 p2 h => ?_)
    obtain ⟨x3, hr, h⟩ := h
    refine ⟨x3, hr, ?_⟩
    refine ex_istore (pc := 123) (fr_get fo_164_4 4 rfl) rfl (L' := [some (.inr (.inr (40, 0))), some (.inl v1), some (.inl v2), some (.inl v3), some (.inl v4), some (.inl v5), some (.inl v6), some (.inl x3)]) rfl ?_
    refine ex_iload (pc := 125) (fr_get fo_164_4 5 rfl) rfl ?_
    refine ex_iload (pc := 127) (fr_get fo_164_4 6 rfl) rfl ?_
    refine xv_cgt (pc := 129) (fr_get fo_164_4 7 rfl) (t := 151) rfl (fun c => ?_) (fun c => ?_)
    · replace h := h.1 c
      refine xv_iinc (pc := 151) (fr_get fo_164_5 2 rfl) rfl ic_m1 (L' := [some (.inr (.inr (40, 0))), some (.inl v1), some (.inl v2), some (.inl v3), some (.inl v4), some (.inl v5), some (.inl (v6 + (-1 : Int32))), some (.inl x3)]) rfl ?_
      refine ex_goto (pc := 154) (fr_get fo_164_5 3 rfl) (t := 112) rfl ?_
      exact h
    · replace h := h.2 c
      refine ex_aload_n (pc := 132) (fr_get fo_164_4 8 rfl) rfl rfl ?_
      refine ex_iload_n (pc := 133) (fr_get fo_164_4 9 rfl) rfl ?_
      refine ex_iload (pc := 134) (fr_get fo_164_4 10 rfl) rfl ?_
      refine xv_kv1 (pc := 136) (fr_get fo_164_4 11 rfl) cc_164_259 (as := [.inr (.inr (40, 0)), .inl v1, .inl v6]) (rs := []) rfl rfl rfl rfl rfl ?_
      refine h.mono (fun r J4 p5 h => ?_)
      obtain ⟨x6, hr, h⟩ := h
      refine ⟨x6, hr, ?_⟩
      refine ex_iload_n (pc := 139) (fr_get fo_164_4 12 rfl) rfl ?_
      refine xv_clt (pc := 140) (fr_get fo_164_4 13 rfl) (t := 151) rfl (fun c => ?_) (fun c => ?_)
      · replace h := h.1 c
        refine xv_iinc (pc := 151) (fr_get fo_164_5 2 rfl) rfl ic_m1 (L' := [some (.inr (.inr (40, 0))), some (.inl v1), some (.inl v2), some (.inl v3), some (.inl v4), some (.inl v5), some (.inl (v6 + (-1 : Int32))), some (.inl x3)]) rfl ?_
        refine ex_goto (pc := 154) (fr_get fo_164_5 3 rfl) (t := 112) rfl ?_
        exact h
      · replace h := h.2 c
        refine ex_iload (pc := 143) (fr_get fo_164_4 14 rfl) rfl ?_
        refine ex_istore (pc := 145) (fr_get fo_164_4 15 rfl) rfl (L' := [some (.inr (.inr (40, 0))), some (.inl v1), some (.inl v2), some (.inl v3), some (.inl v6), some (.inl v5), some (.inl v6), some (.inl x3)]) rfl ?_
        refine ex_iload (pc := 147) (fr_get fo_164_5 0 rfl) rfl ?_
        refine ex_istore (pc := 149) (fr_get fo_164_5 1 rfl) rfl (L' := [some (.inr (.inr (40, 0))), some (.inl v1), some (.inl v2), some (.inl v3), some (.inl v6), some (.inl x3), some (.inl v6), some (.inl x3)]) rfl ?_
        refine xv_iinc (pc := 151) (fr_get fo_164_5 2 rfl) rfl ic_m1 (L' := [some (.inr (.inr (40, 0))), some (.inl v1), some (.inl v2), some (.inl v3), some (.inl v6), some (.inl x3), some (.inl (v6 + (-1 : Int32))), some (.inl x3)]) rfl ?_
        refine ex_goto (pc := 154) (fr_get fo_164_5 3 rfl) (t := 112) rfl ?_
        exact h

theorem e_165 {d : Nat} {I : ma_I} {o : Nat} {Q : ma_Q} {a1 : Int32} {a2 : Int32} {a3 : Int32}
  (h :
    (¬((0 : Int32) ≤ a1 ∧ a1 ≤ (7 : Int32)) →
      Q (some (.inl (-2 : Int32))) I o) ∧
    ((0 : Int32) ≤ a1 ∧ a1 ≤ (7 : Int32) →
      (¬((0 : Int32) ≤ a2 ∧ a2 ≤ (99 : Int32)) →
        Q (some (.inl (-2 : Int32))) I o) ∧
      ((0 : Int32) ≤ a2 ∧ a2 ≤ (99 : Int32) →
        ((0 : Int32) ≤ a3 ∧ a3 ≤ (1 : Int32) →
          (I 40 0 4 ≠ (8 : Int32) →
            Exm (d + 1) 161 [.inr (.inr (40, 0)), .inl a1, .inl (xv_al (I 40 0 4))] I o (fun r J1 p2 => ∃ x3 : Int32, r = some (.inl x3) ∧
              Ex (d + 2) 165 (55, [some (.inr (.inr (40, 0))), some (.inl a1), some (.inl a2), some (.inl a3), some (.inl (-1 : Int32)), some (.inl x3), some (.inl (0 : Int32)), none], [], ma_mem J1 p2, 0, 0) (ma_end Q))) ∧
          (I 40 0 4 = (8 : Int32) →
            Q (some (.inl (-4 : Int32))) I o)) ∧
        (¬((0 : Int32) ≤ a3 ∧ a3 ≤ (1 : Int32)) →
          Q (some (.inl (-2 : Int32))) I o)))) :
  Exm (d + 2) 165 [.inr (.inr (40, 0)), .inl a1, .inl a2, .inl a3] I o Q := by
  show Ex (d + 2) 165 (0, [some (.inr (.inr (40, 0))), some (.inl a1), some (.inl a2), some (.inl a3), none, none, none, none], [], ma_mem I o, 0, 0) (ma_end Q)
  refine ex_iload_n (pc := 0) (fr_get fo_165_0 0 rfl) rfl ?_
  refine xv_ks1 (pc := 1) (fr_get fo_165_0 1 rfl) cc_165_15 (as := [.inl a1]) (rs := []) rfl rfl rfl rfl ?_
  refine sm_121 ?_
  refine ⟨_, rfl, ?_⟩
  refine xv_peq (pc := 4) (fr_get fo_165_0 2 rfl) (t := 23) rfl (fun c => ?_) (fun c => ?_)
  · replace h := h.1 c
    refine ex_bipush (pc := 23) (fr_get fo_165_0 11 rfl) bp_m2 ?_
    exact ex_ireturn (pc := 25) (fr_get fo_165_0 12 rfl) rt_165 rfl rfl (ma_end_mk h)
  · replace h := h.2 c
    refine ex_iload_n (pc := 7) (fr_get fo_165_0 3 rfl) rfl ?_
    refine xv_ks1 (pc := 8) (fr_get fo_165_0 4 rfl) cc_165_11 (as := [.inl a2]) (rs := []) rfl rfl rfl rfl ?_
    refine sm_122 ?_
    refine ⟨_, rfl, ?_⟩
    refine xv_peq (pc := 11) (fr_get fo_165_0 5 rfl) (t := 23) rfl (fun c => ?_) (fun c => ?_)
    · replace h := h.1 c
      refine ex_bipush (pc := 23) (fr_get fo_165_0 11 rfl) bp_m2 ?_
      exact ex_ireturn (pc := 25) (fr_get fo_165_0 12 rfl) rt_165 rfl rfl (ma_end_mk h)
    · replace h := h.2 c
      refine ex_iload_n (pc := 14) (fr_get fo_165_0 6 rfl) rfl ?_
      refine ex_iconst (pc := 15) (fr_get fo_165_0 7 rfl) ic_0 ?_
      refine ex_iconst (pc := 16) (fr_get fo_165_0 8 rfl) ic_1 ?_
      refine xv_ks1 (pc := 17) (fr_get fo_165_0 9 rfl) cc_165_3 (as := [.inl a3, .inl (0 : Int32), .inl (1 : Int32)]) (rs := []) rfl rfl rfl rfl ?_
      refine sm_118 ?_
      refine ⟨_, rfl, ?_⟩
      refine xv_pne (pc := 20) (fr_get fo_165_0 10 rfl) (t := 26) rfl (fun c => ?_) (fun c => ?_)
      · replace h := h.1 c
        refine ex_aload_n (pc := 26) (fr_get fo_165_0 13 rfl) rfl rfl ?_
        refine xv_gi (pc := 27) (fr_get fo_165_0 14 rfl) ow_165 fg_9_7_40 rfl ?_
        refine ex_bipush (pc := 30) (fr_get fo_165_0 15 rfl) bp_8 ?_
        refine xv_cne (pc := 32) (fr_get fo_165_1 0 rfl) (t := 38) rfl (fun c => ?_) (fun c => ?_)
        · replace h := h.1 c
          refine ex_iconst (pc := 38) (fr_get fo_165_1 3 rfl) ic_m1 ?_
          refine ex_istore (pc := 39) (fr_get fo_165_1 4 rfl) rfl (L' := [some (.inr (.inr (40, 0))), some (.inl a1), some (.inl a2), some (.inl a3), some (.inl (-1 : Int32)), none, none, none]) rfl ?_
          refine ex_aload_n (pc := 41) (fr_get fo_165_1 5 rfl) rfl rfl ?_
          refine ex_iload_n (pc := 42) (fr_get fo_165_1 6 rfl) rfl ?_
          refine ex_aload_n (pc := 43) (fr_get fo_165_1 7 rfl) rfl rfl ?_
          refine xv_kv1 (pc := 44) (fr_get fo_165_1 8 rfl) cc_165_251 (as := [.inr (.inr (40, 0))]) (rs := [.inl a1, .inr (.inr (40, 0))]) rfl rfl rfl rfl rfl ?_
          refine sm_159 rfl ?_
          refine ⟨_, rfl, ?_⟩
          refine xv_kv1 (pc := 47) (fr_get fo_165_1 9 rfl) cc_165_259 (as := [.inr (.inr (40, 0)), .inl a1, .inl (xv_al (I 40 0 4))]) (rs := []) rfl rfl rfl rfl rfl ?_
          refine h.mono (fun r J1 p2 h => ?_)
          obtain ⟨x3, hr, h⟩ := h
          refine ⟨x3, hr, ?_⟩
          refine ex_istore (pc := 50) (fr_get fo_165_1 10 rfl) rfl (L' := [some (.inr (.inr (40, 0))), some (.inl a1), some (.inl a2), some (.inl a3), some (.inl (-1 : Int32)), some (.inl x3), none, none]) rfl ?_
          refine ex_iconst (pc := 52) (fr_get fo_165_1 11 rfl) ic_0 ?_
          refine ex_istore (pc := 53) (fr_get fo_165_1 12 rfl) rfl (L' := [some (.inr (.inr (40, 0))), some (.inl a1), some (.inl a2), some (.inl a3), some (.inl (-1 : Int32)), some (.inl x3), some (.inl (0 : Int32)), none]) rfl ?_
          exact h
        · replace h := h.2 c
          refine ex_bipush (pc := 35) (fr_get fo_165_1 1 rfl) bp_m4 ?_
          exact ex_ireturn (pc := 37) (fr_get fo_165_1 2 rfl) rt_165 rfl rfl (ma_end_mk h)
      · replace h := h.2 c
        refine ex_bipush (pc := 23) (fr_get fo_165_0 11 rfl) bp_m2 ?_
        exact ex_ireturn (pc := 25) (fr_get fo_165_0 12 rfl) rt_165 rfl rfl (ma_end_mk h)

theorem b_165_55 {d : Nat} {I : ma_I} {o : Nat} {Q : ma_Q} {v1 : Int32} {v2 : Int32} {v3 : Int32} {v4 : Int32} {v5 : Int32} {v6 : Int32} {w7 : Option ma_V}
  (h :
    ((78 : Int32) ≤ v6 →
      (v3 ≠ 0 →
        Q (some (.inl v5)) I o) ∧
      (v3 = 0 →
        Q (some (.inl v4)) I o)) ∧
    (v6 < (78 : Int32) →
      (¬((0 : Int32) ≤ (xv_rm v6 (10 : Int32)) ∧ (xv_rm v6 (10 : Int32)) ≤ (7 : Int32)) →
        Ex (d + 2) 165 (55, [some (.inr (.inr (40, 0))), some (.inl v1), some (.inl v2), some (.inl v3), some (.inl v4), some (.inl v5), some (.inl (v6 + (1 : Int32))), w7], [], ma_mem I o, 0, 0) (ma_end Q)) ∧
      ((0 : Int32) ≤ (xv_rm v6 (10 : Int32)) ∧ (xv_rm v6 (10 : Int32)) ≤ (7 : Int32) →
        (v6 / (10 : Int32) = xv_rm v6 (10 : Int32) →
          Ex (d + 2) 165 (55, [some (.inr (.inr (40, 0))), some (.inl v1), some (.inl v2), some (.inl v3), some (.inl v4), some (.inl v5), some (.inl (v6 + (1 : Int32))), w7], [], ma_mem I o, 0, 0) (ma_end Q)) ∧
        (v6 / (10 : Int32) ≠ xv_rm v6 (10 : Int32) →
          Exm (d + 1) 125 [.inr (.inr (40, 0)), .inl (I 40 0 4), .inl (0 : Int32), .inl v6, .inl ((((100 : Int32) * v2) + (100 : Int32)) - (1 : Int32))] I o (fun r J1 p2 => r = none ∧
            Exm (d + 1) 161 [.inr (.inr (40, 0)), .inl v1, .inl (xv_al ((J1 40 0 4) + (1 : Int32)))] (ma_up J1 40 0 4 ((J1 40 0 4) + (1 : Int32))) p2 (fun r J3 p4 => ∃ x5 : Int32, r = some (.inl x5) ∧
              (x5 ≤ v5 →
                Ex (d + 2) 165 (55, [some (.inr (.inr (40, 0))), some (.inl v1), some (.inl v2), some (.inl v3), some (.inl v4), some (.inl (xv_hi v5 x5)), some (.inl (v6 + (1 : Int32))), some (.inl x5)], [], ma_mem (ma_up J3 40 0 4 ((J3 40 0 4) - (1 : Int32))) p4, 0, 0) (ma_end Q)) ∧
              (v5 < x5 →
                Ex (d + 2) 165 (55, [some (.inr (.inr (40, 0))), some (.inl v1), some (.inl v2), some (.inl v3), some (.inl v6), some (.inl (xv_hi v5 x5)), some (.inl (v6 + (1 : Int32))), some (.inl x5)], [], ma_mem (ma_up J3 40 0 4 ((J3 40 0 4) - (1 : Int32))) p4, 0, 0) (ma_end Q)))))))) :
  Ex (d + 2) 165 (55, [some (.inr (.inr (40, 0))), some (.inl v1), some (.inl v2), some (.inl v3), some (.inl v4), some (.inl v5), some (.inl v6), w7], [], ma_mem I o, 0, 0) (ma_end Q) := by
  refine ex_iload (pc := 55) (fr_get fo_165_1 13 rfl) rfl ?_
  refine ex_bipush (pc := 57) (fr_get fo_165_1 14 rfl) bp_78 ?_
  refine xv_cge (pc := 59) (fr_get fo_165_1 15 rfl) (t := 168) rfl (fun c => ?_) (fun c => ?_)
  · replace h := h.1 c
    refine ex_iload_n (pc := 168) (fr_get fo_165_5 8 rfl) rfl ?_
    refine xv_bne (pc := 169) (fr_get fo_165_5 9 rfl) (t := 177) rfl (fun c => ?_) (fun c => ?_)
    · replace h := h.1 c
      refine ex_iload (pc := 177) (fr_get fo_165_5 12 rfl) rfl ?_
      exact ex_ireturn (pc := 179) (fr_get fo_165_5 13 rfl) rt_165 rfl rfl (ma_end_mk h)
    · replace h := h.2 c
      refine ex_iload (pc := 172) (fr_get fo_165_5 10 rfl) rfl ?_
      refine ex_goto (pc := 174) (fr_get fo_165_5 11 rfl) (t := 179) rfl ?_
      exact ex_ireturn (pc := 179) (fr_get fo_165_5 13 rfl) rt_165 rfl rfl (ma_end_mk h)
  · replace h := h.2 c
    refine ex_iload (pc := 62) (fr_get fo_165_2 0 rfl) rfl ?_
    refine ex_bipush (pc := 64) (fr_get fo_165_2 1 rfl) bp_10 ?_
    refine xv_irem (pc := 66) (fr_get fo_165_2 2 rfl) (by decide) ?_
    refine xv_ks1 (pc := 67) (fr_get fo_165_2 3 rfl) cc_165_15 (as := [.inl (xv_rm v6 (10 : Int32))]) (rs := []) rfl rfl rfl rfl ?_
    refine sm_121 ?_
    refine ⟨_, rfl, ?_⟩
    refine xv_peq (pc := 70) (fr_get fo_165_2 4 rfl) (t := 162) rfl (fun c => ?_) (fun c => ?_)
    · replace h := h.1 c
      refine xv_iinc (pc := 162) (fr_get fo_165_5 6 rfl) rfl ic_1 (L' := [some (.inr (.inr (40, 0))), some (.inl v1), some (.inl v2), some (.inl v3), some (.inl v4), some (.inl v5), some (.inl (v6 + (1 : Int32))), w7]) rfl ?_
      refine ex_goto (pc := 165) (fr_get fo_165_5 7 rfl) (t := 55) rfl ?_
      exact h
    · replace h := h.2 c
      refine ex_iload (pc := 73) (fr_get fo_165_2 5 rfl) rfl ?_
      refine ex_bipush (pc := 75) (fr_get fo_165_2 6 rfl) bp_10 ?_
      refine xv_idiv (pc := 77) (fr_get fo_165_2 7 rfl) (by decide) ?_
      refine ex_iload (pc := 78) (fr_get fo_165_2 8 rfl) rfl ?_
      refine ex_bipush (pc := 80) (fr_get fo_165_2 9 rfl) bp_10 ?_
      refine xv_irem (pc := 82) (fr_get fo_165_2 10 rfl) (by decide) ?_
      refine xv_ceq (pc := 83) (fr_get fo_165_2 11 rfl) (t := 162) rfl (fun c => ?_) (fun c => ?_)
      · replace h := h.1 c
        refine xv_iinc (pc := 162) (fr_get fo_165_5 6 rfl) rfl ic_1 (L' := [some (.inr (.inr (40, 0))), some (.inl v1), some (.inl v2), some (.inl v3), some (.inl v4), some (.inl v5), some (.inl (v6 + (1 : Int32))), w7]) rfl ?_
        refine ex_goto (pc := 165) (fr_get fo_165_5 7 rfl) (t := 55) rfl ?_
        exact h
      · replace h := h.2 c
        refine ex_aload_n (pc := 86) (fr_get fo_165_2 12 rfl) rfl rfl ?_
        refine ex_aload_n (pc := 87) (fr_get fo_165_2 13 rfl) rfl rfl ?_
        refine xv_gi (pc := 88) (fr_get fo_165_2 14 rfl) ow_165 fg_9_7_40 rfl ?_
        refine ex_iconst (pc := 91) (fr_get fo_165_2 15 rfl) ic_0 ?_
        refine ex_iload (pc := 92) (fr_get fo_165_3 0 rfl) rfl ?_
        refine ex_bipush (pc := 94) (fr_get fo_165_3 1 rfl) bp_100 ?_
        refine ex_iload_n (pc := 96) (fr_get fo_165_3 2 rfl) rfl ?_
        refine ex_imul (pc := 97) (fr_get fo_165_3 3 rfl) ?_
        refine ex_bipush (pc := 98) (fr_get fo_165_3 4 rfl) bp_100 ?_
        refine ex_iadd (pc := 100) (fr_get fo_165_3 5 rfl) ?_
        refine ex_iconst (pc := 101) (fr_get fo_165_3 6 rfl) ic_1 ?_
        refine ex_isub (pc := 102) (fr_get fo_165_3 7 rfl) ?_
        refine xv_kv0 (pc := 103) (fr_get fo_165_3 8 rfl) cc_165_46 (as := [.inr (.inr (40, 0)), .inl (I 40 0 4), .inl (0 : Int32), .inl v6, .inl ((((100 : Int32) * v2) + (100 : Int32)) - (1 : Int32))]) (rs := []) rfl rfl rfl rfl rfl ?_
        refine h.mono (fun r J1 p2 h => ⟨h.1, ?_⟩)
        replace h := h.2
        refine ex_aload_n (pc := 106) (fr_get fo_165_3 9 rfl) rfl rfl ?_
        refine ex_dupr (pc := 107) (fr_get fo_165_3 10 rfl) ?_
        refine xv_gi (pc := 108) (fr_get fo_165_3 11 rfl) ow_165 fg_9_7_40 rfl ?_
        refine ex_iconst (pc := 111) (fr_get fo_165_3 12 rfl) ic_1 ?_
        refine ex_iadd (pc := 112) (fr_get fo_165_3 13 rfl) ?_
        refine ex_pi (pc := 113) (fr_get fo_165_3 14 rfl) ow_165 fp_9_7_40 ?_
        refine ex_aload_n (pc := 116) (fr_get fo_165_3 15 rfl) rfl rfl ?_
        refine ex_iload_n (pc := 117) (fr_get fo_165_4 0 rfl) rfl ?_
        refine ex_aload_n (pc := 118) (fr_get fo_165_4 1 rfl) rfl rfl ?_
        refine xv_kv1 (pc := 119) (fr_get fo_165_4 2 rfl) cc_165_251 (as := [.inr (.inr (40, 0))]) (rs := [.inl v1, .inr (.inr (40, 0))]) rfl rfl rfl rfl rfl ?_
        refine sm_159 xv_us ?_
        refine ⟨_, rfl, ?_⟩
        refine xv_kv1 (pc := 122) (fr_get fo_165_4 3 rfl) cc_165_259 (as := [.inr (.inr (40, 0)), .inl v1, .inl (xv_al ((J1 40 0 4) + (1 : Int32)))]) (rs := []) rfl rfl rfl rfl rfl ?_
        refine h.mono (fun r J3 p4 h => ?_)
        obtain ⟨x5, hr, h⟩ := h
        refine ⟨x5, hr, ?_⟩
        refine ex_istore (pc := 125) (fr_get fo_165_4 4 rfl) rfl (L' := [some (.inr (.inr (40, 0))), some (.inl v1), some (.inl v2), some (.inl v3), some (.inl v4), some (.inl v5), some (.inl v6), some (.inl x5)]) rfl ?_
        refine ex_aload_n (pc := 127) (fr_get fo_165_4 5 rfl) rfl rfl ?_
        refine ex_dupr (pc := 128) (fr_get fo_165_4 6 rfl) ?_
        refine xv_gi (pc := 129) (fr_get fo_165_4 7 rfl) ow_165 fg_9_7_40 rfl ?_
        refine ex_iconst (pc := 132) (fr_get fo_165_4 8 rfl) ic_1 ?_
        refine ex_isub (pc := 133) (fr_get fo_165_4 9 rfl) ?_
        refine ex_pi (pc := 134) (fr_get fo_165_4 10 rfl) ow_165 fp_9_7_40 ?_
        refine ex_iload (pc := 137) (fr_get fo_165_4 11 rfl) rfl ?_
        refine ex_iload (pc := 139) (fr_get fo_165_4 12 rfl) rfl ?_
        refine xv_cle (pc := 141) (fr_get fo_165_4 13 rfl) (t := 149) rfl (fun c => ?_) (fun c => ?_)
        · replace h := h.1 c
          refine ex_iload (pc := 149) (fr_get fo_165_5 0 rfl) rfl ?_
          refine ex_istore (pc := 151) (fr_get fo_165_5 1 rfl) rfl (L' := [some (.inr (.inr (40, 0))), some (.inl v1), some (.inl v2), some (.inl v3), some (.inl v4), some (.inl v5), some (.inl v6), some (.inl x5)]) rfl ?_
          refine ex_iload (pc := 153) (fr_get fo_165_5 2 rfl) rfl ?_
          refine ex_iload (pc := 155) (fr_get fo_165_5 3 rfl) rfl ?_
          refine xv_ks1 (pc := 157) (fr_get fo_165_5 4 rfl) cc_165_232 (as := [.inl v5, .inl x5]) (rs := []) rfl rfl rfl rfl ?_
          refine sm_120 ?_
          refine ⟨_, rfl, ?_⟩
          refine ex_istore (pc := 160) (fr_get fo_165_5 5 rfl) rfl (L' := [some (.inr (.inr (40, 0))), some (.inl v1), some (.inl v2), some (.inl v3), some (.inl v4), some (.inl (xv_hi v5 x5)), some (.inl v6), some (.inl x5)]) rfl ?_
          refine xv_iinc (pc := 162) (fr_get fo_165_5 6 rfl) rfl ic_1 (L' := [some (.inr (.inr (40, 0))), some (.inl v1), some (.inl v2), some (.inl v3), some (.inl v4), some (.inl (xv_hi v5 x5)), some (.inl (v6 + (1 : Int32))), some (.inl x5)]) rfl ?_
          refine ex_goto (pc := 165) (fr_get fo_165_5 7 rfl) (t := 55) rfl ?_
          exact h
        · replace h := h.2 c
          refine ex_iload (pc := 144) (fr_get fo_165_4 14 rfl) rfl ?_
          refine ex_goto (pc := 146) (fr_get fo_165_4 15 rfl) (t := 151) rfl ?_
          refine ex_istore (pc := 151) (fr_get fo_165_5 1 rfl) rfl (L' := [some (.inr (.inr (40, 0))), some (.inl v1), some (.inl v2), some (.inl v3), some (.inl v6), some (.inl v5), some (.inl v6), some (.inl x5)]) rfl ?_
          refine ex_iload (pc := 153) (fr_get fo_165_5 2 rfl) rfl ?_
          refine ex_iload (pc := 155) (fr_get fo_165_5 3 rfl) rfl ?_
          refine xv_ks1 (pc := 157) (fr_get fo_165_5 4 rfl) cc_165_232 (as := [.inl v5, .inl x5]) (rs := []) rfl rfl rfl rfl ?_
          refine sm_120 ?_
          refine ⟨_, rfl, ?_⟩
          refine ex_istore (pc := 160) (fr_get fo_165_5 5 rfl) rfl (L' := [some (.inr (.inr (40, 0))), some (.inl v1), some (.inl v2), some (.inl v3), some (.inl v6), some (.inl (xv_hi v5 x5)), some (.inl v6), some (.inl x5)]) rfl ?_
          refine xv_iinc (pc := 162) (fr_get fo_165_5 6 rfl) rfl ic_1 (L' := [some (.inr (.inr (40, 0))), some (.inl v1), some (.inl v2), some (.inl v3), some (.inl v6), some (.inl (xv_hi v5 x5)), some (.inl (v6 + (1 : Int32))), some (.inl x5)]) rfl ?_
          refine ex_goto (pc := 165) (fr_get fo_165_5 7 rfl) (t := 55) rfl ?_
          exact h

theorem e_166 {d : Nat} {I : ma_I} {o : Nat} {Q : ma_Q} {a1 : Int32}
  (h :
    ((0 : Int32) ≤ a1 ∧ a1 ≤ (7 : Int32) →
      Exm (d + 1) 161 [.inr (.inr (40, 0)), .inl a1, .inl (xv_al (I 40 0 4))] (ma_up I 40 0 0 (20 : Int32)) o (fun r J1 p2 => ∃ x3 : Int32, r = some (.inl x3) ∧
        Ex (d + 2) 166 (36, [some (.inr (.inr (40, 0))), some (.inl a1), some (.inl (I 40 0 0)), some (.inl x3), none], [], ma_mem (ma_up J1 40 0 0 (1 : Int32)) p2, 0, 0) (ma_end Q))) ∧
    (¬((0 : Int32) ≤ a1 ∧ a1 ≤ (7 : Int32)) →
      Q (some (.inl (-2 : Int32))) I o)) :
  Exm (d + 2) 166 [.inr (.inr (40, 0)), .inl a1] I o Q := by
  show Ex (d + 2) 166 (0, [some (.inr (.inr (40, 0))), some (.inl a1), none, none, none], [], ma_mem I o, 0, 0) (ma_end Q)
  refine ex_iload_n (pc := 0) (fr_get fo_166_0 0 rfl) rfl ?_
  refine xv_ks1 (pc := 1) (fr_get fo_166_0 1 rfl) cc_166_15 (as := [.inl a1]) (rs := []) rfl rfl rfl rfl ?_
  refine sm_121 ?_
  refine ⟨_, rfl, ?_⟩
  refine xv_pne (pc := 4) (fr_get fo_166_0 2 rfl) (t := 10) rfl (fun c => ?_) (fun c => ?_)
  · replace h := h.1 c
    refine ex_aload_n (pc := 10) (fr_get fo_166_0 5 rfl) rfl rfl ?_
    refine xv_gi (pc := 11) (fr_get fo_166_0 6 rfl) ow_166 fg_9_50_40 rfl ?_
    refine ex_istore_n (pc := 14) (fr_get fo_166_0 7 rfl) rfl (L' := [some (.inr (.inr (40, 0))), some (.inl a1), some (.inl (I 40 0 0)), none, none]) rfl ?_
    refine ex_aload_n (pc := 15) (fr_get fo_166_0 8 rfl) rfl rfl ?_
    refine ex_bipush (pc := 16) (fr_get fo_166_0 9 rfl) bp_20 ?_
    refine ex_pi (pc := 18) (fr_get fo_166_0 10 rfl) ow_166 fp_9_50_40 ?_
    refine ex_aload_n (pc := 21) (fr_get fo_166_0 11 rfl) rfl rfl ?_
    refine ex_iload_n (pc := 22) (fr_get fo_166_0 12 rfl) rfl ?_
    refine ex_aload_n (pc := 23) (fr_get fo_166_0 13 rfl) rfl rfl ?_
    refine xv_kv1 (pc := 24) (fr_get fo_166_0 14 rfl) cc_166_251 (as := [.inr (.inr (40, 0))]) (rs := [.inl a1, .inr (.inr (40, 0))]) rfl rfl rfl rfl rfl ?_
    refine sm_159 (xv_uj rfl) ?_
    refine ⟨_, rfl, ?_⟩
    refine xv_kv1 (pc := 27) (fr_get fo_166_0 15 rfl) cc_166_259 (as := [.inr (.inr (40, 0)), .inl a1, .inl (xv_al (I 40 0 4))]) (rs := []) rfl rfl rfl rfl rfl ?_
    refine h.mono (fun r J1 p2 h => ?_)
    obtain ⟨x3, hr, h⟩ := h
    refine ⟨x3, hr, ?_⟩
    refine ex_istore_n (pc := 30) (fr_get fo_166_1 0 rfl) rfl (L' := [some (.inr (.inr (40, 0))), some (.inl a1), some (.inl (I 40 0 0)), some (.inl x3), none]) rfl ?_
    refine ex_aload_n (pc := 31) (fr_get fo_166_1 1 rfl) rfl rfl ?_
    refine ex_iconst (pc := 32) (fr_get fo_166_1 2 rfl) ic_1 ?_
    refine ex_pi (pc := 33) (fr_get fo_166_1 3 rfl) ow_166 fp_9_50_40 ?_
    exact h
  · replace h := h.2 c
    refine ex_bipush (pc := 7) (fr_get fo_166_0 3 rfl) bp_m2 ?_
    exact ex_ireturn (pc := 9) (fr_get fo_166_0 4 rfl) rt_166 rfl rfl (ma_end_mk h)

theorem b_166_36 {d : Nat} {I : ma_I} {o : Nat} {Q : ma_Q} {v1 : Int32} {v2 : Int32} {v3 : Int32}
  (h :
    Exm (d + 1) 161 [.inr (.inr (40, 0)), .inl v1, .inl (xv_al (I 40 0 4))] I o (fun r J1 p2 => ∃ x3 : Int32, r = some (.inl x3) ∧
      (x3 = v3 →
        Q (some (.inl (J1 40 0 0))) (ma_up J1 40 0 0 v2) p2) ∧
      (x3 ≠ v3 →
        Ex (d + 2) 166 (36, [some (.inr (.inr (40, 0))), some (.inl v1), some (.inl v2), some (.inl v3), none], [], ma_mem (ma_up J1 40 0 0 ((J1 40 0 0) + (1 : Int32))) p2, 0, 0) (ma_end Q)))) :
  Ex (d + 2) 166 (36, [some (.inr (.inr (40, 0))), some (.inl v1), some (.inl v2), some (.inl v3), none], [], ma_mem I o, 0, 0) (ma_end Q) := by
  refine ex_aload_n (pc := 36) (fr_get fo_166_1 4 rfl) rfl rfl ?_
  refine ex_iload_n (pc := 37) (fr_get fo_166_1 5 rfl) rfl ?_
  refine ex_aload_n (pc := 38) (fr_get fo_166_1 6 rfl) rfl rfl ?_
  refine xv_kv1 (pc := 39) (fr_get fo_166_1 7 rfl) cc_166_251 (as := [.inr (.inr (40, 0))]) (rs := [.inl v1, .inr (.inr (40, 0))]) rfl rfl rfl rfl rfl ?_
  refine sm_159 rfl ?_
  refine ⟨_, rfl, ?_⟩
  refine xv_kv1 (pc := 42) (fr_get fo_166_1 8 rfl) cc_166_259 (as := [.inr (.inr (40, 0)), .inl v1, .inl (xv_al (I 40 0 4))]) (rs := []) rfl rfl rfl rfl rfl ?_
  refine h.mono (fun r J1 p2 h => ?_)
  obtain ⟨x3, hr, h⟩ := h
  refine ⟨x3, hr, ?_⟩
  refine ex_iload_n (pc := 45) (fr_get fo_166_1 9 rfl) rfl ?_
  refine xv_ceq (pc := 46) (fr_get fo_166_1 10 rfl) (t := 62) rfl (fun c => ?_) (fun c => ?_)
  · replace h := h.1 c
    refine ex_aload_n (pc := 62) (fr_get fo_166_2 2 rfl) rfl rfl ?_
    refine xv_gi (pc := 63) (fr_get fo_166_2 3 rfl) ow_166 fg_9_50_40 rfl ?_
    refine ex_istore (pc := 66) (fr_get fo_166_2 4 rfl) rfl (L' := [some (.inr (.inr (40, 0))), some (.inl v1), some (.inl v2), some (.inl v3), some (.inl (J1 40 0 0))]) rfl ?_
    refine ex_aload_n (pc := 68) (fr_get fo_166_2 5 rfl) rfl rfl ?_
    refine ex_iload_n (pc := 69) (fr_get fo_166_2 6 rfl) rfl ?_
    refine ex_pi (pc := 70) (fr_get fo_166_2 7 rfl) ow_166 fp_9_50_40 ?_
    refine ex_iload (pc := 73) (fr_get fo_166_2 8 rfl) rfl ?_
    exact ex_ireturn (pc := 75) (fr_get fo_166_2 9 rfl) rt_166 rfl rfl (ma_end_mk h)
  · replace h := h.2 c
    refine ex_aload_n (pc := 49) (fr_get fo_166_1 11 rfl) rfl rfl ?_
    refine ex_dupr (pc := 50) (fr_get fo_166_1 12 rfl) ?_
    refine xv_gi (pc := 51) (fr_get fo_166_1 13 rfl) ow_166 fg_9_50_40 rfl ?_
    refine ex_iconst (pc := 54) (fr_get fo_166_1 14 rfl) ic_1 ?_
    refine ex_iadd (pc := 55) (fr_get fo_166_1 15 rfl) ?_
    refine ex_pi (pc := 56) (fr_get fo_166_2 0 rfl) ow_166 fp_9_50_40 ?_
    refine ex_goto (pc := 59) (fr_get fo_166_2 1 rfl) (t := 36) rfl ?_
    exact h

theorem e_167 {d : Nat} {I : ma_I} {o : Nat} {Q : ma_Q} {a1 : Int32}
  (h :
    Ex (d + 1) 167 (17, [some (.inr (.inr (40, 0))), some (.inl a1), some (.inl (0 : Int32)), none, none], [], ma_mem (ma_up (ma_up (ma_up I 40 0 39 (0 : Int32)) 40 0 40 (-1 : Int32)) 40 0 41 (0 : Int32)) o, 0, 0) (ma_end Q)) :
  Exm (d + 1) 167 [.inr (.inr (40, 0)), .inl a1] I o Q := by
  show Ex (d + 1) 167 (0, [some (.inr (.inr (40, 0))), some (.inl a1), none, none, none], [], ma_mem I o, 0, 0) (ma_end Q)
  refine ex_aload_n (pc := 0) (fr_get fo_167_0 0 rfl) rfl rfl ?_
  refine ex_iconst (pc := 1) (fr_get fo_167_0 1 rfl) ic_0 ?_
  refine ex_pi (pc := 2) (fr_get fo_167_0 2 rfl) ow_167 fp_9_265_40 ?_
  refine ex_aload_n (pc := 5) (fr_get fo_167_0 3 rfl) rfl rfl ?_
  refine ex_iconst (pc := 6) (fr_get fo_167_0 4 rfl) ic_m1 ?_
  refine ex_pi (pc := 7) (fr_get fo_167_0 5 rfl) ow_167 fp_9_268_40 ?_
  refine ex_aload_n (pc := 10) (fr_get fo_167_0 6 rfl) rfl rfl ?_
  refine ex_iconst (pc := 11) (fr_get fo_167_0 7 rfl) ic_0 ?_
  refine ex_pi (pc := 12) (fr_get fo_167_0 8 rfl) ow_167 fp_9_271_40 ?_
  refine ex_iconst (pc := 15) (fr_get fo_167_0 9 rfl) ic_0 ?_
  refine ex_istore_n (pc := 16) (fr_get fo_167_0 10 rfl) rfl (L' := [some (.inr (.inr (40, 0))), some (.inl a1), some (.inl (0 : Int32)), none, none]) rfl ?_
  exact h

theorem b_167_17 {d : Nat} {I : ma_I} {o : Nat} {Q : ma_Q} {v1 : Int32} {v2 : Int32} {w3 : Option ma_V} {w4 : Option ma_V}
  (h :
    ((100 : Int32) ≤ v2 →
      Q none I o) ∧
    (v2 < (100 : Int32) →
      ma_in ((40 : Int32) * v1) 160 ∧
      Exm (d) 158 [.inr (.inr (40, 0)), .inl (I 63 0 (((40 : Int32) * v1).toNatClampNeg)), .inl v2, .inl (xv_al (I 40 0 4))] I o (fun r J1 p2 => r = none ∧
        ma_in v1 4 ∧
        (J1 40 0 33 ≠ J1 62 0 v1.toNatClampNeg →
          Ex (d + 1) 167 (63, [some (.inr (.inr (40, 0))), some (.inl v1), some (.inl v2), some (.inl (0 : Int32)), some (.inl (0 : Int32))], [], ma_mem J1 p2, 0, 0) (ma_end Q)) ∧
        (J1 40 0 33 = J1 62 0 v1.toNatClampNeg →
          Ex (d + 1) 167 (63, [some (.inr (.inr (40, 0))), some (.inl v1), some (.inl v2), some (.inl (1 : Int32)), some (.inl (0 : Int32))], [], ma_mem J1 p2, 0, 0) (ma_end Q))))) :
  Ex (d + 1) 167 (17, [some (.inr (.inr (40, 0))), some (.inl v1), some (.inl v2), w3, w4], [], ma_mem I o, 0, 0) (ma_end Q) := by
  refine ex_iload_n (pc := 17) (fr_get fo_167_0 11 rfl) rfl ?_
  refine ex_bipush (pc := 18) (fr_get fo_167_0 12 rfl) bp_100 ?_
  refine xv_cge (pc := 20) (fr_get fo_167_0 13 rfl) (t := 165) rfl (fun c => ?_) (fun c => ?_)
  · replace h := h.1 c
    exact ex_return (pc := 165) (fr_get fo_167_5 12 rfl) rt_167 rfl rfl (ma_end_mk h)
  · replace h := h.2 c
    refine ex_aload_n (pc := 23) (fr_get fo_167_0 14 rfl) rfl rfl ?_
    refine ex_aload_n (pc := 24) (fr_get fo_167_0 15 rfl) rfl rfl ?_
    refine ex_gr (pc := 25) (fr_get fo_167_1 0 rfl) ow_167 fr_9_219_40 (q := (63, 0)) rfl ?_
    refine ex_bipush (pc := 28) (fr_get fo_167_1 1 rfl) bp_40 ?_
    refine ex_iload_n (pc := 30) (fr_get fo_167_1 2 rfl) rfl ?_
    refine ex_imul (pc := 31) (fr_get fo_167_1 3 rfl) ?_
    refine xv_iald (pc := 32) (fr_get fo_167_1 4 rfl) gk_63 (n := 160) (gn_63 ..) rfl rfl h.1 ?_
    replace h := h.2
    refine ex_iload_n (pc := 33) (fr_get fo_167_1 5 rfl) rfl ?_
    refine ex_aload_n (pc := 34) (fr_get fo_167_1 6 rfl) rfl rfl ?_
    refine xv_kv1 (pc := 35) (fr_get fo_167_1 7 rfl) cc_167_251 (as := [.inr (.inr (40, 0))]) (rs := [.inl v2, .inl (I 63 0 (((40 : Int32) * v1).toNatClampNeg)), .inr (.inr (40, 0))]) rfl rfl rfl rfl rfl ?_
    refine sm_159 rfl ?_
    refine ⟨_, rfl, ?_⟩
    refine xv_kv0 (pc := 38) (fr_get fo_167_1 8 rfl) cc_167_255 (as := [.inr (.inr (40, 0)), .inl (I 63 0 (((40 : Int32) * v1).toNatClampNeg)), .inl v2, .inl (xv_al (I 40 0 4))]) (rs := []) rfl rfl rfl rfl rfl ?_
    refine h.mono (fun r J1 p2 h => ⟨h.1, ?_⟩)
    replace h := h.2
    refine ex_aload_n (pc := 41) (fr_get fo_167_1 9 rfl) rfl rfl ?_
    refine xv_gi (pc := 42) (fr_get fo_167_1 10 rfl) ow_167 fg_9_235_40 rfl ?_
    refine ex_aload_n (pc := 45) (fr_get fo_167_1 11 rfl) rfl rfl ?_
    refine ex_gr (pc := 46) (fr_get fo_167_1 12 rfl) ow_167 fr_9_216_40 (q := (62, 0)) rfl ?_
    refine ex_iload_n (pc := 49) (fr_get fo_167_1 13 rfl) rfl ?_
    refine xv_iald (pc := 50) (fr_get fo_167_1 14 rfl) gk_62 (n := 4) (gn_62 ..) rfl rfl h.1 ?_
    replace h := h.2
    refine xv_cne (pc := 51) (fr_get fo_167_1 15 rfl) (t := 58) rfl (fun c => ?_) (fun c => ?_)
    · replace h := h.1 c
      refine ex_iconst (pc := 58) (fr_get fo_167_2 2 rfl) ic_0 ?_
      refine ex_istore_n (pc := 59) (fr_get fo_167_2 3 rfl) rfl (L' := [some (.inr (.inr (40, 0))), some (.inl v1), some (.inl v2), some (.inl (0 : Int32)), w4]) rfl ?_
      refine ex_iconst (pc := 60) (fr_get fo_167_2 4 rfl) ic_0 ?_
      refine ex_istore (pc := 61) (fr_get fo_167_2 5 rfl) rfl (L' := [some (.inr (.inr (40, 0))), some (.inl v1), some (.inl v2), some (.inl (0 : Int32)), some (.inl (0 : Int32))]) rfl ?_
      exact h
    · replace h := h.2 c
      refine ex_iconst (pc := 54) (fr_get fo_167_2 0 rfl) ic_1 ?_
      refine ex_goto (pc := 55) (fr_get fo_167_2 1 rfl) (t := 59) rfl ?_
      refine ex_istore_n (pc := 59) (fr_get fo_167_2 3 rfl) rfl (L' := [some (.inr (.inr (40, 0))), some (.inl v1), some (.inl v2), some (.inl (1 : Int32)), w4]) rfl ?_
      refine ex_iconst (pc := 60) (fr_get fo_167_2 4 rfl) ic_0 ?_
      refine ex_istore (pc := 61) (fr_get fo_167_2 5 rfl) rfl (L' := [some (.inr (.inr (40, 0))), some (.inl v1), some (.inl v2), some (.inl (1 : Int32)), some (.inl (0 : Int32))]) rfl ?_
      exact h

theorem b_167_63 {d : Nat} {I : ma_I} {o : Nat} {Q : ma_Q} {v1 : Int32} {v2 : Int32} {v3 : Int32} {v4 : Int32}
  (h :
    ma_in v1 4 ∧
    (I 62 0 v1.toNatClampNeg ≤ v4 →
      (v3 = 0 →
        Ex (d + 1) 167 (17, [some (.inr (.inr (40, 0))), some (.inl v1), some (.inl (v2 + (1 : Int32))), some (.inl v3), some (.inl v4)], [], ma_mem I o, 0, 0) (ma_end Q)) ∧
      (v3 ≠ 0 →
        (I 40 0 40 ≠ (-1 : Int32) →
          Ex (d + 1) 167 (17, [some (.inr (.inr (40, 0))), some (.inl v1), some (.inl (v2 + (1 : Int32))), some (.inl v3), some (.inl v4)], [], ma_mem (ma_up (ma_up (ma_up I 40 0 39 ((I 40 0 39) + (1 : Int32))) 40 0 40 (I 40 0 40)) 40 0 41 ((I 40 0 41) ||| (I 40 0 34))) o, 0, 0) (ma_end Q)) ∧
        (I 40 0 40 = (-1 : Int32) →
          Ex (d + 1) 167 (17, [some (.inr (.inr (40, 0))), some (.inl v1), some (.inl (v2 + (1 : Int32))), some (.inl v3), some (.inl v4)], [], ma_mem (ma_up (ma_up (ma_up I 40 0 39 ((I 40 0 39) + (1 : Int32))) 40 0 40 v2) 40 0 41 ((I 40 0 41) ||| (I 40 0 34))) o, 0, 0) (ma_end Q)))) ∧
    (v4 < I 62 0 v1.toNatClampNeg →
      (v3 = 0 →
        (v3 = 0 →
          Ex (d + 1) 167 (17, [some (.inr (.inr (40, 0))), some (.inl v1), some (.inl (v2 + (1 : Int32))), some (.inl v3), some (.inl v4)], [], ma_mem I o, 0, 0) (ma_end Q)) ∧
        (v3 ≠ 0 →
          (I 40 0 40 ≠ (-1 : Int32) →
            Ex (d + 1) 167 (17, [some (.inr (.inr (40, 0))), some (.inl v1), some (.inl (v2 + (1 : Int32))), some (.inl v3), some (.inl v4)], [], ma_mem (ma_up (ma_up (ma_up I 40 0 39 ((I 40 0 39) + (1 : Int32))) 40 0 40 (I 40 0 40)) 40 0 41 ((I 40 0 41) ||| (I 40 0 34))) o, 0, 0) (ma_end Q)) ∧
          (I 40 0 40 = (-1 : Int32) →
            Ex (d + 1) 167 (17, [some (.inr (.inr (40, 0))), some (.inl v1), some (.inl (v2 + (1 : Int32))), some (.inl v3), some (.inl v4)], [], ma_mem (ma_up (ma_up (ma_up I 40 0 39 ((I 40 0 39) + (1 : Int32))) 40 0 40 v2) 40 0 41 ((I 40 0 41) ||| (I 40 0 34))) o, 0, 0) (ma_end Q)))) ∧
      (v3 ≠ 0 →
        ma_in v4 24 ∧
        ma_in (((40 : Int32) * v1) + v4) 160 ∧
        (I 58 0 v4.toNatClampNeg ≠ I 63 0 ((((40 : Int32) * v1) + v4).toNatClampNeg) →
          Ex (d + 1) 167 (63, [some (.inr (.inr (40, 0))), some (.inl v1), some (.inl v2), some (.inl (0 : Int32)), some (.inl (v4 + (1 : Int32)))], [], ma_mem I o, 0, 0) (ma_end Q)) ∧
        (I 58 0 v4.toNatClampNeg = I 63 0 ((((40 : Int32) * v1) + v4).toNatClampNeg) →
          Ex (d + 1) 167 (63, [some (.inr (.inr (40, 0))), some (.inl v1), some (.inl v2), some (.inl (1 : Int32)), some (.inl (v4 + (1 : Int32)))], [], ma_mem I o, 0, 0) (ma_end Q))))) :
  Ex (d + 1) 167 (63, [some (.inr (.inr (40, 0))), some (.inl v1), some (.inl v2), some (.inl v3), some (.inl v4)], [], ma_mem I o, 0, 0) (ma_end Q) := by
  refine ex_iload (pc := 63) (fr_get fo_167_2 6 rfl) rfl ?_
  refine ex_aload_n (pc := 65) (fr_get fo_167_2 7 rfl) rfl rfl ?_
  refine ex_gr (pc := 66) (fr_get fo_167_2 8 rfl) ow_167 fr_9_216_40 (q := (62, 0)) rfl ?_
  refine ex_iload_n (pc := 69) (fr_get fo_167_2 9 rfl) rfl ?_
  refine xv_iald (pc := 70) (fr_get fo_167_2 10 rfl) gk_62 (n := 4) (gn_62 ..) rfl rfl h.1 ?_
  replace h := h.2
  refine xv_cge (pc := 71) (fr_get fo_167_2 11 rfl) (t := 112) rfl (fun c => ?_) (fun c => ?_)
  · replace h := h.1 c
    refine ex_iload_n (pc := 112) (fr_get fo_167_4 1 rfl) rfl ?_
    refine xv_beq (pc := 113) (fr_get fo_167_4 2 rfl) (t := 159) rfl (fun c => ?_) (fun c => ?_)
    · replace h := h.1 c
      refine xv_iinc (pc := 159) (fr_get fo_167_5 10 rfl) rfl ic_1 (L' := [some (.inr (.inr (40, 0))), some (.inl v1), some (.inl (v2 + (1 : Int32))), some (.inl v3), some (.inl v4)]) rfl ?_
      refine ex_goto (pc := 162) (fr_get fo_167_5 11 rfl) (t := 17) rfl ?_
      exact h
    · replace h := h.2 c
      refine ex_aload_n (pc := 116) (fr_get fo_167_4 3 rfl) rfl rfl ?_
      refine ex_dupr (pc := 117) (fr_get fo_167_4 4 rfl) ?_
      refine xv_gi (pc := 118) (fr_get fo_167_4 5 rfl) ow_167 fg_9_265_40 rfl ?_
      refine ex_iconst (pc := 121) (fr_get fo_167_4 6 rfl) ic_1 ?_
      refine ex_iadd (pc := 122) (fr_get fo_167_4 7 rfl) ?_
      refine ex_pi (pc := 123) (fr_get fo_167_4 8 rfl) ow_167 fp_9_265_40 ?_
      refine ex_aload_n (pc := 126) (fr_get fo_167_4 9 rfl) rfl rfl ?_
      refine ex_aload_n (pc := 127) (fr_get fo_167_4 10 rfl) rfl rfl ?_
      refine xv_gi (pc := 128) (fr_get fo_167_4 11 rfl) ow_167 fg_9_268_40 (xv_uj rfl) ?_
      refine ex_iconst (pc := 131) (fr_get fo_167_4 12 rfl) ic_m1 ?_
      refine xv_cne (pc := 132) (fr_get fo_167_4 13 rfl) (t := 139) rfl (fun c => ?_) (fun c => ?_)
      · replace h := h.1 c
        refine ex_aload_n (pc := 139) (fr_get fo_167_5 0 rfl) rfl rfl ?_
        refine xv_gi (pc := 140) (fr_get fo_167_5 1 rfl) ow_167 fg_9_268_40 (xv_uj rfl) ?_
        refine ex_pi (pc := 143) (fr_get fo_167_5 2 rfl) ow_167 fp_9_268_40 ?_
        refine ex_aload_n (pc := 146) (fr_get fo_167_5 3 rfl) rfl rfl ?_
        refine ex_dupr (pc := 147) (fr_get fo_167_5 4 rfl) ?_
        refine xv_gi (pc := 148) (fr_get fo_167_5 5 rfl) ow_167 fg_9_271_40 (Eq.trans (xv_uj rfl) (xv_uj rfl)) ?_
        refine ex_aload_n (pc := 151) (fr_get fo_167_5 6 rfl) rfl rfl ?_
        refine xv_gi (pc := 152) (fr_get fo_167_5 7 rfl) ow_167 fg_9_238_40 (Eq.trans (xv_uj rfl) (xv_uj rfl)) ?_
        refine ex_ior (pc := 155) (fr_get fo_167_5 8 rfl) ?_
        refine ex_pi (pc := 156) (fr_get fo_167_5 9 rfl) ow_167 fp_9_271_40 ?_
        refine xv_iinc (pc := 159) (fr_get fo_167_5 10 rfl) rfl ic_1 (L' := [some (.inr (.inr (40, 0))), some (.inl v1), some (.inl (v2 + (1 : Int32))), some (.inl v3), some (.inl v4)]) rfl ?_
        refine ex_goto (pc := 162) (fr_get fo_167_5 11 rfl) (t := 17) rfl ?_
        exact h
      · replace h := h.2 c
        refine ex_iload_n (pc := 135) (fr_get fo_167_4 14 rfl) rfl ?_
        refine ex_goto (pc := 136) (fr_get fo_167_4 15 rfl) (t := 143) rfl ?_
        refine ex_pi (pc := 143) (fr_get fo_167_5 2 rfl) ow_167 fp_9_268_40 ?_
        refine ex_aload_n (pc := 146) (fr_get fo_167_5 3 rfl) rfl rfl ?_
        refine ex_dupr (pc := 147) (fr_get fo_167_5 4 rfl) ?_
        refine xv_gi (pc := 148) (fr_get fo_167_5 5 rfl) ow_167 fg_9_271_40 (Eq.trans (xv_uj rfl) (xv_uj rfl)) ?_
        refine ex_aload_n (pc := 151) (fr_get fo_167_5 6 rfl) rfl rfl ?_
        refine xv_gi (pc := 152) (fr_get fo_167_5 7 rfl) ow_167 fg_9_238_40 (Eq.trans (xv_uj rfl) (xv_uj rfl)) ?_
        refine ex_ior (pc := 155) (fr_get fo_167_5 8 rfl) ?_
        refine ex_pi (pc := 156) (fr_get fo_167_5 9 rfl) ow_167 fp_9_271_40 ?_
        refine xv_iinc (pc := 159) (fr_get fo_167_5 10 rfl) rfl ic_1 (L' := [some (.inr (.inr (40, 0))), some (.inl v1), some (.inl (v2 + (1 : Int32))), some (.inl v3), some (.inl v4)]) rfl ?_
        refine ex_goto (pc := 162) (fr_get fo_167_5 11 rfl) (t := 17) rfl ?_
        exact h
  · replace h := h.2 c
    refine ex_iload_n (pc := 74) (fr_get fo_167_2 12 rfl) rfl ?_
    refine xv_beq (pc := 75) (fr_get fo_167_2 13 rfl) (t := 112) rfl (fun c => ?_) (fun c => ?_)
    · replace h := h.1 c
      refine ex_iload_n (pc := 112) (fr_get fo_167_4 1 rfl) rfl ?_
      refine xv_beq (pc := 113) (fr_get fo_167_4 2 rfl) (t := 159) rfl (fun c => ?_) (fun c => ?_)
      · replace h := h.1 c
        refine xv_iinc (pc := 159) (fr_get fo_167_5 10 rfl) rfl ic_1 (L' := [some (.inr (.inr (40, 0))), some (.inl v1), some (.inl (v2 + (1 : Int32))), some (.inl v3), some (.inl v4)]) rfl ?_
        refine ex_goto (pc := 162) (fr_get fo_167_5 11 rfl) (t := 17) rfl ?_
        exact h
      · replace h := h.2 c
        refine ex_aload_n (pc := 116) (fr_get fo_167_4 3 rfl) rfl rfl ?_
        refine ex_dupr (pc := 117) (fr_get fo_167_4 4 rfl) ?_
        refine xv_gi (pc := 118) (fr_get fo_167_4 5 rfl) ow_167 fg_9_265_40 rfl ?_
        refine ex_iconst (pc := 121) (fr_get fo_167_4 6 rfl) ic_1 ?_
        refine ex_iadd (pc := 122) (fr_get fo_167_4 7 rfl) ?_
        refine ex_pi (pc := 123) (fr_get fo_167_4 8 rfl) ow_167 fp_9_265_40 ?_
        refine ex_aload_n (pc := 126) (fr_get fo_167_4 9 rfl) rfl rfl ?_
        refine ex_aload_n (pc := 127) (fr_get fo_167_4 10 rfl) rfl rfl ?_
        refine xv_gi (pc := 128) (fr_get fo_167_4 11 rfl) ow_167 fg_9_268_40 (xv_uj rfl) ?_
        refine ex_iconst (pc := 131) (fr_get fo_167_4 12 rfl) ic_m1 ?_
        refine xv_cne (pc := 132) (fr_get fo_167_4 13 rfl) (t := 139) rfl (fun c => ?_) (fun c => ?_)
        · replace h := h.1 c
          refine ex_aload_n (pc := 139) (fr_get fo_167_5 0 rfl) rfl rfl ?_
          refine xv_gi (pc := 140) (fr_get fo_167_5 1 rfl) ow_167 fg_9_268_40 (xv_uj rfl) ?_
          refine ex_pi (pc := 143) (fr_get fo_167_5 2 rfl) ow_167 fp_9_268_40 ?_
          refine ex_aload_n (pc := 146) (fr_get fo_167_5 3 rfl) rfl rfl ?_
          refine ex_dupr (pc := 147) (fr_get fo_167_5 4 rfl) ?_
          refine xv_gi (pc := 148) (fr_get fo_167_5 5 rfl) ow_167 fg_9_271_40 (Eq.trans (xv_uj rfl) (xv_uj rfl)) ?_
          refine ex_aload_n (pc := 151) (fr_get fo_167_5 6 rfl) rfl rfl ?_
          refine xv_gi (pc := 152) (fr_get fo_167_5 7 rfl) ow_167 fg_9_238_40 (Eq.trans (xv_uj rfl) (xv_uj rfl)) ?_
          refine ex_ior (pc := 155) (fr_get fo_167_5 8 rfl) ?_
          refine ex_pi (pc := 156) (fr_get fo_167_5 9 rfl) ow_167 fp_9_271_40 ?_
          refine xv_iinc (pc := 159) (fr_get fo_167_5 10 rfl) rfl ic_1 (L' := [some (.inr (.inr (40, 0))), some (.inl v1), some (.inl (v2 + (1 : Int32))), some (.inl v3), some (.inl v4)]) rfl ?_
          refine ex_goto (pc := 162) (fr_get fo_167_5 11 rfl) (t := 17) rfl ?_
          exact h
        · replace h := h.2 c
          refine ex_iload_n (pc := 135) (fr_get fo_167_4 14 rfl) rfl ?_
          refine ex_goto (pc := 136) (fr_get fo_167_4 15 rfl) (t := 143) rfl ?_
          refine ex_pi (pc := 143) (fr_get fo_167_5 2 rfl) ow_167 fp_9_268_40 ?_
          refine ex_aload_n (pc := 146) (fr_get fo_167_5 3 rfl) rfl rfl ?_
          refine ex_dupr (pc := 147) (fr_get fo_167_5 4 rfl) ?_
          refine xv_gi (pc := 148) (fr_get fo_167_5 5 rfl) ow_167 fg_9_271_40 (Eq.trans (xv_uj rfl) (xv_uj rfl)) ?_
          refine ex_aload_n (pc := 151) (fr_get fo_167_5 6 rfl) rfl rfl ?_
          refine xv_gi (pc := 152) (fr_get fo_167_5 7 rfl) ow_167 fg_9_238_40 (Eq.trans (xv_uj rfl) (xv_uj rfl)) ?_
          refine ex_ior (pc := 155) (fr_get fo_167_5 8 rfl) ?_
          refine ex_pi (pc := 156) (fr_get fo_167_5 9 rfl) ow_167 fp_9_271_40 ?_
          refine xv_iinc (pc := 159) (fr_get fo_167_5 10 rfl) rfl ic_1 (L' := [some (.inr (.inr (40, 0))), some (.inl v1), some (.inl (v2 + (1 : Int32))), some (.inl v3), some (.inl v4)]) rfl ?_
          refine ex_goto (pc := 162) (fr_get fo_167_5 11 rfl) (t := 17) rfl ?_
          exact h
    · replace h := h.2 c
      refine ex_aload_n (pc := 78) (fr_get fo_167_2 14 rfl) rfl rfl ?_
      refine ex_gr (pc := 79) (fr_get fo_167_2 15 rfl) ow_167 fr_9_204_40 (q := (58, 0)) rfl ?_
      refine ex_iload (pc := 82) (fr_get fo_167_3 0 rfl) rfl ?_
      refine xv_iald (pc := 84) (fr_get fo_167_3 1 rfl) gk_58 (n := 24) (gn_58 ..) rfl rfl h.1 ?_
      replace h := h.2
      refine ex_aload_n (pc := 85) (fr_get fo_167_3 2 rfl) rfl rfl ?_
      refine ex_gr (pc := 86) (fr_get fo_167_3 3 rfl) ow_167 fr_9_219_40 (q := (63, 0)) rfl ?_
      refine ex_bipush (pc := 89) (fr_get fo_167_3 4 rfl) bp_40 ?_
      refine ex_iload_n (pc := 91) (fr_get fo_167_3 5 rfl) rfl ?_
      refine ex_imul (pc := 92) (fr_get fo_167_3 6 rfl) ?_
      refine ex_iload (pc := 93) (fr_get fo_167_3 7 rfl) rfl ?_
      refine ex_iadd (pc := 95) (fr_get fo_167_3 8 rfl) ?_
      refine xv_iald (pc := 96) (fr_get fo_167_3 9 rfl) gk_63 (n := 160) (gn_63 ..) rfl rfl h.1 ?_
      replace h := h.2
      refine xv_cne (pc := 97) (fr_get fo_167_3 10 rfl) (t := 104) rfl (fun c => ?_) (fun c => ?_)
      · replace h := h.1 c
        refine ex_iconst (pc := 104) (fr_get fo_167_3 13 rfl) ic_0 ?_
        refine ex_istore_n (pc := 105) (fr_get fo_167_3 14 rfl) rfl (L' := [some (.inr (.inr (40, 0))), some (.inl v1), some (.inl v2), some (.inl (0 : Int32)), some (.inl v4)]) rfl ?_
        refine xv_iinc (pc := 106) (fr_get fo_167_3 15 rfl) rfl ic_1 (L' := [some (.inr (.inr (40, 0))), some (.inl v1), some (.inl v2), some (.inl (0 : Int32)), some (.inl (v4 + (1 : Int32)))]) rfl ?_
        refine ex_goto (pc := 109) (fr_get fo_167_4 0 rfl) (t := 63) rfl ?_
        exact h
      · replace h := h.2 c
        refine ex_iconst (pc := 100) (fr_get fo_167_3 11 rfl) ic_1 ?_
        refine ex_goto (pc := 101) (fr_get fo_167_3 12 rfl) (t := 105) rfl ?_
        refine ex_istore_n (pc := 105) (fr_get fo_167_3 14 rfl) rfl (L' := [some (.inr (.inr (40, 0))), some (.inl v1), some (.inl v2), some (.inl (1 : Int32)), some (.inl v4)]) rfl ?_
        refine xv_iinc (pc := 106) (fr_get fo_167_3 15 rfl) rfl ic_1 (L' := [some (.inr (.inr (40, 0))), some (.inl v1), some (.inl v2), some (.inl (1 : Int32)), some (.inl (v4 + (1 : Int32)))]) rfl ?_
        refine ex_goto (pc := 109) (fr_get fo_167_4 0 rfl) (t := 63) rfl ?_
        exact h

theorem e_168 {d : Nat} {I : ma_I} {o : Nat} {Q : ma_Q} {a1 : Int32} {a2 : Int32}
  (h :
    (¬((0 : Int32) ≤ a1 ∧ a1 ≤ (3 : Int32)) →
      Q (some (.inl (-2 : Int32))) I o) ∧
    ((0 : Int32) ≤ a1 ∧ a1 ≤ (3 : Int32) →
      ((0 : Int32) ≤ a2 ∧ a2 ≤ (3 : Int32) →
        ma_in a1 4 ∧
        (0 ≤ I 61 0 a1.toNatClampNeg →
          ma_in a1 4 ∧
          Ex (d + 2) 168 (58, [some (.inr (.inr (40, 0))), some (.inl a1), some (.inl a2), some (.inl (xv_b ((1 : Int32) ≤ (I 62 0 a1.toNatClampNeg) ∧ (I 62 0 a1.toNatClampNeg) ≤ (20 : Int32)))), some (.inl (0 : Int32)), none, none], [], ma_mem I o, 0, 0) (ma_end Q)) ∧
        (I 61 0 a1.toNatClampNeg < 0 →
          Q (some (.inl (-11 : Int32))) I o)) ∧
      (¬((0 : Int32) ≤ a2 ∧ a2 ≤ (3 : Int32)) →
        ((0 : Int32) ≤ (a2 - (10 : Int32)) ∧ (a2 - (10 : Int32)) ≤ ((I 40 0 4) - 1) →
          ma_in a1 4 ∧
          (0 ≤ I 61 0 a1.toNatClampNeg →
            ma_in a1 4 ∧
            Ex (d + 2) 168 (58, [some (.inr (.inr (40, 0))), some (.inl a1), some (.inl a2), some (.inl (xv_b ((1 : Int32) ≤ (I 62 0 a1.toNatClampNeg) ∧ (I 62 0 a1.toNatClampNeg) ≤ (20 : Int32)))), some (.inl (0 : Int32)), none, none], [], ma_mem I o, 0, 0) (ma_end Q)) ∧
          (I 61 0 a1.toNatClampNeg < 0 →
            Q (some (.inl (-11 : Int32))) I o)) ∧
        (¬((0 : Int32) ≤ (a2 - (10 : Int32)) ∧ (a2 - (10 : Int32)) ≤ ((I 40 0 4) - 1)) →
          Q (some (.inl (-2 : Int32))) I o)))) :
  Exm (d + 2) 168 [.inr (.inr (40, 0)), .inl a1, .inl a2] I o Q := by
  show Ex (d + 2) 168 (0, [some (.inr (.inr (40, 0))), some (.inl a1), some (.inl a2), none, none, none, none], [], ma_mem I o, 0, 0) (ma_end Q)
  refine ex_iload_n (pc := 0) (fr_get fo_168_0 0 rfl) rfl ?_
  refine xv_ks1 (pc := 1) (fr_get fo_168_0 1 rfl) cc_168_274 (as := [.inl a1]) (rs := []) rfl rfl rfl rfl ?_
  refine sm_178 ?_
  refine ⟨_, rfl, ?_⟩
  refine xv_peq (pc := 4) (fr_get fo_168_0 2 rfl) (t := 27) rfl (fun c => ?_) (fun c => ?_)
  · replace h := h.1 c
    refine ex_bipush (pc := 27) (fr_get fo_168_0 14 rfl) bp_m2 ?_
    exact ex_ireturn (pc := 29) (fr_get fo_168_0 15 rfl) rt_168 rfl rfl (ma_end_mk h)
  · replace h := h.2 c
    refine ex_iload_n (pc := 7) (fr_get fo_168_0 3 rfl) rfl ?_
    refine ex_iconst (pc := 8) (fr_get fo_168_0 4 rfl) ic_0 ?_
    refine ex_iconst (pc := 9) (fr_get fo_168_0 5 rfl) ic_3 ?_
    refine xv_ks1 (pc := 10) (fr_get fo_168_0 6 rfl) cc_168_3 (as := [.inl a2, .inl (0 : Int32), .inl (3 : Int32)]) (rs := []) rfl rfl rfl rfl ?_
    refine sm_118 ?_
    refine ⟨_, rfl, ?_⟩
    refine xv_pne (pc := 13) (fr_get fo_168_0 7 rfl) (t := 30) rfl (fun c => ?_) (fun c => ?_)
    · replace h := h.1 c
      refine ex_aload_n (pc := 30) (fr_get fo_168_1 0 rfl) rfl rfl ?_
      refine ex_gr (pc := 31) (fr_get fo_168_1 1 rfl) ow_168 fr_9_213_40 (q := (61, 0)) rfl ?_
      refine ex_iload_n (pc := 34) (fr_get fo_168_1 2 rfl) rfl ?_
      refine xv_iald (pc := 35) (fr_get fo_168_1 3 rfl) gk_61 (n := 4) (gn_61 ..) rfl rfl h.1 ?_
      replace h := h.2
      refine xv_bge (pc := 36) (fr_get fo_168_1 4 rfl) (t := 42) rfl (fun c => ?_) (fun c => ?_)
      · replace h := h.1 c
        refine ex_aload_n (pc := 42) (fr_get fo_168_1 7 rfl) rfl rfl ?_
        refine ex_gr (pc := 43) (fr_get fo_168_1 8 rfl) ow_168 fr_9_216_40 (q := (62, 0)) rfl ?_
        refine ex_iload_n (pc := 46) (fr_get fo_168_1 9 rfl) rfl ?_
        refine xv_iald (pc := 47) (fr_get fo_168_1 10 rfl) gk_62 (n := 4) (gn_62 ..) rfl rfl h.1 ?_
        replace h := h.2
        refine ex_iconst (pc := 48) (fr_get fo_168_1 11 rfl) ic_1 ?_
        refine ex_bipush (pc := 49) (fr_get fo_168_1 12 rfl) bp_20 ?_
        refine xv_ks1 (pc := 51) (fr_get fo_168_1 13 rfl) cc_168_3 (as := [.inl (I 62 0 a1.toNatClampNeg), .inl (1 : Int32), .inl (20 : Int32)]) (rs := []) rfl rfl rfl rfl ?_
        refine sm_118 ?_
        refine ⟨_, rfl, ?_⟩
        refine ex_istore_n (pc := 54) (fr_get fo_168_1 14 rfl) rfl (L' := [some (.inr (.inr (40, 0))), some (.inl a1), some (.inl a2), some (.inl (xv_b ((1 : Int32) ≤ (I 62 0 a1.toNatClampNeg) ∧ (I 62 0 a1.toNatClampNeg) ≤ (20 : Int32)))), none, none, none]) rfl ?_
        refine ex_iconst (pc := 55) (fr_get fo_168_1 15 rfl) ic_0 ?_
        refine ex_istore (pc := 56) (fr_get fo_168_2 0 rfl) rfl (L' := [some (.inr (.inr (40, 0))), some (.inl a1), some (.inl a2), some (.inl (xv_b ((1 : Int32) ≤ (I 62 0 a1.toNatClampNeg) ∧ (I 62 0 a1.toNatClampNeg) ≤ (20 : Int32)))), some (.inl (0 : Int32)), none, none]) rfl ?_
        exact h
      · replace h := h.2 c
        refine ex_bipush (pc := 39) (fr_get fo_168_1 5 rfl) bp_m11 ?_
        exact ex_ireturn (pc := 41) (fr_get fo_168_1 6 rfl) rt_168 rfl rfl (ma_end_mk h)
    · replace h := h.2 c
      refine ex_aload_n (pc := 16) (fr_get fo_168_0 8 rfl) rfl rfl ?_
      refine ex_iload_n (pc := 17) (fr_get fo_168_0 9 rfl) rfl ?_
      refine ex_bipush (pc := 18) (fr_get fo_168_0 10 rfl) bp_10 ?_
      refine ex_isub (pc := 20) (fr_get fo_168_0 11 rfl) ?_
      refine xv_kv1 (pc := 21) (fr_get fo_168_0 12 rfl) cc_168_53 (as := [.inr (.inr (40, 0)), .inl (a2 - (10 : Int32))]) (rs := []) rfl rfl rfl rfl rfl ?_
      refine sm_123 rfl ?_
      refine ⟨_, rfl, ?_⟩
      refine xv_pne (pc := 24) (fr_get fo_168_0 13 rfl) (t := 30) rfl (fun c => ?_) (fun c => ?_)
      · replace h := h.1 c
        refine ex_aload_n (pc := 30) (fr_get fo_168_1 0 rfl) rfl rfl ?_
        refine ex_gr (pc := 31) (fr_get fo_168_1 1 rfl) ow_168 fr_9_213_40 (q := (61, 0)) rfl ?_
        refine ex_iload_n (pc := 34) (fr_get fo_168_1 2 rfl) rfl ?_
        refine xv_iald (pc := 35) (fr_get fo_168_1 3 rfl) gk_61 (n := 4) (gn_61 ..) rfl rfl h.1 ?_
        replace h := h.2
        refine xv_bge (pc := 36) (fr_get fo_168_1 4 rfl) (t := 42) rfl (fun c => ?_) (fun c => ?_)
        · replace h := h.1 c
          refine ex_aload_n (pc := 42) (fr_get fo_168_1 7 rfl) rfl rfl ?_
          refine ex_gr (pc := 43) (fr_get fo_168_1 8 rfl) ow_168 fr_9_216_40 (q := (62, 0)) rfl ?_
          refine ex_iload_n (pc := 46) (fr_get fo_168_1 9 rfl) rfl ?_
          refine xv_iald (pc := 47) (fr_get fo_168_1 10 rfl) gk_62 (n := 4) (gn_62 ..) rfl rfl h.1 ?_
          replace h := h.2
          refine ex_iconst (pc := 48) (fr_get fo_168_1 11 rfl) ic_1 ?_
          refine ex_bipush (pc := 49) (fr_get fo_168_1 12 rfl) bp_20 ?_
          refine xv_ks1 (pc := 51) (fr_get fo_168_1 13 rfl) cc_168_3 (as := [.inl (I 62 0 a1.toNatClampNeg), .inl (1 : Int32), .inl (20 : Int32)]) (rs := []) rfl rfl rfl rfl ?_
          refine sm_118 ?_
          refine ⟨_, rfl, ?_⟩
          refine ex_istore_n (pc := 54) (fr_get fo_168_1 14 rfl) rfl (L' := [some (.inr (.inr (40, 0))), some (.inl a1), some (.inl a2), some (.inl (xv_b ((1 : Int32) ≤ (I 62 0 a1.toNatClampNeg) ∧ (I 62 0 a1.toNatClampNeg) ≤ (20 : Int32)))), none, none, none]) rfl ?_
          refine ex_iconst (pc := 55) (fr_get fo_168_1 15 rfl) ic_0 ?_
          refine ex_istore (pc := 56) (fr_get fo_168_2 0 rfl) rfl (L' := [some (.inr (.inr (40, 0))), some (.inl a1), some (.inl a2), some (.inl (xv_b ((1 : Int32) ≤ (I 62 0 a1.toNatClampNeg) ∧ (I 62 0 a1.toNatClampNeg) ≤ (20 : Int32)))), some (.inl (0 : Int32)), none, none]) rfl ?_
          exact h
        · replace h := h.2 c
          refine ex_bipush (pc := 39) (fr_get fo_168_1 5 rfl) bp_m11 ?_
          exact ex_ireturn (pc := 41) (fr_get fo_168_1 6 rfl) rt_168 rfl rfl (ma_end_mk h)
      · replace h := h.2 c
        refine ex_bipush (pc := 27) (fr_get fo_168_0 14 rfl) bp_m2 ?_
        exact ex_ireturn (pc := 29) (fr_get fo_168_0 15 rfl) rt_168 rfl rfl (ma_end_mk h)

theorem b_168_58 {d : Nat} {I : ma_I} {o : Nat} {Q : ma_Q} {v1 : Int32} {v2 : Int32} {v3 : Int32} {v4 : Int32}
  (h :
    ma_in v1 4 ∧
    (I 62 0 v1.toNatClampNeg ≤ v4 →
      (v3 ≠ 0 →
        (v2 ≠ (3 : Int32) →
          (v2 < (10 : Int32) →
            Exm (d + 1) 167 [.inr (.inr (40, 0)), .inl v1] I o (fun r J1 p2 => r = none ∧
              (v2 ≠ 0 →
                (v2 ≠ (1 : Int32) →
                  Q (some (.inl (J1 40 0 41))) J1 p2) ∧
                (v2 = (1 : Int32) →
                  Q (some (.inl (J1 40 0 40))) J1 p2)) ∧
              (v2 = 0 →
                Q (some (.inl (J1 40 0 39))) J1 p2))) ∧
          ((10 : Int32) ≤ v2 →
            ma_in (v2 - (10 : Int32)) 9 ∧
            Ex (d + 2) 168 (202, [some (.inr (.inr (40, 0))), some (.inl v1), some (.inl v2), some (.inl v3), some (.inl (0 : Int32)), some (.inl (I 43 0 ((v2 - (10 : Int32)).toNatClampNeg))), some (.inl (0 : Int32))], [], ma_mem I o, 0, 0) (ma_end Q))) ∧
        (v2 = (3 : Int32) →
          Ex (d + 2) 168 (127, [some (.inr (.inr (40, 0))), some (.inl v1), some (.inl v2), some (.inl v3), some (.inl (0 : Int32)), some (.inl (I 40 0 14)), some (.inl (0 : Int32))], [], ma_mem I o, 0, 0) (ma_end Q))) ∧
      (v3 = 0 →
        Q (some (.inl (-2 : Int32))) I o)) ∧
    (v4 < I 62 0 v1.toNatClampNeg →
      (v3 = 0 →
        Ex (d + 2) 168 (58, [some (.inr (.inr (40, 0))), some (.inl v1), some (.inl v2), some (.inl (0 : Int32)), some (.inl (v4 + (1 : Int32))), none, none], [], ma_mem I o, 0, 0) (ma_end Q)) ∧
      (v3 ≠ 0 →
        ma_in (((40 : Int32) * v1) + v4) 160 ∧
        (¬((0 : Int32) ≤ (I 63 0 ((((40 : Int32) * v1) + v4).toNatClampNeg)) ∧ (I 63 0 ((((40 : Int32) * v1) + v4).toNatClampNeg)) ≤ (7 : Int32)) →
          Ex (d + 2) 168 (58, [some (.inr (.inr (40, 0))), some (.inl v1), some (.inl v2), some (.inl (0 : Int32)), some (.inl (v4 + (1 : Int32))), none, none], [], ma_mem I o, 0, 0) (ma_end Q)) ∧
        ((0 : Int32) ≤ (I 63 0 ((((40 : Int32) * v1) + v4).toNatClampNeg)) ∧ (I 63 0 ((((40 : Int32) * v1) + v4).toNatClampNeg)) ≤ (7 : Int32) →
          Ex (d + 2) 168 (58, [some (.inr (.inr (40, 0))), some (.inl v1), some (.inl v2), some (.inl (1 : Int32)), some (.inl (v4 + (1 : Int32))), none, none], [], ma_mem I o, 0, 0) (ma_end Q))))) :
  Ex (d + 2) 168 (58, [some (.inr (.inr (40, 0))), some (.inl v1), some (.inl v2), some (.inl v3), some (.inl v4), none, none], [], ma_mem I o, 0, 0) (ma_end Q) := by
  refine ex_iload (pc := 58) (fr_get fo_168_2 1 rfl) rfl ?_
  refine ex_aload_n (pc := 60) (fr_get fo_168_2 2 rfl) rfl rfl ?_
  refine ex_gr (pc := 61) (fr_get fo_168_2 3 rfl) ow_168 fr_9_216_40 (q := (62, 0)) rfl ?_
  refine ex_iload_n (pc := 64) (fr_get fo_168_2 4 rfl) rfl ?_
  refine xv_iald (pc := 65) (fr_get fo_168_2 5 rfl) gk_62 (n := 4) (gn_62 ..) rfl rfl h.1 ?_
  replace h := h.2
  refine xv_cge (pc := 66) (fr_get fo_168_2 6 rfl) (t := 103) rfl (fun c => ?_) (fun c => ?_)
  · replace h := h.1 c
    refine ex_iload_n (pc := 103) (fr_get fo_168_3 9 rfl) rfl ?_
    refine xv_bne (pc := 104) (fr_get fo_168_3 10 rfl) (t := 110) rfl (fun c => ?_) (fun c => ?_)
    · replace h := h.1 c
      refine ex_iconst (pc := 110) (fr_get fo_168_3 13 rfl) ic_0 ?_
      refine ex_istore (pc := 111) (fr_get fo_168_3 14 rfl) rfl (L' := [some (.inr (.inr (40, 0))), some (.inl v1), some (.inl v2), some (.inl v3), some (.inl (0 : Int32)), none, none]) rfl ?_
      refine ex_iload_n (pc := 113) (fr_get fo_168_3 15 rfl) rfl ?_
      refine ex_iconst (pc := 114) (fr_get fo_168_4 0 rfl) ic_3 ?_
      refine xv_cne (pc := 115) (fr_get fo_168_4 1 rfl) (t := 182) rfl (fun c => ?_) (fun c => ?_)
      · replace h := h.1 c
        refine ex_iload_n (pc := 182) (fr_get fo_168_6 3 rfl) rfl ?_
        refine ex_bipush (pc := 183) (fr_get fo_168_6 4 rfl) bp_10 ?_
        refine xv_clt (pc := 185) (fr_get fo_168_6 5 rfl) (t := 265) rfl (fun c => ?_) (fun c => ?_)
        · replace h := h.1 c
          refine ex_aload_n (pc := 265) (fr_get fo_168_9 2 rfl) rfl rfl ?_
          refine ex_iload_n (pc := 266) (fr_get fo_168_9 3 rfl) rfl ?_
          refine xv_kv0 (pc := 267) (fr_get fo_168_9 4 rfl) cc_168_277 (as := [.inr (.inr (40, 0)), .inl v1]) (rs := []) rfl rfl rfl rfl rfl ?_
          refine h.mono (fun r J1 p2 h => ⟨h.1, ?_⟩)
          replace h := h.2
          refine ex_iload_n (pc := 270) (fr_get fo_168_9 5 rfl) rfl ?_
          refine xv_bne (pc := 271) (fr_get fo_168_9 6 rfl) (t := 281) rfl (fun c => ?_) (fun c => ?_)
          · replace h := h.1 c
            refine ex_iload_n (pc := 281) (fr_get fo_168_9 10 rfl) rfl ?_
            refine ex_iconst (pc := 282) (fr_get fo_168_9 11 rfl) ic_1 ?_
            refine xv_cne (pc := 283) (fr_get fo_168_9 12 rfl) (t := 293) rfl (fun c => ?_) (fun c => ?_)
            · replace h := h.1 c
              refine ex_aload_n (pc := 293) (fr_get fo_168_10 0 rfl) rfl rfl ?_
              refine xv_gi (pc := 294) (fr_get fo_168_10 1 rfl) ow_168 fg_9_271_40 rfl ?_
              exact ex_ireturn (pc := 297) (fr_get fo_168_10 2 rfl) rt_168 rfl rfl (ma_end_mk h)
            · replace h := h.2 c
              refine ex_aload_n (pc := 286) (fr_get fo_168_9 13 rfl) rfl rfl ?_
              refine xv_gi (pc := 287) (fr_get fo_168_9 14 rfl) ow_168 fg_9_268_40 rfl ?_
              refine ex_goto (pc := 290) (fr_get fo_168_9 15 rfl) (t := 297) rfl ?_
              exact ex_ireturn (pc := 297) (fr_get fo_168_10 2 rfl) rt_168 rfl rfl (ma_end_mk h)
          · replace h := h.2 c
            refine ex_aload_n (pc := 274) (fr_get fo_168_9 7 rfl) rfl rfl ?_
            refine xv_gi (pc := 275) (fr_get fo_168_9 8 rfl) ow_168 fg_9_265_40 rfl ?_
            refine ex_goto (pc := 278) (fr_get fo_168_9 9 rfl) (t := 297) rfl ?_
            exact ex_ireturn (pc := 297) (fr_get fo_168_10 2 rfl) rt_168 rfl rfl (ma_end_mk h)
        · replace h := h.2 c
          refine ex_aload_n (pc := 188) (fr_get fo_168_6 6 rfl) rfl rfl ?_
          refine ex_gr (pc := 189) (fr_get fo_168_6 7 rfl) ow_168 fr_9_28_40 (q := (43, 0)) rfl ?_
          refine ex_iload_n (pc := 192) (fr_get fo_168_6 8 rfl) rfl ?_
          refine ex_bipush (pc := 193) (fr_get fo_168_6 9 rfl) bp_10 ?_
          refine ex_isub (pc := 195) (fr_get fo_168_6 10 rfl) ?_
          refine xv_iald (pc := 196) (fr_get fo_168_6 11 rfl) gk_43 (n := 9) (gn_43 ..) rfl rfl h.1 ?_
          replace h := h.2
          refine ex_istore (pc := 197) (fr_get fo_168_6 12 rfl) rfl (L' := [some (.inr (.inr (40, 0))), some (.inl v1), some (.inl v2), some (.inl v3), some (.inl (0 : Int32)), some (.inl (I 43 0 ((v2 - (10 : Int32)).toNatClampNeg))), none]) rfl ?_
          refine ex_iconst (pc := 199) (fr_get fo_168_6 13 rfl) ic_0 ?_
          refine ex_istore (pc := 200) (fr_get fo_168_6 14 rfl) rfl (L' := [some (.inr (.inr (40, 0))), some (.inl v1), some (.inl v2), some (.inl v3), some (.inl (0 : Int32)), some (.inl (I 43 0 ((v2 - (10 : Int32)).toNatClampNeg))), some (.inl (0 : Int32))]) rfl ?_
          exact h
      · replace h := h.2 c
        refine ex_aload_n (pc := 118) (fr_get fo_168_4 2 rfl) rfl rfl ?_
        refine xv_gi (pc := 119) (fr_get fo_168_4 3 rfl) ow_168 fg_9_190_40 rfl ?_
        refine ex_istore (pc := 122) (fr_get fo_168_4 4 rfl) rfl (L' := [some (.inr (.inr (40, 0))), some (.inl v1), some (.inl v2), some (.inl v3), some (.inl (0 : Int32)), some (.inl (I 40 0 14)), none]) rfl ?_
        refine ex_iconst (pc := 124) (fr_get fo_168_4 5 rfl) ic_0 ?_
        refine ex_istore (pc := 125) (fr_get fo_168_4 6 rfl) rfl (L' := [some (.inr (.inr (40, 0))), some (.inl v1), some (.inl v2), some (.inl v3), some (.inl (0 : Int32)), some (.inl (I 40 0 14)), some (.inl (0 : Int32))]) rfl ?_
        exact h
    · replace h := h.2 c
      refine ex_bipush (pc := 107) (fr_get fo_168_3 11 rfl) bp_m2 ?_
      exact ex_ireturn (pc := 109) (fr_get fo_168_3 12 rfl) rt_168 rfl rfl (ma_end_mk h)
  · replace h := h.2 c
    refine ex_iload_n (pc := 69) (fr_get fo_168_2 7 rfl) rfl ?_
    refine xv_beq (pc := 70) (fr_get fo_168_2 8 rfl) (t := 95) rfl (fun c => ?_) (fun c => ?_)
    · replace h := h.1 c
      refine ex_iconst (pc := 95) (fr_get fo_168_3 5 rfl) ic_0 ?_
      refine ex_istore_n (pc := 96) (fr_get fo_168_3 6 rfl) rfl (L' := [some (.inr (.inr (40, 0))), some (.inl v1), some (.inl v2), some (.inl (0 : Int32)), some (.inl v4), none, none]) rfl ?_
      refine xv_iinc (pc := 97) (fr_get fo_168_3 7 rfl) rfl ic_1 (L' := [some (.inr (.inr (40, 0))), some (.inl v1), some (.inl v2), some (.inl (0 : Int32)), some (.inl (v4 + (1 : Int32))), none, none]) rfl ?_
      refine ex_goto (pc := 100) (fr_get fo_168_3 8 rfl) (t := 58) rfl ?_
      exact h
    · replace h := h.2 c
      refine ex_aload_n (pc := 73) (fr_get fo_168_2 9 rfl) rfl rfl ?_
      refine ex_gr (pc := 74) (fr_get fo_168_2 10 rfl) ow_168 fr_9_219_40 (q := (63, 0)) rfl ?_
      refine ex_bipush (pc := 77) (fr_get fo_168_2 11 rfl) bp_40 ?_
      refine ex_iload_n (pc := 79) (fr_get fo_168_2 12 rfl) rfl ?_
      refine ex_imul (pc := 80) (fr_get fo_168_2 13 rfl) ?_
      refine ex_iload (pc := 81) (fr_get fo_168_2 14 rfl) rfl ?_
      refine ex_iadd (pc := 83) (fr_get fo_168_2 15 rfl) ?_
      refine xv_iald (pc := 84) (fr_get fo_168_3 0 rfl) gk_63 (n := 160) (gn_63 ..) rfl rfl h.1 ?_
      replace h := h.2
      refine xv_ks1 (pc := 85) (fr_get fo_168_3 1 rfl) cc_168_15 (as := [.inl (I 63 0 ((((40 : Int32) * v1) + v4).toNatClampNeg))]) (rs := []) rfl rfl rfl rfl ?_
      refine sm_121 ?_
      refine ⟨_, rfl, ?_⟩
      refine xv_peq (pc := 88) (fr_get fo_168_3 2 rfl) (t := 95) rfl (fun c => ?_) (fun c => ?_)
      · replace h := h.1 c
        refine ex_iconst (pc := 95) (fr_get fo_168_3 5 rfl) ic_0 ?_
        refine ex_istore_n (pc := 96) (fr_get fo_168_3 6 rfl) rfl (L' := [some (.inr (.inr (40, 0))), some (.inl v1), some (.inl v2), some (.inl (0 : Int32)), some (.inl v4), none, none]) rfl ?_
        refine xv_iinc (pc := 97) (fr_get fo_168_3 7 rfl) rfl ic_1 (L' := [some (.inr (.inr (40, 0))), some (.inl v1), some (.inl v2), some (.inl (0 : Int32)), some (.inl (v4 + (1 : Int32))), none, none]) rfl ?_
        refine ex_goto (pc := 100) (fr_get fo_168_3 8 rfl) (t := 58) rfl ?_
        exact h
      · replace h := h.2 c
        refine ex_iconst (pc := 91) (fr_get fo_168_3 3 rfl) ic_1 ?_
        refine ex_goto (pc := 92) (fr_get fo_168_3 4 rfl) (t := 96) rfl ?_
        refine ex_istore_n (pc := 96) (fr_get fo_168_3 6 rfl) rfl (L' := [some (.inr (.inr (40, 0))), some (.inl v1), some (.inl v2), some (.inl (1 : Int32)), some (.inl v4), none, none]) rfl ?_
        refine xv_iinc (pc := 97) (fr_get fo_168_3 7 rfl) rfl ic_1 (L' := [some (.inr (.inr (40, 0))), some (.inl v1), some (.inl v2), some (.inl (1 : Int32)), some (.inl (v4 + (1 : Int32))), none, none]) rfl ?_
        refine ex_goto (pc := 100) (fr_get fo_168_3 8 rfl) (t := 58) rfl ?_
        exact h

theorem b_168_127 {d : Nat} {I : ma_I} {o : Nat} {Q : ma_Q} {v1 : Int32} {v2 : Int32} {v3 : Int32} {v4 : Int32} {v5 : Int32} {v6 : Int32}
  (h :
    (I 40 0 13 ≤ v6 →
      Q (some (.inl v4)) (ma_up I 40 0 14 v5) o) ∧
    (v6 < I 40 0 13 →
      Exm (d + 1) 167 [.inr (.inr (40, 0)), .inl v1] (ma_up I 40 0 14 v6) o (fun r J1 p2 => r = none ∧
        (J1 40 0 39 ≤ 0 →
          Ex (d + 2) 168 (127, [some (.inr (.inr (40, 0))), some (.inl v1), some (.inl v2), some (.inl v3), some (.inl (v4 ||| (0 : Int32))), some (.inl v5), some (.inl (v6 + (1 : Int32)))], [], ma_mem J1 p2, 0, 0) (ma_end Q)) ∧
        (0 < J1 40 0 39 →
          Ex (d + 2) 168 (127, [some (.inr (.inr (40, 0))), some (.inl v1), some (.inl v2), some (.inl v3), some (.inl (v4 ||| ((1 : Int32) <<< (v6 &&& 31)))), some (.inl v5), some (.inl (v6 + (1 : Int32)))], [], ma_mem J1 p2, 0, 0) (ma_end Q))))) :
  Ex (d + 2) 168 (127, [some (.inr (.inr (40, 0))), some (.inl v1), some (.inl v2), some (.inl v3), some (.inl v4), some (.inl v5), some (.inl v6)], [], ma_mem I o, 0, 0) (ma_end Q) := by
  refine ex_iload (pc := 127) (fr_get fo_168_4 7 rfl) rfl ?_
  refine ex_aload_n (pc := 129) (fr_get fo_168_4 8 rfl) rfl rfl ?_
  refine xv_gi (pc := 130) (fr_get fo_168_4 9 rfl) ow_168 fg_9_184_40 rfl ?_
  refine xv_cge (pc := 133) (fr_get fo_168_4 10 rfl) (t := 173) rfl (fun c => ?_) (fun c => ?_)
  · replace h := h.1 c
    refine ex_aload_n (pc := 173) (fr_get fo_168_5 14 rfl) rfl rfl ?_
    refine ex_iload (pc := 174) (fr_get fo_168_5 15 rfl) rfl ?_
    refine ex_pi (pc := 176) (fr_get fo_168_6 0 rfl) ow_168 fp_9_190_40 ?_
    refine ex_iload (pc := 179) (fr_get fo_168_6 1 rfl) rfl ?_
    exact ex_ireturn (pc := 181) (fr_get fo_168_6 2 rfl) rt_168 rfl rfl (ma_end_mk h)
  · replace h := h.2 c
    refine ex_aload_n (pc := 136) (fr_get fo_168_4 11 rfl) rfl rfl ?_
    refine ex_iload (pc := 137) (fr_get fo_168_4 12 rfl) rfl ?_
    refine ex_pi (pc := 139) (fr_get fo_168_4 13 rfl) ow_168 fp_9_190_40 ?_
    refine ex_aload_n (pc := 142) (fr_get fo_168_4 14 rfl) rfl rfl ?_
    refine ex_iload_n (pc := 143) (fr_get fo_168_4 15 rfl) rfl ?_
    refine xv_kv0 (pc := 144) (fr_get fo_168_5 0 rfl) cc_168_277 (as := [.inr (.inr (40, 0)), .inl v1]) (rs := []) rfl rfl rfl rfl rfl ?_
    refine h.mono (fun r J1 p2 h => ⟨h.1, ?_⟩)
    replace h := h.2
    refine ex_iload (pc := 147) (fr_get fo_168_5 1 rfl) rfl ?_
    refine ex_aload_n (pc := 149) (fr_get fo_168_5 2 rfl) rfl rfl ?_
    refine xv_gi (pc := 150) (fr_get fo_168_5 3 rfl) ow_168 fg_9_265_40 rfl ?_
    refine xv_ble (pc := 153) (fr_get fo_168_5 4 rfl) (t := 163) rfl (fun c => ?_) (fun c => ?_)
    · replace h := h.1 c
      refine ex_iconst (pc := 163) (fr_get fo_168_5 9 rfl) ic_0 ?_
      refine ex_ior (pc := 164) (fr_get fo_168_5 10 rfl) ?_
      refine ex_istore (pc := 165) (fr_get fo_168_5 11 rfl) rfl (L' := [some (.inr (.inr (40, 0))), some (.inl v1), some (.inl v2), some (.inl v3), some (.inl (v4 ||| (0 : Int32))), some (.inl v5), some (.inl v6)]) rfl ?_
      refine xv_iinc (pc := 167) (fr_get fo_168_5 12 rfl) rfl ic_1 (L' := [some (.inr (.inr (40, 0))), some (.inl v1), some (.inl v2), some (.inl v3), some (.inl (v4 ||| (0 : Int32))), some (.inl v5), some (.inl (v6 + (1 : Int32)))]) rfl ?_
      refine ex_goto (pc := 170) (fr_get fo_168_5 13 rfl) (t := 127) rfl ?_
      exact h
    · replace h := h.2 c
      refine ex_iconst (pc := 156) (fr_get fo_168_5 5 rfl) ic_1 ?_
      refine ex_iload (pc := 157) (fr_get fo_168_5 6 rfl) rfl ?_
      refine ex_ishl (pc := 159) (fr_get fo_168_5 7 rfl) ?_
      refine ex_goto (pc := 160) (fr_get fo_168_5 8 rfl) (t := 164) rfl ?_
      refine ex_ior (pc := 164) (fr_get fo_168_5 10 rfl) ?_
      refine ex_istore (pc := 165) (fr_get fo_168_5 11 rfl) rfl (L' := [some (.inr (.inr (40, 0))), some (.inl v1), some (.inl v2), some (.inl v3), some (.inl (v4 ||| ((1 : Int32) <<< (v6 &&& 31)))), some (.inl v5), some (.inl v6)]) rfl ?_
      refine xv_iinc (pc := 167) (fr_get fo_168_5 12 rfl) rfl ic_1 (L' := [some (.inr (.inr (40, 0))), some (.inl v1), some (.inl v2), some (.inl v3), some (.inl (v4 ||| ((1 : Int32) <<< (v6 &&& 31)))), some (.inl v5), some (.inl (v6 + (1 : Int32)))]) rfl ?_
      refine ex_goto (pc := 170) (fr_get fo_168_5 13 rfl) (t := 127) rfl ?_
      exact h

theorem b_168_202 {d : Nat} {I : ma_I} {o : Nat} {Q : ma_Q} {v1 : Int32} {v2 : Int32} {v3 : Int32} {v4 : Int32} {v5 : Int32} {v6 : Int32}
  (h :
    ((6 : Int32) ≤ v6 →
      ma_in (v2 - (10 : Int32)) 9 ∧
      Q (some (.inl v4)) (ma_up I 43 0 ((v2 - (10 : Int32)).toNatClampNeg) v5) o) ∧
    (v6 < (6 : Int32) →
      ma_in (v2 - (10 : Int32)) 9 ∧
      Exm (d + 1) 167 [.inr (.inr (40, 0)), .inl v1] (ma_up I 43 0 ((v2 - (10 : Int32)).toNatClampNeg) v6) o (fun r J1 p2 => r = none ∧
        (J1 40 0 39 ≤ 0 →
          Ex (d + 2) 168 (202, [some (.inr (.inr (40, 0))), some (.inl v1), some (.inl v2), some (.inl v3), some (.inl (v4 ||| (0 : Int32))), some (.inl v5), some (.inl (v6 + (1 : Int32)))], [], ma_mem J1 p2, 0, 0) (ma_end Q)) ∧
        (0 < J1 40 0 39 →
          Ex (d + 2) 168 (202, [some (.inr (.inr (40, 0))), some (.inl v1), some (.inl v2), some (.inl v3), some (.inl (v4 ||| ((1 : Int32) <<< (v6 &&& 31)))), some (.inl v5), some (.inl (v6 + (1 : Int32)))], [], ma_mem J1 p2, 0, 0) (ma_end Q))))) :
  Ex (d + 2) 168 (202, [some (.inr (.inr (40, 0))), some (.inl v1), some (.inl v2), some (.inl v3), some (.inl v4), some (.inl v5), some (.inl v6)], [], ma_mem I o, 0, 0) (ma_end Q) := by
  refine ex_iload (pc := 202) (fr_get fo_168_6 15 rfl) rfl ?_
  refine ex_bipush (pc := 204) (fr_get fo_168_7 0 rfl) bp_6 ?_
  refine xv_cge (pc := 206) (fr_get fo_168_7 1 rfl) (t := 251) rfl (fun c => ?_) (fun c => ?_)
  · replace h := h.1 c
    refine ex_aload_n (pc := 251) (fr_get fo_168_8 9 rfl) rfl rfl ?_
    refine ex_gr (pc := 252) (fr_get fo_168_8 10 rfl) ow_168 fr_9_28_40 (q := (43, 0)) rfl ?_
    refine ex_iload_n (pc := 255) (fr_get fo_168_8 11 rfl) rfl ?_
    refine ex_bipush (pc := 256) (fr_get fo_168_8 12 rfl) bp_10 ?_
    refine ex_isub (pc := 258) (fr_get fo_168_8 13 rfl) ?_
    refine ex_iload (pc := 259) (fr_get fo_168_8 14 rfl) rfl ?_
    refine xv_iast (pc := 261) (fr_get fo_168_8 15 rfl) gs_43 gl_43 rfl h.1 ?_
    replace h := h.2
    refine ex_iload (pc := 262) (fr_get fo_168_9 0 rfl) rfl ?_
    exact ex_ireturn (pc := 264) (fr_get fo_168_9 1 rfl) rt_168 rfl rfl (ma_end_mk h)
  · replace h := h.2 c
    refine ex_aload_n (pc := 209) (fr_get fo_168_7 2 rfl) rfl rfl ?_
    refine ex_gr (pc := 210) (fr_get fo_168_7 3 rfl) ow_168 fr_9_28_40 (q := (43, 0)) rfl ?_
    refine ex_iload_n (pc := 213) (fr_get fo_168_7 4 rfl) rfl ?_
    refine ex_bipush (pc := 214) (fr_get fo_168_7 5 rfl) bp_10 ?_
    refine ex_isub (pc := 216) (fr_get fo_168_7 6 rfl) ?_
    refine ex_iload (pc := 217) (fr_get fo_168_7 7 rfl) rfl ?_
    refine xv_iast (pc := 219) (fr_get fo_168_7 8 rfl) gs_43 gl_43 rfl h.1 ?_
    replace h := h.2
    refine ex_aload_n (pc := 220) (fr_get fo_168_7 9 rfl) rfl rfl ?_
    refine ex_iload_n (pc := 221) (fr_get fo_168_7 10 rfl) rfl ?_
    refine xv_kv0 (pc := 222) (fr_get fo_168_7 11 rfl) cc_168_277 (as := [.inr (.inr (40, 0)), .inl v1]) (rs := []) rfl rfl rfl rfl rfl ?_
    refine h.mono (fun r J1 p2 h => ⟨h.1, ?_⟩)
    replace h := h.2
    refine ex_iload (pc := 225) (fr_get fo_168_7 12 rfl) rfl ?_
    refine ex_aload_n (pc := 227) (fr_get fo_168_7 13 rfl) rfl rfl ?_
    refine xv_gi (pc := 228) (fr_get fo_168_7 14 rfl) ow_168 fg_9_265_40 rfl ?_
    refine xv_ble (pc := 231) (fr_get fo_168_7 15 rfl) (t := 241) rfl (fun c => ?_) (fun c => ?_)
    · replace h := h.1 c
      refine ex_iconst (pc := 241) (fr_get fo_168_8 4 rfl) ic_0 ?_
      refine ex_ior (pc := 242) (fr_get fo_168_8 5 rfl) ?_
      refine ex_istore (pc := 243) (fr_get fo_168_8 6 rfl) rfl (L' := [some (.inr (.inr (40, 0))), some (.inl v1), some (.inl v2), some (.inl v3), some (.inl (v4 ||| (0 : Int32))), some (.inl v5), some (.inl v6)]) rfl ?_
      refine xv_iinc (pc := 245) (fr_get fo_168_8 7 rfl) rfl ic_1 (L' := [some (.inr (.inr (40, 0))), some (.inl v1), some (.inl v2), some (.inl v3), some (.inl (v4 ||| (0 : Int32))), some (.inl v5), some (.inl (v6 + (1 : Int32)))]) rfl ?_
      refine ex_goto (pc := 248) (fr_get fo_168_8 8 rfl) (t := 202) rfl ?_
      exact h
    · replace h := h.2 c
      refine ex_iconst (pc := 234) (fr_get fo_168_8 0 rfl) ic_1 ?_
      refine ex_iload (pc := 235) (fr_get fo_168_8 1 rfl) rfl ?_
      refine ex_ishl (pc := 237) (fr_get fo_168_8 2 rfl) ?_
      refine ex_goto (pc := 238) (fr_get fo_168_8 3 rfl) (t := 242) rfl ?_
      refine ex_ior (pc := 242) (fr_get fo_168_8 5 rfl) ?_
      refine ex_istore (pc := 243) (fr_get fo_168_8 6 rfl) rfl (L' := [some (.inr (.inr (40, 0))), some (.inl v1), some (.inl v2), some (.inl v3), some (.inl (v4 ||| ((1 : Int32) <<< (v6 &&& 31)))), some (.inl v5), some (.inl v6)]) rfl ?_
      refine xv_iinc (pc := 245) (fr_get fo_168_8 7 rfl) rfl ic_1 (L' := [some (.inr (.inr (40, 0))), some (.inl v1), some (.inl v2), some (.inl v3), some (.inl (v4 ||| ((1 : Int32) <<< (v6 &&& 31)))), some (.inl v5), some (.inl (v6 + (1 : Int32)))]) rfl ?_
      refine ex_goto (pc := 248) (fr_get fo_168_8 8 rfl) (t := 202) rfl ?_
      exact h

theorem e_169 {d : Nat} {I : ma_I} {o : Nat} {Q : ma_Q} {a1 : Int32} {a2 : Int32} {a3 : Int32}
  (h :
    (¬((0 : Int32) ≤ a1 ∧ a1 ≤ (3 : Int32)) →
      Q (some (.inl (-2 : Int32))) I o) ∧
    ((0 : Int32) ≤ a1 ∧ a1 ≤ (3 : Int32) →
      (¬((0 : Int32) ≤ a2 ∧ a2 ≤ (7 : Int32)) →
        Q (some (.inl (-2 : Int32))) I o) ∧
      ((0 : Int32) ≤ a2 ∧ a2 ≤ (7 : Int32) →
        ((0 : Int32) ≤ a3 ∧ a3 ≤ (99 : Int32) →
          Exm (d + 1) 158 [.inr (.inr (40, 0)), .inl a2, .inl a3, .inl (xv_al (I 40 0 4))] I o (fun r J1 p2 => r = none ∧
            Exm (d + 1) 179 [.inr (.inr (40, 0)), .inl a1, .inl (0 : Int32), .inl (xv_lo (20 : Int32) (J1 40 0 33))] J1 p2 (fun r J3 p4 => ∃ x5 : Int32, r = some (.inl x5) ∧
              Ex (d + 2) 169 (57, [some (.inr (.inr (40, 0))), some (.inl a1), some (.inl a2), some (.inl a3), some (.inl (xv_lo (20 : Int32) (J1 40 0 33))), some (.inl (0 : Int32))], [], ma_mem J3 p4, 0, 0) (ma_end Q)))) ∧
        (¬((0 : Int32) ≤ a3 ∧ a3 ≤ (99 : Int32)) →
          Q (some (.inl (-2 : Int32))) I o)))) :
  Exm (d + 2) 169 [.inr (.inr (40, 0)), .inl a1, .inl a2, .inl a3] I o Q := by
  show Ex (d + 2) 169 (0, [some (.inr (.inr (40, 0))), some (.inl a1), some (.inl a2), some (.inl a3), none, none], [], ma_mem I o, 0, 0) (ma_end Q)
  refine ex_iload_n (pc := 0) (fr_get fo_169_0 0 rfl) rfl ?_
  refine xv_ks1 (pc := 1) (fr_get fo_169_0 1 rfl) cc_169_274 (as := [.inl a1]) (rs := []) rfl rfl rfl rfl ?_
  refine sm_178 ?_
  refine ⟨_, rfl, ?_⟩
  refine xv_peq (pc := 4) (fr_get fo_169_0 2 rfl) (t := 21) rfl (fun c => ?_) (fun c => ?_)
  · replace h := h.1 c
    refine ex_bipush (pc := 21) (fr_get fo_169_0 9 rfl) bp_m2 ?_
    exact ex_ireturn (pc := 23) (fr_get fo_169_0 10 rfl) rt_169 rfl rfl (ma_end_mk h)
  · replace h := h.2 c
    refine ex_iload_n (pc := 7) (fr_get fo_169_0 3 rfl) rfl ?_
    refine xv_ks1 (pc := 8) (fr_get fo_169_0 4 rfl) cc_169_15 (as := [.inl a2]) (rs := []) rfl rfl rfl rfl ?_
    refine sm_121 ?_
    refine ⟨_, rfl, ?_⟩
    refine xv_peq (pc := 11) (fr_get fo_169_0 5 rfl) (t := 21) rfl (fun c => ?_) (fun c => ?_)
    · replace h := h.1 c
      refine ex_bipush (pc := 21) (fr_get fo_169_0 9 rfl) bp_m2 ?_
      exact ex_ireturn (pc := 23) (fr_get fo_169_0 10 rfl) rt_169 rfl rfl (ma_end_mk h)
    · replace h := h.2 c
      refine ex_iload_n (pc := 14) (fr_get fo_169_0 6 rfl) rfl ?_
      refine xv_ks1 (pc := 15) (fr_get fo_169_0 7 rfl) cc_169_11 (as := [.inl a3]) (rs := []) rfl rfl rfl rfl ?_
      refine sm_122 ?_
      refine ⟨_, rfl, ?_⟩
      refine xv_pne (pc := 18) (fr_get fo_169_0 8 rfl) (t := 24) rfl (fun c => ?_) (fun c => ?_)
      · replace h := h.1 c
        refine ex_aload_n (pc := 24) (fr_get fo_169_0 11 rfl) rfl rfl ?_
        refine ex_iload_n (pc := 25) (fr_get fo_169_0 12 rfl) rfl ?_
        refine ex_iload_n (pc := 26) (fr_get fo_169_0 13 rfl) rfl ?_
        refine ex_aload_n (pc := 27) (fr_get fo_169_0 14 rfl) rfl rfl ?_
        refine xv_kv1 (pc := 28) (fr_get fo_169_0 15 rfl) cc_169_251 (as := [.inr (.inr (40, 0))]) (rs := [.inl a3, .inl a2, .inr (.inr (40, 0))]) rfl rfl rfl rfl rfl ?_
        refine sm_159 rfl ?_
        refine ⟨_, rfl, ?_⟩
        refine xv_kv0 (pc := 31) (fr_get fo_169_1 0 rfl) cc_169_255 (as := [.inr (.inr (40, 0)), .inl a2, .inl a3, .inl (xv_al (I 40 0 4))]) (rs := []) rfl rfl rfl rfl rfl ?_
        refine h.mono (fun r J1 p2 h => ⟨h.1, ?_⟩)
        replace h := h.2
        refine ex_bipush (pc := 34) (fr_get fo_169_1 1 rfl) bp_20 ?_
        refine ex_aload_n (pc := 36) (fr_get fo_169_1 2 rfl) rfl rfl ?_
        refine xv_gi (pc := 37) (fr_get fo_169_1 3 rfl) ow_169 fg_9_235_40 rfl ?_
        refine xv_ks1 (pc := 40) (fr_get fo_169_1 4 rfl) cc_169_229 (as := [.inl (20 : Int32), .inl (J1 40 0 33)]) (rs := []) rfl rfl rfl rfl ?_
        refine sm_119 ?_
        refine ⟨_, rfl, ?_⟩
        refine ex_istore (pc := 43) (fr_get fo_169_1 5 rfl) rfl (L' := [some (.inr (.inr (40, 0))), some (.inl a1), some (.inl a2), some (.inl a3), some (.inl (xv_lo (20 : Int32) (J1 40 0 33))), none]) rfl ?_
        refine ex_aload_n (pc := 45) (fr_get fo_169_1 6 rfl) rfl rfl ?_
        refine ex_iload_n (pc := 46) (fr_get fo_169_1 7 rfl) rfl ?_
        refine ex_iconst (pc := 47) (fr_get fo_169_1 8 rfl) ic_0 ?_
        refine ex_iload (pc := 48) (fr_get fo_169_1 9 rfl) rfl ?_
        refine xv_kv1 (pc := 50) (fr_get fo_169_1 10 rfl) cc_169_280 (as := [.inr (.inr (40, 0)), .inl a1, .inl (0 : Int32), .inl (xv_lo (20 : Int32) (J1 40 0 33))]) (rs := []) rfl rfl rfl rfl rfl ?_
        refine h.mono (fun r J3 p4 h => ?_)
        obtain ⟨x5, hr, h⟩ := h
        refine ⟨x5, hr, ?_⟩
        refine ex_pop (pc := 53) (fr_get fo_169_1 11 rfl) ?_
        refine ex_iconst (pc := 54) (fr_get fo_169_1 12 rfl) ic_0 ?_
        refine ex_istore (pc := 55) (fr_get fo_169_1 13 rfl) rfl (L' := [some (.inr (.inr (40, 0))), some (.inl a1), some (.inl a2), some (.inl a3), some (.inl (xv_lo (20 : Int32) (J1 40 0 33))), some (.inl (0 : Int32))]) rfl ?_
        exact h
      · replace h := h.2 c
        refine ex_bipush (pc := 21) (fr_get fo_169_0 9 rfl) bp_m2 ?_
        exact ex_ireturn (pc := 23) (fr_get fo_169_0 10 rfl) rt_169 rfl rfl (ma_end_mk h)

theorem b_169_57 {d : Nat} {I : ma_I} {o : Nat} {Q : ma_Q} {v1 : Int32} {v2 : Int32} {v3 : Int32} {v4 : Int32} {v5 : Int32}
  (h :
    (v4 ≤ v5 →
      Q (some (.inl v4)) I o) ∧
    (v5 < v4 →
      ma_in v5 24 ∧
      ma_in (((40 : Int32) * v1) + v5) 160 ∧
      Ex (d + 2) 169 (57, [some (.inr (.inr (40, 0))), some (.inl v1), some (.inl v2), some (.inl v3), some (.inl v4), some (.inl (v5 + (1 : Int32)))], [], ma_mem (ma_up I 63 0 ((((40 : Int32) * v1) + v5).toNatClampNeg) (I 58 0 v5.toNatClampNeg)) o, 0, 0) (ma_end Q))) :
  Ex (d + 2) 169 (57, [some (.inr (.inr (40, 0))), some (.inl v1), some (.inl v2), some (.inl v3), some (.inl v4), some (.inl v5)], [], ma_mem I o, 0, 0) (ma_end Q) := by
  refine ex_iload (pc := 57) (fr_get fo_169_1 14 rfl) rfl ?_
  refine ex_iload (pc := 59) (fr_get fo_169_1 15 rfl) rfl ?_
  refine xv_cge (pc := 61) (fr_get fo_169_2 0 rfl) (t := 89) rfl (fun c => ?_) (fun c => ?_)
  · replace h := h.1 c
    refine ex_iload (pc := 89) (fr_get fo_169_2 15 rfl) rfl ?_
    exact ex_ireturn (pc := 91) (fr_get fo_169_3 0 rfl) rt_169 rfl rfl (ma_end_mk h)
  · replace h := h.2 c
    refine ex_aload_n (pc := 64) (fr_get fo_169_2 1 rfl) rfl rfl ?_
    refine ex_gr (pc := 65) (fr_get fo_169_2 2 rfl) ow_169 fr_9_219_40 (q := (63, 0)) rfl ?_
    refine ex_bipush (pc := 68) (fr_get fo_169_2 3 rfl) bp_40 ?_
    refine ex_iload_n (pc := 70) (fr_get fo_169_2 4 rfl) rfl ?_
    refine ex_imul (pc := 71) (fr_get fo_169_2 5 rfl) ?_
    refine ex_iload (pc := 72) (fr_get fo_169_2 6 rfl) rfl ?_
    refine ex_iadd (pc := 74) (fr_get fo_169_2 7 rfl) ?_
    refine ex_aload_n (pc := 75) (fr_get fo_169_2 8 rfl) rfl rfl ?_
    refine ex_gr (pc := 76) (fr_get fo_169_2 9 rfl) ow_169 fr_9_204_40 (q := (58, 0)) rfl ?_
    refine ex_iload (pc := 79) (fr_get fo_169_2 10 rfl) rfl ?_
    refine xv_iald (pc := 81) (fr_get fo_169_2 11 rfl) gk_58 (n := 24) (gn_58 ..) rfl rfl h.1 ?_
    replace h := h.2
    refine xv_iast (pc := 82) (fr_get fo_169_2 12 rfl) gs_63 gl_63 rfl h.1 ?_
    replace h := h.2
    refine xv_iinc (pc := 83) (fr_get fo_169_2 13 rfl) rfl ic_1 (L' := [some (.inr (.inr (40, 0))), some (.inl v1), some (.inl v2), some (.inl v3), some (.inl v4), some (.inl (v5 + (1 : Int32)))]) rfl ?_
    refine ex_goto (pc := 86) (fr_get fo_169_2 14 rfl) (t := 57) rfl ?_
    exact h

theorem e_170 {d : Nat} {I : ma_I} {o : Nat} {Q : ma_Q} {a1 : Int32} {a2 : Int32}
  (h :
    Ex (d + 1) 170 (8, [some (.inr (.inr (40, 0))), some (.inl a1), some (.inl a2), some (.inl a2), some (.inl (0 : Int32)), some (.inl (0 : Int32))], [], ma_mem I o, 0, 0) (ma_end Q)) :
  Exm (d + 1) 170 [.inr (.inr (40, 0)), .inl a1, .inl a2] I o Q := by
  show Ex (d + 1) 170 (0, [some (.inr (.inr (40, 0))), some (.inl a1), some (.inl a2), none, none, none], [], ma_mem I o, 0, 0) (ma_end Q)
  refine ex_iload_n (pc := 0) (fr_get fo_170_0 0 rfl) rfl ?_
  refine ex_istore_n (pc := 1) (fr_get fo_170_0 1 rfl) rfl (L' := [some (.inr (.inr (40, 0))), some (.inl a1), some (.inl a2), some (.inl a2), none, none]) rfl ?_
  refine ex_iconst (pc := 2) (fr_get fo_170_0 2 rfl) ic_0 ?_
  refine ex_istore (pc := 3) (fr_get fo_170_0 3 rfl) rfl (L' := [some (.inr (.inr (40, 0))), some (.inl a1), some (.inl a2), some (.inl a2), some (.inl (0 : Int32)), none]) rfl ?_
  refine ex_iconst (pc := 5) (fr_get fo_170_0 4 rfl) ic_0 ?_
  refine ex_istore (pc := 6) (fr_get fo_170_0 5 rfl) rfl (L' := [some (.inr (.inr (40, 0))), some (.inl a1), some (.inl a2), some (.inl a2), some (.inl (0 : Int32)), some (.inl (0 : Int32))]) rfl ?_
  exact h

theorem b_170_8 {d : Nat} {I : ma_I} {o : Nat} {Q : ma_Q} {v1 : Int32} {v2 : Int32} {v3 : Int32} {v4 : Int32} {v5 : Int32}
  (h :
    ((10 : Int32) ≤ v5 →
      Q (some (.inl v4)) I o) ∧
    (v5 < (10 : Int32) →
      Exm (d) 158 [.inr (.inr (40, 0)), .inl v1, .inl (xv_rm (xv_us9 ((v3 * (1103515245 : Int32)) + (12345 : Int32)) (9 : Int32)) (100 : Int32)), .inl (xv_al (I 40 0 4))] I o (fun r J1 p2 => r = none ∧
        (J1 40 0 36 ≠ 0 →
          Ex (d + 1) 170 (8, [some (.inr (.inr (40, 0))), some (.inl v1), some (.inl v2), some (.inl ((v3 * (1103515245 : Int32)) + (12345 : Int32))), some (.inl (v4 + (0 : Int32))), some (.inl (v5 + (1 : Int32)))], [], ma_mem J1 p2, 0, 0) (ma_end Q)) ∧
        (J1 40 0 36 = 0 →
          Ex (d + 1) 170 (8, [some (.inr (.inr (40, 0))), some (.inl v1), some (.inl v2), some (.inl ((v3 * (1103515245 : Int32)) + (12345 : Int32))), some (.inl (v4 + (1 : Int32))), some (.inl (v5 + (1 : Int32)))], [], ma_mem J1 p2, 0, 0) (ma_end Q))))) :
  Ex (d + 1) 170 (8, [some (.inr (.inr (40, 0))), some (.inl v1), some (.inl v2), some (.inl v3), some (.inl v4), some (.inl v5)], [], ma_mem I o, 0, 0) (ma_end Q) := by
  refine ex_iload (pc := 8) (fr_get fo_170_0 6 rfl) rfl ?_
  refine ex_bipush (pc := 10) (fr_get fo_170_0 7 rfl) bp_10 ?_
  refine xv_cge (pc := 12) (fr_get fo_170_0 8 rfl) (t := 64) rfl (fun c => ?_) (fun c => ?_)
  · replace h := h.1 c
    refine ex_iload (pc := 64) (fr_get fo_170_2 4 rfl) rfl ?_
    exact ex_ireturn (pc := 66) (fr_get fo_170_2 5 rfl) rt_170 rfl rfl (ma_end_mk h)
  · replace h := h.2 c
    refine ex_iload_n (pc := 15) (fr_get fo_170_0 9 rfl) rfl ?_
    refine ex_ldcw (pc := 16) (fr_get fo_170_0 10 rfl) ow_170 kt_9_283 ?_
    refine ex_imul (pc := 19) (fr_get fo_170_0 11 rfl) ?_
    refine ex_sipush (pc := 20) (fr_get fo_170_0 12 rfl) sp_12345 ?_
    refine ex_iadd (pc := 23) (fr_get fo_170_0 13 rfl) ?_
    refine ex_istore_n (pc := 24) (fr_get fo_170_0 14 rfl) rfl (L' := [some (.inr (.inr (40, 0))), some (.inl v1), some (.inl v2), some (.inl ((v3 * (1103515245 : Int32)) + (12345 : Int32))), some (.inl v4), some (.inl v5)]) rfl ?_
    refine ex_aload_n (pc := 25) (fr_get fo_170_0 15 rfl) rfl rfl ?_
    refine ex_iload_n (pc := 26) (fr_get fo_170_1 0 rfl) rfl ?_
    refine ex_iload_n (pc := 27) (fr_get fo_170_1 1 rfl) rfl ?_
    refine ex_bipush (pc := 28) (fr_get fo_170_1 2 rfl) bp_9 ?_
    refine xv_iushr (pc := 30) (fr_get fo_170_1 3 rfl) ?_
    refine ex_bipush (pc := 31) (fr_get fo_170_1 4 rfl) bp_100 ?_
    refine xv_irem (pc := 33) (fr_get fo_170_1 5 rfl) (by decide) ?_
    refine ex_aload_n (pc := 34) (fr_get fo_170_1 6 rfl) rfl rfl ?_
    refine xv_kv1 (pc := 35) (fr_get fo_170_1 7 rfl) cc_170_251 (as := [.inr (.inr (40, 0))]) (rs := [.inl (xv_rm (xv_us9 ((v3 * (1103515245 : Int32)) + (12345 : Int32)) (9 : Int32)) (100 : Int32)), .inl v1, .inr (.inr (40, 0))]) rfl rfl rfl rfl rfl ?_
    refine sm_159 rfl ?_
    refine ⟨_, rfl, ?_⟩
    refine xv_kv0 (pc := 38) (fr_get fo_170_1 8 rfl) cc_170_255 (as := [.inr (.inr (40, 0)), .inl v1, .inl (xv_rm (xv_us9 ((v3 * (1103515245 : Int32)) + (12345 : Int32)) (9 : Int32)) (100 : Int32)), .inl (xv_al (I 40 0 4))]) (rs := []) rfl rfl rfl rfl rfl ?_
    refine h.mono (fun r J1 p2 h => ⟨h.1, ?_⟩)
    replace h := h.2
    refine ex_iload (pc := 41) (fr_get fo_170_1 9 rfl) rfl ?_
    refine ex_aload_n (pc := 43) (fr_get fo_170_1 10 rfl) rfl rfl ?_
    refine xv_gi (pc := 44) (fr_get fo_170_1 11 rfl) ow_170 fg_9_245_40 rfl ?_
    refine xv_bne (pc := 47) (fr_get fo_170_1 12 rfl) (t := 54) rfl (fun c => ?_) (fun c => ?_)
    · replace h := h.1 c
      refine ex_iconst (pc := 54) (fr_get fo_170_1 15 rfl) ic_0 ?_
      refine ex_iadd (pc := 55) (fr_get fo_170_2 0 rfl) ?_
      refine ex_istore (pc := 56) (fr_get fo_170_2 1 rfl) rfl (L' := [some (.inr (.inr (40, 0))), some (.inl v1), some (.inl v2), some (.inl ((v3 * (1103515245 : Int32)) + (12345 : Int32))), some (.inl (v4 + (0 : Int32))), some (.inl v5)]) rfl ?_
      refine xv_iinc (pc := 58) (fr_get fo_170_2 2 rfl) rfl ic_1 (L' := [some (.inr (.inr (40, 0))), some (.inl v1), some (.inl v2), some (.inl ((v3 * (1103515245 : Int32)) + (12345 : Int32))), some (.inl (v4 + (0 : Int32))), some (.inl (v5 + (1 : Int32)))]) rfl ?_
      refine ex_goto (pc := 61) (fr_get fo_170_2 3 rfl) (t := 8) rfl ?_
      exact h
    · replace h := h.2 c
      refine ex_iconst (pc := 50) (fr_get fo_170_1 13 rfl) ic_1 ?_
      refine ex_goto (pc := 51) (fr_get fo_170_1 14 rfl) (t := 55) rfl ?_
      refine ex_iadd (pc := 55) (fr_get fo_170_2 0 rfl) ?_
      refine ex_istore (pc := 56) (fr_get fo_170_2 1 rfl) rfl (L' := [some (.inr (.inr (40, 0))), some (.inl v1), some (.inl v2), some (.inl ((v3 * (1103515245 : Int32)) + (12345 : Int32))), some (.inl (v4 + (1 : Int32))), some (.inl v5)]) rfl ?_
      refine xv_iinc (pc := 58) (fr_get fo_170_2 2 rfl) rfl ic_1 (L' := [some (.inr (.inr (40, 0))), some (.inl v1), some (.inl v2), some (.inl ((v3 * (1103515245 : Int32)) + (12345 : Int32))), some (.inl (v4 + (1 : Int32))), some (.inl (v5 + (1 : Int32)))]) rfl ?_
      refine ex_goto (pc := 61) (fr_get fo_170_2 3 rfl) (t := 8) rfl ?_
      exact h

theorem e_171 {d : Nat} {I : ma_I} {o : Nat} {Q : ma_Q} {a1 : Int32} {a2 : Int32}
  (h :
    (¬((0 : Int32) ≤ a1 ∧ a1 ≤ (7 : Int32)) →
      Q (some (.inl (-2 : Int32))) I o) ∧
    ((0 : Int32) ≤ a1 ∧ a1 ≤ (7 : Int32) →
      Exm (d + 1) 170 [.inr (.inr (40, 0)), .inl a1, .inl a2] I o (fun r J1 p2 => ∃ x3 : Int32, r = some (.inl x3) ∧
        Q (some (.inl x3)) J1 p2))) :
  Exm (d + 2) 171 [.inr (.inr (40, 0)), .inl a1, .inl a2] I o Q := by
  show Ex (d + 2) 171 (0, [some (.inr (.inr (40, 0))), some (.inl a1), some (.inl a2)], [], ma_mem I o, 0, 0) (ma_end Q)
  refine ex_iload_n (pc := 0) (fr_get fo_171_0 0 rfl) rfl ?_
  refine xv_ks1 (pc := 1) (fr_get fo_171_0 1 rfl) cc_171_15 (as := [.inl a1]) (rs := []) rfl rfl rfl rfl ?_
  refine sm_121 ?_
  refine ⟨_, rfl, ?_⟩
  refine xv_peq (pc := 4) (fr_get fo_171_0 2 rfl) (t := 16) rfl (fun c => ?_) (fun c => ?_)
  · replace h := h.1 c
    refine ex_bipush (pc := 16) (fr_get fo_171_0 8 rfl) bp_m2 ?_
    exact ex_ireturn (pc := 18) (fr_get fo_171_0 9 rfl) rt_171 rfl rfl (ma_end_mk h)
  · replace h := h.2 c
    refine ex_aload_n (pc := 7) (fr_get fo_171_0 3 rfl) rfl rfl ?_
    refine ex_iload_n (pc := 8) (fr_get fo_171_0 4 rfl) rfl ?_
    refine ex_iload_n (pc := 9) (fr_get fo_171_0 5 rfl) rfl ?_
    refine xv_kv1 (pc := 10) (fr_get fo_171_0 6 rfl) cc_171_284 (as := [.inr (.inr (40, 0)), .inl a1, .inl a2]) (rs := []) rfl rfl rfl rfl rfl ?_
    refine h.mono (fun r J1 p2 h => ?_)
    obtain ⟨x3, hr, h⟩ := h
    refine ⟨x3, hr, ?_⟩
    refine ex_goto (pc := 13) (fr_get fo_171_0 7 rfl) (t := 18) rfl ?_
    exact ex_ireturn (pc := 18) (fr_get fo_171_0 9 rfl) rt_171 rfl rfl (ma_end_mk h)

theorem e_172 {d : Nat} {I : ma_I} {o : Nat} {Q : ma_Q} {a0 : Int64} {a1 : Int64}
  (h :
    Ex (d) 172 (6, [some (.inr (.inl a0)), none, some (.inr (.inl a1)), none, some (.inr (.inl a0)), none, some (.inr (.inl a1)), none, none, none], [], ma_mem I o, 0, 0) (ma_end Q)) :
  Exm (d) 172 [.inr (.inl a0), .inr (.inl a1)] I o Q := by
  show Ex (d) 172 (0, [some (.inr (.inl a0)), none, some (.inr (.inl a1)), none, none, none, none, none, none, none], [], ma_mem I o, 0, 0) (ma_end Q)
  refine ex_lload_n (pc := 0) (fr_get fo_172_0 0 rfl) rfl ?_
  refine ex_lstore (pc := 1) (fr_get fo_172_0 1 rfl) rfl (L' := [some (.inr (.inl a0)), none, some (.inr (.inl a1)), none, some (.inr (.inl a0)), none, none, none, none, none]) rfl ?_
  refine ex_lload_n (pc := 3) (fr_get fo_172_0 2 rfl) rfl ?_
  refine ex_lstore (pc := 4) (fr_get fo_172_0 3 rfl) rfl (L' := [some (.inr (.inl a0)), none, some (.inr (.inl a1)), none, some (.inr (.inl a0)), none, some (.inr (.inl a1)), none, none, none]) rfl ?_
  exact h

theorem b_172_6 {d : Nat} {I : ma_I} {o : Nat} {Q : ma_Q} {v0 : Int64} {v2 : Int64} {v4 : Int64} {v6 : Int64} {w8 : Option ma_V}
  (h :
    (lg_cmp v6 (0 : Int64) = 0 →
      Q (some (.inr (.inl v4))) I o) ∧
    (lg_cmp v6 (0 : Int64) ≠ 0 →
      v6 ≠ 0 ∧
      Ex (d) 172 (6, [some (.inr (.inl v0)), none, some (.inr (.inl v2)), none, some (.inr (.inl v6)), none, some (.inr (.inl (xv_rl v4 v6))), none, some (.inr (.inl (xv_rl v4 v6))), none], [], ma_mem I o, 0, 0) (ma_end Q))) :
  Ex (d) 172 (6, [some (.inr (.inl v0)), none, some (.inr (.inl v2)), none, some (.inr (.inl v4)), none, some (.inr (.inl v6)), none, w8, none], [], ma_mem I o, 0, 0) (ma_end Q) := by
  refine ex_lload (pc := 6) (fr_get fo_172_0 4 rfl) rfl ?_
  refine ex_lconst (pc := 8) (fr_get fo_172_0 5 rfl) (v := 0) rfl ?_
  refine ex_lcmp (pc := 9) (fr_get fo_172_0 6 rfl) ?_
  refine xv_beq (pc := 10) (fr_get fo_172_0 7 rfl) (t := 31) rfl (fun c => ?_) (fun c => ?_)
  · replace h := h.1 c
    refine ex_lload (pc := 31) (fr_get fo_172_1 1 rfl) rfl ?_
    exact ex_lreturn (pc := 33) (fr_get fo_172_1 2 rfl) rfl rfl rfl (ma_end_mk h)
  · replace h := h.2 c
    refine ex_lload (pc := 13) (fr_get fo_172_0 8 rfl) rfl ?_
    refine ex_lload (pc := 15) (fr_get fo_172_0 9 rfl) rfl ?_
    refine xv_lrem (pc := 17) (fr_get fo_172_0 10 rfl) h.1 ?_
    replace h := h.2
    refine ex_lstore (pc := 18) (fr_get fo_172_0 11 rfl) rfl (L' := [some (.inr (.inl v0)), none, some (.inr (.inl v2)), none, some (.inr (.inl v4)), none, some (.inr (.inl v6)), none, some (.inr (.inl (xv_rl v4 v6))), none]) rfl ?_
    refine ex_lload (pc := 20) (fr_get fo_172_0 12 rfl) rfl ?_
    refine ex_lstore (pc := 22) (fr_get fo_172_0 13 rfl) rfl (L' := [some (.inr (.inl v0)), none, some (.inr (.inl v2)), none, some (.inr (.inl v6)), none, some (.inr (.inl v6)), none, some (.inr (.inl (xv_rl v4 v6))), none]) rfl ?_
    refine ex_lload (pc := 24) (fr_get fo_172_0 14 rfl) rfl ?_
    refine ex_lstore (pc := 26) (fr_get fo_172_0 15 rfl) rfl (L' := [some (.inr (.inl v0)), none, some (.inr (.inl v2)), none, some (.inr (.inl v6)), none, some (.inr (.inl (xv_rl v4 v6))), none, some (.inr (.inl (xv_rl v4 v6))), none]) rfl ?_
    refine ex_goto (pc := 28) (fr_get fo_172_1 0 rfl) (t := 6) rfl ?_
    exact h

theorem e_173 {d : Nat} {I : ma_I} {o : Nat} {Q : ma_Q} {a1 : Int32} {a2 : Int32} {a3 : Int32} {a4 : Int32} {a5 : Int32}
  (h :
    (¬((0 : Int32) ≤ a1 ∧ a1 ≤ (7 : Int32)) →
      Q (some (.inr (.inl (-4611686018427387904 : Int64)))) I o) ∧
    ((0 : Int32) ≤ a1 ∧ a1 ≤ (7 : Int32) →
      (¬((1 : Int32) ≤ a3 ∧ a3 ≤ (20 : Int32)) →
        Q (some (.inr (.inl (-4611686018427387904 : Int64)))) I o) ∧
      ((1 : Int32) ≤ a3 ∧ a3 ≤ (20 : Int32) →
        (¬((0 : Int32) ≤ a4 ∧ a4 ≤ (10 : Int32)) →
          Q (some (.inr (.inl (-4611686018427387904 : Int64)))) I o) ∧
        ((0 : Int32) ≤ a4 ∧ a4 ≤ (10 : Int32) →
          ((0 : Int32) ≤ a5 ∧ a5 ≤ (1 : Int32) →
            Ex (d + 2) 173 (48, [some (.inr (.inr (40, 0))), some (.inl a1), some (.inl a2), some (.inl a3), some (.inl a4), some (.inl a5), some (.inr (.inl (0 : Int64))), none, some (.inl (0 : Int32)), none], [], ma_mem I o, 0, 0) (ma_end Q)) ∧
          (¬((0 : Int32) ≤ a5 ∧ a5 ≤ (1 : Int32)) →
            Q (some (.inr (.inl (-4611686018427387904 : Int64)))) I o))))) :
  Exm (d + 2) 173 [.inr (.inr (40, 0)), .inl a1, .inl a2, .inl a3, .inl a4, .inl a5] I o Q := by
  show Ex (d + 2) 173 (0, [some (.inr (.inr (40, 0))), some (.inl a1), some (.inl a2), some (.inl a3), some (.inl a4), some (.inl a5), none, none, none, none], [], ma_mem I o, 0, 0) (ma_end Q)
  refine ex_iload_n (pc := 0) (fr_get fo_173_0 0 rfl) rfl ?_
  refine xv_ks1 (pc := 1) (fr_get fo_173_0 1 rfl) cc_173_15 (as := [.inl a1]) (rs := []) rfl rfl rfl rfl ?_
  refine sm_121 ?_
  refine ⟨_, rfl, ?_⟩
  refine xv_peq (pc := 4) (fr_get fo_173_0 2 rfl) (t := 38) rfl (fun c => ?_) (fun c => ?_)
  · replace h := h.1 c
    refine ex_ldc2 (pc := 38) (fr_get fo_173_1 2 rfl) ow_173 kl_9_287 ?_
    exact ex_lreturn (pc := 41) (fr_get fo_173_1 3 rfl) rfl rfl rfl (ma_end_mk h)
  · replace h := h.2 c
    refine ex_iload_n (pc := 7) (fr_get fo_173_0 3 rfl) rfl ?_
    refine ex_iconst (pc := 8) (fr_get fo_173_0 4 rfl) ic_1 ?_
    refine ex_bipush (pc := 9) (fr_get fo_173_0 5 rfl) bp_20 ?_
    refine xv_ks1 (pc := 11) (fr_get fo_173_0 6 rfl) cc_173_3 (as := [.inl a3, .inl (1 : Int32), .inl (20 : Int32)]) (rs := []) rfl rfl rfl rfl ?_
    refine sm_118 ?_
    refine ⟨_, rfl, ?_⟩
    refine xv_peq (pc := 14) (fr_get fo_173_0 7 rfl) (t := 38) rfl (fun c => ?_) (fun c => ?_)
    · replace h := h.1 c
      refine ex_ldc2 (pc := 38) (fr_get fo_173_1 2 rfl) ow_173 kl_9_287 ?_
      exact ex_lreturn (pc := 41) (fr_get fo_173_1 3 rfl) rfl rfl rfl (ma_end_mk h)
    · replace h := h.2 c
      refine ex_iload (pc := 17) (fr_get fo_173_0 8 rfl) rfl ?_
      refine ex_iconst (pc := 19) (fr_get fo_173_0 9 rfl) ic_0 ?_
      refine ex_bipush (pc := 20) (fr_get fo_173_0 10 rfl) bp_10 ?_
      refine xv_ks1 (pc := 22) (fr_get fo_173_0 11 rfl) cc_173_3 (as := [.inl a4, .inl (0 : Int32), .inl (10 : Int32)]) (rs := []) rfl rfl rfl rfl ?_
      refine sm_118 ?_
      refine ⟨_, rfl, ?_⟩
      refine xv_peq (pc := 25) (fr_get fo_173_0 12 rfl) (t := 38) rfl (fun c => ?_) (fun c => ?_)
      · replace h := h.1 c
        refine ex_ldc2 (pc := 38) (fr_get fo_173_1 2 rfl) ow_173 kl_9_287 ?_
        exact ex_lreturn (pc := 41) (fr_get fo_173_1 3 rfl) rfl rfl rfl (ma_end_mk h)
      · replace h := h.2 c
        refine ex_iload (pc := 28) (fr_get fo_173_0 13 rfl) rfl ?_
        refine ex_iconst (pc := 30) (fr_get fo_173_0 14 rfl) ic_0 ?_
        refine ex_iconst (pc := 31) (fr_get fo_173_0 15 rfl) ic_1 ?_
        refine xv_ks1 (pc := 32) (fr_get fo_173_1 0 rfl) cc_173_3 (as := [.inl a5, .inl (0 : Int32), .inl (1 : Int32)]) (rs := []) rfl rfl rfl rfl ?_
        refine sm_118 ?_
        refine ⟨_, rfl, ?_⟩
        refine xv_pne (pc := 35) (fr_get fo_173_1 1 rfl) (t := 42) rfl (fun c => ?_) (fun c => ?_)
        · replace h := h.1 c
          refine ex_lconst (pc := 42) (fr_get fo_173_1 4 rfl) (v := 0) rfl ?_
          refine ex_lstore (pc := 43) (fr_get fo_173_1 5 rfl) rfl (L' := [some (.inr (.inr (40, 0))), some (.inl a1), some (.inl a2), some (.inl a3), some (.inl a4), some (.inl a5), some (.inr (.inl (0 : Int64))), none, none, none]) rfl ?_
          refine ex_iconst (pc := 45) (fr_get fo_173_1 6 rfl) ic_0 ?_
          refine ex_istore (pc := 46) (fr_get fo_173_1 7 rfl) rfl (L' := [some (.inr (.inr (40, 0))), some (.inl a1), some (.inl a2), some (.inl a3), some (.inl a4), some (.inl a5), some (.inr (.inl (0 : Int64))), none, some (.inl (0 : Int32)), none]) rfl ?_
          exact h
        · replace h := h.2 c
          refine ex_ldc2 (pc := 38) (fr_get fo_173_1 2 rfl) ow_173 kl_9_287 ?_
          exact ex_lreturn (pc := 41) (fr_get fo_173_1 3 rfl) rfl rfl rfl (ma_end_mk h)

theorem b_173_48 {d : Nat} {I : ma_I} {o : Nat} {Q : ma_Q} {v1 : Int32} {v2 : Int32} {v3 : Int32} {v4 : Int32} {v5 : Int32} {v6 : Int64} {v8 : Int32}
  (h :
    (v3 ≤ v8 →
      Exm (d + 1) 172 [.inr (.inl v6), .inr (.inl (Int32.toInt64 v3))] I o (fun r J1 p2 => ∃ x3 : Int64, r = some (.inr (.inl x3)) ∧
        (v5 ≠ 0 →
          x3 ≠ 0 ∧
          Q (some (.inr (.inl ((Int32.toInt64 v3) / x3)))) J1 p2) ∧
        (v5 = 0 →
          x3 ≠ 0 ∧
          Q (some (.inr (.inl (v6 / x3)))) J1 p2))) ∧
    (v8 < v3 →
      Exm (d + 1) 170 [.inr (.inr (40, 0)), .inl v1, .inl (v2 + v8)] I o (fun r J4 p5 => ∃ x6 : Int32, r = some (.inl x6) ∧
        (x6 < v4 →
          Ex (d + 2) 173 (48, [some (.inr (.inr (40, 0))), some (.inl v1), some (.inl v2), some (.inl v3), some (.inl v4), some (.inl v5), some (.inr (.inl (v6 + (0 : Int64)))), none, some (.inl (v8 + (1 : Int32))), none], [], ma_mem J4 p5, 0, 0) (ma_end Q)) ∧
        (v4 ≤ x6 →
          Ex (d + 2) 173 (48, [some (.inr (.inr (40, 0))), some (.inl v1), some (.inl v2), some (.inl v3), some (.inl v4), some (.inl v5), some (.inr (.inl (v6 + (1 : Int64)))), none, some (.inl (v8 + (1 : Int32))), none], [], ma_mem J4 p5, 0, 0) (ma_end Q))))) :
  Ex (d + 2) 173 (48, [some (.inr (.inr (40, 0))), some (.inl v1), some (.inl v2), some (.inl v3), some (.inl v4), some (.inl v5), some (.inr (.inl v6)), none, some (.inl v8), none], [], ma_mem I o, 0, 0) (ma_end Q) := by
  refine ex_iload (pc := 48) (fr_get fo_173_1 8 rfl) rfl ?_
  refine ex_iload_n (pc := 50) (fr_get fo_173_1 9 rfl) rfl ?_
  refine xv_cge (pc := 51) (fr_get fo_173_1 10 rfl) (t := 84) rfl (fun c => ?_) (fun c => ?_)
  · replace h := h.1 c
    refine ex_lload (pc := 84) (fr_get fo_173_2 11 rfl) rfl ?_
    refine ex_iload_n (pc := 86) (fr_get fo_173_2 12 rfl) rfl ?_
    refine ex_i2l (pc := 87) (fr_get fo_173_2 13 rfl) ?_
    refine xv_ks2 (pc := 88) (fr_get fo_173_2 14 rfl) cc_173_289 (as := [.inr (.inl v6), .inr (.inl (Int32.toInt64 v3))]) (rs := []) rfl rfl rfl rfl ?_
    refine h.mono (fun r J1 p2 h => ?_)
    obtain ⟨x3, hr, h⟩ := h
    refine ⟨x3, hr, ?_⟩
    refine ex_lstore (pc := 91) (fr_get fo_173_2 15 rfl) rfl (L' := [some (.inr (.inr (40, 0))), some (.inl v1), some (.inl v2), some (.inl v3), some (.inl v4), some (.inl v5), some (.inr (.inl v6)), none, some (.inr (.inl x3)), none]) rfl ?_
    refine ex_iload (pc := 93) (fr_get fo_173_3 0 rfl) rfl ?_
    refine xv_bne (pc := 95) (fr_get fo_173_3 1 rfl) (t := 106) rfl (fun c => ?_) (fun c => ?_)
    · replace h := h.1 c
      refine ex_iload_n (pc := 106) (fr_get fo_173_3 6 rfl) rfl ?_
      refine ex_i2l (pc := 107) (fr_get fo_173_3 7 rfl) ?_
      refine ex_lload (pc := 108) (fr_get fo_173_3 8 rfl) rfl ?_
      refine xv_ldiv (pc := 110) (fr_get fo_173_3 9 rfl) h.1 ?_
      replace h := h.2
      exact ex_lreturn (pc := 111) (fr_get fo_173_3 10 rfl) rfl rfl rfl (ma_end_mk h)
    · replace h := h.2 c
      refine ex_lload (pc := 98) (fr_get fo_173_3 2 rfl) rfl ?_
      refine ex_lload (pc := 100) (fr_get fo_173_3 3 rfl) rfl ?_
      refine xv_ldiv (pc := 102) (fr_get fo_173_3 4 rfl) h.1 ?_
      replace h := h.2
      refine ex_goto (pc := 103) (fr_get fo_173_3 5 rfl) (t := 111) rfl ?_
      exact ex_lreturn (pc := 111) (fr_get fo_173_3 10 rfl) rfl rfl rfl (ma_end_mk h)
  · replace h := h.2 c
    refine ex_lload (pc := 54) (fr_get fo_173_1 11 rfl) rfl ?_
    refine ex_aload_n (pc := 56) (fr_get fo_173_1 12 rfl) rfl rfl ?_
    refine ex_iload_n (pc := 57) (fr_get fo_173_1 13 rfl) rfl ?_
    refine ex_iload_n (pc := 58) (fr_get fo_173_1 14 rfl) rfl ?_
    refine ex_iload (pc := 59) (fr_get fo_173_1 15 rfl) rfl ?_
    refine ex_iadd (pc := 61) (fr_get fo_173_2 0 rfl) ?_
    refine xv_kv1 (pc := 62) (fr_get fo_173_2 1 rfl) cc_173_284 (as := [.inr (.inr (40, 0)), .inl v1, .inl (v2 + v8)]) (rs := [.inr (.inl v6)]) rfl rfl rfl rfl rfl ?_
    refine h.mono (fun r J4 p5 h => ?_)
    obtain ⟨x6, hr, h⟩ := h
    refine ⟨x6, hr, ?_⟩
    refine ex_iload (pc := 65) (fr_get fo_173_2 2 rfl) rfl ?_
    refine xv_clt (pc := 67) (fr_get fo_173_2 3 rfl) (t := 74) rfl (fun c => ?_) (fun c => ?_)
    · replace h := h.1 c
      refine ex_lconst (pc := 74) (fr_get fo_173_2 6 rfl) (v := 0) rfl ?_
      refine ex_ladd (pc := 75) (fr_get fo_173_2 7 rfl) ?_
      refine ex_lstore (pc := 76) (fr_get fo_173_2 8 rfl) rfl (L' := [some (.inr (.inr (40, 0))), some (.inl v1), some (.inl v2), some (.inl v3), some (.inl v4), some (.inl v5), some (.inr (.inl (v6 + (0 : Int64)))), none, some (.inl v8), none]) rfl ?_
      refine xv_iinc (pc := 78) (fr_get fo_173_2 9 rfl) rfl ic_1 (L' := [some (.inr (.inr (40, 0))), some (.inl v1), some (.inl v2), some (.inl v3), some (.inl v4), some (.inl v5), some (.inr (.inl (v6 + (0 : Int64)))), none, some (.inl (v8 + (1 : Int32))), none]) rfl ?_
      refine ex_goto (pc := 81) (fr_get fo_173_2 10 rfl) (t := 48) rfl ?_
      exact h
    · replace h := h.2 c
      refine ex_lconst (pc := 70) (fr_get fo_173_2 4 rfl) (v := 1) rfl ?_
      refine ex_goto (pc := 71) (fr_get fo_173_2 5 rfl) (t := 75) rfl ?_
      refine ex_ladd (pc := 75) (fr_get fo_173_2 7 rfl) ?_
      refine ex_lstore (pc := 76) (fr_get fo_173_2 8 rfl) rfl (L' := [some (.inr (.inr (40, 0))), some (.inl v1), some (.inl v2), some (.inl v3), some (.inl v4), some (.inl v5), some (.inr (.inl (v6 + (1 : Int64)))), none, some (.inl v8), none]) rfl ?_
      refine xv_iinc (pc := 78) (fr_get fo_173_2 9 rfl) rfl ic_1 (L' := [some (.inr (.inr (40, 0))), some (.inl v1), some (.inl v2), some (.inl v3), some (.inl v4), some (.inl v5), some (.inr (.inl (v6 + (1 : Int64)))), none, some (.inl (v8 + (1 : Int32))), none]) rfl ?_
      refine ex_goto (pc := 81) (fr_get fo_173_2 10 rfl) (t := 48) rfl ?_
      exact h

theorem e_174_42_60 {d : Nat} {I : ma_I} {o : Nat} {Q : ma_Q} {a2 : Int32} {a3 : Int32}
  (h :
    (a3 ≠ 0 →
      Ex (d) 174 (16, [some (.inr (.inr (42, 0))), some (.inr (.inr (60, 0))), some (.inl a2), some (.inl a3), some (.inl (Int32.ofNat 64)), some (.inl (0 : Int32))], [], ma_mem I o, 0, 0) (ma_end Q)) ∧
    (a3 = 0 →
      Ex (d) 174 (16, [some (.inr (.inr (42, 0))), some (.inr (.inr (60, 0))), some (.inl a2), some (.inl a3), some (.inl (Int32.ofNat 6)), some (.inl (0 : Int32))], [], ma_mem I o, 0, 0) (ma_end Q))) :
  Exm (d) 174 [.inr (.inr (42, 0)), .inr (.inr (60, 0)), .inl a2, .inl a3] I o Q := by
  show Ex (d) 174 (0, [some (.inr (.inr (42, 0))), some (.inr (.inr (60, 0))), some (.inl a2), some (.inl a3), none, none], [], ma_mem I o, 0, 0) (ma_end Q)
  refine ex_iload_n (pc := 0) (fr_get fo_174_0 0 rfl) rfl ?_
  refine xv_bne (pc := 1) (fr_get fo_174_0 1 rfl) (t := 9) rfl (fun c => ?_) (fun c => ?_)
  · replace h := h.1 c
    refine ex_aload_n (pc := 9) (fr_get fo_174_0 5 rfl) rfl rfl ?_
    refine ex_arraylength (pc := 10) (fr_get fo_174_0 6 rfl) gz_60 (n := 64) (gn_60 ..) ?_
    refine ex_istore (pc := 11) (fr_get fo_174_0 7 rfl) rfl (L' := [some (.inr (.inr (42, 0))), some (.inr (.inr (60, 0))), some (.inl a2), some (.inl a3), some (.inl (Int32.ofNat 64)), none]) rfl ?_
    refine ex_iconst (pc := 13) (fr_get fo_174_0 8 rfl) ic_0 ?_
    refine ex_istore (pc := 14) (fr_get fo_174_0 9 rfl) rfl (L' := [some (.inr (.inr (42, 0))), some (.inr (.inr (60, 0))), some (.inl a2), some (.inl a3), some (.inl (Int32.ofNat 64)), some (.inl (0 : Int32))]) rfl ?_
    exact h
  · replace h := h.2 c
    refine ex_aload_n (pc := 4) (fr_get fo_174_0 2 rfl) rfl rfl ?_
    refine ex_arraylength (pc := 5) (fr_get fo_174_0 3 rfl) gz_42 (n := 6) (gn_42 ..) ?_
    refine ex_goto (pc := 6) (fr_get fo_174_0 4 rfl) (t := 11) rfl ?_
    refine ex_istore (pc := 11) (fr_get fo_174_0 7 rfl) rfl (L' := [some (.inr (.inr (42, 0))), some (.inr (.inr (60, 0))), some (.inl a2), some (.inl a3), some (.inl (Int32.ofNat 6)), none]) rfl ?_
    refine ex_iconst (pc := 13) (fr_get fo_174_0 8 rfl) ic_0 ?_
    refine ex_istore (pc := 14) (fr_get fo_174_0 9 rfl) rfl (L' := [some (.inr (.inr (42, 0))), some (.inr (.inr (60, 0))), some (.inl a2), some (.inl a3), some (.inl (Int32.ofNat 6)), some (.inl (0 : Int32))]) rfl ?_
    exact h

theorem b_174_42_60_16 {d : Nat} {I : ma_I} {o : Nat} {Q : ma_Q} {v2 : Int32} {v3 : Int32} {v4 : Int32} {v5 : Int32}
  (h :
    (v4 ≤ v5 →
      Q none I o) ∧
    (v5 < v4 →
      ((9 : Int32) ≤ v5 →
        Q none I o) ∧
      (v5 < (9 : Int32) →
        (v3 ≠ 0 →
          ma_in (v2 + v5) 6 ∧
          ma_in v5 64 ∧
          Ex (d) 174 (16, [some (.inr (.inr (42, 0))), some (.inr (.inr (60, 0))), some (.inl v2), some (.inl v3), some (.inl v4), some (.inl (v5 + (1 : Int32)))], [], ma_mem (ma_up I 60 0 v5.toNatClampNeg (I 42 0 ((v2 + v5).toNatClampNeg))) o, 0, 0) (ma_end Q)) ∧
        (v3 = 0 →
          ma_in v5 6 ∧
          ma_in (v2 + v5) 64 ∧
          Ex (d) 174 (16, [some (.inr (.inr (42, 0))), some (.inr (.inr (60, 0))), some (.inl v2), some (.inl v3), some (.inl v4), some (.inl (v5 + (1 : Int32)))], [], ma_mem (ma_up I 60 0 ((v2 + v5).toNatClampNeg) (I 42 0 v5.toNatClampNeg)) o, 0, 0) (ma_end Q))))) :
  Ex (d) 174 (16, [some (.inr (.inr (42, 0))), some (.inr (.inr (60, 0))), some (.inl v2), some (.inl v3), some (.inl v4), some (.inl v5)], [], ma_mem I o, 0, 0) (ma_end Q) := by
  refine ex_iload (pc := 16) (fr_get fo_174_0 10 rfl) rfl ?_
  refine ex_iload (pc := 18) (fr_get fo_174_0 11 rfl) rfl ?_
  refine xv_cge (pc := 20) (fr_get fo_174_0 12 rfl) (t := 63) rfl (fun c => ?_) (fun c => ?_)
  · replace h := h.1 c
    exact ex_return (pc := 63) (fr_get fo_174_2 5 rfl) rt_174 rfl rfl (ma_end_mk h)
  · replace h := h.2 c
    refine ex_iload (pc := 23) (fr_get fo_174_0 13 rfl) rfl ?_
    refine ex_bipush (pc := 25) (fr_get fo_174_0 14 rfl) bp_9 ?_
    refine xv_cge (pc := 27) (fr_get fo_174_0 15 rfl) (t := 63) rfl (fun c => ?_) (fun c => ?_)
    · replace h := h.1 c
      exact ex_return (pc := 63) (fr_get fo_174_2 5 rfl) rt_174 rfl rfl (ma_end_mk h)
    · replace h := h.2 c
      refine ex_iload_n (pc := 30) (fr_get fo_174_1 0 rfl) rfl ?_
      refine xv_bne (pc := 31) (fr_get fo_174_1 1 rfl) (t := 47) rfl (fun c => ?_) (fun c => ?_)
      · replace h := h.1 c
        refine ex_aload_n (pc := 47) (fr_get fo_174_1 11 rfl) rfl rfl ?_
        refine ex_iload (pc := 48) (fr_get fo_174_1 12 rfl) rfl ?_
        refine ex_aload_n (pc := 50) (fr_get fo_174_1 13 rfl) rfl rfl ?_
        refine ex_iload_n (pc := 51) (fr_get fo_174_1 14 rfl) rfl ?_
        refine ex_iload (pc := 52) (fr_get fo_174_1 15 rfl) rfl ?_
        refine ex_iadd (pc := 54) (fr_get fo_174_2 0 rfl) ?_
        refine xv_iald (pc := 55) (fr_get fo_174_2 1 rfl) gk_42 (n := 6) (gn_42 ..) rfl rfl h.1 ?_
        replace h := h.2
        refine xv_iast (pc := 56) (fr_get fo_174_2 2 rfl) gs_60 gl_60 rfl h.1 ?_
        replace h := h.2
        refine xv_iinc (pc := 57) (fr_get fo_174_2 3 rfl) rfl ic_1 (L' := [some (.inr (.inr (42, 0))), some (.inr (.inr (60, 0))), some (.inl v2), some (.inl v3), some (.inl v4), some (.inl (v5 + (1 : Int32)))]) rfl ?_
        refine ex_goto (pc := 60) (fr_get fo_174_2 4 rfl) (t := 16) rfl ?_
        exact h
      · replace h := h.2 c
        refine ex_aload_n (pc := 34) (fr_get fo_174_1 2 rfl) rfl rfl ?_
        refine ex_iload_n (pc := 35) (fr_get fo_174_1 3 rfl) rfl ?_
        refine ex_iload (pc := 36) (fr_get fo_174_1 4 rfl) rfl ?_
        refine ex_iadd (pc := 38) (fr_get fo_174_1 5 rfl) ?_
        refine ex_aload_n (pc := 39) (fr_get fo_174_1 6 rfl) rfl rfl ?_
        refine ex_iload (pc := 40) (fr_get fo_174_1 7 rfl) rfl ?_
        refine xv_iald (pc := 42) (fr_get fo_174_1 8 rfl) gk_42 (n := 6) (gn_42 ..) rfl rfl h.1 ?_
        replace h := h.2
        refine xv_iast (pc := 43) (fr_get fo_174_1 9 rfl) gs_60 gl_60 rfl h.1 ?_
        replace h := h.2
        refine ex_goto (pc := 44) (fr_get fo_174_1 10 rfl) (t := 57) rfl ?_
        refine xv_iinc (pc := 57) (fr_get fo_174_2 3 rfl) rfl ic_1 (L' := [some (.inr (.inr (42, 0))), some (.inr (.inr (60, 0))), some (.inl v2), some (.inl v3), some (.inl v4), some (.inl (v5 + (1 : Int32)))]) rfl ?_
        refine ex_goto (pc := 60) (fr_get fo_174_2 4 rfl) (t := 16) rfl ?_
        exact h

theorem e_174_44_60 {d : Nat} {I : ma_I} {o : Nat} {Q : ma_Q} {a2 : Int32} {a3 : Int32}
  (h :
    (a3 ≠ 0 →
      Ex (d) 174 (16, [some (.inr (.inr (44, 0))), some (.inr (.inr (60, 0))), some (.inl a2), some (.inl a3), some (.inl (Int32.ofNat 64)), some (.inl (0 : Int32))], [], ma_mem I o, 0, 0) (ma_end Q)) ∧
    (a3 = 0 →
      Ex (d) 174 (16, [some (.inr (.inr (44, 0))), some (.inr (.inr (60, 0))), some (.inl a2), some (.inl a3), some (.inl (Int32.ofNat 9)), some (.inl (0 : Int32))], [], ma_mem I o, 0, 0) (ma_end Q))) :
  Exm (d) 174 [.inr (.inr (44, 0)), .inr (.inr (60, 0)), .inl a2, .inl a3] I o Q := by
  show Ex (d) 174 (0, [some (.inr (.inr (44, 0))), some (.inr (.inr (60, 0))), some (.inl a2), some (.inl a3), none, none], [], ma_mem I o, 0, 0) (ma_end Q)
  refine ex_iload_n (pc := 0) (fr_get fo_174_0 0 rfl) rfl ?_
  refine xv_bne (pc := 1) (fr_get fo_174_0 1 rfl) (t := 9) rfl (fun c => ?_) (fun c => ?_)
  · replace h := h.1 c
    refine ex_aload_n (pc := 9) (fr_get fo_174_0 5 rfl) rfl rfl ?_
    refine ex_arraylength (pc := 10) (fr_get fo_174_0 6 rfl) gz_60 (n := 64) (gn_60 ..) ?_
    refine ex_istore (pc := 11) (fr_get fo_174_0 7 rfl) rfl (L' := [some (.inr (.inr (44, 0))), some (.inr (.inr (60, 0))), some (.inl a2), some (.inl a3), some (.inl (Int32.ofNat 64)), none]) rfl ?_
    refine ex_iconst (pc := 13) (fr_get fo_174_0 8 rfl) ic_0 ?_
    refine ex_istore (pc := 14) (fr_get fo_174_0 9 rfl) rfl (L' := [some (.inr (.inr (44, 0))), some (.inr (.inr (60, 0))), some (.inl a2), some (.inl a3), some (.inl (Int32.ofNat 64)), some (.inl (0 : Int32))]) rfl ?_
    exact h
  · replace h := h.2 c
    refine ex_aload_n (pc := 4) (fr_get fo_174_0 2 rfl) rfl rfl ?_
    refine ex_arraylength (pc := 5) (fr_get fo_174_0 3 rfl) gz_44 (n := 9) (gn_44 ..) ?_
    refine ex_goto (pc := 6) (fr_get fo_174_0 4 rfl) (t := 11) rfl ?_
    refine ex_istore (pc := 11) (fr_get fo_174_0 7 rfl) rfl (L' := [some (.inr (.inr (44, 0))), some (.inr (.inr (60, 0))), some (.inl a2), some (.inl a3), some (.inl (Int32.ofNat 9)), none]) rfl ?_
    refine ex_iconst (pc := 13) (fr_get fo_174_0 8 rfl) ic_0 ?_
    refine ex_istore (pc := 14) (fr_get fo_174_0 9 rfl) rfl (L' := [some (.inr (.inr (44, 0))), some (.inr (.inr (60, 0))), some (.inl a2), some (.inl a3), some (.inl (Int32.ofNat 9)), some (.inl (0 : Int32))]) rfl ?_
    exact h

theorem b_174_44_60_16 {d : Nat} {I : ma_I} {o : Nat} {Q : ma_Q} {v2 : Int32} {v3 : Int32} {v4 : Int32} {v5 : Int32}
  (h :
    (v4 ≤ v5 →
      Q none I o) ∧
    (v5 < v4 →
      ((9 : Int32) ≤ v5 →
        Q none I o) ∧
      (v5 < (9 : Int32) →
        (v3 ≠ 0 →
          ma_in (v2 + v5) 9 ∧
          ma_in v5 64 ∧
          Ex (d) 174 (16, [some (.inr (.inr (44, 0))), some (.inr (.inr (60, 0))), some (.inl v2), some (.inl v3), some (.inl v4), some (.inl (v5 + (1 : Int32)))], [], ma_mem (ma_up I 60 0 v5.toNatClampNeg (I 44 0 ((v2 + v5).toNatClampNeg))) o, 0, 0) (ma_end Q)) ∧
        (v3 = 0 →
          ma_in v5 9 ∧
          ma_in (v2 + v5) 64 ∧
          Ex (d) 174 (16, [some (.inr (.inr (44, 0))), some (.inr (.inr (60, 0))), some (.inl v2), some (.inl v3), some (.inl v4), some (.inl (v5 + (1 : Int32)))], [], ma_mem (ma_up I 60 0 ((v2 + v5).toNatClampNeg) (I 44 0 v5.toNatClampNeg)) o, 0, 0) (ma_end Q))))) :
  Ex (d) 174 (16, [some (.inr (.inr (44, 0))), some (.inr (.inr (60, 0))), some (.inl v2), some (.inl v3), some (.inl v4), some (.inl v5)], [], ma_mem I o, 0, 0) (ma_end Q) := by
  refine ex_iload (pc := 16) (fr_get fo_174_0 10 rfl) rfl ?_
  refine ex_iload (pc := 18) (fr_get fo_174_0 11 rfl) rfl ?_
  refine xv_cge (pc := 20) (fr_get fo_174_0 12 rfl) (t := 63) rfl (fun c => ?_) (fun c => ?_)
  · replace h := h.1 c
    exact ex_return (pc := 63) (fr_get fo_174_2 5 rfl) rt_174 rfl rfl (ma_end_mk h)
  · replace h := h.2 c
    refine ex_iload (pc := 23) (fr_get fo_174_0 13 rfl) rfl ?_
    refine ex_bipush (pc := 25) (fr_get fo_174_0 14 rfl) bp_9 ?_
    refine xv_cge (pc := 27) (fr_get fo_174_0 15 rfl) (t := 63) rfl (fun c => ?_) (fun c => ?_)
    · replace h := h.1 c
      exact ex_return (pc := 63) (fr_get fo_174_2 5 rfl) rt_174 rfl rfl (ma_end_mk h)
    · replace h := h.2 c
      refine ex_iload_n (pc := 30) (fr_get fo_174_1 0 rfl) rfl ?_
      refine xv_bne (pc := 31) (fr_get fo_174_1 1 rfl) (t := 47) rfl (fun c => ?_) (fun c => ?_)
      · replace h := h.1 c
        refine ex_aload_n (pc := 47) (fr_get fo_174_1 11 rfl) rfl rfl ?_
        refine ex_iload (pc := 48) (fr_get fo_174_1 12 rfl) rfl ?_
        refine ex_aload_n (pc := 50) (fr_get fo_174_1 13 rfl) rfl rfl ?_
        refine ex_iload_n (pc := 51) (fr_get fo_174_1 14 rfl) rfl ?_
        refine ex_iload (pc := 52) (fr_get fo_174_1 15 rfl) rfl ?_
        refine ex_iadd (pc := 54) (fr_get fo_174_2 0 rfl) ?_
        refine xv_iald (pc := 55) (fr_get fo_174_2 1 rfl) gk_44 (n := 9) (gn_44 ..) rfl rfl h.1 ?_
        replace h := h.2
        refine xv_iast (pc := 56) (fr_get fo_174_2 2 rfl) gs_60 gl_60 rfl h.1 ?_
        replace h := h.2
        refine xv_iinc (pc := 57) (fr_get fo_174_2 3 rfl) rfl ic_1 (L' := [some (.inr (.inr (44, 0))), some (.inr (.inr (60, 0))), some (.inl v2), some (.inl v3), some (.inl v4), some (.inl (v5 + (1 : Int32)))]) rfl ?_
        refine ex_goto (pc := 60) (fr_get fo_174_2 4 rfl) (t := 16) rfl ?_
        exact h
      · replace h := h.2 c
        refine ex_aload_n (pc := 34) (fr_get fo_174_1 2 rfl) rfl rfl ?_
        refine ex_iload_n (pc := 35) (fr_get fo_174_1 3 rfl) rfl ?_
        refine ex_iload (pc := 36) (fr_get fo_174_1 4 rfl) rfl ?_
        refine ex_iadd (pc := 38) (fr_get fo_174_1 5 rfl) ?_
        refine ex_aload_n (pc := 39) (fr_get fo_174_1 6 rfl) rfl rfl ?_
        refine ex_iload (pc := 40) (fr_get fo_174_1 7 rfl) rfl ?_
        refine xv_iald (pc := 42) (fr_get fo_174_1 8 rfl) gk_44 (n := 9) (gn_44 ..) rfl rfl h.1 ?_
        replace h := h.2
        refine xv_iast (pc := 43) (fr_get fo_174_1 9 rfl) gs_60 gl_60 rfl h.1 ?_
        replace h := h.2
        refine ex_goto (pc := 44) (fr_get fo_174_1 10 rfl) (t := 57) rfl ?_
        refine xv_iinc (pc := 57) (fr_get fo_174_2 3 rfl) rfl ic_1 (L' := [some (.inr (.inr (44, 0))), some (.inr (.inr (60, 0))), some (.inl v2), some (.inl v3), some (.inl v4), some (.inl (v5 + (1 : Int32)))]) rfl ?_
        refine ex_goto (pc := 60) (fr_get fo_174_2 4 rfl) (t := 16) rfl ?_
        exact h

theorem e_174_45_60 {d : Nat} {I : ma_I} {o : Nat} {Q : ma_Q} {a2 : Int32} {a3 : Int32}
  (h :
    (a3 ≠ 0 →
      Ex (d) 174 (16, [some (.inr (.inr (45, 0))), some (.inr (.inr (60, 0))), some (.inl a2), some (.inl a3), some (.inl (Int32.ofNat 64)), some (.inl (0 : Int32))], [], ma_mem I o, 0, 0) (ma_end Q)) ∧
    (a3 = 0 →
      Ex (d) 174 (16, [some (.inr (.inr (45, 0))), some (.inr (.inr (60, 0))), some (.inl a2), some (.inl a3), some (.inl (Int32.ofNat 9)), some (.inl (0 : Int32))], [], ma_mem I o, 0, 0) (ma_end Q))) :
  Exm (d) 174 [.inr (.inr (45, 0)), .inr (.inr (60, 0)), .inl a2, .inl a3] I o Q := by
  show Ex (d) 174 (0, [some (.inr (.inr (45, 0))), some (.inr (.inr (60, 0))), some (.inl a2), some (.inl a3), none, none], [], ma_mem I o, 0, 0) (ma_end Q)
  refine ex_iload_n (pc := 0) (fr_get fo_174_0 0 rfl) rfl ?_
  refine xv_bne (pc := 1) (fr_get fo_174_0 1 rfl) (t := 9) rfl (fun c => ?_) (fun c => ?_)
  · replace h := h.1 c
    refine ex_aload_n (pc := 9) (fr_get fo_174_0 5 rfl) rfl rfl ?_
    refine ex_arraylength (pc := 10) (fr_get fo_174_0 6 rfl) gz_60 (n := 64) (gn_60 ..) ?_
    refine ex_istore (pc := 11) (fr_get fo_174_0 7 rfl) rfl (L' := [some (.inr (.inr (45, 0))), some (.inr (.inr (60, 0))), some (.inl a2), some (.inl a3), some (.inl (Int32.ofNat 64)), none]) rfl ?_
    refine ex_iconst (pc := 13) (fr_get fo_174_0 8 rfl) ic_0 ?_
    refine ex_istore (pc := 14) (fr_get fo_174_0 9 rfl) rfl (L' := [some (.inr (.inr (45, 0))), some (.inr (.inr (60, 0))), some (.inl a2), some (.inl a3), some (.inl (Int32.ofNat 64)), some (.inl (0 : Int32))]) rfl ?_
    exact h
  · replace h := h.2 c
    refine ex_aload_n (pc := 4) (fr_get fo_174_0 2 rfl) rfl rfl ?_
    refine ex_arraylength (pc := 5) (fr_get fo_174_0 3 rfl) gz_45 (n := 9) (gn_45 ..) ?_
    refine ex_goto (pc := 6) (fr_get fo_174_0 4 rfl) (t := 11) rfl ?_
    refine ex_istore (pc := 11) (fr_get fo_174_0 7 rfl) rfl (L' := [some (.inr (.inr (45, 0))), some (.inr (.inr (60, 0))), some (.inl a2), some (.inl a3), some (.inl (Int32.ofNat 9)), none]) rfl ?_
    refine ex_iconst (pc := 13) (fr_get fo_174_0 8 rfl) ic_0 ?_
    refine ex_istore (pc := 14) (fr_get fo_174_0 9 rfl) rfl (L' := [some (.inr (.inr (45, 0))), some (.inr (.inr (60, 0))), some (.inl a2), some (.inl a3), some (.inl (Int32.ofNat 9)), some (.inl (0 : Int32))]) rfl ?_
    exact h

theorem b_174_45_60_16 {d : Nat} {I : ma_I} {o : Nat} {Q : ma_Q} {v2 : Int32} {v3 : Int32} {v4 : Int32} {v5 : Int32}
  (h :
    (v4 ≤ v5 →
      Q none I o) ∧
    (v5 < v4 →
      ((9 : Int32) ≤ v5 →
        Q none I o) ∧
      (v5 < (9 : Int32) →
        (v3 ≠ 0 →
          ma_in (v2 + v5) 9 ∧
          ma_in v5 64 ∧
          Ex (d) 174 (16, [some (.inr (.inr (45, 0))), some (.inr (.inr (60, 0))), some (.inl v2), some (.inl v3), some (.inl v4), some (.inl (v5 + (1 : Int32)))], [], ma_mem (ma_up I 60 0 v5.toNatClampNeg (I 45 0 ((v2 + v5).toNatClampNeg))) o, 0, 0) (ma_end Q)) ∧
        (v3 = 0 →
          ma_in v5 9 ∧
          ma_in (v2 + v5) 64 ∧
          Ex (d) 174 (16, [some (.inr (.inr (45, 0))), some (.inr (.inr (60, 0))), some (.inl v2), some (.inl v3), some (.inl v4), some (.inl (v5 + (1 : Int32)))], [], ma_mem (ma_up I 60 0 ((v2 + v5).toNatClampNeg) (I 45 0 v5.toNatClampNeg)) o, 0, 0) (ma_end Q))))) :
  Ex (d) 174 (16, [some (.inr (.inr (45, 0))), some (.inr (.inr (60, 0))), some (.inl v2), some (.inl v3), some (.inl v4), some (.inl v5)], [], ma_mem I o, 0, 0) (ma_end Q) := by
  refine ex_iload (pc := 16) (fr_get fo_174_0 10 rfl) rfl ?_
  refine ex_iload (pc := 18) (fr_get fo_174_0 11 rfl) rfl ?_
  refine xv_cge (pc := 20) (fr_get fo_174_0 12 rfl) (t := 63) rfl (fun c => ?_) (fun c => ?_)
  · replace h := h.1 c
    exact ex_return (pc := 63) (fr_get fo_174_2 5 rfl) rt_174 rfl rfl (ma_end_mk h)
  · replace h := h.2 c
    refine ex_iload (pc := 23) (fr_get fo_174_0 13 rfl) rfl ?_
    refine ex_bipush (pc := 25) (fr_get fo_174_0 14 rfl) bp_9 ?_
    refine xv_cge (pc := 27) (fr_get fo_174_0 15 rfl) (t := 63) rfl (fun c => ?_) (fun c => ?_)
    · replace h := h.1 c
      exact ex_return (pc := 63) (fr_get fo_174_2 5 rfl) rt_174 rfl rfl (ma_end_mk h)
    · replace h := h.2 c
      refine ex_iload_n (pc := 30) (fr_get fo_174_1 0 rfl) rfl ?_
      refine xv_bne (pc := 31) (fr_get fo_174_1 1 rfl) (t := 47) rfl (fun c => ?_) (fun c => ?_)
      · replace h := h.1 c
        refine ex_aload_n (pc := 47) (fr_get fo_174_1 11 rfl) rfl rfl ?_
        refine ex_iload (pc := 48) (fr_get fo_174_1 12 rfl) rfl ?_
        refine ex_aload_n (pc := 50) (fr_get fo_174_1 13 rfl) rfl rfl ?_
        refine ex_iload_n (pc := 51) (fr_get fo_174_1 14 rfl) rfl ?_
        refine ex_iload (pc := 52) (fr_get fo_174_1 15 rfl) rfl ?_
        refine ex_iadd (pc := 54) (fr_get fo_174_2 0 rfl) ?_
        refine xv_iald (pc := 55) (fr_get fo_174_2 1 rfl) gk_45 (n := 9) (gn_45 ..) rfl rfl h.1 ?_
        replace h := h.2
        refine xv_iast (pc := 56) (fr_get fo_174_2 2 rfl) gs_60 gl_60 rfl h.1 ?_
        replace h := h.2
        refine xv_iinc (pc := 57) (fr_get fo_174_2 3 rfl) rfl ic_1 (L' := [some (.inr (.inr (45, 0))), some (.inr (.inr (60, 0))), some (.inl v2), some (.inl v3), some (.inl v4), some (.inl (v5 + (1 : Int32)))]) rfl ?_
        refine ex_goto (pc := 60) (fr_get fo_174_2 4 rfl) (t := 16) rfl ?_
        exact h
      · replace h := h.2 c
        refine ex_aload_n (pc := 34) (fr_get fo_174_1 2 rfl) rfl rfl ?_
        refine ex_iload_n (pc := 35) (fr_get fo_174_1 3 rfl) rfl ?_
        refine ex_iload (pc := 36) (fr_get fo_174_1 4 rfl) rfl ?_
        refine ex_iadd (pc := 38) (fr_get fo_174_1 5 rfl) ?_
        refine ex_aload_n (pc := 39) (fr_get fo_174_1 6 rfl) rfl rfl ?_
        refine ex_iload (pc := 40) (fr_get fo_174_1 7 rfl) rfl ?_
        refine xv_iald (pc := 42) (fr_get fo_174_1 8 rfl) gk_45 (n := 9) (gn_45 ..) rfl rfl h.1 ?_
        replace h := h.2
        refine xv_iast (pc := 43) (fr_get fo_174_1 9 rfl) gs_60 gl_60 rfl h.1 ?_
        replace h := h.2
        refine ex_goto (pc := 44) (fr_get fo_174_1 10 rfl) (t := 57) rfl ?_
        refine xv_iinc (pc := 57) (fr_get fo_174_2 3 rfl) rfl ic_1 (L' := [some (.inr (.inr (45, 0))), some (.inr (.inr (60, 0))), some (.inl v2), some (.inl v3), some (.inl v4), some (.inl (v5 + (1 : Int32)))]) rfl ?_
        refine ex_goto (pc := 60) (fr_get fo_174_2 4 rfl) (t := 16) rfl ?_
        exact h

theorem e_174_46_60 {d : Nat} {I : ma_I} {o : Nat} {Q : ma_Q} {a2 : Int32} {a3 : Int32}
  (h :
    (a3 ≠ 0 →
      Ex (d) 174 (16, [some (.inr (.inr (46, 0))), some (.inr (.inr (60, 0))), some (.inl a2), some (.inl a3), some (.inl (Int32.ofNat 64)), some (.inl (0 : Int32))], [], ma_mem I o, 0, 0) (ma_end Q)) ∧
    (a3 = 0 →
      Ex (d) 174 (16, [some (.inr (.inr (46, 0))), some (.inr (.inr (60, 0))), some (.inl a2), some (.inl a3), some (.inl (Int32.ofNat 9)), some (.inl (0 : Int32))], [], ma_mem I o, 0, 0) (ma_end Q))) :
  Exm (d) 174 [.inr (.inr (46, 0)), .inr (.inr (60, 0)), .inl a2, .inl a3] I o Q := by
  show Ex (d) 174 (0, [some (.inr (.inr (46, 0))), some (.inr (.inr (60, 0))), some (.inl a2), some (.inl a3), none, none], [], ma_mem I o, 0, 0) (ma_end Q)
  refine ex_iload_n (pc := 0) (fr_get fo_174_0 0 rfl) rfl ?_
  refine xv_bne (pc := 1) (fr_get fo_174_0 1 rfl) (t := 9) rfl (fun c => ?_) (fun c => ?_)
  · replace h := h.1 c
    refine ex_aload_n (pc := 9) (fr_get fo_174_0 5 rfl) rfl rfl ?_
    refine ex_arraylength (pc := 10) (fr_get fo_174_0 6 rfl) gz_60 (n := 64) (gn_60 ..) ?_
    refine ex_istore (pc := 11) (fr_get fo_174_0 7 rfl) rfl (L' := [some (.inr (.inr (46, 0))), some (.inr (.inr (60, 0))), some (.inl a2), some (.inl a3), some (.inl (Int32.ofNat 64)), none]) rfl ?_
    refine ex_iconst (pc := 13) (fr_get fo_174_0 8 rfl) ic_0 ?_
    refine ex_istore (pc := 14) (fr_get fo_174_0 9 rfl) rfl (L' := [some (.inr (.inr (46, 0))), some (.inr (.inr (60, 0))), some (.inl a2), some (.inl a3), some (.inl (Int32.ofNat 64)), some (.inl (0 : Int32))]) rfl ?_
    exact h
  · replace h := h.2 c
    refine ex_aload_n (pc := 4) (fr_get fo_174_0 2 rfl) rfl rfl ?_
    refine ex_arraylength (pc := 5) (fr_get fo_174_0 3 rfl) gz_46 (n := 9) (gn_46 ..) ?_
    refine ex_goto (pc := 6) (fr_get fo_174_0 4 rfl) (t := 11) rfl ?_
    refine ex_istore (pc := 11) (fr_get fo_174_0 7 rfl) rfl (L' := [some (.inr (.inr (46, 0))), some (.inr (.inr (60, 0))), some (.inl a2), some (.inl a3), some (.inl (Int32.ofNat 9)), none]) rfl ?_
    refine ex_iconst (pc := 13) (fr_get fo_174_0 8 rfl) ic_0 ?_
    refine ex_istore (pc := 14) (fr_get fo_174_0 9 rfl) rfl (L' := [some (.inr (.inr (46, 0))), some (.inr (.inr (60, 0))), some (.inl a2), some (.inl a3), some (.inl (Int32.ofNat 9)), some (.inl (0 : Int32))]) rfl ?_
    exact h

theorem b_174_46_60_16 {d : Nat} {I : ma_I} {o : Nat} {Q : ma_Q} {v2 : Int32} {v3 : Int32} {v4 : Int32} {v5 : Int32}
  (h :
    (v4 ≤ v5 →
      Q none I o) ∧
    (v5 < v4 →
      ((9 : Int32) ≤ v5 →
        Q none I o) ∧
      (v5 < (9 : Int32) →
        (v3 ≠ 0 →
          ma_in (v2 + v5) 9 ∧
          ma_in v5 64 ∧
          Ex (d) 174 (16, [some (.inr (.inr (46, 0))), some (.inr (.inr (60, 0))), some (.inl v2), some (.inl v3), some (.inl v4), some (.inl (v5 + (1 : Int32)))], [], ma_mem (ma_up I 60 0 v5.toNatClampNeg (I 46 0 ((v2 + v5).toNatClampNeg))) o, 0, 0) (ma_end Q)) ∧
        (v3 = 0 →
          ma_in v5 9 ∧
          ma_in (v2 + v5) 64 ∧
          Ex (d) 174 (16, [some (.inr (.inr (46, 0))), some (.inr (.inr (60, 0))), some (.inl v2), some (.inl v3), some (.inl v4), some (.inl (v5 + (1 : Int32)))], [], ma_mem (ma_up I 60 0 ((v2 + v5).toNatClampNeg) (I 46 0 v5.toNatClampNeg)) o, 0, 0) (ma_end Q))))) :
  Ex (d) 174 (16, [some (.inr (.inr (46, 0))), some (.inr (.inr (60, 0))), some (.inl v2), some (.inl v3), some (.inl v4), some (.inl v5)], [], ma_mem I o, 0, 0) (ma_end Q) := by
  refine ex_iload (pc := 16) (fr_get fo_174_0 10 rfl) rfl ?_
  refine ex_iload (pc := 18) (fr_get fo_174_0 11 rfl) rfl ?_
  refine xv_cge (pc := 20) (fr_get fo_174_0 12 rfl) (t := 63) rfl (fun c => ?_) (fun c => ?_)
  · replace h := h.1 c
    exact ex_return (pc := 63) (fr_get fo_174_2 5 rfl) rt_174 rfl rfl (ma_end_mk h)
  · replace h := h.2 c
    refine ex_iload (pc := 23) (fr_get fo_174_0 13 rfl) rfl ?_
    refine ex_bipush (pc := 25) (fr_get fo_174_0 14 rfl) bp_9 ?_
    refine xv_cge (pc := 27) (fr_get fo_174_0 15 rfl) (t := 63) rfl (fun c => ?_) (fun c => ?_)
    · replace h := h.1 c
      exact ex_return (pc := 63) (fr_get fo_174_2 5 rfl) rt_174 rfl rfl (ma_end_mk h)
    · replace h := h.2 c
      refine ex_iload_n (pc := 30) (fr_get fo_174_1 0 rfl) rfl ?_
      refine xv_bne (pc := 31) (fr_get fo_174_1 1 rfl) (t := 47) rfl (fun c => ?_) (fun c => ?_)
      · replace h := h.1 c
        refine ex_aload_n (pc := 47) (fr_get fo_174_1 11 rfl) rfl rfl ?_
        refine ex_iload (pc := 48) (fr_get fo_174_1 12 rfl) rfl ?_
        refine ex_aload_n (pc := 50) (fr_get fo_174_1 13 rfl) rfl rfl ?_
        refine ex_iload_n (pc := 51) (fr_get fo_174_1 14 rfl) rfl ?_
        refine ex_iload (pc := 52) (fr_get fo_174_1 15 rfl) rfl ?_
        refine ex_iadd (pc := 54) (fr_get fo_174_2 0 rfl) ?_
        refine xv_iald (pc := 55) (fr_get fo_174_2 1 rfl) gk_46 (n := 9) (gn_46 ..) rfl rfl h.1 ?_
        replace h := h.2
        refine xv_iast (pc := 56) (fr_get fo_174_2 2 rfl) gs_60 gl_60 rfl h.1 ?_
        replace h := h.2
        refine xv_iinc (pc := 57) (fr_get fo_174_2 3 rfl) rfl ic_1 (L' := [some (.inr (.inr (46, 0))), some (.inr (.inr (60, 0))), some (.inl v2), some (.inl v3), some (.inl v4), some (.inl (v5 + (1 : Int32)))]) rfl ?_
        refine ex_goto (pc := 60) (fr_get fo_174_2 4 rfl) (t := 16) rfl ?_
        exact h
      · replace h := h.2 c
        refine ex_aload_n (pc := 34) (fr_get fo_174_1 2 rfl) rfl rfl ?_
        refine ex_iload_n (pc := 35) (fr_get fo_174_1 3 rfl) rfl ?_
        refine ex_iload (pc := 36) (fr_get fo_174_1 4 rfl) rfl ?_
        refine ex_iadd (pc := 38) (fr_get fo_174_1 5 rfl) ?_
        refine ex_aload_n (pc := 39) (fr_get fo_174_1 6 rfl) rfl rfl ?_
        refine ex_iload (pc := 40) (fr_get fo_174_1 7 rfl) rfl ?_
        refine xv_iald (pc := 42) (fr_get fo_174_1 8 rfl) gk_46 (n := 9) (gn_46 ..) rfl rfl h.1 ?_
        replace h := h.2
        refine xv_iast (pc := 43) (fr_get fo_174_1 9 rfl) gs_60 gl_60 rfl h.1 ?_
        replace h := h.2
        refine ex_goto (pc := 44) (fr_get fo_174_1 10 rfl) (t := 57) rfl ?_
        refine xv_iinc (pc := 57) (fr_get fo_174_2 3 rfl) rfl ic_1 (L' := [some (.inr (.inr (46, 0))), some (.inr (.inr (60, 0))), some (.inl v2), some (.inl v3), some (.inl v4), some (.inl (v5 + (1 : Int32)))]) rfl ?_
        refine ex_goto (pc := 60) (fr_get fo_174_2 4 rfl) (t := 16) rfl ?_
        exact h

theorem e_174_47_60 {d : Nat} {I : ma_I} {o : Nat} {Q : ma_Q} {a2 : Int32} {a3 : Int32}
  (h :
    (a3 ≠ 0 →
      Ex (d) 174 (16, [some (.inr (.inr (47, 0))), some (.inr (.inr (60, 0))), some (.inl a2), some (.inl a3), some (.inl (Int32.ofNat 64)), some (.inl (0 : Int32))], [], ma_mem I o, 0, 0) (ma_end Q)) ∧
    (a3 = 0 →
      Ex (d) 174 (16, [some (.inr (.inr (47, 0))), some (.inr (.inr (60, 0))), some (.inl a2), some (.inl a3), some (.inl (Int32.ofNat 9)), some (.inl (0 : Int32))], [], ma_mem I o, 0, 0) (ma_end Q))) :
  Exm (d) 174 [.inr (.inr (47, 0)), .inr (.inr (60, 0)), .inl a2, .inl a3] I o Q := by
  show Ex (d) 174 (0, [some (.inr (.inr (47, 0))), some (.inr (.inr (60, 0))), some (.inl a2), some (.inl a3), none, none], [], ma_mem I o, 0, 0) (ma_end Q)
  refine ex_iload_n (pc := 0) (fr_get fo_174_0 0 rfl) rfl ?_
  refine xv_bne (pc := 1) (fr_get fo_174_0 1 rfl) (t := 9) rfl (fun c => ?_) (fun c => ?_)
  · replace h := h.1 c
    refine ex_aload_n (pc := 9) (fr_get fo_174_0 5 rfl) rfl rfl ?_
    refine ex_arraylength (pc := 10) (fr_get fo_174_0 6 rfl) gz_60 (n := 64) (gn_60 ..) ?_
    refine ex_istore (pc := 11) (fr_get fo_174_0 7 rfl) rfl (L' := [some (.inr (.inr (47, 0))), some (.inr (.inr (60, 0))), some (.inl a2), some (.inl a3), some (.inl (Int32.ofNat 64)), none]) rfl ?_
    refine ex_iconst (pc := 13) (fr_get fo_174_0 8 rfl) ic_0 ?_
    refine ex_istore (pc := 14) (fr_get fo_174_0 9 rfl) rfl (L' := [some (.inr (.inr (47, 0))), some (.inr (.inr (60, 0))), some (.inl a2), some (.inl a3), some (.inl (Int32.ofNat 64)), some (.inl (0 : Int32))]) rfl ?_
    exact h
  · replace h := h.2 c
    refine ex_aload_n (pc := 4) (fr_get fo_174_0 2 rfl) rfl rfl ?_
    refine ex_arraylength (pc := 5) (fr_get fo_174_0 3 rfl) gz_47 (n := 9) (gn_47 ..) ?_
    refine ex_goto (pc := 6) (fr_get fo_174_0 4 rfl) (t := 11) rfl ?_
    refine ex_istore (pc := 11) (fr_get fo_174_0 7 rfl) rfl (L' := [some (.inr (.inr (47, 0))), some (.inr (.inr (60, 0))), some (.inl a2), some (.inl a3), some (.inl (Int32.ofNat 9)), none]) rfl ?_
    refine ex_iconst (pc := 13) (fr_get fo_174_0 8 rfl) ic_0 ?_
    refine ex_istore (pc := 14) (fr_get fo_174_0 9 rfl) rfl (L' := [some (.inr (.inr (47, 0))), some (.inr (.inr (60, 0))), some (.inl a2), some (.inl a3), some (.inl (Int32.ofNat 9)), some (.inl (0 : Int32))]) rfl ?_
    exact h

theorem b_174_47_60_16 {d : Nat} {I : ma_I} {o : Nat} {Q : ma_Q} {v2 : Int32} {v3 : Int32} {v4 : Int32} {v5 : Int32}
  (h :
    (v4 ≤ v5 →
      Q none I o) ∧
    (v5 < v4 →
      ((9 : Int32) ≤ v5 →
        Q none I o) ∧
      (v5 < (9 : Int32) →
        (v3 ≠ 0 →
          ma_in (v2 + v5) 9 ∧
          ma_in v5 64 ∧
          Ex (d) 174 (16, [some (.inr (.inr (47, 0))), some (.inr (.inr (60, 0))), some (.inl v2), some (.inl v3), some (.inl v4), some (.inl (v5 + (1 : Int32)))], [], ma_mem (ma_up I 60 0 v5.toNatClampNeg (I 47 0 ((v2 + v5).toNatClampNeg))) o, 0, 0) (ma_end Q)) ∧
        (v3 = 0 →
          ma_in v5 9 ∧
          ma_in (v2 + v5) 64 ∧
          Ex (d) 174 (16, [some (.inr (.inr (47, 0))), some (.inr (.inr (60, 0))), some (.inl v2), some (.inl v3), some (.inl v4), some (.inl (v5 + (1 : Int32)))], [], ma_mem (ma_up I 60 0 ((v2 + v5).toNatClampNeg) (I 47 0 v5.toNatClampNeg)) o, 0, 0) (ma_end Q))))) :
  Ex (d) 174 (16, [some (.inr (.inr (47, 0))), some (.inr (.inr (60, 0))), some (.inl v2), some (.inl v3), some (.inl v4), some (.inl v5)], [], ma_mem I o, 0, 0) (ma_end Q) := by
  refine ex_iload (pc := 16) (fr_get fo_174_0 10 rfl) rfl ?_
  refine ex_iload (pc := 18) (fr_get fo_174_0 11 rfl) rfl ?_
  refine xv_cge (pc := 20) (fr_get fo_174_0 12 rfl) (t := 63) rfl (fun c => ?_) (fun c => ?_)
  · replace h := h.1 c
    exact ex_return (pc := 63) (fr_get fo_174_2 5 rfl) rt_174 rfl rfl (ma_end_mk h)
  · replace h := h.2 c
    refine ex_iload (pc := 23) (fr_get fo_174_0 13 rfl) rfl ?_
    refine ex_bipush (pc := 25) (fr_get fo_174_0 14 rfl) bp_9 ?_
    refine xv_cge (pc := 27) (fr_get fo_174_0 15 rfl) (t := 63) rfl (fun c => ?_) (fun c => ?_)
    · replace h := h.1 c
      exact ex_return (pc := 63) (fr_get fo_174_2 5 rfl) rt_174 rfl rfl (ma_end_mk h)
    · replace h := h.2 c
      refine ex_iload_n (pc := 30) (fr_get fo_174_1 0 rfl) rfl ?_
      refine xv_bne (pc := 31) (fr_get fo_174_1 1 rfl) (t := 47) rfl (fun c => ?_) (fun c => ?_)
      · replace h := h.1 c
        refine ex_aload_n (pc := 47) (fr_get fo_174_1 11 rfl) rfl rfl ?_
        refine ex_iload (pc := 48) (fr_get fo_174_1 12 rfl) rfl ?_
        refine ex_aload_n (pc := 50) (fr_get fo_174_1 13 rfl) rfl rfl ?_
        refine ex_iload_n (pc := 51) (fr_get fo_174_1 14 rfl) rfl ?_
        refine ex_iload (pc := 52) (fr_get fo_174_1 15 rfl) rfl ?_
        refine ex_iadd (pc := 54) (fr_get fo_174_2 0 rfl) ?_
        refine xv_iald (pc := 55) (fr_get fo_174_2 1 rfl) gk_47 (n := 9) (gn_47 ..) rfl rfl h.1 ?_
        replace h := h.2
        refine xv_iast (pc := 56) (fr_get fo_174_2 2 rfl) gs_60 gl_60 rfl h.1 ?_
        replace h := h.2
        refine xv_iinc (pc := 57) (fr_get fo_174_2 3 rfl) rfl ic_1 (L' := [some (.inr (.inr (47, 0))), some (.inr (.inr (60, 0))), some (.inl v2), some (.inl v3), some (.inl v4), some (.inl (v5 + (1 : Int32)))]) rfl ?_
        refine ex_goto (pc := 60) (fr_get fo_174_2 4 rfl) (t := 16) rfl ?_
        exact h
      · replace h := h.2 c
        refine ex_aload_n (pc := 34) (fr_get fo_174_1 2 rfl) rfl rfl ?_
        refine ex_iload_n (pc := 35) (fr_get fo_174_1 3 rfl) rfl ?_
        refine ex_iload (pc := 36) (fr_get fo_174_1 4 rfl) rfl ?_
        refine ex_iadd (pc := 38) (fr_get fo_174_1 5 rfl) ?_
        refine ex_aload_n (pc := 39) (fr_get fo_174_1 6 rfl) rfl rfl ?_
        refine ex_iload (pc := 40) (fr_get fo_174_1 7 rfl) rfl ?_
        refine xv_iald (pc := 42) (fr_get fo_174_1 8 rfl) gk_47 (n := 9) (gn_47 ..) rfl rfl h.1 ?_
        replace h := h.2
        refine xv_iast (pc := 43) (fr_get fo_174_1 9 rfl) gs_60 gl_60 rfl h.1 ?_
        replace h := h.2
        refine ex_goto (pc := 44) (fr_get fo_174_1 10 rfl) (t := 57) rfl ?_
        refine xv_iinc (pc := 57) (fr_get fo_174_2 3 rfl) rfl ic_1 (L' := [some (.inr (.inr (47, 0))), some (.inr (.inr (60, 0))), some (.inl v2), some (.inl v3), some (.inl v4), some (.inl (v5 + (1 : Int32)))]) rfl ?_
        refine ex_goto (pc := 60) (fr_get fo_174_2 4 rfl) (t := 16) rfl ?_
        exact h

theorem e_174_48_60 {d : Nat} {I : ma_I} {o : Nat} {Q : ma_Q} {a2 : Int32} {a3 : Int32}
  (h :
    (a3 ≠ 0 →
      Ex (d) 174 (16, [some (.inr (.inr (48, 0))), some (.inr (.inr (60, 0))), some (.inl a2), some (.inl a3), some (.inl (Int32.ofNat 64)), some (.inl (0 : Int32))], [], ma_mem I o, 0, 0) (ma_end Q)) ∧
    (a3 = 0 →
      Ex (d) 174 (16, [some (.inr (.inr (48, 0))), some (.inr (.inr (60, 0))), some (.inl a2), some (.inl a3), some (.inl (Int32.ofNat 9)), some (.inl (0 : Int32))], [], ma_mem I o, 0, 0) (ma_end Q))) :
  Exm (d) 174 [.inr (.inr (48, 0)), .inr (.inr (60, 0)), .inl a2, .inl a3] I o Q := by
  show Ex (d) 174 (0, [some (.inr (.inr (48, 0))), some (.inr (.inr (60, 0))), some (.inl a2), some (.inl a3), none, none], [], ma_mem I o, 0, 0) (ma_end Q)
  refine ex_iload_n (pc := 0) (fr_get fo_174_0 0 rfl) rfl ?_
  refine xv_bne (pc := 1) (fr_get fo_174_0 1 rfl) (t := 9) rfl (fun c => ?_) (fun c => ?_)
  · replace h := h.1 c
    refine ex_aload_n (pc := 9) (fr_get fo_174_0 5 rfl) rfl rfl ?_
    refine ex_arraylength (pc := 10) (fr_get fo_174_0 6 rfl) gz_60 (n := 64) (gn_60 ..) ?_
    refine ex_istore (pc := 11) (fr_get fo_174_0 7 rfl) rfl (L' := [some (.inr (.inr (48, 0))), some (.inr (.inr (60, 0))), some (.inl a2), some (.inl a3), some (.inl (Int32.ofNat 64)), none]) rfl ?_
    refine ex_iconst (pc := 13) (fr_get fo_174_0 8 rfl) ic_0 ?_
    refine ex_istore (pc := 14) (fr_get fo_174_0 9 rfl) rfl (L' := [some (.inr (.inr (48, 0))), some (.inr (.inr (60, 0))), some (.inl a2), some (.inl a3), some (.inl (Int32.ofNat 64)), some (.inl (0 : Int32))]) rfl ?_
    exact h
  · replace h := h.2 c
    refine ex_aload_n (pc := 4) (fr_get fo_174_0 2 rfl) rfl rfl ?_
    refine ex_arraylength (pc := 5) (fr_get fo_174_0 3 rfl) gz_48 (n := 9) (gn_48 ..) ?_
    refine ex_goto (pc := 6) (fr_get fo_174_0 4 rfl) (t := 11) rfl ?_
    refine ex_istore (pc := 11) (fr_get fo_174_0 7 rfl) rfl (L' := [some (.inr (.inr (48, 0))), some (.inr (.inr (60, 0))), some (.inl a2), some (.inl a3), some (.inl (Int32.ofNat 9)), none]) rfl ?_
    refine ex_iconst (pc := 13) (fr_get fo_174_0 8 rfl) ic_0 ?_
    refine ex_istore (pc := 14) (fr_get fo_174_0 9 rfl) rfl (L' := [some (.inr (.inr (48, 0))), some (.inr (.inr (60, 0))), some (.inl a2), some (.inl a3), some (.inl (Int32.ofNat 9)), some (.inl (0 : Int32))]) rfl ?_
    exact h

theorem b_174_48_60_16 {d : Nat} {I : ma_I} {o : Nat} {Q : ma_Q} {v2 : Int32} {v3 : Int32} {v4 : Int32} {v5 : Int32}
  (h :
    (v4 ≤ v5 →
      Q none I o) ∧
    (v5 < v4 →
      ((9 : Int32) ≤ v5 →
        Q none I o) ∧
      (v5 < (9 : Int32) →
        (v3 ≠ 0 →
          ma_in (v2 + v5) 9 ∧
          ma_in v5 64 ∧
          Ex (d) 174 (16, [some (.inr (.inr (48, 0))), some (.inr (.inr (60, 0))), some (.inl v2), some (.inl v3), some (.inl v4), some (.inl (v5 + (1 : Int32)))], [], ma_mem (ma_up I 60 0 v5.toNatClampNeg (I 48 0 ((v2 + v5).toNatClampNeg))) o, 0, 0) (ma_end Q)) ∧
        (v3 = 0 →
          ma_in v5 9 ∧
          ma_in (v2 + v5) 64 ∧
          Ex (d) 174 (16, [some (.inr (.inr (48, 0))), some (.inr (.inr (60, 0))), some (.inl v2), some (.inl v3), some (.inl v4), some (.inl (v5 + (1 : Int32)))], [], ma_mem (ma_up I 60 0 ((v2 + v5).toNatClampNeg) (I 48 0 v5.toNatClampNeg)) o, 0, 0) (ma_end Q))))) :
  Ex (d) 174 (16, [some (.inr (.inr (48, 0))), some (.inr (.inr (60, 0))), some (.inl v2), some (.inl v3), some (.inl v4), some (.inl v5)], [], ma_mem I o, 0, 0) (ma_end Q) := by
  refine ex_iload (pc := 16) (fr_get fo_174_0 10 rfl) rfl ?_
  refine ex_iload (pc := 18) (fr_get fo_174_0 11 rfl) rfl ?_
  refine xv_cge (pc := 20) (fr_get fo_174_0 12 rfl) (t := 63) rfl (fun c => ?_) (fun c => ?_)
  · replace h := h.1 c
    exact ex_return (pc := 63) (fr_get fo_174_2 5 rfl) rt_174 rfl rfl (ma_end_mk h)
  · replace h := h.2 c
    refine ex_iload (pc := 23) (fr_get fo_174_0 13 rfl) rfl ?_
    refine ex_bipush (pc := 25) (fr_get fo_174_0 14 rfl) bp_9 ?_
    refine xv_cge (pc := 27) (fr_get fo_174_0 15 rfl) (t := 63) rfl (fun c => ?_) (fun c => ?_)
    · replace h := h.1 c
      exact ex_return (pc := 63) (fr_get fo_174_2 5 rfl) rt_174 rfl rfl (ma_end_mk h)
    · replace h := h.2 c
      refine ex_iload_n (pc := 30) (fr_get fo_174_1 0 rfl) rfl ?_
      refine xv_bne (pc := 31) (fr_get fo_174_1 1 rfl) (t := 47) rfl (fun c => ?_) (fun c => ?_)
      · replace h := h.1 c
        refine ex_aload_n (pc := 47) (fr_get fo_174_1 11 rfl) rfl rfl ?_
        refine ex_iload (pc := 48) (fr_get fo_174_1 12 rfl) rfl ?_
        refine ex_aload_n (pc := 50) (fr_get fo_174_1 13 rfl) rfl rfl ?_
        refine ex_iload_n (pc := 51) (fr_get fo_174_1 14 rfl) rfl ?_
        refine ex_iload (pc := 52) (fr_get fo_174_1 15 rfl) rfl ?_
        refine ex_iadd (pc := 54) (fr_get fo_174_2 0 rfl) ?_
        refine xv_iald (pc := 55) (fr_get fo_174_2 1 rfl) gk_48 (n := 9) (gn_48 ..) rfl rfl h.1 ?_
        replace h := h.2
        refine xv_iast (pc := 56) (fr_get fo_174_2 2 rfl) gs_60 gl_60 rfl h.1 ?_
        replace h := h.2
        refine xv_iinc (pc := 57) (fr_get fo_174_2 3 rfl) rfl ic_1 (L' := [some (.inr (.inr (48, 0))), some (.inr (.inr (60, 0))), some (.inl v2), some (.inl v3), some (.inl v4), some (.inl (v5 + (1 : Int32)))]) rfl ?_
        refine ex_goto (pc := 60) (fr_get fo_174_2 4 rfl) (t := 16) rfl ?_
        exact h
      · replace h := h.2 c
        refine ex_aload_n (pc := 34) (fr_get fo_174_1 2 rfl) rfl rfl ?_
        refine ex_iload_n (pc := 35) (fr_get fo_174_1 3 rfl) rfl ?_
        refine ex_iload (pc := 36) (fr_get fo_174_1 4 rfl) rfl ?_
        refine ex_iadd (pc := 38) (fr_get fo_174_1 5 rfl) ?_
        refine ex_aload_n (pc := 39) (fr_get fo_174_1 6 rfl) rfl rfl ?_
        refine ex_iload (pc := 40) (fr_get fo_174_1 7 rfl) rfl ?_
        refine xv_iald (pc := 42) (fr_get fo_174_1 8 rfl) gk_48 (n := 9) (gn_48 ..) rfl rfl h.1 ?_
        replace h := h.2
        refine xv_iast (pc := 43) (fr_get fo_174_1 9 rfl) gs_60 gl_60 rfl h.1 ?_
        replace h := h.2
        refine ex_goto (pc := 44) (fr_get fo_174_1 10 rfl) (t := 57) rfl ?_
        refine xv_iinc (pc := 57) (fr_get fo_174_2 3 rfl) rfl ic_1 (L' := [some (.inr (.inr (48, 0))), some (.inr (.inr (60, 0))), some (.inl v2), some (.inl v3), some (.inl v4), some (.inl (v5 + (1 : Int32)))]) rfl ?_
        refine ex_goto (pc := 60) (fr_get fo_174_2 4 rfl) (t := 16) rfl ?_
        exact h

theorem e_174_60_42 {d : Nat} {I : ma_I} {o : Nat} {Q : ma_Q} {a2 : Int32} {a3 : Int32}
  (h :
    (a3 ≠ 0 →
      Ex (d) 174 (16, [some (.inr (.inr (60, 0))), some (.inr (.inr (42, 0))), some (.inl a2), some (.inl a3), some (.inl (Int32.ofNat 6)), some (.inl (0 : Int32))], [], ma_mem I o, 0, 0) (ma_end Q)) ∧
    (a3 = 0 →
      Ex (d) 174 (16, [some (.inr (.inr (60, 0))), some (.inr (.inr (42, 0))), some (.inl a2), some (.inl a3), some (.inl (Int32.ofNat 64)), some (.inl (0 : Int32))], [], ma_mem I o, 0, 0) (ma_end Q))) :
  Exm (d) 174 [.inr (.inr (60, 0)), .inr (.inr (42, 0)), .inl a2, .inl a3] I o Q := by
  show Ex (d) 174 (0, [some (.inr (.inr (60, 0))), some (.inr (.inr (42, 0))), some (.inl a2), some (.inl a3), none, none], [], ma_mem I o, 0, 0) (ma_end Q)
  refine ex_iload_n (pc := 0) (fr_get fo_174_0 0 rfl) rfl ?_
  refine xv_bne (pc := 1) (fr_get fo_174_0 1 rfl) (t := 9) rfl (fun c => ?_) (fun c => ?_)
  · replace h := h.1 c
    refine ex_aload_n (pc := 9) (fr_get fo_174_0 5 rfl) rfl rfl ?_
    refine ex_arraylength (pc := 10) (fr_get fo_174_0 6 rfl) gz_42 (n := 6) (gn_42 ..) ?_
    refine ex_istore (pc := 11) (fr_get fo_174_0 7 rfl) rfl (L' := [some (.inr (.inr (60, 0))), some (.inr (.inr (42, 0))), some (.inl a2), some (.inl a3), some (.inl (Int32.ofNat 6)), none]) rfl ?_
    refine ex_iconst (pc := 13) (fr_get fo_174_0 8 rfl) ic_0 ?_
    refine ex_istore (pc := 14) (fr_get fo_174_0 9 rfl) rfl (L' := [some (.inr (.inr (60, 0))), some (.inr (.inr (42, 0))), some (.inl a2), some (.inl a3), some (.inl (Int32.ofNat 6)), some (.inl (0 : Int32))]) rfl ?_
    exact h
  · replace h := h.2 c
    refine ex_aload_n (pc := 4) (fr_get fo_174_0 2 rfl) rfl rfl ?_
    refine ex_arraylength (pc := 5) (fr_get fo_174_0 3 rfl) gz_60 (n := 64) (gn_60 ..) ?_
    refine ex_goto (pc := 6) (fr_get fo_174_0 4 rfl) (t := 11) rfl ?_
    refine ex_istore (pc := 11) (fr_get fo_174_0 7 rfl) rfl (L' := [some (.inr (.inr (60, 0))), some (.inr (.inr (42, 0))), some (.inl a2), some (.inl a3), some (.inl (Int32.ofNat 64)), none]) rfl ?_
    refine ex_iconst (pc := 13) (fr_get fo_174_0 8 rfl) ic_0 ?_
    refine ex_istore (pc := 14) (fr_get fo_174_0 9 rfl) rfl (L' := [some (.inr (.inr (60, 0))), some (.inr (.inr (42, 0))), some (.inl a2), some (.inl a3), some (.inl (Int32.ofNat 64)), some (.inl (0 : Int32))]) rfl ?_
    exact h

theorem b_174_60_42_16 {d : Nat} {I : ma_I} {o : Nat} {Q : ma_Q} {v2 : Int32} {v3 : Int32} {v4 : Int32} {v5 : Int32}
  (h :
    (v4 ≤ v5 →
      Q none I o) ∧
    (v5 < v4 →
      ((9 : Int32) ≤ v5 →
        Q none I o) ∧
      (v5 < (9 : Int32) →
        (v3 ≠ 0 →
          ma_in (v2 + v5) 64 ∧
          ma_in v5 6 ∧
          Ex (d) 174 (16, [some (.inr (.inr (60, 0))), some (.inr (.inr (42, 0))), some (.inl v2), some (.inl v3), some (.inl v4), some (.inl (v5 + (1 : Int32)))], [], ma_mem (ma_up I 42 0 v5.toNatClampNeg (I 60 0 ((v2 + v5).toNatClampNeg))) o, 0, 0) (ma_end Q)) ∧
        (v3 = 0 →
          ma_in v5 64 ∧
          ma_in (v2 + v5) 6 ∧
          Ex (d) 174 (16, [some (.inr (.inr (60, 0))), some (.inr (.inr (42, 0))), some (.inl v2), some (.inl v3), some (.inl v4), some (.inl (v5 + (1 : Int32)))], [], ma_mem (ma_up I 42 0 ((v2 + v5).toNatClampNeg) (I 60 0 v5.toNatClampNeg)) o, 0, 0) (ma_end Q))))) :
  Ex (d) 174 (16, [some (.inr (.inr (60, 0))), some (.inr (.inr (42, 0))), some (.inl v2), some (.inl v3), some (.inl v4), some (.inl v5)], [], ma_mem I o, 0, 0) (ma_end Q) := by
  refine ex_iload (pc := 16) (fr_get fo_174_0 10 rfl) rfl ?_
  refine ex_iload (pc := 18) (fr_get fo_174_0 11 rfl) rfl ?_
  refine xv_cge (pc := 20) (fr_get fo_174_0 12 rfl) (t := 63) rfl (fun c => ?_) (fun c => ?_)
  · replace h := h.1 c
    exact ex_return (pc := 63) (fr_get fo_174_2 5 rfl) rt_174 rfl rfl (ma_end_mk h)
  · replace h := h.2 c
    refine ex_iload (pc := 23) (fr_get fo_174_0 13 rfl) rfl ?_
    refine ex_bipush (pc := 25) (fr_get fo_174_0 14 rfl) bp_9 ?_
    refine xv_cge (pc := 27) (fr_get fo_174_0 15 rfl) (t := 63) rfl (fun c => ?_) (fun c => ?_)
    · replace h := h.1 c
      exact ex_return (pc := 63) (fr_get fo_174_2 5 rfl) rt_174 rfl rfl (ma_end_mk h)
    · replace h := h.2 c
      refine ex_iload_n (pc := 30) (fr_get fo_174_1 0 rfl) rfl ?_
      refine xv_bne (pc := 31) (fr_get fo_174_1 1 rfl) (t := 47) rfl (fun c => ?_) (fun c => ?_)
      · replace h := h.1 c
        refine ex_aload_n (pc := 47) (fr_get fo_174_1 11 rfl) rfl rfl ?_
        refine ex_iload (pc := 48) (fr_get fo_174_1 12 rfl) rfl ?_
        refine ex_aload_n (pc := 50) (fr_get fo_174_1 13 rfl) rfl rfl ?_
        refine ex_iload_n (pc := 51) (fr_get fo_174_1 14 rfl) rfl ?_
        refine ex_iload (pc := 52) (fr_get fo_174_1 15 rfl) rfl ?_
        refine ex_iadd (pc := 54) (fr_get fo_174_2 0 rfl) ?_
        refine xv_iald (pc := 55) (fr_get fo_174_2 1 rfl) gk_60 (n := 64) (gn_60 ..) rfl rfl h.1 ?_
        replace h := h.2
        refine xv_iast (pc := 56) (fr_get fo_174_2 2 rfl) gs_42 gl_42 rfl h.1 ?_
        replace h := h.2
        refine xv_iinc (pc := 57) (fr_get fo_174_2 3 rfl) rfl ic_1 (L' := [some (.inr (.inr (60, 0))), some (.inr (.inr (42, 0))), some (.inl v2), some (.inl v3), some (.inl v4), some (.inl (v5 + (1 : Int32)))]) rfl ?_
        refine ex_goto (pc := 60) (fr_get fo_174_2 4 rfl) (t := 16) rfl ?_
        exact h
      · replace h := h.2 c
        refine ex_aload_n (pc := 34) (fr_get fo_174_1 2 rfl) rfl rfl ?_
        refine ex_iload_n (pc := 35) (fr_get fo_174_1 3 rfl) rfl ?_
        refine ex_iload (pc := 36) (fr_get fo_174_1 4 rfl) rfl ?_
        refine ex_iadd (pc := 38) (fr_get fo_174_1 5 rfl) ?_
        refine ex_aload_n (pc := 39) (fr_get fo_174_1 6 rfl) rfl rfl ?_
        refine ex_iload (pc := 40) (fr_get fo_174_1 7 rfl) rfl ?_
        refine xv_iald (pc := 42) (fr_get fo_174_1 8 rfl) gk_60 (n := 64) (gn_60 ..) rfl rfl h.1 ?_
        replace h := h.2
        refine xv_iast (pc := 43) (fr_get fo_174_1 9 rfl) gs_42 gl_42 rfl h.1 ?_
        replace h := h.2
        refine ex_goto (pc := 44) (fr_get fo_174_1 10 rfl) (t := 57) rfl ?_
        refine xv_iinc (pc := 57) (fr_get fo_174_2 3 rfl) rfl ic_1 (L' := [some (.inr (.inr (60, 0))), some (.inr (.inr (42, 0))), some (.inl v2), some (.inl v3), some (.inl v4), some (.inl (v5 + (1 : Int32)))]) rfl ?_
        refine ex_goto (pc := 60) (fr_get fo_174_2 4 rfl) (t := 16) rfl ?_
        exact h

theorem e_174_60_44 {d : Nat} {I : ma_I} {o : Nat} {Q : ma_Q} {a2 : Int32} {a3 : Int32}
  (h :
    (a3 ≠ 0 →
      Ex (d) 174 (16, [some (.inr (.inr (60, 0))), some (.inr (.inr (44, 0))), some (.inl a2), some (.inl a3), some (.inl (Int32.ofNat 9)), some (.inl (0 : Int32))], [], ma_mem I o, 0, 0) (ma_end Q)) ∧
    (a3 = 0 →
      Ex (d) 174 (16, [some (.inr (.inr (60, 0))), some (.inr (.inr (44, 0))), some (.inl a2), some (.inl a3), some (.inl (Int32.ofNat 64)), some (.inl (0 : Int32))], [], ma_mem I o, 0, 0) (ma_end Q))) :
  Exm (d) 174 [.inr (.inr (60, 0)), .inr (.inr (44, 0)), .inl a2, .inl a3] I o Q := by
  show Ex (d) 174 (0, [some (.inr (.inr (60, 0))), some (.inr (.inr (44, 0))), some (.inl a2), some (.inl a3), none, none], [], ma_mem I o, 0, 0) (ma_end Q)
  refine ex_iload_n (pc := 0) (fr_get fo_174_0 0 rfl) rfl ?_
  refine xv_bne (pc := 1) (fr_get fo_174_0 1 rfl) (t := 9) rfl (fun c => ?_) (fun c => ?_)
  · replace h := h.1 c
    refine ex_aload_n (pc := 9) (fr_get fo_174_0 5 rfl) rfl rfl ?_
    refine ex_arraylength (pc := 10) (fr_get fo_174_0 6 rfl) gz_44 (n := 9) (gn_44 ..) ?_
    refine ex_istore (pc := 11) (fr_get fo_174_0 7 rfl) rfl (L' := [some (.inr (.inr (60, 0))), some (.inr (.inr (44, 0))), some (.inl a2), some (.inl a3), some (.inl (Int32.ofNat 9)), none]) rfl ?_
    refine ex_iconst (pc := 13) (fr_get fo_174_0 8 rfl) ic_0 ?_
    refine ex_istore (pc := 14) (fr_get fo_174_0 9 rfl) rfl (L' := [some (.inr (.inr (60, 0))), some (.inr (.inr (44, 0))), some (.inl a2), some (.inl a3), some (.inl (Int32.ofNat 9)), some (.inl (0 : Int32))]) rfl ?_
    exact h
  · replace h := h.2 c
    refine ex_aload_n (pc := 4) (fr_get fo_174_0 2 rfl) rfl rfl ?_
    refine ex_arraylength (pc := 5) (fr_get fo_174_0 3 rfl) gz_60 (n := 64) (gn_60 ..) ?_
    refine ex_goto (pc := 6) (fr_get fo_174_0 4 rfl) (t := 11) rfl ?_
    refine ex_istore (pc := 11) (fr_get fo_174_0 7 rfl) rfl (L' := [some (.inr (.inr (60, 0))), some (.inr (.inr (44, 0))), some (.inl a2), some (.inl a3), some (.inl (Int32.ofNat 64)), none]) rfl ?_
    refine ex_iconst (pc := 13) (fr_get fo_174_0 8 rfl) ic_0 ?_
    refine ex_istore (pc := 14) (fr_get fo_174_0 9 rfl) rfl (L' := [some (.inr (.inr (60, 0))), some (.inr (.inr (44, 0))), some (.inl a2), some (.inl a3), some (.inl (Int32.ofNat 64)), some (.inl (0 : Int32))]) rfl ?_
    exact h

theorem b_174_60_44_16 {d : Nat} {I : ma_I} {o : Nat} {Q : ma_Q} {v2 : Int32} {v3 : Int32} {v4 : Int32} {v5 : Int32}
  (h :
    (v4 ≤ v5 →
      Q none I o) ∧
    (v5 < v4 →
      ((9 : Int32) ≤ v5 →
        Q none I o) ∧
      (v5 < (9 : Int32) →
        (v3 ≠ 0 →
          ma_in (v2 + v5) 64 ∧
          ma_in v5 9 ∧
          Ex (d) 174 (16, [some (.inr (.inr (60, 0))), some (.inr (.inr (44, 0))), some (.inl v2), some (.inl v3), some (.inl v4), some (.inl (v5 + (1 : Int32)))], [], ma_mem (ma_up I 44 0 v5.toNatClampNeg (I 60 0 ((v2 + v5).toNatClampNeg))) o, 0, 0) (ma_end Q)) ∧
        (v3 = 0 →
          ma_in v5 64 ∧
          ma_in (v2 + v5) 9 ∧
          Ex (d) 174 (16, [some (.inr (.inr (60, 0))), some (.inr (.inr (44, 0))), some (.inl v2), some (.inl v3), some (.inl v4), some (.inl (v5 + (1 : Int32)))], [], ma_mem (ma_up I 44 0 ((v2 + v5).toNatClampNeg) (I 60 0 v5.toNatClampNeg)) o, 0, 0) (ma_end Q))))) :
  Ex (d) 174 (16, [some (.inr (.inr (60, 0))), some (.inr (.inr (44, 0))), some (.inl v2), some (.inl v3), some (.inl v4), some (.inl v5)], [], ma_mem I o, 0, 0) (ma_end Q) := by
  refine ex_iload (pc := 16) (fr_get fo_174_0 10 rfl) rfl ?_
  refine ex_iload (pc := 18) (fr_get fo_174_0 11 rfl) rfl ?_
  refine xv_cge (pc := 20) (fr_get fo_174_0 12 rfl) (t := 63) rfl (fun c => ?_) (fun c => ?_)
  · replace h := h.1 c
    exact ex_return (pc := 63) (fr_get fo_174_2 5 rfl) rt_174 rfl rfl (ma_end_mk h)
  · replace h := h.2 c
    refine ex_iload (pc := 23) (fr_get fo_174_0 13 rfl) rfl ?_
    refine ex_bipush (pc := 25) (fr_get fo_174_0 14 rfl) bp_9 ?_
    refine xv_cge (pc := 27) (fr_get fo_174_0 15 rfl) (t := 63) rfl (fun c => ?_) (fun c => ?_)
    · replace h := h.1 c
      exact ex_return (pc := 63) (fr_get fo_174_2 5 rfl) rt_174 rfl rfl (ma_end_mk h)
    · replace h := h.2 c
      refine ex_iload_n (pc := 30) (fr_get fo_174_1 0 rfl) rfl ?_
      refine xv_bne (pc := 31) (fr_get fo_174_1 1 rfl) (t := 47) rfl (fun c => ?_) (fun c => ?_)
      · replace h := h.1 c
        refine ex_aload_n (pc := 47) (fr_get fo_174_1 11 rfl) rfl rfl ?_
        refine ex_iload (pc := 48) (fr_get fo_174_1 12 rfl) rfl ?_
        refine ex_aload_n (pc := 50) (fr_get fo_174_1 13 rfl) rfl rfl ?_
        refine ex_iload_n (pc := 51) (fr_get fo_174_1 14 rfl) rfl ?_
        refine ex_iload (pc := 52) (fr_get fo_174_1 15 rfl) rfl ?_
        refine ex_iadd (pc := 54) (fr_get fo_174_2 0 rfl) ?_
        refine xv_iald (pc := 55) (fr_get fo_174_2 1 rfl) gk_60 (n := 64) (gn_60 ..) rfl rfl h.1 ?_
        replace h := h.2
        refine xv_iast (pc := 56) (fr_get fo_174_2 2 rfl) gs_44 gl_44 rfl h.1 ?_
        replace h := h.2
        refine xv_iinc (pc := 57) (fr_get fo_174_2 3 rfl) rfl ic_1 (L' := [some (.inr (.inr (60, 0))), some (.inr (.inr (44, 0))), some (.inl v2), some (.inl v3), some (.inl v4), some (.inl (v5 + (1 : Int32)))]) rfl ?_
        refine ex_goto (pc := 60) (fr_get fo_174_2 4 rfl) (t := 16) rfl ?_
        exact h
      · replace h := h.2 c
        refine ex_aload_n (pc := 34) (fr_get fo_174_1 2 rfl) rfl rfl ?_
        refine ex_iload_n (pc := 35) (fr_get fo_174_1 3 rfl) rfl ?_
        refine ex_iload (pc := 36) (fr_get fo_174_1 4 rfl) rfl ?_
        refine ex_iadd (pc := 38) (fr_get fo_174_1 5 rfl) ?_
        refine ex_aload_n (pc := 39) (fr_get fo_174_1 6 rfl) rfl rfl ?_
        refine ex_iload (pc := 40) (fr_get fo_174_1 7 rfl) rfl ?_
        refine xv_iald (pc := 42) (fr_get fo_174_1 8 rfl) gk_60 (n := 64) (gn_60 ..) rfl rfl h.1 ?_
        replace h := h.2
        refine xv_iast (pc := 43) (fr_get fo_174_1 9 rfl) gs_44 gl_44 rfl h.1 ?_
        replace h := h.2
        refine ex_goto (pc := 44) (fr_get fo_174_1 10 rfl) (t := 57) rfl ?_
        refine xv_iinc (pc := 57) (fr_get fo_174_2 3 rfl) rfl ic_1 (L' := [some (.inr (.inr (60, 0))), some (.inr (.inr (44, 0))), some (.inl v2), some (.inl v3), some (.inl v4), some (.inl (v5 + (1 : Int32)))]) rfl ?_
        refine ex_goto (pc := 60) (fr_get fo_174_2 4 rfl) (t := 16) rfl ?_
        exact h

theorem e_174_60_45 {d : Nat} {I : ma_I} {o : Nat} {Q : ma_Q} {a2 : Int32} {a3 : Int32}
  (h :
    (a3 ≠ 0 →
      Ex (d) 174 (16, [some (.inr (.inr (60, 0))), some (.inr (.inr (45, 0))), some (.inl a2), some (.inl a3), some (.inl (Int32.ofNat 9)), some (.inl (0 : Int32))], [], ma_mem I o, 0, 0) (ma_end Q)) ∧
    (a3 = 0 →
      Ex (d) 174 (16, [some (.inr (.inr (60, 0))), some (.inr (.inr (45, 0))), some (.inl a2), some (.inl a3), some (.inl (Int32.ofNat 64)), some (.inl (0 : Int32))], [], ma_mem I o, 0, 0) (ma_end Q))) :
  Exm (d) 174 [.inr (.inr (60, 0)), .inr (.inr (45, 0)), .inl a2, .inl a3] I o Q := by
  show Ex (d) 174 (0, [some (.inr (.inr (60, 0))), some (.inr (.inr (45, 0))), some (.inl a2), some (.inl a3), none, none], [], ma_mem I o, 0, 0) (ma_end Q)
  refine ex_iload_n (pc := 0) (fr_get fo_174_0 0 rfl) rfl ?_
  refine xv_bne (pc := 1) (fr_get fo_174_0 1 rfl) (t := 9) rfl (fun c => ?_) (fun c => ?_)
  · replace h := h.1 c
    refine ex_aload_n (pc := 9) (fr_get fo_174_0 5 rfl) rfl rfl ?_
    refine ex_arraylength (pc := 10) (fr_get fo_174_0 6 rfl) gz_45 (n := 9) (gn_45 ..) ?_
    refine ex_istore (pc := 11) (fr_get fo_174_0 7 rfl) rfl (L' := [some (.inr (.inr (60, 0))), some (.inr (.inr (45, 0))), some (.inl a2), some (.inl a3), some (.inl (Int32.ofNat 9)), none]) rfl ?_
    refine ex_iconst (pc := 13) (fr_get fo_174_0 8 rfl) ic_0 ?_
    refine ex_istore (pc := 14) (fr_get fo_174_0 9 rfl) rfl (L' := [some (.inr (.inr (60, 0))), some (.inr (.inr (45, 0))), some (.inl a2), some (.inl a3), some (.inl (Int32.ofNat 9)), some (.inl (0 : Int32))]) rfl ?_
    exact h
  · replace h := h.2 c
    refine ex_aload_n (pc := 4) (fr_get fo_174_0 2 rfl) rfl rfl ?_
    refine ex_arraylength (pc := 5) (fr_get fo_174_0 3 rfl) gz_60 (n := 64) (gn_60 ..) ?_
    refine ex_goto (pc := 6) (fr_get fo_174_0 4 rfl) (t := 11) rfl ?_
    refine ex_istore (pc := 11) (fr_get fo_174_0 7 rfl) rfl (L' := [some (.inr (.inr (60, 0))), some (.inr (.inr (45, 0))), some (.inl a2), some (.inl a3), some (.inl (Int32.ofNat 64)), none]) rfl ?_
    refine ex_iconst (pc := 13) (fr_get fo_174_0 8 rfl) ic_0 ?_
    refine ex_istore (pc := 14) (fr_get fo_174_0 9 rfl) rfl (L' := [some (.inr (.inr (60, 0))), some (.inr (.inr (45, 0))), some (.inl a2), some (.inl a3), some (.inl (Int32.ofNat 64)), some (.inl (0 : Int32))]) rfl ?_
    exact h

theorem b_174_60_45_16 {d : Nat} {I : ma_I} {o : Nat} {Q : ma_Q} {v2 : Int32} {v3 : Int32} {v4 : Int32} {v5 : Int32}
  (h :
    (v4 ≤ v5 →
      Q none I o) ∧
    (v5 < v4 →
      ((9 : Int32) ≤ v5 →
        Q none I o) ∧
      (v5 < (9 : Int32) →
        (v3 ≠ 0 →
          ma_in (v2 + v5) 64 ∧
          ma_in v5 9 ∧
          Ex (d) 174 (16, [some (.inr (.inr (60, 0))), some (.inr (.inr (45, 0))), some (.inl v2), some (.inl v3), some (.inl v4), some (.inl (v5 + (1 : Int32)))], [], ma_mem (ma_up I 45 0 v5.toNatClampNeg (I 60 0 ((v2 + v5).toNatClampNeg))) o, 0, 0) (ma_end Q)) ∧
        (v3 = 0 →
          ma_in v5 64 ∧
          ma_in (v2 + v5) 9 ∧
          Ex (d) 174 (16, [some (.inr (.inr (60, 0))), some (.inr (.inr (45, 0))), some (.inl v2), some (.inl v3), some (.inl v4), some (.inl (v5 + (1 : Int32)))], [], ma_mem (ma_up I 45 0 ((v2 + v5).toNatClampNeg) (I 60 0 v5.toNatClampNeg)) o, 0, 0) (ma_end Q))))) :
  Ex (d) 174 (16, [some (.inr (.inr (60, 0))), some (.inr (.inr (45, 0))), some (.inl v2), some (.inl v3), some (.inl v4), some (.inl v5)], [], ma_mem I o, 0, 0) (ma_end Q) := by
  refine ex_iload (pc := 16) (fr_get fo_174_0 10 rfl) rfl ?_
  refine ex_iload (pc := 18) (fr_get fo_174_0 11 rfl) rfl ?_
  refine xv_cge (pc := 20) (fr_get fo_174_0 12 rfl) (t := 63) rfl (fun c => ?_) (fun c => ?_)
  · replace h := h.1 c
    exact ex_return (pc := 63) (fr_get fo_174_2 5 rfl) rt_174 rfl rfl (ma_end_mk h)
  · replace h := h.2 c
    refine ex_iload (pc := 23) (fr_get fo_174_0 13 rfl) rfl ?_
    refine ex_bipush (pc := 25) (fr_get fo_174_0 14 rfl) bp_9 ?_
    refine xv_cge (pc := 27) (fr_get fo_174_0 15 rfl) (t := 63) rfl (fun c => ?_) (fun c => ?_)
    · replace h := h.1 c
      exact ex_return (pc := 63) (fr_get fo_174_2 5 rfl) rt_174 rfl rfl (ma_end_mk h)
    · replace h := h.2 c
      refine ex_iload_n (pc := 30) (fr_get fo_174_1 0 rfl) rfl ?_
      refine xv_bne (pc := 31) (fr_get fo_174_1 1 rfl) (t := 47) rfl (fun c => ?_) (fun c => ?_)
      · replace h := h.1 c
        refine ex_aload_n (pc := 47) (fr_get fo_174_1 11 rfl) rfl rfl ?_
        refine ex_iload (pc := 48) (fr_get fo_174_1 12 rfl) rfl ?_
        refine ex_aload_n (pc := 50) (fr_get fo_174_1 13 rfl) rfl rfl ?_
        refine ex_iload_n (pc := 51) (fr_get fo_174_1 14 rfl) rfl ?_
        refine ex_iload (pc := 52) (fr_get fo_174_1 15 rfl) rfl ?_
        refine ex_iadd (pc := 54) (fr_get fo_174_2 0 rfl) ?_
        refine xv_iald (pc := 55) (fr_get fo_174_2 1 rfl) gk_60 (n := 64) (gn_60 ..) rfl rfl h.1 ?_
        replace h := h.2
        refine xv_iast (pc := 56) (fr_get fo_174_2 2 rfl) gs_45 gl_45 rfl h.1 ?_
        replace h := h.2
        refine xv_iinc (pc := 57) (fr_get fo_174_2 3 rfl) rfl ic_1 (L' := [some (.inr (.inr (60, 0))), some (.inr (.inr (45, 0))), some (.inl v2), some (.inl v3), some (.inl v4), some (.inl (v5 + (1 : Int32)))]) rfl ?_
        refine ex_goto (pc := 60) (fr_get fo_174_2 4 rfl) (t := 16) rfl ?_
        exact h
      · replace h := h.2 c
        refine ex_aload_n (pc := 34) (fr_get fo_174_1 2 rfl) rfl rfl ?_
        refine ex_iload_n (pc := 35) (fr_get fo_174_1 3 rfl) rfl ?_
        refine ex_iload (pc := 36) (fr_get fo_174_1 4 rfl) rfl ?_
        refine ex_iadd (pc := 38) (fr_get fo_174_1 5 rfl) ?_
        refine ex_aload_n (pc := 39) (fr_get fo_174_1 6 rfl) rfl rfl ?_
        refine ex_iload (pc := 40) (fr_get fo_174_1 7 rfl) rfl ?_
        refine xv_iald (pc := 42) (fr_get fo_174_1 8 rfl) gk_60 (n := 64) (gn_60 ..) rfl rfl h.1 ?_
        replace h := h.2
        refine xv_iast (pc := 43) (fr_get fo_174_1 9 rfl) gs_45 gl_45 rfl h.1 ?_
        replace h := h.2
        refine ex_goto (pc := 44) (fr_get fo_174_1 10 rfl) (t := 57) rfl ?_
        refine xv_iinc (pc := 57) (fr_get fo_174_2 3 rfl) rfl ic_1 (L' := [some (.inr (.inr (60, 0))), some (.inr (.inr (45, 0))), some (.inl v2), some (.inl v3), some (.inl v4), some (.inl (v5 + (1 : Int32)))]) rfl ?_
        refine ex_goto (pc := 60) (fr_get fo_174_2 4 rfl) (t := 16) rfl ?_
        exact h

theorem e_174_60_46 {d : Nat} {I : ma_I} {o : Nat} {Q : ma_Q} {a2 : Int32} {a3 : Int32}
  (h :
    (a3 ≠ 0 →
      Ex (d) 174 (16, [some (.inr (.inr (60, 0))), some (.inr (.inr (46, 0))), some (.inl a2), some (.inl a3), some (.inl (Int32.ofNat 9)), some (.inl (0 : Int32))], [], ma_mem I o, 0, 0) (ma_end Q)) ∧
    (a3 = 0 →
      Ex (d) 174 (16, [some (.inr (.inr (60, 0))), some (.inr (.inr (46, 0))), some (.inl a2), some (.inl a3), some (.inl (Int32.ofNat 64)), some (.inl (0 : Int32))], [], ma_mem I o, 0, 0) (ma_end Q))) :
  Exm (d) 174 [.inr (.inr (60, 0)), .inr (.inr (46, 0)), .inl a2, .inl a3] I o Q := by
  show Ex (d) 174 (0, [some (.inr (.inr (60, 0))), some (.inr (.inr (46, 0))), some (.inl a2), some (.inl a3), none, none], [], ma_mem I o, 0, 0) (ma_end Q)
  refine ex_iload_n (pc := 0) (fr_get fo_174_0 0 rfl) rfl ?_
  refine xv_bne (pc := 1) (fr_get fo_174_0 1 rfl) (t := 9) rfl (fun c => ?_) (fun c => ?_)
  · replace h := h.1 c
    refine ex_aload_n (pc := 9) (fr_get fo_174_0 5 rfl) rfl rfl ?_
    refine ex_arraylength (pc := 10) (fr_get fo_174_0 6 rfl) gz_46 (n := 9) (gn_46 ..) ?_
    refine ex_istore (pc := 11) (fr_get fo_174_0 7 rfl) rfl (L' := [some (.inr (.inr (60, 0))), some (.inr (.inr (46, 0))), some (.inl a2), some (.inl a3), some (.inl (Int32.ofNat 9)), none]) rfl ?_
    refine ex_iconst (pc := 13) (fr_get fo_174_0 8 rfl) ic_0 ?_
    refine ex_istore (pc := 14) (fr_get fo_174_0 9 rfl) rfl (L' := [some (.inr (.inr (60, 0))), some (.inr (.inr (46, 0))), some (.inl a2), some (.inl a3), some (.inl (Int32.ofNat 9)), some (.inl (0 : Int32))]) rfl ?_
    exact h
  · replace h := h.2 c
    refine ex_aload_n (pc := 4) (fr_get fo_174_0 2 rfl) rfl rfl ?_
    refine ex_arraylength (pc := 5) (fr_get fo_174_0 3 rfl) gz_60 (n := 64) (gn_60 ..) ?_
    refine ex_goto (pc := 6) (fr_get fo_174_0 4 rfl) (t := 11) rfl ?_
    refine ex_istore (pc := 11) (fr_get fo_174_0 7 rfl) rfl (L' := [some (.inr (.inr (60, 0))), some (.inr (.inr (46, 0))), some (.inl a2), some (.inl a3), some (.inl (Int32.ofNat 64)), none]) rfl ?_
    refine ex_iconst (pc := 13) (fr_get fo_174_0 8 rfl) ic_0 ?_
    refine ex_istore (pc := 14) (fr_get fo_174_0 9 rfl) rfl (L' := [some (.inr (.inr (60, 0))), some (.inr (.inr (46, 0))), some (.inl a2), some (.inl a3), some (.inl (Int32.ofNat 64)), some (.inl (0 : Int32))]) rfl ?_
    exact h

theorem b_174_60_46_16 {d : Nat} {I : ma_I} {o : Nat} {Q : ma_Q} {v2 : Int32} {v3 : Int32} {v4 : Int32} {v5 : Int32}
  (h :
    (v4 ≤ v5 →
      Q none I o) ∧
    (v5 < v4 →
      ((9 : Int32) ≤ v5 →
        Q none I o) ∧
      (v5 < (9 : Int32) →
        (v3 ≠ 0 →
          ma_in (v2 + v5) 64 ∧
          ma_in v5 9 ∧
          Ex (d) 174 (16, [some (.inr (.inr (60, 0))), some (.inr (.inr (46, 0))), some (.inl v2), some (.inl v3), some (.inl v4), some (.inl (v5 + (1 : Int32)))], [], ma_mem (ma_up I 46 0 v5.toNatClampNeg (I 60 0 ((v2 + v5).toNatClampNeg))) o, 0, 0) (ma_end Q)) ∧
        (v3 = 0 →
          ma_in v5 64 ∧
          ma_in (v2 + v5) 9 ∧
          Ex (d) 174 (16, [some (.inr (.inr (60, 0))), some (.inr (.inr (46, 0))), some (.inl v2), some (.inl v3), some (.inl v4), some (.inl (v5 + (1 : Int32)))], [], ma_mem (ma_up I 46 0 ((v2 + v5).toNatClampNeg) (I 60 0 v5.toNatClampNeg)) o, 0, 0) (ma_end Q))))) :
  Ex (d) 174 (16, [some (.inr (.inr (60, 0))), some (.inr (.inr (46, 0))), some (.inl v2), some (.inl v3), some (.inl v4), some (.inl v5)], [], ma_mem I o, 0, 0) (ma_end Q) := by
  refine ex_iload (pc := 16) (fr_get fo_174_0 10 rfl) rfl ?_
  refine ex_iload (pc := 18) (fr_get fo_174_0 11 rfl) rfl ?_
  refine xv_cge (pc := 20) (fr_get fo_174_0 12 rfl) (t := 63) rfl (fun c => ?_) (fun c => ?_)
  · replace h := h.1 c
    exact ex_return (pc := 63) (fr_get fo_174_2 5 rfl) rt_174 rfl rfl (ma_end_mk h)
  · replace h := h.2 c
    refine ex_iload (pc := 23) (fr_get fo_174_0 13 rfl) rfl ?_
    refine ex_bipush (pc := 25) (fr_get fo_174_0 14 rfl) bp_9 ?_
    refine xv_cge (pc := 27) (fr_get fo_174_0 15 rfl) (t := 63) rfl (fun c => ?_) (fun c => ?_)
    · replace h := h.1 c
      exact ex_return (pc := 63) (fr_get fo_174_2 5 rfl) rt_174 rfl rfl (ma_end_mk h)
    · replace h := h.2 c
      refine ex_iload_n (pc := 30) (fr_get fo_174_1 0 rfl) rfl ?_
      refine xv_bne (pc := 31) (fr_get fo_174_1 1 rfl) (t := 47) rfl (fun c => ?_) (fun c => ?_)
      · replace h := h.1 c
        refine ex_aload_n (pc := 47) (fr_get fo_174_1 11 rfl) rfl rfl ?_
        refine ex_iload (pc := 48) (fr_get fo_174_1 12 rfl) rfl ?_
        refine ex_aload_n (pc := 50) (fr_get fo_174_1 13 rfl) rfl rfl ?_
        refine ex_iload_n (pc := 51) (fr_get fo_174_1 14 rfl) rfl ?_
        refine ex_iload (pc := 52) (fr_get fo_174_1 15 rfl) rfl ?_
        refine ex_iadd (pc := 54) (fr_get fo_174_2 0 rfl) ?_
        refine xv_iald (pc := 55) (fr_get fo_174_2 1 rfl) gk_60 (n := 64) (gn_60 ..) rfl rfl h.1 ?_
        replace h := h.2
        refine xv_iast (pc := 56) (fr_get fo_174_2 2 rfl) gs_46 gl_46 rfl h.1 ?_
        replace h := h.2
        refine xv_iinc (pc := 57) (fr_get fo_174_2 3 rfl) rfl ic_1 (L' := [some (.inr (.inr (60, 0))), some (.inr (.inr (46, 0))), some (.inl v2), some (.inl v3), some (.inl v4), some (.inl (v5 + (1 : Int32)))]) rfl ?_
        refine ex_goto (pc := 60) (fr_get fo_174_2 4 rfl) (t := 16) rfl ?_
        exact h
      · replace h := h.2 c
        refine ex_aload_n (pc := 34) (fr_get fo_174_1 2 rfl) rfl rfl ?_
        refine ex_iload_n (pc := 35) (fr_get fo_174_1 3 rfl) rfl ?_
        refine ex_iload (pc := 36) (fr_get fo_174_1 4 rfl) rfl ?_
        refine ex_iadd (pc := 38) (fr_get fo_174_1 5 rfl) ?_
        refine ex_aload_n (pc := 39) (fr_get fo_174_1 6 rfl) rfl rfl ?_
        refine ex_iload (pc := 40) (fr_get fo_174_1 7 rfl) rfl ?_
        refine xv_iald (pc := 42) (fr_get fo_174_1 8 rfl) gk_60 (n := 64) (gn_60 ..) rfl rfl h.1 ?_
        replace h := h.2
        refine xv_iast (pc := 43) (fr_get fo_174_1 9 rfl) gs_46 gl_46 rfl h.1 ?_
        replace h := h.2
        refine ex_goto (pc := 44) (fr_get fo_174_1 10 rfl) (t := 57) rfl ?_
        refine xv_iinc (pc := 57) (fr_get fo_174_2 3 rfl) rfl ic_1 (L' := [some (.inr (.inr (60, 0))), some (.inr (.inr (46, 0))), some (.inl v2), some (.inl v3), some (.inl v4), some (.inl (v5 + (1 : Int32)))]) rfl ?_
        refine ex_goto (pc := 60) (fr_get fo_174_2 4 rfl) (t := 16) rfl ?_
        exact h

theorem e_174_60_47 {d : Nat} {I : ma_I} {o : Nat} {Q : ma_Q} {a2 : Int32} {a3 : Int32}
  (h :
    (a3 ≠ 0 →
      Ex (d) 174 (16, [some (.inr (.inr (60, 0))), some (.inr (.inr (47, 0))), some (.inl a2), some (.inl a3), some (.inl (Int32.ofNat 9)), some (.inl (0 : Int32))], [], ma_mem I o, 0, 0) (ma_end Q)) ∧
    (a3 = 0 →
      Ex (d) 174 (16, [some (.inr (.inr (60, 0))), some (.inr (.inr (47, 0))), some (.inl a2), some (.inl a3), some (.inl (Int32.ofNat 64)), some (.inl (0 : Int32))], [], ma_mem I o, 0, 0) (ma_end Q))) :
  Exm (d) 174 [.inr (.inr (60, 0)), .inr (.inr (47, 0)), .inl a2, .inl a3] I o Q := by
  show Ex (d) 174 (0, [some (.inr (.inr (60, 0))), some (.inr (.inr (47, 0))), some (.inl a2), some (.inl a3), none, none], [], ma_mem I o, 0, 0) (ma_end Q)
  refine ex_iload_n (pc := 0) (fr_get fo_174_0 0 rfl) rfl ?_
  refine xv_bne (pc := 1) (fr_get fo_174_0 1 rfl) (t := 9) rfl (fun c => ?_) (fun c => ?_)
  · replace h := h.1 c
    refine ex_aload_n (pc := 9) (fr_get fo_174_0 5 rfl) rfl rfl ?_
    refine ex_arraylength (pc := 10) (fr_get fo_174_0 6 rfl) gz_47 (n := 9) (gn_47 ..) ?_
    refine ex_istore (pc := 11) (fr_get fo_174_0 7 rfl) rfl (L' := [some (.inr (.inr (60, 0))), some (.inr (.inr (47, 0))), some (.inl a2), some (.inl a3), some (.inl (Int32.ofNat 9)), none]) rfl ?_
    refine ex_iconst (pc := 13) (fr_get fo_174_0 8 rfl) ic_0 ?_
    refine ex_istore (pc := 14) (fr_get fo_174_0 9 rfl) rfl (L' := [some (.inr (.inr (60, 0))), some (.inr (.inr (47, 0))), some (.inl a2), some (.inl a3), some (.inl (Int32.ofNat 9)), some (.inl (0 : Int32))]) rfl ?_
    exact h
  · replace h := h.2 c
    refine ex_aload_n (pc := 4) (fr_get fo_174_0 2 rfl) rfl rfl ?_
    refine ex_arraylength (pc := 5) (fr_get fo_174_0 3 rfl) gz_60 (n := 64) (gn_60 ..) ?_
    refine ex_goto (pc := 6) (fr_get fo_174_0 4 rfl) (t := 11) rfl ?_
    refine ex_istore (pc := 11) (fr_get fo_174_0 7 rfl) rfl (L' := [some (.inr (.inr (60, 0))), some (.inr (.inr (47, 0))), some (.inl a2), some (.inl a3), some (.inl (Int32.ofNat 64)), none]) rfl ?_
    refine ex_iconst (pc := 13) (fr_get fo_174_0 8 rfl) ic_0 ?_
    refine ex_istore (pc := 14) (fr_get fo_174_0 9 rfl) rfl (L' := [some (.inr (.inr (60, 0))), some (.inr (.inr (47, 0))), some (.inl a2), some (.inl a3), some (.inl (Int32.ofNat 64)), some (.inl (0 : Int32))]) rfl ?_
    exact h

theorem b_174_60_47_16 {d : Nat} {I : ma_I} {o : Nat} {Q : ma_Q} {v2 : Int32} {v3 : Int32} {v4 : Int32} {v5 : Int32}
  (h :
    (v4 ≤ v5 →
      Q none I o) ∧
    (v5 < v4 →
      ((9 : Int32) ≤ v5 →
        Q none I o) ∧
      (v5 < (9 : Int32) →
        (v3 ≠ 0 →
          ma_in (v2 + v5) 64 ∧
          ma_in v5 9 ∧
          Ex (d) 174 (16, [some (.inr (.inr (60, 0))), some (.inr (.inr (47, 0))), some (.inl v2), some (.inl v3), some (.inl v4), some (.inl (v5 + (1 : Int32)))], [], ma_mem (ma_up I 47 0 v5.toNatClampNeg (I 60 0 ((v2 + v5).toNatClampNeg))) o, 0, 0) (ma_end Q)) ∧
        (v3 = 0 →
          ma_in v5 64 ∧
          ma_in (v2 + v5) 9 ∧
          Ex (d) 174 (16, [some (.inr (.inr (60, 0))), some (.inr (.inr (47, 0))), some (.inl v2), some (.inl v3), some (.inl v4), some (.inl (v5 + (1 : Int32)))], [], ma_mem (ma_up I 47 0 ((v2 + v5).toNatClampNeg) (I 60 0 v5.toNatClampNeg)) o, 0, 0) (ma_end Q))))) :
  Ex (d) 174 (16, [some (.inr (.inr (60, 0))), some (.inr (.inr (47, 0))), some (.inl v2), some (.inl v3), some (.inl v4), some (.inl v5)], [], ma_mem I o, 0, 0) (ma_end Q) := by
  refine ex_iload (pc := 16) (fr_get fo_174_0 10 rfl) rfl ?_
  refine ex_iload (pc := 18) (fr_get fo_174_0 11 rfl) rfl ?_
  refine xv_cge (pc := 20) (fr_get fo_174_0 12 rfl) (t := 63) rfl (fun c => ?_) (fun c => ?_)
  · replace h := h.1 c
    exact ex_return (pc := 63) (fr_get fo_174_2 5 rfl) rt_174 rfl rfl (ma_end_mk h)
  · replace h := h.2 c
    refine ex_iload (pc := 23) (fr_get fo_174_0 13 rfl) rfl ?_
    refine ex_bipush (pc := 25) (fr_get fo_174_0 14 rfl) bp_9 ?_
    refine xv_cge (pc := 27) (fr_get fo_174_0 15 rfl) (t := 63) rfl (fun c => ?_) (fun c => ?_)
    · replace h := h.1 c
      exact ex_return (pc := 63) (fr_get fo_174_2 5 rfl) rt_174 rfl rfl (ma_end_mk h)
    · replace h := h.2 c
      refine ex_iload_n (pc := 30) (fr_get fo_174_1 0 rfl) rfl ?_
      refine xv_bne (pc := 31) (fr_get fo_174_1 1 rfl) (t := 47) rfl (fun c => ?_) (fun c => ?_)
      · replace h := h.1 c
        refine ex_aload_n (pc := 47) (fr_get fo_174_1 11 rfl) rfl rfl ?_
        refine ex_iload (pc := 48) (fr_get fo_174_1 12 rfl) rfl ?_
        refine ex_aload_n (pc := 50) (fr_get fo_174_1 13 rfl) rfl rfl ?_
        refine ex_iload_n (pc := 51) (fr_get fo_174_1 14 rfl) rfl ?_
        refine ex_iload (pc := 52) (fr_get fo_174_1 15 rfl) rfl ?_
        refine ex_iadd (pc := 54) (fr_get fo_174_2 0 rfl) ?_
        refine xv_iald (pc := 55) (fr_get fo_174_2 1 rfl) gk_60 (n := 64) (gn_60 ..) rfl rfl h.1 ?_
        replace h := h.2
        refine xv_iast (pc := 56) (fr_get fo_174_2 2 rfl) gs_47 gl_47 rfl h.1 ?_
        replace h := h.2
        refine xv_iinc (pc := 57) (fr_get fo_174_2 3 rfl) rfl ic_1 (L' := [some (.inr (.inr (60, 0))), some (.inr (.inr (47, 0))), some (.inl v2), some (.inl v3), some (.inl v4), some (.inl (v5 + (1 : Int32)))]) rfl ?_
        refine ex_goto (pc := 60) (fr_get fo_174_2 4 rfl) (t := 16) rfl ?_
        exact h
      · replace h := h.2 c
        refine ex_aload_n (pc := 34) (fr_get fo_174_1 2 rfl) rfl rfl ?_
        refine ex_iload_n (pc := 35) (fr_get fo_174_1 3 rfl) rfl ?_
        refine ex_iload (pc := 36) (fr_get fo_174_1 4 rfl) rfl ?_
        refine ex_iadd (pc := 38) (fr_get fo_174_1 5 rfl) ?_
        refine ex_aload_n (pc := 39) (fr_get fo_174_1 6 rfl) rfl rfl ?_
        refine ex_iload (pc := 40) (fr_get fo_174_1 7 rfl) rfl ?_
        refine xv_iald (pc := 42) (fr_get fo_174_1 8 rfl) gk_60 (n := 64) (gn_60 ..) rfl rfl h.1 ?_
        replace h := h.2
        refine xv_iast (pc := 43) (fr_get fo_174_1 9 rfl) gs_47 gl_47 rfl h.1 ?_
        replace h := h.2
        refine ex_goto (pc := 44) (fr_get fo_174_1 10 rfl) (t := 57) rfl ?_
        refine xv_iinc (pc := 57) (fr_get fo_174_2 3 rfl) rfl ic_1 (L' := [some (.inr (.inr (60, 0))), some (.inr (.inr (47, 0))), some (.inl v2), some (.inl v3), some (.inl v4), some (.inl (v5 + (1 : Int32)))]) rfl ?_
        refine ex_goto (pc := 60) (fr_get fo_174_2 4 rfl) (t := 16) rfl ?_
        exact h

theorem e_174_60_48 {d : Nat} {I : ma_I} {o : Nat} {Q : ma_Q} {a2 : Int32} {a3 : Int32}
  (h :
    (a3 ≠ 0 →
      Ex (d) 174 (16, [some (.inr (.inr (60, 0))), some (.inr (.inr (48, 0))), some (.inl a2), some (.inl a3), some (.inl (Int32.ofNat 9)), some (.inl (0 : Int32))], [], ma_mem I o, 0, 0) (ma_end Q)) ∧
    (a3 = 0 →
      Ex (d) 174 (16, [some (.inr (.inr (60, 0))), some (.inr (.inr (48, 0))), some (.inl a2), some (.inl a3), some (.inl (Int32.ofNat 64)), some (.inl (0 : Int32))], [], ma_mem I o, 0, 0) (ma_end Q))) :
  Exm (d) 174 [.inr (.inr (60, 0)), .inr (.inr (48, 0)), .inl a2, .inl a3] I o Q := by
  show Ex (d) 174 (0, [some (.inr (.inr (60, 0))), some (.inr (.inr (48, 0))), some (.inl a2), some (.inl a3), none, none], [], ma_mem I o, 0, 0) (ma_end Q)
  refine ex_iload_n (pc := 0) (fr_get fo_174_0 0 rfl) rfl ?_
  refine xv_bne (pc := 1) (fr_get fo_174_0 1 rfl) (t := 9) rfl (fun c => ?_) (fun c => ?_)
  · replace h := h.1 c
    refine ex_aload_n (pc := 9) (fr_get fo_174_0 5 rfl) rfl rfl ?_
    refine ex_arraylength (pc := 10) (fr_get fo_174_0 6 rfl) gz_48 (n := 9) (gn_48 ..) ?_
    refine ex_istore (pc := 11) (fr_get fo_174_0 7 rfl) rfl (L' := [some (.inr (.inr (60, 0))), some (.inr (.inr (48, 0))), some (.inl a2), some (.inl a3), some (.inl (Int32.ofNat 9)), none]) rfl ?_
    refine ex_iconst (pc := 13) (fr_get fo_174_0 8 rfl) ic_0 ?_
    refine ex_istore (pc := 14) (fr_get fo_174_0 9 rfl) rfl (L' := [some (.inr (.inr (60, 0))), some (.inr (.inr (48, 0))), some (.inl a2), some (.inl a3), some (.inl (Int32.ofNat 9)), some (.inl (0 : Int32))]) rfl ?_
    exact h
  · replace h := h.2 c
    refine ex_aload_n (pc := 4) (fr_get fo_174_0 2 rfl) rfl rfl ?_
    refine ex_arraylength (pc := 5) (fr_get fo_174_0 3 rfl) gz_60 (n := 64) (gn_60 ..) ?_
    refine ex_goto (pc := 6) (fr_get fo_174_0 4 rfl) (t := 11) rfl ?_
    refine ex_istore (pc := 11) (fr_get fo_174_0 7 rfl) rfl (L' := [some (.inr (.inr (60, 0))), some (.inr (.inr (48, 0))), some (.inl a2), some (.inl a3), some (.inl (Int32.ofNat 64)), none]) rfl ?_
    refine ex_iconst (pc := 13) (fr_get fo_174_0 8 rfl) ic_0 ?_
    refine ex_istore (pc := 14) (fr_get fo_174_0 9 rfl) rfl (L' := [some (.inr (.inr (60, 0))), some (.inr (.inr (48, 0))), some (.inl a2), some (.inl a3), some (.inl (Int32.ofNat 64)), some (.inl (0 : Int32))]) rfl ?_
    exact h

theorem b_174_60_48_16 {d : Nat} {I : ma_I} {o : Nat} {Q : ma_Q} {v2 : Int32} {v3 : Int32} {v4 : Int32} {v5 : Int32}
  (h :
    (v4 ≤ v5 →
      Q none I o) ∧
    (v5 < v4 →
      ((9 : Int32) ≤ v5 →
        Q none I o) ∧
      (v5 < (9 : Int32) →
        (v3 ≠ 0 →
          ma_in (v2 + v5) 64 ∧
          ma_in v5 9 ∧
          Ex (d) 174 (16, [some (.inr (.inr (60, 0))), some (.inr (.inr (48, 0))), some (.inl v2), some (.inl v3), some (.inl v4), some (.inl (v5 + (1 : Int32)))], [], ma_mem (ma_up I 48 0 v5.toNatClampNeg (I 60 0 ((v2 + v5).toNatClampNeg))) o, 0, 0) (ma_end Q)) ∧
        (v3 = 0 →
          ma_in v5 64 ∧
          ma_in (v2 + v5) 9 ∧
          Ex (d) 174 (16, [some (.inr (.inr (60, 0))), some (.inr (.inr (48, 0))), some (.inl v2), some (.inl v3), some (.inl v4), some (.inl (v5 + (1 : Int32)))], [], ma_mem (ma_up I 48 0 ((v2 + v5).toNatClampNeg) (I 60 0 v5.toNatClampNeg)) o, 0, 0) (ma_end Q))))) :
  Ex (d) 174 (16, [some (.inr (.inr (60, 0))), some (.inr (.inr (48, 0))), some (.inl v2), some (.inl v3), some (.inl v4), some (.inl v5)], [], ma_mem I o, 0, 0) (ma_end Q) := by
  refine ex_iload (pc := 16) (fr_get fo_174_0 10 rfl) rfl ?_
  refine ex_iload (pc := 18) (fr_get fo_174_0 11 rfl) rfl ?_
  refine xv_cge (pc := 20) (fr_get fo_174_0 12 rfl) (t := 63) rfl (fun c => ?_) (fun c => ?_)
  · replace h := h.1 c
    exact ex_return (pc := 63) (fr_get fo_174_2 5 rfl) rt_174 rfl rfl (ma_end_mk h)
  · replace h := h.2 c
    refine ex_iload (pc := 23) (fr_get fo_174_0 13 rfl) rfl ?_
    refine ex_bipush (pc := 25) (fr_get fo_174_0 14 rfl) bp_9 ?_
    refine xv_cge (pc := 27) (fr_get fo_174_0 15 rfl) (t := 63) rfl (fun c => ?_) (fun c => ?_)
    · replace h := h.1 c
      exact ex_return (pc := 63) (fr_get fo_174_2 5 rfl) rt_174 rfl rfl (ma_end_mk h)
    · replace h := h.2 c
      refine ex_iload_n (pc := 30) (fr_get fo_174_1 0 rfl) rfl ?_
      refine xv_bne (pc := 31) (fr_get fo_174_1 1 rfl) (t := 47) rfl (fun c => ?_) (fun c => ?_)
      · replace h := h.1 c
        refine ex_aload_n (pc := 47) (fr_get fo_174_1 11 rfl) rfl rfl ?_
        refine ex_iload (pc := 48) (fr_get fo_174_1 12 rfl) rfl ?_
        refine ex_aload_n (pc := 50) (fr_get fo_174_1 13 rfl) rfl rfl ?_
        refine ex_iload_n (pc := 51) (fr_get fo_174_1 14 rfl) rfl ?_
        refine ex_iload (pc := 52) (fr_get fo_174_1 15 rfl) rfl ?_
        refine ex_iadd (pc := 54) (fr_get fo_174_2 0 rfl) ?_
        refine xv_iald (pc := 55) (fr_get fo_174_2 1 rfl) gk_60 (n := 64) (gn_60 ..) rfl rfl h.1 ?_
        replace h := h.2
        refine xv_iast (pc := 56) (fr_get fo_174_2 2 rfl) gs_48 gl_48 rfl h.1 ?_
        replace h := h.2
        refine xv_iinc (pc := 57) (fr_get fo_174_2 3 rfl) rfl ic_1 (L' := [some (.inr (.inr (60, 0))), some (.inr (.inr (48, 0))), some (.inl v2), some (.inl v3), some (.inl v4), some (.inl (v5 + (1 : Int32)))]) rfl ?_
        refine ex_goto (pc := 60) (fr_get fo_174_2 4 rfl) (t := 16) rfl ?_
        exact h
      · replace h := h.2 c
        refine ex_aload_n (pc := 34) (fr_get fo_174_1 2 rfl) rfl rfl ?_
        refine ex_iload_n (pc := 35) (fr_get fo_174_1 3 rfl) rfl ?_
        refine ex_iload (pc := 36) (fr_get fo_174_1 4 rfl) rfl ?_
        refine ex_iadd (pc := 38) (fr_get fo_174_1 5 rfl) ?_
        refine ex_aload_n (pc := 39) (fr_get fo_174_1 6 rfl) rfl rfl ?_
        refine ex_iload (pc := 40) (fr_get fo_174_1 7 rfl) rfl ?_
        refine xv_iald (pc := 42) (fr_get fo_174_1 8 rfl) gk_60 (n := 64) (gn_60 ..) rfl rfl h.1 ?_
        replace h := h.2
        refine xv_iast (pc := 43) (fr_get fo_174_1 9 rfl) gs_48 gl_48 rfl h.1 ?_
        replace h := h.2
        refine ex_goto (pc := 44) (fr_get fo_174_1 10 rfl) (t := 57) rfl ?_
        refine xv_iinc (pc := 57) (fr_get fo_174_2 3 rfl) rfl ic_1 (L' := [some (.inr (.inr (60, 0))), some (.inr (.inr (48, 0))), some (.inl v2), some (.inl v3), some (.inl v4), some (.inl (v5 + (1 : Int32)))]) rfl ?_
        refine ex_goto (pc := 60) (fr_get fo_174_2 4 rfl) (t := 16) rfl ?_
        exact h

theorem e_175 {d : Nat} {I : ma_I} {o : Nat} {Q : ma_Q} 
  (h :
    Exm (d) 174 [.inr (.inr (42, 0)), .inr (.inr (60, 0)), .inl (4 : Int32), .inl (0 : Int32)] (ma_up (ma_up (ma_up (ma_up (ma_up I 40 0 42 (1 : Int32)) 60 0 0 (I 40 0 0)) 60 0 1 (I 40 0 1)) 60 0 2 (I 40 0 4)) 60 0 3 (I 40 0 14)) o (fun r J1 p2 => r = none ∧
      Exm (d) 174 [.inr (.inr (44, 0)), .inr (.inr (60, 0)), .inl (10 : Int32), .inl (0 : Int32)] J1 p2 (fun r J3 p4 => r = none ∧
        Exm (d) 174 [.inr (.inr (45, 0)), .inr (.inr (60, 0)), .inl (19 : Int32), .inl (0 : Int32)] J3 p4 (fun r J5 p6 => r = none ∧
          Exm (d) 174 [.inr (.inr (46, 0)), .inr (.inr (60, 0)), .inl (28 : Int32), .inl (0 : Int32)] J5 p6 (fun r J7 p8 => r = none ∧
            Exm (d) 174 [.inr (.inr (47, 0)), .inr (.inr (60, 0)), .inl (37 : Int32), .inl (0 : Int32)] J7 p8 (fun r J9 p10 => r = none ∧
              Exm (d) 174 [.inr (.inr (48, 0)), .inr (.inr (60, 0)), .inl (46 : Int32), .inl (0 : Int32)] J9 p10 (fun r J11 p12 => r = none ∧
                Q (some (.inl (J11 40 0 4))) J11 p12))))))) :
  Exm (d + 1) 175 [.inr (.inr (40, 0))] I o Q := by
  show Ex (d + 1) 175 (0, [some (.inr (.inr (40, 0)))], [], ma_mem I o, 0, 0) (ma_end Q)
  refine ex_aload_n (pc := 0) (fr_get fo_175_0 0 rfl) rfl rfl ?_
  refine ex_iconst (pc := 1) (fr_get fo_175_0 1 rfl) ic_1 ?_
  refine xv_pb (pc := 2) (fr_get fo_175_0 2 rfl) ow_175 fb_9_293_40 (Or.inr rfl) ?_
  refine ex_aload_n (pc := 5) (fr_get fo_175_0 3 rfl) rfl rfl ?_
  refine ex_gr (pc := 6) (fr_get fo_175_0 4 rfl) ow_175 fr_9_210_40 (q := (60, 0)) rfl ?_
  refine ex_iconst (pc := 9) (fr_get fo_175_0 5 rfl) ic_0 ?_
  refine ex_aload_n (pc := 10) (fr_get fo_175_0 6 rfl) rfl rfl ?_
  refine xv_gi (pc := 11) (fr_get fo_175_0 7 rfl) ow_175 fg_9_50_40 (xv_uj rfl) ?_
  refine xv_iast (pc := 14) (fr_get fo_175_0 8 rfl) gs_60 gl_60 cl_0 mi_0_64 ?_
  refine ex_aload_n (pc := 15) (fr_get fo_175_0 9 rfl) rfl rfl ?_
  refine ex_gr (pc := 16) (fr_get fo_175_0 10 rfl) ow_175 fr_9_210_40 (q := (60, 0)) rfl ?_
  refine ex_iconst (pc := 19) (fr_get fo_175_0 11 rfl) ic_1 ?_
  refine ex_aload_n (pc := 20) (fr_get fo_175_0 12 rfl) rfl rfl ?_
  refine xv_gi (pc := 21) (fr_get fo_175_0 13 rfl) ow_175 fg_9_18_40 (Eq.trans (xv_ug rfl) (xv_uj rfl)) ?_
  refine xv_iast (pc := 24) (fr_get fo_175_0 14 rfl) gs_60 gl_60 cl_1 mi_1_64 ?_
  refine ex_aload_n (pc := 25) (fr_get fo_175_0 15 rfl) rfl rfl ?_
  refine ex_gr (pc := 26) (fr_get fo_175_1 0 rfl) ow_175 fr_9_210_40 (q := (60, 0)) rfl ?_
  refine ex_iconst (pc := 29) (fr_get fo_175_1 1 rfl) ic_2 ?_
  refine ex_aload_n (pc := 30) (fr_get fo_175_1 2 rfl) rfl rfl ?_
  refine xv_gi (pc := 31) (fr_get fo_175_1 3 rfl) ow_175 fg_9_7_40 (Eq.trans (xv_ug rfl) (Eq.trans (xv_ug rfl) (xv_uj rfl))) ?_
  refine xv_iast (pc := 34) (fr_get fo_175_1 4 rfl) gs_60 gl_60 cl_2 mi_2_64 ?_
  refine ex_aload_n (pc := 35) (fr_get fo_175_1 5 rfl) rfl rfl ?_
  refine ex_gr (pc := 36) (fr_get fo_175_1 6 rfl) ow_175 fr_9_210_40 (q := (60, 0)) rfl ?_
  refine ex_iconst (pc := 39) (fr_get fo_175_1 7 rfl) ic_3 ?_
  refine ex_aload_n (pc := 40) (fr_get fo_175_1 8 rfl) rfl rfl ?_
  refine xv_gi (pc := 41) (fr_get fo_175_1 9 rfl) ow_175 fg_9_190_40 (Eq.trans (xv_ug rfl) (Eq.trans (xv_ug rfl) (Eq.trans (xv_ug rfl) (xv_uj rfl)))) ?_
  refine xv_iast (pc := 44) (fr_get fo_175_1 10 rfl) gs_60 gl_60 cl_3 mi_3_64 ?_
  refine ex_aload_n (pc := 45) (fr_get fo_175_1 11 rfl) rfl rfl ?_
  refine ex_gr (pc := 46) (fr_get fo_175_1 12 rfl) ow_175 fr_9_25_40 (q := (42, 0)) rfl ?_
  refine ex_aload_n (pc := 49) (fr_get fo_175_1 13 rfl) rfl rfl ?_
  refine ex_gr (pc := 50) (fr_get fo_175_1 14 rfl) ow_175 fr_9_210_40 (q := (60, 0)) rfl ?_
  refine ex_iconst (pc := 53) (fr_get fo_175_1 15 rfl) ic_4 ?_
  refine ex_iconst (pc := 54) (fr_get fo_175_2 0 rfl) ic_0 ?_
  refine xv_ks0 (pc := 55) (fr_get fo_175_2 1 rfl) cc_175_296 (as := [.inr (.inr (42, 0)), .inr (.inr (60, 0)), .inl (4 : Int32), .inl (0 : Int32)]) (rs := []) rfl rfl rfl rfl ?_
  refine h.mono (fun r J1 p2 h => ⟨h.1, ?_⟩)
  replace h := h.2
  refine ex_aload_n (pc := 58) (fr_get fo_175_2 2 rfl) rfl rfl ?_
  refine ex_gr (pc := 59) (fr_get fo_175_2 3 rfl) ow_175 fr_9_31_40 (q := (44, 0)) rfl ?_
  refine ex_aload_n (pc := 62) (fr_get fo_175_2 4 rfl) rfl rfl ?_
  refine ex_gr (pc := 63) (fr_get fo_175_2 5 rfl) ow_175 fr_9_210_40 (q := (60, 0)) rfl ?_
  refine ex_bipush (pc := 66) (fr_get fo_175_2 6 rfl) bp_10 ?_
  refine ex_iconst (pc := 68) (fr_get fo_175_2 7 rfl) ic_0 ?_
  refine xv_ks0 (pc := 69) (fr_get fo_175_2 8 rfl) cc_175_296 (as := [.inr (.inr (44, 0)), .inr (.inr (60, 0)), .inl (10 : Int32), .inl (0 : Int32)]) (rs := []) rfl rfl rfl rfl ?_
  refine h.mono (fun r J3 p4 h => ⟨h.1, ?_⟩)
  replace h := h.2
  refine ex_aload_n (pc := 72) (fr_get fo_175_2 9 rfl) rfl rfl ?_
  refine ex_gr (pc := 73) (fr_get fo_175_2 10 rfl) ow_175 fr_9_34_40 (q := (45, 0)) rfl ?_
  refine ex_aload_n (pc := 76) (fr_get fo_175_2 11 rfl) rfl rfl ?_
  refine ex_gr (pc := 77) (fr_get fo_175_2 12 rfl) ow_175 fr_9_210_40 (q := (60, 0)) rfl ?_
  refine ex_bipush (pc := 80) (fr_get fo_175_2 13 rfl) bp_19 ?_
  refine ex_iconst (pc := 82) (fr_get fo_175_2 14 rfl) ic_0 ?_
  refine xv_ks0 (pc := 83) (fr_get fo_175_2 15 rfl) cc_175_296 (as := [.inr (.inr (45, 0)), .inr (.inr (60, 0)), .inl (19 : Int32), .inl (0 : Int32)]) (rs := []) rfl rfl rfl rfl ?_
  refine h.mono (fun r J5 p6 h => ⟨h.1, ?_⟩)
  replace h := h.2
  refine ex_aload_n (pc := 86) (fr_get fo_175_3 0 rfl) rfl rfl ?_
  refine ex_gr (pc := 87) (fr_get fo_175_3 1 rfl) ow_175 fr_9_37_40 (q := (46, 0)) rfl ?_
  refine ex_aload_n (pc := 90) (fr_get fo_175_3 2 rfl) rfl rfl ?_
  refine ex_gr (pc := 91) (fr_get fo_175_3 3 rfl) ow_175 fr_9_210_40 (q := (60, 0)) rfl ?_
  refine ex_bipush (pc := 94) (fr_get fo_175_3 4 rfl) bp_28 ?_
  refine ex_iconst (pc := 96) (fr_get fo_175_3 5 rfl) ic_0 ?_
  refine xv_ks0 (pc := 97) (fr_get fo_175_3 6 rfl) cc_175_296 (as := [.inr (.inr (46, 0)), .inr (.inr (60, 0)), .inl (28 : Int32), .inl (0 : Int32)]) (rs := []) rfl rfl rfl rfl ?_
  refine h.mono (fun r J7 p8 h => ⟨h.1, ?_⟩)
  replace h := h.2
  refine ex_aload_n (pc := 100) (fr_get fo_175_3 7 rfl) rfl rfl ?_
  refine ex_gr (pc := 101) (fr_get fo_175_3 8 rfl) ow_175 fr_9_40_40 (q := (47, 0)) rfl ?_
  refine ex_aload_n (pc := 104) (fr_get fo_175_3 9 rfl) rfl rfl ?_
  refine ex_gr (pc := 105) (fr_get fo_175_3 10 rfl) ow_175 fr_9_210_40 (q := (60, 0)) rfl ?_
  refine ex_bipush (pc := 108) (fr_get fo_175_3 11 rfl) bp_37 ?_
  refine ex_iconst (pc := 110) (fr_get fo_175_3 12 rfl) ic_0 ?_
  refine xv_ks0 (pc := 111) (fr_get fo_175_3 13 rfl) cc_175_296 (as := [.inr (.inr (47, 0)), .inr (.inr (60, 0)), .inl (37 : Int32), .inl (0 : Int32)]) (rs := []) rfl rfl rfl rfl ?_
  refine h.mono (fun r J9 p10 h => ⟨h.1, ?_⟩)
  replace h := h.2
  refine ex_aload_n (pc := 114) (fr_get fo_175_3 14 rfl) rfl rfl ?_
  refine ex_gr (pc := 115) (fr_get fo_175_3 15 rfl) ow_175 fr_9_43_40 (q := (48, 0)) rfl ?_
  refine ex_aload_n (pc := 118) (fr_get fo_175_4 0 rfl) rfl rfl ?_
  refine ex_gr (pc := 119) (fr_get fo_175_4 1 rfl) ow_175 fr_9_210_40 (q := (60, 0)) rfl ?_
  refine ex_bipush (pc := 122) (fr_get fo_175_4 2 rfl) bp_46 ?_
  refine ex_iconst (pc := 124) (fr_get fo_175_4 3 rfl) ic_0 ?_
  refine xv_ks0 (pc := 125) (fr_get fo_175_4 4 rfl) cc_175_296 (as := [.inr (.inr (48, 0)), .inr (.inr (60, 0)), .inl (46 : Int32), .inl (0 : Int32)]) (rs := []) rfl rfl rfl rfl ?_
  refine h.mono (fun r J11 p12 h => ⟨h.1, ?_⟩)
  replace h := h.2
  refine ex_aload_n (pc := 128) (fr_get fo_175_4 5 rfl) rfl rfl ?_
  refine xv_gi (pc := 129) (fr_get fo_175_4 6 rfl) ow_175 fg_9_7_40 rfl ?_
  exact ex_ireturn (pc := 132) (fr_get fo_175_4 7 rfl) rt_175 rfl rfl (ma_end_mk h)

theorem e_176 {d : Nat} {I : ma_I} {o : Nat} {Q : ma_Q} 
  (h :
    (I 40 0 42 ≠ 0 →
      Exm (d) 174 [.inr (.inr (60, 0)), .inr (.inr (42, 0)), .inl (4 : Int32), .inl (1 : Int32)] (ma_up (ma_up (ma_up (ma_up I 40 0 0 (I 60 0 0)) 40 0 1 (I 60 0 1)) 40 0 4 (I 60 0 2)) 40 0 14 (I 60 0 3)) o (fun r J1 p2 => r = none ∧
        Exm (d) 174 [.inr (.inr (60, 0)), .inr (.inr (44, 0)), .inl (10 : Int32), .inl (1 : Int32)] J1 p2 (fun r J3 p4 => r = none ∧
          Exm (d) 174 [.inr (.inr (60, 0)), .inr (.inr (45, 0)), .inl (19 : Int32), .inl (1 : Int32)] J3 p4 (fun r J5 p6 => r = none ∧
            Exm (d) 174 [.inr (.inr (60, 0)), .inr (.inr (46, 0)), .inl (28 : Int32), .inl (1 : Int32)] J5 p6 (fun r J7 p8 => r = none ∧
              Exm (d) 174 [.inr (.inr (60, 0)), .inr (.inr (47, 0)), .inl (37 : Int32), .inl (1 : Int32)] J7 p8 (fun r J9 p10 => r = none ∧
                Exm (d) 174 [.inr (.inr (60, 0)), .inr (.inr (48, 0)), .inl (46 : Int32), .inl (1 : Int32)] J9 p10 (fun r J11 p12 => r = none ∧
                  Q (some (.inl (J11 40 0 4))) J11 p12))))))) ∧
    (I 40 0 42 = 0 →
      Q (some (.inl (-3 : Int32))) I o)) :
  Exm (d + 1) 176 [.inr (.inr (40, 0))] I o Q := by
  show Ex (d + 1) 176 (0, [some (.inr (.inr (40, 0)))], [], ma_mem I o, 0, 0) (ma_end Q)
  refine ex_aload_n (pc := 0) (fr_get fo_176_0 0 rfl) rfl rfl ?_
  refine xv_gi (pc := 1) (fr_get fo_176_0 1 rfl) ow_176 fg_9_293_40 rfl ?_
  refine xv_bne (pc := 4) (fr_get fo_176_0 2 rfl) (t := 10) rfl (fun c => ?_) (fun c => ?_)
  · replace h := h.1 c
    refine ex_aload_n (pc := 10) (fr_get fo_176_0 5 rfl) rfl rfl ?_
    refine ex_aload_n (pc := 11) (fr_get fo_176_0 6 rfl) rfl rfl ?_
    refine ex_gr (pc := 12) (fr_get fo_176_0 7 rfl) ow_176 fr_9_210_40 (q := (60, 0)) rfl ?_
    refine ex_iconst (pc := 15) (fr_get fo_176_0 8 rfl) ic_0 ?_
    refine xv_iald (pc := 16) (fr_get fo_176_0 9 rfl) gk_60 (n := 64) (gn_60 ..) cl_0 rfl mi_0_64 ?_
    refine ex_pi (pc := 17) (fr_get fo_176_0 10 rfl) ow_176 fp_9_50_40 ?_
    refine ex_aload_n (pc := 20) (fr_get fo_176_0 11 rfl) rfl rfl ?_
    refine ex_aload_n (pc := 21) (fr_get fo_176_0 12 rfl) rfl rfl ?_
    refine ex_gr (pc := 22) (fr_get fo_176_0 13 rfl) ow_176 fr_9_210_40 (q := (60, 0)) rfl ?_
    refine ex_iconst (pc := 25) (fr_get fo_176_0 14 rfl) ic_1 ?_
    refine xv_iald (pc := 26) (fr_get fo_176_0 15 rfl) gk_60 (n := 64) (gn_60 ..) cl_1 (xv_ug rfl) mi_1_64 ?_
    refine ex_pi (pc := 27) (fr_get fo_176_1 0 rfl) ow_176 fp_9_18_40 ?_
    refine ex_aload_n (pc := 30) (fr_get fo_176_1 1 rfl) rfl rfl ?_
    refine ex_aload_n (pc := 31) (fr_get fo_176_1 2 rfl) rfl rfl ?_
    refine ex_gr (pc := 32) (fr_get fo_176_1 3 rfl) ow_176 fr_9_210_40 (q := (60, 0)) rfl ?_
    refine ex_iconst (pc := 35) (fr_get fo_176_1 4 rfl) ic_2 ?_
    refine xv_iald (pc := 36) (fr_get fo_176_1 5 rfl) gk_60 (n := 64) (gn_60 ..) cl_2 (Eq.trans (xv_ug rfl) (xv_ug rfl)) mi_2_64 ?_
    refine ex_pi (pc := 37) (fr_get fo_176_1 6 rfl) ow_176 fp_9_7_40 ?_
    refine ex_aload_n (pc := 40) (fr_get fo_176_1 7 rfl) rfl rfl ?_
    refine ex_aload_n (pc := 41) (fr_get fo_176_1 8 rfl) rfl rfl ?_
    refine ex_gr (pc := 42) (fr_get fo_176_1 9 rfl) ow_176 fr_9_210_40 (q := (60, 0)) rfl ?_
    refine ex_iconst (pc := 45) (fr_get fo_176_1 10 rfl) ic_3 ?_
    refine xv_iald (pc := 46) (fr_get fo_176_1 11 rfl) gk_60 (n := 64) (gn_60 ..) cl_3 (Eq.trans (xv_ug rfl) (Eq.trans (xv_ug rfl) (xv_ug rfl))) mi_3_64 ?_
    refine ex_pi (pc := 47) (fr_get fo_176_1 12 rfl) ow_176 fp_9_190_40 ?_
    refine ex_aload_n (pc := 50) (fr_get fo_176_1 13 rfl) rfl rfl ?_
    refine ex_gr (pc := 51) (fr_get fo_176_1 14 rfl) ow_176 fr_9_210_40 (q := (60, 0)) rfl ?_
    refine ex_aload_n (pc := 54) (fr_get fo_176_1 15 rfl) rfl rfl ?_
    refine ex_gr (pc := 55) (fr_get fo_176_2 0 rfl) ow_176 fr_9_25_40 (q := (42, 0)) rfl ?_
    refine ex_iconst (pc := 58) (fr_get fo_176_2 1 rfl) ic_4 ?_
    refine ex_iconst (pc := 59) (fr_get fo_176_2 2 rfl) ic_1 ?_
    refine xv_ks0 (pc := 60) (fr_get fo_176_2 3 rfl) cc_176_296 (as := [.inr (.inr (60, 0)), .inr (.inr (42, 0)), .inl (4 : Int32), .inl (1 : Int32)]) (rs := []) rfl rfl rfl rfl ?_
    refine h.mono (fun r J1 p2 h => ⟨h.1, ?_⟩)
    replace h := h.2
    refine ex_aload_n (pc := 63) (fr_get fo_176_2 4 rfl) rfl rfl ?_
    refine ex_gr (pc := 64) (fr_get fo_176_2 5 rfl) ow_176 fr_9_210_40 (q := (60, 0)) rfl ?_
    refine ex_aload_n (pc := 67) (fr_get fo_176_2 6 rfl) rfl rfl ?_
    refine ex_gr (pc := 68) (fr_get fo_176_2 7 rfl) ow_176 fr_9_31_40 (q := (44, 0)) rfl ?_
    refine ex_bipush (pc := 71) (fr_get fo_176_2 8 rfl) bp_10 ?_
    refine ex_iconst (pc := 73) (fr_get fo_176_2 9 rfl) ic_1 ?_
    refine xv_ks0 (pc := 74) (fr_get fo_176_2 10 rfl) cc_176_296 (as := [.inr (.inr (60, 0)), .inr (.inr (44, 0)), .inl (10 : Int32), .inl (1 : Int32)]) (rs := []) rfl rfl rfl rfl ?_
    refine h.mono (fun r J3 p4 h => ⟨h.1, ?_⟩)
    replace h := h.2
    refine ex_aload_n (pc := 77) (fr_get fo_176_2 11 rfl) rfl rfl ?_
    refine ex_gr (pc := 78) (fr_get fo_176_2 12 rfl) ow_176 fr_9_210_40 (q := (60, 0)) rfl ?_
    refine ex_aload_n (pc := 81) (fr_get fo_176_2 13 rfl) rfl rfl ?_
    refine ex_gr (pc := 82) (fr_get fo_176_2 14 rfl) ow_176 fr_9_34_40 (q := (45, 0)) rfl ?_
    refine ex_bipush (pc := 85) (fr_get fo_176_2 15 rfl) bp_19 ?_
    refine ex_iconst (pc := 87) (fr_get fo_176_3 0 rfl) ic_1 ?_
    refine xv_ks0 (pc := 88) (fr_get fo_176_3 1 rfl) cc_176_296 (as := [.inr (.inr (60, 0)), .inr (.inr (45, 0)), .inl (19 : Int32), .inl (1 : Int32)]) (rs := []) rfl rfl rfl rfl ?_
    refine h.mono (fun r J5 p6 h => ⟨h.1, ?_⟩)
    replace h := h.2
    refine ex_aload_n (pc := 91) (fr_get fo_176_3 2 rfl) rfl rfl ?_
    refine ex_gr (pc := 92) (fr_get fo_176_3 3 rfl) ow_176 fr_9_210_40 (q := (60, 0)) rfl ?_
    refine ex_aload_n (pc := 95) (fr_get fo_176_3 4 rfl) rfl rfl ?_
    refine ex_gr (pc := 96) (fr_get fo_176_3 5 rfl) ow_176 fr_9_37_40 (q := (46, 0)) rfl ?_
    refine ex_bipush (pc := 99) (fr_get fo_176_3 6 rfl) bp_28 ?_
    refine ex_iconst (pc := 101) (fr_get fo_176_3 7 rfl) ic_1 ?_
    refine xv_ks0 (pc := 102) (fr_get fo_176_3 8 rfl) cc_176_296 (as := [.inr (.inr (60, 0)), .inr (.inr (46, 0)), .inl (28 : Int32), .inl (1 : Int32)]) (rs := []) rfl rfl rfl rfl ?_
    refine h.mono (fun r J7 p8 h => ⟨h.1, ?_⟩)
    replace h := h.2
    refine ex_aload_n (pc := 105) (fr_get fo_176_3 9 rfl) rfl rfl ?_
    refine ex_gr (pc := 106) (fr_get fo_176_3 10 rfl) ow_176 fr_9_210_40 (q := (60, 0)) rfl ?_
    refine ex_aload_n (pc := 109) (fr_get fo_176_3 11 rfl) rfl rfl ?_
    refine ex_gr (pc := 110) (fr_get fo_176_3 12 rfl) ow_176 fr_9_40_40 (q := (47, 0)) rfl ?_
    refine ex_bipush (pc := 113) (fr_get fo_176_3 13 rfl) bp_37 ?_
    refine ex_iconst (pc := 115) (fr_get fo_176_3 14 rfl) ic_1 ?_
    refine xv_ks0 (pc := 116) (fr_get fo_176_3 15 rfl) cc_176_296 (as := [.inr (.inr (60, 0)), .inr (.inr (47, 0)), .inl (37 : Int32), .inl (1 : Int32)]) (rs := []) rfl rfl rfl rfl ?_
    refine h.mono (fun r J9 p10 h => ⟨h.1, ?_⟩)
    replace h := h.2
    refine ex_aload_n (pc := 119) (fr_get fo_176_4 0 rfl) rfl rfl ?_
    refine ex_gr (pc := 120) (fr_get fo_176_4 1 rfl) ow_176 fr_9_210_40 (q := (60, 0)) rfl ?_
    refine ex_aload_n (pc := 123) (fr_get fo_176_4 2 rfl) rfl rfl ?_
    refine ex_gr (pc := 124) (fr_get fo_176_4 3 rfl) ow_176 fr_9_43_40 (q := (48, 0)) rfl ?_
    refine ex_bipush (pc := 127) (fr_get fo_176_4 4 rfl) bp_46 ?_
    refine ex_iconst (pc := 129) (fr_get fo_176_4 5 rfl) ic_1 ?_
    refine xv_ks0 (pc := 130) (fr_get fo_176_4 6 rfl) cc_176_296 (as := [.inr (.inr (60, 0)), .inr (.inr (48, 0)), .inl (46 : Int32), .inl (1 : Int32)]) (rs := []) rfl rfl rfl rfl ?_
    refine h.mono (fun r J11 p12 h => ⟨h.1, ?_⟩)
    replace h := h.2
    refine ex_aload_n (pc := 133) (fr_get fo_176_4 7 rfl) rfl rfl ?_
    refine xv_gi (pc := 134) (fr_get fo_176_4 8 rfl) ow_176 fg_9_7_40 rfl ?_
    exact ex_ireturn (pc := 137) (fr_get fo_176_4 9 rfl) rt_176 rfl rfl (ma_end_mk h)
  · replace h := h.2 c
    refine ex_bipush (pc := 7) (fr_get fo_176_0 3 rfl) bp_m3 ?_
    exact ex_ireturn (pc := 9) (fr_get fo_176_0 4 rfl) rt_176 rfl rfl (ma_end_mk h)

theorem e_177 {d : Nat} {I : ma_I} {o : Nat} {Q : ma_Q} {a1 : Int32}
  (h :
    (a1 = (0 : Int32) →
      Q (some (.inl (I 40 0 4))) I o) ∧
    (a1 ≠ (0 : Int32) →
      (a1 = (1 : Int32) →
        Q (some (.inl (I 40 0 1))) I o) ∧
      (a1 ≠ (1 : Int32) →
        (a1 = (2 : Int32) →
          Q (some (.inl (I 40 0 0))) I o) ∧
        (a1 ≠ (2 : Int32) →
          (a1 = (3 : Int32) →
            Q (some (.inl (I 40 0 13))) I o) ∧
          (a1 ≠ (3 : Int32) →
            (a1 = (4 : Int32) →
              Q (some (.inl (I 40 0 12))) I o) ∧
            (a1 ≠ (4 : Int32) →
              (a1 = (5 : Int32) →
                Q (some (.inl (I 40 0 14))) I o) ∧
              (a1 ≠ (5 : Int32) →
                Q (some (.inl (-2 : Int32))) I o))))))) :
  Exm (d) 177 [.inr (.inr (40, 0)), .inl a1] I o Q := by
  show Ex (d) 177 (0, [some (.inr (.inr (40, 0))), some (.inl a1)], [], ma_mem I o, 0, 0) (ma_end Q)
  refine ex_iload_n (pc := 0) (fr_get fo_177_0 0 rfl) rfl ?_
  refine xv_ts (pc := 1) (fr_get fo_177_0 1 rfl) (l := [39, 44, 49, 54, 59, 64]) rfl tk_177_1 ?_
  refine xv_tc (t := 40) ic_0 rfl (fun c => ?_) (fun c => ?_)
  · replace h := h.1 c
    refine ex_aload_n (pc := 40) (fr_get fo_177_0 2 rfl) rfl rfl ?_
    refine xv_gi (pc := 41) (fr_get fo_177_0 3 rfl) ow_177 fg_9_7_40 rfl ?_
    exact ex_ireturn (pc := 44) (fr_get fo_177_0 4 rfl) rt_177 rfl rfl (ma_end_mk h)
  · replace h := h.2 c
    refine xv_tc (t := 45) ic_1 rfl (fun c => ?_) (fun c => ?_)
    · replace h := h.1 c
      refine ex_aload_n (pc := 45) (fr_get fo_177_0 5 rfl) rfl rfl ?_
      refine xv_gi (pc := 46) (fr_get fo_177_0 6 rfl) ow_177 fg_9_18_40 rfl ?_
      exact ex_ireturn (pc := 49) (fr_get fo_177_0 7 rfl) rt_177 rfl rfl (ma_end_mk h)
    · replace h := h.2 c
      refine xv_tc (t := 50) ic_2 rfl (fun c => ?_) (fun c => ?_)
      · replace h := h.1 c
        refine ex_aload_n (pc := 50) (fr_get fo_177_0 8 rfl) rfl rfl ?_
        refine xv_gi (pc := 51) (fr_get fo_177_0 9 rfl) ow_177 fg_9_50_40 rfl ?_
        exact ex_ireturn (pc := 54) (fr_get fo_177_0 10 rfl) rt_177 rfl rfl (ma_end_mk h)
      · replace h := h.2 c
        refine xv_tc (t := 55) ic_3 rfl (fun c => ?_) (fun c => ?_)
        · replace h := h.1 c
          refine ex_aload_n (pc := 55) (fr_get fo_177_0 11 rfl) rfl rfl ?_
          refine xv_gi (pc := 56) (fr_get fo_177_0 12 rfl) ow_177 fg_9_184_40 rfl ?_
          exact ex_ireturn (pc := 59) (fr_get fo_177_0 13 rfl) rt_177 rfl rfl (ma_end_mk h)
        · replace h := h.2 c
          refine xv_tc (t := 60) ic_4 rfl (fun c => ?_) (fun c => ?_)
          · replace h := h.1 c
            refine ex_aload_n (pc := 60) (fr_get fo_177_0 14 rfl) rfl rfl ?_
            refine xv_gi (pc := 61) (fr_get fo_177_0 15 rfl) ow_177 fg_9_82_40 rfl ?_
            exact ex_ireturn (pc := 64) (fr_get fo_177_1 0 rfl) rt_177 rfl rfl (ma_end_mk h)
          · replace h := h.2 c
            refine xv_tc (t := 65) ic_5 rfl (fun c => ?_) (fun c => ?_)
            · replace h := h.1 c
              refine ex_aload_n (pc := 65) (fr_get fo_177_1 1 rfl) rfl rfl ?_
              refine xv_gi (pc := 66) (fr_get fo_177_1 2 rfl) ow_177 fg_9_190_40 rfl ?_
              exact ex_ireturn (pc := 69) (fr_get fo_177_1 3 rfl) rt_177 rfl rfl (ma_end_mk h)
            · replace h := h.2 c
              refine xv_tn (t := 70) rfl ?_
              refine ex_bipush (pc := 70) (fr_get fo_177_1 4 rfl) bp_m2 ?_
              exact ex_ireturn (pc := 72) (fr_get fo_177_1 5 rfl) rt_177 rfl rfl (ma_end_mk h)

theorem e_179 {d : Nat} {I : ma_I} {o : Nat} {Q : ma_Q} {a1 : Int32} {a2 : Int32} {a3 : Int32}
  (h :
    (¬((0 : Int32) ≤ a1 ∧ a1 ≤ (3 : Int32)) →
      Q (some (.inl (-2 : Int32))) I o) ∧
    ((0 : Int32) ≤ a1 ∧ a1 ≤ (3 : Int32) →
      (¬((-1 : Int32) ≤ a2 ∧ a2 ≤ (2 : Int32)) →
        Q (some (.inl (-2 : Int32))) I o) ∧
      ((-1 : Int32) ≤ a2 ∧ a2 ≤ (2 : Int32) →
        (a2 < 0 →
          (a2 < 0 →
            Ex (d + 2) 179 (40, [some (.inr (.inr (40, 0))), some (.inl a1), some (.inl a2), some (.inl a3), none], [], ma_mem I o, 0, 0) (ma_end Q)) ∧
          (0 ≤ a2 →
            (0 ≤ a3 →
              Ex (d + 2) 179 (40, [some (.inr (.inr (40, 0))), some (.inl a1), some (.inl a2), some (.inl a3), none], [], ma_mem I o, 0, 0) (ma_end Q)) ∧
            (a3 < 0 →
              Q (some (.inl (-14 : Int32))) I o))) ∧
        (0 ≤ a2 →
          (a3 ≤ (40 : Int32) →
            (a2 < 0 →
              Ex (d + 2) 179 (40, [some (.inr (.inr (40, 0))), some (.inl a1), some (.inl a2), some (.inl a3), none], [], ma_mem I o, 0, 0) (ma_end Q)) ∧
            (0 ≤ a2 →
              (0 ≤ a3 →
                Ex (d + 2) 179 (40, [some (.inr (.inr (40, 0))), some (.inl a1), some (.inl a2), some (.inl a3), none], [], ma_mem I o, 0, 0) (ma_end Q)) ∧
              (a3 < 0 →
                Q (some (.inl (-14 : Int32))) I o))) ∧
          ((40 : Int32) < a3 →
            Q (some (.inl (-2 : Int32))) I o))))) :
  Exm (d + 2) 179 [.inr (.inr (40, 0)), .inl a1, .inl a2, .inl a3] I o Q := by
  show Ex (d + 2) 179 (0, [some (.inr (.inr (40, 0))), some (.inl a1), some (.inl a2), some (.inl a3), none], [], ma_mem I o, 0, 0) (ma_end Q)
  refine ex_iload_n (pc := 0) (fr_get fo_179_0 0 rfl) rfl ?_
  refine xv_ks1 (pc := 1) (fr_get fo_179_0 1 rfl) cc_179_274 (as := [.inl a1]) (rs := []) rfl rfl rfl rfl ?_
  refine sm_178 ?_
  refine ⟨_, rfl, ?_⟩
  refine xv_peq (pc := 4) (fr_get fo_179_0 2 rfl) (t := 26) rfl (fun c => ?_) (fun c => ?_)
  · replace h := h.1 c
    refine ex_bipush (pc := 26) (fr_get fo_179_0 13 rfl) bp_m2 ?_
    exact ex_ireturn (pc := 28) (fr_get fo_179_0 14 rfl) rt_179 rfl rfl (ma_end_mk h)
  · replace h := h.2 c
    refine ex_iload_n (pc := 7) (fr_get fo_179_0 3 rfl) rfl ?_
    refine ex_iconst (pc := 8) (fr_get fo_179_0 4 rfl) ic_m1 ?_
    refine ex_iconst (pc := 9) (fr_get fo_179_0 5 rfl) ic_2 ?_
    refine xv_ks1 (pc := 10) (fr_get fo_179_0 6 rfl) cc_179_3 (as := [.inl a2, .inl (-1 : Int32), .inl (2 : Int32)]) (rs := []) rfl rfl rfl rfl ?_
    refine sm_118 ?_
    refine ⟨_, rfl, ?_⟩
    refine xv_peq (pc := 13) (fr_get fo_179_0 7 rfl) (t := 26) rfl (fun c => ?_) (fun c => ?_)
    · replace h := h.1 c
      refine ex_bipush (pc := 26) (fr_get fo_179_0 13 rfl) bp_m2 ?_
      exact ex_ireturn (pc := 28) (fr_get fo_179_0 14 rfl) rt_179 rfl rfl (ma_end_mk h)
    · replace h := h.2 c
      refine ex_iload_n (pc := 16) (fr_get fo_179_0 8 rfl) rfl ?_
      refine xv_blt (pc := 17) (fr_get fo_179_0 9 rfl) (t := 29) rfl (fun c => ?_) (fun c => ?_)
      · replace h := h.1 c
        refine ex_iload_n (pc := 29) (fr_get fo_179_0 15 rfl) rfl ?_
        refine xv_blt (pc := 30) (fr_get fo_179_1 0 rfl) (t := 40) rfl (fun c => ?_) (fun c => ?_)
        · replace h := h.1 c
          exact h
        · replace h := h.2 c
          refine ex_iload_n (pc := 33) (fr_get fo_179_1 1 rfl) rfl ?_
          refine xv_bge (pc := 34) (fr_get fo_179_1 2 rfl) (t := 40) rfl (fun c => ?_) (fun c => ?_)
          · replace h := h.1 c
            exact h
          · replace h := h.2 c
            refine ex_bipush (pc := 37) (fr_get fo_179_1 3 rfl) bp_m14 ?_
            exact ex_ireturn (pc := 39) (fr_get fo_179_1 4 rfl) rt_179 rfl rfl (ma_end_mk h)
      · replace h := h.2 c
        refine ex_iload_n (pc := 20) (fr_get fo_179_0 10 rfl) rfl ?_
        refine ex_bipush (pc := 21) (fr_get fo_179_0 11 rfl) bp_40 ?_
        refine xv_cle (pc := 23) (fr_get fo_179_0 12 rfl) (t := 29) rfl (fun c => ?_) (fun c => ?_)
        · replace h := h.1 c
          refine ex_iload_n (pc := 29) (fr_get fo_179_0 15 rfl) rfl ?_
          refine xv_blt (pc := 30) (fr_get fo_179_1 0 rfl) (t := 40) rfl (fun c => ?_) (fun c => ?_)
          · replace h := h.1 c
            exact h
          · replace h := h.2 c
            refine ex_iload_n (pc := 33) (fr_get fo_179_1 1 rfl) rfl ?_
            refine xv_bge (pc := 34) (fr_get fo_179_1 2 rfl) (t := 40) rfl (fun c => ?_) (fun c => ?_)
            · replace h := h.1 c
              exact h
            · replace h := h.2 c
              refine ex_bipush (pc := 37) (fr_get fo_179_1 3 rfl) bp_m14 ?_
              exact ex_ireturn (pc := 39) (fr_get fo_179_1 4 rfl) rt_179 rfl rfl (ma_end_mk h)
        · replace h := h.2 c
          refine ex_bipush (pc := 26) (fr_get fo_179_0 13 rfl) bp_m2 ?_
          exact ex_ireturn (pc := 28) (fr_get fo_179_0 14 rfl) rt_179 rfl rfl (ma_end_mk h)

theorem b_179_40 {d : Nat} {I : ma_I} {o : Nat} {Q : ma_Q} {v1 : Int32} {v2 : Int32} {v3 : Int32}
  (h :
    ma_in v1 4 ∧
    (0 ≤ v2 →
      ma_in v1 4 ∧
      Ex (d + 2) 179 (65, [some (.inr (.inr (40, 0))), some (.inl v1), some (.inl v2), some (.inl v3), some (.inl (0 : Int32))], [], ma_mem (ma_up (ma_up I 61 0 v1.toNatClampNeg v2) 62 0 v1.toNatClampNeg v3) o, 0, 0) (ma_end Q)) ∧
    (v2 < 0 →
      ma_in v1 4 ∧
      Ex (d + 2) 179 (65, [some (.inr (.inr (40, 0))), some (.inl v1), some (.inl v2), some (.inl v3), some (.inl (0 : Int32))], [], ma_mem (ma_up (ma_up I 61 0 v1.toNatClampNeg v2) 62 0 v1.toNatClampNeg (0 : Int32)) o, 0, 0) (ma_end Q))) :
  Ex (d + 2) 179 (40, [some (.inr (.inr (40, 0))), some (.inl v1), some (.inl v2), some (.inl v3), none], [], ma_mem I o, 0, 0) (ma_end Q) := by
  refine ex_aload_n (pc := 40) (fr_get fo_179_1 5 rfl) rfl rfl ?_
  refine ex_gr (pc := 41) (fr_get fo_179_1 6 rfl) ow_179 fr_9_213_40 (q := (61, 0)) rfl ?_
  refine ex_iload_n (pc := 44) (fr_get fo_179_1 7 rfl) rfl ?_
  refine ex_iload_n (pc := 45) (fr_get fo_179_1 8 rfl) rfl ?_
  refine xv_iast (pc := 46) (fr_get fo_179_1 9 rfl) gs_61 gl_61 rfl h.1 ?_
  replace h := h.2
  refine ex_aload_n (pc := 47) (fr_get fo_179_1 10 rfl) rfl rfl ?_
  refine ex_gr (pc := 48) (fr_get fo_179_1 11 rfl) ow_179 fr_9_216_40 (q := (62, 0)) rfl ?_
  refine ex_iload_n (pc := 51) (fr_get fo_179_1 12 rfl) rfl ?_
  refine ex_iload_n (pc := 52) (fr_get fo_179_1 13 rfl) rfl ?_
  refine xv_bge (pc := 53) (fr_get fo_179_1 14 rfl) (t := 60) rfl (fun c => ?_) (fun c => ?_)
  · replace h := h.1 c
    refine ex_iload_n (pc := 60) (fr_get fo_179_2 1 rfl) rfl ?_
    refine xv_iast (pc := 61) (fr_get fo_179_2 2 rfl) gs_62 gl_62 rfl h.1 ?_
    replace h := h.2
    refine ex_iconst (pc := 62) (fr_get fo_179_2 3 rfl) ic_0 ?_
    refine ex_istore (pc := 63) (fr_get fo_179_2 4 rfl) rfl (L' := [some (.inr (.inr (40, 0))), some (.inl v1), some (.inl v2), some (.inl v3), some (.inl (0 : Int32))]) rfl ?_
    exact h
  · replace h := h.2 c
    refine ex_iconst (pc := 56) (fr_get fo_179_1 15 rfl) ic_0 ?_
    refine ex_goto (pc := 57) (fr_get fo_179_2 0 rfl) (t := 61) rfl ?_
    refine xv_iast (pc := 61) (fr_get fo_179_2 2 rfl) gs_62 gl_62 rfl h.1 ?_
    replace h := h.2
    refine ex_iconst (pc := 62) (fr_get fo_179_2 3 rfl) ic_0 ?_
    refine ex_istore (pc := 63) (fr_get fo_179_2 4 rfl) rfl (L' := [some (.inr (.inr (40, 0))), some (.inl v1), some (.inl v2), some (.inl v3), some (.inl (0 : Int32))]) rfl ?_
    exact h

theorem b_179_65 {d : Nat} {I : ma_I} {o : Nat} {Q : ma_Q} {v1 : Int32} {v2 : Int32} {v3 : Int32} {v4 : Int32}
  (h :
    ((40 : Int32) ≤ v4 →
      Q (some (.inl (1 : Int32))) I o) ∧
    (v4 < (40 : Int32) →
      ma_in (((40 : Int32) * v1) + v4) 160 ∧
      Ex (d + 2) 179 (65, [some (.inr (.inr (40, 0))), some (.inl v1), some (.inl v2), some (.inl v3), some (.inl (v4 + (1 : Int32)))], [], ma_mem (ma_up I 63 0 ((((40 : Int32) * v1) + v4).toNatClampNeg) (0 : Int32)) o, 0, 0) (ma_end Q))) :
  Ex (d + 2) 179 (65, [some (.inr (.inr (40, 0))), some (.inl v1), some (.inl v2), some (.inl v3), some (.inl v4)], [], ma_mem I o, 0, 0) (ma_end Q) := by
  refine ex_iload (pc := 65) (fr_get fo_179_2 5 rfl) rfl ?_
  refine ex_bipush (pc := 67) (fr_get fo_179_2 6 rfl) bp_40 ?_
  refine xv_cge (pc := 69) (fr_get fo_179_2 7 rfl) (t := 91) rfl (fun c => ?_) (fun c => ?_)
  · replace h := h.1 c
    refine ex_iconst (pc := 91) (fr_get fo_179_3 3 rfl) ic_1 ?_
    exact ex_ireturn (pc := 92) (fr_get fo_179_3 4 rfl) rt_179 rfl rfl (ma_end_mk h)
  · replace h := h.2 c
    refine ex_aload_n (pc := 72) (fr_get fo_179_2 8 rfl) rfl rfl ?_
    refine ex_gr (pc := 73) (fr_get fo_179_2 9 rfl) ow_179 fr_9_219_40 (q := (63, 0)) rfl ?_
    refine ex_bipush (pc := 76) (fr_get fo_179_2 10 rfl) bp_40 ?_
    refine ex_iload_n (pc := 78) (fr_get fo_179_2 11 rfl) rfl ?_
    refine ex_imul (pc := 79) (fr_get fo_179_2 12 rfl) ?_
    refine ex_iload (pc := 80) (fr_get fo_179_2 13 rfl) rfl ?_
    refine ex_iadd (pc := 82) (fr_get fo_179_2 14 rfl) ?_
    refine ex_iconst (pc := 83) (fr_get fo_179_2 15 rfl) ic_0 ?_
    refine xv_iast (pc := 84) (fr_get fo_179_3 0 rfl) gs_63 gl_63 rfl h.1 ?_
    replace h := h.2
    refine xv_iinc (pc := 85) (fr_get fo_179_3 1 rfl) rfl ic_1 (L' := [some (.inr (.inr (40, 0))), some (.inl v1), some (.inl v2), some (.inl v3), some (.inl (v4 + (1 : Int32)))]) rfl ?_
    refine ex_goto (pc := 88) (fr_get fo_179_3 2 rfl) (t := 65) rfl ?_
    exact h

theorem e_180 {d : Nat} {I : ma_I} {o : Nat} {Q : ma_Q} {a1 : Int32} {a2 : Int32} {a3 : Int32}
  (h :
    ((0 : Int32) ≤ a1 ∧ a1 ≤ (3 : Int32) →
      ma_in a1 4 ∧
      (0 ≤ I 61 0 a1.toNatClampNeg →
        ma_in a1 4 ∧
        ((0 : Int32) ≤ a2 ∧ a2 ≤ ((I 62 0 a1.toNatClampNeg) - (1 : Int32)) →
          ma_in a1 4 ∧
          (I 61 0 a1.toNatClampNeg ≠ 0 →
            ma_in a1 4 ∧
            (I 61 0 a1.toNatClampNeg ≠ (1 : Int32) →
              ma_in (((40 : Int32) * a1) + a2) 160 ∧
              Q (some (.inl (1 : Int32))) (ma_up I 63 0 ((((40 : Int32) * a1) + a2).toNatClampNeg) a3) o) ∧
            (I 61 0 a1.toNatClampNeg = (1 : Int32) →
              ma_in (((40 : Int32) * a1) + a2) 160 ∧
              Q (some (.inl (1 : Int32))) (ma_up I 63 0 ((((40 : Int32) * a1) + a2).toNatClampNeg) ((Int32.toInt16 a3).toInt32)) o)) ∧
          (I 61 0 a1.toNatClampNeg = 0 →
            ma_in (((40 : Int32) * a1) + a2) 160 ∧
            Q (some (.inl (1 : Int32))) (ma_up I 63 0 ((((40 : Int32) * a1) + a2).toNatClampNeg) ((Int32.toInt8 a3).toInt32)) o)) ∧
        (¬((0 : Int32) ≤ a2 ∧ a2 ≤ ((I 62 0 a1.toNatClampNeg) - (1 : Int32))) →
          Q (some (.inl (-12 : Int32))) I o)) ∧
      (I 61 0 a1.toNatClampNeg < 0 →
        Q (some (.inl (-11 : Int32))) I o)) ∧
    (¬((0 : Int32) ≤ a1 ∧ a1 ≤ (3 : Int32)) →
      Q (some (.inl (-2 : Int32))) I o)) :
  Exm (d + 2) 180 [.inr (.inr (40, 0)), .inl a1, .inl a2, .inl a3] I o Q := by
  show Ex (d + 2) 180 (0, [some (.inr (.inr (40, 0))), some (.inl a1), some (.inl a2), some (.inl a3)], [], ma_mem I o, 0, 0) (ma_end Q)
  refine ex_iload_n (pc := 0) (fr_get fo_180_0 0 rfl) rfl ?_
  refine xv_ks1 (pc := 1) (fr_get fo_180_0 1 rfl) cc_180_274 (as := [.inl a1]) (rs := []) rfl rfl rfl rfl ?_
  refine sm_178 ?_
  refine ⟨_, rfl, ?_⟩
  refine xv_pne (pc := 4) (fr_get fo_180_0 2 rfl) (t := 10) rfl (fun c => ?_) (fun c => ?_)
  · replace h := h.1 c
    refine ex_aload_n (pc := 10) (fr_get fo_180_0 5 rfl) rfl rfl ?_
    refine ex_gr (pc := 11) (fr_get fo_180_0 6 rfl) ow_180 fr_9_213_40 (q := (61, 0)) rfl ?_
    refine ex_iload_n (pc := 14) (fr_get fo_180_0 7 rfl) rfl ?_
    refine xv_iald (pc := 15) (fr_get fo_180_0 8 rfl) gk_61 (n := 4) (gn_61 ..) rfl rfl h.1 ?_
    replace h := h.2
    refine xv_bge (pc := 16) (fr_get fo_180_0 9 rfl) (t := 22) rfl (fun c => ?_) (fun c => ?_)
    · replace h := h.1 c
      refine ex_iload_n (pc := 22) (fr_get fo_180_0 12 rfl) rfl ?_
      refine ex_iconst (pc := 23) (fr_get fo_180_0 13 rfl) ic_0 ?_
      refine ex_aload_n (pc := 24) (fr_get fo_180_0 14 rfl) rfl rfl ?_
      refine ex_gr (pc := 25) (fr_get fo_180_0 15 rfl) ow_180 fr_9_216_40 (q := (62, 0)) rfl ?_
      refine ex_iload_n (pc := 28) (fr_get fo_180_1 0 rfl) rfl ?_
      refine xv_iald (pc := 29) (fr_get fo_180_1 1 rfl) gk_62 (n := 4) (gn_62 ..) rfl rfl h.1 ?_
      replace h := h.2
      refine ex_iconst (pc := 30) (fr_get fo_180_1 2 rfl) ic_1 ?_
      refine ex_isub (pc := 31) (fr_get fo_180_1 3 rfl) ?_
      refine xv_ks1 (pc := 32) (fr_get fo_180_1 4 rfl) cc_180_3 (as := [.inl a2, .inl (0 : Int32), .inl ((I 62 0 a1.toNatClampNeg) - (1 : Int32))]) (rs := []) rfl rfl rfl rfl ?_
      refine sm_118 ?_
      refine ⟨_, rfl, ?_⟩
      refine xv_pne (pc := 35) (fr_get fo_180_1 5 rfl) (t := 41) rfl (fun c => ?_) (fun c => ?_)
      · replace h := h.1 c
        refine ex_aload_n (pc := 41) (fr_get fo_180_1 8 rfl) rfl rfl ?_
        refine ex_gr (pc := 42) (fr_get fo_180_1 9 rfl) ow_180 fr_9_219_40 (q := (63, 0)) rfl ?_
        refine ex_bipush (pc := 45) (fr_get fo_180_1 10 rfl) bp_40 ?_
        refine ex_iload_n (pc := 47) (fr_get fo_180_1 11 rfl) rfl ?_
        refine ex_imul (pc := 48) (fr_get fo_180_1 12 rfl) ?_
        refine ex_iload_n (pc := 49) (fr_get fo_180_1 13 rfl) rfl ?_
        refine ex_iadd (pc := 50) (fr_get fo_180_1 14 rfl) ?_
        refine ex_aload_n (pc := 51) (fr_get fo_180_1 15 rfl) rfl rfl ?_
        refine ex_gr (pc := 52) (fr_get fo_180_2 0 rfl) ow_180 fr_9_213_40 (q := (61, 0)) rfl ?_
        refine ex_iload_n (pc := 55) (fr_get fo_180_2 1 rfl) rfl ?_
        refine xv_iald (pc := 56) (fr_get fo_180_2 2 rfl) gk_61 (n := 4) (gn_61 ..) rfl rfl h.1 ?_
        replace h := h.2
        refine xv_bne (pc := 57) (fr_get fo_180_2 3 rfl) (t := 65) rfl (fun c => ?_) (fun c => ?_)
        · replace h := h.1 c
          refine ex_aload_n (pc := 65) (fr_get fo_180_2 7 rfl) rfl rfl ?_
          refine ex_gr (pc := 66) (fr_get fo_180_2 8 rfl) ow_180 fr_9_213_40 (q := (61, 0)) rfl ?_
          refine ex_iload_n (pc := 69) (fr_get fo_180_2 9 rfl) rfl ?_
          refine xv_iald (pc := 70) (fr_get fo_180_2 10 rfl) gk_61 (n := 4) (gn_61 ..) rfl rfl h.1 ?_
          replace h := h.2
          refine ex_iconst (pc := 71) (fr_get fo_180_2 11 rfl) ic_1 ?_
          refine xv_cne (pc := 72) (fr_get fo_180_2 12 rfl) (t := 80) rfl (fun c => ?_) (fun c => ?_)
          · replace h := h.1 c
            refine ex_iload_n (pc := 80) (fr_get fo_180_3 0 rfl) rfl ?_
            refine xv_iast (pc := 81) (fr_get fo_180_3 1 rfl) gs_63 gl_63 rfl h.1 ?_
            replace h := h.2
            refine ex_iconst (pc := 82) (fr_get fo_180_3 2 rfl) ic_1 ?_
            exact ex_ireturn (pc := 83) (fr_get fo_180_3 3 rfl) rt_180 rfl rfl (ma_end_mk h)
          · replace h := h.2 c
            refine ex_iload_n (pc := 75) (fr_get fo_180_2 13 rfl) rfl ?_
            refine ex_i2s (pc := 76) (fr_get fo_180_2 14 rfl) ?_
            refine ex_goto (pc := 77) (fr_get fo_180_2 15 rfl) (t := 81) rfl ?_
            refine xv_iast (pc := 81) (fr_get fo_180_3 1 rfl) gs_63 gl_63 rfl h.1 ?_
            replace h := h.2
            refine ex_iconst (pc := 82) (fr_get fo_180_3 2 rfl) ic_1 ?_
            exact ex_ireturn (pc := 83) (fr_get fo_180_3 3 rfl) rt_180 rfl rfl (ma_end_mk h)
        · replace h := h.2 c
          refine ex_iload_n (pc := 60) (fr_get fo_180_2 4 rfl) rfl ?_
          refine ex_i2b (pc := 61) (fr_get fo_180_2 5 rfl) ?_
          refine ex_goto (pc := 62) (fr_get fo_180_2 6 rfl) (t := 81) rfl ?_
          refine xv_iast (pc := 81) (fr_get fo_180_3 1 rfl) gs_63 gl_63 rfl h.1 ?_
          replace h := h.2
          refine ex_iconst (pc := 82) (fr_get fo_180_3 2 rfl) ic_1 ?_
          exact ex_ireturn (pc := 83) (fr_get fo_180_3 3 rfl) rt_180 rfl rfl (ma_end_mk h)
      · replace h := h.2 c
        refine ex_bipush (pc := 38) (fr_get fo_180_1 6 rfl) bp_m12 ?_
        exact ex_ireturn (pc := 40) (fr_get fo_180_1 7 rfl) rt_180 rfl rfl (ma_end_mk h)
    · replace h := h.2 c
      refine ex_bipush (pc := 19) (fr_get fo_180_0 10 rfl) bp_m11 ?_
      exact ex_ireturn (pc := 21) (fr_get fo_180_0 11 rfl) rt_180 rfl rfl (ma_end_mk h)
  · replace h := h.2 c
    refine ex_bipush (pc := 7) (fr_get fo_180_0 3 rfl) bp_m2 ?_
    exact ex_ireturn (pc := 9) (fr_get fo_180_0 4 rfl) rt_180 rfl rfl (ma_end_mk h)

theorem e_181 {d : Nat} {I : ma_I} {o : Nat} {Q : ma_Q} {a1 : Int32} {a2 : Int32} {a3 : Int32} {a4 : Int32} {a5 : Int32}
  (h :
    (¬((0 : Int32) ≤ a1 ∧ a1 ≤ (3 : Int32)) →
      Q (some (.inl (-2 : Int32))) I o) ∧
    ((0 : Int32) ≤ a1 ∧ a1 ≤ (3 : Int32) →
      ((0 : Int32) ≤ a3 ∧ a3 ≤ (3 : Int32) →
        ma_in a1 4 ∧
        (I 61 0 a1.toNatClampNeg < 0 →
          Q (some (.inl (-11 : Int32))) I o) ∧
        (0 ≤ I 61 0 a1.toNatClampNeg →
          ma_in a3 4 ∧
          (0 ≤ I 61 0 a3.toNatClampNeg →
            ma_in a1 4 ∧
            ma_in a3 4 ∧
            (I 61 0 a1.toNatClampNeg = I 61 0 a3.toNatClampNeg →
              (a5 < 0 →
                Q (some (.inl (-12 : Int32))) I o) ∧
              (0 ≤ a5 →
                (a2 < 0 →
                  Q (some (.inl (-12 : Int32))) I o) ∧
                (0 ≤ a2 →
                  (a4 < 0 →
                    Q (some (.inl (-12 : Int32))) I o) ∧
                  (0 ≤ a4 →
                    ma_in a1 4 ∧
                    ((I 62 0 a1.toNatClampNeg) - a2 < a5 →
                      Q (some (.inl (-12 : Int32))) I o) ∧
                    (a5 ≤ (I 62 0 a1.toNatClampNeg) - a2 →
                      ma_in a3 4 ∧
                      (a5 ≤ (I 62 0 a3.toNatClampNeg) - a4 →
                        Ex (d + 2) 181 (103, [some (.inr (.inr (40, 0))), some (.inl a1), some (.inl a2), some (.inl a3), some (.inl a4), some (.inl a5), some (.inl (0 : Int32))], [], ma_mem I o, 0, 0) (ma_end Q)) ∧
                      ((I 62 0 a3.toNatClampNeg) - a4 < a5 →
                        Q (some (.inl (-12 : Int32))) I o)))))) ∧
            (I 61 0 a1.toNatClampNeg ≠ I 61 0 a3.toNatClampNeg →
              Q (some (.inl (-13 : Int32))) I o)) ∧
          (I 61 0 a3.toNatClampNeg < 0 →
            Q (some (.inl (-11 : Int32))) I o))) ∧
      (¬((0 : Int32) ≤ a3 ∧ a3 ≤ (3 : Int32)) →
        Q (some (.inl (-2 : Int32))) I o))) :
  Exm (d + 2) 181 [.inr (.inr (40, 0)), .inl a1, .inl a2, .inl a3, .inl a4, .inl a5] I o Q := by
  show Ex (d + 2) 181 (0, [some (.inr (.inr (40, 0))), some (.inl a1), some (.inl a2), some (.inl a3), some (.inl a4), some (.inl a5), none], [], ma_mem I o, 0, 0) (ma_end Q)
  refine ex_iload_n (pc := 0) (fr_get fo_181_0 0 rfl) rfl ?_
  refine xv_ks1 (pc := 1) (fr_get fo_181_0 1 rfl) cc_181_274 (as := [.inl a1]) (rs := []) rfl rfl rfl rfl ?_
  refine sm_178 ?_
  refine ⟨_, rfl, ?_⟩
  refine xv_peq (pc := 4) (fr_get fo_181_0 2 rfl) (t := 14) rfl (fun c => ?_) (fun c => ?_)
  · replace h := h.1 c
    refine ex_bipush (pc := 14) (fr_get fo_181_0 6 rfl) bp_m2 ?_
    exact ex_ireturn (pc := 16) (fr_get fo_181_0 7 rfl) rt_181 rfl rfl (ma_end_mk h)
  · replace h := h.2 c
    refine ex_iload_n (pc := 7) (fr_get fo_181_0 3 rfl) rfl ?_
    refine xv_ks1 (pc := 8) (fr_get fo_181_0 4 rfl) cc_181_274 (as := [.inl a3]) (rs := []) rfl rfl rfl rfl ?_
    refine sm_178 ?_
    refine ⟨_, rfl, ?_⟩
    refine xv_pne (pc := 11) (fr_get fo_181_0 5 rfl) (t := 17) rfl (fun c => ?_) (fun c => ?_)
    · replace h := h.1 c
      refine ex_aload_n (pc := 17) (fr_get fo_181_0 8 rfl) rfl rfl ?_
      refine ex_gr (pc := 18) (fr_get fo_181_0 9 rfl) ow_181 fr_9_213_40 (q := (61, 0)) rfl ?_
      refine ex_iload_n (pc := 21) (fr_get fo_181_0 10 rfl) rfl ?_
      refine xv_iald (pc := 22) (fr_get fo_181_0 11 rfl) gk_61 (n := 4) (gn_61 ..) rfl rfl h.1 ?_
      replace h := h.2
      refine xv_blt (pc := 23) (fr_get fo_181_0 12 rfl) (t := 35) rfl (fun c => ?_) (fun c => ?_)
      · replace h := h.1 c
        refine ex_bipush (pc := 35) (fr_get fo_181_1 2 rfl) bp_m11 ?_
        exact ex_ireturn (pc := 37) (fr_get fo_181_1 3 rfl) rt_181 rfl rfl (ma_end_mk h)
      · replace h := h.2 c
        refine ex_aload_n (pc := 26) (fr_get fo_181_0 13 rfl) rfl rfl ?_
        refine ex_gr (pc := 27) (fr_get fo_181_0 14 rfl) ow_181 fr_9_213_40 (q := (61, 0)) rfl ?_
        refine ex_iload_n (pc := 30) (fr_get fo_181_0 15 rfl) rfl ?_
        refine xv_iald (pc := 31) (fr_get fo_181_1 0 rfl) gk_61 (n := 4) (gn_61 ..) rfl rfl h.1 ?_
        replace h := h.2
        refine xv_bge (pc := 32) (fr_get fo_181_1 1 rfl) (t := 38) rfl (fun c => ?_) (fun c => ?_)
        · replace h := h.1 c
          refine ex_aload_n (pc := 38) (fr_get fo_181_1 4 rfl) rfl rfl ?_
          refine ex_gr (pc := 39) (fr_get fo_181_1 5 rfl) ow_181 fr_9_213_40 (q := (61, 0)) rfl ?_
          refine ex_iload_n (pc := 42) (fr_get fo_181_1 6 rfl) rfl ?_
          refine xv_iald (pc := 43) (fr_get fo_181_1 7 rfl) gk_61 (n := 4) (gn_61 ..) rfl rfl h.1 ?_
          replace h := h.2
          refine ex_aload_n (pc := 44) (fr_get fo_181_1 8 rfl) rfl rfl ?_
          refine ex_gr (pc := 45) (fr_get fo_181_1 9 rfl) ow_181 fr_9_213_40 (q := (61, 0)) rfl ?_
          refine ex_iload_n (pc := 48) (fr_get fo_181_1 10 rfl) rfl ?_
          refine xv_iald (pc := 49) (fr_get fo_181_1 11 rfl) gk_61 (n := 4) (gn_61 ..) rfl rfl h.1 ?_
          replace h := h.2
          refine xv_ceq (pc := 50) (fr_get fo_181_1 12 rfl) (t := 56) rfl (fun c => ?_) (fun c => ?_)
          · replace h := h.1 c
            refine ex_iload (pc := 56) (fr_get fo_181_1 15 rfl) rfl ?_
            refine xv_blt (pc := 58) (fr_get fo_181_2 0 rfl) (t := 97) rfl (fun c => ?_) (fun c => ?_)
            · replace h := h.1 c
              refine ex_bipush (pc := 97) (fr_get fo_181_3 5 rfl) bp_m12 ?_
              exact ex_ireturn (pc := 99) (fr_get fo_181_3 6 rfl) rt_181 rfl rfl (ma_end_mk h)
            · replace h := h.2 c
              refine ex_iload_n (pc := 61) (fr_get fo_181_2 1 rfl) rfl ?_
              refine xv_blt (pc := 62) (fr_get fo_181_2 2 rfl) (t := 97) rfl (fun c => ?_) (fun c => ?_)
              · replace h := h.1 c
                refine ex_bipush (pc := 97) (fr_get fo_181_3 5 rfl) bp_m12 ?_
                exact ex_ireturn (pc := 99) (fr_get fo_181_3 6 rfl) rt_181 rfl rfl (ma_end_mk h)
              · replace h := h.2 c
                refine ex_iload (pc := 65) (fr_get fo_181_2 3 rfl) rfl ?_
                refine xv_blt (pc := 67) (fr_get fo_181_2 4 rfl) (t := 97) rfl (fun c => ?_) (fun c => ?_)
                · replace h := h.1 c
                  refine ex_bipush (pc := 97) (fr_get fo_181_3 5 rfl) bp_m12 ?_
                  exact ex_ireturn (pc := 99) (fr_get fo_181_3 6 rfl) rt_181 rfl rfl (ma_end_mk h)
                · replace h := h.2 c
                  refine ex_iload (pc := 70) (fr_get fo_181_2 5 rfl) rfl ?_
                  refine ex_aload_n (pc := 72) (fr_get fo_181_2 6 rfl) rfl rfl ?_
                  refine ex_gr (pc := 73) (fr_get fo_181_2 7 rfl) ow_181 fr_9_216_40 (q := (62, 0)) rfl ?_
                  refine ex_iload_n (pc := 76) (fr_get fo_181_2 8 rfl) rfl ?_
                  refine xv_iald (pc := 77) (fr_get fo_181_2 9 rfl) gk_62 (n := 4) (gn_62 ..) rfl rfl h.1 ?_
                  replace h := h.2
                  refine ex_iload_n (pc := 78) (fr_get fo_181_2 10 rfl) rfl ?_
                  refine ex_isub (pc := 79) (fr_get fo_181_2 11 rfl) ?_
                  refine xv_cgt (pc := 80) (fr_get fo_181_2 12 rfl) (t := 97) rfl (fun c => ?_) (fun c => ?_)
                  · replace h := h.1 c
                    refine ex_bipush (pc := 97) (fr_get fo_181_3 5 rfl) bp_m12 ?_
                    exact ex_ireturn (pc := 99) (fr_get fo_181_3 6 rfl) rt_181 rfl rfl (ma_end_mk h)
                  · replace h := h.2 c
                    refine ex_iload (pc := 83) (fr_get fo_181_2 13 rfl) rfl ?_
                    refine ex_aload_n (pc := 85) (fr_get fo_181_2 14 rfl) rfl rfl ?_
                    refine ex_gr (pc := 86) (fr_get fo_181_2 15 rfl) ow_181 fr_9_216_40 (q := (62, 0)) rfl ?_
                    refine ex_iload_n (pc := 89) (fr_get fo_181_3 0 rfl) rfl ?_
                    refine xv_iald (pc := 90) (fr_get fo_181_3 1 rfl) gk_62 (n := 4) (gn_62 ..) rfl rfl h.1 ?_
                    replace h := h.2
                    refine ex_iload (pc := 91) (fr_get fo_181_3 2 rfl) rfl ?_
                    refine ex_isub (pc := 93) (fr_get fo_181_3 3 rfl) ?_
                    refine xv_cle (pc := 94) (fr_get fo_181_3 4 rfl) (t := 100) rfl (fun c => ?_) (fun c => ?_)
                    · replace h := h.1 c
                      refine ex_iconst (pc := 100) (fr_get fo_181_3 7 rfl) ic_0 ?_
                      refine ex_istore (pc := 101) (fr_get fo_181_3 8 rfl) rfl (L' := [some (.inr (.inr (40, 0))), some (.inl a1), some (.inl a2), some (.inl a3), some (.inl a4), some (.inl a5), some (.inl (0 : Int32))]) rfl ?_
                      exact h
                    · replace h := h.2 c
                      refine ex_bipush (pc := 97) (fr_get fo_181_3 5 rfl) bp_m12 ?_
                      exact ex_ireturn (pc := 99) (fr_get fo_181_3 6 rfl) rt_181 rfl rfl (ma_end_mk h)
          · replace h := h.2 c
            refine ex_bipush (pc := 53) (fr_get fo_181_1 13 rfl) bp_m13 ?_
            exact ex_ireturn (pc := 55) (fr_get fo_181_1 14 rfl) rt_181 rfl rfl (ma_end_mk h)
        · replace h := h.2 c
          refine ex_bipush (pc := 35) (fr_get fo_181_1 2 rfl) bp_m11 ?_
          exact ex_ireturn (pc := 37) (fr_get fo_181_1 3 rfl) rt_181 rfl rfl (ma_end_mk h)
    · replace h := h.2 c
      refine ex_bipush (pc := 14) (fr_get fo_181_0 6 rfl) bp_m2 ?_
      exact ex_ireturn (pc := 16) (fr_get fo_181_0 7 rfl) rt_181 rfl rfl (ma_end_mk h)

theorem b_181_103 {d : Nat} {I : ma_I} {o : Nat} {Q : ma_Q} {v1 : Int32} {v2 : Int32} {v3 : Int32} {v4 : Int32} {v5 : Int32} {v6 : Int32}
  (h :
    (v5 ≤ v6 →
      Ex (d + 2) 181 (140, [some (.inr (.inr (40, 0))), some (.inl v1), some (.inl v2), some (.inl v3), some (.inl v4), some (.inl v5), some (.inl (0 : Int32))], [], ma_mem I o, 0, 0) (ma_end Q)) ∧
    (v6 < v5 →
      ma_in ((((40 : Int32) * v1) + v2) + v6) 160 ∧
      ma_in v6 40 ∧
      Ex (d + 2) 181 (103, [some (.inr (.inr (40, 0))), some (.inl v1), some (.inl v2), some (.inl v3), some (.inl v4), some (.inl v5), some (.inl (v6 + (1 : Int32)))], [], ma_mem (ma_up I 64 0 v6.toNatClampNeg (I 63 0 (((((40 : Int32) * v1) + v2) + v6).toNatClampNeg))) o, 0, 0) (ma_end Q))) :
  Ex (d + 2) 181 (103, [some (.inr (.inr (40, 0))), some (.inl v1), some (.inl v2), some (.inl v3), some (.inl v4), some (.inl v5), some (.inl v6)], [], ma_mem I o, 0, 0) (ma_end Q) := by
  refine ex_iload (pc := 103) (fr_get fo_181_3 9 rfl) rfl ?_
  refine ex_iload (pc := 105) (fr_get fo_181_3 10 rfl) rfl ?_
  refine xv_cge (pc := 107) (fr_get fo_181_3 11 rfl) (t := 137) rfl (fun c => ?_) (fun c => ?_)
  · replace h := h.1 c
    refine ex_iconst (pc := 137) (fr_get fo_181_4 12 rfl) ic_0 ?_
    refine ex_istore (pc := 138) (fr_get fo_181_4 13 rfl) rfl (L' := [some (.inr (.inr (40, 0))), some (.inl v1), some (.inl v2), some (.inl v3), some (.inl v4), some (.inl v5), some (.inl (0 : Int32))]) rfl ?_
    exact h
  · replace h := h.2 c
    refine ex_aload_n (pc := 110) (fr_get fo_181_3 12 rfl) rfl rfl ?_
    refine ex_gr (pc := 111) (fr_get fo_181_3 13 rfl) ow_181 fr_9_222_40 (q := (64, 0)) rfl ?_
    refine ex_iload (pc := 114) (fr_get fo_181_3 14 rfl) rfl ?_
    refine ex_aload_n (pc := 116) (fr_get fo_181_3 15 rfl) rfl rfl ?_
    refine ex_gr (pc := 117) (fr_get fo_181_4 0 rfl) ow_181 fr_9_219_40 (q := (63, 0)) rfl ?_
    refine ex_bipush (pc := 120) (fr_get fo_181_4 1 rfl) bp_40 ?_
    refine ex_iload_n (pc := 122) (fr_get fo_181_4 2 rfl) rfl ?_
    refine ex_imul (pc := 123) (fr_get fo_181_4 3 rfl) ?_
    refine ex_iload_n (pc := 124) (fr_get fo_181_4 4 rfl) rfl ?_
    refine ex_iadd (pc := 125) (fr_get fo_181_4 5 rfl) ?_
    refine ex_iload (pc := 126) (fr_get fo_181_4 6 rfl) rfl ?_
    refine ex_iadd (pc := 128) (fr_get fo_181_4 7 rfl) ?_
    refine xv_iald (pc := 129) (fr_get fo_181_4 8 rfl) gk_63 (n := 160) (gn_63 ..) rfl rfl h.1 ?_
    replace h := h.2
    refine xv_iast (pc := 130) (fr_get fo_181_4 9 rfl) gs_64 gl_64 rfl h.1 ?_
    replace h := h.2
    refine xv_iinc (pc := 131) (fr_get fo_181_4 10 rfl) rfl ic_1 (L' := [some (.inr (.inr (40, 0))), some (.inl v1), some (.inl v2), some (.inl v3), some (.inl v4), some (.inl v5), some (.inl (v6 + (1 : Int32)))]) rfl ?_
    refine ex_goto (pc := 134) (fr_get fo_181_4 11 rfl) (t := 103) rfl ?_
    exact h

theorem b_181_140 {d : Nat} {I : ma_I} {o : Nat} {Q : ma_Q} {v1 : Int32} {v2 : Int32} {v3 : Int32} {v4 : Int32} {v5 : Int32} {v6 : Int32}
  (h :
    (v5 ≤ v6 →
      Q (some (.inl v5)) I o) ∧
    (v6 < v5 →
      ma_in v6 40 ∧
      ma_in ((((40 : Int32) * v3) + v4) + v6) 160 ∧
      Ex (d + 2) 181 (140, [some (.inr (.inr (40, 0))), some (.inl v1), some (.inl v2), some (.inl v3), some (.inl v4), some (.inl v5), some (.inl (v6 + (1 : Int32)))], [], ma_mem (ma_up I 63 0 (((((40 : Int32) * v3) + v4) + v6).toNatClampNeg) (I 64 0 v6.toNatClampNeg)) o, 0, 0) (ma_end Q))) :
  Ex (d + 2) 181 (140, [some (.inr (.inr (40, 0))), some (.inl v1), some (.inl v2), some (.inl v3), some (.inl v4), some (.inl v5), some (.inl v6)], [], ma_mem I o, 0, 0) (ma_end Q) := by
  refine ex_iload (pc := 140) (fr_get fo_181_4 14 rfl) rfl ?_
  refine ex_iload (pc := 142) (fr_get fo_181_4 15 rfl) rfl ?_
  refine xv_cge (pc := 144) (fr_get fo_181_5 0 rfl) (t := 175) rfl (fun c => ?_) (fun c => ?_)
  · replace h := h.1 c
    refine ex_iload (pc := 175) (fr_get fo_181_6 1 rfl) rfl ?_
    exact ex_ireturn (pc := 177) (fr_get fo_181_6 2 rfl) rt_181 rfl rfl (ma_end_mk h)
  · replace h := h.2 c
    refine ex_aload_n (pc := 147) (fr_get fo_181_5 1 rfl) rfl rfl ?_
    refine ex_gr (pc := 148) (fr_get fo_181_5 2 rfl) ow_181 fr_9_219_40 (q := (63, 0)) rfl ?_
    refine ex_bipush (pc := 151) (fr_get fo_181_5 3 rfl) bp_40 ?_
    refine ex_iload_n (pc := 153) (fr_get fo_181_5 4 rfl) rfl ?_
    refine ex_imul (pc := 154) (fr_get fo_181_5 5 rfl) ?_
    refine ex_iload (pc := 155) (fr_get fo_181_5 6 rfl) rfl ?_
    refine ex_iadd (pc := 157) (fr_get fo_181_5 7 rfl) ?_
    refine ex_iload (pc := 158) (fr_get fo_181_5 8 rfl) rfl ?_
    refine ex_iadd (pc := 160) (fr_get fo_181_5 9 rfl) ?_
    refine ex_aload_n (pc := 161) (fr_get fo_181_5 10 rfl) rfl rfl ?_
    refine ex_gr (pc := 162) (fr_get fo_181_5 11 rfl) ow_181 fr_9_222_40 (q := (64, 0)) rfl ?_
    refine ex_iload (pc := 165) (fr_get fo_181_5 12 rfl) rfl ?_
    refine xv_iald (pc := 167) (fr_get fo_181_5 13 rfl) gk_64 (n := 40) (gn_64 ..) rfl rfl h.1 ?_
    replace h := h.2
    refine xv_iast (pc := 168) (fr_get fo_181_5 14 rfl) gs_63 gl_63 rfl h.1 ?_
    replace h := h.2
    refine xv_iinc (pc := 169) (fr_get fo_181_5 15 rfl) rfl ic_1 (L' := [some (.inr (.inr (40, 0))), some (.inl v1), some (.inl v2), some (.inl v3), some (.inl v4), some (.inl v5), some (.inl (v6 + (1 : Int32)))]) rfl ?_
    refine ex_goto (pc := 172) (fr_get fo_181_6 0 rfl) (t := 140) rfl ?_
    exact h

theorem e_182 {d : Nat} {I : ma_I} {o : Nat} {Q : ma_Q} {a1 : Int32} {a2 : Int32} {a3 : Int32} {a4 : Int32}
  (h :
    (¬((0 : Int32) ≤ a1 ∧ a1 ≤ (3 : Int32)) →
      Q (some (.inl (-2 : Int32))) I o) ∧
    ((0 : Int32) ≤ a1 ∧ a1 ≤ (3 : Int32) →
      (¬((0 : Int32) ≤ a2 ∧ a2 ≤ (2 : Int32)) →
        Q (some (.inl (-2 : Int32))) I o) ∧
      ((0 : Int32) ≤ a2 ∧ a2 ≤ (2 : Int32) →
        ((0 : Int32) ≤ a4 ∧ a4 ≤ (8 : Int32) →
          ma_in a1 4 ∧
          (0 ≤ I 61 0 a1.toNatClampNeg →
            ma_in a1 4 ∧
            (I 61 0 a1.toNatClampNeg = a2 →
              Ex (d + 2) 182 (61, [some (.inr (.inr (40, 0))), some (.inl a1), some (.inl a2), some (.inl a3), some (.inl a4), some (.inl (0 : Int32)), some (.inl (0 : Int32)), none, none, none], [], ma_mem I o, 0, 0) (ma_end Q)) ∧
            (I 61 0 a1.toNatClampNeg ≠ a2 →
              Q (some (.inl (-13 : Int32))) I o)) ∧
          (I 61 0 a1.toNatClampNeg < 0 →
            Q (some (.inl (-11 : Int32))) I o)) ∧
        (¬((0 : Int32) ≤ a4 ∧ a4 ≤ (8 : Int32)) →
          Q (some (.inl (-2 : Int32))) I o)))) :
  Exm (d + 2) 182 [.inr (.inr (40, 0)), .inl a1, .inl a2, .inl a3, .inl a4] I o Q := by
  show Ex (d + 2) 182 (0, [some (.inr (.inr (40, 0))), some (.inl a1), some (.inl a2), some (.inl a3), some (.inl a4), none, none, none, none, none], [], ma_mem I o, 0, 0) (ma_end Q)
  refine ex_iload_n (pc := 0) (fr_get fo_182_0 0 rfl) rfl ?_
  refine xv_ks1 (pc := 1) (fr_get fo_182_0 1 rfl) cc_182_274 (as := [.inl a1]) (rs := []) rfl rfl rfl rfl ?_
  refine sm_178 ?_
  refine ⟨_, rfl, ?_⟩
  refine xv_peq (pc := 4) (fr_get fo_182_0 2 rfl) (t := 27) rfl (fun c => ?_) (fun c => ?_)
  · replace h := h.1 c
    refine ex_bipush (pc := 27) (fr_get fo_182_0 13 rfl) bp_m2 ?_
    exact ex_ireturn (pc := 29) (fr_get fo_182_0 14 rfl) rt_182 rfl rfl (ma_end_mk h)
  · replace h := h.2 c
    refine ex_iload_n (pc := 7) (fr_get fo_182_0 3 rfl) rfl ?_
    refine ex_iconst (pc := 8) (fr_get fo_182_0 4 rfl) ic_0 ?_
    refine ex_iconst (pc := 9) (fr_get fo_182_0 5 rfl) ic_2 ?_
    refine xv_ks1 (pc := 10) (fr_get fo_182_0 6 rfl) cc_182_3 (as := [.inl a2, .inl (0 : Int32), .inl (2 : Int32)]) (rs := []) rfl rfl rfl rfl ?_
    refine sm_118 ?_
    refine ⟨_, rfl, ?_⟩
    refine xv_peq (pc := 13) (fr_get fo_182_0 7 rfl) (t := 27) rfl (fun c => ?_) (fun c => ?_)
    · replace h := h.1 c
      refine ex_bipush (pc := 27) (fr_get fo_182_0 13 rfl) bp_m2 ?_
      exact ex_ireturn (pc := 29) (fr_get fo_182_0 14 rfl) rt_182 rfl rfl (ma_end_mk h)
    · replace h := h.2 c
      refine ex_iload (pc := 16) (fr_get fo_182_0 8 rfl) rfl ?_
      refine ex_iconst (pc := 18) (fr_get fo_182_0 9 rfl) ic_0 ?_
      refine ex_bipush (pc := 19) (fr_get fo_182_0 10 rfl) bp_8 ?_
      refine xv_ks1 (pc := 21) (fr_get fo_182_0 11 rfl) cc_182_3 (as := [.inl a4, .inl (0 : Int32), .inl (8 : Int32)]) (rs := []) rfl rfl rfl rfl ?_
      refine sm_118 ?_
      refine ⟨_, rfl, ?_⟩
      refine xv_pne (pc := 24) (fr_get fo_182_0 12 rfl) (t := 30) rfl (fun c => ?_) (fun c => ?_)
      · replace h := h.1 c
        refine ex_aload_n (pc := 30) (fr_get fo_182_0 15 rfl) rfl rfl ?_
        refine ex_gr (pc := 31) (fr_get fo_182_1 0 rfl) ow_182 fr_9_213_40 (q := (61, 0)) rfl ?_
        refine ex_iload_n (pc := 34) (fr_get fo_182_1 1 rfl) rfl ?_
        refine xv_iald (pc := 35) (fr_get fo_182_1 2 rfl) gk_61 (n := 4) (gn_61 ..) rfl rfl h.1 ?_
        replace h := h.2
        refine xv_bge (pc := 36) (fr_get fo_182_1 3 rfl) (t := 42) rfl (fun c => ?_) (fun c => ?_)
        · replace h := h.1 c
          refine ex_aload_n (pc := 42) (fr_get fo_182_1 6 rfl) rfl rfl ?_
          refine ex_gr (pc := 43) (fr_get fo_182_1 7 rfl) ow_182 fr_9_213_40 (q := (61, 0)) rfl ?_
          refine ex_iload_n (pc := 46) (fr_get fo_182_1 8 rfl) rfl ?_
          refine xv_iald (pc := 47) (fr_get fo_182_1 9 rfl) gk_61 (n := 4) (gn_61 ..) rfl rfl h.1 ?_
          replace h := h.2
          refine ex_iload_n (pc := 48) (fr_get fo_182_1 10 rfl) rfl ?_
          refine xv_ceq (pc := 49) (fr_get fo_182_1 11 rfl) (t := 55) rfl (fun c => ?_) (fun c => ?_)
          · replace h := h.1 c
            refine ex_iconst (pc := 55) (fr_get fo_182_1 14 rfl) ic_0 ?_
            refine ex_istore (pc := 56) (fr_get fo_182_1 15 rfl) rfl (L' := [some (.inr (.inr (40, 0))), some (.inl a1), some (.inl a2), some (.inl a3), some (.inl a4), some (.inl (0 : Int32)), none, none, none, none]) rfl ?_
            refine ex_iconst (pc := 58) (fr_get fo_182_2 0 rfl) ic_0 ?_
            refine ex_istore (pc := 59) (fr_get fo_182_2 1 rfl) rfl (L' := [some (.inr (.inr (40, 0))), some (.inl a1), some (.inl a2), some (.inl a3), some (.inl a4), some (.inl (0 : Int32)), some (.inl (0 : Int32)), none, none, none]) rfl ?_
            exact h
          · replace h := h.2 c
            refine ex_bipush (pc := 52) (fr_get fo_182_1 12 rfl) bp_m13 ?_
            exact ex_ireturn (pc := 54) (fr_get fo_182_1 13 rfl) rt_182 rfl rfl (ma_end_mk h)
        · replace h := h.2 c
          refine ex_bipush (pc := 39) (fr_get fo_182_1 4 rfl) bp_m11 ?_
          exact ex_ireturn (pc := 41) (fr_get fo_182_1 5 rfl) rt_182 rfl rfl (ma_end_mk h)
      · replace h := h.2 c
        refine ex_bipush (pc := 27) (fr_get fo_182_0 13 rfl) bp_m2 ?_
        exact ex_ireturn (pc := 29) (fr_get fo_182_0 14 rfl) rt_182 rfl rfl (ma_end_mk h)

theorem b_182_61 {d : Nat} {I : ma_I} {o : Nat} {Q : ma_Q} {v1 : Int32} {v2 : Int32} {v3 : Int32} {v4 : Int32} {v5 : Int32} {v6 : Int32} {w7 : Option ma_V} {w9 : Option ma_V}
  (h :
    (v4 ≤ v6 →
      Q (some (.inl v5)) I o) ∧
    (v6 < v4 →
      (lg_cmp ((Int32.toInt64 v3) + ((3 : Int64) * (Int32.toInt64 v6))) (0 : Int64) < 0 →
        Q (some (.inl (-12 : Int32))) I o) ∧
      (0 ≤ lg_cmp ((Int32.toInt64 v3) + ((3 : Int64) * (Int32.toInt64 v6))) (0 : Int64) →
        ma_in v1 4 ∧
        (lg_cmp (((Int32.toInt64 v3) + ((3 : Int64) * (Int32.toInt64 v6))) + (2 : Int64)) (Int32.toInt64 (I 62 0 v1.toNatClampNeg)) < 0 →
          ma_in (((40 : Int32) * v1) + (Int64.toInt32 ((Int32.toInt64 v3) + ((3 : Int64) * (Int32.toInt64 v6))))) 160 ∧
          ma_in ((((40 : Int32) * v1) + (Int64.toInt32 ((Int32.toInt64 v3) + ((3 : Int64) * (Int32.toInt64 v6))))) + (1 : Int32)) 160 ∧
          ma_in ((((40 : Int32) * v1) + (Int64.toInt32 ((Int32.toInt64 v3) + ((3 : Int64) * (Int32.toInt64 v6))))) + (2 : Int32)) 160 ∧
          Exm (d + 1) 126 [.inr (.inr (40, 0)), .inl (I 63 0 ((((40 : Int32) * v1) + (Int64.toInt32 ((Int32.toInt64 v3) + ((3 : Int64) * (Int32.toInt64 v6))))).toNatClampNeg)), .inl (I 63 0 (((((40 : Int32) * v1) + (Int64.toInt32 ((Int32.toInt64 v3) + ((3 : Int64) * (Int32.toInt64 v6))))) + (1 : Int32)).toNatClampNeg)), .inl (I 63 0 (((((40 : Int32) * v1) + (Int64.toInt32 ((Int32.toInt64 v3) + ((3 : Int64) * (Int32.toInt64 v6))))) + (2 : Int32)).toNatClampNeg))] I o (fun r J1 p2 => ∃ x3 : Int32, r = some (.inl x3) ∧
            (x3 < 0 →
              Ex (d + 2) 182 (61, [some (.inr (.inr (40, 0))), some (.inl v1), some (.inl v2), some (.inl v3), some (.inl v4), some (.inl (v5 + (0 : Int32))), some (.inl (v6 + (1 : Int32))), some (.inr (.inl ((Int32.toInt64 v3) + ((3 : Int64) * (Int32.toInt64 v6))))), none, some (.inl (((40 : Int32) * v1) + (Int64.toInt32 ((Int32.toInt64 v3) + ((3 : Int64) * (Int32.toInt64 v6))))))], [], ma_mem J1 p2, 0, 0) (ma_end Q)) ∧
            (0 ≤ x3 →
              Ex (d + 2) 182 (61, [some (.inr (.inr (40, 0))), some (.inl v1), some (.inl v2), some (.inl v3), some (.inl v4), some (.inl (v5 + (1 : Int32))), some (.inl (v6 + (1 : Int32))), some (.inr (.inl ((Int32.toInt64 v3) + ((3 : Int64) * (Int32.toInt64 v6))))), none, some (.inl (((40 : Int32) * v1) + (Int64.toInt32 ((Int32.toInt64 v3) + ((3 : Int64) * (Int32.toInt64 v6))))))], [], ma_mem J1 p2, 0, 0) (ma_end Q)))) ∧
        (0 ≤ lg_cmp (((Int32.toInt64 v3) + ((3 : Int64) * (Int32.toInt64 v6))) + (2 : Int64)) (Int32.toInt64 (I 62 0 v1.toNatClampNeg)) →
          Q (some (.inl (-12 : Int32))) I o)))) :
  Ex (d + 2) 182 (61, [some (.inr (.inr (40, 0))), some (.inl v1), some (.inl v2), some (.inl v3), some (.inl v4), some (.inl v5), some (.inl v6), w7, none, w9], [], ma_mem I o, 0, 0) (ma_end Q) := by
  refine ex_iload (pc := 61) (fr_get fo_182_2 2 rfl) rfl ?_
  refine ex_iload (pc := 63) (fr_get fo_182_2 3 rfl) rfl ?_
  refine xv_cge (pc := 65) (fr_get fo_182_2 4 rfl) (t := 165) rfl (fun c => ?_) (fun c => ?_)
  · replace h := h.1 c
    refine ex_iload (pc := 165) (fr_get fo_182_5 15 rfl) rfl ?_
    exact ex_ireturn (pc := 167) (fr_get fo_182_6 0 rfl) rt_182 rfl rfl (ma_end_mk h)
  · replace h := h.2 c
    refine ex_iload_n (pc := 68) (fr_get fo_182_2 5 rfl) rfl ?_
    refine ex_i2l (pc := 69) (fr_get fo_182_2 6 rfl) ?_
    refine ex_ldc2 (pc := 70) (fr_get fo_182_2 7 rfl) ow_182 kl_9_300 ?_
    refine ex_iload (pc := 73) (fr_get fo_182_2 8 rfl) rfl ?_
    refine ex_i2l (pc := 75) (fr_get fo_182_2 9 rfl) ?_
    refine ex_lmul (pc := 76) (fr_get fo_182_2 10 rfl) ?_
    refine ex_ladd (pc := 77) (fr_get fo_182_2 11 rfl) ?_
    refine ex_lstore (pc := 78) (fr_get fo_182_2 12 rfl) rfl (L' := [some (.inr (.inr (40, 0))), some (.inl v1), some (.inl v2), some (.inl v3), some (.inl v4), some (.inl v5), some (.inl v6), some (.inr (.inl ((Int32.toInt64 v3) + ((3 : Int64) * (Int32.toInt64 v6))))), none, w9]) rfl ?_
    refine ex_lload (pc := 80) (fr_get fo_182_2 13 rfl) rfl ?_
    refine ex_lconst (pc := 82) (fr_get fo_182_2 14 rfl) (v := 0) rfl ?_
    refine ex_lcmp (pc := 83) (fr_get fo_182_2 15 rfl) ?_
    refine xv_blt (pc := 84) (fr_get fo_182_3 0 rfl) (t := 104) rfl (fun c => ?_) (fun c => ?_)
    · replace h := h.1 c
      refine ex_bipush (pc := 104) (fr_get fo_182_3 11 rfl) bp_m12 ?_
      exact ex_ireturn (pc := 106) (fr_get fo_182_3 12 rfl) rt_182 rfl rfl (ma_end_mk h)
    · replace h := h.2 c
      refine ex_lload (pc := 87) (fr_get fo_182_3 1 rfl) rfl ?_
      refine ex_ldc2 (pc := 89) (fr_get fo_182_3 2 rfl) ow_182 kl_9_302 ?_
      refine ex_ladd (pc := 92) (fr_get fo_182_3 3 rfl) ?_
      refine ex_aload_n (pc := 93) (fr_get fo_182_3 4 rfl) rfl rfl ?_
      refine ex_gr (pc := 94) (fr_get fo_182_3 5 rfl) ow_182 fr_9_216_40 (q := (62, 0)) rfl ?_
      refine ex_iload_n (pc := 97) (fr_get fo_182_3 6 rfl) rfl ?_
      refine xv_iald (pc := 98) (fr_get fo_182_3 7 rfl) gk_62 (n := 4) (gn_62 ..) rfl rfl h.1 ?_
      replace h := h.2
      refine ex_i2l (pc := 99) (fr_get fo_182_3 8 rfl) ?_
      refine ex_lcmp (pc := 100) (fr_get fo_182_3 9 rfl) ?_
      refine xv_blt (pc := 101) (fr_get fo_182_3 10 rfl) (t := 107) rfl (fun c => ?_) (fun c => ?_)
      · replace h := h.1 c
        refine ex_bipush (pc := 107) (fr_get fo_182_3 13 rfl) bp_40 ?_
        refine ex_iload_n (pc := 109) (fr_get fo_182_3 14 rfl) rfl ?_
        refine ex_imul (pc := 110) (fr_get fo_182_3 15 rfl) ?_
        refine ex_lload (pc := 111) (fr_get fo_182_4 0 rfl) rfl ?_
        refine ex_l2i (pc := 113) (fr_get fo_182_4 1 rfl) ?_
        refine ex_iadd (pc := 114) (fr_get fo_182_4 2 rfl) ?_
        refine ex_istore (pc := 115) (fr_get fo_182_4 3 rfl) rfl (L' := [some (.inr (.inr (40, 0))), some (.inl v1), some (.inl v2), some (.inl v3), some (.inl v4), some (.inl v5), some (.inl v6), some (.inr (.inl ((Int32.toInt64 v3) + ((3 : Int64) * (Int32.toInt64 v6))))), none, some (.inl (((40 : Int32) * v1) + (Int64.toInt32 ((Int32.toInt64 v3) + ((3 : Int64) * (Int32.toInt64 v6))))))]) rfl ?_
        refine ex_iload (pc := 117) (fr_get fo_182_4 4 rfl) rfl ?_
        refine ex_aload_n (pc := 119) (fr_get fo_182_4 5 rfl) rfl rfl ?_
        refine ex_aload_n (pc := 120) (fr_get fo_182_4 6 rfl) rfl rfl ?_
        refine ex_gr (pc := 121) (fr_get fo_182_4 7 rfl) ow_182 fr_9_219_40 (q := (63, 0)) rfl ?_
        refine ex_iload (pc := 124) (fr_get fo_182_4 8 rfl) rfl ?_
        refine xv_iald (pc := 126) (fr_get fo_182_4 9 rfl) gk_63 (n := 160) (gn_63 ..) rfl rfl h.1 ?_
        replace h := h.2
        refine ex_aload_n (pc := 127) (fr_get fo_182_4 10 rfl) rfl rfl ?_
        refine ex_gr (pc := 128) (fr_get fo_182_4 11 rfl) ow_182 fr_9_219_40 (q := (63, 0)) rfl ?_
        refine ex_iload (pc := 131) (fr_get fo_182_4 12 rfl) rfl ?_
        refine ex_iconst (pc := 133) (fr_get fo_182_4 13 rfl) ic_1 ?_
        refine ex_iadd (pc := 134) (fr_get fo_182_4 14 rfl) ?_
        refine xv_iald (pc := 135) (fr_get fo_182_4 15 rfl) gk_63 (n := 160) (gn_63 ..) rfl rfl h.1 ?_
        replace h := h.2
        refine ex_aload_n (pc := 136) (fr_get fo_182_5 0 rfl) rfl rfl ?_
        refine ex_gr (pc := 137) (fr_get fo_182_5 1 rfl) ow_182 fr_9_219_40 (q := (63, 0)) rfl ?_
        refine ex_iload (pc := 140) (fr_get fo_182_5 2 rfl) rfl ?_
        refine ex_iconst (pc := 142) (fr_get fo_182_5 3 rfl) ic_2 ?_
        refine ex_iadd (pc := 143) (fr_get fo_182_5 4 rfl) ?_
        refine xv_iald (pc := 144) (fr_get fo_182_5 5 rfl) gk_63 (n := 160) (gn_63 ..) rfl rfl h.1 ?_
        replace h := h.2
        refine xv_kv1 (pc := 145) (fr_get fo_182_5 6 rfl) cc_182_304 (as := [.inr (.inr (40, 0)), .inl (I 63 0 ((((40 : Int32) * v1) + (Int64.toInt32 ((Int32.toInt64 v3) + ((3 : Int64) * (Int32.toInt64 v6))))).toNatClampNeg)), .inl (I 63 0 (((((40 : Int32) * v1) + (Int64.toInt32 ((Int32.toInt64 v3) + ((3 : Int64) * (Int32.toInt64 v6))))) + (1 : Int32)).toNatClampNeg)), .inl (I 63 0 (((((40 : Int32) * v1) + (Int64.toInt32 ((Int32.toInt64 v3) + ((3 : Int64) * (Int32.toInt64 v6))))) + (2 : Int32)).toNatClampNeg))]) (rs := [.inl v5]) rfl rfl rfl rfl rfl ?_
        refine h.mono (fun r J1 p2 h => ?_)
        obtain ⟨x3, hr, h⟩ := h
        refine ⟨x3, hr, ?_⟩
        refine xv_blt (pc := 148) (fr_get fo_182_5 7 rfl) (t := 155) rfl (fun c => ?_) (fun c => ?_)
        · replace h := h.1 c
          refine ex_iconst (pc := 155) (fr_get fo_182_5 10 rfl) ic_0 ?_
          refine ex_iadd (pc := 156) (fr_get fo_182_5 11 rfl) ?_
          refine ex_istore (pc := 157) (fr_get fo_182_5 12 rfl) rfl (L' := [some (.inr (.inr (40, 0))), some (.inl v1), some (.inl v2), some (.inl v3), some (.inl v4), some (.inl (v5 + (0 : Int32))), some (.inl v6), some (.inr (.inl ((Int32.toInt64 v3) + ((3 : Int64) * (Int32.toInt64 v6))))), none, some (.inl (((40 : Int32) * v1) + (Int64.toInt32 ((Int32.toInt64 v3) + ((3 : Int64) * (Int32.toInt64 v6))))))]) rfl ?_
          refine xv_iinc (pc := 159) (fr_get fo_182_5 13 rfl) rfl ic_1 (L' := [some (.inr (.inr (40, 0))), some (.inl v1), some (.inl v2), some (.inl v3), some (.inl v4), some (.inl (v5 + (0 : Int32))), some (.inl (v6 + (1 : Int32))), some (.inr (.inl ((Int32.toInt64 v3) + ((3 : Int64) * (Int32.toInt64 v6))))), none, some (.inl (((40 : Int32) * v1) + (Int64.toInt32 ((Int32.toInt64 v3) + ((3 : Int64) * (Int32.toInt64 v6))))))]) rfl ?_
          refine ex_goto (pc := 162) (fr_get fo_182_5 14 rfl) (t := 61) rfl ?_
          exact h
        · replace h := h.2 c
          refine ex_iconst (pc := 151) (fr_get fo_182_5 8 rfl) ic_1 ?_
          refine ex_goto (pc := 152) (fr_get fo_182_5 9 rfl) (t := 156) rfl ?_
          refine ex_iadd (pc := 156) (fr_get fo_182_5 11 rfl) ?_
          refine ex_istore (pc := 157) (fr_get fo_182_5 12 rfl) rfl (L' := [some (.inr (.inr (40, 0))), some (.inl v1), some (.inl v2), some (.inl v3), some (.inl v4), some (.inl (v5 + (1 : Int32))), some (.inl v6), some (.inr (.inl ((Int32.toInt64 v3) + ((3 : Int64) * (Int32.toInt64 v6))))), none, some (.inl (((40 : Int32) * v1) + (Int64.toInt32 ((Int32.toInt64 v3) + ((3 : Int64) * (Int32.toInt64 v6))))))]) rfl ?_
          refine xv_iinc (pc := 159) (fr_get fo_182_5 13 rfl) rfl ic_1 (L' := [some (.inr (.inr (40, 0))), some (.inl v1), some (.inl v2), some (.inl v3), some (.inl v4), some (.inl (v5 + (1 : Int32))), some (.inl (v6 + (1 : Int32))), some (.inr (.inl ((Int32.toInt64 v3) + ((3 : Int64) * (Int32.toInt64 v6))))), none, some (.inl (((40 : Int32) * v1) + (Int64.toInt32 ((Int32.toInt64 v3) + ((3 : Int64) * (Int32.toInt64 v6))))))]) rfl ?_
          refine ex_goto (pc := 162) (fr_get fo_182_5 14 rfl) (t := 61) rfl ?_
          exact h
      · replace h := h.2 c
        refine ex_bipush (pc := 104) (fr_get fo_182_3 11 rfl) bp_m12 ?_
        exact ex_ireturn (pc := 106) (fr_get fo_182_3 12 rfl) rt_182 rfl rfl (ma_end_mk h)

theorem e_183 {d : Nat} {I : ma_I} {o : Nat} {Q : ma_Q} {a1 : Int32} {a2 : Int32}
  (h :
    ((0 : Int32) ≤ a2 ∧ a2 ≤ (5 : Int32) →
      ((0 : Int32) ≤ a1 ∧ a1 ≤ ((I 40 0 4) - 1) →
        ma_in a1 9 ∧
        (a2 = 0 →
          ma_in a1 9 ∧
          Q (some (.inl (I 44 0 a1.toNatClampNeg))) I o) ∧
        (a2 ≠ 0 →
          (a2 = I 43 0 a1.toNatClampNeg →
            ma_in a1 9 ∧
            Q (some (.inl (I 44 0 a1.toNatClampNeg))) I o) ∧
          (a2 ≠ I 43 0 a1.toNatClampNeg →
            (a2 ≠ (1 : Int32) →
              (a2 ≠ (2 : Int32) →
                Q (some (.inl (-13 : Int32))) I o) ∧
              (a2 = (2 : Int32) →
                (I 43 0 a1.toNatClampNeg ≠ (4 : Int32) →
                  Q (some (.inl (-13 : Int32))) I o) ∧
                (I 43 0 a1.toNatClampNeg = (4 : Int32) →
                  ma_in a1 9 ∧
                  Q (some (.inl (I 44 0 a1.toNatClampNeg))) I o))) ∧
            (a2 = (1 : Int32) →
              (I 43 0 a1.toNatClampNeg = (3 : Int32) →
                ma_in a1 9 ∧
                Q (some (.inl (I 44 0 a1.toNatClampNeg))) I o) ∧
              (I 43 0 a1.toNatClampNeg ≠ (3 : Int32) →
                (a2 ≠ (2 : Int32) →
                  Q (some (.inl (-13 : Int32))) I o) ∧
                (a2 = (2 : Int32) →
                  (I 43 0 a1.toNatClampNeg ≠ (4 : Int32) →
                    Q (some (.inl (-13 : Int32))) I o) ∧
                  (I 43 0 a1.toNatClampNeg = (4 : Int32) →
                    ma_in a1 9 ∧
                    Q (some (.inl (I 44 0 a1.toNatClampNeg))) I o))))))) ∧
      (¬((0 : Int32) ≤ a1 ∧ a1 ≤ ((I 40 0 4) - 1)) →
        Q (some (.inl (-11 : Int32))) I o)) ∧
    (¬((0 : Int32) ≤ a2 ∧ a2 ≤ (5 : Int32)) →
      Q (some (.inl (-2 : Int32))) I o)) :
  Exm (d + 2) 183 [.inr (.inr (40, 0)), .inl a1, .inl a2] I o Q := by
  show Ex (d + 2) 183 (0, [some (.inr (.inr (40, 0))), some (.inl a1), some (.inl a2), none], [], ma_mem I o, 0, 0) (ma_end Q)
  refine ex_iload_n (pc := 0) (fr_get fo_183_0 0 rfl) rfl ?_
  refine ex_iconst (pc := 1) (fr_get fo_183_0 1 rfl) ic_0 ?_
  refine ex_iconst (pc := 2) (fr_get fo_183_0 2 rfl) ic_5 ?_
  refine xv_ks1 (pc := 3) (fr_get fo_183_0 3 rfl) cc_183_3 (as := [.inl a2, .inl (0 : Int32), .inl (5 : Int32)]) (rs := []) rfl rfl rfl rfl ?_
  refine sm_118 ?_
  refine ⟨_, rfl, ?_⟩
  refine xv_pne (pc := 6) (fr_get fo_183_0 4 rfl) (t := 12) rfl (fun c => ?_) (fun c => ?_)
  · replace h := h.1 c
    refine ex_aload_n (pc := 12) (fr_get fo_183_0 7 rfl) rfl rfl ?_
    refine ex_iload_n (pc := 13) (fr_get fo_183_0 8 rfl) rfl ?_
    refine xv_kv1 (pc := 14) (fr_get fo_183_0 9 rfl) cc_183_53 (as := [.inr (.inr (40, 0)), .inl a1]) (rs := []) rfl rfl rfl rfl rfl ?_
    refine sm_123 rfl ?_
    refine ⟨_, rfl, ?_⟩
    refine xv_pne (pc := 17) (fr_get fo_183_0 10 rfl) (t := 23) rfl (fun c => ?_) (fun c => ?_)
    · replace h := h.1 c
      refine ex_aload_n (pc := 23) (fr_get fo_183_0 13 rfl) rfl rfl ?_
      refine ex_gr (pc := 24) (fr_get fo_183_0 14 rfl) ow_183 fr_9_28_40 (q := (43, 0)) rfl ?_
      refine ex_iload_n (pc := 27) (fr_get fo_183_0 15 rfl) rfl ?_
      refine xv_iald (pc := 28) (fr_get fo_183_1 0 rfl) gk_43 (n := 9) (gn_43 ..) rfl rfl h.1 ?_
      replace h := h.2
      refine ex_istore_n (pc := 29) (fr_get fo_183_1 1 rfl) rfl (L' := [some (.inr (.inr (40, 0))), some (.inl a1), some (.inl a2), some (.inl (I 43 0 a1.toNatClampNeg))]) rfl ?_
      refine ex_iload_n (pc := 30) (fr_get fo_183_1 2 rfl) rfl ?_
      refine xv_beq (pc := 31) (fr_get fo_183_1 3 rfl) (t := 59) rfl (fun c => ?_) (fun c => ?_)
      · replace h := h.1 c
        refine ex_aload_n (pc := 59) (fr_get fo_183_2 3 rfl) rfl rfl ?_
        refine ex_gr (pc := 60) (fr_get fo_183_2 4 rfl) ow_183 fr_9_31_40 (q := (44, 0)) rfl ?_
        refine ex_iload_n (pc := 63) (fr_get fo_183_2 5 rfl) rfl ?_
        refine xv_iald (pc := 64) (fr_get fo_183_2 6 rfl) gk_44 (n := 9) (gn_44 ..) rfl rfl h.1 ?_
        replace h := h.2
        refine ex_goto (pc := 65) (fr_get fo_183_2 7 rfl) (t := 70) rfl ?_
        exact ex_ireturn (pc := 70) (fr_get fo_183_2 9 rfl) rt_183 rfl rfl (ma_end_mk h)
      · replace h := h.2 c
        refine ex_iload_n (pc := 34) (fr_get fo_183_1 4 rfl) rfl ?_
        refine ex_iload_n (pc := 35) (fr_get fo_183_1 5 rfl) rfl ?_
        refine xv_ceq (pc := 36) (fr_get fo_183_1 6 rfl) (t := 59) rfl (fun c => ?_) (fun c => ?_)
        · replace h := h.1 c
          refine ex_aload_n (pc := 59) (fr_get fo_183_2 3 rfl) rfl rfl ?_
          refine ex_gr (pc := 60) (fr_get fo_183_2 4 rfl) ow_183 fr_9_31_40 (q := (44, 0)) rfl ?_
          refine ex_iload_n (pc := 63) (fr_get fo_183_2 5 rfl) rfl ?_
          refine xv_iald (pc := 64) (fr_get fo_183_2 6 rfl) gk_44 (n := 9) (gn_44 ..) rfl rfl h.1 ?_
          replace h := h.2
          refine ex_goto (pc := 65) (fr_get fo_183_2 7 rfl) (t := 70) rfl ?_
          exact ex_ireturn (pc := 70) (fr_get fo_183_2 9 rfl) rt_183 rfl rfl (ma_end_mk h)
        · replace h := h.2 c
          refine ex_iload_n (pc := 39) (fr_get fo_183_1 7 rfl) rfl ?_
          refine ex_iconst (pc := 40) (fr_get fo_183_1 8 rfl) ic_1 ?_
          refine xv_cne (pc := 41) (fr_get fo_183_1 9 rfl) (t := 49) rfl (fun c => ?_) (fun c => ?_)
          · replace h := h.1 c
            refine ex_iload_n (pc := 49) (fr_get fo_183_1 13 rfl) rfl ?_
            refine ex_iconst (pc := 50) (fr_get fo_183_1 14 rfl) ic_2 ?_
            refine xv_cne (pc := 51) (fr_get fo_183_1 15 rfl) (t := 68) rfl (fun c => ?_) (fun c => ?_)
            · replace h := h.1 c
              refine ex_bipush (pc := 68) (fr_get fo_183_2 8 rfl) bp_m13 ?_
              exact ex_ireturn (pc := 70) (fr_get fo_183_2 9 rfl) rt_183 rfl rfl (ma_end_mk h)
            · replace h := h.2 c
              refine ex_iload_n (pc := 54) (fr_get fo_183_2 0 rfl) rfl ?_
              refine ex_iconst (pc := 55) (fr_get fo_183_2 1 rfl) ic_4 ?_
              refine xv_cne (pc := 56) (fr_get fo_183_2 2 rfl) (t := 68) rfl (fun c => ?_) (fun c => ?_)
              · replace h := h.1 c
                refine ex_bipush (pc := 68) (fr_get fo_183_2 8 rfl) bp_m13 ?_
                exact ex_ireturn (pc := 70) (fr_get fo_183_2 9 rfl) rt_183 rfl rfl (ma_end_mk h)
              · replace h := h.2 c
                refine ex_aload_n (pc := 59) (fr_get fo_183_2 3 rfl) rfl rfl ?_
                refine ex_gr (pc := 60) (fr_get fo_183_2 4 rfl) ow_183 fr_9_31_40 (q := (44, 0)) rfl ?_
                refine ex_iload_n (pc := 63) (fr_get fo_183_2 5 rfl) rfl ?_
                refine xv_iald (pc := 64) (fr_get fo_183_2 6 rfl) gk_44 (n := 9) (gn_44 ..) rfl rfl h.1 ?_
                replace h := h.2
                refine ex_goto (pc := 65) (fr_get fo_183_2 7 rfl) (t := 70) rfl ?_
                exact ex_ireturn (pc := 70) (fr_get fo_183_2 9 rfl) rt_183 rfl rfl (ma_end_mk h)
          · replace h := h.2 c
            refine ex_iload_n (pc := 44) (fr_get fo_183_1 10 rfl) rfl ?_
            refine ex_iconst (pc := 45) (fr_get fo_183_1 11 rfl) ic_3 ?_
            refine xv_ceq (pc := 46) (fr_get fo_183_1 12 rfl) (t := 59) rfl (fun c => ?_) (fun c => ?_)
            · replace h := h.1 c
              refine ex_aload_n (pc := 59) (fr_get fo_183_2 3 rfl) rfl rfl ?_
              refine ex_gr (pc := 60) (fr_get fo_183_2 4 rfl) ow_183 fr_9_31_40 (q := (44, 0)) rfl ?_
              refine ex_iload_n (pc := 63) (fr_get fo_183_2 5 rfl) rfl ?_
              refine xv_iald (pc := 64) (fr_get fo_183_2 6 rfl) gk_44 (n := 9) (gn_44 ..) rfl rfl h.1 ?_
              replace h := h.2
              refine ex_goto (pc := 65) (fr_get fo_183_2 7 rfl) (t := 70) rfl ?_
              exact ex_ireturn (pc := 70) (fr_get fo_183_2 9 rfl) rt_183 rfl rfl (ma_end_mk h)
            · replace h := h.2 c
              refine ex_iload_n (pc := 49) (fr_get fo_183_1 13 rfl) rfl ?_
              refine ex_iconst (pc := 50) (fr_get fo_183_1 14 rfl) ic_2 ?_
              refine xv_cne (pc := 51) (fr_get fo_183_1 15 rfl) (t := 68) rfl (fun c => ?_) (fun c => ?_)
              · replace h := h.1 c
                refine ex_bipush (pc := 68) (fr_get fo_183_2 8 rfl) bp_m13 ?_
                exact ex_ireturn (pc := 70) (fr_get fo_183_2 9 rfl) rt_183 rfl rfl (ma_end_mk h)
              · replace h := h.2 c
                refine ex_iload_n (pc := 54) (fr_get fo_183_2 0 rfl) rfl ?_
                refine ex_iconst (pc := 55) (fr_get fo_183_2 1 rfl) ic_4 ?_
                refine xv_cne (pc := 56) (fr_get fo_183_2 2 rfl) (t := 68) rfl (fun c => ?_) (fun c => ?_)
                · replace h := h.1 c
                  refine ex_bipush (pc := 68) (fr_get fo_183_2 8 rfl) bp_m13 ?_
                  exact ex_ireturn (pc := 70) (fr_get fo_183_2 9 rfl) rt_183 rfl rfl (ma_end_mk h)
                · replace h := h.2 c
                  refine ex_aload_n (pc := 59) (fr_get fo_183_2 3 rfl) rfl rfl ?_
                  refine ex_gr (pc := 60) (fr_get fo_183_2 4 rfl) ow_183 fr_9_31_40 (q := (44, 0)) rfl ?_
                  refine ex_iload_n (pc := 63) (fr_get fo_183_2 5 rfl) rfl ?_
                  refine xv_iald (pc := 64) (fr_get fo_183_2 6 rfl) gk_44 (n := 9) (gn_44 ..) rfl rfl h.1 ?_
                  replace h := h.2
                  refine ex_goto (pc := 65) (fr_get fo_183_2 7 rfl) (t := 70) rfl ?_
                  exact ex_ireturn (pc := 70) (fr_get fo_183_2 9 rfl) rt_183 rfl rfl (ma_end_mk h)
    · replace h := h.2 c
      refine ex_bipush (pc := 20) (fr_get fo_183_0 11 rfl) bp_m11 ?_
      exact ex_ireturn (pc := 22) (fr_get fo_183_0 12 rfl) rt_183 rfl rfl (ma_end_mk h)
  · replace h := h.2 c
    refine ex_bipush (pc := 9) (fr_get fo_183_0 5 rfl) bp_m2 ?_
    exact ex_ireturn (pc := 11) (fr_get fo_183_0 6 rfl) rt_183 rfl rfl (ma_end_mk h)

theorem e_184 {d : Nat} {I : ma_I} {o : Nat} {Q : ma_Q} {a0 : Int32}
  (h :
    Q (some (.inl ((((((((a0 - ((xv_us9 a0 (1 : Int32)) &&& (1431655765 : Int32))) &&& (858993459 : Int32)) + ((xv_us9 (a0 - ((xv_us9 a0 (1 : Int32)) &&& (1431655765 : Int32))) (2 : Int32)) &&& (858993459 : Int32))) + (xv_us9 (((a0 - ((xv_us9 a0 (1 : Int32)) &&& (1431655765 : Int32))) &&& (858993459 : Int32)) + ((xv_us9 (a0 - ((xv_us9 a0 (1 : Int32)) &&& (1431655765 : Int32))) (2 : Int32)) &&& (858993459 : Int32))) (4 : Int32))) &&& (252645135 : Int32)) + (xv_us9 (((((a0 - ((xv_us9 a0 (1 : Int32)) &&& (1431655765 : Int32))) &&& (858993459 : Int32)) + ((xv_us9 (a0 - ((xv_us9 a0 (1 : Int32)) &&& (1431655765 : Int32))) (2 : Int32)) &&& (858993459 : Int32))) + (xv_us9 (((a0 - ((xv_us9 a0 (1 : Int32)) &&& (1431655765 : Int32))) &&& (858993459 : Int32)) + ((xv_us9 (a0 - ((xv_us9 a0 (1 : Int32)) &&& (1431655765 : Int32))) (2 : Int32)) &&& (858993459 : Int32))) (4 : Int32))) &&& (252645135 : Int32)) (8 : Int32))) + (xv_us9 ((((((a0 - ((xv_us9 a0 (1 : Int32)) &&& (1431655765 : Int32))) &&& (858993459 : Int32)) + ((xv_us9 (a0 - ((xv_us9 a0 (1 : Int32)) &&& (1431655765 : Int32))) (2 : Int32)) &&& (858993459 : Int32))) + (xv_us9 (((a0 - ((xv_us9 a0 (1 : Int32)) &&& (1431655765 : Int32))) &&& (858993459 : Int32)) + ((xv_us9 (a0 - ((xv_us9 a0 (1 : Int32)) &&& (1431655765 : Int32))) (2 : Int32)) &&& (858993459 : Int32))) (4 : Int32))) &&& (252645135 : Int32)) + (xv_us9 (((((a0 - ((xv_us9 a0 (1 : Int32)) &&& (1431655765 : Int32))) &&& (858993459 : Int32)) + ((xv_us9 (a0 - ((xv_us9 a0 (1 : Int32)) &&& (1431655765 : Int32))) (2 : Int32)) &&& (858993459 : Int32))) + (xv_us9 (((a0 - ((xv_us9 a0 (1 : Int32)) &&& (1431655765 : Int32))) &&& (858993459 : Int32)) + ((xv_us9 (a0 - ((xv_us9 a0 (1 : Int32)) &&& (1431655765 : Int32))) (2 : Int32)) &&& (858993459 : Int32))) (4 : Int32))) &&& (252645135 : Int32)) (8 : Int32))) (16 : Int32))) &&& (63 : Int32)))) I o) :
  Exm (d) 184 [.inl a0] I o Q := by
  show Ex (d) 184 (0, [some (.inl a0)], [], ma_mem I o, 0, 0) (ma_end Q)
  refine ex_iload_n (pc := 0) (fr_get fo_184_0 0 rfl) rfl ?_
  refine ex_iload_n (pc := 1) (fr_get fo_184_0 1 rfl) rfl ?_
  refine ex_iconst (pc := 2) (fr_get fo_184_0 2 rfl) ic_1 ?_
  refine xv_iushr (pc := 3) (fr_get fo_184_0 3 rfl) ?_
  refine ex_ldcw (pc := 4) (fr_get fo_184_0 4 rfl) ow_184 kt_11_265 ?_
  refine ex_iand (pc := 7) (fr_get fo_184_0 5 rfl) ?_
  refine ex_isub (pc := 8) (fr_get fo_184_0 6 rfl) ?_
  refine ex_istore_n (pc := 9) (fr_get fo_184_0 7 rfl) rfl (L' := [some (.inl (a0 - ((xv_us9 a0 (1 : Int32)) &&& (1431655765 : Int32))))]) rfl ?_
  refine ex_iload_n (pc := 10) (fr_get fo_184_0 8 rfl) rfl ?_
  refine ex_ldcw (pc := 11) (fr_get fo_184_0 9 rfl) ow_184 kt_11_266 ?_
  refine ex_iand (pc := 14) (fr_get fo_184_0 10 rfl) ?_
  refine ex_iload_n (pc := 15) (fr_get fo_184_0 11 rfl) rfl ?_
  refine ex_iconst (pc := 16) (fr_get fo_184_0 12 rfl) ic_2 ?_
  refine xv_iushr (pc := 17) (fr_get fo_184_0 13 rfl) ?_
  refine ex_ldcw (pc := 18) (fr_get fo_184_0 14 rfl) ow_184 kt_11_266 ?_
  refine ex_iand (pc := 21) (fr_get fo_184_0 15 rfl) ?_
  refine ex_iadd (pc := 22) (fr_get fo_184_1 0 rfl) ?_
  refine ex_istore_n (pc := 23) (fr_get fo_184_1 1 rfl) rfl (L' := [some (.inl (((a0 - ((xv_us9 a0 (1 : Int32)) &&& (1431655765 : Int32))) &&& (858993459 : Int32)) + ((xv_us9 (a0 - ((xv_us9 a0 (1 : Int32)) &&& (1431655765 : Int32))) (2 : Int32)) &&& (858993459 : Int32))))]) rfl ?_
  refine ex_iload_n (pc := 24) (fr_get fo_184_1 2 rfl) rfl ?_
  refine ex_iload_n (pc := 25) (fr_get fo_184_1 3 rfl) rfl ?_
  refine ex_iconst (pc := 26) (fr_get fo_184_1 4 rfl) ic_4 ?_
  refine xv_iushr (pc := 27) (fr_get fo_184_1 5 rfl) ?_
  refine ex_iadd (pc := 28) (fr_get fo_184_1 6 rfl) ?_
  refine ex_ldcw (pc := 29) (fr_get fo_184_1 7 rfl) ow_184 kt_11_267 ?_
  refine ex_iand (pc := 32) (fr_get fo_184_1 8 rfl) ?_
  refine ex_istore_n (pc := 33) (fr_get fo_184_1 9 rfl) rfl (L' := [some (.inl (((((a0 - ((xv_us9 a0 (1 : Int32)) &&& (1431655765 : Int32))) &&& (858993459 : Int32)) + ((xv_us9 (a0 - ((xv_us9 a0 (1 : Int32)) &&& (1431655765 : Int32))) (2 : Int32)) &&& (858993459 : Int32))) + (xv_us9 (((a0 - ((xv_us9 a0 (1 : Int32)) &&& (1431655765 : Int32))) &&& (858993459 : Int32)) + ((xv_us9 (a0 - ((xv_us9 a0 (1 : Int32)) &&& (1431655765 : Int32))) (2 : Int32)) &&& (858993459 : Int32))) (4 : Int32))) &&& (252645135 : Int32)))]) rfl ?_
  refine ex_iload_n (pc := 34) (fr_get fo_184_1 10 rfl) rfl ?_
  refine ex_iload_n (pc := 35) (fr_get fo_184_1 11 rfl) rfl ?_
  refine ex_bipush (pc := 36) (fr_get fo_184_1 12 rfl) bp_8 ?_
  refine xv_iushr (pc := 38) (fr_get fo_184_1 13 rfl) ?_
  refine ex_iadd (pc := 39) (fr_get fo_184_1 14 rfl) ?_
  refine ex_istore_n (pc := 40) (fr_get fo_184_1 15 rfl) rfl (L' := [some (.inl ((((((a0 - ((xv_us9 a0 (1 : Int32)) &&& (1431655765 : Int32))) &&& (858993459 : Int32)) + ((xv_us9 (a0 - ((xv_us9 a0 (1 : Int32)) &&& (1431655765 : Int32))) (2 : Int32)) &&& (858993459 : Int32))) + (xv_us9 (((a0 - ((xv_us9 a0 (1 : Int32)) &&& (1431655765 : Int32))) &&& (858993459 : Int32)) + ((xv_us9 (a0 - ((xv_us9 a0 (1 : Int32)) &&& (1431655765 : Int32))) (2 : Int32)) &&& (858993459 : Int32))) (4 : Int32))) &&& (252645135 : Int32)) + (xv_us9 (((((a0 - ((xv_us9 a0 (1 : Int32)) &&& (1431655765 : Int32))) &&& (858993459 : Int32)) + ((xv_us9 (a0 - ((xv_us9 a0 (1 : Int32)) &&& (1431655765 : Int32))) (2 : Int32)) &&& (858993459 : Int32))) + (xv_us9 (((a0 - ((xv_us9 a0 (1 : Int32)) &&& (1431655765 : Int32))) &&& (858993459 : Int32)) + ((xv_us9 (a0 - ((xv_us9 a0 (1 : Int32)) &&& (1431655765 : Int32))) (2 : Int32)) &&& (858993459 : Int32))) (4 : Int32))) &&& (252645135 : Int32)) (8 : Int32))))]) rfl ?_
  refine ex_iload_n (pc := 41) (fr_get fo_184_2 0 rfl) rfl ?_
  refine ex_iload_n (pc := 42) (fr_get fo_184_2 1 rfl) rfl ?_
  refine ex_bipush (pc := 43) (fr_get fo_184_2 2 rfl) bp_16 ?_
  refine xv_iushr (pc := 45) (fr_get fo_184_2 3 rfl) ?_
  refine ex_iadd (pc := 46) (fr_get fo_184_2 4 rfl) ?_
  refine ex_istore_n (pc := 47) (fr_get fo_184_2 5 rfl) rfl (L' := [some (.inl (((((((a0 - ((xv_us9 a0 (1 : Int32)) &&& (1431655765 : Int32))) &&& (858993459 : Int32)) + ((xv_us9 (a0 - ((xv_us9 a0 (1 : Int32)) &&& (1431655765 : Int32))) (2 : Int32)) &&& (858993459 : Int32))) + (xv_us9 (((a0 - ((xv_us9 a0 (1 : Int32)) &&& (1431655765 : Int32))) &&& (858993459 : Int32)) + ((xv_us9 (a0 - ((xv_us9 a0 (1 : Int32)) &&& (1431655765 : Int32))) (2 : Int32)) &&& (858993459 : Int32))) (4 : Int32))) &&& (252645135 : Int32)) + (xv_us9 (((((a0 - ((xv_us9 a0 (1 : Int32)) &&& (1431655765 : Int32))) &&& (858993459 : Int32)) + ((xv_us9 (a0 - ((xv_us9 a0 (1 : Int32)) &&& (1431655765 : Int32))) (2 : Int32)) &&& (858993459 : Int32))) + (xv_us9 (((a0 - ((xv_us9 a0 (1 : Int32)) &&& (1431655765 : Int32))) &&& (858993459 : Int32)) + ((xv_us9 (a0 - ((xv_us9 a0 (1 : Int32)) &&& (1431655765 : Int32))) (2 : Int32)) &&& (858993459 : Int32))) (4 : Int32))) &&& (252645135 : Int32)) (8 : Int32))) + (xv_us9 ((((((a0 - ((xv_us9 a0 (1 : Int32)) &&& (1431655765 : Int32))) &&& (858993459 : Int32)) + ((xv_us9 (a0 - ((xv_us9 a0 (1 : Int32)) &&& (1431655765 : Int32))) (2 : Int32)) &&& (858993459 : Int32))) + (xv_us9 (((a0 - ((xv_us9 a0 (1 : Int32)) &&& (1431655765 : Int32))) &&& (858993459 : Int32)) + ((xv_us9 (a0 - ((xv_us9 a0 (1 : Int32)) &&& (1431655765 : Int32))) (2 : Int32)) &&& (858993459 : Int32))) (4 : Int32))) &&& (252645135 : Int32)) + (xv_us9 (((((a0 - ((xv_us9 a0 (1 : Int32)) &&& (1431655765 : Int32))) &&& (858993459 : Int32)) + ((xv_us9 (a0 - ((xv_us9 a0 (1 : Int32)) &&& (1431655765 : Int32))) (2 : Int32)) &&& (858993459 : Int32))) + (xv_us9 (((a0 - ((xv_us9 a0 (1 : Int32)) &&& (1431655765 : Int32))) &&& (858993459 : Int32)) + ((xv_us9 (a0 - ((xv_us9 a0 (1 : Int32)) &&& (1431655765 : Int32))) (2 : Int32)) &&& (858993459 : Int32))) (4 : Int32))) &&& (252645135 : Int32)) (8 : Int32))) (16 : Int32))))]) rfl ?_
  refine ex_iload_n (pc := 48) (fr_get fo_184_2 6 rfl) rfl ?_
  refine ex_bipush (pc := 49) (fr_get fo_184_2 7 rfl) bp_63 ?_
  refine ex_iand (pc := 51) (fr_get fo_184_2 8 rfl) ?_
  exact ex_ireturn (pc := 52) (fr_get fo_184_2 9 rfl) rt_184 rfl rfl (ma_end_mk h)

theorem e_185 {d : Nat} {I : ma_I} {o : Nat} {Q : ma_Q} {q0 : Nat}
  (h :
    Exm (d) 187 [.inr (.inr (2, q0))] I o (fun r J1 p2 => ∃ x3 : Int32, r = some (.inl x3) ∧
      Q (some (.inl ((Int32.ofNat ((mt_sb.getD q0 []).length)) >>> (x3 &&& 31)))) J1 p2)) :
  Exm (d + 1) 185 [.inr (.inr (2, q0))] I o Q := by
  show Ex (d + 1) 185 (0, [some (.inr (.inr (2, q0)))], [], ma_mem I o, 0, 0) (ma_end Q)
  refine ex_aload_n (pc := 0) (fr_get fo_185_0 0 rfl) rfl rfl ?_
  refine ex_gsv (pc := 1) (fr_get fo_185_0 1 rfl) ow_185 fs_13_9 ?_
  refine ex_arraylength (pc := 4) (fr_get fo_185_0 2 rfl) gz_3 (n := (mt_sb.getD q0 []).length) rfl ?_
  refine ex_aload_n (pc := 5) (fr_get fo_185_0 3 rfl) rfl rfl ?_
  refine xv_kv1 (pc := 6) (fr_get fo_185_0 4 rfl) cc_185_335 (as := [.inr (.inr (2, q0))]) (rs := [.inl (Int32.ofNat ((mt_sb.getD q0 []).length))]) rfl rfl rfl rfl rfl ?_
  refine h.mono (fun r J1 p2 h => ?_)
  obtain ⟨x3, hr, h⟩ := h
  refine ⟨x3, hr, ?_⟩
  refine ex_ishr (pc := 9) (fr_get fo_185_0 5 rfl) ?_
  exact ex_ireturn (pc := 10) (fr_get fo_185_0 6 rfl) rt_185 rfl rfl (ma_end_mk h)

theorem e_186 {d : Nat} {I : ma_I} {o : Nat} {Q : ma_Q} {q0 : Nat} {a1 : Int32}
  (h :
    Exm (d) 188 [.inr (.inr (2, q0))] I o (fun r J1 p2 => ∃ x3 : Int32, r = some (.inl x3) ∧
      (x3 = 0 →
        False) ∧
      (x3 ≠ 0 →
        Exm (d) 190 [.inr (.inr (3, q0)), .inl a1] J1 p2 (fun r J4 p5 => ∃ x6 : Int32, r = some (.inl x6) ∧
          x6 = (Int32.toUInt32 x6 % 65536).toInt32 ∧ Q (some (.inl x6)) J4 p5)))) :
  Exm (d + 1) 186 [.inr (.inr (2, q0)), .inl a1] I o Q := by
  show Ex (d + 1) 186 (0, [some (.inr (.inr (2, q0))), some (.inl a1)], [], ma_mem I o, 0, 0) (ma_end Q)
  refine ex_aload_n (pc := 0) (fr_get fo_186_0 0 rfl) rfl rfl ?_
  refine xv_kv1 (pc := 1) (fr_get fo_186_0 1 rfl) cc_186_492 (as := [.inr (.inr (2, q0))]) (rs := []) rfl rfl rfl rfl rfl ?_
  refine h.mono (fun r J1 p2 h => ?_)
  obtain ⟨x3, hr, h⟩ := h
  refine ⟨x3, hr, ?_⟩
  refine xv_beq (pc := 4) (fr_get fo_186_0 2 rfl) (t := 16) rfl (fun c => ?_) (fun c => ?_)
  · replace h := h.1 c
    refine ex_aload_n (pc := 16) (fr_get fo_186_0 8 rfl) rfl rfl ?_
    refine ex_gsv (pc := 17) (fr_get fo_186_0 9 rfl) ow_186 fs_13_9 ?_
    refine ex_iload_n (pc := 20) (fr_get fo_186_0 10 rfl) rfl ?_
    exact h.elim
  · replace h := h.2 c
    refine ex_aload_n (pc := 7) (fr_get fo_186_0 3 rfl) rfl rfl ?_
    refine ex_gsv (pc := 8) (fr_get fo_186_0 4 rfl) ow_186 fs_13_9 ?_
    refine ex_iload_n (pc := 11) (fr_get fo_186_0 5 rfl) rfl ?_
    refine xv_ks1 (pc := 12) (fr_get fo_186_0 6 rfl) cc_186_495 (as := [.inr (.inr (3, q0)), .inl a1]) (rs := []) rfl rfl rfl rfl ?_
    refine h.mono (fun r J4 p5 h => ?_)
    obtain ⟨x6, hr, h⟩ := h
    refine ⟨x6, hr, ?_⟩
    exact ex_creturn (pc := 15) (fr_get fo_186_0 7 rfl) rt_186 rfl rfl ⟨h.1, ma_end_mk h.2⟩

theorem e_187 {d : Nat} {I : ma_I} {o : Nat} {Q : ma_Q} {q0 : Nat}
  (h :
    (Int32.toInt8 (0 : Int32)).toInt32 = (0 : Int32) ∧ Q (some (.inl (0 : Int32))) I o) :
  Exm (d) 187 [.inr (.inr (2, q0))] I o Q := by
  show Ex (d) 187 (0, [some (.inr (.inr (2, q0)))], [], ma_mem I o, 0, 0) (ma_end Q)
  refine ex_getc (pc := 0) (fr_get fo_187_0 0 rfl) ow_187 ?_
  refine xv_bf (pc := 3) (fr_get fo_187_0 1 rfl) (t := 13) rfl k1_eq_1 ?_
  refine ex_aload_n (pc := 6) (fr_get fo_187_0 2 rfl) rfl rfl ?_
  refine ex_gsc (pc := 7) (fr_get fo_187_0 3 rfl) ow_187 fs_13_15 ?_
  refine ex_goto (pc := 10) (fr_get fo_187_0 4 rfl) (t := 14) rfl ?_
  exact ex_breturn (pc := 14) (fr_get fo_187_0 6 rfl) rt_187 rfl rfl ⟨h.1, ma_end_mk h.2⟩

theorem e_188 {d : Nat} {I : ma_I} {o : Nat} {Q : ma_Q} {q0 : Nat}
  (h :
    Q (some (.inl (1 : Int32))) I o) :
  Exm (d) 188 [.inr (.inr (2, q0))] I o Q := by
  show Ex (d) 188 (0, [some (.inr (.inr (2, q0)))], [], ma_mem I o, 0, 0) (ma_end Q)
  refine ex_getc (pc := 0) (fr_get fo_188_0 0 rfl) ow_188 ?_
  refine xv_bf (pc := 3) (fr_get fo_188_0 1 rfl) (t := 17) rfl k1_eq_1 ?_
  refine ex_aload_n (pc := 6) (fr_get fo_188_0 2 rfl) rfl rfl ?_
  refine ex_gsc (pc := 7) (fr_get fo_188_0 3 rfl) ow_188 fs_13_15 ?_
  refine xv_bf (pc := 10) (fr_get fo_188_0 4 rfl) (t := 17) rfl k1_ne_0 ?_
  refine ex_iconst (pc := 13) (fr_get fo_188_0 5 rfl) ic_1 ?_
  refine ex_goto (pc := 14) (fr_get fo_188_0 6 rfl) (t := 18) rfl ?_
  exact ex_zreturn (pc := 18) (fr_get fo_188_0 8 rfl) rt_188 rfl rfl ⟨Or.inr rfl, ma_end_mk h⟩

theorem e_189 {d : Nat} {I : ma_I} {o : Nat} {Q : ma_Q} {a0 : Int32} {a1 : Int32}
  (h :
    Exm (d) 191 [.inl a0, .inl a1, .inr (.inr (4, 0))] I o (fun r J1 p2 => ∃ x3 : Int32, r = some (.inl x3) ∧
      Q none J1 p2)) :
  Exm (d + 1) 189 [.inl a0, .inl a1] I o Q := by
  show Ex (d + 1) 189 (0, [some (.inl a0), some (.inl a1)], [], ma_mem I o, 0, 0) (ma_end Q)
  refine ex_iload_n (pc := 0) (fr_get fo_189_0 0 rfl) rfl ?_
  refine ex_iload_n (pc := 1) (fr_get fo_189_0 1 rfl) rfl ?_
  refine xv_gfm (pc := 2) (fr_get fo_189_0 2 rfl) ow_189 ?_
  refine xv_ks1 (pc := 5) (fr_get fo_189_0 3 rfl) cc_189_1059 (as := [.inl a0, .inl a1, .inr (.inr (4, 0))]) (rs := []) rfl rfl rfl rfl ?_
  refine h.mono (fun r J1 p2 h => ?_)
  obtain ⟨x3, hr, h⟩ := h
  refine ⟨x3, hr, ?_⟩
  refine ex_pop (pc := 8) (fr_get fo_189_0 4 rfl) ?_
  exact ex_return (pc := 9) (fr_get fo_189_0 5 rfl) rt_189 rfl rfl (ma_end_mk h)

theorem e_190_3 {d : Nat} {I : ma_I} {o : Nat} {Q : ma_Q} {q0 : Nat} {a1 : Int32}
  (h :
    Exm (d) 189 [.inl a1, .inl (Int32.ofNat ((mt_sb.getD q0 []).length))] I o (fun r J1 p2 => r = none ∧
      ma_in a1 ((mt_sb.getD q0 []).length) ∧
      (Int32.toUInt32 ((J1 3 q0 a1.toNatClampNeg) &&& (255 : Int32)) % 65536).toInt32 = (Int32.toUInt32 ((Int32.toUInt32 ((J1 3 q0 a1.toNatClampNeg) &&& (255 : Int32)) % 65536).toInt32) % 65536).toInt32 ∧ Q (some (.inl ((Int32.toUInt32 ((J1 3 q0 a1.toNatClampNeg) &&& (255 : Int32)) % 65536).toInt32))) J1 p2)) :
  Exm (d + 1) 190 [.inr (.inr (3, q0)), .inl a1] I o Q := by
  show Ex (d + 1) 190 (0, [some (.inr (.inr (3, q0))), some (.inl a1)], [], ma_mem I o, 0, 0) (ma_end Q)
  refine ex_iload_n (pc := 0) (fr_get fo_190_0 0 rfl) rfl ?_
  refine ex_aload_n (pc := 1) (fr_get fo_190_0 1 rfl) rfl rfl ?_
  refine ex_arraylength (pc := 2) (fr_get fo_190_0 2 rfl) gz_3 (n := (mt_sb.getD q0 []).length) rfl ?_
  refine xv_ks0 (pc := 3) (fr_get fo_190_0 3 rfl) cc_190_9 (as := [.inl a1, .inl (Int32.ofNat ((mt_sb.getD q0 []).length))]) (rs := []) rfl rfl rfl rfl ?_
  refine h.mono (fun r J1 p2 h => ⟨h.1, ?_⟩)
  replace h := h.2
  refine ex_aload_n (pc := 6) (fr_get fo_190_0 4 rfl) rfl rfl ?_
  refine ex_iload_n (pc := 7) (fr_get fo_190_0 5 rfl) rfl ?_
  refine xv_bald (pc := 8) (fr_get fo_190_0 6 rfl) gb_3 (n := (mt_sb.getD q0 []).length) rfl rfl rfl h.1 ?_
  replace h := h.2
  refine ex_sipush (pc := 9) (fr_get fo_190_0 7 rfl) sp_255 ?_
  refine ex_iand (pc := 12) (fr_get fo_190_0 8 rfl) ?_
  refine ex_i2c (pc := 13) (fr_get fo_190_0 9 rfl) ?_
  exact ex_creturn (pc := 14) (fr_get fo_190_0 10 rfl) rt_190 rfl rfl ⟨h.1, ma_end_mk h.2⟩

theorem e_191_4 {d : Nat} {I : ma_I} {o : Nat} {Q : ma_Q} {a0 : Int32} {a1 : Int32}
  (h :
    (a0 < 0 →
      False) ∧
    (0 ≤ a0 →
      (a0 < a1 →
        Q (some (.inl a0)) I o) ∧
      (a1 ≤ a0 →
        False))) :
  Exm (d) 191 [.inl a0, .inl a1, .inr (.inr (4, 0))] I o Q := by
  show Ex (d) 191 (0, [some (.inl a0), some (.inl a1), some (.inr (.inr (4, 0)))], [], ma_mem I o, 0, 0) (ma_end Q)
  refine ex_iload_n (pc := 0) (fr_get fo_191_0 0 rfl) rfl ?_
  refine xv_blt (pc := 1) (fr_get fo_191_0 1 rfl) (t := 9) rfl (fun c => ?_) (fun c => ?_)
  · replace h := h.1 c
    exact h.elim
  · replace h := h.2 c
    refine ex_iload_n (pc := 4) (fr_get fo_191_0 2 rfl) rfl ?_
    refine ex_iload_n (pc := 5) (fr_get fo_191_0 3 rfl) rfl ?_
    refine xv_clt (pc := 6) (fr_get fo_191_0 4 rfl) (t := 16) rfl (fun c => ?_) (fun c => ?_)
    · replace h := h.1 c
      refine ex_iload_n (pc := 16) (fr_get fo_191_0 10 rfl) rfl ?_
      exact ex_ireturn (pc := 17) (fr_get fo_191_0 11 rfl) rt_191 rfl rfl (ma_end_mk h)
    · replace h := h.2 c
      exact h.elim

/-! ===== every instruction; the induction ===== -/
section SDI
variable {p : Program} {l : Launch} {e : Env} {R : Room} {s : State} {m : MethodId} {args : Array Value} {below : List Frame} {meth : Method} {cd : Code} {H H' H1 : Heap} {locs : List Loc} {Q : State → Prop}
variable {s0 : State} {a0 : Array Value} {dC : Nat → ClassId} {dI : Nat → Nat → Nat} {adK adV : Nat → Nat} {ov : Value} {A A' : Nat → Nat → Nat} {M M' : ma_M} {L : List (Option ma_V)} {st : List ma_V} {ls : Array Slot} {pc a b y : Nat}
variable {al : List (Bool × ma_C)} {df : Option ma_C} {cc : ByteArray}
/-- a call of the machine that is none of the JVM's frames: Object's constructor, arraycopy, max and min -/
theorem sd_calln (F : sd_F p s m meth cd y s0) (Z : sd_Z s0 a0 dC dI adK adV ov) (hov : ov.category = 1) {d : Nat} (hR : sd_R R d y) (B : sd_B s0 dC dI adK adV ov (mt_ml.getD y 0) A M L st H locs ls) {idx : Nat} {ks : List Nat} (hs : ma_call pc L st M a b y (mt_own.getD y 0) idx ks = .inl (al, df)) (hP : ma_sel (sd_P p l e R s m args below meth cd Q s0 dC dI adK adV ov (mt_ml.getD y 0) A M) False df al)
    (hd : (7 ∈ ks ∧ 6 ∉ ks ∧ decode (mt_code.getD y ⟨#[]⟩) pc = .ok (.invokestatic idx, 3)) ∨ (6 ∈ ks ∧ 7 ∉ ks ∧ 8 ∉ ks ∧ 9 ∉ ks ∧ decode (mt_code.getD y ⟨#[]⟩) pc = .ok (.invokespecial idx, 3)) ∨ (6 ∉ ks ∧ 7 ∉ ks ∧ 8 ∉ ks ∧ 9 ∉ ks)) : W p l e R s m args below meth cd H locs a b Q (F0 m pc ls (st.map (sd_v A ov))) := by
  have F' := F
  obtain ⟨hx, hb, hml, hown, -, hW⟩ := F
  have hRf : 1 ≤ R.frames ∧ 64 ≤ R.locals := ⟨by have := hR.1; omega, by have := hR.2.1; omega⟩
  unfold ma_call at hs
  split at hs
  · rename_i z kd pos hf
    have hcw := sd_ct hf
    cases h1 : ks.contains kd with
    | false =>
      rw [h1] at hs
      simp only [Bool.not_false, cond_true] at hs
      unfold ma_no at hs
      cases hs
      exact hP.elim
    | true =>
      rw [h1] at hs
      have hmem : kd ∈ ks := by simpa using h1
      simp only [Bool.not_true, cond_false] at hs
      cases h7 : Nat.beq kd 7 with
      | true =>
        rw [h7] at hs
        have e7 := Nat.eq_of_beq_eq_true h7
        subst e7
        rcases hd with ⟨-, -, hd⟩ | ⟨-, hn, -⟩ | ⟨-, hn, -⟩
        · exact sd_acp F' Z hov rfl hRf B hs hP hcw hd
        · exact absurd hmem hn
        · exact absurd hmem hn
      | false =>
        rw [h7] at hs
        simp only [cond_false] at hs
        cases h8 : Nat.beq kd 8 with
        | true =>
          rw [h8] at hs
          simp only [cond_true] at hs
          have e8 := Nat.eq_of_beq_eq_true h8
          subst e8
          split at hs
          · rename_i w x r
            cases hc : (Nat.ble (ma_cat r) 8 && Nat.ble a (mt_mc.getD y (0, 0)).1 && Nat.ble b (mt_mc.getD y (0, 0)).2) with
            | false =>
              rw [hc] at hs
              unfold ma_no at hs
              cases hs
              exact hP.elim
            | true =>
              rw [hc] at hs
              unfold ma_nx at hs
              cases hs
              rw [Bool.and_eq_true, Bool.and_eq_true] at hc
              have hcat := Nat.le_of_ble_eq_true hc.1.1
              have hca := Nat.le_of_ble_eq_true hc.1.2
              have hcb := Nat.le_of_ble_eq_true hc.2
              have hcs := sd_catsum (A := A) hov r
              rcases hd with ⟨-, -, hd⟩ | ⟨-, -, hn, -⟩ | ⟨-, -, hn, -⟩
              · exact va_mmax hx hb (by rw [hml]; exact B.2.1.2.1.symm) hown (sd_word Z hW hcw (Or.inl rfl)) (sd_word Z hW (mt_w_mem ck_mx1) (Or.inl rfl)) (sd_word Z hW (mt_w_mem ck_mx3) (Or.inl rfl)) (sd_word Z hW (mt_w_mem ck_mx2) (Or.inl rfl)) hRf.1 (by rw [hcs]; omega) (by have := hR.2.2.1; omega) (by have := hR.2.2.2; omega) hd (sd_nx B hP (sd_vs.cons trivial B.2.2.1.tail.tail))
              · exact absurd hmem hn
              · exact absurd hmem hn
          · unfold ma_no at hs
            cases hs
            exact hP.elim
        | false =>
          rw [h8] at hs
          simp only [cond_false] at hs
          cases h9 : Nat.beq kd 9 with
          | true =>
            rw [h9] at hs
            simp only [cond_true] at hs
            have e9 := Nat.eq_of_beq_eq_true h9
            subst e9
            split at hs
            · rename_i w x r
              cases hc : (Nat.ble (ma_cat r) 8 && Nat.ble a (mt_mc.getD y (0, 0)).1 && Nat.ble b (mt_mc.getD y (0, 0)).2) with
              | false =>
                rw [hc] at hs
                unfold ma_no at hs
                cases hs
                exact hP.elim
              | true =>
                rw [hc] at hs
                unfold ma_nx at hs
                cases hs
                rw [Bool.and_eq_true, Bool.and_eq_true] at hc
                have hcat := Nat.le_of_ble_eq_true hc.1.1
                have hca := Nat.le_of_ble_eq_true hc.1.2
                have hcb := Nat.le_of_ble_eq_true hc.2
                have hcs := sd_catsum (A := A) hov r
                rcases hd with ⟨-, -, hd⟩ | ⟨-, -, -, hn, -⟩ | ⟨-, -, -, hn⟩
                · exact va_mmin hx hb (by rw [hml]; exact B.2.1.2.1.symm) hown (sd_word Z hW hcw (Or.inl rfl)) (sd_word Z hW (mt_w_mem ck_mi1) (Or.inl rfl)) (sd_word Z hW (mt_w_mem ck_mx3) (Or.inl rfl)) (sd_word Z hW (mt_w_mem ck_mi2) (Or.inl rfl)) hRf.1 (by rw [hcs]; omega) (by have := hR.2.2.1; omega) (by have := hR.2.2.2; omega) hd (sd_nx B hP (sd_vs.cons trivial B.2.2.1.tail.tail))
                · exact absurd hmem hn
                · exact absurd hmem hn
            · unfold ma_no at hs
              cases hs
              exact hP.elim
          | false =>
            rw [h9] at hs
            simp only [cond_false] at hs
            cases h6 : Nat.beq kd 6 with
            | true =>
              rw [h6] at hs
              simp only [cond_true] at hs
              have e6 := Nat.eq_of_beq_eq_true h6
              subst e6
              split at hs
              · rename_i q r
                cases hc : (ma_nn q && Nat.ble (ma_cat r) 8) with
                | false =>
                  rw [hc] at hs
                  unfold ma_no at hs
                  cases hs
                  exact hP.elim
                | true =>
                  rw [hc] at hs
                  unfold ma_nx at hs
                  cases hs
                  rw [Bool.and_eq_true] at hc
                  have hcat := Nat.le_of_ble_eq_true hc.2
                  have hcs := sd_catsum (A := A) hov r
                  have hq : sd_v A ov (.inr (.inr q)) = .ref (A q.1 q.2) := (sd_r_nn (A := A) (ov := ov) hc.1).1
                  rcases hd with ⟨-, hn, -⟩ | ⟨-, -, -, -, hd⟩ | ⟨hn, -⟩
                  · exact absurd hmem hn
                  · rw [List.map_cons, hq]
                    exact W.objInit hx hb hown (sd_word Z hW hcw (Or.inl rfl)) (sd_word Z hW (mt_w_mem ck_oi1) (Or.inl rfl)) (sd_word Z hW (mt_w_mem ck_oi2) (Or.inl rfl)) rfl (by rw [hml]; exact B.2.1.2.1) rfl hd hRf.1 (by show 2 * 0 + _ + 12 ≤ _; rw [hcs]; omega) (sd_nx B hP B.2.2.1.tail)
                  · exact absurd hmem hn
              · unfold ma_no at hs
                cases hs
                exact hP.elim
            | false =>
              rw [h6] at hs
              simp only [cond_false] at hs
              cases hg : (Nat.ble (mt_na.getD z 0) st.length && Nat.ble (ma_args (st.take (mt_na.getD z 0)).reverse).length (mt_ml.getD z 0) && Nat.ble (ma_cat (st.drop (mt_na.getD z 0))) 8 && (Nat.blt kd 2 || ma_rc z (st.take (mt_na.getD z 0)).reverse) && Nat.ble (a + (mt_mc.getD z (0, 0)).1) (mt_mc.getD y (0, 0)).1 && Nat.ble (b + (mt_mc.getD z (0, 0)).2) (mt_mc.getD y (0, 0)).2) with
              | true => rw [hg] at hs; cases hs
              | false =>
                rw [hg] at hs
                unfold ma_no at hs
                cases hs
                exact hP.elim
  · unfold ma_no at hs
    cases hs
    exact hP.elim
theorem sd_il {i : Instr} {n k : Nat} (h : ma_il i n = true) (e : ma_il i n = Nat.beq n k) : n = k := Nat.eq_of_beq_eq_true (e ▸ h)
set_option maxHeartbeats 4000000 in
set_option maxRecDepth 100000 in
theorem sd_one (F : sd_F p s m meth cd y s0) (Z : sd_Z s0 a0 dC dI adK adV ov) (hov : ov.category = 1) {d : Nat} (hR : sd_R R d y) (B : sd_B s0 dC dI adK adV ov (mt_ml.getD y 0) A M L st H locs ls) {i : Instr} {n : Nat} (hf : ma_find pc (mt_prog.getD y []) = some (i, n)) (hd : decode (mt_code.getD y ⟨#[]⟩) pc = .ok (i, n)) (hil : ma_il i n = true) (hs : ma_do pc L st M a b y i = .inl (al, df)) (hP : ma_sel (sd_P p l e R s m args below meth cd Q s0 dC dI adK adV ov (mt_ml.getD y 0) A M) False df al) : W p l e R s m args below meth cd H locs a b Q (F0 m pc ls (st.map (sd_v A ov))) := by
  have F' := F
  obtain ⟨hx, hb, hml, hown, -, hW⟩ := F
  have no : ma_no = .inl (al, df) → W p l e R s m args below meth cd H locs a b Q (F0 m pc ls (st.map (sd_v A ov))) := by
    intro h
    unfold ma_no at h
    cases h
    exact hP.elim
  have hret : ∀ k : Nat, ma_ret st M y k = .inl (al, df) → W p l e R s m args below meth cd H locs a b Q (F0 m pc ls (st.map (sd_v A ov))) := by
    intro k h
    unfold ma_ret at h
    split at h
    · cases h
    · cases h
    · cases h
    · cases h
    · exact no h
  have hRc := hR.2.2
  cases i
  case iload_n k => have := sd_il hil rfl; subst this; exact sd_ldi B hs hP (fun x h kk => lv_iload_n hx hb hd rfl h kk)
  case iload k => have := sd_il hil rfl; subst this; exact sd_ldi B hs hP (fun x h kk => lv_iload hx hb hd h kk)
  case lload_n k => have := sd_il hil rfl; subst this; exact sd_ldl B hs hP (fun x h kk => lv_lload_n hx hb hd rfl h kk)
  case lload k => have := sd_il hil rfl; subst this; exact sd_ldl B hs hP (fun x h kk => lv_lload hx hb hd h kk)
  case aload_n k => have := sd_il hil rfl; subst this; exact sd_lda B hs hP (fun x h kk => lv_aload_n hx hb hd rfl h kk)
  case aload k => have := sd_il hil rfl; subst this; exact sd_lda B hs hP (fun x h kk => lv_aload hx hb hd h kk)
  case istore_n k => have := sd_il hil rfl; subst this; exact sd_sti hov B hs hP (fun x r h kk => lv_istore_n hx hb hd rfl B.2.1.2 h rfl kk)
  case istore k => have := sd_il hil rfl; subst this; exact sd_sti hov B hs hP (fun x r h kk => lv_istore hx hb hd B.2.1.2 h rfl kk)
  case lstore_n k => have := sd_il hil rfl; subst this; exact sd_stl hov B hs hP (fun x r h kk => lv_lstore_n hx hb hd rfl B.2.1.2 h rfl kk)
  case lstore k => have := sd_il hil rfl; subst this; exact sd_stl hov B hs hP (fun x r h kk => lv_lstore hx hb hd B.2.1.2 h rfl kk)
  case astore_n k => have := sd_il hil rfl; subst this; exact sd_sta hov B hs hP (fun x r h kk => lv_astore_n hx hb hd rfl B.2.1.2 h rfl kk)
  case astore k => have := sd_il hil rfl; subst this; exact sd_sta hov B hs hP (fun x r h kk => lv_astore hx hb hd B.2.1.2 h rfl kk)
  case iinc k c => have := sd_il hil rfl; subst this; exact sd_inc hx hb hov B hs hP hd
  case iconst c => have := sd_il hil rfl; subst this; cases hs; exact lv_iconst hx hb hd rfl (sd_nx B hP (sd_vs.cons trivial B.2.2.1))
  case bipush c => have := sd_il hil rfl; subst this; cases hs; exact lv_bipush hx hb hd rfl (sd_nx B hP (sd_vs.cons trivial B.2.2.1))
  case sipush c => have := sd_il hil rfl; subst this; cases hs; exact lv_sipush hx hb hd rfl (sd_nx B hP (sd_vs.cons trivial B.2.2.1))
  case lconst c => have := sd_il hil rfl; subst this; cases hs; exact lv_lconst hx hb hd rfl (sd_nx B hP (sd_vs.cons trivial B.2.2.1))
  case ldc k =>
    have := sd_il hil rfl
    subst this
    have hs' : (match ma_fk k (mt_kt.getD (mt_own.getD y 0) []) with
      | some (v, _) => ma_pi pc L st M a b 2 v
      | none => match ma_fk k (mt_st.getD (mt_own.getD y 0) []) with
        | some (q, _) => ma_nx (pc + 2, L, .inr (.inr (2, q)) :: st, M, a, b)
        | none => ma_no) = .inl (al, df) := hs
    split at hs'
    · rename_i v z hk
      cases hs'
      exact lv_ldc hx hb hown (sd_word Z hW (sd_kt hk) (Or.inl rfl)) hd (sd_nx B hP (sd_vs.cons trivial B.2.2.1))
    · split at hs'
      · rename_i q z hk
        cases hs'
        have hm := ma_fk_mem hk
        have h13 := List.all_eq_true.mp (List.all_eq_true.mp ck_st_ok (mt_own.getD y 0) (List.mem_range.mpr (mt_getD_lt hm))) _ hm
        have h13 : q < 13 := Nat.le_of_ble_eq_true h13
        obtain ⟨tx, hR0⟩ := Z.2.2.2.1 (mt_own.getD y 0) _ hm
        have h7 := sd_nx B hP (sd_vs.cons (Or.inr (Or.inr (by show q < M.1 2; rw [B.1.2.2.2.2.2.2.2.2.1]; exact h13))) B.2.2.1)
        rw [List.map_cons, sd_ref (by decide) (by decide), (B.1.2.2.2.2.2.2.1 q h13).1] at h7
        exact va_ldcS hx hb hown (vk_R.warm hW hR0) hd h7
      · exact no hs'
  case ldc_w k =>
    have := sd_il hil rfl
    subst this
    have hs' : (match ma_fk k (mt_kt.getD (mt_own.getD y 0) []) with
      | some (v, _) => ma_pi pc L st M a b 3 v
      | none => ma_no) = .inl (al, df) := hs
    split at hs'
    · rename_i v z hk
      cases hs'
      exact lv_ldcw hx hb hown (sd_word Z hW (sd_kt hk) (Or.inl rfl)) hd (sd_nx B hP (sd_vs.cons trivial B.2.2.1))
    · exact no hs'
  case ldc2_w k =>
    have := sd_il hil rfl
    subst this
    have hs' : (match ma_fk k (mt_lt.getD (mt_own.getD y 0) []) with
      | some (v, _) => ma_pl pc L st M a b 3 v
      | none => ma_no) = .inl (al, df) := hs
    split at hs'
    · rename_i v z hk
      cases hs'
      exact lv_ldc2 hx hb hown (sd_word Z hW (sd_lt hk) (Or.inl rfl)) hd (sd_nx B hP (sd_vs.cons trivial B.2.2.1))
    · exact no hs'
  case iadd => have := sd_il hil rfl; subst this; exact sd_ii B hs hP (fun x y r kk => lv_iadd hx hb hd kk)
  case isub => have := sd_il hil rfl; subst this; exact sd_ii B hs hP (fun x y r kk => lv_isub hx hb hd kk)
  case imul => have := sd_il hil rfl; subst this; exact sd_ii B hs hP (fun x y r kk => lv_imul hx hb hd kk)
  case iand => have := sd_il hil rfl; subst this; exact sd_ii B hs hP (fun x y r kk => lv_iand hx hb hd kk)
  case ior => have := sd_il hil rfl; subst this; exact sd_ii B hs hP (fun x y r kk => lv_ior hx hb hd kk)
  case ixor => have := sd_il hil rfl; subst this; exact sd_ii B hs hP (fun x y r kk => lv_ixor hx hb hd kk)
  case ishl => have := sd_il hil rfl; subst this; exact sd_ii B hs hP (fun x y r kk => lv_ishl hx hb hd kk)
  case ishr => have := sd_il hil rfl; subst this; exact sd_ii B hs hP (fun x y r kk => lv_ishr hx hb hd kk)
  case iushr => have := sd_il hil rfl; subst this; exact sd_ii B hs hP (fun x y r kk => lv_iushr hx hb hd rfl kk)
  case idiv => have := sd_il hil rfl; subst this; exact sd_iz B hs hP (fun x y r h kk => lv_idiv hx hb hd h kk)
  case irem => have := sd_il hil rfl; subst this; exact sd_iz B hs hP (fun x y r h kk => lv_irem hx hb hd h kk)
  case ineg => have := sd_il hil rfl; subst this; exact sd_i1 B hs hP (fun x r kk => lv_ineg hx hb hd kk)
  case i2b => have := sd_il hil rfl; subst this; exact sd_i1 B hs hP (fun x r kk => lv_i2b hx hb hd rfl kk)
  case i2s => have := sd_il hil rfl; subst this; exact sd_i1 B hs hP (fun x r kk => lv_i2s hx hb hd rfl kk)
  case i2c => have := sd_il hil rfl; subst this; exact sd_i1 B hs hP (fun x r kk => lv_i2c hx hb hd rfl kk)
  case ladd => have := sd_il hil rfl; subst this; exact sd_ll B hs hP (fun x y r kk => lv_ladd hx hb hd kk)
  case lmul => have := sd_il hil rfl; subst this; exact sd_ll B hs hP (fun x y r kk => lv_lmul hx hb hd kk)
  case ldiv => have := sd_il hil rfl; subst this; exact sd_lz B hs hP (fun x y r h kk => lv_ldiv hx hb hd h kk)
  case lrem => have := sd_il hil rfl; subst this; exact sd_lz B hs hP (fun x y r h kk => lv_lrem hx hb hd h kk)
  case lcmp =>
    have := sd_il hil rfl
    subst this
    have hs' : ma_cmp pc L st M a b = .inl (al, df) := hs
    unfold ma_cmp at hs'
    split at hs'
    · cases hs'
      exact W.lcmp hx hb hd (sd_nx B hP (sd_vs.cons trivial B.2.2.1.tail.tail))
    · exact no hs'
  case i2l =>
    have := sd_il hil rfl
    subst this
    have hs' : ma_il2 pc L st M a b = .inl (al, df) := hs
    unfold ma_il2 at hs'
    split at hs'
    · cases hs'
      exact lv_i2l hx hb hd rfl (sd_nx B hP (sd_vs.cons trivial B.2.2.1.tail))
    · exact no hs'
  case l2i =>
    have := sd_il hil rfl
    subst this
    have hs' : ma_li2 pc L st M a b = .inl (al, df) := hs
    unfold ma_li2 at hs'
    split at hs'
    · cases hs'
      exact lv_l2i hx hb hd rfl (sd_nx B hP (sd_vs.cons trivial B.2.2.1.tail))
    · exact no hs'
  case goto o => have := sd_il hil rfl; subst this; exact sd_go1 hx hb B hs hP hd
  case ifCond k o => have := sd_il hil rfl; subst this; exact sd_if B hs hP (fun x t r ht h1 h2 => sd_if_row hx hb hd x t r ht h1 h2)
  case if_icmp k o => have := sd_il hil rfl; subst this; exact sd_ic B hs hP (fun x y t r ht h1 h2 => sd_ic_row hx hb hd x y t r ht h1 h2)
  case tableswitch d0 lo hi os => exact sd_ts F' B hs hP hd
  case pop =>
    have := sd_il hil rfl
    subst this
    have hs' : (match st with | .inl _ :: r => ma_nx (pc + 1, L, r, M, a, b) | _ => ma_no) = .inl (al, df) := hs
    split at hs'
    · cases hs'
      exact lv_pop hx hb hd rfl (sd_nx B hP B.2.2.1.tail)
    · exact no hs'
  case dup =>
    have := sd_il hil rfl
    subst this
    have hs' : (match st with | .inr (.inl _) :: _ => ma_no | v :: r => ma_nx (pc + 1, L, v :: v :: r, M, a, b) | _ => ma_no) = .inl (al, df) := hs
    split at hs'
    · exact no hs'
    · rename_i v r hne
      cases hs'
      refine lv_dup hx hb hd ?_ (sd_nx B hP (sd_vs.cons B.2.2.1.head B.2.2.1))
      match v, hne with
      | .inl x, _ => rfl
      | .inr (.inl x), hne => exact absurd rfl (hne x)
      | .inr (.inr q), _ => exact sd_cat1 hov q
    · exact no hs'
  case dup2 =>
    have := sd_il hil rfl
    subst this
    have hs' : (match st with | .inl v :: .inr (.inr q) :: r => ma_nx (pc + 1, L, .inl v :: .inr (.inr q) :: .inl v :: .inr (.inr q) :: r, M, a, b) | _ => ma_no) = .inl (al, df) := hs
    split at hs'
    · rename_i v q r
      cases hs'
      exact lv_dup2_11 hx hb hd rfl (sd_cat1 hov q) (sd_nx B hP (sd_vs.cons trivial (sd_vs.cons B.2.2.1.tail.head B.2.2.1)))
    · exact no hs'
  case iaload => have := sd_il hil rfl; subst this; exact sd_ald hW B ⟨by decide, by decide⟩ ⟨by decide, by decide⟩ hs hP (fun g x cell j v r hk h1 h2 h3 h4 h5 kk => W.iald hx hb h1 (by rw [sd_ety1 (by omega)] at h2; exact h2) h3 h4 h5 rfl rfl hd kk)
  case caload => have := sd_il hil rfl; subst this; exact sd_ald hW B ⟨by decide, by decide⟩ ⟨by decide, by decide⟩ hs hP (fun g x cell j v r hk h1 h2 h3 h4 h5 kk => W.cald hx hb h1 (by rw [sd_ety3 (by omega)] at h2; exact h2) h3 h4 h5 rfl rfl hd kk)
  case baload =>
    have := sd_il hil rfl
    subst this
    refine sd_ald hW B ⟨by decide, by decide⟩ ⟨by decide, by decide⟩ hs hP (fun g x cell j v r hk h1 h2 h3 h4 h5 kk => ?_)
    rcases hk with hk | hk
    · exact W.zald hx hb h1 (by rw [sd_ety2 hk] at h2; exact h2) h3 h4 h5 rfl rfl hd kk
    · exact W.bald hx hb h1 (by rw [sd_ety4 hk] at h2; exact h2) h3 h4 h5 rfl rfl hd kk
  case aaload => have := sd_il hil rfl; subst this; exact sd_aad F' B hs hP hd
  case iastore => have := sd_il hil rfl; subst this; exact sd_ast hW B ⟨by decide, by decide⟩ hs hP (fun g x cell v j r hk _ h1 h2 h3 h4 kk => W.iast hx hb h1 (by rw [sd_ety1 hk] at h2; exact h2) h3 h4 rfl rfl hd kk)
  case bastore => have := sd_il hil rfl; subst this; exact sd_ast hW B ⟨by decide, by decide⟩ hs hP (fun g x cell v j r hk ho h1 h2 h3 h4 kk => W.zast hx hb h1 (by rw [sd_ety2 hk] at h2; exact h2) h3 h4 rfl rfl hd (by rw [(sd_b01 ho).1]; exact kk))
  case castore => have := sd_il hil rfl; subst this; exact sd_ast hW B ⟨by decide, by decide⟩ hs hP (fun g x cell v j r hk ho h1 h2 h3 h4 kk => W.cast hx hb h1 (by rw [sd_ety3 hk] at h2; exact h2) h3 h4 rfl rfl hd (by rw [sd_narC (of_decide_eq_true ho)]; exact kk))
  case aastore => have := sd_il hil rfl; subst this; exact sd_aas F' Z B hs hP hd
  case arraylength => have := sd_il hil rfl; subst this; exact sd_aln F' B hs hP hd
  case getfield k => have := sd_il hil rfl; subst this; exact sd_gf F' Z B hs hP hd
  case putfield k => have := sd_il hil rfl; subst this; exact sd_pf F' Z B hs hP hd
  case getstatic k =>
    have := sd_il hil rfl
    subst this
    have hs' : (bif Nat.beq (mt_own.getD y 0) 13 && Nat.beq k 38 then ma_pi pc L st M a b 3 1 else bif Nat.beq (mt_own.getD y 0) 13 && Nat.beq k 1053 then ma_nx (pc + 3, L, .inr (.inr (4, 0)) :: st, M, a, b) else ma_no) = .inl (al, df) := hs
    cases h1 : (Nat.beq (mt_own.getD y 0) 13 && Nat.beq k 38) with
    | true =>
      rw [h1] at hs'
      cases hs'
      rw [Bool.and_eq_true] at h1
      rw [Nat.eq_of_beq_eq_true h1.1] at hown
      have e38 := Nat.eq_of_beq_eq_true h1.2
      subst e38
      obtain ⟨cf, kf, fi, f, x, cell, h1, h2, h3, h4, h5, h6, h7, h8⟩ := va_Z.moved hW.alike Z.2.2.2.2.1
      exact W.gets hx hb hown (sd_word Z hW (mt_w_mem ck_gs1) (Or.inl rfl)) h1 h2 h3 h4 (by rw [B.1.2.2.2.2.1 x (by omega)]; exact h5) (fun e => by rw [e] at h6; cases h6) h7 rfl hd (sd_nx B hP (sd_vs.cons trivial B.2.2.1))
    | false =>
      rw [h1] at hs'
      cases h2 : (Nat.beq (mt_own.getD y 0) 13 && Nat.beq k 1053) with
      | true =>
        rw [h2] at hs'
        cases hs'
        rw [Bool.and_eq_true] at h2
        rw [Nat.eq_of_beq_eq_true h2.1] at hown
        have e38 := Nat.eq_of_beq_eq_true h2.2
        subst e38
        obtain ⟨cf, kf, fi, f, x, cell, h1, h2, h3, h4, h5, h6, h7, h8⟩ := va_Z.moved hW.alike Z.2.2.2.2.2
        exact W.gets hx hb hown (sd_word Z hW (mt_w_mem ck_gs2) (Or.inl rfl)) h1 h2 h3 h4 (by rw [B.1.2.2.2.2.1 x (by omega)]; exact h5) (fun e => by rw [e] at h6; cases h6) h7 rfl hd (sd_nx B hP (sd_vs.cons (Or.inr (Or.inl rfl)) B.2.2.1))
      | false =>
        rw [h2] at hs'
        exact no hs'
  case new k => have := sd_il hil rfl; subst this; exact sd_new F' Z hRc B hs hP hf hd
  case newarray t => have := sd_il hil rfl; subst this; exact sd_nwa F' Z hRc B hs hP hf hd
  case anewarray k => have := sd_il hil rfl; subst this; exact sd_anw F' Z hRc B hs hP hf hd
  case invokestatic k => have := sd_il hil rfl; subst this; exact sd_calln F' Z hov hR B hs hP (Or.inl ⟨by decide, by decide, hd⟩)
  case invokevirtual k => have := sd_il hil rfl; subst this; exact sd_calln F' Z hov hR B hs hP (Or.inr (Or.inr ⟨by decide, by decide, by decide, by decide⟩))
  case invokespecial k => have := sd_il hil rfl; subst this; exact sd_calln F' Z hov hR B hs hP (Or.inr (Or.inl ⟨by decide, by decide, by decide, by decide, hd⟩))
  case ireturn => exact hret 1 hs
  case lreturn => exact hret 2 hs
  case areturn => exact hret 3 hs
  case return_ => exact hret 0 hs
  all_goals exact no hs
theorem ma_sel_all {κ : ma_C → Option (Option ma_V × ma_M)} {P : ma_C → Prop} {df : Option ma_C} {x : Option ma_V × ma_M} (hκ : ∀ c, κ c = some x → P c) : ∀ al : List (Bool × ma_C), ma_sel κ none df al = some x → ma_sel P False df al := by
  intro al
  induction al with
  | nil =>
    intro h
    cases df with
    | none => cases h
    | some c => exact hκ c h
  | cons q r ih =>
    intro h
    unfold ma_sel at h ⊢
    cases hq : q.1 with
    | true => rw [hq] at h; exact hκ _ h
    | false => rw [hq] at h; exact ih h
end SDI
theorem sd_End.mv {p : Program} {l : Launch} {e : Env} {R : Room} {s : State} {m : MethodId} {args : Array Value} {below : List Frame} {meth : Method} {cd : Code} {Q : State → Prop} {s0 : State} {dC : Nat → ClassId} {dI : Nat → Nat → Nat} {adK adV : Nat → Nat} {ov : Value} {y : Nat} {A A' : Nat → Nat → Nat} {M M1 M' : ma_M} {r : Option ma_V} (h : sd_End p l e R s m args below meth cd Q s0 dC dI adK adV ov y A M r M') (hx : sd_ext A M A' M1) : sd_End p l e R s m args below meth cd Q s0 dC dI adK adV ov y A' M1 r M' :=
  fun A2 H' locs' ls' pc' i a' b' h1 h2 => h A2 H' locs' ls' pc' i a' b' h1 (hx.trans h2)
theorem ma_ret0 {st : List ma_V} {M M' : ma_M} {y : Nat} {ok : Bool} {r : Option ma_V} (h : ma_ret st M y 0 = .inr (.inl (ok, r, M'))) : M' = M ∧ r.toList = st ∧ r = none ∧ ok = (mt_ret.getD y none).isNone := by
  match st, h with
  | [], h => cases h; exact ⟨rfl, rfl, rfl, rfl⟩
  | _ :: _, h => cases h
theorem ma_ret1 {st : List ma_V} {M M' : ma_M} {y : Nat} {ok : Bool} {r : Option ma_V} (h : ma_ret st M y 1 = .inr (.inl (ok, r, M'))) : M' = M ∧ r.toList = st ∧ ∃ v, r = some (.inl v) ∧ ok = ma_rok (mt_ret.getD y none) v := by
  match st, h with
  | [], h => cases h
  | [.inl v], h => cases h; exact ⟨rfl, rfl, v, rfl, rfl⟩
  | [.inr _], h => cases h
  | .inl _ :: _ :: _, h => cases h
  | .inr _ :: _ :: _, h => cases h
theorem ma_ret2 {st : List ma_V} {M M' : ma_M} {y : Nat} {ok : Bool} {r : Option ma_V} (h : ma_ret st M y 2 = .inr (.inl (ok, r, M'))) : M' = M ∧ r.toList = st ∧ ∃ v, r = some (.inr (.inl v)) ∧ ok = ma_rlo (mt_ret.getD y none) := by
  match st, h with
  | [], h => cases h
  | [.inl v], h => cases h
  | [.inr (.inl v)], h => cases h; exact ⟨rfl, rfl, v, rfl, rfl⟩
  | [.inr (.inr _)], h => cases h
  | .inl _ :: _ :: _, h => cases h
  | .inr (.inl _) :: _ :: _, h => cases h
  | .inr (.inr _) :: _ :: _, h => cases h
theorem ma_ret3 {st : List ma_V} {M M' : ma_M} {y : Nat} {ok : Bool} {r : Option ma_V} (h : ma_ret st M y 3 = .inr (.inl (ok, r, M'))) : M' = M ∧ r.toList = st ∧ ∃ q, r = some (.inr (.inr q)) ∧ ok = (ma_nn q && ma_rob (mt_ret.getD y none)) := by
  match st, h with
  | [], h => cases h
  | [.inl v], h => cases h
  | [.inr (.inl v)], h => cases h
  | [.inr (.inr q)], h => cases h; exact ⟨rfl, rfl, q, rfl, rfl⟩
  | .inl _ :: _ :: _, h => cases h
  | .inr (.inl _) :: _ :: _, h => cases h
  | .inr (.inr _) :: _ :: _, h => cases h
def ma_isl (A : ma_A) : Prop := ∃ q, A = .inl q
theorem ma_isl.c {A B : ma_A} {c : Bool} (h : ma_isl A) (h' : ma_isl B) : ma_isl (bif c then A else B) := by cases c <;> assumption
theorem ma_isl.no {A : ma_A} (h : ma_isl A) {q} (e : A = .inr q) : False := by
  obtain ⟨q', h⟩ := h
  rw [h] at e
  cases e
theorem ma_ret_nc {st : List ma_V} {M : ma_M} {y k : Nat} {q} (h : ma_ret st M y k = .inr (.inr q)) : False := by
  unfold ma_ret at h
  split at h <;> cases h
theorem ma_call_nr {pc : Nat} {L : List (Option ma_V)} {st : List ma_V} {M : ma_M} {a b y own idx : Nat} {ks : List Nat} {q} (h : ma_call pc L st M a b y own idx ks = .inr (.inl q)) : False := by
  unfold ma_call at h
  split at h
  · rename_i z kd pos hf
    cases h1 : ks.contains kd with
    | false => rw [h1] at h; cases h
    | true =>
      rw [h1] at h
      simp only [Bool.not_true, cond_false] at h
      cases h7 : Nat.beq kd 7 with
      | true =>
        rw [h7] at h
        simp only [cond_true] at h
        unfold ma_acp at h
        split at h
        · exact ma_gd_ne h
        · cases h
      | false =>
        rw [h7] at h
        simp only [cond_false] at h
        cases h8 : Nat.beq kd 8 with
        | true =>
          rw [h8] at h
          simp only [cond_true] at h
          split at h
          · exact ma_nx_ne h
          · cases h
        | false =>
          rw [h8] at h
          simp only [cond_false] at h
          cases h9 : Nat.beq kd 9 with
          | true =>
            rw [h9] at h
            simp only [cond_true] at h
            split at h
            · exact ma_nx_ne h
            · cases h
          | false =>
            rw [h9] at h
            simp only [cond_false] at h
            cases h6 : Nat.beq kd 6 with
            | true =>
              rw [h6] at h
              simp only [cond_true] at h
              split at h
              · exact ma_nx_ne h
              · cases h
            | false =>
              rw [h6] at h
              simp only [cond_false] at h
              cases hg : (Nat.ble (mt_na.getD z 0) st.length && Nat.ble (ma_args (st.take (mt_na.getD z 0)).reverse).length (mt_ml.getD z 0) && Nat.ble (ma_cat (st.drop (mt_na.getD z 0))) 8 && (Nat.blt kd 2 || ma_rc z (st.take (mt_na.getD z 0)).reverse) && Nat.ble (a + (mt_mc.getD z (0, 0)).1) (mt_mc.getD y (0, 0)).1 && Nat.ble (b + (mt_mc.getD z (0, 0)).2) (mt_mc.getD y (0, 0)).2) with
              | true => rw [hg] at h; cases h
              | false => rw [hg] at h; cases h
  · cases h
def ma_rc2 : Instr → Bool
  | .ireturn => true | .lreturn => true | .areturn => true | .return_ => true
  | .invokestatic _ => true | .invokevirtual _ => true | .invokespecial _ => true
  | _ => false
theorem ma_isl_no : ma_isl ma_no := ⟨_, rfl⟩
theorem ma_isl_nx {c : ma_C} : ma_isl (ma_nx c) := ⟨_, rfl⟩
theorem ma_isl_gd {g : Bool} {c : ma_C} : ma_isl (ma_gd g c) := ⟨_, rfl⟩
theorem ma_isl_br {g : Bool} {c c' : ma_C} : ma_isl (ma_br g c c') := ⟨_, rfl⟩
theorem ma_isl_q {q} : ma_isl (.inl q) := ⟨_, rfl⟩
set_option maxHeartbeats 4000000 in
theorem ma_do_l {pc : Nat} {L : List (Option ma_V)} {st : List ma_V} {M : ma_M} {a b y : Nat} {i : Instr} (hi : ma_rc2 i = false) : ma_isl (ma_do pc L st M a b y i) := by
  cases i
  case pop => match st with
    | [] => exact ⟨_, rfl⟩
    | .inl _ :: _ => exact ⟨_, rfl⟩
    | .inr _ :: _ => exact ⟨_, rfl⟩
  case dup => match st with
    | [] => exact ⟨_, rfl⟩
    | .inl _ :: _ => exact ⟨_, rfl⟩
    | .inr (.inl _) :: _ => exact ⟨_, rfl⟩
    | .inr (.inr _) :: _ => exact ⟨_, rfl⟩
  case dup2 => match st with
    | [] => exact ⟨_, rfl⟩
    | [.inl _] => exact ⟨_, rfl⟩
    | .inl _ :: .inl _ :: _ => exact ⟨_, rfl⟩
    | .inl _ :: .inr (.inl _) :: _ => exact ⟨_, rfl⟩
    | .inl _ :: .inr (.inr _) :: _ => exact ⟨_, rfl⟩
    | .inr _ :: _ => exact ⟨_, rfl⟩
  all_goals first | (cases hi; done) | exact ma_isl_no | (unfold ma_do; dsimp only; try (first | unfold ma_ldi | unfold ma_ldl | unfold ma_lda | unfold ma_sti | unfold ma_stl | unfold ma_sta | unfold ma_inc | unfold ma_pi | unfold ma_pl | unfold ma_ii | unfold ma_iz | unfold ma_i1 | unfold ma_ll | unfold ma_lz | unfold ma_cmp | unfold ma_il2 | unfold ma_li2 | unfold ma_go1 | unfold ma_if | unfold ma_ic | unfold ma_ts | unfold ma_ald | unfold ma_aad | unfold ma_ast | unfold ma_aas | unfold ma_aln | unfold ma_gf | unfold ma_pf | unfold ma_new | unfold ma_nwa); repeat' (first | exact ma_isl_no | exact ma_isl_nx | exact ma_isl_gd | exact ma_isl_br | exact ma_isl_q | refine ma_isl.c ?_ ?_ | split))
theorem sd_z193 {pc : Nat} {L : List (Option ma_V)} {st : List ma_V} {M : ma_M} {a b y idx : Nat} {ks : List Nat} {z : Nat} {as : List ma_V} {M0 : ma_M} {k : ma_V → ma_M → ma_C} (hs : ma_call pc L st M a b y (mt_own.getD y 0) idx ks = .inr (.inr (z, as, M0, k))) : z < 193 := by
  obtain ⟨kd, pos, hf, -, h6, -⟩ := sd_calls hs
  have hkd := sd_kd hf
  unfold ck_kd at hkd
  simp only [Bool.or_eq_true, Bool.and_eq_true] at hkd
  rcases hkd with q | q
  · exact absurd (Nat.le_of_ble_eq_true q) (by show ¬ 6 ≤ _; omega)
  · have : z < 192 := Nat.le_of_ble_eq_true q.1.1
    omega
/-- a run of the machine is one of the JVM -/
theorem sd_main {l : Launch} {s0 : State} {a0 : Array Value} {dC : Nat → ClassId} {dI : Nat → Nat → Nat} {adK adV : Nat → Nat} {ov : Value} (Z : sd_Z s0 a0 dC dI adK adV ov) (hov : ov.category = 1) : ∀ (n d y : Nat) (c : ma_C) (r : Option ma_V) (M' : ma_M), y < 193 → ma_go d n y c = some (r, M') → sd_T l s0 dC dI adK adV ov d y c r M' := by
  intro n
  induction n with
  | zero => intro d y c r M' _ h; cases d <;> cases h
  | succ n ih =>
    intro d y c r M' hy h A p e R s m args below meth cd H locs Q ls F hR B hE
    obtain ⟨pc, L, st, M, a, b⟩ := c
    have nxt : ∀ c' : ma_C, ma_go d n y c' = some (r, M') → sd_P p l e R s m args below meth cd Q s0 dC dI adK adV ov (mt_ml.getD y 0) A M c' := by
      intro c' hc' A' H' locs' ls' B' hx'
      exact ih d y c' r M' hy hc' A' p e R s m args below meth cd H' locs' Q ls' F hR B' (hE.mv hx')
    unfold ma_go at h
    have hstep : ma_step y (pc, L, st, M, a, b) = (match ma_find pc (mt_prog.getD y []) with | some (i, _) => ma_do pc L st M a b y i | none => ma_no) := rfl
    cases hf : ma_find pc (mt_prog.getD y []) with
    | none =>
      rw [hf] at hstep
      rw [hstep] at h
      cases h
    | some q =>
      obtain ⟨i, len⟩ := q
      rw [hf] at hstep
      dsimp only at hstep
      obtain ⟨hd, hil⟩ := sd_dec1 hy hf
      rw [hstep] at h
      cases hs : ma_do pc L st M a b y i with
      | inl q =>
        obtain ⟨al, df⟩ := q
        rw [hs] at h
        exact sd_one F Z hov hR B hf hd hil hs (ma_sel_all nxt al h)
      | inr q =>
        rw [hs] at h
        cases q with
        | inl q =>
          obtain ⟨ok, r1, M1⟩ := q
          dsimp only at h
          cases hok : (ok && Nat.ble a (mt_mc.getD y (0, 0)).1 && Nat.ble b (mt_mc.getD y (0, 0)).2) with
          | false => rw [hok] at h; cases h
          | true =>
            rw [hok] at h
            cases h
            rw [Bool.and_eq_true, Bool.and_eq_true] at hok
            have ha := Nat.le_of_ble_eq_true hok.1.2
            have hb := Nat.le_of_ble_eq_true hok.2
            have hret : (∀ r0 : Option ma_V, r0 = r → sd_isr y i r0) → ma_rc2 i = true → M' = M ∧ r.toList = st → len = 1 → W p l e R s m args below meth cd H locs a b Q (F0 m pc ls (st.map (sd_v A ov))) := by
              intro hisr _ hM hlen
              subst hlen
              obtain ⟨rfl, hst⟩ := hM
              have hok2 : ∀ v, r = some v → sd_okv M' v := by
                intro v hv
                rw [hv] at hst
                exact B.2.2.1 v (by show v ∈ st; rw [← hst]; exact List.mem_cons_self)
              have := hE A H locs ls pc i a b B.1 sd_ext.rf hok2 B.2.2.2.2 ha hb hd (hisr r rfl)
              rw [hst] at this
              exact this
            cases hi : ma_rc2 i with
            | false => exact ((ma_do_l hi).no hs).elim
            | true =>
              cases i
              case return_ =>
                obtain ⟨g1, g2, g3, g4⟩ := ma_ret0 hs
                exact hret (fun r e => e ▸ Or.inl ⟨rfl, g3, g4 ▸ hok.1.1⟩) hi ⟨g1, g2⟩ (sd_il hil rfl)
              case ireturn =>
                obtain ⟨g1, g2, v, g3, g4⟩ := ma_ret1 hs
                exact hret (fun r e => e ▸ Or.inr (Or.inl ⟨rfl, v, g3, g4 ▸ hok.1.1⟩)) hi ⟨g1, g2⟩ (sd_il hil rfl)
              case lreturn =>
                obtain ⟨g1, g2, v, g3, g4⟩ := ma_ret2 hs
                exact hret (fun r e => e ▸ Or.inr (Or.inr (Or.inl ⟨rfl, v, g3, g4 ▸ hok.1.1⟩))) hi ⟨g1, g2⟩ (sd_il hil rfl)
              case areturn =>
                obtain ⟨g1, g2, v, g3, g4⟩ := ma_ret3 hs
                have g5 := hok.1.1
                rw [g4, Bool.and_eq_true] at g5
                exact hret (fun r e => e ▸ Or.inr (Or.inr (Or.inr ⟨rfl, v, g3, g5.1, g5.2⟩))) hi ⟨g1, g2⟩ (sd_il hil rfl)
              case invokestatic idx => exact (ma_call_nr hs).elim
              case invokevirtual idx => exact (ma_call_nr hs).elim
              case invokespecial idx => exact (ma_call_nr hs).elim
              all_goals cases hi
        | inr q =>
          obtain ⟨z, as, M0, k⟩ := q
          dsimp only at h
          cases d with
          | zero => cases h
          | succ d =>
            dsimp only at h
            cases hz : ma_go d n z (ma_ini z as M0) with
            | none => rw [hz] at h; cases h
            | some u =>
              obtain ⟨r1, M1⟩ := u
              rw [hz] at h
              dsimp only at h
              cases hp : ma_pick (mt_rk.getD z 0) r1 with
              | none => rw [hp] at h; cases h
              | some v =>
                rw [hp] at h
                dsimp only at h
                have hP := nxt _ h
                cases hi : ma_rc2 i with
                | false => exact ((ma_do_l hi).no hs).elim
                | true =>
                  cases i
                  case return_ => exact (ma_ret_nc hs).elim
                  case ireturn => exact (ma_ret_nc hs).elim
                  case lreturn => exact (ma_ret_nc hs).elim
                  case areturn => exact (ma_ret_nc hs).elim
                  case invokestatic idx =>
                    have hlen := sd_il hil rfl
                    subst hlen
                    have hcs : ma_call pc L st M a b y (mt_own.getD y 0) idx [0, 1, 7, 8, 9] = .inr (.inr (z, as, M0, k)) := hs
                    exact sd_static F Z hov hR B hcs hd (ih d z _ r1 M1 (sd_z193 hcs) hz) hp hP
                  case invokevirtual idx =>
                    have hlen := sd_il hil rfl
                    subst hlen
                    have hcs : ma_call pc L st M a b y (mt_own.getD y 0) idx [2, 3] = .inr (.inr (z, as, M0, k)) := hs
                    exact sd_virtual F Z hov hR B hcs hd (ih d z _ r1 M1 (sd_z193 hcs) hz) hp hP
                  case invokespecial idx =>
                    have hlen := sd_il hil rfl
                    subst hlen
                    have hcs : ma_call pc L st M a b y (mt_own.getD y 0) idx [4, 5, 6] = .inr (.inr (z, as, M0, k)) := hs
                    exact sd_special F Z hov hR B hcs hd (ih d z _ r1 M1 (sd_z193 hcs) hz) hp hP
                  all_goals cases hi

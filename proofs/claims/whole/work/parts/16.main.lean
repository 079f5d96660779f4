/-! ===== calls, and the induction ===== -/
theorem sd_pick {k : Nat} {r : Option ma_V} {v : ma_V} (h : ma_pick k r = some v) : (Nat.beq k 0 = true ∧ r = none) ∨ (Nat.beq k 0 = false ∧ r = some v) := by
  match k, r, h with
  | 0, none, _ => exact Or.inl ⟨rfl, rfl⟩
  | 0, some (.inl x), h => cases h
  | 0, some (.inr x), h => cases h
  | 1, some (.inl x), h => cases h; exact Or.inr ⟨rfl, rfl⟩
  | 1, none, h => cases h
  | 1, some (.inr x), h => cases h
  | 2, some (.inr (.inl x)), h => cases h; exact Or.inr ⟨rfl, rfl⟩
  | 2, none, h => cases h
  | 2, some (.inl x), h => cases h
  | 2, some (.inr (.inr x)), h => cases h
  | 3, some (.inr (.inr x)), h => cases h; exact Or.inr ⟨rfl, rfl⟩
  | 3, none, h => cases h
  | 3, some (.inl x), h => cases h
  | 3, some (.inr (.inl x)), h => cases h
  | k + 4, none, h => cases h
  | k + 4, some (.inl x), h => cases h
  | k + 4, some (.inr (.inl x)), h => cases h
  | k + 4, some (.inr (.inr x)), h => cases h
theorem ck_ten : (List.range 16).all (fun own => (mt_ct.getD own []).all (fun e => Nat.blt e.2.2.1 10)) = true := by decide +kernel
theorem sd_nb {x w : Nat} (h : x ≠ w) : Nat.beq x w = false := by
  cases e : Nat.beq x w with
  | false => rfl
  | true => exact absurd (Nat.eq_of_beq_eq_true e) h
theorem mt_cw_even {own idx z kd pos : Nat} (h : kd < 6) (he : kd % 2 = 0) : mt_cw own (idx, z, kd, pos) = .methodLink (mt_cn.getD own "") idx (mt_mn z) := by
  unfold mt_cw
  dsimp only
  rw [sd_nb (show kd ≠ 6 by omega), sd_nb (show kd ≠ 7 by omega), sd_nb (show kd ≠ 8 by omega), sd_nb (show kd ≠ 9 by omega), he]
  rfl
theorem mt_cw_odd {own idx z kd pos : Nat} (h : kd < 6) (he : kd % 2 = 1) : mt_cw own (idx, z, kd, pos) = .methodLinkNest (mt_cn.getD own "") idx (mt_mn z) "ThreeAddresses" := by
  unfold mt_cw
  dsimp only
  rw [sd_nb (show kd ≠ 6 by omega), sd_nb (show kd ≠ 7 by omega), sd_nb (show kd ≠ 8 by omega), sd_nb (show kd ≠ 9 by omega), he]
  rfl
theorem ma_nx_ne {c : Bool} {x : ma_C} {q : (Bool × Option ma_V × ma_M) ⊕ (Nat × List ma_V × ma_M × (ma_V → ma_M → ma_C))} (h : (bif c then ma_nx x else ma_no) = .inr q) : False := by cases c <;> cases h
theorem ma_gd_ne {c g : Bool} {x : ma_C} {q : (Bool × Option ma_V × ma_M) ⊕ (Nat × List ma_V × ma_M × (ma_V → ma_M → ma_C))} (h : (bif c then ma_gd g x else ma_no) = .inr q) : False := by cases c <;> cases h
section SDG
variable {p : Program} {l : Launch} {e : Env} {R : Room} {s : State} {m : MethodId} {args : Array Value} {below : List Frame} {meth : Method} {cd : Code} {H H' H1 : Heap} {locs : List Loc} {Q : State → Prop}
variable {s0 : State} {a0 : Array Value} {dC : Nat → ClassId} {dI : Nat → Nat → Nat} {adK adV : Nat → Nat} {ov : Value} {nL : Nat} {A A' : Nat → Nat → Nat} {M M' : ma_M} {L : List (Option ma_V)} {st : List ma_V} {ls : Array Slot} {pc a b y : Nat}
variable {al : List (Bool × ma_C)} {df : Option ma_C} {cc : ByteArray}
/-- behind a call -/
theorem sd_after (B : sd_B s0 dC dI adK adV ov nL A M L st H locs ls) {z na : Nat} {r : Option ma_V} {st0 : List Value} {ar : Array Value} {mc ms : Nat} (hr : va_Run p l e R s m args below meth cd H locs a b mc ms (F0 m pc ls st0) ((st.drop na).map (sd_v A ov)) (sd_Qc s0 dC dI adK adV ov A M r M' ar) (fun q => s0.heap.size ≤ q)) {v : ma_V} (hv : ma_pick (mt_rk.getD z 0) r = some v)
    (hP : sd_P p l e R s m args below meth cd Q s0 dC dI adK adV ov nL A M (pc + 3, L, (bif Nat.beq (mt_rk.getD z 0) 0 then st.drop na else v :: st.drop na), M', a + mc, b + ms)) : W p l e R s m args below meth cd H locs a b Q (F0 m pc ls st0) := by
  intro T hT X
  obtain ⟨w, st₀, t, T', L1, h0, X', hL, e1, e2, ⟨A', hx, hw, hok, hoc⟩, stp⟩ := hr T hT X
  cases hoc
  have hdr : sd_vs M (st.drop na) := fun u hu => B.2.2.1 u (List.mem_of_mem_drop hu)
  have hst : sd_vs M' (bif Nat.beq (mt_rk.getD z 0) 0 then st.drop na else v :: st.drop na) := by
    rcases sd_pick hv with ⟨q1, q2⟩ | ⟨q1, q2⟩
    · rw [q1]; exact hx.vs hdr
    · rw [q1]; exact sd_vs.cons (hok v q2) (hx.vs hdr)
  have hW := hP A' T'.heap (locs ++ L1) ls ⟨by rw [e1]; exact hw, B.2.1.ext hx B.2.2.2.1, hst, hx.vl B.2.2.2.1, (fun q hq => by
    rcases List.mem_append.mp hq with h | h
    · exact B.2.2.2.2 q h
    · exact hL q h)⟩ hx
  obtain ⟨t2, a1, b1⟩ := hW T' rfl X'
  refine ⟨t2, stp t2 ?_, b1⟩
  have hstk : (r.map (sd_v A' ov)).toList ++ (st.drop na).map (sd_v A ov) = (bif Nat.beq (mt_rk.getD z 0) 0 then st.drop na else v :: st.drop na).map (sd_v A' ov) := by
    rcases sd_pick hv with ⟨q1, q2⟩ | ⟨q1, q2⟩
    · rw [q1, q2]
      exact (hx.map hdr).symm
    · rw [q1, q2]
      show sd_v A' ov v :: (st.drop na).map (sd_v A ov) = sd_v A' ov v :: (st.drop na).map (sd_v A' ov)
      rw [hx.map hdr]
  rw [hstk]
  exact a1
theorem sd_blind {as : List ma_V} : FrameBlind (sd_Pc s0 dC dI adK adV ov A M as) := fun _ _ _ _ q => q
/-- what a call of the machine tells -/
theorem sd_calls {idx : Nat} {ks : List Nat} {z : Nat} {as : List ma_V} {M0 : ma_M} {k : ma_V → ma_M → ma_C} (hs : ma_call pc L st M a b y (mt_own.getD y 0) idx ks = .inr (.inr (z, as, M0, k))) :
    ∃ kd pos, ma_f4 idx (mt_ct.getD (mt_own.getD y 0) []) = some (z, kd, pos) ∧ kd ∈ ks ∧ kd < 6 ∧ as = (st.take (mt_na.getD z 0)).reverse ∧ M0 = M ∧ mt_na.getD z 0 ≤ st.length ∧ (ma_args as).length ≤ mt_ml.getD z 0 ∧ ma_cat (st.drop (mt_na.getD z 0)) ≤ 8 ∧ (kd < 2 ∨ ma_rc z as = true) ∧ a + (mt_mc.getD z (0, 0)).1 ≤ (mt_mc.getD y (0, 0)).1 ∧ b + (mt_mc.getD z (0, 0)).2 ≤ (mt_mc.getD y (0, 0)).2 ∧
      k = fun v M' => (pc + 3, L, (bif Nat.beq (mt_rk.getD z 0) 0 then st.drop (mt_na.getD z 0) else v :: st.drop (mt_na.getD z 0)), M', a + (mt_mc.getD z (0, 0)).1, b + (mt_mc.getD z (0, 0)).2) := by
  unfold ma_call at hs
  split at hs
  · rename_i z' kd pos hf
    cases h1 : ks.contains kd with
    | false => rw [h1] at hs; cases hs
    | true =>
      rw [h1] at hs
      cases h7 : Nat.beq kd 7 with
      | true =>
        rw [h7] at hs
        exfalso
        simp only [Bool.not_true, cond_false, cond_true] at hs
        unfold ma_acp at hs
        split at hs
        · exact ma_gd_ne hs
        · cases hs
      | false =>
        rw [h7] at hs
        cases h8 : Nat.beq kd 8 with
        | true =>
          rw [h8] at hs
          exfalso
          simp only [Bool.not_true, cond_false, cond_true] at hs
          split at hs
          · exact ma_nx_ne hs
          · cases hs
        | false =>
          rw [h8] at hs
          cases h9 : Nat.beq kd 9 with
          | true =>
            rw [h9] at hs
            exfalso
            simp only [Bool.not_true, cond_false, cond_true] at hs
            split at hs
            · exact ma_nx_ne hs
            · cases hs
          | false =>
            rw [h9] at hs
            cases h6 : Nat.beq kd 6 with
            | true =>
              rw [h6] at hs
              exfalso
              simp only [Bool.not_true, cond_false, cond_true] at hs
              split at hs
              · exact ma_nx_ne hs
              · cases hs
            | false =>
              rw [h6] at hs
              simp only [Bool.not_true, cond_false] at hs
              cases hg : (Nat.ble (mt_na.getD z' 0) st.length && Nat.ble (ma_args (st.take (mt_na.getD z' 0)).reverse).length (mt_ml.getD z' 0) && Nat.ble (ma_cat (st.drop (mt_na.getD z' 0))) 8 && (Nat.blt kd 2 || ma_rc z' (st.take (mt_na.getD z' 0)).reverse) && Nat.ble (a + (mt_mc.getD z' (0, 0)).1) (mt_mc.getD y (0, 0)).1 && Nat.ble (b + (mt_mc.getD z' (0, 0)).2) (mt_mc.getD y (0, 0)).2) with
              | false => rw [hg] at hs; cases hs
              | true =>
                rw [hg] at hs
                cases hs
                simp only [Bool.and_eq_true, Bool.or_eq_true] at hg
                obtain ⟨⟨⟨⟨⟨g1, g2⟩, g3⟩, g4⟩, g5⟩, g6⟩ := hg
                have hkd := sd_kd hf
                unfold ck_kd at hkd
                have hne : ∀ n : Nat, Nat.beq kd n = false → kd ≠ n := by
                  intro n hn e
                  rw [e] at hn
                  rw [Nat.beq_refl] at hn
                  cases hn
                have hcw : kd < 10 := by
                  have hall := List.all_eq_true.mp (List.all_eq_true.mp ck_ten (mt_own.getD y 0) (List.mem_range.mpr (mt_getD_lt (ma_f4_mem hf)))) _ (ma_f4_mem hf)
                  exact Nat.le_of_ble_eq_true hall
                have n6 := hne 6 h6
                have n7 := hne 7 h7
                have n8 := hne 8 h8
                have n9 := hne 9 h9
                refine ⟨kd, pos, hf, by simpa using h1, by omega, rfl, rfl, Nat.le_of_ble_eq_true g1, Nat.le_of_ble_eq_true g2, Nat.le_of_ble_eq_true g3, ?_, Nat.le_of_ble_eq_true g5, Nat.le_of_ble_eq_true g6, rfl⟩
                rcases g4 with q | q
                · exact Or.inl (Nat.le_of_ble_eq_true q)
                · exact Or.inr q
  · cases hs
theorem sd_cb (Z : sd_Z s0 a0 dC dI adK adV ov) (hW : s0.WarmedH s.vm) {d z : Nat} (hR : sd_R R (d + 1) y) (hz : z < 192) {own : String} {idx n : Nat} (hn : ∀ sig, parseMethodDescriptor (mt_mn z).desc = some sig → n = sig.parameters.length) (hl : Cond.methodLink own idx (mt_mn z) ∈ lw_tbl) :
    CallB R s args own idx (mt_mn z) (mt_cd z) (mt_ml.getD z 0) (mt_ret.getD z none) [Cond.code (mt_mn z) (mt_cd z) (mt_ml.getD z 0) (mt_ret.getD z none)] (sd_rm d z) (mt_mc.getD z (0, 0)).1 (mt_mc.getD z (0, 0)).2 n := by
  have h40 := (sd_m5 (z := z) (by omega)).2
  refine ⟨rfl, rfl, hR.1, ?_, (fun w hw a' U hU => ?_), List.mem_cons_self, sd_word Z hW (sd_m1 hz) (Or.inl rfl), sd_word Z hW (sd_m2 hz) (Or.inl rfl), (sd_m4 (by omega)).2, hn, sd_word Z hW hl (Or.inl rfl)⟩
  · show 8 + (mt_ml.getD z 0 + 11) + 64 * (d + 1) ≤ R.locals
    have := hR.2.1
    omega
  · rw [List.mem_singleton.mp hw]
    exact sd_word Z (State.WarmedH.trans hW hU) (sd_m1 hz) (Or.inl rfl)
theorem sd_cnb (Z : sd_Z s0 a0 dC dI adK adV ov) (hW : s0.WarmedH s.vm) {d z : Nat} (hR : sd_R R (d + 1) y) (hz : z < 192) {own : String} {idx n : Nat} (hn : ∀ sig, parseMethodDescriptor (mt_mn z).desc = some sig → n = sig.parameters.length) (hl : Cond.methodLinkNest own idx (mt_mn z) "ThreeAddresses" ∈ lw_tbl) :
    va_CN R s args own idx (mt_mn z) "ThreeAddresses" (mt_cd z) (mt_ml.getD z 0) (mt_ret.getD z none) [Cond.code (mt_mn z) (mt_cd z) (mt_ml.getD z 0) (mt_ret.getD z none)] (sd_rm d z) (mt_mc.getD z (0, 0)).1 (mt_mc.getD z (0, 0)).2 n := by
  have h40 := (sd_m5 (z := z) (by omega)).2
  refine ⟨⟨rfl, rfl, hR.1, ?_, (fun w hw a' U hU => ?_), List.mem_cons_self⟩, sd_word Z hW (sd_m1 hz) (Or.inl rfl), sd_word Z hW (sd_m2 hz) (Or.inl rfl), (sd_m4 (by omega)).2, hn, va_Nw.use rfl (va_Nw.warmM hW (va_Nw.of rfl (Z.1 _ hl)))⟩
  · show 8 + (mt_ml.getD z 0 + 11) + 64 * (d + 1) ≤ R.locals
    have := hR.2.1
    omega
  · rw [List.mem_singleton.mp hw]
    exact sd_word Z (State.WarmedH.trans hW hU) (sd_m1 hz) (Or.inl rfl)
theorem sd_stk {na : Nat} : st.map (sd_v A ov) = (((st.take na).reverse).map (sd_v A ov)).reverse ++ (st.drop na).map (sd_v A ov) := by
  rw [← List.map_reverse, List.reverse_reverse, ← List.map_append, List.take_append_drop]
theorem sd_vtake (B : sd_B s0 dC dI adK adV ov nL A M L st H locs ls) {na : Nat} : sd_vs M (st.take na).reverse := fun v hv => B.2.2.1 v (List.mem_of_mem_take (List.mem_reverse.mp hv))
theorem sd_static (F : sd_F p s m meth cd y s0) (Z : sd_Z s0 a0 dC dI adK adV ov) (hov : ov.category = 1) {d : Nat} (hR : sd_R R (d + 1) y) (B : sd_B s0 dC dI adK adV ov (mt_ml.getD y 0) A M L st H locs ls) {idx : Nat} {z : Nat} {as : List ma_V} {M0 : ma_M} {k : ma_V → ma_M → ma_C} (hs : ma_call pc L st M a b y (mt_own.getD y 0) idx [0, 1, 7, 8, 9] = .inr (.inr (z, as, M0, k)))
    (hd : decode (mt_code.getD y ⟨#[]⟩) pc = .ok (.invokestatic idx, 3)) {r : Option ma_V} {v : ma_V} (T : sd_T l s0 dC dI adK adV ov d z (ma_ini z as M0) r M') (hv : ma_pick (mt_rk.getD z 0) r = some v) (hP : sd_P p l e R s m args below meth cd Q s0 dC dI adK adV ov (mt_ml.getD y 0) A M (k v M')) : W p l e R s m args below meth cd H locs a b Q (F0 m pc ls (st.map (sd_v A ov))) := by
  obtain ⟨kd, pos, hf, hks, h6, has, rfl, hna, hal, hcat, -, hmc, hms, rfl⟩ := sd_calls hs
  subst has
  obtain ⟨hx, hb, hml, hown, -, hW⟩ := F
  have hkd := sd_kd hf
  have hcw := sd_ct hf
  have h01 : kd = 0 ∨ kd = 1 := by
    simp only [List.mem_cons, List.not_mem_nil, or_false] at hks
    omega
  have hz : z < 192 ∧ mt_sta.getD z false = true := by
    unfold ck_kd at hkd
    rcases h01 with rfl | rfl
    all_goals
      simp only [Bool.or_eq_true, Bool.and_eq_true] at hkd
      rcases hkd with q | q
      · exact absurd (Nat.le_of_ble_eq_true q) (by show ¬ 6 ≤ _; omega)
      · exact ⟨Nat.le_of_ble_eq_true q.1.1, q.1.2⟩
  have hsta : (Cond.static (mt_mn z)).before args s = true := by
    have := sd_m6 hz.1
    rw [hz.2] at this
    exact sd_word Z hW this (Or.inl rfl)
  have hn : ∀ sig, parseMethodDescriptor (mt_mn z).desc = some sig → mt_na.getD z 0 = sig.parameters.length := by
    intro sig hsig
    have := (sd_m5 (z := z) (by omega)).1 sig hsig
    rw [hz.2, cond_true] at this
    omega
  have hM := sd_met (A := A) (l := l) hov hz.1 (sd_vtake B) hal T
  have hlen : (((st.take (mt_na.getD z 0)).reverse).map (sd_v A ov)).length = mt_na.getD z 0 := by simp only [List.length_map, List.length_reverse, List.length_take]; omega
  have hpre : PreS s H (sd_Pc s0 dC dI adK adV ov A M0 (st.take (mt_na.getD z 0)).reverse) (((st.take (mt_na.getD z 0)).reverse).map (sd_v A ov)) := ⟨sd_blind, fun U hU hWU => ⟨rfl, State.WarmedH.trans hW hWU, by rw [hU]; exact B.1⟩⟩
  have hroom : 2 * (F0 m pc ls (st.map (sd_v A ov))).monitorRoom + (((st.drop (mt_na.getD z 0)).map (sd_v A ov)).map fun v => v.category).sum ≤ 8 := lv_room (by rw [sd_catsum hov]; exact hcat)
  have hcr := hR.2.2
  rcases h01 with rfl | rfl
  · exact sd_after B (va_runS ⟨hx, hb, hml, hown, (fun w hw => absurd hw List.not_mem_nil)⟩ hM ⟨sd_cb Z hW hR hz.1 hn hcw, hsta⟩ hpre rfl hlen B.2.1.2.1 sd_stk hroom hd ⟨by omega, by omega⟩) hv hP
  · exact sd_after B (va_runSN ⟨hx, hb, hml, hown, (fun w hw => absurd hw List.not_mem_nil)⟩ hM ⟨sd_cnb Z hW hR hz.1 hn hcw, hsta, trivial⟩ hpre rfl hlen B.2.1.2.1 sd_stk hroom hd ⟨by omega, by omega⟩) hv hP
theorem sd_recv (hW : s0.WarmedH s.vm) (Z : sd_Z s0 a0 dC dI adK adV ov) (hw : sd_W s0 dC dI adK adV ov A M H) {z g i : Nat} (hz : z < 193) (hi : i < M.1 g) (hrc : Nat.beq (ma_gk g) (100 + mt_own.getD z 0) = true ∨ (Nat.beq g 2 = true ∧ Nat.beq (mt_own.getD z 0) 13 = true)) : ∃ cell : Cell, H[A g i]? = some cell ∧ cell.vm.isStatics = false ∧ s.vm.findClass (mt_mn z).cls = some cell.cls := by
  rw [← sd_m3 hz]
  rcases hrc with q | ⟨q1, q2⟩
  · have hg := Nat.eq_of_beq_eq_true q
    have hck := sd_g g
    unfold ck_g at hck
    have h100 : Nat.ble 100 (ma_gk g) = true := Nat.ble_eq_true_of_le (by omega)
    cases h200 : Nat.ble 200 (ma_gk g) with
    | true =>
      rw [h200] at hck
      have e2 : g = 2 := Nat.eq_of_beq_eq_true hck
      have hpo := List.all_eq_true.mp ck_po z (List.mem_range.mpr hz)
      rw [Bool.and_eq_true] at hpo
      have h16 := Nat.le_of_ble_eq_true hpo.2
      have := Nat.le_of_ble_eq_true h200
      omega
    | false =>
      rw [h200, h100] at hck
      simp only [cond_false, cond_true, Bool.and_eq_true] at hck
      have h110 : ma_gk g < 110 := Nat.le_of_ble_eq_true hck.1.1
      have hci : mt_own.getD z 0 < ma_cls.length := by show mt_own.getD z 0 < 10; omega
      have hc : ma_cls[mt_own.getD z 0]? = some ma_cls[mt_own.getD z 0] := List.getElem?_eq_getElem hci
      generalize ma_cls[mt_own.getD z 0] = w at hc
      obtain ⟨⟨cell, c1, c2, c3, -⟩, -, -⟩ := sd_obj hw hg hc hi
      refine ⟨cell, c1, by rw [c3]; rfl, ?_⟩
      rw [sd_cn hc, c2]
      exact (u_Kn_moved hW.alike (Z.2.1 _ w hc)).2.1
  · have e1 := Nat.eq_of_beq_eq_true q1
    have e2 := Nat.eq_of_beq_eq_true q2
    subst e1
    rw [e2]
    have hi13 : i < 13 := by rw [hw.2.2.2.2.2.2.2.2.1] at hi; exact hi
    rw [(hw.2.2.2.2.2.2.1 i hi13).1]
    obtain ⟨cell, c1, c2, c3, -⟩ := (va_O.moved hW.alike (Z.2.2.1 i hi13).1).kept (H1 := H) (fun q h1 _ => hw.2.2.2.2.1 q h1)
    exact ⟨cell, c1, c2, c3⟩
theorem sd_rcv {z : Nat} {as : List ma_V} (h : ma_rc z as = true) : ∃ g i as', as = .inr (.inr (g, i)) :: as' ∧ g ≠ 0 ∧ g ≠ 4 ∧ (Nat.beq (ma_gk g) (100 + mt_own.getD z 0) = true ∨ (Nat.beq g 2 = true ∧ Nat.beq (mt_own.getD z 0) 13 = true)) := by
  unfold ma_rc at h
  split at h
  · rename_i g i as'
    rw [Bool.and_eq_true, Bool.or_eq_true, Bool.and_eq_true] at h
    obtain ⟨-, h0, h4⟩ := sd_r_nn (A := fun _ _ => 0) (ov := .null) h.1
    exact ⟨g, i, as', rfl, h0, h4, h.2⟩
  · cases h
theorem sd_virtual (F : sd_F p s m meth cd y s0) (Z : sd_Z s0 a0 dC dI adK adV ov) (hov : ov.category = 1) {d : Nat} (hR : sd_R R (d + 1) y) (B : sd_B s0 dC dI adK adV ov (mt_ml.getD y 0) A M L st H locs ls) {idx : Nat} {z : Nat} {as : List ma_V} {M0 : ma_M} {k : ma_V → ma_M → ma_C} (hs : ma_call pc L st M a b y (mt_own.getD y 0) idx [2, 3] = .inr (.inr (z, as, M0, k)))
    (hd : decode (mt_code.getD y ⟨#[]⟩) pc = .ok (.invokevirtual idx, 3)) {r : Option ma_V} {v : ma_V} (T : sd_T l s0 dC dI adK adV ov d z (ma_ini z as M0) r M') (hv : ma_pick (mt_rk.getD z 0) r = some v) (hP : sd_P p l e R s m args below meth cd Q s0 dC dI adK adV ov (mt_ml.getD y 0) A M (k v M')) : W p l e R s m args below meth cd H locs a b Q (F0 m pc ls (st.map (sd_v A ov))) := by
  obtain ⟨kd, pos, hf, hks, h6, has, rfl, hna, hal, hcat, hrc, hmc, hms, rfl⟩ := sd_calls hs
  obtain ⟨hx, hb, hml, hown, -, hW⟩ := F
  have hkd := sd_kd hf
  have hcw := sd_ct hf
  have h01 : kd = 2 ∨ kd = 3 := by
    simp only [List.mem_cons, List.not_mem_nil, or_false] at hks
    omega
  have hrc : ma_rc z as = true := by
    rcases hrc with q | q
    · omega
    · exact q
  have hz : z < 192 ∧ mt_vir.contains z = true ∧ mt_sta.getD z false = false := by
    unfold ck_kd at hkd
    rcases h01 with rfl | rfl
    all_goals
      simp only [Bool.or_eq_true, Bool.and_eq_true] at hkd
      rcases hkd with q | q
      · exact absurd (Nat.le_of_ble_eq_true q) (by show ¬ 6 ≤ _; omega)
      · have q2 := q.1.2
        first | rw [show Nat.blt 2 2 = false from rfl, show Nat.blt 2 4 = true from rfl] at q2 | rw [show Nat.blt 3 2 = false from rfl, show Nat.blt 3 4 = true from rfl] at q2
        simp only [cond_false, cond_true, Bool.and_eq_true, Bool.not_eq_true'] at q2
        exact ⟨Nat.le_of_ble_eq_true q.1.1, q2.1.1, q2.1.2⟩
  have hins : (Cond.instanceMethod (mt_mn z)).before args s = true := by
    have := sd_m6 hz.1
    rw [hz.2.2] at this
    exact sd_word Z hW this (Or.inl rfl)
  have hsel : (Cond.selects (mt_mn z).cls (mt_mn z) (mt_mn z)).before args s = true := sd_word Z hW (sd_m7 hz.2.1) (Or.inl rfl)
  have hvs : sd_vs M0 as := by rw [has]; exact sd_vtake B
  have hM := sd_met (A := A) (l := l) hov hz.1 hvs hal T
  obtain ⟨g, i, as', rfl, h0, h4, hrk⟩ := sd_rcv hrc
  have hi : i < M0.1 g := by
    rcases hvs.head with q | q | q
    · exact absurd q h0
    · exact absurd q h4
    · exact q
  have hlen : (as'.map (sd_v A ov)).length = mt_na.getD z 0 - 1 := by
    have h1 := congrArg List.length has
    simp only [List.length_cons, List.length_reverse, List.length_take] at h1
    rw [List.length_map]
    omega
  have hn : ∀ sig, parseMethodDescriptor (mt_mn z).desc = some sig → mt_na.getD z 0 - 1 = sig.parameters.length := by
    intro sig hsig
    have := (sd_m5 (z := z) (by omega)).1 sig hsig
    rw [hz.2.2, cond_false] at this
    omega
  have hmap : ((.inr (.inr (g, i)) :: as' : List ma_V).map (sd_v A ov)) = .ref (A g i) :: as'.map (sd_v A ov) := by rw [List.map_cons, sd_ref h0 h4]
  have hpre : PreV s H (mt_mn z).cls (A g i) (sd_Pc s0 dC dI adK adV ov A M0 (.inr (.inr (g, i)) :: as')) (as'.map (sd_v A ov)) := ⟨sd_blind, sd_recv hW Z B.1 (by omega) hi hrk, fun U hU hWU => ⟨by rw [hmap], State.WarmedH.trans hW hWU, by rw [hU]; exact B.1⟩⟩
  have hroom : 2 * (F0 m pc ls (st.map (sd_v A ov))).monitorRoom + (((st.drop (mt_na.getD z 0)).map (sd_v A ov)).map fun v => v.category).sum ≤ 8 := lv_room (by rw [sd_catsum hov]; exact hcat)
  have hstk : (F0 m pc ls (st.map (sd_v A ov))).stack = (as'.map (sd_v A ov)).reverse ++ .ref (A g i) :: (st.drop (mt_na.getD z 0)).map (sd_v A ov) := by
    show st.map (sd_v A ov) = _
    rw [sd_stk (na := mt_na.getD z 0), ← has, hmap, List.reverse_cons, List.append_assoc]
    rfl
  have hcr := hR.2.2
  rcases h01 with rfl | rfl
  · exact sd_after B (va_runV ⟨hx, hb, hml, hown, (fun w hw => absurd hw List.not_mem_nil)⟩ hM ⟨sd_cb Z hW hR hz.1 hn (by rw [mt_cw_even (by omega) rfl] at hcw; exact hcw), hins, hsel⟩ hpre rfl hlen B.2.1.2.1 hstk hroom hd ⟨by omega, by omega⟩) hv hP
  · exact sd_after B (va_runVN ⟨hx, hb, hml, hown, (fun w hw => absurd hw List.not_mem_nil)⟩ hM ⟨sd_cnb Z hW hR hz.1 hn (by rw [mt_cw_odd (by omega) rfl] at hcw; exact hcw), hins, hsel⟩ hpre rfl hlen B.2.1.2.1 hstk hroom hd ⟨by omega, by omega⟩) hv hP
theorem sd_special (F : sd_F p s m meth cd y s0) (Z : sd_Z s0 a0 dC dI adK adV ov) (hov : ov.category = 1) {d : Nat} (hR : sd_R R (d + 1) y) (B : sd_B s0 dC dI adK adV ov (mt_ml.getD y 0) A M L st H locs ls) {idx : Nat} {z : Nat} {as : List ma_V} {M0 : ma_M} {k : ma_V → ma_M → ma_C} (hs : ma_call pc L st M a b y (mt_own.getD y 0) idx [4, 5, 6] = .inr (.inr (z, as, M0, k)))
    (hd : decode (mt_code.getD y ⟨#[]⟩) pc = .ok (.invokespecial idx, 3)) {r : Option ma_V} {v : ma_V} (T : sd_T l s0 dC dI adK adV ov d z (ma_ini z as M0) r M') (hv : ma_pick (mt_rk.getD z 0) r = some v) (hP : sd_P p l e R s m args below meth cd Q s0 dC dI adK adV ov (mt_ml.getD y 0) A M (k v M')) : W p l e R s m args below meth cd H locs a b Q (F0 m pc ls (st.map (sd_v A ov))) := by
  obtain ⟨kd, pos, hf, hks, h6, has, rfl, hna, hal, hcat, hrc, hmc, hms, rfl⟩ := sd_calls hs
  obtain ⟨hx, hb, hml, hown, -, hW⟩ := F
  have hkd := sd_kd hf
  have hcw := sd_ct hf
  have h01 : kd = 4 ∨ kd = 5 := by
    simp only [List.mem_cons, List.not_mem_nil, or_false] at hks
    omega
  have hrc : ma_rc z as = true := by
    rcases hrc with q | q
    · omega
    · exact q
  have hz : z < 192 ∧ mt_ini.getD z false = true ∧ mt_sta.getD z false = false ∧ mt_ret.getD z none = none := by
    unfold ck_kd at hkd
    rcases h01 with rfl | rfl
    all_goals
      simp only [Bool.or_eq_true, Bool.and_eq_true] at hkd
      rcases hkd with q | q
      · exact absurd (Nat.le_of_ble_eq_true q) (by show ¬ 6 ≤ _; omega)
      · have q2 := q.1.2
        first | rw [show Nat.blt 4 2 = false from rfl, show Nat.blt 4 4 = false from rfl] at q2 | rw [show Nat.blt 5 2 = false from rfl, show Nat.blt 5 4 = false from rfl] at q2
        simp only [cond_false, Bool.and_eq_true, Bool.not_eq_true'] at q2
        exact ⟨Nat.le_of_ble_eq_true q.1.1, q2.1.1, q2.1.2, by simpa using q2.2⟩
  have hins : (Cond.instanceMethod (mt_mn z)).before args s = true := by
    have := sd_m6 hz.1
    rw [hz.2.2.1] at this
    exact sd_word Z hW this (Or.inl rfl)
  have hvs : sd_vs M0 as := by rw [has]; exact sd_vtake B
  have hM := sd_met (A := A) (l := l) hov hz.1 hvs hal T
  obtain ⟨g, i, as', rfl, h0, h4, hrk⟩ := sd_rcv hrc
  have hlen : (as'.map (sd_v A ov)).length = mt_na.getD z 0 - 1 := by
    have h1 := congrArg List.length has
    simp only [List.length_cons, List.length_reverse, List.length_take] at h1
    rw [List.length_map]
    omega
  have hn : ∀ sig, parseMethodDescriptor (mt_mn z).desc = some sig → mt_na.getD z 0 - 1 = sig.parameters.length := by
    intro sig hsig
    have := (sd_m5 (z := z) (by omega)).1 sig hsig
    rw [hz.2.2.1, cond_false] at this
    omega
  have hmap : ((.inr (.inr (g, i)) :: as' : List ma_V).map (sd_v A ov)) = .ref (A g i) :: as'.map (sd_v A ov) := by rw [List.map_cons, sd_ref h0 h4]
  have hpre : PreS s H (sd_Pc s0 dC dI adK adV ov A M0 (.inr (.inr (g, i)) :: as')) (.ref (A g i) :: as'.map (sd_v A ov)) := ⟨sd_blind, fun U hU hWU => ⟨by rw [hmap], State.WarmedH.trans hW hWU, by rw [hU]; exact B.1⟩⟩
  have hroom : 2 * (F0 m pc ls (st.map (sd_v A ov))).monitorRoom + (((st.drop (mt_na.getD z 0)).map (sd_v A ov)).map fun v => v.category).sum ≤ 8 := lv_room (by rw [sd_catsum hov]; exact hcat)
  have hstk : (F0 m pc ls (st.map (sd_v A ov))).stack = (as'.map (sd_v A ov)).reverse ++ .ref (A g i) :: (st.drop (mt_na.getD z 0)).map (sd_v A ov) := by
    show st.map (sd_v A ov) = _
    rw [sd_stk (na := mt_na.getD z 0), ← has, hmap, List.reverse_cons, List.append_assoc]
    rfl
  have hcr := hR.2.2
  have hnm := sd_m8 (z := z) (by omega) hz.2.1
  have hcb := sd_cb (args := args) (R := R) (idx := idx) (own := mt_cn.getD (mt_own.getD y 0) "") Z hW hR hz.1 hn
  have hcn := sd_cnb (args := args) (R := R) (idx := idx) (own := mt_cn.getD (mt_own.getD y 0) "") Z hW hR hz.1 hn
  rw [hz.2.2.2] at hM hcb hcn
  rcases h01 with rfl | rfl
  · exact sd_after B (va_runI ⟨hx, hb, hml, hown, (fun w hw => absurd hw List.not_mem_nil)⟩ hM ⟨hcb (by rw [mt_cw_even (by omega) rfl] at hcw; exact hcw), hnm, hins⟩ hpre rfl hlen B.2.1.2.1 hstk hroom hd ⟨by omega, by omega⟩) hv hP
  · exact sd_after B (va_runIN ⟨hx, hb, hml, hown, (fun w hw => absurd hw List.not_mem_nil)⟩ hM ⟨hcn (by rw [mt_cw_odd (by omega) rfl] at hcw; exact hcw), hnm, hins⟩ hpre rfl hlen B.2.1.2.1 hstk hroom hd ⟨by omega, by omega⟩) hv hP
end SDG

/-! ===== copies of rows, calls ===== -/
section SDC
variable {p : Program} {l : Launch} {e : Env} {R : Room} {s : State} {m : MethodId} {args : Array Value} {below : List Frame} {meth : Method} {cd : Code} {H H' H1 : Heap} {locs : List Loc} {Q : State → Prop}
variable {s0 : State} {a0 : Array Value} {dC : Nat → ClassId} {dI : Nat → Nat → Nat} {adK adV : Nat → Nat} {ov : Value} {nL : Nat} {A A' : Nat → Nat → Nat} {M M' : ma_M} {L : List (Option ma_V)} {st : List ma_V} {ls : Array Slot} {pc a b y : Nat}
variable {al : List (Bool × ma_C)} {df : Option ma_C} {cc : ByteArray}
theorem sd_cpy_ne {g i q1 h k q2 n x y : Nat} {I : ma_I} (hne : x ≠ h ∨ y ≠ k) (z : Nat) : ma_cpy I g i q1 h k q2 n x y z = I x y z := by
  unfold ma_cpy
  rcases hne with q | q
  · simp [q]
  · by_cases e : x = h
    · simp [e, q]
    · simp [e]
/-- arraycopy of ints, with what stays -/
theorem sd_Wcopy (hexec : p.tables.exec = Jvm.exec) (hb : cd.code = cc) (hml : cd.maxLocals = ls.size) {own : String} {index : Nat} (hown : s.vm.findClass own = some m.cls) (hlink : (Cond.methodLink own index arraycopyName).before args s = true) (hnat : (Cond.native arraycopyName).before args s = true) (hstat : (Cond.static arraycopyName).before args s = true) (hini : (Cond.initialized "java/lang/System").before args s = true)
    {x0 x1 : Nat} {c0 c1 : ClassId} {n0 n1 : Nat} {f g : Nat → Int32} (hc0 : H[x0]? = some (arrV c0 n0 (fun j => .int (f j)))) (hc1 : H[x1]? = some (arrV c1 n1 (fun j => .int (g j)))) (ha0 : ArrOfT s c0 .int) (ha1 : ArrOfT s c1 .int)
    {sp dp n : Int32} (h1 : ¬ sp < 0) (h2 : ¬ dp < 0) (h3 : ¬ n < 0) (h4 : sp.toNatClampNeg + n.toNatClampNeg ≤ n0) (h5 : dp.toNatClampNeg + n.toNatClampNeg ≤ n1) {rest : List Value}
    (hframes : 1 ≤ R.frames) (hlocals : (rest.map fun v => v.category).sum + (nativeFrameWords "java/lang/System" "arraycopy" 5 + 11) ≤ R.locals) (hdg : decode cc pc = .ok (.invokestatic index, 3))
    (kk : ∀ (H1 : Heap) (L1 : List Loc), H1[x1]? = some (arrV c1 n1 (fun j => .int (va_cpy f g sp.toNatClampNeg dp.toNatClampNeg n.toNatClampNeg j))) → H1.size = H.size → (∀ q, q ≠ x1 → H1[q]? = H[q]?) → (∀ q ∈ L1, q.base = x1) → W p l e R s m args below meth cd H1 (locs ++ L1) a b Q (F0 m (pc + 3) ls rest)) : W p l e R s m args below meth cd H locs a b Q (F0 m pc ls (.int n :: .int dp :: .ref x1 :: .int sp :: .ref x0 :: rest)) := by
  have nn : ∀ z : Int32, ¬ z < 0 → z.toInt = (z.toNatClampNeg : Int) := by
    intro z hz
    have hz0 : (0 : Int) ≤ z.toInt := by
      have := Int32.not_lt.mp hz
      simpa using Int32.le_iff_toInt_le.mp this
    show z.toInt = ((z.toInt.toNat : Nat) : Int)
    omega
  intro T hT X
  obtain ⟨-, k0, hk0, cm0, hkk0⟩ := ha0 n0 (fun j => .int (f j))
  obtain ⟨-, k1, hk1, cm1, hkk1⟩ := ha1 n1 (fun j => .int (g j))
  obtain ⟨vm', X', step⟩ := X.arraycopy hexec hown hlink hnat hstat hini (src := x0) (dst := x1) (cs := arrV c0 n0 (fun j => .int (f j))) (cd := arrV c1 n1 (fun j => .int (g j))) (srcPos := sp) (destPos := dp) (n := n) (by rw [hT]; exact hc0) (by rw [hT]; exact hc1)
    (fun _ h => by cases h) (fun _ h => by cases h) (fun h => by cases h) (fun h => by cases h) hk0 hk1 hkk0 hkk1 (by simp [refKind]) h1 h2 h3
    (by rw [nn sp h1, nn n h3, arrV_size]; omega)
    (by rw [nn dp h2, nn n h3, arrV_size]; omega)
    (fun vm₁ _ i hi => by
      have e : (arrV c0 n0 (fun j => .int (f j))).slots.getD (sp.toNatClampNeg + i) .null = .int (f (sp.toNatClampNeg + i)) := by
        rw [Array.getD_eq_getD_getElem?, arrV_read _ _ (by omega)]
        rfl
      refine ⟨?_, ?_⟩
      · rw [e]
        rfl
      · rw [e]
        exact trivial)
    (g := F0 m pc ls (.int n :: .int dp :: .ref x1 :: .int sp :: .ref x0 :: rest)) rfl (by rw [hml]) (rest := rest) rfl (by rw [hb]; exact hdg) hframes (by show 2 * 0 + _ + _ ≤ _; omega)
  have e1 : copied (arrV c0 n0 (fun j => .int (f j))) (arrV c1 n1 (fun j => .int (g j))) sp dp n = arrV c1 n1 (fun j => .int (va_cpy f g sp.toNatClampNeg dp.toNatClampNeg n.toNatClampNeg j)) := va_copied (fun z => .int z) c0 c1 f g h4
  rw [e1] at X' step
  have hl : x1 < H.size := (Array.getElem?_eq_some_iff.mp hc1).1
  have hheap : ((T.setVm vm').setCell x1 (arrV c1 n1 (fun j => .int (va_cpy f g sp.toNatClampNeg dp.toNatClampNeg n.toNatClampNeg j)))).heap = H.setIfInBounds x1 (arrV c1 n1 (fun j => .int (va_cpy f g sp.toNatClampNeg dp.toNatClampNeg n.toNatClampNeg j))) := by rw [← hT]; rfl
  obtain ⟨t, a1, b1⟩ := kk _ _ (by simp [Array.getElem?_setIfInBounds, hl]) (by simp) (fun q hq => by simp [Array.getElem?_setIfInBounds, Ne.symm hq]) (fun q hq => by
    obtain ⟨z, -, rfl⟩ := List.mem_map.mp hq
    rfl) _ hheap X'
  exact ⟨t, step t a1, b1⟩
end SDC
theorem sd_nfw : nativeFrameWords "java/lang/System" "arraycopy" 5 ≤ 40 := by decide
section SDD
variable {p : Program} {l : Launch} {e : Env} {R : Room} {s : State} {m : MethodId} {args : Array Value} {below : List Frame} {meth : Method} {cd : Code} {H H' H1 : Heap} {locs : List Loc} {Q : State → Prop}
variable {s0 : State} {a0 : Array Value} {dC : Nat → ClassId} {dI : Nat → Nat → Nat} {adK adV : Nat → Nat} {ov : Value} {nL : Nat} {A A' : Nat → Nat → Nat} {M M' : ma_M} {L : List (Option ma_V)} {st : List ma_V} {ls : Array Slot} {pc a b y : Nat}
variable {al : List (Bool × ma_C)} {df : Option ma_C} {cc : ByteArray}
theorem sd_fun1 {g i : Nat} (h : ma_gk g = 1) : sd_slot A ov M g i = fun j => .int (M.2.1 g i j) := funext fun j => sd_slot_low (by omega)
theorem sd_acp (F : sd_F p s m meth cd y s0) (Z : sd_Z s0 a0 dC dI adK adV ov) (hov : ov.category = 1) (hnl : nL = mt_ml.getD y 0) (hRf : 1 ≤ R.frames ∧ 64 ≤ R.locals) (B : sd_B s0 dC dI adK adV ov nL A M L st H locs ls) {idx : Nat} (hs : ma_acp pc L st M a b = .inl (al, df)) (hP : ma_sel (sd_P p l e R s m args below meth cd Q s0 dC dI adK adV ov nL A M) False df al) (hlink : Cond.methodLink (mt_cn.getD (mt_own.getD y 0) "") idx arraycopyName ∈ lw_tbl)
    (hd : decode (mt_code.getD y ⟨#[]⟩) pc = .ok (.invokestatic idx, 3)) : W p l e R s m args below meth cd H locs a b Q (F0 m pc ls (st.map (sd_v A ov))) := by
  obtain ⟨hx0, hb, hml, hown, -, hW⟩ := F
  unfold ma_acp at hs
  split at hs
  · rename_i n q h k p0 g i r
    cases hk : (Nat.beq (ma_gk g) 1 && Nat.beq (ma_gk h) 1 && Nat.ble 5 g && Nat.ble 5 h && Nat.ble (ma_cat r) 8) with
    | false =>
      rw [hk] at hs
      unfold ma_no at hs
      cases hs
      exact hP.elim
    | true =>
      rw [hk] at hs
      unfold ma_gd at hs
      cases hs
      simp only [Bool.and_eq_true] at hk
      obtain ⟨⟨⟨⟨k1, k2⟩, k3⟩, k4⟩, k5⟩ := hk
      have k1 := Nat.eq_of_beq_eq_true k1
      have k2 := Nat.eq_of_beq_eq_true k2
      have k3 := Nat.le_of_ble_eq_true k3
      have k4 := Nat.le_of_ble_eq_true k4
      have k5 := Nat.le_of_ble_eq_true k5
      obtain ⟨hi, h0, h4⟩ := sd_gk (M := M) (g := g) (i := i) (by omega) B.2.2.1.tail.tail.tail.tail.head
      obtain ⟨hki, h0', h4'⟩ := sd_gk (M := M) (g := h) (i := k) (by omega) B.2.2.1.tail.tail.head
      obtain ⟨c0, d1, d2, d3⟩ := sd_own B.1 (by omega) k3 hi
      obtain ⟨c1, e1, e2, e3⟩ := sd_own B.1 (by omega) k4 hki
      rw [sd_fun1 k1] at d1
      rw [sd_fun1 k2] at e1
      rw [sd_ety1 k1] at d2
      have hga := (B.1.2.1 h k hki).2.1 k4
      cases hc : (decide (0 ≤ p0) && decide (0 ≤ q) && decide (0 ≤ n) && decide (p0.toNatClampNeg + n.toNatClampNeg ≤ ma_gl g) && decide (q.toNatClampNeg + n.toNatClampNeg ≤ ma_gl h)) with
      | false => simp only [ma_sel, hc] at hP; exact hP.elim
      | true =>
        have hP' : sd_P p l e R s m args below meth cd Q s0 dC dI adK adV ov nL A M (pc + 3, L, r, (M.1, ma_cpy M.2.1 g i p0.toNatClampNeg h k q.toNatClampNeg n.toNatClampNeg, M.2.2), a, b) := by simp only [ma_sel, hc] at hP; exact hP
        simp only [Bool.and_eq_true, decide_eq_true_eq] at hc
        obtain ⟨⟨⟨⟨q1, q2⟩, q3⟩, q4⟩, q5⟩ := hc
        have hnf := sd_nfw
        have hcs := sd_catsum (A := A) hov r
        simp only [List.map_cons]
        rw [sd_ref h0 h4, sd_ref h0' h4']
        refine sd_Wcopy hx0 hb (by rw [hml, ← hnl]; exact B.2.1.2.1.symm) hown (sd_word Z hW hlink (Or.inl rfl)) (sd_word Z hW (mt_w_mem ck_ac1) (Or.inl rfl)) (sd_word Z hW (mt_w_mem ck_ac2) (Or.inl rfl)) (sd_word Z hW (mt_w_mem ck_ac3) (Or.inl rfl)) d1 e1 (arrOfT_moved hW.alike d2) (arrOfT_moved hW.alike (by rw [sd_ety1 k2] at e2; exact e2)) (Int32.not_lt.mpr q1) (Int32.not_lt.mpr q2) (Int32.not_lt.mpr q3) q4 q5 hRf.1 (by rw [hcs]; omega) hd (fun H1 L1 f1 f2 f3 f4 => ?_)
        refine hP' A H1 _ ls ⟨sd_W_upd B.1 (M' := (M.1, ma_cpy M.2.1 g i p0.toNatClampNeg h k q.toNatClampNeg n.toNatClampNeg, M.2.2)) rfl k4 hki (fun x z hne => ?_) (fun x z => ?_) (fun x z j _ => Or.inr rfl) ?_ f2 f3, B.2.1, fun v hv => B.2.2.1.tail.tail.tail.tail.tail v hv, B.2.2.2.1, fun z hz => ?_⟩ (sd_ext.n rfl)
        · funext j
          unfold sd_slot
          rw [show (M.1, ma_cpy M.2.1 g i p0.toNatClampNeg h k q.toNatClampNeg n.toNatClampNeg, M.2.2).2.1 x z j = M.2.1 x z j from sd_cpy_ne hne j]
        · unfold ma_len
          rw [show (M.1, ma_cpy M.2.1 g i p0.toNatClampNeg h k q.toNatClampNeg n.toNatClampNeg, M.2.2).2.1 1 1 0 = M.2.1 1 1 0 from sd_cpy_ne (Or.inl (by omega)) 0]
        · refine sd_at_arr (by omega) k4 ⟨c1, ?_, e2, e3⟩
          rw [f1, sd_fun1 k2]
          congr 2
          funext j
          simp [va_cpy, ma_cpy]
        · rcases List.mem_append.mp hz with w | w
          · exact B.2.2.2.2 z w
          · rw [f4 z w]; exact hga
  · unfold ma_no at hs
    cases hs
    exact hP.elim
end SDD

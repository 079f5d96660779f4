/-! ===== an instruction of the machine is an instruction of the JVM: those without calls, cells and memory ===== -/
def sd_B (s0 : State) (dC : Nat → ClassId) (dI : Nat → Nat → Nat) (adK adV : Nat → Nat) (ov : Value) (nL : Nat) (A : Nat → Nat → Nat) (M : ma_M) (L : List (Option ma_V)) (st : List ma_V) (H : Heap) (locs : List Loc) (ls : Array Slot) : Prop :=
  sd_W s0 dC dI adK adV ov A M H ∧ sd_L A ov ls nL L ∧ sd_vs M st ∧ sd_vl M L ∧ ∀ q ∈ locs, s0.heap.size ≤ q.base
section SDR
variable {p : Program} {l : Launch} {e : Env} {R : Room} {s : State} {m : MethodId} {args : Array Value} {below : List Frame} {meth : Method} {cd : Code} {H : Heap} {locs : List Loc} {Q : State → Prop}
variable {s0 : State} {a0 : Array Value} {dC : Nat → ClassId} {dI : Nat → Nat → Nat} {adK adV : Nat → Nat} {ov : Value} {nL : Nat} {A : Nat → Nat → Nat} {M : ma_M} {L : List (Option ma_V)} {st : List ma_V} {ls : Array Slot} {pc a b y : Nat}
variable {al : List (Bool × ma_C)} {df : Option ma_C} {cc : ByteArray}
def sd_P (p : Program) (l : Launch) (e : Env) (R : Room) (s : State) (m : MethodId) (args : Array Value) (below : List Frame) (meth : Method) (cd : Code) (Q : State → Prop) (s0 : State) (dC : Nat → ClassId) (dI : Nat → Nat → Nat) (adK adV : Nat → Nat) (ov : Value) (nL : Nat) (A : Nat → Nat → Nat) (M : ma_M) (c : ma_C) : Prop :=
  ∀ (A' : Nat → Nat → Nat) (H' : Heap) (locs' : List Loc) (ls' : Array Slot), sd_B s0 dC dI adK adV ov nL A' c.2.2.2.1 c.2.1 c.2.2.1 H' locs' ls' → sd_ext A M A' c.2.2.2.1 → W p l e R s m args below meth cd H' locs' c.2.2.2.2.1 c.2.2.2.2.2 Q (F0 m c.1 ls' (c.2.2.1.map (sd_v A' ov)))
theorem sd_nx (B : sd_B s0 dC dI adK adV ov nL A M L st H locs ls) {pc' : Nat} {st' : List ma_V} (hP : sd_P p l e R s m args below meth cd Q s0 dC dI adK adV ov nL A M (pc', L, st', M, a, b)) (hv : sd_vs M st') : W p l e R s m args below meth cd H locs a b Q (F0 m pc' ls (st'.map (sd_v A ov))) :=
  hP A H locs ls ⟨B.1, B.2.1, hv, B.2.2.2.1, B.2.2.2.2⟩ sd_ext.rf
theorem sd_vs.cons {v : ma_V} {r : List ma_V} (h1 : sd_okv M v) (h : sd_vs M r) : sd_vs M (v :: r) := fun w hw => (List.mem_cons.mp hw).elim (fun e => e ▸ h1) (h w)
theorem sd_vs.tail {v : ma_V} {r : List ma_V} (h : sd_vs M (v :: r)) : sd_vs M r := fun w hw => h w (List.mem_cons_of_mem _ hw)
theorem sd_vs.head {v : ma_V} {r : List ma_V} (h : sd_vs M (v :: r)) : sd_okv M v := h v List.mem_cons_self
theorem sd_r_nn {q : Nat × Nat} (h : ma_nn q = true) : sd_r A ov q = .ref (A q.1 q.2) ∧ q.1 ≠ 0 ∧ q.1 ≠ 4 := by
  unfold ma_nn at h
  simp only [Bool.and_eq_true, Bool.not_eq_true', Nat.beq_eq] at h
  have h0 : q.1 ≠ 0 := fun e => by rw [e] at h; simp at h
  have h4 : q.1 ≠ 4 := fun e => by rw [e] at h; simp at h
  exact ⟨by simp [sd_r, h0, h4], h0, h4⟩
theorem sd_ldi (B : sd_B s0 dC dI adK adV ov nL A M L st H locs ls) {k n : Nat} (hs : ma_ldi pc L st M a b k n = .inl (al, df)) (hP : ma_sel (sd_P p l e R s m args below meth cd Q s0 dC dI adK adV ov nL A M) False df al)
    (row : ∀ x : Int32, ls[k]? = some (.val (.int x)) → W p l e R s m args below meth cd H locs a b Q (F0 m (pc + n) ls (.int x :: st.map (sd_v A ov))) → W p l e R s m args below meth cd H locs a b Q (F0 m pc ls (st.map (sd_v A ov)))) : W p l e R s m args below meth cd H locs a b Q (F0 m pc ls (st.map (sd_v A ov))) := by
  unfold ma_ldi at hs
  split at hs
  · rename_i v hv
    unfold ma_nx at hs
    cases hs
    exact row v (B.2.1.at hv) (sd_nx B hP (sd_vs.cons trivial B.2.2.1))
  · unfold ma_no at hs
    cases hs
    exact hP.elim
theorem sd_ldl (B : sd_B s0 dC dI adK adV ov nL A M L st H locs ls) {k n : Nat} (hs : ma_ldl pc L st M a b k n = .inl (al, df)) (hP : ma_sel (sd_P p l e R s m args below meth cd Q s0 dC dI adK adV ov nL A M) False df al)
    (row : ∀ x : Int64, ls[k]? = some (.val (.long x)) → W p l e R s m args below meth cd H locs a b Q (F0 m (pc + n) ls (.long x :: st.map (sd_v A ov))) → W p l e R s m args below meth cd H locs a b Q (F0 m pc ls (st.map (sd_v A ov)))) : W p l e R s m args below meth cd H locs a b Q (F0 m pc ls (st.map (sd_v A ov))) := by
  unfold ma_ldl at hs
  split at hs
  · rename_i v hv
    unfold ma_nx at hs
    cases hs
    exact row v (B.2.1.at hv) (sd_nx B hP (sd_vs.cons trivial B.2.2.1))
  · unfold ma_no at hs
    cases hs
    exact hP.elim
theorem sd_lda (B : sd_B s0 dC dI adK adV ov nL A M L st H locs ls) {k n : Nat} (hs : ma_lda pc L st M a b k n = .inl (al, df)) (hP : ma_sel (sd_P p l e R s m args below meth cd Q s0 dC dI adK adV ov nL A M) False df al)
    (row : ∀ x : Nat, ls[k]? = some (.val (.ref x)) → W p l e R s m args below meth cd H locs a b Q (F0 m (pc + n) ls (.ref x :: st.map (sd_v A ov))) → W p l e R s m args below meth cd H locs a b Q (F0 m pc ls (st.map (sd_v A ov)))) : W p l e R s m args below meth cd H locs a b Q (F0 m pc ls (st.map (sd_v A ov))) := by
  unfold ma_lda at hs
  split at hs
  · rename_i q hv
    cases hq : ma_nn q with
    | true =>
      rw [hq] at hs
      unfold ma_nx at hs
      cases hs
      have h1 := B.2.1.at hv
      have h2 := (sd_r_nn (A := A) (ov := ov) hq).1
      have h3 : sd_v A ov (.inr (.inr q)) = .ref (A q.1 q.2) := h2
      rw [h3] at h1
      refine row _ h1 ?_
      have h4 := sd_nx B hP (sd_vs.cons (B.2.2.2.1 _ (List.mem_of_getElem? hv)) B.2.2.1)
      rw [List.map_cons, h3] at h4
      exact h4
    | false =>
      rw [hq] at hs
      unfold ma_no at hs
      cases hs
      exact hP.elim
  · unfold ma_no at hs
    cases hs
    exact hP.elim
theorem sd_sti (hov : ov.category = 1) (B : sd_B s0 dC dI adK adV ov nL A M L st H locs ls) {k n : Nat} (hs : ma_sti pc L st M a b k n = .inl (al, df)) (hP : ma_sel (sd_P p l e R s m args below meth cd Q s0 dC dI adK adV ov nL A M) False df al)
    (row : ∀ (x : Int32) (r : List Value), k < nL → (∀ ls' : Array Slot, lv_has ls' nL ((k, .int x) :: (sd_lv A ov L).filter (fun q => !(q.1 == k) && !(q.1 + 1 == k && q.2.category == 2))) → W p l e R s m args below meth cd H locs a b Q (F0 m (pc + n) ls' r)) → W p l e R s m args below meth cd H locs a b Q (F0 m pc ls (.int x :: r))) : W p l e R s m args below meth cd H locs a b Q (F0 m pc ls (st.map (sd_v A ov))) := by
  unfold ma_sti at hs
  split at hs
  · rename_i v r
    cases hk : Nat.blt k L.length with
    | true =>
      rw [hk] at hs
      unfold ma_nx at hs
      cases hs
      have hk' : k < L.length := Nat.le_of_ble_eq_true hk
      refine row v (r.map (sd_v A ov)) (by rw [← B.2.1.1]; exact hk') (fun ls' h' => ?_)
      exact hP A H locs ls' ⟨B.1, sd_L.s1 (v := .inl v) B.2.1.1 hk' h' rfl (fun w _ hw => sd_cat2 hov w hw), B.2.2.1.tail, B.2.2.2.1.s1 trivial, B.2.2.2.2⟩ sd_ext.rf
    | false =>
      rw [hk] at hs
      unfold ma_no at hs
      cases hs
      exact hP.elim
  · unfold ma_no at hs
    cases hs
    exact hP.elim
theorem sd_stl (hov : ov.category = 1) (B : sd_B s0 dC dI adK adV ov nL A M L st H locs ls) {k n : Nat} (hs : ma_stl pc L st M a b k n = .inl (al, df)) (hP : ma_sel (sd_P p l e R s m args below meth cd Q s0 dC dI adK adV ov nL A M) False df al)
    (row : ∀ (x : Int64) (r : List Value), k + 1 < nL → (∀ ls' : Array Slot, lv_has ls' nL ((k, .long x) :: (sd_lv A ov L).filter (fun q => !(q.1 == k) && (!(q.1 == k + 1) && !(q.1 + 1 == k && q.2.category == 2)))) → W p l e R s m args below meth cd H locs a b Q (F0 m (pc + n) ls' r)) → W p l e R s m args below meth cd H locs a b Q (F0 m pc ls (.long x :: r))) : W p l e R s m args below meth cd H locs a b Q (F0 m pc ls (st.map (sd_v A ov))) := by
  unfold ma_stl at hs
  split at hs
  · rename_i v r
    cases hk : Nat.blt (k + 1) L.length with
    | true =>
      rw [hk] at hs
      unfold ma_nx at hs
      cases hs
      have hk' : k + 1 < L.length := Nat.le_of_ble_eq_true hk
      refine row v (r.map (sd_v A ov)) (by rw [← B.2.1.1]; exact hk') (fun ls' h' => ?_)
      exact hP A H locs ls' ⟨B.1, sd_L.s2 (v := .inr (.inl v)) B.2.1.1 hk' h' (fun w _ hw => sd_cat2 hov w hw), B.2.2.1.tail, B.2.2.2.1.s2 trivial, B.2.2.2.2⟩ sd_ext.rf
    | false =>
      rw [hk] at hs
      unfold ma_no at hs
      cases hs
      exact hP.elim
  · unfold ma_no at hs
    cases hs
    exact hP.elim
theorem sd_sta (hov : ov.category = 1) (B : sd_B s0 dC dI adK adV ov nL A M L st H locs ls) {k n : Nat} (hs : ma_sta pc L st M a b k n = .inl (al, df)) (hP : ma_sel (sd_P p l e R s m args below meth cd Q s0 dC dI adK adV ov nL A M) False df al)
    (row : ∀ (x : Nat) (r : List Value), k < nL → (∀ ls' : Array Slot, lv_has ls' nL ((k, .ref x) :: (sd_lv A ov L).filter (fun q => !(q.1 == k) && !(q.1 + 1 == k && q.2.category == 2))) → W p l e R s m args below meth cd H locs a b Q (F0 m (pc + n) ls' r)) → W p l e R s m args below meth cd H locs a b Q (F0 m pc ls (.ref x :: r))) : W p l e R s m args below meth cd H locs a b Q (F0 m pc ls (st.map (sd_v A ov))) := by
  unfold ma_sta at hs
  split at hs
  · rename_i q r
    cases hk : (Nat.blt k L.length && ma_nn q) with
    | true =>
      rw [hk] at hs
      unfold ma_nx at hs
      cases hs
      rw [Bool.and_eq_true] at hk
      have hk' : k < L.length := Nat.le_of_ble_eq_true hk.1
      have h3 : sd_v A ov (.inr (.inr q)) = .ref (A q.1 q.2) := (sd_r_nn (A := A) (ov := ov) hk.2).1
      rw [List.map_cons, h3]
      refine row _ (r.map (sd_v A ov)) (by rw [← B.2.1.1]; exact hk') (fun ls' h' => ?_)
      rw [← h3] at h'
      exact hP A H locs ls' ⟨B.1, sd_L.s1 (v := .inr (.inr q)) B.2.1.1 hk' h' (sd_cat1 hov q) (fun w _ hw => sd_cat2 hov w hw), B.2.2.1.tail, B.2.2.2.1.s1 B.2.2.1.head, B.2.2.2.2⟩ sd_ext.rf
    | false =>
      rw [hk] at hs
      unfold ma_no at hs
      cases hs
      exact hP.elim
  · unfold ma_no at hs
    cases hs
    exact hP.elim
theorem sd_inc (hx : p.tables.exec = Jvm.exec) (hb : cd.code = cc) (hov : ov.category = 1) (B : sd_B s0 dC dI adK adV ov nL A M L st H locs ls) {k : Nat} {c : Int} (hs : ma_inc pc L st M a b k c = .inl (al, df)) (hP : ma_sel (sd_P p l e R s m args below meth cd Q s0 dC dI adK adV ov nL A M) False df al)
    (hd : decode cc pc = .ok (.iinc k c, 3)) : W p l e R s m args below meth cd H locs a b Q (F0 m pc ls (st.map (sd_v A ov))) := by
  unfold ma_inc at hs
  split at hs
  · rename_i v hv
    unfold ma_nx at hs
    cases hs
    have hk := (List.getElem?_eq_some_iff.mp hv).1
    obtain ⟨j, hj⟩ := List.getElem?_of_mem (sd_lv_mem.mpr ⟨_, hv, rfl⟩ : (k, sd_v A ov (.inl v)) ∈ sd_lv A ov L)
    refine lv_iinc (x := v) (k := j) (v := v + Int32.ofInt c) hx hb hd B.2.1.2 hj rfl (by rw [← B.2.1.1]; exact hk) rfl (fun ls' h' => ?_)
    exact hP A H locs ls' ⟨B.1, sd_L.s1 (v := .inl (v + Int32.ofInt c)) B.2.1.1 hk h' rfl (fun w _ hw => sd_cat2 hov w hw), B.2.2.1, B.2.2.2.1.s1 trivial, B.2.2.2.2⟩ sd_ext.rf
  · unfold ma_no at hs
    cases hs
    exact hP.elim
theorem sd_ii (B : sd_B s0 dC dI adK adV ov nL A M L st H locs ls) {f : Int32 → Int32 → Int32} (hs : ma_ii pc L st M a b f = .inl (al, df)) (hP : ma_sel (sd_P p l e R s m args below meth cd Q s0 dC dI adK adV ov nL A M) False df al)
    (row : ∀ (x y : Int32) (r : List Value), W p l e R s m args below meth cd H locs a b Q (F0 m (pc + 1) ls (.int (f x y) :: r)) → W p l e R s m args below meth cd H locs a b Q (F0 m pc ls (.int y :: .int x :: r))) : W p l e R s m args below meth cd H locs a b Q (F0 m pc ls (st.map (sd_v A ov))) := by
  unfold ma_ii at hs
  split at hs
  · unfold ma_nx at hs
    cases hs
    exact row _ _ _ (sd_nx B hP (sd_vs.cons trivial B.2.2.1.tail.tail))
  · unfold ma_no at hs
    cases hs
    exact hP.elim
theorem sd_iz (B : sd_B s0 dC dI adK adV ov nL A M L st H locs ls) {f : Int32 → Int32 → Int32} (hs : ma_iz pc L st M a b f = .inl (al, df)) (hP : ma_sel (sd_P p l e R s m args below meth cd Q s0 dC dI adK adV ov nL A M) False df al)
    (row : ∀ (x y : Int32) (r : List Value), ¬ y = 0 → W p l e R s m args below meth cd H locs a b Q (F0 m (pc + 1) ls (.int (f x y) :: r)) → W p l e R s m args below meth cd H locs a b Q (F0 m pc ls (.int y :: .int x :: r))) : W p l e R s m args below meth cd H locs a b Q (F0 m pc ls (st.map (sd_v A ov))) := by
  unfold ma_iz at hs
  split at hs
  · rename_i y x r
    unfold ma_gd at hs
    cases hs
    by_cases h0 : y = 0
    · simp [ma_sel, h0] at hP
    · have hP' : sd_P p l e R s m args below meth cd Q s0 dC dI adK adV ov nL A M (pc + 1, L, .inl (f x y) :: r, M, a, b) := by simpa [ma_sel, h0] using hP
      exact row _ _ _ h0 (sd_nx B hP' (sd_vs.cons trivial B.2.2.1.tail.tail))
  · unfold ma_no at hs
    cases hs
    exact hP.elim
theorem sd_i1 (B : sd_B s0 dC dI adK adV ov nL A M L st H locs ls) {f : Int32 → Int32} (hs : ma_i1 pc L st M a b f = .inl (al, df)) (hP : ma_sel (sd_P p l e R s m args below meth cd Q s0 dC dI adK adV ov nL A M) False df al)
    (row : ∀ (x : Int32) (r : List Value), W p l e R s m args below meth cd H locs a b Q (F0 m (pc + 1) ls (.int (f x) :: r)) → W p l e R s m args below meth cd H locs a b Q (F0 m pc ls (.int x :: r))) : W p l e R s m args below meth cd H locs a b Q (F0 m pc ls (st.map (sd_v A ov))) := by
  unfold ma_i1 at hs
  split at hs
  · unfold ma_nx at hs
    cases hs
    exact row _ _ (sd_nx B hP (sd_vs.cons trivial B.2.2.1.tail))
  · unfold ma_no at hs
    cases hs
    exact hP.elim
theorem sd_ll (B : sd_B s0 dC dI adK adV ov nL A M L st H locs ls) {f : Int64 → Int64 → Int64} (hs : ma_ll pc L st M a b f = .inl (al, df)) (hP : ma_sel (sd_P p l e R s m args below meth cd Q s0 dC dI adK adV ov nL A M) False df al)
    (row : ∀ (x y : Int64) (r : List Value), W p l e R s m args below meth cd H locs a b Q (F0 m (pc + 1) ls (.long (f x y) :: r)) → W p l e R s m args below meth cd H locs a b Q (F0 m pc ls (.long y :: .long x :: r))) : W p l e R s m args below meth cd H locs a b Q (F0 m pc ls (st.map (sd_v A ov))) := by
  unfold ma_ll at hs
  split at hs
  · unfold ma_nx at hs
    cases hs
    exact row _ _ _ (sd_nx B hP (sd_vs.cons trivial B.2.2.1.tail.tail))
  · unfold ma_no at hs
    cases hs
    exact hP.elim
theorem sd_lz (B : sd_B s0 dC dI adK adV ov nL A M L st H locs ls) {f : Int64 → Int64 → Int64} (hs : ma_lz pc L st M a b f = .inl (al, df)) (hP : ma_sel (sd_P p l e R s m args below meth cd Q s0 dC dI adK adV ov nL A M) False df al)
    (row : ∀ (x y : Int64) (r : List Value), ¬ y = 0 → W p l e R s m args below meth cd H locs a b Q (F0 m (pc + 1) ls (.long (f x y) :: r)) → W p l e R s m args below meth cd H locs a b Q (F0 m pc ls (.long y :: .long x :: r))) : W p l e R s m args below meth cd H locs a b Q (F0 m pc ls (st.map (sd_v A ov))) := by
  unfold ma_lz at hs
  split at hs
  · rename_i y x r
    unfold ma_gd at hs
    cases hs
    by_cases h0 : y = 0
    · simp [ma_sel, h0] at hP
    · have hP' : sd_P p l e R s m args below meth cd Q s0 dC dI adK adV ov nL A M (pc + 1, L, .inr (.inl (f x y)) :: r, M, a, b) := by simpa [ma_sel, h0] using hP
      exact row _ _ _ h0 (sd_nx B hP' (sd_vs.cons trivial B.2.2.1.tail.tail))
  · unfold ma_no at hs
    cases hs
    exact hP.elim
theorem sd_go1 (hx : p.tables.exec = Jvm.exec) (hb : cd.code = cc) (B : sd_B s0 dC dI adK adV ov nL A M L st H locs ls) {o : Int} (hs : ma_go1 pc L st M a b o = .inl (al, df)) (hP : ma_sel (sd_P p l e R s m args below meth cd Q s0 dC dI adK adV ov nL A M) False df al)
    (hd : decode cc pc = .ok (.goto o, 3)) : W p l e R s m args below meth cd H locs a b Q (F0 m pc ls (st.map (sd_v A ov))) := by
  unfold ma_go1 at hs
  split at hs
  · rename_i t ht
    unfold ma_nx at hs
    cases hs
    exact lv_goto hx hb hd ht (sd_nx B hP B.2.2.1)
  · unfold ma_no at hs
    cases hs
    exact hP.elim
theorem sd_if (B : sd_B s0 dC dI adK adV ov nL A M L st H locs ls) {k : Jvm.ClassFile.Cond} {o : Int} (hs : ma_if pc L st M a b k o = .inl (al, df)) (hP : ma_sel (sd_P p l e R s m args below meth cd Q s0 dC dI adK adV ov nL A M) False df al)
    (row : ∀ (x : Int32) (t : Nat) (r : List Value), (pc : Int) + o = (t : Int) → (ma_c1 k x = true → W p l e R s m args below meth cd H locs a b Q (F0 m t ls r)) → (ma_c1 k x = false → W p l e R s m args below meth cd H locs a b Q (F0 m (pc + 3) ls r)) → W p l e R s m args below meth cd H locs a b Q (F0 m pc ls (.int x :: r))) : W p l e R s m args below meth cd H locs a b Q (F0 m pc ls (st.map (sd_v A ov))) := by
  unfold ma_if at hs
  split at hs
  · rename_i t x r ht
    unfold ma_br at hs
    cases hs
    refine row x t _ ht (fun hc => sd_nx B ?_ B.2.2.1.tail) (fun hc => sd_nx B ?_ B.2.2.1.tail)
    · simpa [ma_sel, hc] using hP
    · simpa [ma_sel, hc] using hP
  · unfold ma_no at hs
    cases hs
    exact hP.elim
theorem sd_ic (B : sd_B s0 dC dI adK adV ov nL A M L st H locs ls) {k : Jvm.ClassFile.Cond} {o : Int} (hs : ma_ic pc L st M a b k o = .inl (al, df)) (hP : ma_sel (sd_P p l e R s m args below meth cd Q s0 dC dI adK adV ov nL A M) False df al)
    (row : ∀ (x y : Int32) (t : Nat) (r : List Value), (pc : Int) + o = (t : Int) → (ma_c2 k x y = true → W p l e R s m args below meth cd H locs a b Q (F0 m t ls r)) → (ma_c2 k x y = false → W p l e R s m args below meth cd H locs a b Q (F0 m (pc + 3) ls r)) → W p l e R s m args below meth cd H locs a b Q (F0 m pc ls (.int y :: .int x :: r))) : W p l e R s m args below meth cd H locs a b Q (F0 m pc ls (st.map (sd_v A ov))) := by
  unfold ma_ic at hs
  split at hs
  · rename_i t y x r ht
    unfold ma_br at hs
    cases hs
    refine row x y t _ ht (fun hc => sd_nx B ?_ B.2.2.1.tail.tail) (fun hc => sd_nx B ?_ B.2.2.1.tail.tail)
    · simpa [ma_sel, hc] using hP
    · simpa [ma_sel, hc] using hP
  · unfold ma_no at hs
    cases hs
    exact hP.elim
theorem sd_if_row (hx : p.tables.exec = Jvm.exec) (hb : cd.code = cc) {k : Jvm.ClassFile.Cond} {o : Int} (hd : decode cc pc = .ok (.ifCond k o, 3)) (x : Int32) (t : Nat) (r : List Value) (ht : (pc : Int) + o = (t : Int)) (h1 : ma_c1 k x = true → W p l e R s m args below meth cd H locs a b Q (F0 m t ls r)) (h2 : ma_c1 k x = false → W p l e R s m args below meth cd H locs a b Q (F0 m (pc + 3) ls r)) : W p l e R s m args below meth cd H locs a b Q (F0 m pc ls (.int x :: r)) := by
  cases k
  · exact lv_if_eq hx hb hd ht (fun c => h1 (by simp [ma_c1, c])) (fun c => h2 (by simp [ma_c1, c]))
  · exact lv_if_ne hx hb hd ht (fun c => h1 (by simp [ma_c1, c])) (fun c => h2 (by simp [ma_c1, c]))
  · exact lv_if_lt hx hb hd ht (fun c => h1 (by simp [ma_c1, c])) (fun c => h2 (by simp only [ma_c1, decide_eq_false_iff_not]; exact c))
  · exact lv_if_ge hx hb hd ht (fun c => h1 (by simp [ma_c1, c])) (fun c => h2 (by simp only [ma_c1, decide_eq_false_iff_not]; exact c))
  · exact lv_if_gt hx hb hd ht (fun c => h1 (by simp [ma_c1, c])) (fun c => h2 (by simp only [ma_c1, decide_eq_false_iff_not]; exact c))
  · exact lv_if_le hx hb hd ht (fun c => h1 (by simp [ma_c1, c])) (fun c => h2 (by simp only [ma_c1, decide_eq_false_iff_not]; exact c))
theorem sd_ic_row (hx : p.tables.exec = Jvm.exec) (hb : cd.code = cc) {k : Jvm.ClassFile.Cond} {o : Int} (hd : decode cc pc = .ok (.if_icmp k o, 3)) (x y : Int32) (t : Nat) (r : List Value) (ht : (pc : Int) + o = (t : Int)) (h1 : ma_c2 k x y = true → W p l e R s m args below meth cd H locs a b Q (F0 m t ls r)) (h2 : ma_c2 k x y = false → W p l e R s m args below meth cd H locs a b Q (F0 m (pc + 3) ls r)) : W p l e R s m args below meth cd H locs a b Q (F0 m pc ls (.int y :: .int x :: r)) := by
  cases k
  · exact lv_icmp_eq hx hb hd ht (fun c => h1 (by simp [ma_c2, c])) (fun c => h2 (by simp [ma_c2, c]))
  · exact lv_icmp_ne hx hb hd ht (fun c => h1 (by simp [ma_c2, c])) (fun c => h2 (by simp [ma_c2, c]))
  · exact lv_icmp_lt hx hb hd ht (fun c => h1 (by simp [ma_c2, c])) (fun c => h2 (by simp only [ma_c2, decide_eq_false_iff_not]; exact c))
  · exact lv_icmp_ge hx hb hd ht (fun c => h1 (by simp [ma_c2, c])) (fun c => h2 (by simp only [ma_c2, decide_eq_false_iff_not]; exact c))
  · exact lv_icmp_gt hx hb hd ht (fun c => h1 (by simp [ma_c2, c])) (fun c => h2 (by simp only [ma_c2, decide_eq_false_iff_not]; exact c))
  · exact lv_icmp_le hx hb hd ht (fun c => h1 (by simp [ma_c2, c])) (fun c => h2 (by simp only [ma_c2, decide_eq_false_iff_not]; exact c))
end SDR

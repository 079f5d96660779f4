/-! ===== soundness: a run of the machine is a run of the JVM ===== -/
theorem sd_rg {n k : Nat} {α : Type} {f g : Nat → α} (h : (List.range n).map f = (List.range n).map g) (hk : k < n) : f k = g k := by
  have h1 := congrArg (fun l => l[k]?) h
  simpa [hk] using h1
theorem sd_m1 {z : Nat} (hz : z < 192) : Cond.code (mt_mn z) (mt_cd z) (mt_ml.getD z 0) (mt_ret.getD z none) ∈ lw_tbl := by
  obtain ⟨p, hp⟩ := ck_all ck_code z (List.mem_range.mpr hz)
  exact mt_w_mem hp
theorem sd_m2 {z : Nat} (hz : z < 192) : Cond.initialized (mt_mn z).cls ∈ lw_tbl := by
  obtain ⟨p, hp⟩ := ck_all ck_init z (List.mem_range.mpr hz)
  exact mt_w_mem hp
theorem sd_m3 {z : Nat} (hz : z < 193) : mt_cn.getD (mt_own.getD z 0) "" = (mt_mn z).cls := sd_rg ck_own hz
theorem sd_m4 {z : Nat} (hz : z < 193) : Jvm.plainName (mt_mn z).cls = true ∧ (mt_mn z).cls ≠ "java/lang/invoke/MethodHandle" ∧ (mt_mn z).cls ≠ "java/lang/invoke/VarHandle" := by
  have h1 := List.all_eq_true.mp ck_po z (List.mem_range.mpr hz)
  rw [Bool.and_eq_true] at h1
  have h2 := List.all_eq_true.mp ck_pn (mt_own.getD z 0) (List.mem_range.mpr (Nat.le_of_ble_eq_true h1.2))
  rw [Bool.not_eq_true'] at h1
  rw [h1.1, Bool.false_or] at h2
  simp only [Bool.and_eq_true, decide_eq_true_eq] at h2
  rw [← sd_m3 hz]
  exact ⟨h2.1.1, h2.1.2, h2.2⟩
theorem sd_m5 {z : Nat} (hz : z < 193) : (∀ sig, parseMethodDescriptor (mt_mn z).desc = some sig → sig.parameters.length + (bif mt_sta.getD z false then 0 else 1) = mt_na.getD z 0) ∧ mt_ml.getD z 0 ≤ 40 := by
  have h1 := List.all_eq_true.mp ck_dm z (List.mem_range.mpr hz)
  simp only [Bool.and_eq_true] at h1
  obtain ⟨⟨e1, e2⟩, e3⟩ := h1
  have e1 := Nat.eq_of_beq_eq_true e1
  have e2 := Nat.le_of_ble_eq_true e2
  refine ⟨fun sig hs => ?_, e2⟩
  have hd : (mt_mn z).desc = (mt_ds.getD (mt_dn.getD z 0) ("", 0)).1 := sd_rg ck_dn hz
  have hl : mt_dn.getD z 0 < mt_ds.length := Nat.le_of_ble_eq_true e3
  have h2 := congrArg (fun l => l[mt_dn.getD z 0]?) ck_ds
  simp only [List.getElem?_map, List.getElem?_eq_getElem hl, Option.map_some] at h2
  have h3 : mt_ds.getD (mt_dn.getD z 0) ("", 0) = mt_ds[mt_dn.getD z 0] := by rw [List.getD_eq_getElem?_getD, List.getElem?_eq_getElem hl]; rfl
  rw [hd, h3] at hs
  rw [hs] at h2
  have h4 : sig.parameters.length = mt_ds[mt_dn.getD z 0].2 := by simpa using h2
  rw [e1, h3, h4]
theorem sd_m6 {z : Nat} (hz : z < 192) : (bif mt_sta.getD z false then Cond.static (mt_mn z) else Cond.instanceMethod (mt_mn z)) ∈ lw_tbl := by
  obtain ⟨p, hp⟩ := ck_all ck_sta z (List.mem_range.mpr hz)
  exact mt_w_mem hp
theorem sd_m7 {z : Nat} (h : mt_vir.contains z = true) : Cond.selects (mt_mn z).cls (mt_mn z) (mt_mn z) ∈ lw_tbl := by
  obtain ⟨p, hp⟩ := ck_all ck_sel z (by simpa using h)
  exact mt_w_mem hp
theorem sd_m8 {z : Nat} (hz : z < 193) (h : mt_ini.getD z false = true) : (mt_mn z).name = "<init>" := by
  have h1 := List.all_eq_true.mp ck_ctr2 z (List.mem_range.mpr hz)
  rw [h] at h1
  have h2 : z ∈ mt_ctr := by simpa using h1
  obtain ⟨k, hk⟩ := List.getElem?_of_mem h2
  have h3 := congrArg (fun l => l[k]?) ck_ctr
  simpa [hk] using h3
section SDE
variable {A : Nat → Nat → Nat} {ov : Value}
theorem sd_args_mem (hov : ov.category = 1) : ∀ (as : List ma_V) (k0 k : Nat) (v : ma_V), (ma_args as)[k]? = some (some v) → (k0 + k, sd_v A ov v) ∈ lv_args k0 (as.map (sd_v A ov))
  | [], k0, k, v, h => by simp [ma_args] at h
  | .inl x :: r, k0, k, v, h => by
    have hc : (sd_v A ov (.inl x)).category = 1 := rfl
    rw [List.map_cons]
    unfold lv_args
    rw [if_neg (by rw [hc]; decide)]
    cases k with
    | zero =>
      simp [ma_args] at h
      subst h
      exact List.mem_cons_self
    | succ k =>
      have h' : (ma_args r)[k]? = some (some v) := by simpa [ma_args] using h
      rw [show k0 + (k + 1) = k0 + 1 + k by omega]
      exact List.mem_cons_of_mem _ (sd_args_mem hov r (k0 + 1) k v h')
  | .inr (.inr q) :: r, k0, k, v, h => by
    have hc : (sd_v A ov (.inr (.inr q))).category = 1 := sd_cat1 hov q
    rw [List.map_cons]
    unfold lv_args
    rw [if_neg (by rw [hc]; decide)]
    cases k with
    | zero =>
      simp [ma_args] at h
      subst h
      exact List.mem_cons_self
    | succ k =>
      have h' : (ma_args r)[k]? = some (some v) := by simpa [ma_args] using h
      rw [show k0 + (k + 1) = k0 + 1 + k by omega]
      exact List.mem_cons_of_mem _ (sd_args_mem hov r (k0 + 1) k v h')
  | .inr (.inl x) :: r, k0, k, v, h => by
    have hc : (sd_v A ov (.inr (.inl x))).category = 2 := rfl
    rw [List.map_cons]
    unfold lv_args
    rw [if_pos hc]
    match k, h with
    | 0, h =>
      simp [ma_args] at h
      subst h
      exact List.mem_cons_self
    | 1, h => simp [ma_args] at h
    | k + 2, h =>
      have h' : (ma_args r)[k]? = some (some v) := by simpa [ma_args] using h
      rw [show k0 + (k + 2) = k0 + 2 + k by omega]
      exact List.mem_cons_of_mem _ (sd_args_mem hov r (k0 + 2) k v h')
theorem sd_sl_cons (v : Value) (vs : List Value) : (lg_sl (v :: vs)).length = (if v.category = 2 then 2 else 1) + (lg_sl vs).length := by
  unfold lg_sl
  rw [List.flatMap_cons, List.length_append]
  split <;> rfl
theorem sd_args_len (hov : ov.category = 1) : ∀ as : List ma_V, (lg_sl (as.map (sd_v A ov))).length = (ma_args as).length
  | [] => rfl
  | .inl x :: r => by
    rw [List.map_cons, sd_sl_cons, sd_args_len hov r]
    show _ = (ma_args r).length + 1
    rw [if_neg (by show ¬ 1 = 2; decide)]
    omega
  | .inr (.inr q) :: r => by
    rw [List.map_cons, sd_sl_cons, sd_args_len hov r]
    show _ = (ma_args r).length + 1
    rw [if_neg (by rw [show (sd_v A ov (.inr (.inr q))).category = 1 from sd_cat1 hov q]; decide)]
    omega
  | .inr (.inl x) :: r => by
    rw [List.map_cons, sd_sl_cons, sd_args_len hov r]
    show _ = (ma_args r).length + 1 + 1
    rw [if_pos (by show 2 = 2; rfl)]
    omega
theorem sd_args_ok {M : ma_M} : ∀ (as : List ma_V) (v : ma_V), some v ∈ ma_args as → v ∈ as
  | [], v, h => by simp [ma_args] at h
  | .inl x :: r, v, h => by
    rcases List.mem_cons.mp h with e | e
    · cases e; exact List.mem_cons_self
    · exact List.mem_cons_of_mem _ (sd_args_ok (M := M) r v e)
  | .inr (.inr q) :: r, v, h => by
    rcases List.mem_cons.mp h with e | e
    · cases e; exact List.mem_cons_self
    · exact List.mem_cons_of_mem _ (sd_args_ok (M := M) r v e)
  | .inr (.inl x) :: r, v, h => by
    rcases List.mem_cons.mp h with e | e
    · cases e; exact List.mem_cons_self
    · rcases List.mem_cons.mp e with e | e
      · cases e
      · exact List.mem_cons_of_mem _ (sd_args_ok (M := M) r v e)
theorem sd_entry (hov : ov.category = 1) {as : List ma_V} {n : Nat} (h : (ma_args as).length ≤ n) : sd_L A ov ((lg_sl (as.map (sd_v A ov)) ++ List.replicate (n - (lg_sl (as.map (sd_v A ov))).length) Slot.unset).toArray) n (ma_args as ++ List.replicate (n - (ma_args as).length) none) := by
  have h1 := lv_entry (as.map (sd_v A ov)) (n := n) (by rw [sd_args_len hov]; exact h)
  refine ⟨by simp; omega, h1.1, h1.2.1, fun q hq => ?_⟩
  obtain ⟨v, e1, e2⟩ := sd_lv_mem.mp (show (q.1, q.2) ∈ _ from hq)
  refine h1.2.2 q ?_
  have h2 : (ma_args as)[q.1]? = some (some v) := by
    rcases Nat.lt_or_ge q.1 (ma_args as).length with w | w
    · rw [List.getElem?_append_left w] at e1
      exact e1
    · rw [List.getElem?_append_right w] at e1
      have := List.mem_of_getElem? e1
      rw [List.mem_replicate] at this
      cases this.2
  have h3 := sd_args_mem (A := A) hov as 0 q.1 v h2
  rw [Nat.zero_add, ← e2] at h3
  exact h3
end SDE
def sd_rm (d z : Nat) : Room := { frames := d + 1, cells := (mt_mc.getD z (0, 0)).1, slots := (mt_mc.getD z (0, 0)).2, locals := 64 * (d + 1) }
def sd_Pc (s0 : State) (dC : Nat → ClassId) (dI : Nat → Nat → Nat) (adK adV : Nat → Nat) (ov : Value) (A : Nat → Nat → Nat) (M : ma_M) (as : List ma_V) : Array Value → State → Prop := fun v U => v = (as.map (sd_v A ov)).toArray ∧ s0.WarmedH U.vm ∧ sd_W s0 dC dI adK adV ov A M U.heap
def sd_Qc (s0 : State) (dC : Nat → ClassId) (dI : Nat → Nat → Nat) (adK adV : Nat → Nat) (ov : Value) (A : Nat → Nat → Nat) (M : ma_M) (r : Option ma_V) (M' : ma_M) : Array Value → State → Outcome → State → Prop := fun _ _ oc t => ∃ A' : Nat → Nat → Nat, sd_ext A M A' M' ∧ sd_W s0 dC dI adK adV ov A' M' t.heap ∧ (∀ v, r = some v → sd_okv M' v) ∧ oc = .returned (r.map (sd_v A' ov))
/-- the instruction is the return of such an answer -/
def sd_isr (y : Nat) (i : Instr) (r : Option ma_V) : Prop := (i = .return_ ∧ r = none ∧ (mt_ret.getD y none).isNone = true) ∨ (i = .ireturn ∧ ∃ v, r = some (.inl v) ∧ ma_rok (mt_ret.getD y none) v = true) ∨ (i = .lreturn ∧ ∃ v, r = some (.inr (.inl v)) ∧ ma_rlo (mt_ret.getD y none) = true) ∨ (i = .areturn ∧ ∃ q, r = some (.inr (.inr q)) ∧ ma_nn q = true ∧ ma_rob (mt_ret.getD y none) = true)
def sd_End (p : Program) (l : Launch) (e : Env) (R : Room) (s : State) (m : MethodId) (args : Array Value) (below : List Frame) (meth : Method) (cd : Code) (Q : State → Prop) (s0 : State) (dC : Nat → ClassId) (dI : Nat → Nat → Nat) (adK adV : Nat → Nat) (ov : Value) (y : Nat) (A : Nat → Nat → Nat) (M : ma_M) (r : Option ma_V) (M' : ma_M) : Prop :=
  ∀ (A' : Nat → Nat → Nat) (H' : Heap) (locs' : List Loc) (ls' : Array Slot) (pc' : Nat) (i : Instr) (a' b' : Nat), sd_W s0 dC dI adK adV ov A' M' H' → sd_ext A M A' M' → (∀ v, r = some v → sd_okv M' v) → (∀ q ∈ locs', s0.heap.size ≤ q.base) → a' ≤ (mt_mc.getD y (0, 0)).1 → b' ≤ (mt_mc.getD y (0, 0)).2 → decode (mt_code.getD y ⟨#[]⟩) pc' = .ok (i, 1) → sd_isr y i r → W p l e R s m args below meth cd H' locs' a' b' Q (F0 m pc' ls' (r.toList.map (sd_v A' ov)))
def sd_R (R : Room) (d y : Nat) : Prop := d + 1 ≤ R.frames ∧ 64 * (d + 1) ≤ R.locals ∧ (mt_mc.getD y (0, 0)).1 ≤ R.cells ∧ (mt_mc.getD y (0, 0)).2 ≤ R.slots
/-- what the induction says of a run -/
def sd_T (l : Launch) (s0 : State) (dC : Nat → ClassId) (dI : Nat → Nat → Nat) (adK adV : Nat → Nat) (ov : Value) (d y : Nat) (c : ma_C) (r : Option ma_V) (M' : ma_M) : Prop :=
  ∀ (A : Nat → Nat → Nat) (p : Program) (e : Env) (R : Room) (s : State) (m : MethodId) (args : Array Value) (below : List Frame) (meth : Method) (cd : Code) (H : Heap) (locs : List Loc) (Q : State → Prop) (ls : Array Slot), sd_F p s m meth cd y s0 → sd_R R d y → sd_B s0 dC dI adK adV ov (mt_ml.getD y 0) A c.2.2.2.1 c.2.1 c.2.2.1 H locs ls → sd_End p l e R s m args below meth cd Q s0 dC dI adK adV ov y A c.2.2.2.1 r M' → W p l e R s m args below meth cd H locs c.2.2.2.2.1 c.2.2.2.2.2 Q (F0 m c.1 ls (c.2.2.1.map (sd_v A ov)))
theorem sd_met {l : Launch} {s0 : State} {dC : Nat → ClassId} {dI : Nat → Nat → Nat} {adK adV : Nat → Nat} {ov : Value} (hov : ov.category = 1) {d z : Nat} {as : List ma_V} {M M' : ma_M} {r : Option ma_V} {A : Nat → Nat → Nat} (hz : z < 192) (hvs : sd_vs M as) (hal : (ma_args as).length ≤ mt_ml.getD z 0)
    (T : sd_T l s0 dC dI adK adV ov d z (ma_ini z as M) r M') : Met l (mt_mn z) [Cond.code (mt_mn z) (mt_cd z) (mt_ml.getD z 0) (mt_ret.getD z none)] (sd_rm d z) (sd_Pc s0 dC dI adK adV ov A M as) (sd_Qc s0 dC dI adK adV ov A M r M') (mt_mc.getD z (0, 0)).1 (mt_mc.getD z (0, 0)).2 (fun q => s0.heap.size ≤ q) := by
  refine Met.ofW (cc := mt_cd z) (maxL := mt_ml.getD z 0) (ret := mt_ret.getD z none) (sd_m4 (by omega)).1 rfl ?_
  intro p e s m args below meth c s₁ B hml hv
  obtain ⟨hargs, hW, hw⟩ := hv
  subst hargs
  have hx := B.exec
  have hb : c.code = mt_cd z := B.bytes
  have hr := B.returns
  have hlocks := B.notSynchronized
  have hown : s.vm.findClass (mt_mn z).cls = some m.cls := findClass_of_methodNamed B.named
  have F : sd_F p s m meth c z s0 := ⟨hx, hb, hml, by rw [sd_m3 (by omega)]; exact hown, fun h => by rw [(name_of_methodNamed B.named B.method).1]; exact sd_m8 (by omega) h, hW⟩
  rw [lg_entry_eq]
  refine T A p e _ s m _ below meth c s.heap [] _ _ F ⟨Nat.le_refl _, Nat.le_refl _, Nat.le_refl _, Nat.le_refl _⟩ ⟨hw, sd_entry hov hal, (fun v h => by cases h), (fun v h => ?_), (fun q h => by cases h)⟩ ?_
  · rcases List.mem_append.mp h with w | w
    · exact hvs v (sd_args_ok (M := M) as v w)
    · rw [List.mem_replicate] at w
      cases w.2
  · intro A' H' locs' ls' pc' i a' b' hw' hx' hok hlo ha hb' hd his
    refine W.widen ha hb' ?_
    have hq : ∀ t : State, t.heap = H' → s.WarmedH t.vm → sd_Qc s0 dC dI adK adV ov A M r M' ((as.map (sd_v A ov)).toArray) s (.returned (r.map (sd_v A' ov))) t := fun t ht _ => ⟨A', hx', by rw [ht]; exact hw', hok, rfl⟩
    rcases his with ⟨rfl, rfl, h3⟩ | ⟨rfl, v, rfl, h3⟩ | ⟨rfl, v, rfl, h3⟩ | ⟨rfl, q, rfl, h3, h5⟩
    · have hn : mt_ret.getD z none = none := by simpa using h3
      exact W.vret hx hb (by rw [hr, hn]) hq hlo hd hlocks
    · cases ht : mt_ret.getD z none with
      | none => rw [ht] at h3; cases h3
      | some ty =>
        rw [ht] at h3 hr
        cases ty <;> first | (cases h3; done) | skip
        case byte => exact W.zret hx hb hr (by show Value.int v.toInt8.toInt32 = .int v; rw [of_decide_eq_true h3]) hq hlo hd hlocks
        case char => exact W.zret hx hb hr (sd_narC (of_decide_eq_true h3)) hq hlo hd hlocks
        case int => exact W.iret hx hb hr hq hlo hd hlocks
        case boolean => exact W.zret hx hb hr (sd_b01 h3).1 hq hlo hd hlocks
    · cases ht : mt_ret.getD z none with
      | none => rw [ht] at h3; cases h3
      | some ty =>
        rw [ht] at h3 hr
        cases ty <;> first | (cases h3; done) | exact W.lret hx hb hr hq hlo hd hlocks
    · cases ht : mt_ret.getD z none with
      | none => rw [ht] at h5; cases h5
      | some ty =>
        rw [ht] at h5 hr
        cases ty <;> first | (cases h5; done) | skip
        case object nm =>
          have e1 : sd_v A' ov (.inr (.inr q)) = .ref (A' q.1 q.2) := (sd_r_nn (A := A') (ov := ov) h3).1
          have hq' : ∀ t : State, t.heap = H' → s.WarmedH t.vm → sd_Qc s0 dC dI adK adV ov A M (some (.inr (.inr q))) M' ((as.map (sd_v A ov)).toArray) s (.returned (some (.ref (A' q.1 q.2)))) t := fun t ht hWt => by have := hq t ht hWt; rw [Option.map_some, e1] at this; exact this
          show W p l e _ s m _ below meth c H' locs' _ _ _ (F0 m pc' ls' [sd_v A' ov (.inr (.inr q))])
          rw [e1]
          exact W.aret hx hb hr (Or.inl ⟨_, rfl⟩) (Or.inr ⟨_, rfl⟩) hq' hlo hd hlocks

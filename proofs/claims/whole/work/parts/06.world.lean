/-! ===== the world of the machine's memory in the heap ===== -/
def sd_r (A : Nat → Nat → Nat) (ov : Value) (q : Nat × Nat) : Value := if q.1 = 0 then .null else if q.1 = 4 then ov else .ref (A q.1 q.2)
def sd_v (A : Nat → Nat → Nat) (ov : Value) : ma_V → Value
  | .inl x => .int x
  | .inr (.inl x) => .long x
  | .inr (.inr q) => sd_r A ov q
def sd_ok (M : ma_M) (q : Nat × Nat) : Prop := q.1 = 0 ∨ q.1 = 4 ∨ q.2 < M.1 q.1
def sd_okv (M : ma_M) : ma_V → Prop
  | .inr (.inr q) => sd_ok M q
  | _ => True
def sd_rf (g j : Nat) : Bool := bif Nat.ble 100 (ma_gk g) then ma_rf (ma_gk g - 100) j else (Nat.ble 10 (ma_gk g) && Nat.blt j (ma_gl g))
def sd_slot (A : Nat → Nat → Nat) (ov : Value) (M : ma_M) (g i j : Nat) : Value := bif sd_rf g j then sd_r A ov (M.2.2 g i j) else .int (M.2.1 g i j)
def sd_ety (g : Nat) : FieldType := match ma_gk g with
  | 1 => .int
  | 2 => .boolean
  | 3 => .char
  | 4 => .byte
  | k => .object (mt_cn.getD (k - 10) "")
def sd_at (s0 : State) (dC : Nat → ClassId) (dI : Nat → Nat → Nat) (A : Nat → Nat → Nat) (ov : Value) (M : ma_M) (H : Heap) (g i : Nat) : Prop :=
  bif Nat.ble 100 (ma_gk g) then t_OB (A g i) (dC (ma_gk g - 100)) (ma_gl g) (dI (ma_gk g - 100)) H (sd_slot A ov M g i)
  else bif Nat.ble 5 g then ∃ cA : ClassId, H[A g i]? = some (arrV cA (ma_gl g) (sd_slot A ov M g i)) ∧ ArrOfT s0 cA (sd_ety g) ∧ va_RA s0 cA (sd_ety g)
  else va_T (sd_ety g) (A g i) (ma_len M g i) (sd_slot A ov M g i) (fun _ => False) s0 H
def sd_W (s0 : State) (dC : Nat → ClassId) (dI : Nat → Nat → Nat) (adK adV : Nat → Nat) (ov : Value) (A : Nat → Nat → Nat) (M : ma_M) (H : Heap) : Prop :=
  (∀ g i, i < M.1 g → g ≠ 2 → sd_at s0 dC dI A ov M H g i) ∧
  (∀ g i, i < M.1 g → A g i < H.size ∧ (5 ≤ g → s0.heap.size ≤ A g i) ∧ (g < 5 → A g i < s0.heap.size)) ∧
  (∀ g i h k, 5 ≤ g → 5 ≤ h → i < M.1 g → k < M.1 h → A g i = A h k → g = h ∧ i = k) ∧
  (∀ g i j, i < M.1 g → sd_rf g j = true → sd_ok M (M.2.2 g i j)) ∧
  (∀ q, q < s0.heap.size → H[q]? = s0.heap[q]?) ∧ s0.heap.size ≤ H.size ∧
  (∀ i, i < 13 → A 2 i = adK i ∧ A 3 i = adV i) ∧ (∀ g, ma_gk g = 0 → M.1 g = 0) ∧ M.1 2 = 13 ∧ M.1 3 = 13
theorem sd_arrV {cA : ClassId} {N : Nat} {f f' : Nat → Value} (h : ∀ j, j < N → f j = f' j) : arrV cA N f = arrV cA N f' := by
  unfold arrV
  have e : (fun j : Fin N => f j.val) = (fun j : Fin N => f' j.val) := funext (fun j => h j.val j.isLt)
  rw [e]
/-- what is known of the law's start -/
def sd_Z (s0 : State) (a0 : Array Value) (dC : Nat → ClassId) (dI : Nat → Nat → Nat) (adK adV : Nat → Nat) (ov : Value) : Prop :=
  (∀ w ∈ lw_tbl, w.before a0 s0 = true) ∧ (∀ (c : Nat) (q : vw_C), ma_cls[c]? = some q → u_Kn s0 q.1 q.2.1 q.2.2 (dC c) (dI c)) ∧
  (∀ i, i < 13 → va_O "java/lang/String" (adK i) (fun q => s0.heap.size ≤ q) s0 s0.heap ∧ va_OF "java/lang/String" "coder" "B" (.int 0) (adK i) (fun q => s0.heap.size ≤ q) s0 s0.heap ∧ va_OF "java/lang/String" "value" "[B" (.ref (adV i)) (adK i) (fun q => s0.heap.size ≤ q) s0 s0.heap) ∧
  (∀ (own : Nat) (e : Nat × Nat × Nat), e ∈ mt_st.getD own [] → ∃ tx, vk_R (mt_cn.getD own "") e.1 tx (adK e.2.1) s0) ∧
  va_Z "java/lang/String" "COMPACT_STRINGS" "Z" (.int 1) (fun q => s0.heap.size ≤ q) s0 s0.heap ∧
  va_Z "jdk/internal/util/Preconditions" "SIOOBE_FORMATTER" "Ljava/util/function/BiFunction;" ov (fun q => s0.heap.size ≤ q) s0 s0.heap
/-- what is known of the frame of a call of y -/
def sd_F (p : Program) (s : State) (m : MethodId) (meth : Method) (cd : Code) (y : Nat) (s0 : State) : Prop :=
  p.tables.exec = Jvm.exec ∧ cd.code = mt_code.getD y ⟨#[]⟩ ∧ cd.maxLocals = mt_ml.getD y 0 ∧ s.vm.findClass (mt_cn.getD (mt_own.getD y 0) "") = some m.cls ∧ (mt_ini.getD y false = true → meth.name = "<init>") ∧ s0.WarmedH s.vm
def sd_ext (A : Nat → Nat → Nat) (M : ma_M) (A' : Nat → Nat → Nat) (M' : ma_M) : Prop := (∀ g, M.1 g ≤ M'.1 g) ∧ ∀ g i, i < M.1 g → A' g i = A g i
theorem sd_ext.rf {A : Nat → Nat → Nat} {M : ma_M} : sd_ext A M A M := ⟨fun _ => Nat.le_refl _, fun _ _ _ => rfl⟩
theorem sd_ext.n {A : Nat → Nat → Nat} {M M' : ma_M} (h : M'.1 = M.1) : sd_ext A M A M' := ⟨fun g => by rw [h]; exact Nat.le_refl _, fun _ _ _ => rfl⟩
theorem sd_ext.trans {A A' A'' : Nat → Nat → Nat} {M M' M'' : ma_M} (h : sd_ext A M A' M') (h' : sd_ext A' M' A'' M'') : sd_ext A M A'' M'' :=
  ⟨fun g => Nat.le_trans (h.1 g) (h'.1 g), fun g i hi => (h'.2 g i (Nat.lt_of_lt_of_le hi (h.1 g))).trans (h.2 g i hi)⟩
theorem sd_ext.r {A A' : Nat → Nat → Nat} {M M' : ma_M} {ov : Value} (h : sd_ext A M A' M') {q : Nat × Nat} (hq : sd_ok M q) : sd_r A' ov q = sd_r A ov q := by
  unfold sd_r
  rcases hq with h1 | h1 | h1
  · rw [if_pos h1, if_pos h1]
  · rw [h1]; rfl
  · rw [h.2 _ _ h1]
theorem sd_ext.v {A A' : Nat → Nat → Nat} {M M' : ma_M} {ov : Value} (h : sd_ext A M A' M') : ∀ {v : ma_V}, sd_okv M v → sd_v A' ov v = sd_v A ov v
  | .inl _, _ => rfl
  | .inr (.inl _), _ => rfl
  | .inr (.inr _), hq => h.r hq
theorem sd_ext.ok {A A' : Nat → Nat → Nat} {M M' : ma_M} (h : sd_ext A M A' M') {q : Nat × Nat} (hq : sd_ok M q) : sd_ok M' q := by
  rcases hq with h1 | h1 | h1
  · exact Or.inl h1
  · exact Or.inr (Or.inl h1)
  · exact Or.inr (Or.inr (Nat.lt_of_lt_of_le h1 (h.1 _)))
theorem sd_ext.okv {A A' : Nat → Nat → Nat} {M M' : ma_M} (h : sd_ext A M A' M') : ∀ {v : ma_V}, sd_okv M v → sd_okv M' v
  | .inl _, _ => trivial
  | .inr (.inl _), _ => trivial
  | .inr (.inr _), hq => h.ok hq
def sd_vs (M : ma_M) (st : List ma_V) : Prop := ∀ v ∈ st, sd_okv M v
def sd_vl (M : ma_M) (ls : List (Option ma_V)) : Prop := ∀ v, some v ∈ ls → sd_okv M v
theorem sd_ext.vs {A A' : Nat → Nat → Nat} {M M' : ma_M} (h : sd_ext A M A' M') {st : List ma_V} (hs : sd_vs M st) : sd_vs M' st := fun v hv => h.okv (hs v hv)
theorem sd_ext.vl {A A' : Nat → Nat → Nat} {M M' : ma_M} (h : sd_ext A M A' M') {st : List (Option ma_V)} (hs : sd_vl M st) : sd_vl M' st := fun v hv => h.okv (hs v hv)
theorem sd_ext.map {A A' : Nat → Nat → Nat} {M M' : ma_M} {ov : Value} (h : sd_ext A M A' M') {st : List ma_V} (hs : sd_vs M st) : st.map (sd_v A' ov) = st.map (sd_v A ov) := List.map_congr_left fun v hv => h.v (hs v hv)
/-- the locals -/
def sd_lv (A : Nat → Nat → Nat) (ov : Value) (L : List (Option ma_V)) : List (Nat × Value) := (List.range L.length).filterMap (fun k => match L[k]? with
  | some (some v) => some (k, sd_v A ov v)
  | _ => none)
theorem sd_lv_mem {A : Nat → Nat → Nat} {ov : Value} {L : List (Option ma_V)} {k : Nat} {w : Value} : (k, w) ∈ sd_lv A ov L ↔ ∃ v, L[k]? = some (some v) ∧ w = sd_v A ov v := by
  unfold sd_lv
  rw [List.mem_filterMap]
  constructor
  · rintro ⟨j, -, hj⟩
    split at hj
    · rename_i v hv
      cases hj
      exact ⟨v, hv, rfl⟩
    · cases hj
  · rintro ⟨v, hv, rfl⟩
    refine ⟨k, List.mem_range.mpr (List.getElem?_eq_some_iff.mp hv).1, ?_⟩
    rw [hv]
def sd_L (A : Nat → Nat → Nat) (ov : Value) (ls : Array Slot) (nL : Nat) (L : List (Option ma_V)) : Prop := L.length = nL ∧ lv_has ls nL (sd_lv A ov L)
theorem sd_L.at {A : Nat → Nat → Nat} {ov : Value} {ls : Array Slot} {nL k : Nat} {L : List (Option ma_V)} {v : ma_V} (h : sd_L A ov ls nL L) (hk : L[k]? = some (some v)) : ls[k]? = some (.val (sd_v A ov v)) := h.2.2.2 (k, _) (sd_lv_mem.mpr ⟨v, hk, rfl⟩)
theorem sd_L.ext {A A' : Nat → Nat → Nat} {M M' : ma_M} {ov : Value} {ls : Array Slot} {nL : Nat} {L : List (Option ma_V)} (h : sd_L A ov ls nL L) (hx : sd_ext A M A' M') (hv : sd_vl M L) : sd_L A' ov ls nL L := by
  refine ⟨h.1, h.2.1, h.2.2.1, fun q hq => ?_⟩
  obtain ⟨v, h1, h2⟩ := sd_lv_mem.mp (show (q.1, q.2) ∈ _ from hq)
  rw [h2, hx.v (hv v (List.mem_of_getElem? h1))]
  exact h.at h1
theorem ma_clr_len (L : List (Option ma_V)) (k : Nat) : (ma_clr L k).length = L.length := by
  unfold ma_clr
  split
  · rfl
  · split
    · simp
    · rfl
theorem ma_clr_get {L : List (Option ma_V)} {k j : Nat} {v : ma_V} (h : (ma_clr L k)[j]? = some (some v)) : L[j]? = some (some v) ∧ ∀ x, v = .inr (.inl x) → j + 1 ≠ k := by
  unfold ma_clr at h
  split at h
  · exact ⟨h, fun _ _ => by omega⟩
  · rename_i k
    split at h
    · rename_i y hy
      by_cases e : j = k
      · subst e
        rw [List.getElem?_set_self (List.getElem?_eq_some_iff.mp hy).1] at h
        cases h
      · rw [List.getElem?_set_ne (Ne.symm e)] at h
        exact ⟨h, fun _ _ => by omega⟩
    · rename_i hn
      refine ⟨h, fun x hx e => ?_⟩
      have e2 : j = k := by omega
      subst e2
      subst hx
      exact hn x h
theorem sd_L.s1 {A : Nat → Nat → Nat} {ov : Value} {nL k : Nat} {L : List (Option ma_V)} {v : ma_V} {ls' : Array Slot} (hl : L.length = nL) (hk : k < L.length)
    (h' : lv_has ls' nL ((k, sd_v A ov v) :: (sd_lv A ov L).filter (fun q => !(q.1 == k) && !(q.1 + 1 == k && q.2.category == 2)))) (hc : (sd_v A ov v).category = 1) (hcl : ∀ w : ma_V, some w ∈ L → (sd_v A ov w).category = 2 → ∃ x, w = .inr (.inl x)) : sd_L A ov ls' nL (ma_s1 L k v) := by
  refine ⟨by simp [ma_s1, ma_clr_len, hl], h'.1, h'.2.1, fun q hq => ?_⟩
  obtain ⟨w, h1, h2⟩ := sd_lv_mem.mp (show (q.1, q.2) ∈ _ from hq)
  refine h'.2.2 q ?_
  unfold ma_s1 at h1
  by_cases e : q.1 = k
  · rw [e, List.getElem?_set_self (by rw [ma_clr_len]; exact hk)] at h1
    cases h1
    have : q = (k, sd_v A ov v) := Prod.ext e h2
    rw [this]
    exact List.mem_cons_self
  · rw [List.getElem?_set_ne (Ne.symm e)] at h1
    obtain ⟨g1, g2⟩ := ma_clr_get h1
    refine List.mem_cons_of_mem _ (List.mem_filter.mpr ⟨sd_lv_mem.mpr ⟨w, g1, h2⟩, ?_⟩)
    have e1 : (q.1 == k) = false := by simp [e]
    rw [e1]
    by_cases hz : q.2.category = 2
    · obtain ⟨x, hx⟩ := hcl w (List.mem_of_getElem? g1) (by rw [← h2]; exact hz)
      have := g2 x hx
      simp [this]
    · simp [hz]
theorem sd_L.s2 {A : Nat → Nat → Nat} {ov : Value} {nL k : Nat} {L : List (Option ma_V)} {v : ma_V} {ls' : Array Slot} (hl : L.length = nL) (hk : k + 1 < L.length)
    (h' : lv_has ls' nL ((k, sd_v A ov v) :: (sd_lv A ov L).filter (fun q => !(q.1 == k) && (!(q.1 == k + 1) && !(q.1 + 1 == k && q.2.category == 2))))) (hcl : ∀ w : ma_V, some w ∈ L → (sd_v A ov w).category = 2 → ∃ x, w = .inr (.inl x)) : sd_L A ov ls' nL (ma_s2 L k v) := by
  refine ⟨by simp [ma_s2, ma_clr_len, hl], h'.1, h'.2.1, fun q hq => ?_⟩
  obtain ⟨w, h1, h2⟩ := sd_lv_mem.mp (show (q.1, q.2) ∈ _ from hq)
  refine h'.2.2 q ?_
  unfold ma_s2 at h1
  have e2 : q.1 ≠ k + 1 := by
    intro e
    rw [e, List.getElem?_set_self (by simp [ma_clr_len]; exact hk)] at h1
    cases h1
  rw [List.getElem?_set_ne (Ne.symm e2)] at h1
  by_cases e : q.1 = k
  · rw [e, List.getElem?_set_self (by rw [ma_clr_len]; omega)] at h1
    cases h1
    have : q = (k, sd_v A ov v) := Prod.ext e h2
    rw [this]
    exact List.mem_cons_self
  · rw [List.getElem?_set_ne (Ne.symm e)] at h1
    obtain ⟨g1, g2⟩ := ma_clr_get h1
    refine List.mem_cons_of_mem _ (List.mem_filter.mpr ⟨sd_lv_mem.mpr ⟨w, g1, h2⟩, ?_⟩)
    have e1 : (q.1 == k) = false := by simp [e]
    have e3 : (q.1 == k + 1) = false := by simp [e2]
    rw [e1, e3]
    by_cases hz : q.2.category = 2
    · obtain ⟨x, hx⟩ := hcl w (List.mem_of_getElem? g1) (by rw [← h2]; exact hz)
      have := g2 x hx
      simp [this]
    · simp [hz]
theorem sd_vl.s1 {M : ma_M} {L : List (Option ma_V)} {k : Nat} {v : ma_V} (h : sd_vl M L) (hv : sd_okv M v) : sd_vl M (ma_s1 L k v) := by
  intro w hw
  obtain ⟨j, hj⟩ := List.getElem?_of_mem hw
  unfold ma_s1 at hj
  by_cases e : j = k
  · subst e
    rcases Nat.lt_or_ge j (ma_clr L j).length with q | q
    · rw [List.getElem?_set_self q] at hj
      cases hj
      exact hv
    · rw [List.getElem?_eq_none (by simpa using q)] at hj
      cases hj
  · rw [List.getElem?_set_ne (Ne.symm e)] at hj
    exact h w (List.mem_of_getElem? (ma_clr_get hj).1)
theorem sd_vl.s2 {M : ma_M} {L : List (Option ma_V)} {k : Nat} {v : ma_V} (h : sd_vl M L) (hv : sd_okv M v) : sd_vl M (ma_s2 L k v) := by
  intro w hw
  obtain ⟨j, hj⟩ := List.getElem?_of_mem hw
  unfold ma_s2 at hj
  by_cases e : j = k + 1
  · subst e
    rcases Nat.lt_or_ge (k + 1) ((ma_clr L k).set k (some v)).length with q | q
    · rw [List.getElem?_set_self q] at hj
      cases hj
    · rw [List.getElem?_eq_none (by simpa using q)] at hj
      cases hj
  · rw [List.getElem?_set_ne (Ne.symm e)] at hj
    exact sd_vl.s1 h hv w (List.mem_of_getElem? hj)
theorem sd_cat1 {A : Nat → Nat → Nat} {ov : Value} (hov : ov.category = 1) (q : Nat × Nat) : (sd_r A ov q).category = 1 := by
  unfold sd_r
  split
  · rfl
  · split
    · exact hov
    · rfl
theorem sd_cat2 {A : Nat → Nat → Nat} {ov : Value} (hov : ov.category = 1) (w : ma_V) (h : (sd_v A ov w).category = 2) : ∃ x, w = .inr (.inl x) := by
  match w, h with
  | .inl x, h => exact absurd h (by simp [sd_v, Value.category])
  | .inr (.inl x), _ => exact ⟨x, rfl⟩
  | .inr (.inr q), h => exact absurd h (by show ¬ (sd_r A ov q).category = 2; rw [sd_cat1 hov]; decide)
theorem sd_catsum {A : Nat → Nat → Nat} {ov : Value} (hov : ov.category = 1) : ∀ st : List ma_V, ((st.map (sd_v A ov)).map fun v => v.category).sum = ma_cat st
  | [] => rfl
  | .inl x :: r => by
    have e : (sd_v A ov (.inl x)).category = 1 := rfl
    simp only [List.map_cons, List.sum_cons, e, ma_cat]
    rw [sd_catsum hov r]
  | .inr (.inl x) :: r => by
    have e : (sd_v A ov (.inr (.inl x))).category = 2 := rfl
    simp only [List.map_cons, List.sum_cons, e, ma_cat]
    rw [sd_catsum hov r]
  | .inr (.inr q) :: r => by
    have e : (sd_v A ov (.inr (.inr q))).category = 1 := sd_cat1 hov q
    simp only [List.map_cons, List.sum_cons, e, ma_cat]
    rw [sd_catsum hov r]

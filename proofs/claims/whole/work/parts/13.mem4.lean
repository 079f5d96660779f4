/-! ===== rows that make cells, copy rows, switch ===== -/
section SDK
variable {p : Program} {l : Launch} {e : Env} {R : Room} {s : State} {m : MethodId} {args : Array Value} {below : List Frame} {meth : Method} {cd : Code} {H H' H1 : Heap} {locs : List Loc} {Q : State → Prop}
variable {s0 : State} {a0 : Array Value} {dC : Nat → ClassId} {dI : Nat → Nat → Nat} {adK adV : Nat → Nat} {ov : Value} {nL : Nat} {A A' : Nat → Nat → Nat} {M M' : ma_M} {L : List (Option ma_V)} {st : List ma_V} {ls : Array Slot} {pc a b y : Nat}
variable {al : List (Bool × ma_C)} {df : Option ma_C} {cc : ByteArray}
theorem sd_at_keep2 {h k : Nat} (h1 : sd_at s0 dC dI A ov M H h k) (hA : A' h k = A h k) (hs : sd_slot A' ov M' h k = sd_slot A ov M h k) (hl : ma_len M' h k = ma_len M h k) (hq : H'[A h k]? = H[A h k]?) : sd_at s0 dC dI A' ov M' H' h k := by
  unfold sd_at at h1 ⊢
  rw [hs, hl, hA]
  cases h100 : Nat.ble 100 (ma_gk h) with
  | true =>
    rw [h100] at h1
    exact h1.kept hq
  | false =>
    rw [h100] at h1
    cases h5 : Nat.ble 5 h with
    | true =>
      rw [h5] at h1
      obtain ⟨cA, a1, a2⟩ := h1
      exact ⟨cA, by rw [hq]; exact a1, a2⟩
    | false =>
      rw [h5] at h1
      obtain ⟨cell, a1, a2⟩ := h1
      exact ⟨cell, by rw [hq]; exact a1, a2⟩
/-- the addresses, with one more -/
def sd_A1 (A : Nat → Nat → Nat) (M : ma_M) (g x : Nat) : Nat → Nat → Nat := fun h k => if h = g ∧ k = M.1 g then x else A h k
theorem sd_A1_old {g x h k : Nat} (hk : k < M.1 h) : sd_A1 A M g x h k = A h k := by
  unfold sd_A1
  rw [if_neg]
  rintro ⟨rfl, rfl⟩
  omega
theorem sd_A1_new {g x : Nat} : sd_A1 A M g x g (M.1 g) = x := by simp [sd_A1]
theorem sd_ext_mk (g x : Nat) : sd_ext A M (sd_A1 A M g x) (ma_mk M g) := by
  refine ⟨fun h => ?_, fun h k hk => sd_A1_old hk⟩
  show M.1 h ≤ if h = g then M.1 g + 1 else M.1 h
  split
  · rename_i e; subst e; omega
  · exact Nat.le_refl _
theorem sd_slot_new {g j : Nat} : sd_slot A ov (ma_mk M g) g (M.1 g) j = bif sd_rf g j then .null else .int 0 := by
  unfold sd_slot ma_mk
  cases sd_rf g j <;> simp [sd_r]
theorem sd_W_push (hw : sd_W s0 dC dI adK adV ov A M H) {g : Nat} (hg : 5 ≤ g) (hgk : ma_gk g ≠ 0) (hz : H1.size = H.size + 1) (oq : ∀ q, q < H.size → H1[q]? = H[q]?) (hself : sd_at s0 dC dI (sd_A1 A M g H.size) ov (ma_mk M g) H1 g (M.1 g)) : sd_W s0 dC dI adK adV ov (sd_A1 A M g H.size) (ma_mk M g) H1 := by
  obtain ⟨w1, w2, w3, w4, w5, w6, w7, w8, w9, w10⟩ := hw
  have hx := sd_ext_mk (A := A) (M := M) g H.size
  have hn : ∀ h k, k < (ma_mk M g).1 h → k < M.1 h ∨ (h = g ∧ k = M.1 g) := by
    intro h k hk
    have hk' : k < if h = g then M.1 g + 1 else M.1 h := hk
    by_cases e : h = g
    · subst e
      rw [if_pos rfl] at hk'
      rcases Nat.lt_or_ge k (M.1 h) with q | q
      · exact Or.inl q
      · exact Or.inr ⟨rfl, by omega⟩
    · rw [if_neg e] at hk'
      exact Or.inl hk'
  have hne : ∀ h k, k < M.1 h → ¬ (h = g ∧ k = M.1 g) := by
    rintro h k hk ⟨rfl, rfl⟩
    omega
  have hI : ∀ h k j, k < M.1 h → (ma_mk M g).2.1 h k j = M.2.1 h k j ∧ (ma_mk M g).2.2 h k j = M.2.2 h k j := by
    intro h k j hk
    have := hne h k hk
    unfold ma_mk
    by_cases e : h = g
    · have e2 : k ≠ M.1 g := fun e2 => this ⟨e, e2⟩
      simp [e, e2]
    · simp [e]
  refine ⟨fun h k hk h2 => ?_, fun h k hk => ?_, fun h k h' k' a1 a2 a3 a4 a5 => ?_, fun h k j hk hj => ?_, fun q hq => ?_, by omega, fun i hi => ?_, fun h hh => ?_, ?_, ?_⟩
  · rcases hn h k hk with q | ⟨rfl, rfl⟩
    · refine sd_at_keep2 (w1 h k q h2) (sd_A1_old q) ?_ ?_ (oq _ (w2 h k q).1)
      · funext j
        unfold sd_slot
        rw [(hI h k j q).1, (hI h k j q).2]
        cases hr : sd_rf h j with
        | false => rfl
        | true => exact hx.r (w4 h k j q hr)
      · unfold ma_len ma_mk
        have : (1 : Nat) ≠ g := by omega
        simp [this]
    · exact hself
  · rcases hn h k hk with q | ⟨rfl, rfl⟩
    · rw [sd_A1_old q]
      exact ⟨by have := (w2 h k q).1; omega, (w2 h k q).2⟩
    · rw [sd_A1_new]
      exact ⟨by omega, fun _ => w6, fun h => by omega⟩
  · rcases hn h k a3 with q | ⟨rfl, rfl⟩
    · rw [sd_A1_old q] at a5
      rcases hn h' k' a4 with q' | ⟨rfl, rfl⟩
      · rw [sd_A1_old q'] at a5
        exact w3 h k h' k' a1 a2 q q' a5
      · rw [sd_A1_new] at a5
        have := (w2 h k q).1
        omega
    · rw [sd_A1_new] at a5
      rcases hn h' k' a4 with q' | ⟨rfl, rfl⟩
      · rw [sd_A1_old q'] at a5
        have := (w2 h' k' q').1
        omega
      · exact ⟨rfl, rfl⟩
  · rcases hn h k hk with q | ⟨rfl, rfl⟩
    · rw [(hI h k j q).2]
      exact hx.ok (w4 h k j q hj)
    · exact Or.inl (by simp [ma_mk])
  · rw [oq q (by omega)]
    exact w5 q hq
  · rw [sd_A1_old (by rw [w9]; exact hi), sd_A1_old (by rw [w10]; exact hi)]
    exact w7 i hi
  · show (if h = g then M.1 g + 1 else M.1 h) = 0
    rw [if_neg (fun e => hgk (by rw [← e]; exact hh))]
    exact w8 h hh
  · show (if 2 = g then M.1 g + 1 else M.1 2) = 13
    rw [if_neg (by omega)]
    exact w9
  · show (if 3 = g then M.1 g + 1 else M.1 3) = 13
    rw [if_neg (by omega)]
    exact w10
/-- a cell has been made: on -/
theorem sd_made (B : sd_B s0 dC dI adK adV ov nL A M L st H locs ls) {g pc' : Nat} {r : List ma_V} (hr : sd_vs M r) (hg : 5 ≤ g) (hgk : ma_gk g ≠ 0) (hz : H1.size = H.size + 1) (oq : ∀ q, q < H.size → H1[q]? = H[q]?) (hself : sd_at s0 dC dI (sd_A1 A M g H.size) ov (ma_mk M g) H1 g (M.1 g))
    (hP : sd_P p l e R s m args below meth cd Q s0 dC dI adK adV ov nL A M (pc', L, .inr (.inr (g, M.1 g)) :: r, ma_mk M g, a, b)) : W p l e R s m args below meth cd H1 locs a b Q (F0 m pc' ls (.ref H.size :: r.map (sd_v A ov))) := by
  have hx := sd_ext_mk (A := A) (M := M) g H.size
  have h0 : g ≠ 0 := by omega
  have h4 : g ≠ 4 := by omega
  have h1 := hP (sd_A1 A M g H.size) H1 locs ls ⟨sd_W_push B.1 hg hgk hz oq hself, B.2.1.ext hx B.2.2.2.1, sd_vs.cons (Or.inr (Or.inr (by show M.1 g < if g = g then M.1 g + 1 else M.1 g; rw [if_pos rfl]; omega))) (hx.vs hr), hx.vl B.2.2.2.1, B.2.2.2.2⟩ hx
  rw [List.map_cons, sd_ref h0 h4, sd_A1_new, hx.map hr] at h1
  exact h1
theorem sd_new (F : sd_F p s m meth cd y s0) (Z : sd_Z s0 a0 dC dI adK adV ov) (hRc : (mt_mc.getD y (0, 0)).1 ≤ R.cells ∧ (mt_mc.getD y (0, 0)).2 ≤ R.slots) (B : sd_B s0 dC dI adK adV ov nL A M L st H locs ls) {idx n : Nat} (hs : ma_new pc L st M a b y (fun g => Nat.ble 100 (ma_gk g) && Nat.blt (ma_gk g) 110) = .inl (al, df)) (hP : ma_sel (sd_P p l e R s m args below meth cd Q s0 dC dI adK adV ov nL A M) False df al) (hf : ma_find pc (mt_prog.getD y []) = some (.new idx, n))
    (hd : decode (mt_code.getD y ⟨#[]⟩) pc = .ok (.new idx, 3)) : W p l e R s m args below meth cd H locs a b Q (F0 m pc ls (st.map (sd_v A ov))) := by
  obtain ⟨hx0, hb, -, hown, -, hW⟩ := F
  unfold ma_new at hs
  split at hs
  · rename_i g hg
    have hck := sd_nt hg
    unfold ck_nt at hck
    dsimp only at hck hs
    rw [hf] at hck
    simp only [Bool.and_eq_true] at hck
    obtain ⟨⟨h5, -⟩, hcon⟩ := hck
    have h5 := Nat.le_of_ble_eq_true h5
    cases hk : (Nat.ble 100 (ma_gk g) && Nat.blt (ma_gk g) 110 && Nat.ble (a + 1) (mt_mc.getD y (0, 0)).1 && Nat.ble (b + ma_gl g) (mt_mc.getD y (0, 0)).2) with
    | false =>
      rw [hk] at hs
      unfold ma_no at hs
      cases hs
      exact hP.elim
    | true =>
      rw [hk] at hs
      unfold ma_nx at hs
      cases hs
      simp only [Bool.and_eq_true] at hk
      obtain ⟨⟨⟨k1, k2⟩, k3⟩, k4⟩ := hk
      have k1 := Nat.le_of_ble_eq_true k1
      have k2 : ma_gk g < 110 := Nat.le_of_ble_eq_true k2
      have k3 := Nat.le_of_ble_eq_true k3
      have k4 := Nat.le_of_ble_eq_true k4
      have hci : ma_gk g - 100 < ma_cls.length := by show ma_gk g - 100 < 10; omega
      have hc : ma_cls[ma_gk g - 100]? = some ma_cls[ma_gk g - 100] := List.getElem?_eq_getElem hci
      generalize ma_cls[ma_gk g - 100] = q at hc
      have hci' : ma_gk g - 100 < 10 := hci
      have hgl : ma_gl g = q.2.2 := by
        have hckg := sd_g g
        unfold ck_g at hckg
        have e200 : Nat.ble 200 (ma_gk g) = false := by
          cases h : Nat.ble 200 (ma_gk g) with
          | false => rfl
          | true => have := Nat.le_of_ble_eq_true h; omega
        rw [e200, Nat.ble_eq_true_of_le k1] at hckg
        simp only [cond_false, cond_true, Bool.and_eq_true] at hckg
        rw [← Nat.eq_of_beq_eq_true hckg.1.2]
        exact (sd_f hc).1
      have hmem : (mt_own.getD y 0, idx, ma_gk g - 100) ∈ mt_n1 := by simpa using hcon
      obtain ⟨p1, hp1⟩ := ck_all ck_n1 _ hmem
      obtain ⟨p2, hp2⟩ := ck_all ck_n2 _ (List.mem_range.mpr hci')
      obtain ⟨p3, hp3⟩ := ck_all ck_n3 _ (List.mem_range.mpr hci')
      rw [sd_cn hc] at hp1 hp2 hp3
      rw [(sd_f hc).1, ← hgl] at hp2
      obtain ⟨hts, hKn⟩ := sd_fld Z hW args hc
      refine W.newcK hx0 hb hown (sd_word Z hW (mt_w_mem hp1) (Or.inl rfl)) (sd_word Z hW (mt_w_mem hp2) (Or.inl rfl)) (sd_word Z hW (mt_w_mem hp3) (Or.inl rfl)) rfl hd (by omega) (by omega) hKn.2.1 rfl fun H1 kC hkC e1 z1 o1 => ?_
      refine sd_made B B.2.2.1 h5 (by omega) z1 o1 ?_ hP
      refine sd_at_obj (ci := ma_gk g - 100) (q := q) (by omega) hgl ?_
      rw [sd_A1_new]
      refine (u_born (ma_tys.getD (ma_gk g - 100) tyX0) hts (fun w h => h) hKn hkC e1 (sd_ty hc)).to (fun k hk => ?_)
      rw [sd_slot_new, sd_rf_obj (ci := ma_gk g - 100) (by omega)]
      have hfk := (sd_f hc).2 k hk
      cases hr : ma_rf (ma_gk g - 100) k with
      | true => exact hfk.1 hr
      | false => exact hfk.2.1 hr
  · unfold ma_no at hs
    cases hs
    exact hP.elim
theorem sd_rfall {g : Nat} (hk : ma_gk g < 10) : sd_slot A ov (ma_mk M g) g (M.1 g) = fun _ => .int 0 := by
  funext j
  rw [sd_slot_new, sd_rf_low hk]
  rfl
theorem sd_nwa1 (F : sd_F p s m meth cd y s0) (Z : sd_Z s0 a0 dC dI adK adV ov) (B : sd_B s0 dC dI adK adV ov nL A M L st H locs ls) {t : ArrayType} {g : Nat} {v : Int32} {r : List ma_V} (hst : st = .inl v :: r) (hk : ma_gk g < 10 ∧ 0 < ma_gk g) (h5 : 5 ≤ g) (h3 : ma_gl g ≤ 3000) (hety : newarray.typeOf t = sd_ety g) (hdef : defaultValue (newarray.typeOf t) = .int 0) (hcb : componentBytes (newarray.typeOf t) ≤ 8) (hw : Cond.arrayClass (newarray.typeOf t) ∈ lw_tbl) (hra : ∀ cA : ClassId, s.vm.findClass ("[" ++ (newarray.typeOf t).toString) = some cA → va_RA s cA (newarray.typeOf t))
    (hv : v = Int32.ofNat (ma_gl g)) (k3 : a + 1 ≤ R.cells) (k4 : b + ma_gl g ≤ R.slots) (hP : sd_P p l e R s m args below meth cd Q s0 dC dI adK adV ov nL A M (pc + 2, L, .inr (.inr (g, M.1 g)) :: r, ma_mk M g, a + 1, b + ma_gl g))
    (hd : decode (mt_code.getD y ⟨#[]⟩) pc = .ok (.newarray t, 2)) : W p l e R s m args below meth cd H locs a b Q (F0 m pc ls (st.map (sd_v A ov))) := by
  obtain ⟨hx0, hb, -, hown, -, hW⟩ := F
  subst hst
  have hp : ma_gl g < 2 ^ 31 := by omega
  have hmul : ma_gl g * componentBytes (newarray.typeOf t) ≤ 3000 * 8 := Nat.mul_le_mul h3 hcb
  refine va_newaK (n := v) (N := ma_gl g) (h := H.size) hx0 hb (sd_word Z hW hw (Or.inr ⟨_, rfl⟩)) rfl hd rfl (by rw [hv]; exact nI_pos hp) (by rw [hv]; exact nI_clamp hp) (by omega) k3 k4 rfl fun H1 cA e1 z1 o1 hAr hNm => ?_
  refine sd_made B B.2.2.1.tail h5 (by omega) z1 o1 ?_ hP
  refine sd_at_arr (by omega) h5 ⟨cA, ?_, ?_, ?_⟩
  · rw [sd_A1_new, sd_rfall hk.1, e1, hdef]
  · rw [← hety]; exact arrOfT_moved hW.alike.symm hAr
  · rw [← hety]; exact (hra cA hNm).moved hW.alike.symm
theorem sd_nwa (F : sd_F p s m meth cd y s0) (Z : sd_Z s0 a0 dC dI adK adV ov) (hRc : (mt_mc.getD y (0, 0)).1 ≤ R.cells ∧ (mt_mc.getD y (0, 0)).2 ≤ R.slots) (B : sd_B s0 dC dI adK adV ov nL A M L st H locs ls) {t : ArrayType} {n : Nat} (hs : ma_nwa pc L st M a b y 2 (fun g => match t with | .int => Nat.beq (ma_gk g) 1 | .boolean => Nat.beq (ma_gk g) 2 | .char => Nat.beq (ma_gk g) 3 | _ => false) = .inl (al, df)) (hP : ma_sel (sd_P p l e R s m args below meth cd Q s0 dC dI adK adV ov nL A M) False df al) (hf : ma_find pc (mt_prog.getD y []) = some (.newarray t, n))
    (hd : decode (mt_code.getD y ⟨#[]⟩) pc = .ok (.newarray t, 2)) : W p l e R s m args below meth cd H locs a b Q (F0 m pc ls (st.map (sd_v A ov))) := by
  unfold ma_nwa at hs
  split at hs
  · rename_i g v r hg
    have hck := sd_nt hg
    unfold ck_nt at hck
    dsimp only at hck hs
    rw [hf] at hck
    simp only [Bool.and_eq_true] at hck
    obtain ⟨⟨h5, h3⟩, -⟩ := hck
    have h5 := Nat.le_of_ble_eq_true h5
    have h3 := Nat.le_of_ble_eq_true h3
    have key : ∀ c : Bool, (bif c && decide (v = Int32.ofNat (ma_gl g)) && Nat.ble (a + 1) (mt_mc.getD y (0, 0)).1 && Nat.ble (b + ma_gl g) (mt_mc.getD y (0, 0)).2 then ma_nx (pc + 2, L, .inr (.inr (g, M.1 g)) :: r, ma_mk M g, a + 1, b + ma_gl g) else ma_no) = .inl (al, df) → c = true ∧ v = Int32.ofNat (ma_gl g) ∧ a + 1 ≤ R.cells ∧ b + ma_gl g ≤ R.slots ∧ sd_P p l e R s m args below meth cd Q s0 dC dI adK adV ov nL A M (pc + 2, L, .inr (.inr (g, M.1 g)) :: r, ma_mk M g, a + 1, b + ma_gl g) := by
      intro c hc
      cases hk : (c && decide (v = Int32.ofNat (ma_gl g)) && Nat.ble (a + 1) (mt_mc.getD y (0, 0)).1 && Nat.ble (b + ma_gl g) (mt_mc.getD y (0, 0)).2) with
      | false =>
        rw [hk] at hc
        unfold ma_no at hc
        cases hc
        exact hP.elim
      | true =>
        rw [hk] at hc
        unfold ma_nx at hc
        cases hc
        simp only [Bool.and_eq_true, decide_eq_true_eq] at hk
        obtain ⟨⟨⟨k1, k2⟩, k3⟩, k4⟩ := hk
        have k3 := Nat.le_of_ble_eq_true k3
        have k4 := Nat.le_of_ble_eq_true k4
        exact ⟨k1, k2, by omega, by omega, hP⟩
    obtain ⟨p1, hp1⟩ := ck_all ck_n6 .int (by simp)
    obtain ⟨p2, hp2⟩ := ck_all ck_n6 .boolean (by simp)
    obtain ⟨p3, hp3⟩ := ck_all ck_n6 .char (by simp)
    cases t with
    | int =>
      obtain ⟨k1, k2, k3, k4, hP'⟩ := key _ hs
      have k1 := Nat.eq_of_beq_eq_true k1
      exact sd_nwa1 F Z B rfl (by omega) h5 h3 (by rw [sd_ety1 k1]; rfl) rfl (by decide) (mt_w_mem hp1) (fun cA h => h) k2 k3 k4 hP' hd
    | boolean =>
      obtain ⟨k1, k2, k3, k4, hP'⟩ := key _ hs
      have k1 := Nat.eq_of_beq_eq_true k1
      exact sd_nwa1 F Z B rfl (by omega) h5 h3 (by rw [sd_ety2 k1]; rfl) rfl (by decide) (mt_w_mem hp2) (fun cA h => h) k2 k3 k4 hP' hd
    | char =>
      obtain ⟨k1, k2, k3, k4, hP'⟩ := key _ hs
      have k1 := Nat.eq_of_beq_eq_true k1
      exact sd_nwa1 F Z B rfl (by omega) h5 h3 (by rw [sd_ety3 k1]; rfl) rfl (by decide) (mt_w_mem hp3) (fun cA h => h) k2 k3 k4 hP' hd
    | float => obtain ⟨k1, -⟩ := key _ hs; cases k1
    | double => obtain ⟨k1, -⟩ := key _ hs; cases k1
    | byte => obtain ⟨k1, -⟩ := key _ hs; cases k1
    | short => obtain ⟨k1, -⟩ := key _ hs; cases k1
    | long => obtain ⟨k1, -⟩ := key _ hs; cases k1
  · unfold ma_no at hs
    cases hs
    exact hP.elim
theorem sd_anw (F : sd_F p s m meth cd y s0) (Z : sd_Z s0 a0 dC dI adK adV ov) (hRc : (mt_mc.getD y (0, 0)).1 ≤ R.cells ∧ (mt_mc.getD y (0, 0)).2 ≤ R.slots) (B : sd_B s0 dC dI adK adV ov nL A M L st H locs ls) {idx n : Nat} (hs : ma_nwa pc L st M a b y 3 (fun g => Nat.ble 10 (ma_gk g) && Nat.blt (ma_gk g) 100) = .inl (al, df)) (hP : ma_sel (sd_P p l e R s m args below meth cd Q s0 dC dI adK adV ov nL A M) False df al) (hf : ma_find pc (mt_prog.getD y []) = some (.anewarray idx, n))
    (hd : decode (mt_code.getD y ⟨#[]⟩) pc = .ok (.anewarray idx, 3)) : W p l e R s m args below meth cd H locs a b Q (F0 m pc ls (st.map (sd_v A ov))) := by
  obtain ⟨hx0, hb, -, hown, -, hW⟩ := F
  unfold ma_nwa at hs
  split at hs
  · rename_i g v r hg
    have hck := sd_nt hg
    unfold ck_nt at hck
    dsimp only at hck hs
    rw [hf] at hck
    simp only [Bool.and_eq_true] at hck
    obtain ⟨⟨h5, h3⟩, hcon⟩ := hck
    have h5 := Nat.le_of_ble_eq_true h5
    have h3 := Nat.le_of_ble_eq_true h3
    cases hk : (Nat.ble 10 (ma_gk g) && Nat.blt (ma_gk g) 100 && decide (v = Int32.ofNat (ma_gl g)) && Nat.ble (a + 1) (mt_mc.getD y (0, 0)).1 && Nat.ble (b + ma_gl g) (mt_mc.getD y (0, 0)).2) with
    | false =>
      rw [hk] at hs
      unfold ma_no at hs
      cases hs
      exact hP.elim
    | true =>
      rw [hk] at hs
      unfold ma_nx at hs
      cases hs
      simp only [Bool.and_eq_true, decide_eq_true_eq] at hk
      obtain ⟨⟨⟨⟨k1, k1'⟩, k2⟩, k3⟩, k4⟩ := hk
      have k1 := Nat.le_of_ble_eq_true k1
      have k1' : ma_gk g < 100 := Nat.le_of_ble_eq_true k1'
      have k3 := Nat.le_of_ble_eq_true k3
      have k4 := Nat.le_of_ble_eq_true k4
      have hp : ma_gl g < 2 ^ 31 := by omega
      have hcl : v.toNatClampNeg = ma_gl g := by rw [k2]; exact nI_clamp hp
      have hmem : (mt_own.getD y 0, idx, ma_gk g - 10) ∈ mt_n4 := by simpa using hcon
      obtain ⟨p1, hp1⟩ := ck_all ck_n4 _ hmem
      obtain ⟨p2, hp2⟩ := ck_all ck_n5 _ hmem
      have hety : sd_ety g = .object (mt_cn.getD (ma_gk g - 10) "") := by
        unfold sd_ety
        split
        · rename_i h; omega
        · rename_i h; omega
        · rename_i h; omega
        · rename_i h; omega
        · rfl
      refine W.anew (n := v) hx0 hb hown (sd_word Z hW (mt_w_mem hp1) (Or.inl rfl)) (va_AO.use (va_AO.moved hW.alike (va_AO.of (Z.1 _ (mt_w_mem hp2))))) rfl hd rfl (by rw [k2]; exact nI_pos hp) (by rw [hcl]; omega) (by omega) (by rw [hcl]; omega) fun cA kA comp h1 h2 h3 h4 => ?_
      rw [hcl, arrV_new]
      refine sd_made B B.2.2.1.tail h5 (by omega) (by simp) (fun q hq => by rw [Array.getElem?_push, if_neg (Nat.ne_of_lt hq)]) ?_ hP
      refine sd_at_arr k1' h5 ⟨cA, ?_, ?_, ?_⟩
      · rw [sd_A1_new]
        have : arrV cA (ma_gl g) (sd_slot (sd_A1 A M g H.size) ov (ma_mk M g) g (M.1 g)) = arrV cA (ma_gl g) (fun _ => .null) := by
          refine sd_arrV (fun j hj => ?_)
          rw [sd_slot_new, sd_rf_mid k1 k1' hj]
          rfl
        rw [this]
        simp
      · rw [hety]; exact arrOfT_moved hW.alike.symm (fun n z => ⟨fun k h => (by cases h), kA, h2, comp, h3⟩)
      · rw [hety]; exact va_RA.moved hW.alike.symm (show va_RA s cA (.object _) from ⟨kA, comp, h2, h3, h4, h1⟩)
  · unfold ma_no at hs
    cases hs
    exact hP.elim
theorem sd_swa (F : sd_F p s m meth cd y s0) (B : sd_B s0 dC dI adK adV ov nL A M L st H locs ls) {x : Int32} {r : List ma_V} (hst : st = .inl x :: r) {df0 lo hi : Int} {os : Array Int} {len : Nat} (hd : decode (mt_code.getD y ⟨#[]⟩) pc = .ok (.tableswitch df0 lo hi os, len)) (h1 : -2147483648 ≤ lo) (h2 : hi ≤ 2147483647) (h3 : lo + os.toList.length = hi + 1) (h4 : ∀ o ∈ os.toList, 0 ≤ (pc : Int) + o) (h5 : 0 ≤ (pc : Int) + df0) :
    ∀ (suf pre : List Int), os.toList = pre ++ suf → (∀ j : Nat, j < pre.length → x ≠ Int32.ofInt (lo + j)) → ma_sel (sd_P p l e R s m args below meth cd Q s0 dC dI adK adV ov nL A M) False (some (((pc : Int) + df0).toNat, L, r, M, a, b)) (ma_sw pc L M a b x r (lo + pre.length) suf) → W p l e R s m args below meth cd H locs a b Q (F0 m pc ls (st.map (sd_v A ov))) := by
  obtain ⟨hx0, hb, -, hown, -, hW⟩ := F
  subst hst
  intro suf
  induction suf with
  | nil =>
    intro pre he hn hP
    rw [List.append_nil] at he
    have hP' : sd_P p l e R s m args below meth cd Q s0 dC dI adK adV ov nL A M (((pc : Int) + df0).toNat, L, r, M, a, b) := hP
    refine lv_tableOut (tgt := ((pc : Int) + df0).toNat) hx0 hb hd ?_ (by omega) (sd_nx B hP' B.2.2.1.tail)
    rcases Int.lt_or_le x.toInt lo with q | q
    · exact Or.inl q
    · rcases Int.lt_or_le hi x.toInt with q' | q'
      · exact Or.inr q'
      · exfalso
        have hj : (x.toInt - lo).toNat < pre.length := by rw [he] at h3; omega
        refine hn _ hj ?_
        rw [show lo + ((x.toInt - lo).toNat : Int) = x.toInt by omega, Int32.ofInt_toInt]
  | cons o suf ih =>
    intro pre he hn hP
    unfold ma_sw ma_sel at hP
    by_cases hxe : x = Int32.ofInt (lo + pre.length)
    · have hP' : sd_P p l e R s m args below meth cd Q s0 dC dI adK adV ov nL A M (((pc : Int) + o).toNat, L, r, M, a, b) := by
        have : decide (x = Int32.ofInt (lo + pre.length)) = true := decide_eq_true hxe
        rw [this] at hP
        exact hP
      have hlen : pre.length < os.toList.length := by rw [he]; simp
      have hxi : x.toInt = lo + pre.length := by
        rw [hxe]
        exact Int32.toInt_ofInt_of_le (by omega) (by omega)
      have ho : os[(x.toInt - lo).toNat]? = some o := by
        rw [show (x.toInt - lo).toNat = pre.length by omega, ← Array.getElem?_toList, he]
        simp
      have h4o := h4 o (by rw [he]; simp)
      exact lv_tableIn (tgt := ((pc : Int) + o).toNat) hx0 hb hd (by omega) (by omega) ho (by omega) (sd_nx B hP' B.2.2.1.tail)
    · have hd0 : decide (x = Int32.ofInt (lo + pre.length)) = false := decide_eq_false hxe
      rw [hd0] at hP
      refine ih (pre ++ [o]) (by rw [he]; simp) (fun j hj => ?_) ?_
      · rcases Nat.lt_or_ge j pre.length with q | q
        · exact hn j q
        · have : j = pre.length := by simp at hj; omega
          subst this
          exact hxe
      · have e1 : lo + ((pre ++ [o]).length : Int) = lo + pre.length + 1 := by simp; omega
        rw [e1]
        exact hP
theorem sd_ts (F : sd_F p s m meth cd y s0) (B : sd_B s0 dC dI adK adV ov nL A M L st H locs ls) {df0 lo hi : Int} {os : Array Int} {len : Nat} (hs : ma_ts pc L st M a b df0 lo hi os = .inl (al, df)) (hP : ma_sel (sd_P p l e R s m args below meth cd Q s0 dC dI adK adV ov nL A M) False df al) (hd : decode (mt_code.getD y ⟨#[]⟩) pc = .ok (.tableswitch df0 lo hi os, len)) : W p l e R s m args below meth cd H locs a b Q (F0 m pc ls (st.map (sd_v A ov))) := by
  unfold ma_ts at hs
  split at hs
  · rename_i x r
    cases hk : (decide (-2147483648 ≤ lo) && decide (hi ≤ 2147483647) && decide (lo + os.toList.length = hi + 1) && os.toList.all (fun o => decide (0 ≤ (pc : Int) + o)) && decide (0 ≤ (pc : Int) + df0)) with
    | false =>
      rw [hk] at hs
      unfold ma_no at hs
      cases hs
      exact hP.elim
    | true =>
      rw [hk] at hs
      simp only [cond_true] at hs
      cases hs
      simp only [Bool.and_eq_true, decide_eq_true_eq, List.all_eq_true] at hk
      obtain ⟨⟨⟨⟨k1, k2⟩, k3⟩, k4⟩, k5⟩ := hk
      exact sd_swa F B rfl hd k1 k2 k3 k4 k5 os.toList [] rfl (fun j hj => by cases hj) (by simpa using hP)
  · unfold ma_no at hs
    cases hs
    exact hP.elim
end SDK

/-! ===== text: three parts in the reference; both answers ===== -/
def rv (I0 : ma_I) (t : Nat) (J : ma_I) : Prop := fr fr_rt I0 J ∧ (∀ j, (j < 480 * t ∨ 480 * t + 480 ≤ j) → J 50 0 j = I0 50 0 j) ∧ ∀ j, (j < 3 * t ∨ 3 * t + 3 ≤ j) → J 51 0 j = I0 51 0 j
/-- the reference holds the parts that were read -/
def rp (t : Nat) (cs : List (List Int32)) (J : ma_I) : Prop := ∀ i, i < cs.length → (cs.getD i []).length ≤ 160 ∧ rz (3 * t + i) (cs.getD i []) J ∧ dok 40 0 (cs.getD i []) ∧ dh 0 (cs.getD i []) = 1
theorem gl_ap1 {l : List (List Int32)} {c : List Int32} {i : Nat} (h : i < l.length) : (l ++ [c]).getD i [] = l.getD i [] := by
  rw [List.getD_eq_getElem?_getD, List.getElem?_append_left h, ← List.getD_eq_getElem?_getD]
theorem gl_ap2 {l : List (List Int32)} {c : List Int32} : (l ++ [c]).getD l.length [] = c := by
  rw [List.getD_eq_getElem?_getD, List.getElem?_append_right (Nat.le_refl _), Nat.sub_self]
  rfl
section TXR
variable {d : Nat} {I0 : ma_I} {o : Nat} {b : Nat → Int32} {n t : Nat}
theorem rz_fr {l : List Nat} {v : Nat} {ou : List Int32} {J J' : ma_I} (h : rz v ou J) (hf : fr l J J') (h1 : 50 ∉ l) (h2 : 51 ∉ l) : rz v ou J' := by
  refine ⟨?_, fun i hi => ?_⟩
  · rw [hf 51 0 v h2]; exact h.1
  · rw [hf 50 0 _ h1]; exact h.2 i hi
theorem rv_fr {l : List Nat} {J J' : ma_I} (h : rv I0 t J) (hf : fr l J J') (h1 : 50 ∉ l) (h2 : 51 ∉ l) (hl : ∀ c ∈ l, c ∈ fr_rt) : rv I0 t J' := ⟨fr_trans h.1 (fr_mono hf hl), fun j hj => (hf 50 0 j h1).trans (h.2.1 j hj), fun j hj => (hf 51 0 j h2).trans (h.2.2 j hj)⟩
theorem rv_ra {p : Nat} {J J' : ma_I} (h : rv I0 t J) (hp : p < 3) (ha : ra J (3 * t + p) J') : rv I0 t J' := ⟨fr_trans h.1 ha.1, fun j hj => (ha.2.1 j (by omega)).trans (h.2.1 j hj), fun j hj => (ha.2.2 j (by omega)).trans (h.2.2 j hj)⟩
theorem loop152 (hB : rt I0 b n) (ht : t < 6) {Q : ma_Q} : ∀ (m p : Nat) (pos : Nat) (cs : List (List Int32)) (J : ma_I), m + p = 3 → pos ≤ n → J 40 0 17 = Int32.ofNat pos → rv I0 t J → cs.length = p → rp t cs J →
    ((px b n m p (tk_nx b n pos) cs).1 = -1 → ∀ J, rv I0 t J → (px b n m p (tk_nx b n pos) cs).2.length = 3 → rp t (px b n m p (tk_nx b n pos) cs).2 J → Q (some (.inl (-1))) J o) →
    ((px b n m p (tk_nx b n pos) cs).1 ≠ -1 → ∀ J, rv I0 t J → Q (some (.inl (px b n m p (tk_nx b n pos) cs).1)) J o) →
    Ex (d + 3 + 1) 152 (7, [vR 40 0, vI (Int32.ofNat t), vI (Int32.ofNat p)], [], ma_mem J o, 0, 0) (ma_end Q) := by
  have hn := hB.2.1
  intro m
  induction m with
  | zero =>
    intro p pos cs J hmp hpos h17 hrv hcs hrp hy hz
    have hp3 : p = 3 := by omega
    unfold px at hy hz
    obtain ⟨hw, -⟩ := nx_wf (b := b) (n := n) hpos
    have hs : tk_s (tk_nx b n pos) ≤ n := Nat.le_trans hw.1 hw.2.1
    refine b_152_7 ⟨fun _ => ?_, fun c => ?_⟩
    · refine nxt hB hrv.1 h17 hpos (fun J1 f1 r1 => ⟨rfl, fun c => ?_, fun c => ?_⟩)
      · have h0 : tk_t (tk_nx b n pos) ≠ 0 := fun q => c ((R_n5 r1).mpr q)
        rw [if_pos h0] at hz
        rw [r1.1]
        exact hz (in_nm (by omega)) J1 (rv_fr hrv f1 (by decide) (by decide) (by decide))
      · have h0 := (R_n5 r1).mp c
        rw [if_neg (fun q => q h0)] at hy
        exact hy rfl J1 (rv_fr hrv f1 (by decide) (by decide) (by decide)) (by show cs.length = 3; omega) (fun i hi => ⟨(hrp i hi).1, rz_fr (hrp i hi).2.1 f1 (by decide) (by decide), (hrp i hi).2.2⟩)
    · have := (in_lt (b := 3) (by omega) (by decide)).mp c
      omega
  | succ m ih =>
    intro p pos cs J hmp hpos h17 hrv hcs hrp hy hz
    unfold px at hy hz
    obtain ⟨hw, -⟩ := nx_wf (b := b) (n := n) hpos
    have hs : tk_s (tk_nx b n pos) ≤ n := Nat.le_trans hw.1 hw.2.1
    obtain ⟨n1, n2, n3⟩ := n2_wf (b := b) hw
    refine b_152_7 ⟨fun c => ?_, fun _ => ?_⟩
    · have := (in_le (a := 3) (by decide) (by omega)).mp c
      omega
    have e3 : (3 : Int32) * Int32.ofNat t + Int32.ofNat p = Int32.ofNat (3 * t + p) := by rw [Int32.ofNat_add, Int32.ofNat_mul]; rfl
    rw [e3]
    refine nxt hB hrv.1 h17 hpos (fun J1 f1 r1 => ⟨rfl, ?_⟩)
    have hwd := R_wd r1 (Int32.ofNat p) (Int32.ofNat (4 + p)) (by rw [Int32.ofNat_add, Int32.add_comm]; show Int32.ofNat p + 4 - 4 = _; rw [Int32.add_sub_cancel]) (fun q => by have := (in_eq (b := 0) (by omega) (by decide)).mp q; omega) (fun q => by have := (in_eq (b := 1) (by omega) (by decide)).mp q; omega) (fun q => by have := (in_eq (b := 2) (by omega) (by decide)).mp q; omega) (fun q => by have := (in_eq (b := 3) (by omega) (by decide)).mp q; omega) ((in_le (b := 9) (by omega) (by decide)).mpr (by omega))
    rw [hwd]
    have hrv1 := rv_fr hrv f1 (by decide) (by decide) (by decide)
    refine ⟨fun c => ?_, fun c => ?_⟩
    · rw [if_pos c] at hy hz
      refine nxt hB hrv1.1 r1.2.1 hw.2.1 (fun J2 f2 r2 => ⟨rfl, ?_⟩)
      have hrv2 := rv_fr hrv1 f2 (by decide) (by decide) (by decide)
      obtain ⟨k1, k2, k3⟩ := rt_K hB hrv2.1
      have r2' : tk_R J2 (tk_n2 b n (tk_nx b n pos)) := r2
      have hpg := ps_pg (b := b) (8 * n + 6) 1 0 (tk_n2 b n (tk_nx b n pos)) [] n1
      obtain ⟨g1, g2, g3⟩ := hpg
      have hs3 : tk_s (ps b n (8 * n + 6) 1 0 (tk_n2 b n (tk_nx b n pos)) []).2.1 ≤ n := Nat.le_trans g1.1 g1.2.1
      refine mo_151 (I0 := J2) (v := 3 * t + p) ⟨k1, hn, k2, k3⟩ (by omega) ⟨fr_refl _ _, fun _ _ => rfl, fun _ _ => rfl⟩ r2' n1 (fun q1 q2 J3 a3 z3 r3 => ⟨_, rfl, fun _ => ?_, fun q => absurd q (by decide)⟩) (fun q J3 a3 r3 => ⟨_, rfl, fun q => absurd rfl q, fun _ => ?_⟩)
      · rw [if_pos ⟨q1, q2⟩] at hy hz
        rw [in_a1]
        refine ih (p + 1) (tk_e (ps b n (8 * n + 6) 1 0 (tk_n2 b n (tk_nx b n pos)) []).2.1) _ J3 (by omega) g1.2.1 r3.2.1 (rv_ra hrv2 (by omega) a3) (by rw [List.length_append, hcs]; rfl) (fun i hi => ?_) hy hz
        rw [List.length_append] at hi
        have hi' : i < cs.length + 1 := hi
        by_cases e : i = cs.length
        · subst e
          rw [gl_ap2, hcs]
          have := (g3 q1).1
          refine ⟨?_, z3, dep1 n1 q1⟩
          have e0 : ([] : List Int32).length = 0 := rfl
          omega
        · rw [gl_ap1 (by omega)]
          obtain ⟨x1, x2, x3⟩ := hrp i (by omega)
          refine ⟨x1, ⟨?_, fun j hj => ?_⟩, x3⟩
          · rw [a3.2.2 _ (by omega), fr_g f2 51 0 _ (by decide) (by decide) (by decide), fr_g f1 51 0 _ (by decide) (by decide) (by decide)]
            exact x2.1
          · rw [a3.2.1 _ (by omega), fr_g f2 50 0 _ (by decide) (by decide) (by decide), fr_g f1 50 0 _ (by decide) (by decide) (by decide)]
            exact x2.2 j hj
      · rw [if_neg q] at hz
        rw [r3.1]
        exact hz (in_nm (by omega)) J3 (rv_ra hrv2 (by omega) a3)
    · rw [if_neg c] at hz
      rw [r1.1]
      exact hz (in_nm (by omega)) J1 hrv1
theorem mo_152 {Q : ma_Q} (hB : rt I0 b n) (ht : t < 6)
    (hy : (px b n 3 0 (tk_nx b n 0) []).1 = -1 → ∀ J, rv I0 t J → (px b n 3 0 (tk_nx b n 0) []).2.length = 3 → rp t (px b n 3 0 (tk_nx b n 0) []).2 J → Q (some (.inl (-1))) J o)
    (hz : (px b n 3 0 (tk_nx b n 0) []).1 ≠ -1 → ∀ J, rv I0 t J → Q (some (.inl (px b n 3 0 (tk_nx b n 0) []).1)) J o) : Exm (d + 4) 152 [.inr (.inr (40, 0)), .inl (Int32.ofNat t)] I0 o Q := by
  refine e_152 ?_
  exact loop152 hB ht 3 0 0 [] _ rfl (Nat.zero_le _) xv_us ⟨fr_up1 (fr_refl _ _) (by decide), fun j _ => up_g (by decide), fun j _ => up_g (by decide)⟩ rfl (fun i hi => absurd hi (Nat.not_lt_zero _)) hy hz
end TXR
/-! the answer -/
def tx_R (σ : ma_I) : Int32 × List (List Int32) := px (fun k => σ 49 0 k) (σ 40 0 12).toNatClampNeg 3 0 (tk_nx (fun k => σ 49 0 k) (σ 40 0 12).toNatClampNeg 0) []
def an_text (σ : ma_I) : Int32 := if σ 40 0 13 = 6 then -4 else if (tx_R σ).1 = -1 then σ 40 0 13 else -100 - (tx_R σ).1
section TXA
variable {d : Nat} {I : ma_I} {o : Nat} {Q : ma_Q} {t : Nat}
theorem mo_153 (hp : iv_p (mv I)) (hK : tk_K I) (h13 : (mv I) 40 0 13 = Int32.ofNat t) (ht : t ≤ 6)
    (h6 : t = 6 → Q (some (.inl (an_text (mv I)))) I o)
    (hy : t ≠ 6 → (tx_R (mv I)).1 = -1 → ∀ J, rv I t J → (tx_R (mv I)).2.length = 3 → rp t (tx_R (mv I)).2 J → Q (some (.inl (an_text (mv I)))) (ma_up (ma_up J 40 0 12 0) 40 0 13 (Int32.ofNat (t + 1))) o)
    (hz : t ≠ 6 → (tx_R (mv I)).1 ≠ -1 → ∀ J, rv I t J → Q (some (.inl (an_text (mv I)))) (ma_up J 40 0 12 0) o) : Exm (d + 5) 153 [.inr (.inr (40, 0))] I o Q := by
  have g13 : I 40 0 13 = Int32.ofNat t := h13
  obtain ⟨n, hn, hn1, -⟩ := hp
  have g12 : I 40 0 12 = Int32.ofNat n := hn
  have eR : tx_R (mv I) = px (fun k => I 49 0 k) n 3 0 (tk_nx (fun k => I 49 0 k) n 0) [] := by
    unfold tx_R
    rw [hn, in_cl (by omega)]
    rfl
  have e6 : (mv I) 40 0 13 = 6 ↔ t = 6 := by rw [h13]; exact in_eq (b := 6) (by omega) (by decide)
  refine e_153 ?_
  rw [g13]
  refine ⟨fun c => ?_, fun c => ?_⟩
  · have c' : t ≠ 6 := fun e => c (by rw [e]; rfl)
    have hB : rt I (fun k => I 49 0 k) n := ⟨g12, hn1, hK, rfl⟩
    have ea : an_text (mv I) = if (tx_R (mv I)).1 = -1 then (mv I) 40 0 13 else -100 - (tx_R (mv I)).1 := by unfold an_text; rw [if_neg (fun q => c' (e6.mp q))]
    refine mo_152 hB (by omega) (fun h1 J hJ h2 h3 => ⟨_, rfl, fun _ => ?_, fun q => absurd rfl q⟩) (fun h1 J hJ => ⟨_, rfl, fun q => absurd q h1, fun _ => ?_⟩)
    · rw [hJ.1 40 0 13 (by decide), g13, in_a1, in_s1]
      rw [← eR] at h1 h2 h3
      rw [ea, if_pos h1, h13] at hy
      exact hy c' h1 J hJ h2 h3
    · rw [← eR] at h1 ⊢
      rw [ea, if_neg h1] at hz
      exact hz c' h1 J hJ
  · have c' : t = 6 := (in_eq (b := 6) (by omega) (by decide)).mp c
    have := h6 c'
    unfold an_text at this
    rw [if_pos (e6.mpr c')] at this
    exact this
theorem xs_73 {σ : ma_I} (hp : iv_p σ) (hx : rx_p σ (sv I)) (hM : tk_M I) (h13 : σ 40 0 13 = Int32.ofNat t) (ht : t ≤ 6) (h66 : I 6 0 6 = σ 40 0 13)
    (h6 : t = 6 → Q (some (.inl (an_text σ))) I o)
    (hy : t ≠ 6 → (tx_R σ).1 = -1 → ∀ J, cw I t J → (tx_R σ).2.length = 3 → (tx_R σ).2.flatten.length ≤ 160 → cl t (tx_R σ).2 J → Q (some (.inl (an_text σ))) (ma_up (ma_up J 8 0 0 0) 6 0 6 (Int32.ofNat (t + 1))) t)
    (hz : t ≠ 6 → (tx_R σ).1 ≠ -1 → ∀ J, cw I t J → Q (some (.inl (an_text σ))) (ma_up J 8 0 0 0) t) : Exm (d + 44) 73 [.inr (.inr (5, 0))] I o Q := by
  obtain ⟨n, hn, hn1, -⟩ := hp
  have hx1 : I 8 0 0 = Int32.ofNat n := by rw [← hn]; exact hx.1
  have hB : cb I (fun k => σ 49 0 k) n := by
    refine ⟨hM, hx1, hn1, fun k hk => ?_⟩
    have := hx.2 k (by rw [hn, in_cl (by omega)]; exact hk)
    exact this
  have eR : tx_R σ = px (fun k => σ 49 0 k) n 3 0 (tk_nx (fun k => σ 49 0 k) n 0) [] := by
    unfold tx_R
    rw [hn, in_cl (by omega)]
  have e6 : σ 40 0 13 = 6 ↔ t = 6 := by rw [h13]; exact in_eq (b := 6) (by omega) (by decide)
  refine e_73 ?_
  rw [h66, h13, in_cl (by omega)]
  refine ⟨fun c => ?_, fun c => ?_⟩
  · have c1 := (in_lt (b := 6) (by omega) (by decide)).mp c
    have c' : t ≠ 6 := by omega
    have ea : an_text σ = if (tx_R σ).1 = -1 then σ 40 0 13 else -100 - (tx_R σ).1 := by unfold an_text; rw [if_neg (fun q => c' (e6.mp q))]
    refine ⟨in_in (by omega) c1, xs_30 hB (fun h1 J hJ h2 h3 h4 => ⟨_, rfl, fun _ => ?_, fun q => absurd rfl q⟩) (fun h1 J hJ => ⟨_, rfl, fun q => absurd q h1, fun _ => ?_⟩)⟩
    · rw [fr_g hJ.1 6 0 6 (by decide) (by decide) (by decide), h66, h13, in_a1, in_s1]
      rw [← eR] at h1 h2 h3 h4
      rw [ea, if_pos h1, h13] at hy
      exact hy c' h1 J hJ h2 h3 h4
    · rw [← eR] at h1 ⊢
      rw [ea, if_neg h1] at hz
      exact hz c' h1 J hJ
  · have c1 := (in_le (a := 6) (by decide) (by omega)).mp c
    have c' : t = 6 := by omega
    have := h6 c'
    unfold an_text at this
    rw [if_pos (e6.mpr c')] at this
    exact this
end TXA

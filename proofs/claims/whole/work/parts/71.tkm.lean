/-! ===== tokens of the reference ===== -/
section TKM
variable {d : Nat} {I : ma_I} {o : Nat} {Q : ma_Q} {σ : ma_I} {n : Nat}
theorem mo_139c {s e i : Nat} (hK : tk_K I) (hs : I 40 0 20 = Int32.ofNat s) (hse : s ≤ e) (he : e ≤ 160) (hi : i < 12)
    (hno : tk_is (fun k => I 49 0 k) s e i = false → ∀ w2 w3 w4, Ex (d + 1) 139 (32, [vR 40 0, vI (Int32.ofNat (i + 1)), w2, w3, w4], [], ma_mem I o, 0, 0) (ma_end Q))
    (hyes : tk_is (fun k => I 49 0 k) s e i = true → ∀ w2 w3 w4, Ex (d + 1) 139 (32, [vR 40 0, vI (Int32.ofNat (i + 1)), w2, w3, w4], [], ma_mem (ma_up (ma_up I 40 0 18 (if i < 6 then 2 else 3)) 40 0 19 (Int32.ofNat (if i < 6 then i else i - 6))) o, 0, 0) (ma_end Q)) :
    ∀ (r k : Nat) (f : Int32), k + r = tk_S (i + 1) - tk_S i → (f = 1 ∧ (tk_W i).length = e - s ∧ (∀ m, m < k → I 49 0 (s + m) = (tk_W i).getD m 0) ∨ f = 0 ∧ tk_is (fun k => I 49 0 k) s e i = false) →
    Ex (d + 1) 139 (76, [vR 40 0, vI (Int32.ofNat i), vI (Int32.ofNat (tk_S (i + 1) - tk_S i)), vI f, vI (Int32.ofNat k)], [], ma_mem I o, 0, 0) (ma_end Q) := by
  obtain ⟨hl1, hl2, hl3⟩ := W_len i hi
  have h6 : ((6 : Int32) ≤ Int32.ofNat i ↔ 6 ≤ i) := in_le (a := 6) (by decide) (by omega)
  have h6' : (Int32.ofNat i < (6 : Int32) ↔ i < 6) := in_lt (b := 6) (by omega) (by decide)
  have hsub : 6 ≤ i → Int32.ofNat i - 6 = Int32.ofNat (i - 6) := fun q => (Int32.ofNat_sub i 6 q).symm
  intro r
  induction r with
  | zero =>
    intro k f hk hf
    refine b_139_76 ?_
    rw [in_a1]
    refine ⟨fun _ => ⟨fun c => ?_, fun c => ?_⟩, fun c => ?_⟩
    · rcases hf with ⟨q, -⟩ | ⟨-, q⟩
      · rw [q] at c; exact absurd c (by decide)
      · exact hno q _ _ _
    · rcases hf with ⟨-, q1, q2⟩ | ⟨q, -⟩
      · have hy : tk_is (fun k => I 49 0 k) s e i = true := is_of.mpr ⟨q1.symm, fun m hm => q2 m (by omega)⟩
        have hyy := hyes hy
        refine ⟨fun c6 => ⟨fun _ => ?_, fun c7 => absurd (h6'.mp c7) (by have := h6.mp c6; omega)⟩, fun c6 => ⟨fun c7 => absurd (h6.mp c7) (by have := h6'.mp c6; omega), fun _ => ?_⟩⟩
        · have := h6.mp c6
          rw [if_neg (by omega), if_neg (by omega)] at hyy
          rw [hsub this]
          exact hyy _ _ _
        · have := h6'.mp c6
          rw [if_pos this, if_pos this] at hyy
          exact hyy _ _ _
      · exact absurd q c
    · have := (in_lt (by omega) (by omega)).mp c
      omega
  | succ r ih =>
    intro k f hk hf
    refine b_139_76 ?_
    rw [in_a1, in_a1]
    refine ⟨fun c => ?_, fun _ => ⟨fun c => ⟨fun _ => ?_, fun c2 => absurd c c2⟩, fun c => ?_⟩⟩
    · have := (in_le (by omega) (by omega)).mp c
      omega
    · rcases hf with ⟨q, -⟩ | ⟨-, q⟩
      · rw [q] at c; exact absurd c (by decide)
      · exact hno q _ _ _
    · rcases hf with ⟨-, q1, q2⟩ | ⟨q, -⟩
      · have e1 : I 40 0 20 + Int32.ofNat k = Int32.ofNat (s + k) := by rw [hs]; exact (Int32.ofNat_add s k).symm
        have e2 : I 53 0 i + Int32.ofNat k = Int32.ofNat (tk_S i + k) := by rw [hK.1 i (by omega)]; exact (Int32.ofNat_add _ k).symm
        rw [in_cl (a := i) (by omega), e1, e2, in_cl (by omega), in_cl (by omega), hK.2 i hi k (by omega)]
        refine ⟨in_in (by omega) (by omega), in_in (by omega) (by omega), in_in (by omega) (by omega), fun c2 => ih (k + 1) 0 (by omega) (Or.inr ⟨rfl, ?_⟩), fun c2 => ih (k + 1) 1 (by omega) (Or.inl ⟨rfl, q1, fun m hm => ?_⟩)⟩
        · cases hb : tk_is (fun k => I 49 0 k) s e i with
          | false => rfl
          | true => exact absurd ((is_of.mp hb).2 k (by omega)) c2
        · by_cases em : m = k
          · subst em; exact c2
          · exact q2 m (by omega)
      · exact absurd q c
/-- what the words have told so far -/
def wd_i (b : Nat → Int32) (s e v : Nat) (J : ma_I) : Prop := (∀ i, i < v → tk_is b s e i = false) ∧ J 40 0 18 = 6 ∨ ∃ i, i < v ∧ tk_is b s e i = true ∧ J 40 0 18 = (if i < 6 then 2 else 3) ∧ J 40 0 19 = Int32.ofNat (if i < 6 then i else i - 6)
theorem K_fr {J : ma_I} (h : tk_K I) (hf : fr fr_tk I J) : tk_K J := ⟨fun i hi => by rw [fr_g hf 53 0 _ (by decide) (by decide) (by decide)]; exact h.1 i hi, fun i hi k hk => by rw [fr_g hf 52 0 _ (by decide) (by decide) (by decide)]; exact h.2 i hi k hk⟩
theorem mo_139b {s e : Nat} (hK : tk_K I) (hs : I 40 0 20 = Int32.ofNat s) (he1 : I 40 0 17 = Int32.ofNat e) (hse : s ≤ e) (he : e ≤ 160)
    (h : ∀ J, fr [1018, 1019] I J → wd_i (fun k => I 49 0 k) s e 12 J → Q none J o) :
    ∀ (r v : Nat) (J : ma_I) w2 w3 w4, v + r = 12 → fr [1018, 1019] I J → wd_i (fun k => I 49 0 k) s e v J → Ex (d + 1) 139 (32, [vR 40 0, vI (Int32.ofNat v), w2, w3, w4], [], ma_mem J o, 0, 0) (ma_end Q) := by
  intro r
  induction r with
  | zero =>
    intro v J w2 w3 w4 hv hf hw
    have : v = 12 := by omega
    subst this
    exact b_139_32 ⟨fun _ => h J hf hw, fun c => absurd c (by decide)⟩
  | succ r ih =>
    intro v J w2 w3 w4 hv hf hw
    have hKJ : tk_K J := K_fr hK (fr_mono hf (by decide))
    have hsJ : J 40 0 20 = Int32.ofNat s := by rw [hf 40 0 20 (by decide)]; exact hs
    have heJ : J 40 0 17 = Int32.ofNat e := by rw [hf 40 0 17 (by decide)]; exact he1
    have hbJ : (fun k => J 49 0 k) = (fun k => I 49 0 k) := by funext k; exact fr_g hf 49 0 k (by decide) (by decide) (by decide)
    obtain ⟨hl1, hl2, hl3⟩ := W_len v (by omega)
    have hno : tk_is (fun k => J 49 0 k) s e v = false → ∀ w2 w3 w4, Ex (d + 1) 139 (32, [vR 40 0, vI (Int32.ofNat (v + 1)), w2, w3, w4], [], ma_mem J o, 0, 0) (ma_end Q) := by
      intro hq u2 u3 u4
      rw [hbJ] at hq
      refine ih (v + 1) J u2 u3 u4 (by omega) hf ?_
      rcases hw with ⟨q1, q2⟩ | ⟨i, q1, q2⟩
      · refine Or.inl ⟨fun i hi => ?_, q2⟩
        by_cases ei : i = v
        · subst ei; exact hq
        · exact q1 i (by omega)
      · exact Or.inr ⟨i, by omega, q2⟩
    have hyes : tk_is (fun k => J 49 0 k) s e v = true → ∀ w2 w3 w4, Ex (d + 1) 139 (32, [vR 40 0, vI (Int32.ofNat (v + 1)), w2, w3, w4], [], ma_mem (ma_up (ma_up J 40 0 18 (if v < 6 then 2 else 3)) 40 0 19 (Int32.ofNat (if v < 6 then v else v - 6))) o, 0, 0) (ma_end Q) := by
      intro hq u2 u3 u4
      rw [hbJ] at hq
      refine ih (v + 1) _ u2 u3 u4 (by omega) (fr_up1 (fr_up1 hf (by decide)) (by decide)) (Or.inr ⟨v, by omega, hq, ?_, ?_⟩)
      · rw [up_j (by decide), xv_us]
      · rw [xv_us]
    have key := mo_139c (Q := Q) (d := d) (o := o) hKJ hsJ hse he (by omega : v < 12) hno hyes (tk_S (v + 1) - tk_S v) 0
    refine b_139_32 ?_
    have e1 : J 53 0 (v + 1) - J 53 0 v = Int32.ofNat (tk_S (v + 1) - tk_S v) := by rw [hKJ.1 (v + 1) (by omega), hKJ.1 v (by omega), Int32.ofNat_sub _ _ hl2]
    have e2 : J 40 0 17 - J 40 0 20 = Int32.ofNat (e - s) := by rw [heJ, hsJ, Int32.ofNat_sub _ _ hse]
    rw [in_a1, in_cl (by omega), in_cl (by omega), e1, e2]
    refine ⟨fun c => ?_, fun _ => ⟨in_in (by omega) (by omega), in_in (by omega) (by omega), fun c => key 0 (by omega) (Or.inr ⟨rfl, ?_⟩), fun c => key 1 (by omega) (Or.inl ⟨rfl, ?_, fun m hm => by omega⟩)⟩⟩
    · have := (in_le (a := 12) (by decide) (by omega)).mp c
      omega
    · cases hb : tk_is (fun k => J 49 0 k) s e v with
      | false => rfl
      | true =>
        have := (is_of.mp hb).1
        exact absurd (by rw [this, hl1]) c
    · have := (in_eq (by omega) (by omega)).mp c
      omega
end TKM

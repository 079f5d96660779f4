/-! ===== calls, returns, the rest, an instruction at a time ===== -/
section EXC
variable {d y pc : Nat} {L : List (Option ma_V)} {st : List ma_V} {I : ma_I} {o : Nat} {M : ma_M} {a b : Nat} {Q : Option ma_V → ma_M → Prop}
theorem ex_ret {i : Instr} {n : Nat} {ok : Bool} {r : Option ma_V} (hf : ma_find pc (mt_prog.getD y []) = some (i, n)) (hs : ma_do pc L st M a b y i = .inr (.inl (ok, r, M))) (hok : ok = true) (ha : Nat.ble a (mt_mc.getD y (0, 0)).1 = true) (hb : Nat.ble b (mt_mc.getD y (0, 0)).2 = true) (h : Q r M) : Ex d y (pc, L, st, M, a, b) Q :=
  Ex.ret (by show (match ma_find pc (mt_prog.getD y []) with | some (i, _) => ma_do pc L st M a b y i | none => ma_no) = _; rw [hf]; exact hs) hok (Nat.le_of_ble_eq_true ha) (Nat.le_of_ble_eq_true hb) h
theorem ex_ireturn {v : Int32} (hf : ma_find pc (mt_prog.getD y []) = some (.ireturn, 1)) (ht : mt_ret.getD y none = some .int) (ha : Nat.ble a (mt_mc.getD y (0, 0)).1 = true) (hb : Nat.ble b (mt_mc.getD y (0, 0)).2 = true) (h : Q (some (.inl v)) M) : Ex d y (pc, L, [.inl v], M, a, b) Q :=
  ex_ret hf (ok := ma_rok (mt_ret.getD y none) v) rfl (by rw [ht]; rfl) ha hb h
theorem ex_zreturn {v : Int32} (hf : ma_find pc (mt_prog.getD y []) = some (.ireturn, 1)) (ht : mt_ret.getD y none = some .boolean) (ha : Nat.ble a (mt_mc.getD y (0, 0)).1 = true) (hb : Nat.ble b (mt_mc.getD y (0, 0)).2 = true) (h : (v = 0 ∨ v = 1) ∧ Q (some (.inl v)) M) : Ex d y (pc, L, [.inl v], M, a, b) Q :=
  ex_ret hf (ok := ma_rok (mt_ret.getD y none) v) rfl (by rw [ht]; rcases h.1 with e | e <;> subst e <;> rfl) ha hb h.2
theorem ex_return (hf : ma_find pc (mt_prog.getD y []) = some (.return_, 1)) (ht : mt_ret.getD y none = none) (ha : Nat.ble a (mt_mc.getD y (0, 0)).1 = true) (hb : Nat.ble b (mt_mc.getD y (0, 0)).2 = true) (h : Q none M) : Ex d y (pc, L, [], M, a, b) Q :=
  ex_ret hf (ok := (mt_ret.getD y none).isNone) rfl (by rw [ht]; rfl) ha hb h
theorem ex_lreturn {v : Int64} (hf : ma_find pc (mt_prog.getD y []) = some (.lreturn, 1)) (ht : ma_rlo (mt_ret.getD y none) = true) (ha : Nat.ble a (mt_mc.getD y (0, 0)).1 = true) (hb : Nat.ble b (mt_mc.getD y (0, 0)).2 = true) (h : Q (some (.inr (.inl v))) M) : Ex d y (pc, L, [.inr (.inl v)], M, a, b) Q :=
  ex_ret hf (ok := ma_rlo (mt_ret.getD y none)) rfl ht ha hb h
theorem ex_areturn {q : Nat × Nat} (hf : ma_find pc (mt_prog.getD y []) = some (.areturn, 1)) (hq : ma_nn q = true) (ht : ma_rob (mt_ret.getD y none) = true) (ha : Nat.ble a (mt_mc.getD y (0, 0)).1 = true) (hb : Nat.ble b (mt_mc.getD y (0, 0)).2 = true) (h : Q (some (.inr (.inr q))) M) : Ex d y (pc, L, [.inr (.inr q)], M, a, b) Q :=
  ex_ret hf (ok := ma_nn q && ma_rob (mt_ret.getD y none)) rfl (by rw [hq, ht]; rfl) ha hb h
/-- a call in the full memory -/
def ck_ca (y own k z na rk : Nat) (ks : List Nat) : Bool := match ma_f4 k (mt_ct.getD own []) with
  | some (z', kd, _) => ks.contains kd && Nat.blt kd 6 && Nat.beq z' z && Nat.beq (mt_na.getD z 0) na && Nat.beq (mt_rk.getD z 0) rk && Nat.beq (mt_own.getD y 0) own && Nat.beq (mt_mc.getD z (0, 0)).1 0 && Nat.beq (mt_mc.getD z (0, 0)).2 0
  | none => false
theorem ex_cl {own k z na rk : Nat} {ks : List Nat} {as rs : List ma_V} {i : Instr} (hf : ma_find pc (mt_prog.getD y []) = some (i, 3)) (hi : ma_do pc L st (ma_mem I o) a b y i = ma_call pc L st (ma_mem I o) a b y (mt_own.getD y 0) k ks) (hc : ck_ca y own k z na rk ks = true) (hst : st = as.reverse ++ rs) (hna : as.length = na) (hal : Nat.ble (ma_args as).length (mt_ml.getD z 0) = true) (hcat : Nat.ble (ma_cat rs) 8 = true) (hrc : ma_rc z as = true ∨ (ks = [0, 1, 7, 8, 9])) (ha : Nat.ble a (mt_mc.getD y (0, 0)).1 = true) (hb : Nat.ble b (mt_mc.getD y (0, 0)).2 = true)
    (h : Exm d z as I o (fun r I' o' => ∃ v, ma_pick rk r = some v ∧ Ex (d + 1) y (pc + 3, L, (bif Nat.beq rk 0 then rs else v :: rs), ma_mem I' o', a, b) Q)) : Ex (d + 1) y (pc, L, st, ma_mem I o, a, b) Q := by
  unfold ck_ca at hc
  cases hq : ma_f4 k (mt_ct.getD own []) with
  | none => rw [hq] at hc; cases hc
  | some q =>
    obtain ⟨z', kd, p⟩ := q
    rw [hq] at hc
    simp only [Bool.and_eq_true] at hc
    obtain ⟨⟨⟨⟨⟨⟨⟨h1, h2⟩, h3⟩, h4⟩, h5⟩, h6⟩, h7⟩, h8⟩ := hc
    have e3 := Nat.eq_of_beq_eq_true h3
    have e4 := Nat.eq_of_beq_eq_true h4
    have e5 := Nat.eq_of_beq_eq_true h5
    have e6 := Nat.eq_of_beq_eq_true h6
    have e7 := Nat.eq_of_beq_eq_true h7
    have e8 := Nat.eq_of_beq_eq_true h8
    have k6 : kd < 6 := Nat.le_of_ble_eq_true h2
    subst e3
    have hlen : as.reverse.length = mt_na.getD z' 0 := by rw [List.length_reverse, hna, e4]
    have ht : (st.take (mt_na.getD z' 0)).reverse = as := by rw [hst, ← hlen, List.take_left, List.reverse_reverse]
    have hdr : st.drop (mt_na.getD z' 0) = rs := by rw [hst, ← hlen, List.drop_left]
    have hl : Nat.ble (mt_na.getD z' 0) st.length = true := Nat.ble_eq_true_of_le (by rw [hst, List.length_append, hlen]; exact Nat.le_add_right _ _)
    have hr : (Nat.blt kd 2 || ma_rc z' as) = true := by
      rcases hrc with w | w
      · rw [w, Bool.or_true]
      · subst w
        have hm : kd ∈ [0, 1, 7, 8, 9] := by simpa using h1
        simp only [List.mem_cons, List.not_mem_nil, or_false] at hm
        have : kd < 2 := by omega
        rw [show Nat.blt kd 2 = true from Nat.ble_eq_true_of_le this]
        rfl
    refine Ex.call (z := z') (as := as) (M := ma_mem I o) (k := fun v M' => (pc + 3, L, (bif Nat.beq (mt_rk.getD z' 0) 0 then rs else v :: rs), M', a + (mt_mc.getD z' (0, 0)).1, b + (mt_mc.getD z' (0, 0)).2)) ?_ ?_
    · show (match ma_find pc (mt_prog.getD y []) with | some (i, _) => ma_do pc L st (ma_mem I o) a b y i | none => ma_no) = _
      rw [hf]
      dsimp only
      rw [hi, e6]
      unfold ma_call
      rw [hq]
      dsimp only
      rw [h1, sd_nb (show kd ≠ 7 by omega), sd_nb (show kd ≠ 8 by omega), sd_nb (show kd ≠ 9 by omega), sd_nb (show kd ≠ 6 by omega), ht, hdr, hl, hal, hcat, hr, e7, e8, show Nat.ble (a + 0) (mt_mc.getD y (0, 0)).1 = true from ha, show Nat.ble (b + 0) (mt_mc.getD y (0, 0)).2 = true from hb]
      rfl
    · refine Ex.mono h (fun r M' hh => ?_)
      obtain ⟨I', o', rfl, v, hv, hE⟩ := hh
      refine ⟨v, by rw [e5]; exact hv, ?_⟩
      rw [e5, e7, e8]
      exact hE
end EXC

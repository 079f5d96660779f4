/-! ===== from the entry to the end ===== -/
theorem f4_63 : ma_f4 9 (mt_ct.getD (mt_own.getD 192 0) []) = some (63, 4, (ma_f4 9 (mt_ct.getD (mt_own.getD 192 0) [])).get!.2.2) := by decide +kernel
theorem f4_155 : ma_f4 12 (mt_ct.getD (mt_own.getD 192 0) []) = some (155, 4, (ma_f4 12 (mt_ct.getD (mt_own.getD 192 0) [])).get!.2.2) := by decide +kernel
theorem cl_63 : (Nat.ble (mt_na.getD 63 0) ([.inr (.inr (5, 0)), .inr (.inr (5, 0))] : List ma_V).length && Nat.ble (ma_args (([.inr (.inr (5, 0)), .inr (.inr (5, 0))] : List ma_V).take (mt_na.getD 63 0)).reverse).length (mt_ml.getD 63 0) && Nat.ble (ma_cat (([.inr (.inr (5, 0)), .inr (.inr (5, 0))] : List ma_V).drop (mt_na.getD 63 0))) 8 && ma_rc 63 (([.inr (.inr (5, 0)), .inr (.inr (5, 0))] : List ma_V).take (mt_na.getD 63 0)).reverse && Nat.ble (1 + (mt_mc.getD 63 (0, 0)).1) (mt_mc.getD 192 (0, 0)).1 && Nat.ble (6 + (mt_mc.getD 63 (0, 0)).2) (mt_mc.getD 192 (0, 0)).2) = true := by decide +kernel
theorem cl_155 : (Nat.ble (mt_na.getD 155 0) ([.inr (.inr (40, 0)), .inr (.inr (40, 0))] : List ma_V).length && Nat.ble (ma_args (([.inr (.inr (40, 0)), .inr (.inr (40, 0))] : List ma_V).take (mt_na.getD 155 0)).reverse).length (mt_ml.getD 155 0) && Nat.ble (ma_cat (([.inr (.inr (40, 0)), .inr (.inr (40, 0))] : List ma_V).drop (mt_na.getD 155 0))) 8 && ma_rc 155 (([.inr (.inr (40, 0)), .inr (.inr (40, 0))] : List ma_V).take (mt_na.getD 155 0)).reverse && Nat.ble (69 + (mt_mc.getD 155 (0, 0)).1) (mt_mc.getD 192 (0, 0)).1 && Nat.ble (2748 + (mt_mc.getD 155 (0, 0)).2) (mt_mc.getD 192 (0, 0)).2) = true := by decide +kernel
theorem t_63 : mt_na.getD 63 0 = 1 ∧ mt_rk.getD 63 0 = 0 ∧ mt_mc.getD 63 (0, 0) = (67, 2694) ∧ mt_na.getD 155 0 = 1 ∧ mt_rk.getD 155 0 = 0 ∧ mt_mc.getD 155 (0, 0) = (24, 3939) ∧ mt_ml.getD 192 0 = 4 := by decide +kernel
theorem ca_63 {L : List (Option ma_V)} {M : ma_M} : ma_call 4 L [.inr (.inr (5, 0)), .inr (.inr (5, 0))] M 1 6 192 (mt_own.getD 192 0) 9 [4, 5, 6] = .inr (.inr (63, [.inr (.inr (5, 0))], M, fun v M' => (7, L, [.inr (.inr (5, 0))], M', 68, 2700))) := by
  have h := call_eq (pc := 4) (L := L) (M := M) f4_63 (Or.inl rfl) cl_63
  obtain ⟨e1, e2, e3, -⟩ := t_63
  rw [e1, e2, e3] at h
  exact h
theorem ca_155 {L : List (Option ma_V)} {M : ma_M} : ma_call 12 L [.inr (.inr (40, 0)), .inr (.inr (40, 0))] M 69 2748 192 (mt_own.getD 192 0) 12 [4, 5, 6] = .inr (.inr (155, [.inr (.inr (40, 0))], M, fun v M' => (15, L, [.inr (.inr (40, 0))], M', 93, 6687))) := by
  have h := call_eq (pc := 12) (L := L) (M := M) f4_155 (Or.inl rfl) cl_155
  obtain ⟨-, -, -, e1, e2, e3, -⟩ := t_63
  rw [e1, e2, e3] at h
  exact h
theorem nw_5 {L : List (Option ma_V)} {M : ma_M} : ma_do 0 L [] M 0 0 192 (.new 7) = .inl ([], some (3, L, [.inr (.inr (5, M.1 5))], ma_mk M 5, 1, 6)) := by
  show ma_new 0 L [] M 0 0 192 (fun g => Nat.ble 100 (ma_gk g) && Nat.blt (ma_gk g) 110) = _
  unfold ma_new
  have h1 : ma_fn 192 0 mt_nt = some 5 := by decide +kernel
  rw [h1]
  dsimp only
  have h2 : (Nat.ble 100 (ma_gk 5) && Nat.blt (ma_gk 5) 110 && Nat.ble (0 + 1) (mt_mc.getD 192 (0, 0)).1 && Nat.ble (0 + ma_gl 5) (mt_mc.getD 192 (0, 0)).2) = true := by decide +kernel
  have h3 : ma_gl 5 = 6 := by decide +kernel
  rw [h2, h3]
  rfl
theorem nw_40 {L : List (Option ma_V)} {M : ma_M} : ma_do 8 L [] M 68 2700 192 (.new 10) = .inl ([], some (11, L, [.inr (.inr (40, M.1 40))], ma_mk M 40, 69, 2748)) := by
  show ma_new 8 L [] M 68 2700 192 (fun g => Nat.ble 100 (ma_gk g) && Nat.blt (ma_gk g) 110) = _
  unfold ma_new
  have h1 : ma_fn 192 8 mt_nt = some 40 := by decide +kernel
  rw [h1]
  dsimp only
  have h2 : (Nat.ble 100 (ma_gk 40) && Nat.blt (ma_gk 40) 110 && Nat.ble (68 + 1) (mt_mc.getD 192 (0, 0)).1 && Nat.ble (2700 + ma_gl 40) (mt_mc.getD 192 (0, 0)).2) = true := by decide +kernel
  have h3 : ma_gl 40 = 48 := by decide +kernel
  rw [h2, h3]
  rfl
/-- from the entry, for every script of at most 3072 ints, the law comes to its end with true -/
theorem whole_start {p : Program} {e : Env} {s : State} {m : MethodId} {below : List Frame} {meth : Method} {c : Code} (l : Launch) {b L : Nat} {xs : Nat → Int32} (hL : L ≤ 3072) (C0 : lw_At p s m meth c b L xs) : W p l e room_1 s m #[Value.ref b] below meth c s.heap [] 0 0 (lw_Z below #[Value.ref b] s) (entryFrame m ([Value.ref b] : List Value).toArray 4) := by
  obtain ⟨hx, hb, hr, hml, hown, hts, hX, hbl, hlocks, hgv⟩ := C0
  obtain ⟨dC, dI, adK, adV, ov, hov, Z, hS⟩ := st_Z hts hgv m.cls
  obtain ⟨M1, M2, r1, r2, ⟨g1, n1, n40⟩, nb, rb, cb, hhb, sb, wb, n2⟩ := cn_ex
  have F : sd_F p s m meth c 192 s := ⟨hx, hb, hml, hown, (fun h => by cases h), State.WarmedH.refl s⟩
  have hmc : (mt_mc.getD 192 (0, 0)).1 ≤ 600000 ∧ (mt_mc.getD 192 (0, 0)).2 ≤ 7302250 := by decide +kernel
  have hR : sd_R room_1 (1299 + 1) 192 := ⟨by decide, by decide, hmc.1, hmc.2⟩
  have hEnd : ∀ (A : Nat → Nat → Nat) (M M' : ma_M), sd_End p l e room_1 s m #[Value.ref b] below meth c (lw_Z below #[Value.ref b] s) s dC dI adK adV ov 192 A M (some (.inl 1)) M' := by
    intro A M M' A' H' locs' ls' pc' i a' b' _ _ _ hlc ha' hb' hd hi
    have hd' : decode code pc' = .ok (i, 1) := hd
    rcases hi with ⟨-, h, -⟩ | ⟨rfl, -⟩ | ⟨-, v, h, -⟩ | ⟨-, v, h, -⟩
    · cases h
    · exact va_forget hlc (W.widen (Nat.le_trans ha' hmc.1) (Nat.le_trans hb' hmc.2) (lw_ret hx hb hr hlocks hd'))
    · cases h
    · cases h
  -- the law's loop
  have hLW : LW (ag L xs M2).2.1 := LW_0 (J := M2.2.1) (fun g i j hg => if_neg hg) cb hhb sb wb
  have hEx : Ex 1300 192 (16, [some (.inr (.inr (1, 0))), some (.inr (.inr (5, 0))), some (.inr (.inr (40, 0))), none], [], ma_mem (ag L xs M2).2.1 0, 93, 6687) (ma_end (fun r _ _ => r = some (.inl 1))) :=
    Ex.deep (c_192_16 (law_loop (d := 0) hL (fun _ _ => rfl) (L + 1) 0 (ag L xs M2).2.1 0 hLW (in_cl (a := L) (by omega)) (Nat.zero_le _) (by omega))) (by omega)
  obtain ⟨n, r, Mf, hgo, I', o', hM, hr1⟩ := hEx
  subst hr1
  have T16 := sd_main (l := l) Z hov n 1300 192 _ _ Mf (by decide) hgo
  -- what the constructors make
  have T1c := sd_main (l := l) Z hov 20000 1299 63 _ _ M1 (by decide) r1
  have T2c := sd_main (l := l) Z hov 20000 1299 155 _ _ M2 (by decide) r2
  have R0 : ∀ g i j, (ma_mk cn_M0 5).2.2 g i j = (0, 0) := by
    intro g i j
    show (if g = 5 then if i = cn_M0.1 5 then ((0, 0) : Nat × Nat) else (0, 0) else (0, 0)) = (0, 0)
    split
    · split <;> rfl
    · rfl
  have v1 : sd_vs (ma_mk cn_M0 5) [.inr (.inr (5, 0))] := sd_vs.cons (Or.inr (Or.inr (by show 0 < (if (5 : Nat) = 5 then cn_M0.1 5 + 1 else cn_M0.1 5); rw [if_pos rfl]; exact Nat.succ_pos _))) (fun v h => by cases h)
  have v2 : sd_vs (ma_mk M1 40) [.inr (.inr (40, 0))] := sd_vs.cons (Or.inr (Or.inr (by show 0 < (if (40 : Nat) = 40 then M1.1 40 + 1 else M1.1 40); rw [if_pos rfl]; exact Nat.succ_pos _))) (fun v h => by cases h)
  have vl : ∀ (y : Nat) (as : List ma_V) (M : ma_M), sd_vs M as → sd_vl M (ma_ini y as M).2.1 := by
    intro y as M hv v h
    rcases List.mem_append.mp h with w | w
    · exact hv v (sd_args_ok (M := M) _ v w)
    · cases (List.mem_replicate.mp w).2
  have T1 : sd_T l s dC dI adK adV ov 1299 63 (ma_ini 63 [.inr (.inr (5, 0))] (ma_mk (lw_M0 L xs) 5)) none (ag L xs M1) := by
    rw [← ag_0, ag_mk (by decide)]
    exact T_tr T1c rfl (fun g i j _ _ => by rw [R0]; decide) (vl _ _ _ v1) n1 (fun g _ => rfl) (fun g i j hg => if_neg hg) (fun i j => rfl) (fun _ _ _ _ _ => rfl)
  have T2 : sd_T l s dC dI adK adV ov 1299 155 (ma_ini 155 [.inr (.inr (40, 0))] (ma_mk (ag L xs M1) 40)) none (ma_mem (ag L xs M2).2.1 0) := by
    rw [ag_mk (by decide)]
    refine T_tr T2c ?_ (fun g i j hi hj => ?_) (vl _ _ _ v2) n2 (fun g h0 => nb_eq nb g h0) (fun g i j hg => if_neg hg) (fun i j => rfl) (fun g i j hi hj => rb_eq rb nb hi hj)
    · show (if (1 : Nat) = 40 then M1.1 40 + 1 else M1.1 1) = 0
      rw [if_neg (by decide)]; exact n1
    · have hi' : i < if g = 40 then M1.1 40 + 1 else M1.1 g := hi
      show (if g = 40 then if i = M1.1 40 then ((0, 0) : Nat × Nat) else M1.2.2 g i j else M1.2.2 g i j).1 ≠ 1
      by_cases e1 : g = 40
      · rw [if_pos e1] at hi' ⊢
        by_cases e2 : i = M1.1 40
        · rw [if_pos e2]; decide
        · rw [if_neg e2]
          exact gb_ne g1 (by rw [e1]; omega) hj
      · rw [if_neg e1] at hi' ⊢
        exact gb_ne g1 hi' hj
  -- one instruction after the other
  have stp : ∀ {pc : Nat} {K : List (Option ma_V)} {st : List ma_V} {M : ma_M} {a b' n : Nat} {i : Instr} {c' : ma_C}, ma_find pc (mt_prog.getD 192 []) = some (i, n) → ma_do pc K st M a b' 192 i = .inl ([], some c') →
      (∀ (A : Nat → Nat → Nat) (H : Heap) (locs : List Loc) (ls : Array Slot), sd_B s dC dI adK adV ov (mt_ml.getD 192 0) A c'.2.2.2.1 c'.2.1 c'.2.2.1 H locs ls → W p l e room_1 s m #[Value.ref b] below meth c H locs c'.2.2.2.2.1 c'.2.2.2.2.2 (lw_Z below #[Value.ref b] s) (F0 m c'.1 ls (c'.2.2.1.map (sd_v A ov)))) →
      ∀ (A : Nat → Nat → Nat) (H : Heap) (locs : List Loc) (ls : Array Slot), sd_B s dC dI adK adV ov (mt_ml.getD 192 0) A M K st H locs ls → W p l e room_1 s m #[Value.ref b] below meth c H locs a b' (lw_Z below #[Value.ref b] s) (F0 m pc ls (st.map (sd_v A ov))) := by
    intro pc K st M a b' n i c' hf hs hP A H locs ls B
    obtain ⟨hd, hil⟩ := sd_dec1 (by decide) hf
    exact sd_one F Z hov hR B hf hd hil hs (fun A' H' locs' ls' B' _ => hP A' H' locs' ls' B')
  have P16 : ∀ (A : Nat → Nat → Nat) (H : Heap) (locs : List Loc) (ls : Array Slot), sd_B s dC dI adK adV ov (mt_ml.getD 192 0) A (ma_mem (ag L xs M2).2.1 0) [some (.inr (.inr (1, 0))), some (.inr (.inr (5, 0))), some (.inr (.inr (40, 0))), none] [] H locs ls → W p l e room_1 s m #[Value.ref b] below meth c H locs 93 6687 (lw_Z below #[Value.ref b] s) (F0 m 16 ls (([] : List ma_V).map (sd_v A ov))) :=
    fun A H locs ls B => T16 A p e room_1 s m #[Value.ref b] below meth c H locs _ ls F hR B (hEnd _ _ _)
  have P15 := stp (pc := 15) (K := [some (.inr (.inr (1, 0))), some (.inr (.inr (5, 0))), none, none]) (st := [.inr (.inr (40, 0))]) (M := ma_mem (ag L xs M2).2.1 0) (a := 93) (b' := 6687) (fr_get fo_192_0 7 rfl) (c' := (16, [some (.inr (.inr (1, 0))), some (.inr (.inr (5, 0))), some (.inr (.inr (40, 0))), none], [], ma_mem (ag L xs M2).2.1 0, 93, 6687)) rfl P16
  have P12 : ∀ (A : Nat → Nat → Nat) (H : Heap) (locs : List Loc) (ls : Array Slot), sd_B s dC dI adK adV ov (mt_ml.getD 192 0) A (ma_mk (ag L xs M1) 40) [some (.inr (.inr (1, 0))), some (.inr (.inr (5, 0))), none, none] [.inr (.inr (40, 0)), .inr (.inr (40, 0))] H locs ls → W p l e room_1 s m #[Value.ref b] below meth c H locs 69 2748 (lw_Z below #[Value.ref b] s) (F0 m 12 ls (([.inr (.inr (40, 0)), .inr (.inr (40, 0))] : List ma_V).map (sd_v A ov))) := by
    intro A H locs ls B
    exact sd_special (d := 1299) (v := .inl 0) F Z hov hR B ca_155 (sd_dec1 (by decide) (fr_get fo_192_0 6 rfl)).1 T2 (by rw [t_63.2.2.2.2.1]; rfl) (fun A' H' locs' ls' B' _ => P15 A' H' locs' ls' B')
  have P11 := stp (pc := 11) (K := [some (.inr (.inr (1, 0))), some (.inr (.inr (5, 0))), none, none]) (st := [.inr (.inr (40, 0))]) (M := ma_mk (ag L xs M1) 40) (a := 69) (b' := 2748) (fr_get fo_192_0 5 rfl) (c' := (12, [some (.inr (.inr (1, 0))), some (.inr (.inr (5, 0))), none, none], [.inr (.inr (40, 0)), .inr (.inr (40, 0))], ma_mk (ag L xs M1) 40, 69, 2748)) rfl P12
  have P8 := stp (pc := 8) (K := [some (.inr (.inr (1, 0))), some (.inr (.inr (5, 0))), none, none]) (st := []) (M := ag L xs M1) (a := 68) (b' := 2700) (fr_get fo_192_0 4 rfl) (c' := (11, [some (.inr (.inr (1, 0))), some (.inr (.inr (5, 0))), none, none], [.inr (.inr (40, 0))], ma_mk (ag L xs M1) 40, 69, 2748)) (by rw [nw_40, show (ag L xs M1).1 40 = 0 from n40]) P11
  have P7 := stp (pc := 7) (K := [some (.inr (.inr (1, 0))), none, none, none]) (st := [.inr (.inr (5, 0))]) (M := ag L xs M1) (a := 68) (b' := 2700) (fr_get fo_192_0 3 rfl) (c' := (8, [some (.inr (.inr (1, 0))), some (.inr (.inr (5, 0))), none, none], [], ag L xs M1, 68, 2700)) rfl P8
  have P4 : ∀ (A : Nat → Nat → Nat) (H : Heap) (locs : List Loc) (ls : Array Slot), sd_B s dC dI adK adV ov (mt_ml.getD 192 0) A (ma_mk (lw_M0 L xs) 5) [some (.inr (.inr (1, 0))), none, none, none] [.inr (.inr (5, 0)), .inr (.inr (5, 0))] H locs ls → W p l e room_1 s m #[Value.ref b] below meth c H locs 1 6 (lw_Z below #[Value.ref b] s) (F0 m 4 ls (([.inr (.inr (5, 0)), .inr (.inr (5, 0))] : List ma_V).map (sd_v A ov))) := by
    intro A H locs ls B
    exact sd_special (d := 1299) (v := .inl 0) F Z hov hR B ca_63 (sd_dec1 (by decide) (fr_get fo_192_0 2 rfl)).1 T1 (by rw [t_63.2.1]; rfl) (fun A' H' locs' ls' B' _ => P7 A' H' locs' ls' B')
  have P3 := stp (pc := 3) (K := [some (.inr (.inr (1, 0))), none, none, none]) (st := [.inr (.inr (5, 0))]) (M := ma_mk (lw_M0 L xs) 5) (a := 1) (b' := 6) (fr_get fo_192_0 1 rfl) (c' := (4, [some (.inr (.inr (1, 0))), none, none, none], [.inr (.inr (5, 0)), .inr (.inr (5, 0))], ma_mk (lw_M0 L xs) 5, 1, 6)) rfl P4
  have P0 := stp (pc := 0) (K := [some (.inr (.inr (1, 0))), none, none, none]) (st := []) (M := lw_M0 L xs) (a := 0) (b' := 0) (fr_get fo_192_0 0 rfl) (c' := (3, [some (.inr (.inr (1, 0))), none, none, none], [.inr (.inr (5, 0))], ma_mk (lw_M0 L xs) 5, 1, 6)) (by rw [nw_5]; rfl) P3
  -- the entry
  have hW0 : sd_W s dC dI adK adV ov (lw_A b adK adV) (lw_M0 L xs) s.heap := st_world hL hX hbl hS
  have hvs : sd_vs (lw_M0 L xs) [.inr (.inr (1, 0))] := sd_vs.cons (Or.inr (Or.inr Nat.zero_lt_one)) (fun v h => by cases h)
  rw [lg_entry_eq]
  exact P0 (lw_A b adK adV) s.heap [] _ ⟨hW0, sd_entry (as := [.inr (.inr (1, 0))]) (n := 4) hov (by decide), (fun v h => by cases h), vl 192 _ _ hvs, (fun q h => by cases h)⟩

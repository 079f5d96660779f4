/-! ===== copies of rows, calls ===== -/
section SDC
variable {p : Program} {l : Launch} {e : Env} {R : Room} {s : State} {m : MethodId} {args : Array Value} {below : List Frame} {meth : Method} {cd : Code} {H H' H1 : Heap} {locs : List Loc} {Q : State → Prop}
variable {s0 : State} {a0 : Array Value} {dC : Nat → ClassId} {dI : Nat → Nat → Nat} {adK adV : Nat → Nat} {ov : Value} {nL : Nat} {A A' : Nat → Nat → Nat} {M M' : ma_M} {L : List (Option ma_V)} {st : List ma_V} {ls : Array Slot} {pc a b y : Nat}
variable {al : List (Bool × ma_C)} {df : Option ma_C} {cc : ByteArray}
theorem sd_cpy_ne {g i q1 h k q2 n x y : Nat} {I : ma_I} (hne : x ≠ h ∨ y ≠ k) (z : Nat) : ma_cpy I g i q1 h k q2 n x y z = I x y z := by
  unfold ma_cpy
  rcases hne with q | q
  · simp [q]
  · by_cases e : x = h
    · simp [e, q]
    · simp [e]
/-- arraycopy of ints, with what stays -/
theorem sd_Wcopy (hexec : p.tables.exec = Jvm.exec) (hb : cd.code = cc) (hml : cd.maxLocals = ls.size) {own : String} {index : Nat} (hown : s.vm.findClass own = some m.cls) (hlink : (Cond.methodLink own index arraycopyName).before args s = true) (hnat : (Cond.native arraycopyName).before args s = true) (hstat : (Cond.static arraycopyName).before args s = true) (hini : (Cond.initialized "java/lang/System").before args s = true)
    {x0 x1 : Nat} {c0 c1 : ClassId} {n0 n1 : Nat} {f g : Nat → Int32} (hc0 : H[x0]? = some (arrV c0 n0 (fun j => .int (f j)))) (hc1 : H[x1]? = some (arrV c1 n1 (fun j => .int (g j)))) (ha0 : ArrOfT s c0 .int) (ha1 : ArrOfT s c1 .int)
    {sp dp n : Int32} (h1 : ¬ sp < 0) (h2 : ¬ dp < 0) (h3 : ¬ n < 0) (h4 : sp.toNatClampNeg + n.toNatClampNeg ≤ n0) (h5 : dp.toNatClampNeg + n.toNatClampNeg ≤ n1) {rest : List Value}
    (hframes : 1 ≤ R.frames) (hlocals : (rest.map fun v => v.category).sum + (nativeFrameWords "java/lang/System" "arraycopy" 5 + 11) ≤ R.locals) (hdg : decode cc pc = .ok (.invokestatic index, 3))
    (kk : ∀ (H1 : Heap) (L1 : List Loc), H1[x1]? = some (arrV c1 n1 (fun j => .int (va_cpy f g sp.toNatClampNeg dp.toNatClampNeg n.toNatClampNeg j))) → H1.size = H.size → (∀ q, q ≠ x1 → H1[q]? = H[q]?) → (∀ q ∈ L1, q.base = x1) → W p l e R s m args below meth cd H1 (locs ++ L1) a b Q (F0 m (pc + 3) ls rest)) : W p l e R s m args below meth cd H locs a b Q (F0 m pc ls (.int n :: .int dp :: .ref x1 :: .int sp :: .ref x0 :: rest)) := by
  have nn : ∀ z : Int32, ¬ z < 0 → z.toInt = (z.toNatClampNeg : Int) := by
    intro z hz
    have hz0 : (0 : Int) ≤ z.toInt := by
      have := Int32.not_lt.mp hz
      simpa using Int32.le_iff_toInt_le.mp this
    show z.toInt = ((z.toInt.toNat : Nat) : Int)
    omega
  intro T hT X
  obtain ⟨-, k0, hk0, cm0, hkk0⟩ := ha0 n0 (fun j => .int (f j))
  obtain ⟨-, k1, hk1, cm1, hkk1⟩ := ha1 n1 (fun j => .int (g j))
  obtain ⟨vm', X', step⟩ := X.arraycopy hexec hown hlink hnat hstat hini (src := x0) (dst := x1) (cs := arrV c0 n0 (fun j => .int (f j))) (cd := arrV c1 n1 (fun j => .int (g j))) (srcPos := sp) (destPos := dp) (n := n) (by rw [hT]; exact hc0) (by rw [hT]; exact hc1)
    (fun _ h => by cases h) (fun _ h => by cases h) (fun h => by cases h) (fun h => by cases h) hk0 hk1 hkk0 hkk1 (by simp [refKind]) h1 h2 h3
    (by rw [nn sp h1, nn n h3, arrV_size]; omega)
    (by rw [nn dp h2, nn n h3, arrV_size]; omega)
    (fun vm₁ _ i hi => by
      have e : (arrV c0 n0 (fun j => .int (f j))).slots.getD (sp.toNatClampNeg + i) .null = .int (f (sp.toNatClampNeg + i)) := by
        rw [Array.getD_eq_getD_getElem?, arrV_read _ _ (by omega)]
        rfl
      refine ⟨?_, ?_⟩
      · rw [e]
        rfl
      · rw [e]
        exact trivial)
    (g := F0 m pc ls (.int n :: .int dp :: .ref x1 :: .int sp :: .ref x0 :: rest)) rfl (by rw [hml]) (rest := rest) rfl (by rw [hb]; exact hdg) hframes (by show 2 * 0 + _ + _ ≤ _; omega)
  have e1 : copied (arrV c0 n0 (fun j => .int (f j))) (arrV c1 n1 (fun j => .int (g j))) sp dp n = arrV c1 n1 (fun j => .int (va_cpy f g sp.toNatClampNeg dp.toNatClampNeg n.toNatClampNeg j)) := va_copied (fun z => .int z) c0 c1 f g h4
  rw [e1] at X' step
  have hl : x1 < H.size := (Array.getElem?_eq_some_iff.mp hc1).1
  have hheap : ((T.setVm vm').setCell x1 (arrV c1 n1 (fun j => .int (va_cpy f g sp.toNatClampNeg dp.toNatClampNeg n.toNatClampNeg j)))).heap = H.setIfInBounds x1 (arrV c1 n1 (fun j => .int (va_cpy f g sp.toNatClampNeg dp.toNatClampNeg n.toNatClampNeg j))) := by rw [← hT]; rfl
  obtain ⟨t, a1, b1⟩ := kk _ _ (by simp [Array.getElem?_setIfInBounds, hl]) (by simp) (fun q hq => by simp [Array.getElem?_setIfInBounds, Ne.symm hq]) (fun q hq => by
    obtain ⟨z, -, rfl⟩ := List.mem_map.mp hq
    rfl) _ hheap X'
  exact ⟨t, step t a1, b1⟩
end SDC

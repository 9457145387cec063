abbrev y_getC : MethodName := ⟨"java/lang/Object", "getClass", "()Ljava/lang/Class;"⟩
theorem w_gcD : Cond.declares y_getC ∈ gw := gw_in (i := 900) (by decide +kernel) rfl
theorem w_gcI : Cond.instanceMethod y_getC ∈ gw := gw_in (i := 322) (by decide +kernel) rfl
theorem w_gcN : Cond.native y_getC ∈ gw := gw_in (i := 336) (by decide +kernel) rfl
theorem w_gcS : Cond.selects "[Ljava/lang/Object;" y_getC y_getC ∈ gw := gw_in (i := 899) (by decide +kernel) rfl
section XROWS5
variable {p : Program} {l : Launch} {e : Env} {R : Room} {s : State} {m : MethodId} {args : Array Value} {below : List Frame} {meth : Method} {c : Code} {H : Heap} {locs : List Loc} {cells slots : Nat} {Q : State → Prop}
variable {cc : ByteArray} {pc : Nat} {ls : Array Slot} {rest : List Value} {D : va_G} {K : Nat → ClassId} {A : Nat → Prop} {a : Nat} {ws : va_W}
theorem xgetC {own : String} {index n q0 : Nat} {f : Nat → Option Nat} (hx : p.tables.exec = Jvm.exec) (hb : c.code = cc) (hml : c.maxLocals = ls.size) (hown : s.vm.findClass own = some m.cls) (htw : tw s) (hK : va_K D classes (tyl K) s) {b0 : Nat} (hA : AS K s A b0) (hP : va_P D classes ws H) (he : ws[q0]? = some (a, .inl (K 4, n, .inr (.inr (.inr (.inr f)))))) (hl : Cond.methodLink own index y_getC ∈ gw) (hfr : 1 ≤ R.frames) (hlo : (rest.map fun v => v.category).sum + 14 ≤ R.locals) (hdg : decode cc pc = .ok (.invokevirtual index, 3)) (kk : W p l e R s m args below meth c H locs cells slots Q (F0 m (pc + 3) ls (.ref (K 6) :: rest))) : W p l e R s m args below meth c H locs cells slots Q (F0 m pc ls (.ref a :: rest)) :=
  va_getC (C := "[Ljava/lang/Object;") hx hb hml hown (htw _ hl args) (htw _ w_gcD args) (htw _ w_gcS args) (htw _ w_gcI args) (htw _ w_gcN args) hA.2.1.2.2.2.2.2.1 ⟨_, hP q0 _ he, rfl, va_nmO (hK.2 4 (K 4, .object "java/lang/Object") rfl).2 (by decide)⟩ hfr hlo hdg kk
theorem xldcM {own : String} {index : Nat} (hx : p.tables.exec = Jvm.exec) (hb : c.code = cc) (hown : s.vm.findClass own = some m.cls) (htw : tw s) {b0 : Nat} (hA : AS K s A b0) (hl : Cond.classLink own index "[Ljava/lang/Object;" ∈ gw) (hdg : decode cc pc = .ok (.ldc index, 2)) (kk : W p l e R s m args below meth c H locs cells slots Q (F0 m (pc + 2) ls (.ref (K 6) :: rest))) : W p l e R s m args below meth c H locs cells slots Q (F0 m pc ls rest) := va_ldcM hx hb hown (htw _ hl args) hA.2.1.2.2.2.2.2.1 hdg kk
theorem xcpq {own : String} {index n0 n1 n a0 : Nat} {f g : Nat → Option Nat} (hx : p.tables.exec = Jvm.exec) (hb : c.code = cc) (hml : c.maxLocals = ls.size) (hown : s.vm.findClass own = some m.cls) (htw : tw s) (hK : va_K D classes (tyl K) s) (hP : va_P D classes ws H) (hD : va_D A ws) (hS : va_S A s.heap H locs) (q0 q1 : Nat) (he0 : ws[q0]? = some (a0, .inl (K 4, n0, .inr (.inr (.inr (.inr f)))))) (he1 : ws[q1]? = some (a, .inl (K 4, n1, .inr (.inr (.inr (.inr g)))))) (hl : Cond.methodLink own index arraycopyName ∈ gw) (h4 : n ≤ n0) (h5 : n ≤ n1) (h6 : n < 2 ^ 31) (hel : ∀ i, i < n → ∀ y : Nat, f i = some y → ∃ (k : Nat) (fs : List Value), ws[k]? = some (y, .inr (3, fs))) (hfr : 1 ≤ R.frames) (hlo : (rest.map fun v => v.category).sum + (nativeFrameWords "java/lang/System" "arraycopy" 5 + 11) ≤ R.locals) (hdg : decode cc pc = .ok (.invokestatic index, 3)) (kk : ∀ (H1 : Heap) (locs1 : List Loc), va_P D classes (ws.set q1 (a, .inl (K 4, n1, .inr (.inr (.inr (.inr (va_cpy f g 0 0 n))))))) H1 → va_D A (ws.set q1 (a, .inl (K 4, n1, .inr (.inr (.inr (.inr (va_cpy f g 0 0 n))))))) → va_S A s.heap H1 locs1 → W p l e R s m args below meth c H1 locs1 cells slots Q (F0 m (pc + 3) ls (rest))) : W p l e R s m args below meth c H locs cells slots Q (F0 m pc ls (.int (nI n) :: .int (nI 0) :: .ref a :: .int (nI 0) :: .ref a0 :: rest)) := by
  have e0 : (nI 0).toNatClampNeg = 0 := nI_clamp (by decide)
  have en : (nI n).toNatClampNeg = n := nI_clamp h6
  refine va_copyq (C := "SegmentIndex$Segment") hx hb hml hown (htw _ hl args) (htw _ w_acN args) (htw _ w_acS args) (htw _ w_acI args) hK hP hD hS q0 q1 4 4 he0 he1 rfl rfl (nI_pos (by decide)) (nI_pos (by decide)) (nI_pos h6) (by rw [e0, en]; omega) (by rw [e0, en]; omega) ?_ ?_ hfr hlo hdg ?_
  · intro i hi y hy
    rw [en] at hi
    rw [e0, Nat.zero_add] at hy
    obtain ⟨k, fs, hk⟩ := hel i hi y hy
    exact va_recv hK hP k_Sg.1 hk
  · intro comp c0 h1 h2
    obtain ⟨c1, t1, f1, f2, f3⟩ := Cond.castable_spec (htw _ w_casSg args)
    cases h2.symm.trans f1
    cases h1.symm.trans f2
    exact f3
  · rw [e0, en]
    exact kk
end XROWS5

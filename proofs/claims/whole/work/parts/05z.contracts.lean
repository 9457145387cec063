
/-- a static of references: what the words say of it, below b0 -/
def LZ (C n d : String) (b0 : Nat) (U : State) : Prop := ∃ (c : ClassId) (k : Class) (i : Nat) (f : Field) (a : Nat) (cell : Cell) (v : Value), U.vm.findClass C = some c ∧ U.fieldFound? C n d = some (c, k, i, f) ∧ f.isStatic = true ∧ k.statics = some a ∧ U.heap[a]? = some cell ∧ cell.vm.isStatics = true ∧ cell.cls = c ∧ f.slot < cell.slots.size ∧ k.staticTypes[f.slot]? = some f.type ∧ cell.slots[f.slot]? = some v ∧ (v = .null ∨ ∃ q, v = .ref q) ∧ ¬ b0 ≤ a
theorem LZ_step {C n d : String} {b0 : Nat} {s U : State} (h : LZ C n d b0 s) (hvm : s.vm.Alike U.vm) (hq : ∀ q : Nat, q < s.heap.size → ¬ b0 ≤ q → U.heap[q]? = s.heap[q]?) : LZ C n d b0 U := by
  obtain ⟨c, k, i, f, a, cell, v, h1, h2, h3, h4, h5, h6, h7, h8, h9, h10, h11, h12⟩ := h
  obtain ⟨k', hi', he⟩ := State.fieldFound?_setVm hvm h2
  exact ⟨c, k', i, f, a, cell, v, by rw [hvm.findClass]; exact h1, hi', h3, by rw [he]; exact h4, by rw [hq a (Array.getElem?_eq_some_iff.mp h5).1 h12]; exact h5, h6, h7, h8, by rw [he]; exact h9, h10, h11, h12⟩
/-- objects of the one class can't be cast to the other -/
def NC (a b : String) (U : State) : Prop := ∃ x y : ClassId, U.vm.findClass a = some x ∧ U.vm.findClass b = some y ∧ U.vm.assignable x y = false
theorem NC_step {a b : String} {s U : State} (h : NC a b s) (hvm : s.vm.Alike U.vm) : NC a b U := by
  obtain ⟨x, y, h1, h2, h3⟩ := h
  exact ⟨x, y, by rw [hvm.findClass]; exact h1, by rw [hvm.findClass]; exact h2, by rw [hvm.assignable]; exact h3⟩
/-- the String constants of the class, by their entries -/
def strs : List (Nat × String) := [(43, "no such field or place"), (73, "a document has at most 120 tokens"), (86, "600 documents have come"), (104, "no such document"), (132, "8 sets are on the pile"), (145, "n is not 0 .. 8"), (147, "the pile is empty"), (149, "n is not 1 .. 100"), (160, "there are not two sets"), (162, "no such how")]
/-- what stands from before: statics that are read, String constants, a class object -/
def SF (K : Nat → ClassId) (b0 : Nat) (U : State) : Prop := va_Z "java/util/ArrayList" "DEFAULTCAPACITY_EMPTY_ELEMENTDATA" "[Ljava/lang/Object;" (.ref (K 5)) (fun q => b0 ≤ q) U U.heap ∧ va_T (.object "java/lang/Object") (K 5) 0 (fun _ => .null) (fun q => b0 ≤ q) U U.heap ∧ LZ "java/lang/Throwable" "UNASSIGNED_STACK" "[Ljava/lang/StackTraceElement;" b0 U ∧ LZ "java/lang/Throwable" "SUPPRESSED_SENTINEL" "Ljava/util/List;" b0 U ∧ (∀ i ∈ strs, ∃ q, vk_R "SegmentIndex" i.1 i.2 q U) ∧ va_Mi "[Ljava/lang/Object;" (K 6) U ∧ NC "java/lang/IllegalStateException" "java/lang/IllegalArgumentException" U
theorem SF_step {K : Nat → ClassId} {b0 : Nat} {s U : State} (h : SF K b0 s) (hW : s.WarmedH U.vm) (hq : ∀ q : Nat, q < s.heap.size → ¬ b0 ≤ q → U.heap[q]? = s.heap[q]?) : SF K b0 U :=
  ⟨va_Z.moved hW.alike (va_Z.kept h.1 hq), va_T.moved hW.alike (va_T.kept h.2.1 hq), LZ_step h.2.2.1 hW.alike hq, LZ_step h.2.2.2.1 hW.alike hq, fun i hi => (h.2.2.2.2.1 i hi).imp fun _ r => vk_R.warm hW r, va_Mi.moved hW.alike h.2.2.2.2.2.1, NC_step h.2.2.2.2.2.2 hW.alike⟩
/-- the cells that may be written, and what stands from before -/
def AS (K : Nat → ClassId) (s : State) (A : Nat → Prop) (b0 : Nat) : Prop := (∀ q, s.heap.size ≤ q → A q) ∧ SF K b0 s ∧ (∀ q, A q → b0 ≤ q) ∧ b0 ≤ s.heap.size
def PW (D : va_G) (K : Nat → ClassId) (sz b0 : Nat) (ws : va_W) (av : List Value) : Array Value → State → Prop := fun v U => v = av.toArray ∧ tw U ∧ U.heap.size = sz ∧ va_P D classes ws U.heap ∧ va_K D classes (tyl K) U ∧ va_D (fun q => b0 ≤ q) ws ∧ SF K b0 U ∧ b0 ≤ sz
theorem tw_blind {U : State} {g : JFrame} {mk : MethodId} {a : Array Value} (h : tw U) : tw (U.calling g mk a) := tw_warm (s := U) (U := U.calling g mk a) (State.WarmedH.refl U) h
theorem PW_blind {D : va_G} {K : Nat → ClassId} {sz b0 : Nat} {ws : va_W} {av : List Value} : FrameBlind (PW D K sz b0 ws av) := by
  intro a U g mk h
  obtain ⟨h1, h2, h3, h4, h5, h6, h7, h8⟩ := h
  exact ⟨h1, tw_blind h2, h3, h4, va_K.moved (u := U) (U := U.calling g mk a) (Vm.Alike.refl U.vm) h5, h6, SF_step (U := U.calling g mk a) h7 (State.WarmedH.refl U) (fun _ _ _ => rfl), h8⟩
/-- what holds inside a method -/
def Fx (p : Program) (s : State) (m : MethodId) (meth : Method) (c : Code) (y : MethodName) (cc : ByteArray) (nL : Nat) (ret : Option FieldType) (D : va_G) (K : Nat → ClassId) : Prop :=
  p.tables.exec = Jvm.exec ∧ c.code = cc ∧ meth.sig.returnType = ret ∧ c.maxLocals = nL ∧ s.vm.findClass y.cls = some m.cls ∧ tw s ∧ va_K D classes (tyl K) s ∧ meth.locks = false ∧ meth.name = y.name
theorem va_Psub {D : va_G} {cl : List vw_C} {ws wc : va_W} {H : Heap} (h : va_P D cl ws H) (is : List Nat) (hs : is.map (fun i => ws[i]?) = wc.map some) : va_P D cl wc H := by
  intro k q hk
  have h1 : (wc.map some)[k]? = some (some q) := by rw [List.getElem?_map, hk]; rfl
  rw [← hs, List.getElem?_map] at h1
  cases hi : is[k]? with
  | none => rw [hi] at h1; cases h1
  | some i =>
    rw [hi] at h1
    exact h i q (Option.some.inj h1)
/-- another order of the cells -/
theorem xp {D : va_G} {A : Nat → Prop} {ws ws' : va_W} {H : Heap} (hP : va_P D classes ws H) (hD : va_D A ws) (is : List Nat) (hn : va_nd is = true) (hs : is.map (fun i => ws[i]?) = ws'.map some) : va_P D classes ws' H ∧ va_D A ws' := ⟨va_Psub hP is hs, hD.sub is hn hs⟩
def CI (l : Launch) (y : MethodName) (cc : ByteArray) (maxL : Nat) (ret : FieldType) (rm : Room) (D : va_G) (K : Nat → ClassId) (av : List Value) (ws : va_W) (post : Int32 → va_W → Prop) : Prop := ∀ sz b0 : Nat, Met l y [Cond.code y cc maxL (some ret)] rm (PW D K sz b0 ws av) (va_Qi post (fun u t => va_P D classes u t.heap ∧ va_D (va_A ws sz) u) (va_A ws sz)) rm.cells rm.slots (va_A ws sz)
theorem CI_of {l : Launch} {y : MethodName} {cc : ByteArray} {maxL : Nat} {ret : FieldType} {rm : Room} {D : va_G} {K : Nat → ClassId} {av : List Value} {ws : va_W} {post : Int32 → va_W → Prop} (hy : plainName y.cls = true) (hn : (lg_sl av).length ≤ maxL)
    (body : ∀ (p : Program) (e : Env) (s : State) (m : MethodId) (below : List Frame) (meth : Method) (c : Code) (A : Nat → Prop) (b0 : Nat) (ls : Array Slot), Fx p s m meth c y cc maxL (some ret) D K → AS K s A b0 → va_P D classes ws s.heap → va_D A ws → lv_has ls maxL (lv_args 0 av) → W p l e rm s m av.toArray below meth c s.heap [] 0 0 (MQ below (va_Qi post (fun u t => va_P D classes u t.heap ∧ va_D A u) A) av.toArray s rm.cells rm.slots A) (F0 m 0 ls [])) : CI l y cc maxL ret rm D K av ws post := by
  intro sz b0
  refine Met.ofW (cc := cc) (maxL := maxL) (ret := (some ret)) hy rfl ?_
  intro p e s m args below meth c s₁ B hml hv
  obtain ⟨rfl, htw, rfl, hP, hK, hD0, hSF, hb0⟩ := hv
  have hD := hD0.self (sz := s.heap.size)
  have hA : AS K s (va_A ws s.heap.size) b0 := ⟨fun q h => Or.inr h, hSF, fun q h => h.elim (fun ⟨k, e, hk⟩ => hD0.2 k _ hk) (fun h => Nat.le_trans hb0 h), hb0⟩
  rw [lg_entry_eq]
  exact body p e s m below meth c _ b0 _ ⟨B.exec, B.bytes, B.returns, hml, findClass_of_methodNamed B.named, htw, hK, B.notSynchronized, (name_of_methodNamed B.named B.method).1⟩ hA hP hD (lv_entry av hn)
def CL (l : Launch) (y : MethodName) (cc : ByteArray) (maxL : Nat) (rm : Room) (D : va_G) (K : Nat → ClassId) (av : List Value) (ws : va_W) (post : Int64 → va_W → Prop) : Prop := ∀ sz b0 : Nat, Met l y [Cond.code y cc maxL (some .long)] rm (PW D K sz b0 ws av) (va_Ql post (fun u t => va_P D classes u t.heap ∧ va_D (va_A ws sz) u) (va_A ws sz)) rm.cells rm.slots (va_A ws sz)
theorem CL_of {l : Launch} {y : MethodName} {cc : ByteArray} {maxL : Nat} {rm : Room} {D : va_G} {K : Nat → ClassId} {av : List Value} {ws : va_W} {post : Int64 → va_W → Prop} (hy : plainName y.cls = true) (hn : (lg_sl av).length ≤ maxL)
    (body : ∀ (p : Program) (e : Env) (s : State) (m : MethodId) (below : List Frame) (meth : Method) (c : Code) (A : Nat → Prop) (b0 : Nat) (ls : Array Slot), Fx p s m meth c y cc maxL (some .long) D K → AS K s A b0 → va_P D classes ws s.heap → va_D A ws → lv_has ls maxL (lv_args 0 av) → W p l e rm s m av.toArray below meth c s.heap [] 0 0 (MQ below (va_Ql post (fun u t => va_P D classes u t.heap ∧ va_D A u) A) av.toArray s rm.cells rm.slots A) (F0 m 0 ls [])) : CL l y cc maxL rm D K av ws post := by
  intro sz b0
  refine Met.ofW (cc := cc) (maxL := maxL) (ret := (some .long)) hy rfl ?_
  intro p e s m args below meth c s₁ B hml hv
  obtain ⟨rfl, htw, rfl, hP, hK, hD0, hSF, hb0⟩ := hv
  have hD := hD0.self (sz := s.heap.size)
  have hA : AS K s (va_A ws s.heap.size) b0 := ⟨fun q h => Or.inr h, hSF, fun q h => h.elim (fun ⟨k, e, hk⟩ => hD0.2 k _ hk) (fun h => Nat.le_trans hb0 h), hb0⟩
  rw [lg_entry_eq]
  exact body p e s m below meth c _ b0 _ ⟨B.exec, B.bytes, B.returns, hml, findClass_of_methodNamed B.named, htw, hK, B.notSynchronized, (name_of_methodNamed B.named B.method).1⟩ hA hP hD (lv_entry av hn)
def CV (l : Launch) (y : MethodName) (cc : ByteArray) (maxL : Nat) (rm : Room) (D : va_G) (K : Nat → ClassId) (av : List Value) (ws : va_W) (post : va_W → Prop) : Prop := ∀ sz b0 : Nat, Met l y [Cond.code y cc maxL none] rm (PW D K sz b0 ws av) (va_Qv post (fun u t => va_P D classes u t.heap ∧ va_D (va_A ws sz) u) (va_A ws sz)) rm.cells rm.slots (va_A ws sz)
theorem CV_of {l : Launch} {y : MethodName} {cc : ByteArray} {maxL : Nat} {rm : Room} {D : va_G} {K : Nat → ClassId} {av : List Value} {ws : va_W} {post : va_W → Prop} (hy : plainName y.cls = true) (hn : (lg_sl av).length ≤ maxL)
    (body : ∀ (p : Program) (e : Env) (s : State) (m : MethodId) (below : List Frame) (meth : Method) (c : Code) (A : Nat → Prop) (b0 : Nat) (ls : Array Slot), Fx p s m meth c y cc maxL none D K → AS K s A b0 → va_P D classes ws s.heap → va_D A ws → lv_has ls maxL (lv_args 0 av) → W p l e rm s m av.toArray below meth c s.heap [] 0 0 (MQ below (va_Qv post (fun u t => va_P D classes u t.heap ∧ va_D A u) A) av.toArray s rm.cells rm.slots A) (F0 m 0 ls [])) : CV l y cc maxL rm D K av ws post := by
  intro sz b0
  refine Met.ofW (cc := cc) (maxL := maxL) (ret := none) hy rfl ?_
  intro p e s m args below meth c s₁ B hml hv
  obtain ⟨rfl, htw, rfl, hP, hK, hD0, hSF, hb0⟩ := hv
  have hD := hD0.self (sz := s.heap.size)
  have hA : AS K s (va_A ws s.heap.size) b0 := ⟨fun q h => Or.inr h, hSF, fun q h => h.elim (fun ⟨k, e, hk⟩ => hD0.2 k _ hk) (fun h => Nat.le_trans hb0 h), hb0⟩
  rw [lg_entry_eq]
  exact body p e s m below meth c _ b0 _ ⟨B.exec, B.bytes, B.returns, hml, findClass_of_methodNamed B.named, htw, hK, B.notSynchronized, (name_of_methodNamed B.named B.method).1⟩ hA hP hD (lv_entry av hn)
def CR (l : Launch) (y : MethodName) (cc : ByteArray) (maxL : Nat) (ret : FieldType) (rm : Room) (D : va_G) (K : Nat → ClassId) (av : List Value) (ws : va_W) (post : Nat → va_W → Prop) : Prop := ∀ sz b0 : Nat, Met l y [Cond.code y cc maxL (some ret)] rm (PW D K sz b0 ws av) (va_Qr (S := Nat × va_W) (fun u => post u.1 u.2) (fun u a t => a = u.1 ∧ va_P D classes u.2 t.heap ∧ va_D (va_A ws sz) u.2) (va_A ws sz)) rm.cells rm.slots (va_A ws sz)
theorem CR_of {l : Launch} {y : MethodName} {cc : ByteArray} {maxL : Nat} {ret : FieldType} {rm : Room} {D : va_G} {K : Nat → ClassId} {av : List Value} {ws : va_W} {post : Nat → va_W → Prop} (hy : plainName y.cls = true) (hn : (lg_sl av).length ≤ maxL)
    (body : ∀ (p : Program) (e : Env) (s : State) (m : MethodId) (below : List Frame) (meth : Method) (c : Code) (A : Nat → Prop) (b0 : Nat) (ls : Array Slot), Fx p s m meth c y cc maxL (some ret) D K → AS K s A b0 → va_P D classes ws s.heap → va_D A ws → lv_has ls maxL (lv_args 0 av) → W p l e rm s m av.toArray below meth c s.heap [] 0 0 (MQ below (va_Qr (S := Nat × va_W) (fun u => post u.1 u.2) (fun u a t => a = u.1 ∧ va_P D classes u.2 t.heap ∧ va_D A u.2) A) av.toArray s rm.cells rm.slots A) (F0 m 0 ls [])) : CR l y cc maxL ret rm D K av ws post := by
  intro sz b0
  refine Met.ofW (cc := cc) (maxL := maxL) (ret := (some ret)) hy rfl ?_
  intro p e s m args below meth c s₁ B hml hv
  obtain ⟨rfl, htw, rfl, hP, hK, hD0, hSF, hb0⟩ := hv
  have hD := hD0.self (sz := s.heap.size)
  have hA : AS K s (va_A ws s.heap.size) b0 := ⟨fun q h => Or.inr h, hSF, fun q h => h.elim (fun ⟨k, e, hk⟩ => hD0.2 k _ hk) (fun h => Nat.le_trans hb0 h), hb0⟩
  rw [lg_entry_eq]
  exact body p e s m below meth c _ b0 _ ⟨B.exec, B.bytes, B.returns, hml, findClass_of_methodNamed B.named, htw, hK, B.notSynchronized, (name_of_methodNamed B.named B.method).1⟩ hA hP hD (lv_entry av hn)
section XRET
variable {p : Program} {l : Launch} {e : Env} {R : Room} {s : State} {m : MethodId} {args : Array Value} {below : List Frame} {meth : Method} {c : Code} {H : Heap} {locs : List Loc} {cells slots : Nat} {Q : State → Prop}
variable {cc : ByteArray} {pc : Nat} {ls : Array Slot} {rest : List Value} {D : va_G} {K : Nat → ClassId} {A : Nat → Prop} {a : Nat} {ws : va_W}
theorem xr_iret {mc ms : Nat} {post : Int32 → va_W → Prop} {v : Int32} (hx : p.tables.exec = Jvm.exec) (hb : c.code = cc) (hr : meth.sig.returnType = some .int) (hlocks : meth.locks = false) (hP : va_P D classes ws H) (hD : va_D A ws) (hS : va_S A s.heap H locs) (hc : cells ≤ mc) (hs : slots ≤ ms) (hpost : post v ws) (hdg : decode cc pc = .ok (.ireturn, 1)) : W p l e R s m args below meth c H locs cells slots (MQ below (va_Qi post (fun u t => va_P D classes u t.heap ∧ va_D A u) A) args s mc ms A) (F0 m pc ls [.int v]) :=
  W.widen hc hs (W.iret hx hb hr (fun t ht hW => ⟨⟨v, ws, rfl, hpost, by rw [ht]; exact hP, hD⟩, hS.F ht⟩) hS.2.2 hdg hlocks)
theorem xr_zret {mc ms : Nat} {post : Int32 → va_W → Prop} {v : Int32} (hv : v = 0 ∨ v = 1) (hx : p.tables.exec = Jvm.exec) (hb : c.code = cc) (hr : meth.sig.returnType = some .boolean) (hlocks : meth.locks = false) (hP : va_P D classes ws H) (hD : va_D A ws) (hS : va_S A s.heap H locs) (hc : cells ≤ mc) (hs : slots ≤ ms) (hpost : post v ws) (hdg : decode cc pc = .ok (.ireturn, 1)) : W p l e R s m args below meth c H locs cells slots (MQ below (va_Qi post (fun u t => va_P D classes u t.heap ∧ va_D A u) A) args s mc ms A) (F0 m pc ls [.int v]) :=
  W.widen hc hs (W.zret hx hb hr (by rcases hv with rfl | rfl <;> rfl) (fun t ht hW => ⟨⟨v, ws, rfl, hpost, by rw [ht]; exact hP, hD⟩, hS.F ht⟩) hS.2.2 hdg hlocks)
theorem xr_lret {mc ms : Nat} {post : Int64 → va_W → Prop} {v : Int64} (hx : p.tables.exec = Jvm.exec) (hb : c.code = cc) (hr : meth.sig.returnType = some .long) (hlocks : meth.locks = false) (hP : va_P D classes ws H) (hD : va_D A ws) (hS : va_S A s.heap H locs) (hc : cells ≤ mc) (hs : slots ≤ ms) (hpost : post v ws) (hdg : decode cc pc = .ok (.lreturn, 1)) : W p l e R s m args below meth c H locs cells slots (MQ below (va_Ql post (fun u t => va_P D classes u t.heap ∧ va_D A u) A) args s mc ms A) (F0 m pc ls [.long v]) :=
  W.widen hc hs (W.lret hx hb hr (fun t ht hW => ⟨⟨v, ws, rfl, hpost, by rw [ht]; exact hP, hD⟩, hS.F ht⟩) hS.2.2 hdg hlocks)
theorem xr_vret {mc ms : Nat} {post : va_W → Prop} (hx : p.tables.exec = Jvm.exec) (hb : c.code = cc) (hr : meth.sig.returnType = none) (hlocks : meth.locks = false) (hP : va_P D classes ws H) (hD : va_D A ws) (hS : va_S A s.heap H locs) (hc : cells ≤ mc) (hs : slots ≤ ms) (hpost : post ws) (hdg : decode cc pc = .ok (.return_, 1)) : W p l e R s m args below meth c H locs cells slots (MQ below (va_Qv post (fun u t => va_P D classes u t.heap ∧ va_D A u) A) args s mc ms A) (F0 m pc ls []) :=
  W.widen hc hs (W.vret hx hb hr (fun t ht hW => ⟨⟨ws, rfl, hpost, by rw [ht]; exact hP, hD⟩, hS.F ht⟩) hS.2.2 hdg hlocks)
theorem xr_aret {mc ms : Nat} {post : Nat → va_W → Prop} {v : Nat} {rt : FieldType} (hrt : (∃ n, rt = .object n) ∨ ∃ t, rt = .array t) (hx : p.tables.exec = Jvm.exec) (hb : c.code = cc) (hr : meth.sig.returnType = some rt) (hlocks : meth.locks = false) (hP : va_P D classes ws H) (hD : va_D A ws) (hS : va_S A s.heap H locs) (hc : cells ≤ mc) (hs : slots ≤ ms) (hpost : post v ws) (hdg : decode cc pc = .ok (.areturn, 1)) : W p l e R s m args below meth c H locs cells slots (MQ below (va_Qr (S := Nat × va_W) (fun u => post u.1 u.2) (fun u a t => a = u.1 ∧ va_P D classes u.2 t.heap ∧ va_D A u.2) A) args s mc ms A) (F0 m pc ls [.ref v]) :=
  W.widen hc hs (W.aret hx hb hr hrt (Or.inr ⟨v, rfl⟩) (fun t ht hW => ⟨⟨(v, ws), v, rfl, hpost, rfl, by rw [ht]; exact hP, hD⟩, hS.F ht⟩) hS.2.2 hdg hlocks)
end XRET
section XCALL
variable {p : Program} {l : Launch} {e : Env} {R : Room} {s : State} {m : MethodId} {args : Array Value} {below : List Frame} {meth : Method} {c : Code} {H : Heap} {locs : List Loc} {cells slots : Nat} {Q : State → Prop}
variable {cc : ByteArray} {pc : Nat} {ls : Array Slot} {rest : List Value} {D : va_G} {K : Nat → ClassId} {A : Nat → Prop} {a : Nat} {ws : va_W}
theorem xcV_i {y : MethodName} {bytes : ByteArray} {maxL n index nL : Nat} {own : String} {rm : Room} {As st0 : List Value} {wc wr : va_W} {post : Int32 → va_W → Prop} {rt : FieldType} {b : Addr} (hx : p.tables.exec = Jvm.exec) (hb : c.code = cc) (hml : c.maxLocals = nL) (hown : s.vm.findClass own = some m.cls) (htw : tw s) (hK : va_K D classes (tyl K) s) {b0 : Nat} (hA : AS K s A b0) (hls : ls.size = nL) (hP : va_P D classes ws H) (hD : va_D A ws) (hS : va_S A s.heap H locs) (hM : CI l y bytes maxL rt rm D K (.ref b :: As) wc post) (isC isR : List Nat) (hC : isC.map (fun i => ws[i]?) = wc.map some) (hR : isR.map (fun i => ws[i]?) = wr.map some) (hnC : va_nd isC = true) (hnR : va_nd isR = true) (hdis : ∀ i ∈ isR, i ∉ isC) (q0 : Nat) {ci : Nat} {fs : List Value} {T : u_T} {N : Nat} {ty : Nat → FieldType} (hrecv : wc[q0]? = some (b, .inr (ci, fs))) (hci : CW ci y.cls T N ty) (w1 : Cond.methodLink own index y ∈ gw) (hw : MV y bytes maxL (some rt) n) (hn : As.length = n) (hroom : rm.frames + 1 ≤ R.frames ∧ 8 + (maxL + 11) + rm.locals ≤ R.locals) (hst : st0 = As.reverse ++ .ref b :: rest) (hcat : (rest.map fun v => v.category).sum ≤ 8) (hcs : cells + rm.cells ≤ R.cells ∧ slots + rm.slots ≤ R.slots) (hdg : decode cc pc = .ok (.invokevirtual index, 3))
    (kk : ∀ (r : Int32) (u : va_W) (H1 : Heap) (locs1 : List Loc), post r u → va_P D classes (wr ++ u) H1 → va_D A (wr ++ u) → va_S A s.heap H1 locs1 → W p l e R s m args below meth c H1 locs1 (cells + rm.cells) (slots + rm.slots) Q (F0 m (pc + 3) ls (.int r :: rest))) : W p l e R s m args below meth c H locs cells slots Q (F0 m pc ls st0) := by
  have hPc := va_Psub hP isC hC
  have hDc := hD.sub isC hnC hC
  have hFc := va_free hD hS hA.1 isC hC
  have hg := gw_goods
  obtain ⟨w2, w3, w4, w5, hd⟩ := hw
  refine va_calli (va_runV (As := As) (rest := rest) ⟨hx, hb, hml, hown, (fun w h => htw w h args)⟩ (hM H.size b0) (cwV n (fun w h => htw w h args) (hg [.methodLink own index y, .instanceMethod y, .selects y.cls y y, .initialized y.cls, .code y bytes maxL (some rt)] (by intro w h; simp only [List.mem_cons, List.not_mem_nil, or_false] at h; rcases h with rfl | rfl | rfl | rfl | rfl <;> assumption) (by intro w h; simp only [List.mem_cons, List.not_mem_nil, or_false] at h; rcases h with rfl | rfl | rfl | rfl | rfl <;> rfl)) rfl rfl rfl ⟨rfl, hd⟩ hroom) ⟨PW_blind, va_recv hK hPc hci.1 hrecv, fun U hU hW => ⟨rfl, tw_warm hW htw, by rw [hU], by rw [hU]; exact hPc, va_K.moved hW.alike hK, hDc.weaken (fun _ _ _ h => hA.2.2.1 _ h), SF_step hA.2.1 hW (fun q h1 h2 => by rw [hU]; exact hS.2.1 q h1 (fun h => h2 (hA.2.2.1 q h))), Nat.le_trans hA.2.2.2 hS.1⟩⟩ rfl hn hls hst (lv_room hcat) hdg hcs) hS (fun q _ h => hFc q h) hFc (fun r u t H1 locs1 ht hvm hw hB hz1 hk1 hS1 => ?_)
  obtain ⟨hP1, hD1⟩ := hB
  rw [ht] at hP1
  obtain ⟨hP2, hD2⟩ := va_join hP hD isC isR hC hR hnR hdis hk1 hFc hP1 hD1
  exact kk r u H1 locs1 hw hP2 hD2 hS1
theorem xcVN_i {y : MethodName} {bytes : ByteArray} {maxL n index nL : Nat} {own host : String} {rm : Room} {As st0 : List Value} {wc wr : va_W} {post : Int32 → va_W → Prop} {rt : FieldType} {b : Addr} (hx : p.tables.exec = Jvm.exec) (hb : c.code = cc) (hml : c.maxLocals = nL) (hown : s.vm.findClass own = some m.cls) (htw : tw s) (hK : va_K D classes (tyl K) s) {b0 : Nat} (hA : AS K s A b0) (hls : ls.size = nL) (hP : va_P D classes ws H) (hD : va_D A ws) (hS : va_S A s.heap H locs) (hM : CI l y bytes maxL rt rm D K (.ref b :: As) wc post) (isC isR : List Nat) (hC : isC.map (fun i => ws[i]?) = wc.map some) (hR : isR.map (fun i => ws[i]?) = wr.map some) (hnC : va_nd isC = true) (hnR : va_nd isR = true) (hdis : ∀ i ∈ isR, i ∉ isC) (q0 : Nat) {ci : Nat} {fs : List Value} {T : u_T} {N : Nat} {ty : Nat → FieldType} (hrecv : wc[q0]? = some (b, .inr (ci, fs))) (hci : CW ci y.cls T N ty) (w1 : Cond.methodLinkNest own index y host ∈ gw) (hw : MV y bytes maxL (some rt) n) (hn : As.length = n) (hroom : rm.frames + 1 ≤ R.frames ∧ 8 + (maxL + 11) + rm.locals ≤ R.locals) (hst : st0 = As.reverse ++ .ref b :: rest) (hcat : (rest.map fun v => v.category).sum ≤ 8) (hcs : cells + rm.cells ≤ R.cells ∧ slots + rm.slots ≤ R.slots) (hdg : decode cc pc = .ok (.invokevirtual index, 3))
    (kk : ∀ (r : Int32) (u : va_W) (H1 : Heap) (locs1 : List Loc), post r u → va_P D classes (wr ++ u) H1 → va_D A (wr ++ u) → va_S A s.heap H1 locs1 → W p l e R s m args below meth c H1 locs1 (cells + rm.cells) (slots + rm.slots) Q (F0 m (pc + 3) ls (.int r :: rest))) : W p l e R s m args below meth c H locs cells slots Q (F0 m pc ls st0) := by
  have hPc := va_Psub hP isC hC
  have hDc := hD.sub isC hnC hC
  have hFc := va_free hD hS hA.1 isC hC
  have hg := gw_goods
  obtain ⟨w2, w3, w4, w5, hd⟩ := hw
  refine va_calli (va_runVN (As := As) (rest := rest) ⟨hx, hb, hml, hown, (fun w h => htw w h args)⟩ (hM H.size b0) ⟨va_cnB n (fun w h => htw w h args) (gw_good _ w5 rfl) rfl rfl rfl (htw _ w1 #[]) (htw _ w4 args) hd hroom, htw _ w2 args, htw _ w3 args⟩ ⟨PW_blind, va_recv hK hPc hci.1 hrecv, fun U hU hW => ⟨rfl, tw_warm hW htw, by rw [hU], by rw [hU]; exact hPc, va_K.moved hW.alike hK, hDc.weaken (fun _ _ _ h => hA.2.2.1 _ h), SF_step hA.2.1 hW (fun q h1 h2 => by rw [hU]; exact hS.2.1 q h1 (fun h => h2 (hA.2.2.1 q h))), Nat.le_trans hA.2.2.2 hS.1⟩⟩ rfl hn hls hst (lv_room hcat) hdg hcs) hS (fun q _ h => hFc q h) hFc (fun r u t H1 locs1 ht hvm hw hB hz1 hk1 hS1 => ?_)
  obtain ⟨hP1, hD1⟩ := hB
  rw [ht] at hP1
  obtain ⟨hP2, hD2⟩ := va_join hP hD isC isR hC hR hnR hdis hk1 hFc hP1 hD1
  exact kk r u H1 locs1 hw hP2 hD2 hS1
theorem xcS_i {y : MethodName} {bytes : ByteArray} {maxL n index nL : Nat} {own : String} {rm : Room} {As st0 : List Value} {wc wr : va_W} {post : Int32 → va_W → Prop} {rt : FieldType} (hx : p.tables.exec = Jvm.exec) (hb : c.code = cc) (hml : c.maxLocals = nL) (hown : s.vm.findClass own = some m.cls) (htw : tw s) (hK : va_K D classes (tyl K) s) {b0 : Nat} (hA : AS K s A b0) (hls : ls.size = nL) (hP : va_P D classes ws H) (hD : va_D A ws) (hS : va_S A s.heap H locs) (hM : CI l y bytes maxL rt rm D K As wc post) (isC isR : List Nat) (hC : isC.map (fun i => ws[i]?) = wc.map some) (hR : isR.map (fun i => ws[i]?) = wr.map some) (hnC : va_nd isC = true) (hnR : va_nd isR = true) (hdis : ∀ i ∈ isR, i ∉ isC) (w1 : Cond.methodLink own index y ∈ gw) (hw : MS y bytes maxL (some rt) n) (hn : As.length = n) (hroom : rm.frames + 1 ≤ R.frames ∧ 8 + (maxL + 11) + rm.locals ≤ R.locals) (hst : st0 = As.reverse ++ rest) (hcat : (rest.map fun v => v.category).sum ≤ 8) (hcs : cells + rm.cells ≤ R.cells ∧ slots + rm.slots ≤ R.slots) (hdg : decode cc pc = .ok (.invokestatic index, 3))
    (kk : ∀ (r : Int32) (u : va_W) (H1 : Heap) (locs1 : List Loc), post r u → va_P D classes (wr ++ u) H1 → va_D A (wr ++ u) → va_S A s.heap H1 locs1 → W p l e R s m args below meth c H1 locs1 (cells + rm.cells) (slots + rm.slots) Q (F0 m (pc + 3) ls (.int r :: rest))) : W p l e R s m args below meth c H locs cells slots Q (F0 m pc ls st0) := by
  have hPc := va_Psub hP isC hC
  have hDc := hD.sub isC hnC hC
  have hFc := va_free hD hS hA.1 isC hC
  have hg := gw_goods
  obtain ⟨w2, w4, w5, hd⟩ := hw
  refine va_calli (va_runS (As := As) (rest := rest) ⟨hx, hb, hml, hown, (fun w h => htw w h args)⟩ (hM H.size b0) (va_cwS n (fun w h => htw w h args) (hg [.methodLink own index y, .static y, .initialized y.cls, .code y bytes maxL (some rt)] (by intro w h; simp only [List.mem_cons, List.not_mem_nil, or_false] at h; rcases h with rfl | rfl | rfl | rfl <;> assumption) (by intro w h; simp only [List.mem_cons, List.not_mem_nil, or_false] at h; rcases h with rfl | rfl | rfl | rfl <;> rfl)) rfl rfl rfl hd hroom) ⟨PW_blind, fun U hU hW => ⟨rfl, tw_warm hW htw, by rw [hU], by rw [hU]; exact hPc, va_K.moved hW.alike hK, hDc.weaken (fun _ _ _ h => hA.2.2.1 _ h), SF_step hA.2.1 hW (fun q h1 h2 => by rw [hU]; exact hS.2.1 q h1 (fun h => h2 (hA.2.2.1 q h))), Nat.le_trans hA.2.2.2 hS.1⟩⟩ rfl hn hls hst (lv_room hcat) hdg hcs) hS (fun q _ h => hFc q h) hFc (fun r u t H1 locs1 ht hvm hw hB hz1 hk1 hS1 => ?_)
  obtain ⟨hP1, hD1⟩ := hB
  rw [ht] at hP1
  obtain ⟨hP2, hD2⟩ := va_join hP hD isC isR hC hR hnR hdis hk1 hFc hP1 hD1
  exact kk r u H1 locs1 hw hP2 hD2 hS1
theorem xcSN_i {y : MethodName} {bytes : ByteArray} {maxL n index nL : Nat} {own host : String} {rm : Room} {As st0 : List Value} {wc wr : va_W} {post : Int32 → va_W → Prop} {rt : FieldType} (hx : p.tables.exec = Jvm.exec) (hb : c.code = cc) (hml : c.maxLocals = nL) (hown : s.vm.findClass own = some m.cls) (htw : tw s) (hK : va_K D classes (tyl K) s) {b0 : Nat} (hA : AS K s A b0) (hls : ls.size = nL) (hP : va_P D classes ws H) (hD : va_D A ws) (hS : va_S A s.heap H locs) (hM : CI l y bytes maxL rt rm D K As wc post) (isC isR : List Nat) (hC : isC.map (fun i => ws[i]?) = wc.map some) (hR : isR.map (fun i => ws[i]?) = wr.map some) (hnC : va_nd isC = true) (hnR : va_nd isR = true) (hdis : ∀ i ∈ isR, i ∉ isC) (w1 : Cond.methodLinkNest own index y host ∈ gw) (hw : MS y bytes maxL (some rt) n) (hn : As.length = n) (hroom : rm.frames + 1 ≤ R.frames ∧ 8 + (maxL + 11) + rm.locals ≤ R.locals) (hst : st0 = As.reverse ++ rest) (hcat : (rest.map fun v => v.category).sum ≤ 8) (hcs : cells + rm.cells ≤ R.cells ∧ slots + rm.slots ≤ R.slots) (hdg : decode cc pc = .ok (.invokestatic index, 3))
    (kk : ∀ (r : Int32) (u : va_W) (H1 : Heap) (locs1 : List Loc), post r u → va_P D classes (wr ++ u) H1 → va_D A (wr ++ u) → va_S A s.heap H1 locs1 → W p l e R s m args below meth c H1 locs1 (cells + rm.cells) (slots + rm.slots) Q (F0 m (pc + 3) ls (.int r :: rest))) : W p l e R s m args below meth c H locs cells slots Q (F0 m pc ls st0) := by
  have hPc := va_Psub hP isC hC
  have hDc := hD.sub isC hnC hC
  have hFc := va_free hD hS hA.1 isC hC
  have hg := gw_goods
  obtain ⟨w2, w4, w5, hd⟩ := hw
  refine va_calli (va_runSN (As := As) (rest := rest) ⟨hx, hb, hml, hown, (fun w h => htw w h args)⟩ (hM H.size b0) ⟨va_cnB n (fun w h => htw w h args) (gw_good _ w5 rfl) rfl rfl rfl (htw _ w1 #[]) (htw _ w4 args) hd hroom, htw _ w2 args, trivial⟩ ⟨PW_blind, fun U hU hW => ⟨rfl, tw_warm hW htw, by rw [hU], by rw [hU]; exact hPc, va_K.moved hW.alike hK, hDc.weaken (fun _ _ _ h => hA.2.2.1 _ h), SF_step hA.2.1 hW (fun q h1 h2 => by rw [hU]; exact hS.2.1 q h1 (fun h => h2 (hA.2.2.1 q h))), Nat.le_trans hA.2.2.2 hS.1⟩⟩ rfl hn hls hst (lv_room hcat) hdg hcs) hS (fun q _ h => hFc q h) hFc (fun r u t H1 locs1 ht hvm hw hB hz1 hk1 hS1 => ?_)
  obtain ⟨hP1, hD1⟩ := hB
  rw [ht] at hP1
  obtain ⟨hP2, hD2⟩ := va_join hP hD isC isR hC hR hnR hdis hk1 hFc hP1 hD1
  exact kk r u H1 locs1 hw hP2 hD2 hS1
theorem xcV_l {y : MethodName} {bytes : ByteArray} {maxL n index nL : Nat} {own : String} {rm : Room} {As st0 : List Value} {wc wr : va_W} {post : Int64 → va_W → Prop} {b : Addr} (hx : p.tables.exec = Jvm.exec) (hb : c.code = cc) (hml : c.maxLocals = nL) (hown : s.vm.findClass own = some m.cls) (htw : tw s) (hK : va_K D classes (tyl K) s) {b0 : Nat} (hA : AS K s A b0) (hls : ls.size = nL) (hP : va_P D classes ws H) (hD : va_D A ws) (hS : va_S A s.heap H locs) (hM : CL l y bytes maxL rm D K (.ref b :: As) wc post) (isC isR : List Nat) (hC : isC.map (fun i => ws[i]?) = wc.map some) (hR : isR.map (fun i => ws[i]?) = wr.map some) (hnC : va_nd isC = true) (hnR : va_nd isR = true) (hdis : ∀ i ∈ isR, i ∉ isC) (q0 : Nat) {ci : Nat} {fs : List Value} {T : u_T} {N : Nat} {ty : Nat → FieldType} (hrecv : wc[q0]? = some (b, .inr (ci, fs))) (hci : CW ci y.cls T N ty) (w1 : Cond.methodLink own index y ∈ gw) (hw : MV y bytes maxL (some .long) n) (hn : As.length = n) (hroom : rm.frames + 1 ≤ R.frames ∧ 8 + (maxL + 11) + rm.locals ≤ R.locals) (hst : st0 = As.reverse ++ .ref b :: rest) (hcat : (rest.map fun v => v.category).sum ≤ 8) (hcs : cells + rm.cells ≤ R.cells ∧ slots + rm.slots ≤ R.slots) (hdg : decode cc pc = .ok (.invokevirtual index, 3))
    (kk : ∀ (r : Int64) (u : va_W) (H1 : Heap) (locs1 : List Loc), post r u → va_P D classes (wr ++ u) H1 → va_D A (wr ++ u) → va_S A s.heap H1 locs1 → W p l e R s m args below meth c H1 locs1 (cells + rm.cells) (slots + rm.slots) Q (F0 m (pc + 3) ls (.long r :: rest))) : W p l e R s m args below meth c H locs cells slots Q (F0 m pc ls st0) := by
  have hPc := va_Psub hP isC hC
  have hDc := hD.sub isC hnC hC
  have hFc := va_free hD hS hA.1 isC hC
  have hg := gw_goods
  obtain ⟨w2, w3, w4, w5, hd⟩ := hw
  refine va_calll (va_runV (As := As) (rest := rest) ⟨hx, hb, hml, hown, (fun w h => htw w h args)⟩ (hM H.size b0) (cwV n (fun w h => htw w h args) (hg [.methodLink own index y, .instanceMethod y, .selects y.cls y y, .initialized y.cls, .code y bytes maxL (some .long)] (by intro w h; simp only [List.mem_cons, List.not_mem_nil, or_false] at h; rcases h with rfl | rfl | rfl | rfl | rfl <;> assumption) (by intro w h; simp only [List.mem_cons, List.not_mem_nil, or_false] at h; rcases h with rfl | rfl | rfl | rfl | rfl <;> rfl)) rfl rfl rfl ⟨rfl, hd⟩ hroom) ⟨PW_blind, va_recv hK hPc hci.1 hrecv, fun U hU hW => ⟨rfl, tw_warm hW htw, by rw [hU], by rw [hU]; exact hPc, va_K.moved hW.alike hK, hDc.weaken (fun _ _ _ h => hA.2.2.1 _ h), SF_step hA.2.1 hW (fun q h1 h2 => by rw [hU]; exact hS.2.1 q h1 (fun h => h2 (hA.2.2.1 q h))), Nat.le_trans hA.2.2.2 hS.1⟩⟩ rfl hn hls hst (lv_room hcat) hdg hcs) hS (fun q _ h => hFc q h) hFc (fun r u t H1 locs1 ht hvm hw hB hz1 hk1 hS1 => ?_)
  obtain ⟨hP1, hD1⟩ := hB
  rw [ht] at hP1
  obtain ⟨hP2, hD2⟩ := va_join hP hD isC isR hC hR hnR hdis hk1 hFc hP1 hD1
  exact kk r u H1 locs1 hw hP2 hD2 hS1
theorem xcVN_l {y : MethodName} {bytes : ByteArray} {maxL n index nL : Nat} {own host : String} {rm : Room} {As st0 : List Value} {wc wr : va_W} {post : Int64 → va_W → Prop} {b : Addr} (hx : p.tables.exec = Jvm.exec) (hb : c.code = cc) (hml : c.maxLocals = nL) (hown : s.vm.findClass own = some m.cls) (htw : tw s) (hK : va_K D classes (tyl K) s) {b0 : Nat} (hA : AS K s A b0) (hls : ls.size = nL) (hP : va_P D classes ws H) (hD : va_D A ws) (hS : va_S A s.heap H locs) (hM : CL l y bytes maxL rm D K (.ref b :: As) wc post) (isC isR : List Nat) (hC : isC.map (fun i => ws[i]?) = wc.map some) (hR : isR.map (fun i => ws[i]?) = wr.map some) (hnC : va_nd isC = true) (hnR : va_nd isR = true) (hdis : ∀ i ∈ isR, i ∉ isC) (q0 : Nat) {ci : Nat} {fs : List Value} {T : u_T} {N : Nat} {ty : Nat → FieldType} (hrecv : wc[q0]? = some (b, .inr (ci, fs))) (hci : CW ci y.cls T N ty) (w1 : Cond.methodLinkNest own index y host ∈ gw) (hw : MV y bytes maxL (some .long) n) (hn : As.length = n) (hroom : rm.frames + 1 ≤ R.frames ∧ 8 + (maxL + 11) + rm.locals ≤ R.locals) (hst : st0 = As.reverse ++ .ref b :: rest) (hcat : (rest.map fun v => v.category).sum ≤ 8) (hcs : cells + rm.cells ≤ R.cells ∧ slots + rm.slots ≤ R.slots) (hdg : decode cc pc = .ok (.invokevirtual index, 3))
    (kk : ∀ (r : Int64) (u : va_W) (H1 : Heap) (locs1 : List Loc), post r u → va_P D classes (wr ++ u) H1 → va_D A (wr ++ u) → va_S A s.heap H1 locs1 → W p l e R s m args below meth c H1 locs1 (cells + rm.cells) (slots + rm.slots) Q (F0 m (pc + 3) ls (.long r :: rest))) : W p l e R s m args below meth c H locs cells slots Q (F0 m pc ls st0) := by
  have hPc := va_Psub hP isC hC
  have hDc := hD.sub isC hnC hC
  have hFc := va_free hD hS hA.1 isC hC
  have hg := gw_goods
  obtain ⟨w2, w3, w4, w5, hd⟩ := hw
  refine va_calll (va_runVN (As := As) (rest := rest) ⟨hx, hb, hml, hown, (fun w h => htw w h args)⟩ (hM H.size b0) ⟨va_cnB n (fun w h => htw w h args) (gw_good _ w5 rfl) rfl rfl rfl (htw _ w1 #[]) (htw _ w4 args) hd hroom, htw _ w2 args, htw _ w3 args⟩ ⟨PW_blind, va_recv hK hPc hci.1 hrecv, fun U hU hW => ⟨rfl, tw_warm hW htw, by rw [hU], by rw [hU]; exact hPc, va_K.moved hW.alike hK, hDc.weaken (fun _ _ _ h => hA.2.2.1 _ h), SF_step hA.2.1 hW (fun q h1 h2 => by rw [hU]; exact hS.2.1 q h1 (fun h => h2 (hA.2.2.1 q h))), Nat.le_trans hA.2.2.2 hS.1⟩⟩ rfl hn hls hst (lv_room hcat) hdg hcs) hS (fun q _ h => hFc q h) hFc (fun r u t H1 locs1 ht hvm hw hB hz1 hk1 hS1 => ?_)
  obtain ⟨hP1, hD1⟩ := hB
  rw [ht] at hP1
  obtain ⟨hP2, hD2⟩ := va_join hP hD isC isR hC hR hnR hdis hk1 hFc hP1 hD1
  exact kk r u H1 locs1 hw hP2 hD2 hS1
theorem xcS_l {y : MethodName} {bytes : ByteArray} {maxL n index nL : Nat} {own : String} {rm : Room} {As st0 : List Value} {wc wr : va_W} {post : Int64 → va_W → Prop} (hx : p.tables.exec = Jvm.exec) (hb : c.code = cc) (hml : c.maxLocals = nL) (hown : s.vm.findClass own = some m.cls) (htw : tw s) (hK : va_K D classes (tyl K) s) {b0 : Nat} (hA : AS K s A b0) (hls : ls.size = nL) (hP : va_P D classes ws H) (hD : va_D A ws) (hS : va_S A s.heap H locs) (hM : CL l y bytes maxL rm D K As wc post) (isC isR : List Nat) (hC : isC.map (fun i => ws[i]?) = wc.map some) (hR : isR.map (fun i => ws[i]?) = wr.map some) (hnC : va_nd isC = true) (hnR : va_nd isR = true) (hdis : ∀ i ∈ isR, i ∉ isC) (w1 : Cond.methodLink own index y ∈ gw) (hw : MS y bytes maxL (some .long) n) (hn : As.length = n) (hroom : rm.frames + 1 ≤ R.frames ∧ 8 + (maxL + 11) + rm.locals ≤ R.locals) (hst : st0 = As.reverse ++ rest) (hcat : (rest.map fun v => v.category).sum ≤ 8) (hcs : cells + rm.cells ≤ R.cells ∧ slots + rm.slots ≤ R.slots) (hdg : decode cc pc = .ok (.invokestatic index, 3))
    (kk : ∀ (r : Int64) (u : va_W) (H1 : Heap) (locs1 : List Loc), post r u → va_P D classes (wr ++ u) H1 → va_D A (wr ++ u) → va_S A s.heap H1 locs1 → W p l e R s m args below meth c H1 locs1 (cells + rm.cells) (slots + rm.slots) Q (F0 m (pc + 3) ls (.long r :: rest))) : W p l e R s m args below meth c H locs cells slots Q (F0 m pc ls st0) := by
  have hPc := va_Psub hP isC hC
  have hDc := hD.sub isC hnC hC
  have hFc := va_free hD hS hA.1 isC hC
  have hg := gw_goods
  obtain ⟨w2, w4, w5, hd⟩ := hw
  refine va_calll (va_runS (As := As) (rest := rest) ⟨hx, hb, hml, hown, (fun w h => htw w h args)⟩ (hM H.size b0) (va_cwS n (fun w h => htw w h args) (hg [.methodLink own index y, .static y, .initialized y.cls, .code y bytes maxL (some .long)] (by intro w h; simp only [List.mem_cons, List.not_mem_nil, or_false] at h; rcases h with rfl | rfl | rfl | rfl <;> assumption) (by intro w h; simp only [List.mem_cons, List.not_mem_nil, or_false] at h; rcases h with rfl | rfl | rfl | rfl <;> rfl)) rfl rfl rfl hd hroom) ⟨PW_blind, fun U hU hW => ⟨rfl, tw_warm hW htw, by rw [hU], by rw [hU]; exact hPc, va_K.moved hW.alike hK, hDc.weaken (fun _ _ _ h => hA.2.2.1 _ h), SF_step hA.2.1 hW (fun q h1 h2 => by rw [hU]; exact hS.2.1 q h1 (fun h => h2 (hA.2.2.1 q h))), Nat.le_trans hA.2.2.2 hS.1⟩⟩ rfl hn hls hst (lv_room hcat) hdg hcs) hS (fun q _ h => hFc q h) hFc (fun r u t H1 locs1 ht hvm hw hB hz1 hk1 hS1 => ?_)
  obtain ⟨hP1, hD1⟩ := hB
  rw [ht] at hP1
  obtain ⟨hP2, hD2⟩ := va_join hP hD isC isR hC hR hnR hdis hk1 hFc hP1 hD1
  exact kk r u H1 locs1 hw hP2 hD2 hS1
theorem xcSN_l {y : MethodName} {bytes : ByteArray} {maxL n index nL : Nat} {own host : String} {rm : Room} {As st0 : List Value} {wc wr : va_W} {post : Int64 → va_W → Prop} (hx : p.tables.exec = Jvm.exec) (hb : c.code = cc) (hml : c.maxLocals = nL) (hown : s.vm.findClass own = some m.cls) (htw : tw s) (hK : va_K D classes (tyl K) s) {b0 : Nat} (hA : AS K s A b0) (hls : ls.size = nL) (hP : va_P D classes ws H) (hD : va_D A ws) (hS : va_S A s.heap H locs) (hM : CL l y bytes maxL rm D K As wc post) (isC isR : List Nat) (hC : isC.map (fun i => ws[i]?) = wc.map some) (hR : isR.map (fun i => ws[i]?) = wr.map some) (hnC : va_nd isC = true) (hnR : va_nd isR = true) (hdis : ∀ i ∈ isR, i ∉ isC) (w1 : Cond.methodLinkNest own index y host ∈ gw) (hw : MS y bytes maxL (some .long) n) (hn : As.length = n) (hroom : rm.frames + 1 ≤ R.frames ∧ 8 + (maxL + 11) + rm.locals ≤ R.locals) (hst : st0 = As.reverse ++ rest) (hcat : (rest.map fun v => v.category).sum ≤ 8) (hcs : cells + rm.cells ≤ R.cells ∧ slots + rm.slots ≤ R.slots) (hdg : decode cc pc = .ok (.invokestatic index, 3))
    (kk : ∀ (r : Int64) (u : va_W) (H1 : Heap) (locs1 : List Loc), post r u → va_P D classes (wr ++ u) H1 → va_D A (wr ++ u) → va_S A s.heap H1 locs1 → W p l e R s m args below meth c H1 locs1 (cells + rm.cells) (slots + rm.slots) Q (F0 m (pc + 3) ls (.long r :: rest))) : W p l e R s m args below meth c H locs cells slots Q (F0 m pc ls st0) := by
  have hPc := va_Psub hP isC hC
  have hDc := hD.sub isC hnC hC
  have hFc := va_free hD hS hA.1 isC hC
  have hg := gw_goods
  obtain ⟨w2, w4, w5, hd⟩ := hw
  refine va_calll (va_runSN (As := As) (rest := rest) ⟨hx, hb, hml, hown, (fun w h => htw w h args)⟩ (hM H.size b0) ⟨va_cnB n (fun w h => htw w h args) (gw_good _ w5 rfl) rfl rfl rfl (htw _ w1 #[]) (htw _ w4 args) hd hroom, htw _ w2 args, trivial⟩ ⟨PW_blind, fun U hU hW => ⟨rfl, tw_warm hW htw, by rw [hU], by rw [hU]; exact hPc, va_K.moved hW.alike hK, hDc.weaken (fun _ _ _ h => hA.2.2.1 _ h), SF_step hA.2.1 hW (fun q h1 h2 => by rw [hU]; exact hS.2.1 q h1 (fun h => h2 (hA.2.2.1 q h))), Nat.le_trans hA.2.2.2 hS.1⟩⟩ rfl hn hls hst (lv_room hcat) hdg hcs) hS (fun q _ h => hFc q h) hFc (fun r u t H1 locs1 ht hvm hw hB hz1 hk1 hS1 => ?_)
  obtain ⟨hP1, hD1⟩ := hB
  rw [ht] at hP1
  obtain ⟨hP2, hD2⟩ := va_join hP hD isC isR hC hR hnR hdis hk1 hFc hP1 hD1
  exact kk r u H1 locs1 hw hP2 hD2 hS1
theorem xcV_v {y : MethodName} {bytes : ByteArray} {maxL n index nL : Nat} {own : String} {rm : Room} {As st0 : List Value} {wc wr : va_W} {post : va_W → Prop} {b : Addr} (hx : p.tables.exec = Jvm.exec) (hb : c.code = cc) (hml : c.maxLocals = nL) (hown : s.vm.findClass own = some m.cls) (htw : tw s) (hK : va_K D classes (tyl K) s) {b0 : Nat} (hA : AS K s A b0) (hls : ls.size = nL) (hP : va_P D classes ws H) (hD : va_D A ws) (hS : va_S A s.heap H locs) (hM : CV l y bytes maxL rm D K (.ref b :: As) wc post) (isC isR : List Nat) (hC : isC.map (fun i => ws[i]?) = wc.map some) (hR : isR.map (fun i => ws[i]?) = wr.map some) (hnC : va_nd isC = true) (hnR : va_nd isR = true) (hdis : ∀ i ∈ isR, i ∉ isC) (q0 : Nat) {ci : Nat} {fs : List Value} {T : u_T} {N : Nat} {ty : Nat → FieldType} (hrecv : wc[q0]? = some (b, .inr (ci, fs))) (hci : CW ci y.cls T N ty) (w1 : Cond.methodLink own index y ∈ gw) (hw : MV y bytes maxL none n) (hn : As.length = n) (hroom : rm.frames + 1 ≤ R.frames ∧ 8 + (maxL + 11) + rm.locals ≤ R.locals) (hst : st0 = As.reverse ++ .ref b :: rest) (hcat : (rest.map fun v => v.category).sum ≤ 8) (hcs : cells + rm.cells ≤ R.cells ∧ slots + rm.slots ≤ R.slots) (hdg : decode cc pc = .ok (.invokevirtual index, 3))
    (kk : ∀ (u : va_W) (H1 : Heap) (locs1 : List Loc), post u → va_P D classes (wr ++ u) H1 → va_D A (wr ++ u) → va_S A s.heap H1 locs1 → W p l e R s m args below meth c H1 locs1 (cells + rm.cells) (slots + rm.slots) Q (F0 m (pc + 3) ls (rest))) : W p l e R s m args below meth c H locs cells slots Q (F0 m pc ls st0) := by
  have hPc := va_Psub hP isC hC
  have hDc := hD.sub isC hnC hC
  have hFc := va_free hD hS hA.1 isC hC
  have hg := gw_goods
  obtain ⟨w2, w3, w4, w5, hd⟩ := hw
  refine va_callv (va_runV (As := As) (rest := rest) ⟨hx, hb, hml, hown, (fun w h => htw w h args)⟩ (hM H.size b0) (cwV n (fun w h => htw w h args) (hg [.methodLink own index y, .instanceMethod y, .selects y.cls y y, .initialized y.cls, .code y bytes maxL none] (by intro w h; simp only [List.mem_cons, List.not_mem_nil, or_false] at h; rcases h with rfl | rfl | rfl | rfl | rfl <;> assumption) (by intro w h; simp only [List.mem_cons, List.not_mem_nil, or_false] at h; rcases h with rfl | rfl | rfl | rfl | rfl <;> rfl)) rfl rfl rfl ⟨rfl, hd⟩ hroom) ⟨PW_blind, va_recv hK hPc hci.1 hrecv, fun U hU hW => ⟨rfl, tw_warm hW htw, by rw [hU], by rw [hU]; exact hPc, va_K.moved hW.alike hK, hDc.weaken (fun _ _ _ h => hA.2.2.1 _ h), SF_step hA.2.1 hW (fun q h1 h2 => by rw [hU]; exact hS.2.1 q h1 (fun h => h2 (hA.2.2.1 q h))), Nat.le_trans hA.2.2.2 hS.1⟩⟩ rfl hn hls hst (lv_room hcat) hdg hcs) hS (fun q _ h => hFc q h) hFc (fun u t H1 locs1 ht hvm hw hB hz1 hk1 hS1 => ?_)
  obtain ⟨hP1, hD1⟩ := hB
  rw [ht] at hP1
  obtain ⟨hP2, hD2⟩ := va_join hP hD isC isR hC hR hnR hdis hk1 hFc hP1 hD1
  exact kk u H1 locs1 hw hP2 hD2 hS1
theorem xcVN_v {y : MethodName} {bytes : ByteArray} {maxL n index nL : Nat} {own host : String} {rm : Room} {As st0 : List Value} {wc wr : va_W} {post : va_W → Prop} {b : Addr} (hx : p.tables.exec = Jvm.exec) (hb : c.code = cc) (hml : c.maxLocals = nL) (hown : s.vm.findClass own = some m.cls) (htw : tw s) (hK : va_K D classes (tyl K) s) {b0 : Nat} (hA : AS K s A b0) (hls : ls.size = nL) (hP : va_P D classes ws H) (hD : va_D A ws) (hS : va_S A s.heap H locs) (hM : CV l y bytes maxL rm D K (.ref b :: As) wc post) (isC isR : List Nat) (hC : isC.map (fun i => ws[i]?) = wc.map some) (hR : isR.map (fun i => ws[i]?) = wr.map some) (hnC : va_nd isC = true) (hnR : va_nd isR = true) (hdis : ∀ i ∈ isR, i ∉ isC) (q0 : Nat) {ci : Nat} {fs : List Value} {T : u_T} {N : Nat} {ty : Nat → FieldType} (hrecv : wc[q0]? = some (b, .inr (ci, fs))) (hci : CW ci y.cls T N ty) (w1 : Cond.methodLinkNest own index y host ∈ gw) (hw : MV y bytes maxL none n) (hn : As.length = n) (hroom : rm.frames + 1 ≤ R.frames ∧ 8 + (maxL + 11) + rm.locals ≤ R.locals) (hst : st0 = As.reverse ++ .ref b :: rest) (hcat : (rest.map fun v => v.category).sum ≤ 8) (hcs : cells + rm.cells ≤ R.cells ∧ slots + rm.slots ≤ R.slots) (hdg : decode cc pc = .ok (.invokevirtual index, 3))
    (kk : ∀ (u : va_W) (H1 : Heap) (locs1 : List Loc), post u → va_P D classes (wr ++ u) H1 → va_D A (wr ++ u) → va_S A s.heap H1 locs1 → W p l e R s m args below meth c H1 locs1 (cells + rm.cells) (slots + rm.slots) Q (F0 m (pc + 3) ls (rest))) : W p l e R s m args below meth c H locs cells slots Q (F0 m pc ls st0) := by
  have hPc := va_Psub hP isC hC
  have hDc := hD.sub isC hnC hC
  have hFc := va_free hD hS hA.1 isC hC
  have hg := gw_goods
  obtain ⟨w2, w3, w4, w5, hd⟩ := hw
  refine va_callv (va_runVN (As := As) (rest := rest) ⟨hx, hb, hml, hown, (fun w h => htw w h args)⟩ (hM H.size b0) ⟨va_cnB n (fun w h => htw w h args) (gw_good _ w5 rfl) rfl rfl rfl (htw _ w1 #[]) (htw _ w4 args) hd hroom, htw _ w2 args, htw _ w3 args⟩ ⟨PW_blind, va_recv hK hPc hci.1 hrecv, fun U hU hW => ⟨rfl, tw_warm hW htw, by rw [hU], by rw [hU]; exact hPc, va_K.moved hW.alike hK, hDc.weaken (fun _ _ _ h => hA.2.2.1 _ h), SF_step hA.2.1 hW (fun q h1 h2 => by rw [hU]; exact hS.2.1 q h1 (fun h => h2 (hA.2.2.1 q h))), Nat.le_trans hA.2.2.2 hS.1⟩⟩ rfl hn hls hst (lv_room hcat) hdg hcs) hS (fun q _ h => hFc q h) hFc (fun u t H1 locs1 ht hvm hw hB hz1 hk1 hS1 => ?_)
  obtain ⟨hP1, hD1⟩ := hB
  rw [ht] at hP1
  obtain ⟨hP2, hD2⟩ := va_join hP hD isC isR hC hR hnR hdis hk1 hFc hP1 hD1
  exact kk u H1 locs1 hw hP2 hD2 hS1
theorem xcS_v {y : MethodName} {bytes : ByteArray} {maxL n index nL : Nat} {own : String} {rm : Room} {As st0 : List Value} {wc wr : va_W} {post : va_W → Prop} (hx : p.tables.exec = Jvm.exec) (hb : c.code = cc) (hml : c.maxLocals = nL) (hown : s.vm.findClass own = some m.cls) (htw : tw s) (hK : va_K D classes (tyl K) s) {b0 : Nat} (hA : AS K s A b0) (hls : ls.size = nL) (hP : va_P D classes ws H) (hD : va_D A ws) (hS : va_S A s.heap H locs) (hM : CV l y bytes maxL rm D K As wc post) (isC isR : List Nat) (hC : isC.map (fun i => ws[i]?) = wc.map some) (hR : isR.map (fun i => ws[i]?) = wr.map some) (hnC : va_nd isC = true) (hnR : va_nd isR = true) (hdis : ∀ i ∈ isR, i ∉ isC) (w1 : Cond.methodLink own index y ∈ gw) (hw : MS y bytes maxL none n) (hn : As.length = n) (hroom : rm.frames + 1 ≤ R.frames ∧ 8 + (maxL + 11) + rm.locals ≤ R.locals) (hst : st0 = As.reverse ++ rest) (hcat : (rest.map fun v => v.category).sum ≤ 8) (hcs : cells + rm.cells ≤ R.cells ∧ slots + rm.slots ≤ R.slots) (hdg : decode cc pc = .ok (.invokestatic index, 3))
    (kk : ∀ (u : va_W) (H1 : Heap) (locs1 : List Loc), post u → va_P D classes (wr ++ u) H1 → va_D A (wr ++ u) → va_S A s.heap H1 locs1 → W p l e R s m args below meth c H1 locs1 (cells + rm.cells) (slots + rm.slots) Q (F0 m (pc + 3) ls (rest))) : W p l e R s m args below meth c H locs cells slots Q (F0 m pc ls st0) := by
  have hPc := va_Psub hP isC hC
  have hDc := hD.sub isC hnC hC
  have hFc := va_free hD hS hA.1 isC hC
  have hg := gw_goods
  obtain ⟨w2, w4, w5, hd⟩ := hw
  refine va_callv (va_runS (As := As) (rest := rest) ⟨hx, hb, hml, hown, (fun w h => htw w h args)⟩ (hM H.size b0) (va_cwS n (fun w h => htw w h args) (hg [.methodLink own index y, .static y, .initialized y.cls, .code y bytes maxL none] (by intro w h; simp only [List.mem_cons, List.not_mem_nil, or_false] at h; rcases h with rfl | rfl | rfl | rfl <;> assumption) (by intro w h; simp only [List.mem_cons, List.not_mem_nil, or_false] at h; rcases h with rfl | rfl | rfl | rfl <;> rfl)) rfl rfl rfl hd hroom) ⟨PW_blind, fun U hU hW => ⟨rfl, tw_warm hW htw, by rw [hU], by rw [hU]; exact hPc, va_K.moved hW.alike hK, hDc.weaken (fun _ _ _ h => hA.2.2.1 _ h), SF_step hA.2.1 hW (fun q h1 h2 => by rw [hU]; exact hS.2.1 q h1 (fun h => h2 (hA.2.2.1 q h))), Nat.le_trans hA.2.2.2 hS.1⟩⟩ rfl hn hls hst (lv_room hcat) hdg hcs) hS (fun q _ h => hFc q h) hFc (fun u t H1 locs1 ht hvm hw hB hz1 hk1 hS1 => ?_)
  obtain ⟨hP1, hD1⟩ := hB
  rw [ht] at hP1
  obtain ⟨hP2, hD2⟩ := va_join hP hD isC isR hC hR hnR hdis hk1 hFc hP1 hD1
  exact kk u H1 locs1 hw hP2 hD2 hS1
theorem xcSN_v {y : MethodName} {bytes : ByteArray} {maxL n index nL : Nat} {own host : String} {rm : Room} {As st0 : List Value} {wc wr : va_W} {post : va_W → Prop} (hx : p.tables.exec = Jvm.exec) (hb : c.code = cc) (hml : c.maxLocals = nL) (hown : s.vm.findClass own = some m.cls) (htw : tw s) (hK : va_K D classes (tyl K) s) {b0 : Nat} (hA : AS K s A b0) (hls : ls.size = nL) (hP : va_P D classes ws H) (hD : va_D A ws) (hS : va_S A s.heap H locs) (hM : CV l y bytes maxL rm D K As wc post) (isC isR : List Nat) (hC : isC.map (fun i => ws[i]?) = wc.map some) (hR : isR.map (fun i => ws[i]?) = wr.map some) (hnC : va_nd isC = true) (hnR : va_nd isR = true) (hdis : ∀ i ∈ isR, i ∉ isC) (w1 : Cond.methodLinkNest own index y host ∈ gw) (hw : MS y bytes maxL none n) (hn : As.length = n) (hroom : rm.frames + 1 ≤ R.frames ∧ 8 + (maxL + 11) + rm.locals ≤ R.locals) (hst : st0 = As.reverse ++ rest) (hcat : (rest.map fun v => v.category).sum ≤ 8) (hcs : cells + rm.cells ≤ R.cells ∧ slots + rm.slots ≤ R.slots) (hdg : decode cc pc = .ok (.invokestatic index, 3))
    (kk : ∀ (u : va_W) (H1 : Heap) (locs1 : List Loc), post u → va_P D classes (wr ++ u) H1 → va_D A (wr ++ u) → va_S A s.heap H1 locs1 → W p l e R s m args below meth c H1 locs1 (cells + rm.cells) (slots + rm.slots) Q (F0 m (pc + 3) ls (rest))) : W p l e R s m args below meth c H locs cells slots Q (F0 m pc ls st0) := by
  have hPc := va_Psub hP isC hC
  have hDc := hD.sub isC hnC hC
  have hFc := va_free hD hS hA.1 isC hC
  have hg := gw_goods
  obtain ⟨w2, w4, w5, hd⟩ := hw
  refine va_callv (va_runSN (As := As) (rest := rest) ⟨hx, hb, hml, hown, (fun w h => htw w h args)⟩ (hM H.size b0) ⟨va_cnB n (fun w h => htw w h args) (gw_good _ w5 rfl) rfl rfl rfl (htw _ w1 #[]) (htw _ w4 args) hd hroom, htw _ w2 args, trivial⟩ ⟨PW_blind, fun U hU hW => ⟨rfl, tw_warm hW htw, by rw [hU], by rw [hU]; exact hPc, va_K.moved hW.alike hK, hDc.weaken (fun _ _ _ h => hA.2.2.1 _ h), SF_step hA.2.1 hW (fun q h1 h2 => by rw [hU]; exact hS.2.1 q h1 (fun h => h2 (hA.2.2.1 q h))), Nat.le_trans hA.2.2.2 hS.1⟩⟩ rfl hn hls hst (lv_room hcat) hdg hcs) hS (fun q _ h => hFc q h) hFc (fun u t H1 locs1 ht hvm hw hB hz1 hk1 hS1 => ?_)
  obtain ⟨hP1, hD1⟩ := hB
  rw [ht] at hP1
  obtain ⟨hP2, hD2⟩ := va_join hP hD isC isR hC hR hnR hdis hk1 hFc hP1 hD1
  exact kk u H1 locs1 hw hP2 hD2 hS1
theorem xcI_v {y : MethodName} {bytes : ByteArray} {maxL n index nL : Nat} {own : String} {rm : Room} {As st0 : List Value} {wc wr : va_W} {post : va_W → Prop} {b : Addr} (hx : p.tables.exec = Jvm.exec) (hb : c.code = cc) (hml : c.maxLocals = nL) (hown : s.vm.findClass own = some m.cls) (htw : tw s) (hK : va_K D classes (tyl K) s) {b0 : Nat} (hA : AS K s A b0) (hls : ls.size = nL) (hP : va_P D classes ws H) (hD : va_D A ws) (hS : va_S A s.heap H locs) (hM : CV l y bytes maxL rm D K (.ref b :: As) wc post) (isC isR : List Nat) (hC : isC.map (fun i => ws[i]?) = wc.map some) (hR : isR.map (fun i => ws[i]?) = wr.map some) (hnC : va_nd isC = true) (hnR : va_nd isR = true) (hdis : ∀ i ∈ isR, i ∉ isC) (w1 : Cond.methodLink own index y ∈ gw) (hw : MI y bytes maxL none n) (hn : As.length = n) (hroom : rm.frames + 1 ≤ R.frames ∧ 8 + (maxL + 11) + rm.locals ≤ R.locals) (hst : st0 = As.reverse ++ .ref b :: rest) (hcat : (rest.map fun v => v.category).sum ≤ 8) (hcs : cells + rm.cells ≤ R.cells ∧ slots + rm.slots ≤ R.slots) (hdg : decode cc pc = .ok (.invokespecial index, 3))
    (kk : ∀ (u : va_W) (H1 : Heap) (locs1 : List Loc), post u → va_P D classes (wr ++ u) H1 → va_D A (wr ++ u) → va_S A s.heap H1 locs1 → W p l e R s m args below meth c H1 locs1 (cells + rm.cells) (slots + rm.slots) Q (F0 m (pc + 3) ls (rest))) : W p l e R s m args below meth c H locs cells slots Q (F0 m pc ls st0) := by
  have hPc := va_Psub hP isC hC
  have hDc := hD.sub isC hnC hC
  have hFc := va_free hD hS hA.1 isC hC
  have hg := gw_goods
  obtain ⟨w2, w4, w5, hy1, hd⟩ := hw
  refine va_callv (va_runI (As := As) (rest := rest) ⟨hx, hb, hml, hown, (fun w h => htw w h args)⟩ (hM H.size b0) (cwI n (fun w h => htw w h args) (gw_good _ w5 rfl) rfl rfl rfl (htw _ w4 args) (htw _ w1 args) (htw _ w2 args) hy1 hd hroom) ⟨PW_blind, fun U hU hW => ⟨rfl, tw_warm hW htw, by rw [hU], by rw [hU]; exact hPc, va_K.moved hW.alike hK, hDc.weaken (fun _ _ _ h => hA.2.2.1 _ h), SF_step hA.2.1 hW (fun q h1 h2 => by rw [hU]; exact hS.2.1 q h1 (fun h => h2 (hA.2.2.1 q h))), Nat.le_trans hA.2.2.2 hS.1⟩⟩ rfl hn hls hst (lv_room hcat) hdg hcs) hS (fun q _ h => hFc q h) hFc (fun u t H1 locs1 ht hvm hw hB hz1 hk1 hS1 => ?_)
  obtain ⟨hP1, hD1⟩ := hB
  rw [ht] at hP1
  obtain ⟨hP2, hD2⟩ := va_join hP hD isC isR hC hR hnR hdis hk1 hFc hP1 hD1
  exact kk u H1 locs1 hw hP2 hD2 hS1
theorem xcIN_v {y : MethodName} {bytes : ByteArray} {maxL n index nL : Nat} {own host : String} {rm : Room} {As st0 : List Value} {wc wr : va_W} {post : va_W → Prop} {b : Addr} (hx : p.tables.exec = Jvm.exec) (hb : c.code = cc) (hml : c.maxLocals = nL) (hown : s.vm.findClass own = some m.cls) (htw : tw s) (hK : va_K D classes (tyl K) s) {b0 : Nat} (hA : AS K s A b0) (hls : ls.size = nL) (hP : va_P D classes ws H) (hD : va_D A ws) (hS : va_S A s.heap H locs) (hM : CV l y bytes maxL rm D K (.ref b :: As) wc post) (isC isR : List Nat) (hC : isC.map (fun i => ws[i]?) = wc.map some) (hR : isR.map (fun i => ws[i]?) = wr.map some) (hnC : va_nd isC = true) (hnR : va_nd isR = true) (hdis : ∀ i ∈ isR, i ∉ isC) (w1 : Cond.methodLinkNest own index y host ∈ gw) (hw : MI y bytes maxL none n) (hn : As.length = n) (hroom : rm.frames + 1 ≤ R.frames ∧ 8 + (maxL + 11) + rm.locals ≤ R.locals) (hst : st0 = As.reverse ++ .ref b :: rest) (hcat : (rest.map fun v => v.category).sum ≤ 8) (hcs : cells + rm.cells ≤ R.cells ∧ slots + rm.slots ≤ R.slots) (hdg : decode cc pc = .ok (.invokespecial index, 3))
    (kk : ∀ (u : va_W) (H1 : Heap) (locs1 : List Loc), post u → va_P D classes (wr ++ u) H1 → va_D A (wr ++ u) → va_S A s.heap H1 locs1 → W p l e R s m args below meth c H1 locs1 (cells + rm.cells) (slots + rm.slots) Q (F0 m (pc + 3) ls (rest))) : W p l e R s m args below meth c H locs cells slots Q (F0 m pc ls st0) := by
  have hPc := va_Psub hP isC hC
  have hDc := hD.sub isC hnC hC
  have hFc := va_free hD hS hA.1 isC hC
  have hg := gw_goods
  obtain ⟨w2, w4, w5, hy1, hd⟩ := hw
  refine va_callv (va_runIN (As := As) (rest := rest) ⟨hx, hb, hml, hown, (fun w h => htw w h args)⟩ (hM H.size b0) ⟨va_cnB n (fun w h => htw w h args) (gw_good _ w5 rfl) rfl rfl rfl (htw _ w1 #[]) (htw _ w4 args) hd hroom, hy1, htw _ w2 args⟩ ⟨PW_blind, fun U hU hW => ⟨rfl, tw_warm hW htw, by rw [hU], by rw [hU]; exact hPc, va_K.moved hW.alike hK, hDc.weaken (fun _ _ _ h => hA.2.2.1 _ h), SF_step hA.2.1 hW (fun q h1 h2 => by rw [hU]; exact hS.2.1 q h1 (fun h => h2 (hA.2.2.1 q h))), Nat.le_trans hA.2.2.2 hS.1⟩⟩ rfl hn hls hst (lv_room hcat) hdg hcs) hS (fun q _ h => hFc q h) hFc (fun u t H1 locs1 ht hvm hw hB hz1 hk1 hS1 => ?_)
  obtain ⟨hP1, hD1⟩ := hB
  rw [ht] at hP1
  obtain ⟨hP2, hD2⟩ := va_join hP hD isC isR hC hR hnR hdis hk1 hFc hP1 hD1
  exact kk u H1 locs1 hw hP2 hD2 hS1
theorem xcV_r {y : MethodName} {bytes : ByteArray} {maxL n index nL : Nat} {own : String} {rm : Room} {As st0 : List Value} {wc wr : va_W} {post : Nat → va_W → Prop} {rt : FieldType} {b : Addr} (hx : p.tables.exec = Jvm.exec) (hb : c.code = cc) (hml : c.maxLocals = nL) (hown : s.vm.findClass own = some m.cls) (htw : tw s) (hK : va_K D classes (tyl K) s) {b0 : Nat} (hA : AS K s A b0) (hls : ls.size = nL) (hP : va_P D classes ws H) (hD : va_D A ws) (hS : va_S A s.heap H locs) (hM : CR l y bytes maxL rt rm D K (.ref b :: As) wc post) (isC isR : List Nat) (hC : isC.map (fun i => ws[i]?) = wc.map some) (hR : isR.map (fun i => ws[i]?) = wr.map some) (hnC : va_nd isC = true) (hnR : va_nd isR = true) (hdis : ∀ i ∈ isR, i ∉ isC) (q0 : Nat) {ci : Nat} {fs : List Value} {T : u_T} {N : Nat} {ty : Nat → FieldType} (hrecv : wc[q0]? = some (b, .inr (ci, fs))) (hci : CW ci y.cls T N ty) (w1 : Cond.methodLink own index y ∈ gw) (hw : MV y bytes maxL (some rt) n) (hn : As.length = n) (hroom : rm.frames + 1 ≤ R.frames ∧ 8 + (maxL + 11) + rm.locals ≤ R.locals) (hst : st0 = As.reverse ++ .ref b :: rest) (hcat : (rest.map fun v => v.category).sum ≤ 8) (hcs : cells + rm.cells ≤ R.cells ∧ slots + rm.slots ≤ R.slots) (hdg : decode cc pc = .ok (.invokevirtual index, 3))
    (kk : ∀ (r : Nat) (u : va_W) (H1 : Heap) (locs1 : List Loc), post r u → va_P D classes (wr ++ u) H1 → va_D A (wr ++ u) → va_S A s.heap H1 locs1 → W p l e R s m args below meth c H1 locs1 (cells + rm.cells) (slots + rm.slots) Q (F0 m (pc + 3) ls (.ref r :: rest))) : W p l e R s m args below meth c H locs cells slots Q (F0 m pc ls st0) := by
  have hPc := va_Psub hP isC hC
  have hDc := hD.sub isC hnC hC
  have hFc := va_free hD hS hA.1 isC hC
  have hg := gw_goods
  obtain ⟨w2, w3, w4, w5, hd⟩ := hw
  refine va_callr (va_runV (As := As) (rest := rest) ⟨hx, hb, hml, hown, (fun w h => htw w h args)⟩ (hM H.size b0) (cwV n (fun w h => htw w h args) (hg [.methodLink own index y, .instanceMethod y, .selects y.cls y y, .initialized y.cls, .code y bytes maxL (some rt)] (by intro w h; simp only [List.mem_cons, List.not_mem_nil, or_false] at h; rcases h with rfl | rfl | rfl | rfl | rfl <;> assumption) (by intro w h; simp only [List.mem_cons, List.not_mem_nil, or_false] at h; rcases h with rfl | rfl | rfl | rfl | rfl <;> rfl)) rfl rfl rfl ⟨rfl, hd⟩ hroom) ⟨PW_blind, va_recv hK hPc hci.1 hrecv, fun U hU hW => ⟨rfl, tw_warm hW htw, by rw [hU], by rw [hU]; exact hPc, va_K.moved hW.alike hK, hDc.weaken (fun _ _ _ h => hA.2.2.1 _ h), SF_step hA.2.1 hW (fun q h1 h2 => by rw [hU]; exact hS.2.1 q h1 (fun h => h2 (hA.2.2.1 q h))), Nat.le_trans hA.2.2.2 hS.1⟩⟩ rfl hn hls hst (lv_room hcat) hdg hcs) hS (fun q _ h => hFc q h) hFc (fun u ra t H1 locs1 ht hvm hw hB hz1 hk1 hS1 => ?_)
  obtain ⟨rfl, hP1, hD1⟩ := hB
  rw [ht] at hP1
  obtain ⟨hP2, hD2⟩ := va_join hP hD isC isR hC hR hnR hdis hk1 hFc hP1 hD1
  exact kk _ u.2 H1 locs1 hw hP2 hD2 hS1
theorem xcVN_r {y : MethodName} {bytes : ByteArray} {maxL n index nL : Nat} {own host : String} {rm : Room} {As st0 : List Value} {wc wr : va_W} {post : Nat → va_W → Prop} {rt : FieldType} {b : Addr} (hx : p.tables.exec = Jvm.exec) (hb : c.code = cc) (hml : c.maxLocals = nL) (hown : s.vm.findClass own = some m.cls) (htw : tw s) (hK : va_K D classes (tyl K) s) {b0 : Nat} (hA : AS K s A b0) (hls : ls.size = nL) (hP : va_P D classes ws H) (hD : va_D A ws) (hS : va_S A s.heap H locs) (hM : CR l y bytes maxL rt rm D K (.ref b :: As) wc post) (isC isR : List Nat) (hC : isC.map (fun i => ws[i]?) = wc.map some) (hR : isR.map (fun i => ws[i]?) = wr.map some) (hnC : va_nd isC = true) (hnR : va_nd isR = true) (hdis : ∀ i ∈ isR, i ∉ isC) (q0 : Nat) {ci : Nat} {fs : List Value} {T : u_T} {N : Nat} {ty : Nat → FieldType} (hrecv : wc[q0]? = some (b, .inr (ci, fs))) (hci : CW ci y.cls T N ty) (w1 : Cond.methodLinkNest own index y host ∈ gw) (hw : MV y bytes maxL (some rt) n) (hn : As.length = n) (hroom : rm.frames + 1 ≤ R.frames ∧ 8 + (maxL + 11) + rm.locals ≤ R.locals) (hst : st0 = As.reverse ++ .ref b :: rest) (hcat : (rest.map fun v => v.category).sum ≤ 8) (hcs : cells + rm.cells ≤ R.cells ∧ slots + rm.slots ≤ R.slots) (hdg : decode cc pc = .ok (.invokevirtual index, 3))
    (kk : ∀ (r : Nat) (u : va_W) (H1 : Heap) (locs1 : List Loc), post r u → va_P D classes (wr ++ u) H1 → va_D A (wr ++ u) → va_S A s.heap H1 locs1 → W p l e R s m args below meth c H1 locs1 (cells + rm.cells) (slots + rm.slots) Q (F0 m (pc + 3) ls (.ref r :: rest))) : W p l e R s m args below meth c H locs cells slots Q (F0 m pc ls st0) := by
  have hPc := va_Psub hP isC hC
  have hDc := hD.sub isC hnC hC
  have hFc := va_free hD hS hA.1 isC hC
  have hg := gw_goods
  obtain ⟨w2, w3, w4, w5, hd⟩ := hw
  refine va_callr (va_runVN (As := As) (rest := rest) ⟨hx, hb, hml, hown, (fun w h => htw w h args)⟩ (hM H.size b0) ⟨va_cnB n (fun w h => htw w h args) (gw_good _ w5 rfl) rfl rfl rfl (htw _ w1 #[]) (htw _ w4 args) hd hroom, htw _ w2 args, htw _ w3 args⟩ ⟨PW_blind, va_recv hK hPc hci.1 hrecv, fun U hU hW => ⟨rfl, tw_warm hW htw, by rw [hU], by rw [hU]; exact hPc, va_K.moved hW.alike hK, hDc.weaken (fun _ _ _ h => hA.2.2.1 _ h), SF_step hA.2.1 hW (fun q h1 h2 => by rw [hU]; exact hS.2.1 q h1 (fun h => h2 (hA.2.2.1 q h))), Nat.le_trans hA.2.2.2 hS.1⟩⟩ rfl hn hls hst (lv_room hcat) hdg hcs) hS (fun q _ h => hFc q h) hFc (fun u ra t H1 locs1 ht hvm hw hB hz1 hk1 hS1 => ?_)
  obtain ⟨rfl, hP1, hD1⟩ := hB
  rw [ht] at hP1
  obtain ⟨hP2, hD2⟩ := va_join hP hD isC isR hC hR hnR hdis hk1 hFc hP1 hD1
  exact kk _ u.2 H1 locs1 hw hP2 hD2 hS1
theorem xcS_r {y : MethodName} {bytes : ByteArray} {maxL n index nL : Nat} {own : String} {rm : Room} {As st0 : List Value} {wc wr : va_W} {post : Nat → va_W → Prop} {rt : FieldType} (hx : p.tables.exec = Jvm.exec) (hb : c.code = cc) (hml : c.maxLocals = nL) (hown : s.vm.findClass own = some m.cls) (htw : tw s) (hK : va_K D classes (tyl K) s) {b0 : Nat} (hA : AS K s A b0) (hls : ls.size = nL) (hP : va_P D classes ws H) (hD : va_D A ws) (hS : va_S A s.heap H locs) (hM : CR l y bytes maxL rt rm D K As wc post) (isC isR : List Nat) (hC : isC.map (fun i => ws[i]?) = wc.map some) (hR : isR.map (fun i => ws[i]?) = wr.map some) (hnC : va_nd isC = true) (hnR : va_nd isR = true) (hdis : ∀ i ∈ isR, i ∉ isC) (w1 : Cond.methodLink own index y ∈ gw) (hw : MS y bytes maxL (some rt) n) (hn : As.length = n) (hroom : rm.frames + 1 ≤ R.frames ∧ 8 + (maxL + 11) + rm.locals ≤ R.locals) (hst : st0 = As.reverse ++ rest) (hcat : (rest.map fun v => v.category).sum ≤ 8) (hcs : cells + rm.cells ≤ R.cells ∧ slots + rm.slots ≤ R.slots) (hdg : decode cc pc = .ok (.invokestatic index, 3))
    (kk : ∀ (r : Nat) (u : va_W) (H1 : Heap) (locs1 : List Loc), post r u → va_P D classes (wr ++ u) H1 → va_D A (wr ++ u) → va_S A s.heap H1 locs1 → W p l e R s m args below meth c H1 locs1 (cells + rm.cells) (slots + rm.slots) Q (F0 m (pc + 3) ls (.ref r :: rest))) : W p l e R s m args below meth c H locs cells slots Q (F0 m pc ls st0) := by
  have hPc := va_Psub hP isC hC
  have hDc := hD.sub isC hnC hC
  have hFc := va_free hD hS hA.1 isC hC
  have hg := gw_goods
  obtain ⟨w2, w4, w5, hd⟩ := hw
  refine va_callr (va_runS (As := As) (rest := rest) ⟨hx, hb, hml, hown, (fun w h => htw w h args)⟩ (hM H.size b0) (va_cwS n (fun w h => htw w h args) (hg [.methodLink own index y, .static y, .initialized y.cls, .code y bytes maxL (some rt)] (by intro w h; simp only [List.mem_cons, List.not_mem_nil, or_false] at h; rcases h with rfl | rfl | rfl | rfl <;> assumption) (by intro w h; simp only [List.mem_cons, List.not_mem_nil, or_false] at h; rcases h with rfl | rfl | rfl | rfl <;> rfl)) rfl rfl rfl hd hroom) ⟨PW_blind, fun U hU hW => ⟨rfl, tw_warm hW htw, by rw [hU], by rw [hU]; exact hPc, va_K.moved hW.alike hK, hDc.weaken (fun _ _ _ h => hA.2.2.1 _ h), SF_step hA.2.1 hW (fun q h1 h2 => by rw [hU]; exact hS.2.1 q h1 (fun h => h2 (hA.2.2.1 q h))), Nat.le_trans hA.2.2.2 hS.1⟩⟩ rfl hn hls hst (lv_room hcat) hdg hcs) hS (fun q _ h => hFc q h) hFc (fun u ra t H1 locs1 ht hvm hw hB hz1 hk1 hS1 => ?_)
  obtain ⟨rfl, hP1, hD1⟩ := hB
  rw [ht] at hP1
  obtain ⟨hP2, hD2⟩ := va_join hP hD isC isR hC hR hnR hdis hk1 hFc hP1 hD1
  exact kk _ u.2 H1 locs1 hw hP2 hD2 hS1
theorem xcSN_r {y : MethodName} {bytes : ByteArray} {maxL n index nL : Nat} {own host : String} {rm : Room} {As st0 : List Value} {wc wr : va_W} {post : Nat → va_W → Prop} {rt : FieldType} (hx : p.tables.exec = Jvm.exec) (hb : c.code = cc) (hml : c.maxLocals = nL) (hown : s.vm.findClass own = some m.cls) (htw : tw s) (hK : va_K D classes (tyl K) s) {b0 : Nat} (hA : AS K s A b0) (hls : ls.size = nL) (hP : va_P D classes ws H) (hD : va_D A ws) (hS : va_S A s.heap H locs) (hM : CR l y bytes maxL rt rm D K As wc post) (isC isR : List Nat) (hC : isC.map (fun i => ws[i]?) = wc.map some) (hR : isR.map (fun i => ws[i]?) = wr.map some) (hnC : va_nd isC = true) (hnR : va_nd isR = true) (hdis : ∀ i ∈ isR, i ∉ isC) (w1 : Cond.methodLinkNest own index y host ∈ gw) (hw : MS y bytes maxL (some rt) n) (hn : As.length = n) (hroom : rm.frames + 1 ≤ R.frames ∧ 8 + (maxL + 11) + rm.locals ≤ R.locals) (hst : st0 = As.reverse ++ rest) (hcat : (rest.map fun v => v.category).sum ≤ 8) (hcs : cells + rm.cells ≤ R.cells ∧ slots + rm.slots ≤ R.slots) (hdg : decode cc pc = .ok (.invokestatic index, 3))
    (kk : ∀ (r : Nat) (u : va_W) (H1 : Heap) (locs1 : List Loc), post r u → va_P D classes (wr ++ u) H1 → va_D A (wr ++ u) → va_S A s.heap H1 locs1 → W p l e R s m args below meth c H1 locs1 (cells + rm.cells) (slots + rm.slots) Q (F0 m (pc + 3) ls (.ref r :: rest))) : W p l e R s m args below meth c H locs cells slots Q (F0 m pc ls st0) := by
  have hPc := va_Psub hP isC hC
  have hDc := hD.sub isC hnC hC
  have hFc := va_free hD hS hA.1 isC hC
  have hg := gw_goods
  obtain ⟨w2, w4, w5, hd⟩ := hw
  refine va_callr (va_runSN (As := As) (rest := rest) ⟨hx, hb, hml, hown, (fun w h => htw w h args)⟩ (hM H.size b0) ⟨va_cnB n (fun w h => htw w h args) (gw_good _ w5 rfl) rfl rfl rfl (htw _ w1 #[]) (htw _ w4 args) hd hroom, htw _ w2 args, trivial⟩ ⟨PW_blind, fun U hU hW => ⟨rfl, tw_warm hW htw, by rw [hU], by rw [hU]; exact hPc, va_K.moved hW.alike hK, hDc.weaken (fun _ _ _ h => hA.2.2.1 _ h), SF_step hA.2.1 hW (fun q h1 h2 => by rw [hU]; exact hS.2.1 q h1 (fun h => h2 (hA.2.2.1 q h))), Nat.le_trans hA.2.2.2 hS.1⟩⟩ rfl hn hls hst (lv_room hcat) hdg hcs) hS (fun q _ h => hFc q h) hFc (fun u ra t H1 locs1 ht hvm hw hB hz1 hk1 hS1 => ?_)
  obtain ⟨rfl, hP1, hD1⟩ := hB
  rw [ht] at hP1
  obtain ⟨hP2, hD2⟩ := va_join hP hD isC isR hC hR hnR hdis hk1 hFc hP1 hD1
  exact kk _ u.2 H1 locs1 hw hP2 hD2 hS1
end XCALL

/-! the law's methods with an exception table -/
abbrev tabOf (c : Code) : List (Nat × Nat × Nat × Nat) := c.exceptionTable.toList.map (fun h => (h.startPc, h.endPc, h.handlerPc, h.catchType))
def CIt (l : Launch) (y : MethodName) (cc : ByteArray) (maxL : Nat) (ret : FieldType) (hh : List (Nat × Nat × Nat × Nat)) (rm : Room) (D : va_G) (K : Nat → ClassId) (av : List Value) (ws : va_W) (post : Int32 → va_W → Prop) : Prop := ∀ sz b0 : Nat, Met l y [Cond.codeWith y cc maxL (some ret) hh] rm (PW D K sz b0 ws av) (va_Qi post (fun u t => va_P D classes u t.heap ∧ va_D (va_A ws sz) u) (va_A ws sz)) rm.cells rm.slots (va_A ws sz)
theorem CIt_of {l : Launch} {y : MethodName} {cc : ByteArray} {maxL : Nat} {ret : FieldType} {hh : List (Nat × Nat × Nat × Nat)} {rm : Room} {D : va_G} {K : Nat → ClassId} {av : List Value} {ws : va_W} {post : Int32 → va_W → Prop} (hy : plainName y.cls = true) (hn : (lg_sl av).length ≤ maxL)
    (body : ∀ (p : Program) (e : Env) (s : State) (m : MethodId) (below : List Frame) (meth : Method) (c : Code) (A : Nat → Prop) (b0 : Nat) (ls : Array Slot), Fx p s m meth c y cc maxL (some ret) D K → AS K s A b0 → tabOf c = hh → va_P D classes ws s.heap → va_D A ws → lv_has ls maxL (lv_args 0 av) → W p l e rm s m av.toArray below meth c s.heap [] 0 0 (MQ below (va_Qi post (fun u t => va_P D classes u t.heap ∧ va_D A u) A) av.toArray s rm.cells rm.slots A) (F0 m 0 ls [])) : CIt l y cc maxL ret hh rm D K av ws post := by
  intro sz b0
  refine va_MetW (cc := cc) (maxL := maxL) (ret := some ret) (hh := hh) hy rfl ?_
  intro p e s m args below meth c s₁ B hml hv
  obtain ⟨rfl, htw, rfl, hP, hK, hD0, hSF, hb0⟩ := hv
  have hD := hD0.self (sz := s.heap.size)
  have hA : AS K s (va_A ws s.heap.size) b0 := ⟨fun q h => Or.inr h, hSF, fun q h => h.elim (fun ⟨k, e, hk⟩ => hD0.2 k _ hk) (fun h => Nat.le_trans hb0 h), hb0⟩
  have htab : tabOf c = hh := by
    obtain ⟨m9, meth9, c9, hn9, hm9, hc9, -, -, htab, -⟩ := Cond.codeWith_spec (atoms_spec (ws := [Cond.codeWith y cc maxL (some ret) hh]) B.pre _ List.mem_cons_self)
    cases B.named.symm.trans hn9
    cases B.method.symm.trans hm9
    cases hc9.symm.trans (Stand.of_body B).code
    exact htab
  rw [lg_entry_eq]
  exact body p e s m below meth c _ b0 _ ⟨B.exec, B.bytes, B.returns, hml, findClass_of_methodNamed B.named, htw, hK, B.notSynchronized, (name_of_methodNamed B.named B.method).1⟩ hA htab hP hD (lv_entry av hn)
def MSw (y : MethodName) (bytes : ByteArray) (maxL : Nat) (ret : Option FieldType) (hh : List (Nat × Nat × Nat × Nat)) (n : Nat) : Prop := Cond.static y ∈ gw ∧ Cond.initialized y.cls ∈ gw ∧ Cond.codeWith y bytes maxL ret hh ∈ gw ∧ (y.cls ≠ "java/lang/invoke/MethodHandle" ∧ y.cls ≠ "java/lang/invoke/VarHandle" ∧ (parseMethodDescriptor y.desc).map (fun d => d.parameters.length) = some n)
section RUNSW
variable {p : Program} {l : Launch} {e : Env} {R : Room} {s : State} {m : MethodId} {args : Array Value} {below : List Frame} {meth : Method} {c : Code} {H : Heap} {locs : List Loc} {cells slots : Nat} {Q : State → Prop}
theorem runSW {y : MethodName} {bytes cc : ByteArray} {maxL nL mc ms n index : Nat} {ret : Option FieldType} {hh : List (Nat × Nat × Nat × Nat)} {ws : List Cond} {rm : Room} {Pc : Array Value → State → Prop} {Qc : Array Value → State → Outcome → State → Prop} {free : Addr → Prop} {own : String} {As rest : List Value} {g : JFrame}
    (hx : p.tables.exec = Jvm.exec) (hb : c.code = cc) (hml : c.maxLocals = nL) (ho : s.vm.findClass own = some m.cls) (hM : Met l y ws rm Pc Qc mc ms free) (hrc : rm.cells = mc) (hrs : rm.slots = ms) (hfr : rm.frames + 1 ≤ R.frames) (hlo : 8 + (maxL + 11) + rm.locals ≤ R.locals) (hws : ∀ w ∈ ws, ∀ (a' : Array Value) (U : State), s.WarmedH U.vm → w.before a' U = true) (hcw : Cond.codeWith y bytes maxL ret hh ∈ ws)
    (hcode : (Cond.codeWith y bytes maxL ret hh).before args s = true) (hini : (Cond.initialized y.cls).before args s = true) (hy : y.cls ≠ "java/lang/invoke/MethodHandle" ∧ y.cls ≠ "java/lang/invoke/VarHandle") (hlen : ∀ sig, parseMethodDescriptor y.desc = some sig → n = sig.parameters.length) (hl : (Cond.methodLink own index y).before args s = true) (hstt : (Cond.static y).before args s = true) (hp : PreS s H Pc As)
    (hg : g.method = m) (hn : As.length = n) (hsize : g.locals.size = nL) (hstack : g.stack = As.reverse ++ rest) (hW : 2 * g.monitorRoom + (rest.map fun v => v.category).sum ≤ 8) (hdg : decode cc g.pc = .ok (.invokestatic index, 3)) (hf : cells + mc ≤ R.cells ∧ slots + ms ≤ R.slots) :
    va_Run p l e R s m args below meth c H locs cells slots mc ms g rest (Qc As.toArray) (free) := by
  have hK : Back l R p e below s args y 3 8 (PreOf R mc ms Pc) (PostOf Qc mc ms free) := va_backW (hh := hh) (bytes := bytes) (maxL := maxL) (ret := ret) hM hp.1 hrc hrs hfr hlo hws hcw (fun a' U hW => word_at hW (Or.inl (by first | rfl | simp [Cond.onTables, Cond.keeps, Cond.steady])) hini)
  intro T hT X
  obtain ⟨mk, methM, cM, hnamed, hmethM, -, -, -, -, -, -, hsigM⟩ := Cond.codeWith_spec hcode
  have hstatic : methM.isStatic = true := Cond.static_spec hnamed hmethM hstt
  obtain ⟨kP, hkP, -⟩ := className_of_methodNamed hnamed
  have hinitP : kP.init = .initialized := Cond.initialized_spec (findClass_of_methodNamed hnamed) hkP hini
  obtain ⟨vm₁, X₁, hstep₁⟩ := X.invokestatic hx ho hl hnamed hmethM hstatic hkP hinitP hy (g := g) hg (argsL := As) (rest := rest) (hn.trans (hlen _ hsigM)) hstack (by rw [hb]; exact hdg)
  obtain ⟨v, ⟨U', l2, c2, s2⟩, X', ⟨g', mk', t, L, e1, e2, hq, h1, hL, h2, h3⟩, hsteps⟩ := hK m meth c ⟨T.setVm vm₁, locs, cells, slots⟩ { g with stack := rest } (.invokestatic index) mk As.toArray X₁ hg (hsize.trans hml.symm) (by rw [hb]; exact hdg) hW (X₁.named hnamed) ⟨hf.1, hf.2, hp.2 (T.setVm vm₁) hT X₁.warmed⟩
  dsimp only [Pt.U, Pt.locs, Pt.cells, Pt.slots] at X' e1 e2 h1 h2 h3 hsteps
  subst h1; subst h2; subst h3
  exact ⟨v, (T.setVm vm₁).calling g' mk' As.toArray, t, U', L, hT, X', hL, e1, e2, hq, fun target h => hstep₁ _ fun acts => by rw [doInvoke_state]; exact hsteps.trans h⟩
end RUNSW
section XCALLW
variable {p : Program} {l : Launch} {e : Env} {R : Room} {s : State} {m : MethodId} {args : Array Value} {below : List Frame} {meth : Method} {c : Code} {H : Heap} {locs : List Loc} {cells slots : Nat} {Q : State → Prop}
variable {cc : ByteArray} {pc : Nat} {ls : Array Slot} {rest : List Value} {D : va_G} {K : Nat → ClassId} {A : Nat → Prop} {a : Nat} {ws : va_W}
theorem xcSW_i {y : MethodName} {bytes : ByteArray} {maxL n index nL : Nat} {own : String} {rm : Room} {hh : List (Nat × Nat × Nat × Nat)} {As st0 : List Value} {wc wr : va_W} {post : Int32 → va_W → Prop} {rt : FieldType} (hx : p.tables.exec = Jvm.exec) (hb : c.code = cc) (hml : c.maxLocals = nL) (hown : s.vm.findClass own = some m.cls) (htw : tw s) (hK : va_K D classes (tyl K) s) {b0 : Nat} (hA : AS K s A b0) (hls : ls.size = nL) (hP : va_P D classes ws H) (hD : va_D A ws) (hS : va_S A s.heap H locs) (hM : CIt l y bytes maxL rt hh rm D K As wc post) (isC isR : List Nat) (hC : isC.map (fun i => ws[i]?) = wc.map some) (hR : isR.map (fun i => ws[i]?) = wr.map some) (hnC : va_nd isC = true) (hnR : va_nd isR = true) (hdis : ∀ i ∈ isR, i ∉ isC) (w1 : Cond.methodLink own index y ∈ gw) (hw : MSw y bytes maxL (some rt) hh n) (hn : As.length = n) (hroom : rm.frames + 1 ≤ R.frames ∧ 8 + (maxL + 11) + rm.locals ≤ R.locals) (hst : st0 = As.reverse ++ rest) (hcat : (rest.map fun v => v.category).sum ≤ 8) (hcs : cells + rm.cells ≤ R.cells ∧ slots + rm.slots ≤ R.slots) (hdg : decode cc pc = .ok (.invokestatic index, 3))
    (kk : ∀ (r : Int32) (u : va_W) (H1 : Heap) (locs1 : List Loc), post r u → va_P D classes (wr ++ u) H1 → va_D A (wr ++ u) → va_S A s.heap H1 locs1 → W p l e R s m args below meth c H1 locs1 (cells + rm.cells) (slots + rm.slots) Q (F0 m (pc + 3) ls (.int r :: rest))) : W p l e R s m args below meth c H locs cells slots Q (F0 m pc ls st0) := by
  have hPc := va_Psub hP isC hC
  have hDc := hD.sub isC hnC hC
  have hFc := va_free hD hS hA.1 isC hC
  obtain ⟨w2, w4, w5, hd1, hd2, hd3⟩ := hw
  have hws : ∀ w ∈ [Cond.codeWith y bytes maxL (some rt) hh], ∀ (a' : Array Value) (U : State), s.WarmedH U.vm → w.before a' U = true := by
    intro w hw a' U hW
    rw [List.mem_singleton] at hw
    subst hw
    exact tw_warm hW htw _ w5 a'
  refine va_calli (runSW (As := As) (rest := rest) (hh := hh) (bytes := bytes) (maxL := maxL) (ret := some rt) (n := n) hx hb hml hown (hM H.size b0) rfl rfl hroom.1 hroom.2 hws List.mem_cons_self (htw _ w5 args) (htw _ w4 args) ⟨hd1, hd2⟩ (fun sig h => by rw [h] at hd3; exact (Option.some.inj hd3).symm) (htw _ w1 args) (htw _ w2 args) ⟨PW_blind, fun U hU hW => ⟨rfl, tw_warm hW htw, by rw [hU], by rw [hU]; exact hPc, va_K.moved hW.alike hK, hDc.weaken (fun _ _ _ h => hA.2.2.1 _ h), SF_step hA.2.1 hW (fun q h1 h2 => by rw [hU]; exact hS.2.1 q h1 (fun h => h2 (hA.2.2.1 q h))), Nat.le_trans hA.2.2.2 hS.1⟩⟩ rfl hn hls hst (lv_room hcat) hdg hcs) hS (fun q _ h => hFc q h) hFc (fun r u t H1 locs1 ht hvm hw hB hz1 hk1 hS1 => ?_)
  obtain ⟨hP1, hD1⟩ := hB
  rw [ht] at hP1
  obtain ⟨hP2, hD2⟩ := va_join hP hD isC isR hC hR hnR hdis hk1 hFc hP1 hD1
  exact kk r u H1 locs1 hw hP2 hD2 hS1
theorem xthV {y : MethodName} {bytes : ByteArray} {maxL n index nL hpc : Nat} {own C : String} {rm : Room} {As st0 : List Value} {wc wr : va_W} {post : va_W → Prop} {ret : Option FieldType} {b : Addr} (hx : p.tables.exec = Jvm.exec) (hb : c.code = cc) (hml : c.maxLocals = nL) (hown : s.vm.findClass own = some m.cls) (htw : tw s) (hK : va_K D classes (tyl K) s) {b0 : Nat} (hA : AS K s A b0) (hls : ls.size = nL) (hP : va_P D classes ws H) (hD : va_D A ws) (hS : va_S A s.heap H locs) (hM : CT l y bytes maxL ret rm D K (.ref b :: As) wc C post) (isC isR : List Nat) (hC : isC.map (fun i => ws[i]?) = wc.map some) (hR : isR.map (fun i => ws[i]?) = wr.map some) (hnC : va_nd isC = true) (hnR : va_nd isR = true) (hdis : ∀ i ∈ isR, i ∉ isC) (q0 : Nat) {ci : Nat} {fs : List Value} {T9 : u_T} {N9 : Nat} {ty : Nat → FieldType} (hrecv : wc[q0]? = some (b, .inr (ci, fs))) (hci : CW ci y.cls T9 N9 ty) (w1 : Cond.methodLink own index y ∈ gw) (hw : MV y bytes maxL ret n) (hn : As.length = n) (hroom : rm.frames + 1 ≤ R.frames ∧ 8 + (maxL + 11) + rm.locals ≤ R.locals) (hst : st0 = As.reverse ++ .ref b :: rest) (hcat : (rest.map fun v => v.category).sum ≤ 8) (hcs : cells + rm.cells ≤ R.cells ∧ slots + rm.slots ≤ R.slots) (hdg : decode cc pc = .ok (.invokevirtual index, 3))
    (hcatch : ∀ (T : State) (x : Addr) (ce : Cell) (locs1 : List Loc) (c1 s1 : Nat), Stand p l e R s m args below meth c T locs1 c1 s1 → T.heap[x]? = some ce → s.vm.findClass C = some ce.cls → ce.vm = .none → ∃ vm', Stand p l e R s m args below meth c (T.setVm vm') locs1 c1 s1 ∧ ∀ target, Steps p.tables e below ((T.setVm vm').setTop (F0 m hpc ls [.ref x])) target → Steps p.tables e below (T.setFrames (.throwing x :: .java (F0 m pc ls rest) :: below)) target)
    (kk : ∀ (x : Nat) (u : va_W) (H1 : Heap) (locs1 : List Loc), post u → va_P D classes (wr ++ u) H1 → va_D A (wr ++ u) → va_S A s.heap H1 locs1 → W p l e R s m args below meth c H1 locs1 (cells + rm.cells) (slots + rm.slots) Q (F0 m hpc ls [.ref x])) : W p l e R s m args below meth c H locs cells slots Q (F0 m pc ls st0) := by
  have hPc := va_Psub hP isC hC
  have hDc := hD.sub isC hnC hC
  have hFc := va_free hD hS hA.1 isC hC
  obtain ⟨w2, w3, w4, w5, hd1, hd2, hd3⟩ := hw
  have hpre : ∀ U : State, U.heap = H → s.WarmedH U.vm → PW D K H.size b0 wc (.ref b :: As) (Value.ref b :: As).toArray U := fun U hU hW => ⟨rfl, tw_warm hW htw, by rw [hU], by rw [hU]; exact hPc, va_K.moved hW.alike hK, hDc.weaken (fun _ _ _ h => hA.2.2.1 _ h), SF_step hA.2.1 hW (fun q h1 h2 => by rw [hU]; exact hS.2.1 q h1 (fun h => h2 (hA.2.2.1 q h))), Nat.le_trans hA.2.2.2 hS.1⟩
  intro T hT X
  obtain ⟨mk, methM, hnamed, hmethM, hstM, habM⟩ := Cond.instanceMethod_spec (htw _ w2 args)
  obtain ⟨methM', cM, hmethM', -, -, -, -, -, -, hsigM⟩ := Cond.code_spec hnamed (htw _ w5 args)
  cases hmethM.symm.trans hmethM'
  obtain ⟨cellB, hcB, hoB, hclB⟩ := va_recv hK hPc hci.1 hrecv
  obtain ⟨c2, r2, m2, q1, q2, q3, q4, kP, hkP, hkPi⟩ := Cond.selects_spec (htw _ w3 args)
  cases hclB.symm.trans q1
  cases (State.methodFound?_of_named hnamed ⟨hd1, hd2⟩).symm.trans q2
  cases hnamed.symm.trans q3
  have hselP : selectMethod e.platform s.vm cellB.cls mk = .method mk := by rw [Launch.admits_selectMethod X.admits]; exact q4
  have hlen : As.length = methM.sig.parameters.length := by
    rw [hsigM] at hd3
    exact hn.trans (Option.some.inj hd3).symm
  obtain ⟨vm₁, X₁, hstep₁⟩ := X.invokevirtual hx hown (htw _ w1 args) hnamed hmethM hstM hkP hkPi ⟨hd1, hd2⟩ (a := b) (cell := cellB) (by rw [hT]; exact hcB) (fun z h => by rw [h] at hoB; cases hoB) hselP hmethM habM hkP hkPi (g := F0 m pc ls st0) rfl (argsL := As) (rest := rest) hlen hst (by rw [hb]; exact hdg)
  have htw1 : tw (T.setVm vm₁) := tw_warm X₁.warmed htw
  have hn1 := X₁.named hnamed
  obtain ⟨methY, cY, hmY, hcY, -, hlY, -⟩ := Cond.code_spec hn1 (htw1 _ w5 (Value.ref b :: As).toArray)
  obtain ⟨kY, hkY, -⟩ := className_of_methodNamed hn1
  have hinitY : kY.init = .initialized := Cond.initialized_spec (findClass_of_methodNamed hn1) hkY (htw1 _ w4 (Value.ref b :: As).toArray)
  have hlr : 2 * (F0 m pc ls rest).monitorRoom + ((F0 m pc ls rest).stack.map fun v => v.category).sum ≤ 8 := lv_room (m := m) (pc := pc) (ls := ls) (rest := rest) hcat
  have happ : (headSpec [Cond.code y bytes maxL ret] rm).appliesLoose y e.platform ((T.setVm vm₁).calling (F0 m pc ls rest) mk (Value.ref b :: As).toArray) = true :=
    Spec.appliesLoose_calling (g := F0 m pc ls rest) X₁.here (by rw [hb]; exact hdg) hn1 hkY hinitY
      (X₁.room_calling (g := F0 m pc ls rest) (R' := rm) (hls.trans hml.symm) hmY hcY hroom.1 (by rw [hlY]; have := hroom.2; omega) hcs.1 hcs.2) (atoms_intro fun w hw => by rw [List.mem_singleton] at hw; subst hw; exact htw1 _ w5 _)
  obtain ⟨mid, hmid⟩ := X₁.here.above
  have hfr : ((T.setVm vm₁).setTop (F0 m pc ls rest)).frames = (.java (F0 m pc ls rest) :: mid) ++ below := by rw [State.frames_setTop' (F0 m pc ls rest) X₁.here.top, hmid]; rfl
  obtain ⟨o, s₂, hsteps, -, hend, hq⟩ := Steps.callFree (show MetFree _ _ _ _ _ _ from hM H.size b0) p X₁.admits X₁.cas X₁.clock (acts := []) hfr happ (PW_blind _ _ _ _ (hpre (T.setVm vm₁) hT X₁.warmed)) trivial
  obtain ⟨x, rfl, ⟨⟨u, hpu, hPu, hDu, ce, hce, hcls, hvm⟩, hz, hk⟩, L, hWL, hsame, hL⟩ := hq
  rw [State.frames_setTop' (F0 m pc ls rest) X₁.here.top, X₁.tail] at hend
  obtain ⟨T', X', hW', hsame', ht⟩ := X₁.outOfThrown (g := F0 m pc ls rest) rfl hend hWL hsame
  have e1 : T'.heap = s₂.heap := by rw [ht]; rfl
  have e2 : T'.vm = s₂.vm := by rw [ht]; rfl
  have hcls2 : s.vm.findClass C = some ce.cls := by
    rw [← X'.warmed.alike.findClass, e2]
    exact hcls
  obtain ⟨vm', X'', hst2⟩ := hcatch T' x ce _ _ _ X' (by rw [e1]; exact hce) hcls2 hvm
  have hz : H.size ≤ s₂.heap.size := by rw [← hT]; exact hz
  have hk : ∀ q : Nat, q < H.size → ¬ va_A wc H.size q → s₂.heap[q]? = H[q]? := by
    intro q h1 h2
    have := hk q (by show q < T.heap.size; rw [hT]; exact h1) h2
    refine this.trans ?_
    show T.heap[q]? = _
    rw [hT]
  obtain ⟨hP2, hD2⟩ := va_join hP hD isC isR hC hR hnR hdis hk hFc hPu hDu
  obtain ⟨t2, a1, b1⟩ := kk x u T'.heap (locs ++ L) hpu (by rw [e1]; exact hP2) hD2 ⟨Nat.le_trans hS.1 (by rw [e1]; exact hz), fun q h1 h2 => by rw [e1, hk q (Nat.lt_of_lt_of_le h1 hS.1) (fun z => h2 (hFc q z))]; exact hS.2.1 q h1 h2, fun q hq => by
      rcases List.mem_append.mp hq with h | h
      · exact hS.2.2 q h
      · exact hFc _ (hL q h)⟩ (T'.setVm vm') rfl X''
  refine ⟨t2, hstep₁ _ fun acts => ?_, b1⟩
  rw [doInvoke_state]
  refine hsteps.trans ?_
  rw [ht, X'.pushThrowing_eq]
  exact hst2 _ a1
end XCALLW
section CAUGHT

theorem go_no {Q : Handler → Jvm.Pre} {E : Jvm.CtlPost} {e : Env} {d : Bool} {acts : List Action} {s : State} {f : JFrame} {a : Addr} {x : ExceptionTableEntry} {t : List ExceptionTableEntry} {c : ClassId} {cell : Cell} (hx : covers x f.pc = true) (h0 : x.catchType ≠ 0)
    (hl : s.vm.ClassLinks e.platform f.method.cls x.catchType c) (hcell : s.heap[a]? = some cell) (hobj : ∀ k, cell.vm ≠ .statics k)
    (hk : ∃ k, s.vm.classes[cell.cls]? = some k) (hc : ∃ k, s.vm.classes[c]? = some k) (hfit : s.vm.assignable cell.cls c = false) :
    Sem.wp (findHandler.go f a (x :: t)) Q E e d acts s ↔ Sem.wp (findHandler.go f a t) Q E e d acts (s.setVm (s.vm.noted f.method.cls x.catchType (.cls c))) := by
  simp only [covers] at hx
  obtain ⟨ha, ht⟩ := (resolveClass_links e.toSetting hl).op (op := VmOp.resolveClass f.method.cls x.catchType) rfl
  have hal : s.vm.Alike (s.vm.noted f.method.cls x.catchType (.cls c)) := (Vm.Alike.refl s.vm).noted _ _ _
  obtain ⟨k1, hk1⟩ := hk
  obtain ⟨k2, hk2⟩ := hc
  obtain ⟨k1', hk1', -⟩ := hal.2.2 _ _ hk1
  obtain ⟨k2', hk2', -⟩ := hal.2.2 _ _ hk2
  have hfit' : (s.vm.noted f.method.cls x.catchType (.cls c)).assignable cell.cls c = false := by rw [hal.assignable]; exact hfit
  simp [findHandler.go, hx, h0, ha, ht, hcell, hobj, hk1', hk2', hfit', VmOp.dirties, VmOp.acts]
theorem caught2 {p : Program} {l : Launch} {e : Env} {R : Room} {s : State} {m₀ : MethodId} {args : Array Value} {below : List Frame} {meth : Method} {c : Code} {T : State} {locs : List Loc} {cells slots : Nat} (X : Stand p l e R s m₀ args below meth c T locs cells slots) (a : Addr) {g : JFrame} (hg : g.method = m₀) {own name1 name2 : String} (hown : s.vm.findClass own = some m₀.cls)
    (x1 x2 : ExceptionTableEntry) (rest : List ExceptionTableEntry) (hsplit : c.exceptionTable.toList = x1 :: x2 :: rest) (hx1 : covers x1 g.pc = true) (hx2 : covers x2 g.pc = true) (h01 : x1.catchType ≠ 0) (h02 : x2.catchType ≠ 0)
    (hlink1 : (Cond.classLink own x1.catchType name1).before args s = true) (hlink2 : (Cond.classLink own x2.catchType name2).before args s = true) {cT1 cT2 : ClassId} {cell : Cell} (hcT1 : s.vm.findClass name1 = some cT1) (hcT2 : s.vm.findClass name2 = some cT2) (hcell : T.heap[a]? = some cell) (hobj : cell.vm.isStatics = false) (hno : s.vm.assignable cell.cls cT1 = false) (hfit : s.vm.assignable cell.cls cT2 = true) :
    ∃ vm', Stand p l e R s m₀ args below meth c (T.setVm vm') locs cells slots ∧
      ∀ target, Steps p.tables e below ((T.setVm vm').setTop { g with pc := x2.handlerPc, stack := [.ref a] }) target → Steps p.tables e below (T.setFrames (.throwing a :: .java g :: below)) target := by
  have hpl : e.platform.magicAccessors = ({} : Platform).magicAccessors := by rw [X.admits.platform]
  obtain ⟨c1', hc1', hcl1⟩ := Cond.classLink_spec hown hlink1 e.platform hpl
  cases hcT1.symm.trans hc1'
  obtain ⟨c2', hc2', hcl2⟩ := Cond.classLink_spec hown hlink2 e.platform hpl
  cases hcT2.symm.trans hc2'
  obtain ⟨dk1, _, _, kt1, hd1, _, _, _, _, hkt1, _, hop1⟩ := hcl1.here
  obtain ⟨dk2, _, _, kt2, hd2, _, _, _, _, hkt2, _, hop2⟩ := hcl2.here
  have hW1 : s.WarmedH (T.vm.noted m₀.cls x1.catchType (.cls cT1)) := X.warmed.noted hd1 hop1 (State.rightAt_cls hcl1)
  have hW2 : s.WarmedH ((T.vm.noted m₀.cls x1.catchType (.cls cT1)).noted m₀.cls x2.catchType (.cls cT2)) := hW1.noted hd2 hop2 (State.rightAt_cls hcl2)
  have hcl1' := X.warmed.classLinks hcl1
  have hcl2' := hW1.classLinks hcl2
  have hal := X.warmed.alike
  have hal1 := hW1.alike
  obtain ⟨kt1', hkt1', -⟩ := hal.2.2 _ _ hkt1
  obtain ⟨kt2', hkt2', -⟩ := hal1.2.2 _ _ hkt2
  obtain ⟨kt3', hkt3', -⟩ := hal.2.2 _ _ hkt2
  have hno' : T.vm.assignable cell.cls cT1 = false := by rw [hal.assignable]; exact hno
  have hfit0 : T.vm.assignable cell.cls cT2 = true := by rw [hal.assignable]; exact hfit
  have hfit' : (T.vm.noted m₀.cls x1.catchType (.cls cT1)).assignable cell.cls cT2 = true := by rw [hal1.assignable]; exact hfit
  refine ⟨_, X.noted hW2, fun target hrest => ?_⟩
  rw [← X.pushThrowing_eq g a]
  subst hg
  refine Steps.caughtTo X.here (vm' := (T.vm.noted g.method.cls x1.catchType (.cls cT1)).noted g.method.cls x2.catchType (.cls cT2)) ?_ hrest
  intro Q E d acts
  rw [W.findHandler_eq (s := (T.setTop g).pushFrame (.throwing a)) (meth := meth) (code := c) X.method' X.code, hsplit, go_no (s := (T.setTop g).pushFrame (.throwing a)) hx1 h01 hcl1' hcell (VmData.ne_statics_of hobj) (Vm.classAt_of_assignable hfit0 ⟨kt3', hkt3'⟩) ⟨kt1', hkt1'⟩ hno']
  exact W.findHandler_go_link (s := ((T.setTop g).pushFrame (.throwing a)).setVm (T.vm.noted g.method.cls x1.catchType (.cls cT1))) hx2 h02 hcl2' hcell (VmData.ne_statics_of hobj) (Vm.classAt_of_assignable hfit' ⟨kt2', hkt2'⟩) ⟨kt2', hkt2'⟩ hfit'
end CAUGHT
section CATCH
variable {p : Program} {l : Launch} {e : Env} {R : Room} {s : State} {m : MethodId} {args : Array Value} {below : List Frame} {meth : Method} {c : Code} {pc hpc ct st en : Nat} {ls : Array Slot} {rest : List Value} {own C : String}
theorem catch1 {hh : List (Nat × Nat × Nat × Nat)} (htab : tabOf c = (st, en, hpc, ct) :: hh) (hin : st ≤ pc ∧ pc < en) (hct : ct ≠ 0) (hown : s.vm.findClass own = some m.cls) (htw : tw s) (hlink : Cond.classLink own ct C ∈ gw) (hcast : Cond.castable C C ∈ gw) :
    ∀ (T : State) (x : Addr) (ce : Cell) (locs1 : List Loc) (c1 s1 : Nat), Stand p l e R s m args below meth c T locs1 c1 s1 → T.heap[x]? = some ce → s.vm.findClass C = some ce.cls → ce.vm = .none → ∃ vm', Stand p l e R s m args below meth c (T.setVm vm') locs1 c1 s1 ∧ ∀ target, Steps p.tables e below ((T.setVm vm').setTop (F0 m hpc ls [.ref x])) target → Steps p.tables e below (T.setFrames (.throwing x :: .java (F0 m pc ls rest) :: below)) target := by
  intro T x ce locs1 c1 s1 X hce hcls hvm
  cases hL : c.exceptionTable.toList with
  | nil => rw [tabOf, hL] at htab; cases htab
  | cons x1 xs =>
    rw [tabOf, hL, List.map_cons, List.cons.injEq] at htab
    obtain ⟨h1, -⟩ := htab
    obtain ⟨e1, e2, e3, e4⟩ : x1.startPc = st ∧ x1.endPc = en ∧ x1.handlerPc = hpc ∧ x1.catchType = ct := by
      simp only [Prod.mk.injEq] at h1
      exact h1
    obtain ⟨c3, cT, hc3, hcT, hasg⟩ := Cond.castable_spec (htw _ hcast args)
    cases hcls.symm.trans hc3
    have := X.caughtLink x (g := F0 m pc ls rest) rfl hown [] x1 xs hL (fun y hy => by cases hy) (by show (decide (x1.startPc ≤ pc) && decide (pc < x1.endPc)) = true; rw [e1, e2]; simp [hin.1, hin.2]) (by rw [e4]; exact hct) (by rw [e4]; exact htw _ hlink args) hcT hce (by rw [hvm]; rfl) hasg
    rw [e3] at this
    exact this
theorem catch2 {hh : List (Nat × Nat × Nat × Nat)} {hpc1 ct1 : Nat} {C1 : String} (htab : tabOf c = (st, en, hpc1, ct1) :: (st, en, hpc, ct) :: hh) (hin : st ≤ pc ∧ pc < en) (hct1 : ct1 ≠ 0) (hct : ct ≠ 0) (hown : s.vm.findClass own = some m.cls) (htw : tw s) (hlink1 : Cond.classLink own ct1 C1 ∈ gw) (hlink : Cond.classLink own ct C ∈ gw) (hcast : Cond.castable C C ∈ gw) (hnc : NC C C1 s) :
    ∀ (T : State) (x : Addr) (ce : Cell) (locs1 : List Loc) (c1 s1 : Nat), Stand p l e R s m args below meth c T locs1 c1 s1 → T.heap[x]? = some ce → s.vm.findClass C = some ce.cls → ce.vm = .none → ∃ vm', Stand p l e R s m args below meth c (T.setVm vm') locs1 c1 s1 ∧ ∀ target, Steps p.tables e below ((T.setVm vm').setTop (F0 m hpc ls [.ref x])) target → Steps p.tables e below (T.setFrames (.throwing x :: .java (F0 m pc ls rest) :: below)) target := by
  intro T x ce locs1 c1 s1 X hce hcls hvm
  cases hL : c.exceptionTable.toList with
  | nil => rw [tabOf, hL] at htab; cases htab
  | cons x1 xs =>
    cases xs with
    | nil => rw [tabOf, hL] at htab; cases htab
    | cons x2 xs =>
      rw [tabOf, hL, List.map_cons, List.map_cons, List.cons.injEq, List.cons.injEq] at htab
      obtain ⟨h1, h2, -⟩ := htab
      obtain ⟨e1, e2, e3, e4⟩ : x1.startPc = st ∧ x1.endPc = en ∧ x1.handlerPc = hpc1 ∧ x1.catchType = ct1 := by
        simp only [Prod.mk.injEq] at h1
        exact h1
      obtain ⟨g1, g2, g3, g4⟩ : x2.startPc = st ∧ x2.endPc = en ∧ x2.handlerPc = hpc ∧ x2.catchType = ct := by
        simp only [Prod.mk.injEq] at h2
        exact h2
      obtain ⟨c3, cT, hc3, hcT, hasg⟩ := Cond.castable_spec (htw _ hcast args)
      cases hcls.symm.trans hc3
      obtain ⟨n1, n2, n3, n4, n5⟩ := hnc
      cases hcls.symm.trans n3
      have := caught2 X x (g := F0 m pc ls rest) rfl hown x1 x2 xs hL (by show (decide (x1.startPc ≤ pc) && decide (pc < x1.endPc)) = true; rw [e1, e2]; simp [hin.1, hin.2]) (by show (decide (x2.startPc ≤ pc) && decide (pc < x2.endPc)) = true; rw [g1, g2]; simp [hin.1, hin.2]) (by rw [e4]; exact hct1) (by rw [g4]; exact hct) (by rw [e4]; exact htw _ hlink1 args) (by rw [g4]; exact htw _ hlink args) n4 hcT hce (by rw [hvm]; rfl) n5 hasg
      rw [g3] at this
      exact this
end CATCH

theorem w_ini_IA : Cond.initialized "java/lang/IllegalArgumentException" ∈ gw := gw_in (i := 47) (by decide +kernel) rfl
theorem w_ini_IS : Cond.initialized "java/lang/IllegalStateException" ∈ gw := gw_in (i := 48) (by decide +kernel) rfl
theorem w_ini_IO : Cond.initialized "java/lang/IndexOutOfBoundsException" ∈ gw := gw_in (i := 56) (by decide +kernel) rfl
/-- a method that throws -/
def MetT (l : Launch) (y : MethodName) (ws : List Cond) (rm : Room) (Pc : Array Value → State → Prop) (Qc : Array Value → State → Addr → State → Prop) (mc ms : Nat) (free : Addr → Prop) : Prop :=
  MetFree l y (headSpec ws rm) Pc (fun _ _ _ _ _ => True) (fun a st o t => ∃ x, o = .threw x ∧ Qc a st x t ∧ ∃ L, st.WarmedH t.vm ∧ st.sameButNew ({ t with vm := st.vm } : State) L mc ms ∧ ∀ q ∈ L, free q.base)
def MT (below : List Frame) (Qc : Array Value → State → Addr → State → Prop) (a : Array Value) (s : State) (mc ms : Nat) (free : Addr → Prop) : State → Prop := fun t =>
  ∃ x, t.status = .running ∧ Ended t below (.threw x) ∧ Qc a s x t ∧ ∃ L, s.WarmedH t.vm ∧ s.sameButNew ({ t with vm := s.vm } : State) L mc ms ∧ ∀ q ∈ L, free q.base
theorem MetT.ofW {l : Launch} {y : MethodName} {ws ws' : List Cond} {rm : Room} {Pc : Array Value → State → Prop} {Qc : Array Value → State → Addr → State → Prop} {mc ms : Nat} {free : Addr → Prop} {cc : ByteArray} {maxL : Nat} {ret : Option FieldType}
    (hy : plainName y.cls = true) (hw : ws = Cond.code y cc maxL ret :: ws')
    (body : ∀ p e s m args below meth c s₁, BodyLoose p l y (headSpec ws rm) cc maxL ret e s m args below meth c s₁ → c.maxLocals = maxL → Pc args s →
      W p l e (headSpec ws rm).room s m args below meth c s.heap [] 0 0 (MT below Qc args s mc ms free) (entryFrame m args maxL)) : MetT l y ws rm Pc Qc mc ms free := by
  refine MetFree.of_bodyS (code := cc) (maxLocals := maxL) (ret := ret) hy ?_ ?_
  · intro args s m h hn
    obtain ⟨meth, c, h1, h2, h3, h4, h5, h6, -, -⟩ := Cond.code_spec hn (atoms_spec (ws := ws) h _ (by rw [hw]; exact List.mem_cons_self))
    exact ⟨meth, c, h1, h2, h3, h4, h5, h6⟩
  · intro p e s m args below meth c s₁ B hml hP _
    have hh0 : s₁.heap = s.heap := by rw [B.state]; rfl
    obtain ⟨t, a1, x, b1, b2, b3⟩ := body p e s m args below meth c s₁ B hml hP s₁ hh0 (Stand.of_body B)
    exact ⟨t, .threw x, a1, b1, b2, x, rfl, b3⟩
/-- the exception: an object of that class -/
def Xc (C : String) (x : Nat) (t : State) : Prop := ∃ ce : Cell, t.heap[x]? = some ce ∧ t.vm.findClass C = some ce.cls ∧ ce.vm = .none
def va_Qt (D : va_G) (post : va_W → Prop) (C : String) (A : Nat → Prop) : Array Value → State → Addr → State → Prop := fun _ st x t => (∃ u, post u ∧ va_P D classes u t.heap ∧ va_D A u ∧ Xc C x t) ∧ va_F A st t
def CT (l : Launch) (y : MethodName) (cc : ByteArray) (maxL : Nat) (ret : Option FieldType) (rm : Room) (D : va_G) (K : Nat → ClassId) (av : List Value) (ws : va_W) (C : String) (post : va_W → Prop) : Prop := ∀ sz b0 : Nat, MetT l y [Cond.code y cc maxL ret] rm (PW D K sz b0 ws av) (va_Qt D post C (va_A ws sz)) rm.cells rm.slots (va_A ws sz)
theorem CT_of {l : Launch} {y : MethodName} {cc : ByteArray} {maxL : Nat} {ret : Option FieldType} {rm : Room} {D : va_G} {K : Nat → ClassId} {av : List Value} {ws : va_W} {C : String} {post : va_W → Prop} (hy : plainName y.cls = true) (hn : (lg_sl av).length ≤ maxL)
    (body : ∀ (p : Program) (e : Env) (s : State) (m : MethodId) (below : List Frame) (meth : Method) (c : Code) (A : Nat → Prop) (b0 : Nat) (ls : Array Slot), Fx p s m meth c y cc maxL ret D K → AS K s A b0 → c.exceptionTable.isEmpty = true → va_P D classes ws s.heap → va_D A ws → lv_has ls maxL (lv_args 0 av) → W p l e rm s m av.toArray below meth c s.heap [] 0 0 (MT below (va_Qt D post C A) av.toArray s rm.cells rm.slots A) (F0 m 0 ls [])) : CT l y cc maxL ret rm D K av ws C post := by
  intro sz b0
  refine MetT.ofW (cc := cc) (maxL := maxL) (ret := ret) hy rfl ?_
  intro p e s m args below meth c s₁ B hml hv
  obtain ⟨rfl, htw, rfl, hP, hK, hD0, hSF, hb0⟩ := hv
  have hD := hD0.self (sz := s.heap.size)
  have hA : AS K s (va_A ws s.heap.size) b0 := ⟨fun q h => Or.inr h, hSF, fun q h => h.elim (fun ⟨k, e, hk⟩ => hD0.2 k _ hk) (fun h => Nat.le_trans hb0 h), hb0⟩
  have hno : c.exceptionTable.isEmpty = true := B.noHandlers (atoms_spec (ws := [Cond.code y cc maxL ret]) B.pre _ List.mem_cons_self)
  rw [lg_entry_eq]
  exact body p e s m below meth c _ b0 _ ⟨B.exec, B.bytes, B.returns, hml, findClass_of_methodNamed B.named, htw, hK, B.notSynchronized, (name_of_methodNamed B.named B.method).1⟩ hA hno hP hD (lv_entry av hn)
theorem LZ_lays {C n d : String} {b0 : Nat} {s : State} {args : Array Value} (h : LZ C n d b0 s) : (Cond.laysStatic C n d).before args s = true := by
  obtain ⟨c, k, i, f, a, cell, v, h1, h2, h3, h4, h5, h6, h7, h8, h9, h10, h11, h12⟩ := h
  simp [Cond.before, Cond.holds, Cond.value, h1, h2, h3, h4, h5, h6, h7, h8, h9]
theorem LZ_ref {C n d : String} {b0 : Nat} {s : State} {args : Array Value} (h : LZ C n d b0 s) : (Cond.isRef (.static C n d)).before args s = true := by
  obtain ⟨c, k, i, f, a, cell, v, h1, h2, h3, h4, h5, h6, h7, h8, h9, h10, h11, h12⟩ := h
  rcases h11 with rfl | ⟨q, rfl⟩ <;> simp [Cond.before, Cond.holds, Cond.value, Term.eval, State.fieldNamed?, h1, h2, h3, h4, h5, h6, h10]
/-- a walk may be looked at from where it stands -/
theorem st_root {p : Program} {l : Launch} {e : Env} {R : Room} {s : State} {m : MethodId} {args : Array Value} {below : List Frame} {meth : Method} {c : Code} {T : State} {locs : List Loc} {cells slots : Nat} (X : Stand p l e R s m args below meth c T locs cells slots) (hc : cells ≤ R.cells) (hs : slots ≤ R.slots) : Stand p l e { R with cells := R.cells - cells, slots := R.slots - slots } (T.setFrames (.invoking m args :: below)) m args below meth c T [] 0 0 := by
  obtain ⟨g₀, hg⟩ := Option.isSome_iff_exists.mp X.here.top
  obtain ⟨r, hr⟩ := State.topJava?_eq_some.mp hg
  obtain ⟨t, ht, -⟩ := State.frames_cons hr
  have hcur : T.cur < T.threads.size := (Array.getElem?_eq_some_iff.mp ht).1
  have hfr : (T.setFrames (.invoking m args :: below)).frames = .invoking m args :: below := State.frames_setFrames _ hcur
  refine ⟨X.admits, X.cas, X.clock, hfr, ?_, ?_, X.method', X.code, X.here, X.tail, State.WarmedH.refl T, ?_, ?_, ?_⟩
  · have h := X.room
    have hl1 := State.localsInUse_invoking X.frames X.method X.code
    have hl2 := State.localsInUse_invoking (s := T.setFrames (.invoking m args :: below)) hfr X.method' X.code
    have hb := X.book
    have hz := X.heapSize
    have hu := X.used
    have e1 : e.platform.stackLimits (T.setFrames (.invoking m args :: below)).me = e.platform.stackLimits s.me := by rw [State.stackLimits_setFrames]; exact X.limits
    have e2 : (T.setFrames (.invoking m args :: below)).me.stackBytes = s.me.stackBytes := by rw [State.stackBytes_setFrames]; exact X.bytes
    simp only [State.hasRoom, Bool.and_eq_true, decide_eq_true_eq] at h ⊢
    rw [hfr, hl2, e1, e2]
    rw [X.frames, hl1] at h
    refine ⟨⟨⟨⟨h.1.1.1.1, h.1.1.1.2⟩, ?_⟩, ?_⟩, hb⟩
    · show T.heap.size + (R.cells - cells) ≤ _
      have := h.1.1.2
      omega
    · show T.slotsUsed + (R.slots - slots) ≤ _
      have := h.1.2
      omega
  · have h := X.hears
    cases below with
    | nil =>
      show (T.vm.method? m).any _ = true
      rw [X.warmed.alike.method?]
      exact h
    | cons f fs =>
      cases f with
      | java g =>
        show ((T.code? g.method).bind _).isSome = true
        rw [State.code?_eq, X.warmed.alike.method?, ← State.code?_eq]
        exact h
      | native _ => rfl
      | proc _ => rfl
      | _ =>
        show (T.vm.method? m).any _ = true
        rw [X.warmed.alike.method?]
        exact h
  · rw [State.stackLimits_setFrames]
  · rw [State.stackBytes_setFrames]
  · refine ⟨?_, Nat.le_refl _, Nat.le_refl _, ?_, ?_, fun a cc h => ⟨cc, h, rfl, rfl, fun _ _ => rfl⟩⟩
    · show T = { (T.setFrames (.invoking m args :: below)).setFrames T.frames with heap := T.heap, slotsUsed := T.slotsUsed }
      rw [State.setFrames_setFrames, State.setFrames_self ht]
    · show T.slotsUsed = T.slotsUsed + ((T.heap.toList.drop T.heap.size).map (·.slots.size)).sum
      rw [List.drop_eq_nil_of_le (by simp)]
      rfl
    · show ((T.heap.toList.drop T.heap.size).map (·.slots.size)).sum ≤ 0
      rw [List.drop_eq_nil_of_le (by simp)]
      exact Nat.le_refl _
theorem same_root {T U : State} {fs : List Frame} {L : List Loc} {k n : Nat} (h : (T.setFrames fs).sameButNew U L k n) : T.sameButNew U L k n := by
  obtain ⟨h1, h2⟩ := h
  rw [State.setFrames_setFrames] at h1
  exact ⟨h1, h2⟩
theorem same_nil {T U : State} {k n : Nat} (h : T.sameButNew U [] k n) : T.heap.size ≤ U.heap.size ∧ ∀ a : Nat, a < T.heap.size → U.heap[a]? = T.heap[a]? := by
  refine ⟨h.2.1, fun a ha => ?_⟩
  obtain ⟨c', g1, g2, g3, g4⟩ := h.2.2.2.2.2 a _ (Array.getElem?_eq_getElem ha)
  rw [g1, Array.getElem?_eq_getElem ha]
  have e : c'.slots = (T.heap[a]).slots := Array.ext_getElem? fun i => g4 i (by simp)
  rw [g2, e]
theorem wt_0 : Cond.initialized "java/lang/Throwable" ∈ gw := gw_in (i := 44) (by decide +kernel) rfl
theorem wt_1 : Cond.superclass "java/lang/Throwable" "java/lang/Object" ∈ gw := gw_in (i := 481) (by decide +kernel) rfl
theorem wt_2 : Cond.instanceMethod ⟨"java/lang/Throwable", "fillInStackTrace", "()Ljava/lang/Throwable;"⟩ ∈ gw := gw_in (i := 490) (by decide +kernel) rfl
theorem wt_3 : Cond.codeSync ⟨"java/lang/Throwable", "fillInStackTrace", "()Ljava/lang/Throwable;"⟩ LibCode.Throwable.Fill.code 1 (some (.object "java/lang/Throwable")) ∈ gw := gw_in (i := 494) (by decide +kernel) rfl
theorem wt_4 : Cond.instanceMethod ⟨"java/lang/Throwable", "fillInStackTrace", "(I)Ljava/lang/Throwable;"⟩ ∈ gw := gw_in (i := 497) (by decide +kernel) rfl
theorem wt_5 : Cond.native ⟨"java/lang/Throwable", "fillInStackTrace", "(I)Ljava/lang/Throwable;"⟩ ∈ gw := gw_in (i := 499) (by decide +kernel) rfl
theorem wt_6 : Cond.instanceMethod ⟨"java/lang/Throwable", "<init>", "()V"⟩ ∈ gw := gw_in (i := 482) (by decide +kernel) rfl
theorem wt_7 : Cond.code ⟨"java/lang/Throwable", "<init>", "()V"⟩ LibCode.Throwable.Init0.code 1 none ∈ gw := gw_in (i := 483) (by decide +kernel) rfl
theorem wt_8 : Cond.instanceMethod ⟨"java/lang/Object", "<init>", "()V"⟩ ∈ gw := gw_in (i := 63) (by decide +kernel) rfl
theorem wt_9 : Cond.code ⟨"java/lang/Object", "<init>", "()V"⟩ ⟨#[0xb1]⟩ 1 none ∈ gw := gw_in (i := 64) (by decide +kernel) rfl
theorem wt_10 : Cond.methodLink "java/lang/Throwable" 1 ⟨"java/lang/Object", "<init>", "()V"⟩ ∈ gw := gw_in (i := 484) (by decide +kernel) rfl
theorem wt_11 : Cond.methodLink "java/lang/Throwable" 27 ⟨"java/lang/Throwable", "fillInStackTrace", "()Ljava/lang/Throwable;"⟩ ∈ gw := gw_in (i := 489) (by decide +kernel) rfl
theorem wt_12 : Cond.methodLink "java/lang/Throwable" 202 ⟨"java/lang/Throwable", "fillInStackTrace", "(I)Ljava/lang/Throwable;"⟩ ∈ gw := gw_in (i := 495) (by decide +kernel) rfl
theorem wt_13 : Cond.fieldLink "java/lang/Throwable" 7 "java/lang/Throwable" "cause" "Ljava/lang/Throwable;" ∈ gw := gw_in (i := 515) (by decide +kernel) rfl
theorem wt_14 : Cond.lays "java/lang/Throwable" "java/lang/Throwable" "cause" "Ljava/lang/Throwable;" ∈ gw := gw_in (i := 471) (by decide +kernel) rfl
theorem wt_15 : Cond.fieldLink "java/lang/Throwable" 17 "java/lang/Throwable" "stackTrace" "[Ljava/lang/StackTraceElement;" ∈ gw := gw_in (i := 516) (by decide +kernel) rfl
theorem wt_16 : Cond.lays "java/lang/Throwable" "java/lang/Throwable" "stackTrace" "[Ljava/lang/StackTraceElement;" ∈ gw := gw_in (i := 473) (by decide +kernel) rfl
theorem wt_17 : Cond.fieldLink "java/lang/Throwable" 24 "java/lang/Throwable" "suppressedExceptions" "Ljava/util/List;" ∈ gw := gw_in (i := 517) (by decide +kernel) rfl
theorem wt_18 : Cond.lays "java/lang/Throwable" "java/lang/Throwable" "suppressedExceptions" "Ljava/util/List;" ∈ gw := gw_in (i := 475) (by decide +kernel) rfl
theorem wt_19 : Cond.fieldLink "java/lang/Throwable" 13 "java/lang/Throwable" "UNASSIGNED_STACK" "[Ljava/lang/StackTraceElement;" ∈ gw := gw_in (i := 485) (by decide +kernel) rfl
theorem wt_20 : Cond.fieldLink "java/lang/Throwable" 20 "java/lang/Throwable" "SUPPRESSED_SENTINEL" "Ljava/util/List;" ∈ gw := gw_in (i := 487) (by decide +kernel) rfl
theorem wt_21 : Cond.lays "java/lang/Throwable" "java/lang/Throwable" "detailMessage" "Ljava/lang/String;" ∈ gw := gw_in (i := 477) (by decide +kernel) rfl
theorem wt_22 : Cond.instanceMethod ⟨"java/lang/Throwable", "<init>", "(Ljava/lang/String;)V"⟩ ∈ gw := gw_in (i := 511) (by decide +kernel) rfl
theorem wt_23 : Cond.code ⟨"java/lang/Throwable", "<init>", "(Ljava/lang/String;)V"⟩ LibCode.Throwable.InitS.code 2 none ∈ gw := gw_in (i := 512) (by decide +kernel) rfl
theorem wt_24 : Cond.fieldLink "java/lang/Throwable" 31 "java/lang/Throwable" "detailMessage" "Ljava/lang/String;" ∈ gw := gw_in (i := 514) (by decide +kernel) rfl
theorem wt_25 : Cond.instanceMethod ⟨"java/lang/IllegalArgumentException", "<init>", "(Ljava/lang/String;)V"⟩ ∈ gw := gw_in (i := 502) (by decide +kernel) rfl
theorem wt_26 : Cond.code ⟨"java/lang/IllegalArgumentException", "<init>", "(Ljava/lang/String;)V"⟩ Bundle.six 2 none ∈ gw := gw_in (i := 503) (by decide +kernel) rfl
theorem wt_27 : Cond.methodLink "java/lang/IllegalArgumentException" 7 ⟨"java/lang/RuntimeException", "<init>", "(Ljava/lang/String;)V"⟩ ∈ gw := gw_in (i := 504) (by decide +kernel) rfl
theorem wt_28 : Cond.instanceMethod ⟨"java/lang/RuntimeException", "<init>", "(Ljava/lang/String;)V"⟩ ∈ gw := gw_in (i := 505) (by decide +kernel) rfl
theorem wt_29 : Cond.declares ⟨"java/lang/RuntimeException", "<init>", "(Ljava/lang/String;)V"⟩ ∈ gw := gw_in (i := 463) (by decide +kernel) rfl
theorem wt_30 : Cond.code ⟨"java/lang/RuntimeException", "<init>", "(Ljava/lang/String;)V"⟩ Bundle.six 2 none ∈ gw := gw_in (i := 506) (by decide +kernel) rfl
theorem wt_31 : Cond.methodLink "java/lang/RuntimeException" 7 ⟨"java/lang/Exception", "<init>", "(Ljava/lang/String;)V"⟩ ∈ gw := gw_in (i := 507) (by decide +kernel) rfl
theorem wt_32 : Cond.instanceMethod ⟨"java/lang/Exception", "<init>", "(Ljava/lang/String;)V"⟩ ∈ gw := gw_in (i := 508) (by decide +kernel) rfl
theorem wt_33 : Cond.declares ⟨"java/lang/Exception", "<init>", "(Ljava/lang/String;)V"⟩ ∈ gw := gw_in (i := 465) (by decide +kernel) rfl
theorem wt_34 : Cond.code ⟨"java/lang/Exception", "<init>", "(Ljava/lang/String;)V"⟩ Bundle.six 2 none ∈ gw := gw_in (i := 509) (by decide +kernel) rfl
theorem wt_35 : Cond.methodLink "java/lang/Exception" 7 ⟨"java/lang/Throwable", "<init>", "(Ljava/lang/String;)V"⟩ ∈ gw := gw_in (i := 510) (by decide +kernel) rfl
theorem wt_36 : Cond.declares ⟨"java/lang/Throwable", "<init>", "(Ljava/lang/String;)V"⟩ ∈ gw := gw_in (i := 467) (by decide +kernel) rfl
theorem wt_37 : Cond.methodLink "SegmentIndex" 45 ⟨"java/lang/IllegalArgumentException", "<init>", "(Ljava/lang/String;)V"⟩ ∈ gw := gw_in (i := 501) (by decide +kernel) rfl
theorem wt_38 : Cond.instantiable "java/lang/IllegalArgumentException" 6 ∈ gw := gw_in (i := 460) (by decide +kernel) rfl
theorem wt_39 : Cond.castable "java/lang/IllegalArgumentException" "java/lang/IllegalArgumentException" ∈ gw := gw_in (i := 461) (by decide +kernel) rfl
theorem wt_40 : Cond.selects "java/lang/IllegalArgumentException" ⟨"java/lang/Throwable", "fillInStackTrace", "(I)Ljava/lang/Throwable;"⟩ ⟨"java/lang/Throwable", "fillInStackTrace", "(I)Ljava/lang/Throwable;"⟩ ∈ gw := gw_in (i := 468) (by decide +kernel) rfl
theorem wt_41 : Cond.selects "java/lang/IllegalArgumentException" ⟨"java/lang/Throwable", "fillInStackTrace", "()Ljava/lang/Throwable;"⟩ ⟨"java/lang/Throwable", "fillInStackTrace", "()Ljava/lang/Throwable;"⟩ ∈ gw := gw_in (i := 469) (by decide +kernel) rfl
theorem wt_42 : Cond.lays "java/lang/IllegalArgumentException" "java/lang/Throwable" "cause" "Ljava/lang/Throwable;" ∈ gw := gw_in (i := 470) (by decide +kernel) rfl
theorem wt_43 : Cond.lays "java/lang/IllegalArgumentException" "java/lang/Throwable" "stackTrace" "[Ljava/lang/StackTraceElement;" ∈ gw := gw_in (i := 472) (by decide +kernel) rfl
theorem wt_44 : Cond.lays "java/lang/IllegalArgumentException" "java/lang/Throwable" "suppressedExceptions" "Ljava/util/List;" ∈ gw := gw_in (i := 474) (by decide +kernel) rfl
theorem wt_45 : Cond.lays "java/lang/IllegalArgumentException" "java/lang/Throwable" "detailMessage" "Ljava/lang/String;" ∈ gw := gw_in (i := 476) (by decide +kernel) rfl
theorem wt_46 : Cond.fieldLink "java/lang/Throwable" 198 "java/lang/Throwable" "backtrace" "Ljava/lang/Object;" ∈ gw := gw_in (i := 513) (by decide +kernel) rfl
theorem wt_47 : Cond.lays "java/lang/Throwable" "java/lang/Throwable" "backtrace" "Ljava/lang/Object;" ∈ gw := gw_in (i := 479) (by decide +kernel) rfl
theorem wt_48 : Cond.lays "java/lang/IllegalArgumentException" "java/lang/Throwable" "backtrace" "Ljava/lang/Object;" ∈ gw := gw_in (i := 478) (by decide +kernel) rfl
theorem own_IA {s : State} {args : Array Value} {b0 : Nat} (htw : tw s) (z1 : LZ "java/lang/Throwable" "UNASSIGNED_STACK" "[Ljava/lang/StackTraceElement;" b0 s) (z2 : LZ "java/lang/Throwable" "SUPPRESSED_SENTINEL" "Ljava/util/List;" b0 s) : ∀ a ∈ Bundle.ownAtoms "SegmentIndex" 45 "java/lang/IllegalArgumentException" ["java/lang/RuntimeException", "java/lang/Exception"], a.before args s = true :=
  List.forall_mem_cons.mpr ⟨htw _ wt_0 args, List.forall_mem_cons.mpr ⟨htw _ wt_1 args, List.forall_mem_cons.mpr ⟨htw _ wt_2 args, List.forall_mem_cons.mpr ⟨htw _ wt_3 args, List.forall_mem_cons.mpr ⟨htw _ wt_4 args, List.forall_mem_cons.mpr ⟨htw _ wt_5 args, List.forall_mem_cons.mpr ⟨htw _ wt_6 args, List.forall_mem_cons.mpr ⟨htw _ wt_7 args, List.forall_mem_cons.mpr ⟨htw _ wt_8 args, List.forall_mem_cons.mpr ⟨htw _ wt_9 args, List.forall_mem_cons.mpr ⟨htw _ wt_10 args, List.forall_mem_cons.mpr ⟨htw _ wt_11 args, List.forall_mem_cons.mpr ⟨htw _ wt_12 args, List.forall_mem_cons.mpr ⟨htw _ wt_13 args, List.forall_mem_cons.mpr ⟨htw _ wt_14 args, List.forall_mem_cons.mpr ⟨htw _ wt_15 args, List.forall_mem_cons.mpr ⟨htw _ wt_16 args, List.forall_mem_cons.mpr ⟨htw _ wt_17 args, List.forall_mem_cons.mpr ⟨htw _ wt_18 args, List.forall_mem_cons.mpr ⟨htw _ wt_19 args, List.forall_mem_cons.mpr ⟨LZ_lays z1, List.forall_mem_cons.mpr ⟨htw _ wt_20 args, List.forall_mem_cons.mpr ⟨LZ_lays z2, List.forall_mem_cons.mpr ⟨htw _ wt_21 args, List.forall_mem_cons.mpr ⟨htw _ wt_22 args, List.forall_mem_cons.mpr ⟨htw _ wt_23 args, List.forall_mem_cons.mpr ⟨htw _ wt_24 args, List.forall_mem_cons.mpr ⟨htw _ wt_21 args, List.forall_mem_cons.mpr ⟨htw _ wt_25 args, List.forall_mem_cons.mpr ⟨htw _ wt_26 args, List.forall_mem_cons.mpr ⟨htw _ wt_27 args, List.forall_mem_cons.mpr ⟨htw _ wt_28 args, List.forall_mem_cons.mpr ⟨htw _ wt_29 args, List.forall_mem_cons.mpr ⟨htw _ wt_28 args, List.forall_mem_cons.mpr ⟨htw _ wt_30 args, List.forall_mem_cons.mpr ⟨htw _ wt_31 args, List.forall_mem_cons.mpr ⟨htw _ wt_32 args, List.forall_mem_cons.mpr ⟨htw _ wt_33 args, List.forall_mem_cons.mpr ⟨htw _ wt_32 args, List.forall_mem_cons.mpr ⟨htw _ wt_34 args, List.forall_mem_cons.mpr ⟨htw _ wt_35 args, List.forall_mem_cons.mpr ⟨htw _ wt_22 args, List.forall_mem_cons.mpr ⟨htw _ wt_36 args, List.forall_mem_cons.mpr ⟨htw _ wt_37 args, List.forall_mem_cons.mpr ⟨htw _ wt_38 args, List.forall_mem_cons.mpr ⟨htw _ wt_39 args, List.forall_mem_cons.mpr ⟨htw _ wt_40 args, List.forall_mem_cons.mpr ⟨htw _ wt_41 args, List.forall_mem_cons.mpr ⟨htw _ wt_42 args, List.forall_mem_cons.mpr ⟨htw _ wt_43 args, List.forall_mem_cons.mpr ⟨htw _ wt_44 args, List.forall_mem_cons.mpr ⟨htw _ wt_45 args, List.forall_mem_cons.mpr ⟨LZ_ref z1, List.forall_mem_cons.mpr ⟨LZ_ref z2, List.forall_mem_cons.mpr ⟨htw _ wt_46 args, List.forall_mem_cons.mpr ⟨htw _ wt_47 args, List.forall_mem_cons.mpr ⟨htw _ wt_48 args, fun _ h => absurd h List.not_mem_nil⟩⟩⟩⟩⟩⟩⟩⟩⟩⟩⟩⟩⟩⟩⟩⟩⟩⟩⟩⟩⟩⟩⟩⟩⟩⟩⟩⟩⟩⟩⟩⟩⟩⟩⟩⟩⟩⟩⟩⟩⟩⟩⟩⟩⟩⟩⟩⟩⟩⟩⟩⟩⟩⟩⟩⟩⟩
theorem wt_49 : Cond.instanceMethod ⟨"java/lang/IllegalStateException", "<init>", "(Ljava/lang/String;)V"⟩ ∈ gw := gw_in (i := 557) (by decide +kernel) rfl
theorem wt_50 : Cond.code ⟨"java/lang/IllegalStateException", "<init>", "(Ljava/lang/String;)V"⟩ Bundle.six 2 none ∈ gw := gw_in (i := 558) (by decide +kernel) rfl
theorem wt_51 : Cond.methodLink "java/lang/IllegalStateException" 7 ⟨"java/lang/RuntimeException", "<init>", "(Ljava/lang/String;)V"⟩ ∈ gw := gw_in (i := 559) (by decide +kernel) rfl
theorem wt_52 : Cond.methodLink "SegmentIndex" 75 ⟨"java/lang/IllegalStateException", "<init>", "(Ljava/lang/String;)V"⟩ ∈ gw := gw_in (i := 556) (by decide +kernel) rfl
theorem wt_53 : Cond.instantiable "java/lang/IllegalStateException" 6 ∈ gw := gw_in (i := 547) (by decide +kernel) rfl
theorem wt_54 : Cond.castable "java/lang/IllegalStateException" "java/lang/IllegalStateException" ∈ gw := gw_in (i := 548) (by decide +kernel) rfl
theorem wt_55 : Cond.selects "java/lang/IllegalStateException" ⟨"java/lang/Throwable", "fillInStackTrace", "(I)Ljava/lang/Throwable;"⟩ ⟨"java/lang/Throwable", "fillInStackTrace", "(I)Ljava/lang/Throwable;"⟩ ∈ gw := gw_in (i := 549) (by decide +kernel) rfl
theorem wt_56 : Cond.selects "java/lang/IllegalStateException" ⟨"java/lang/Throwable", "fillInStackTrace", "()Ljava/lang/Throwable;"⟩ ⟨"java/lang/Throwable", "fillInStackTrace", "()Ljava/lang/Throwable;"⟩ ∈ gw := gw_in (i := 492) (by decide +kernel) rfl
theorem wt_57 : Cond.lays "java/lang/IllegalStateException" "java/lang/Throwable" "cause" "Ljava/lang/Throwable;" ∈ gw := gw_in (i := 550) (by decide +kernel) rfl
theorem wt_58 : Cond.lays "java/lang/IllegalStateException" "java/lang/Throwable" "stackTrace" "[Ljava/lang/StackTraceElement;" ∈ gw := gw_in (i := 551) (by decide +kernel) rfl
theorem wt_59 : Cond.lays "java/lang/IllegalStateException" "java/lang/Throwable" "suppressedExceptions" "Ljava/util/List;" ∈ gw := gw_in (i := 552) (by decide +kernel) rfl
theorem wt_60 : Cond.lays "java/lang/IllegalStateException" "java/lang/Throwable" "detailMessage" "Ljava/lang/String;" ∈ gw := gw_in (i := 553) (by decide +kernel) rfl
theorem wt_61 : Cond.lays "java/lang/IllegalStateException" "java/lang/Throwable" "backtrace" "Ljava/lang/Object;" ∈ gw := gw_in (i := 554) (by decide +kernel) rfl
theorem own_IS {s : State} {args : Array Value} {b0 : Nat} (htw : tw s) (z1 : LZ "java/lang/Throwable" "UNASSIGNED_STACK" "[Ljava/lang/StackTraceElement;" b0 s) (z2 : LZ "java/lang/Throwable" "SUPPRESSED_SENTINEL" "Ljava/util/List;" b0 s) : ∀ a ∈ Bundle.ownAtoms "SegmentIndex" 75 "java/lang/IllegalStateException" ["java/lang/RuntimeException", "java/lang/Exception"], a.before args s = true :=
  List.forall_mem_cons.mpr ⟨htw _ wt_0 args, List.forall_mem_cons.mpr ⟨htw _ wt_1 args, List.forall_mem_cons.mpr ⟨htw _ wt_2 args, List.forall_mem_cons.mpr ⟨htw _ wt_3 args, List.forall_mem_cons.mpr ⟨htw _ wt_4 args, List.forall_mem_cons.mpr ⟨htw _ wt_5 args, List.forall_mem_cons.mpr ⟨htw _ wt_6 args, List.forall_mem_cons.mpr ⟨htw _ wt_7 args, List.forall_mem_cons.mpr ⟨htw _ wt_8 args, List.forall_mem_cons.mpr ⟨htw _ wt_9 args, List.forall_mem_cons.mpr ⟨htw _ wt_10 args, List.forall_mem_cons.mpr ⟨htw _ wt_11 args, List.forall_mem_cons.mpr ⟨htw _ wt_12 args, List.forall_mem_cons.mpr ⟨htw _ wt_13 args, List.forall_mem_cons.mpr ⟨htw _ wt_14 args, List.forall_mem_cons.mpr ⟨htw _ wt_15 args, List.forall_mem_cons.mpr ⟨htw _ wt_16 args, List.forall_mem_cons.mpr ⟨htw _ wt_17 args, List.forall_mem_cons.mpr ⟨htw _ wt_18 args, List.forall_mem_cons.mpr ⟨htw _ wt_19 args, List.forall_mem_cons.mpr ⟨LZ_lays z1, List.forall_mem_cons.mpr ⟨htw _ wt_20 args, List.forall_mem_cons.mpr ⟨LZ_lays z2, List.forall_mem_cons.mpr ⟨htw _ wt_21 args, List.forall_mem_cons.mpr ⟨htw _ wt_22 args, List.forall_mem_cons.mpr ⟨htw _ wt_23 args, List.forall_mem_cons.mpr ⟨htw _ wt_24 args, List.forall_mem_cons.mpr ⟨htw _ wt_21 args, List.forall_mem_cons.mpr ⟨htw _ wt_49 args, List.forall_mem_cons.mpr ⟨htw _ wt_50 args, List.forall_mem_cons.mpr ⟨htw _ wt_51 args, List.forall_mem_cons.mpr ⟨htw _ wt_28 args, List.forall_mem_cons.mpr ⟨htw _ wt_29 args, List.forall_mem_cons.mpr ⟨htw _ wt_28 args, List.forall_mem_cons.mpr ⟨htw _ wt_30 args, List.forall_mem_cons.mpr ⟨htw _ wt_31 args, List.forall_mem_cons.mpr ⟨htw _ wt_32 args, List.forall_mem_cons.mpr ⟨htw _ wt_33 args, List.forall_mem_cons.mpr ⟨htw _ wt_32 args, List.forall_mem_cons.mpr ⟨htw _ wt_34 args, List.forall_mem_cons.mpr ⟨htw _ wt_35 args, List.forall_mem_cons.mpr ⟨htw _ wt_22 args, List.forall_mem_cons.mpr ⟨htw _ wt_36 args, List.forall_mem_cons.mpr ⟨htw _ wt_52 args, List.forall_mem_cons.mpr ⟨htw _ wt_53 args, List.forall_mem_cons.mpr ⟨htw _ wt_54 args, List.forall_mem_cons.mpr ⟨htw _ wt_55 args, List.forall_mem_cons.mpr ⟨htw _ wt_56 args, List.forall_mem_cons.mpr ⟨htw _ wt_57 args, List.forall_mem_cons.mpr ⟨htw _ wt_58 args, List.forall_mem_cons.mpr ⟨htw _ wt_59 args, List.forall_mem_cons.mpr ⟨htw _ wt_60 args, List.forall_mem_cons.mpr ⟨LZ_ref z1, List.forall_mem_cons.mpr ⟨LZ_ref z2, List.forall_mem_cons.mpr ⟨htw _ wt_46 args, List.forall_mem_cons.mpr ⟨htw _ wt_47 args, List.forall_mem_cons.mpr ⟨htw _ wt_61 args, fun _ h => absurd h List.not_mem_nil⟩⟩⟩⟩⟩⟩⟩⟩⟩⟩⟩⟩⟩⟩⟩⟩⟩⟩⟩⟩⟩⟩⟩⟩⟩⟩⟩⟩⟩⟩⟩⟩⟩⟩⟩⟩⟩⟩⟩⟩⟩⟩⟩⟩⟩⟩⟩⟩⟩⟩⟩⟩⟩⟩⟩⟩⟩
theorem wt_62 : Cond.instanceMethod ⟨"java/lang/IndexOutOfBoundsException", "<init>", "(Ljava/lang/String;)V"⟩ ∈ gw := gw_in (i := 611) (by decide +kernel) rfl
theorem wt_63 : Cond.code ⟨"java/lang/IndexOutOfBoundsException", "<init>", "(Ljava/lang/String;)V"⟩ Bundle.six 2 none ∈ gw := gw_in (i := 612) (by decide +kernel) rfl
theorem wt_64 : Cond.methodLink "java/lang/IndexOutOfBoundsException" 7 ⟨"java/lang/RuntimeException", "<init>", "(Ljava/lang/String;)V"⟩ ∈ gw := gw_in (i := 613) (by decide +kernel) rfl
theorem wt_65 : Cond.methodLink "SegmentIndex" 106 ⟨"java/lang/IndexOutOfBoundsException", "<init>", "(Ljava/lang/String;)V"⟩ ∈ gw := gw_in (i := 610) (by decide +kernel) rfl
theorem wt_66 : Cond.instantiable "java/lang/IndexOutOfBoundsException" 6 ∈ gw := gw_in (i := 601) (by decide +kernel) rfl
theorem wt_67 : Cond.castable "java/lang/IndexOutOfBoundsException" "java/lang/IndexOutOfBoundsException" ∈ gw := gw_in (i := 602) (by decide +kernel) rfl
theorem wt_68 : Cond.selects "java/lang/IndexOutOfBoundsException" ⟨"java/lang/Throwable", "fillInStackTrace", "(I)Ljava/lang/Throwable;"⟩ ⟨"java/lang/Throwable", "fillInStackTrace", "(I)Ljava/lang/Throwable;"⟩ ∈ gw := gw_in (i := 603) (by decide +kernel) rfl
theorem wt_69 : Cond.selects "java/lang/IndexOutOfBoundsException" ⟨"java/lang/Throwable", "fillInStackTrace", "()Ljava/lang/Throwable;"⟩ ⟨"java/lang/Throwable", "fillInStackTrace", "()Ljava/lang/Throwable;"⟩ ∈ gw := gw_in (i := 493) (by decide +kernel) rfl
theorem wt_70 : Cond.lays "java/lang/IndexOutOfBoundsException" "java/lang/Throwable" "cause" "Ljava/lang/Throwable;" ∈ gw := gw_in (i := 604) (by decide +kernel) rfl
theorem wt_71 : Cond.lays "java/lang/IndexOutOfBoundsException" "java/lang/Throwable" "stackTrace" "[Ljava/lang/StackTraceElement;" ∈ gw := gw_in (i := 605) (by decide +kernel) rfl
theorem wt_72 : Cond.lays "java/lang/IndexOutOfBoundsException" "java/lang/Throwable" "suppressedExceptions" "Ljava/util/List;" ∈ gw := gw_in (i := 606) (by decide +kernel) rfl
theorem wt_73 : Cond.lays "java/lang/IndexOutOfBoundsException" "java/lang/Throwable" "detailMessage" "Ljava/lang/String;" ∈ gw := gw_in (i := 607) (by decide +kernel) rfl
theorem wt_74 : Cond.lays "java/lang/IndexOutOfBoundsException" "java/lang/Throwable" "backtrace" "Ljava/lang/Object;" ∈ gw := gw_in (i := 608) (by decide +kernel) rfl
theorem own_IO {s : State} {args : Array Value} {b0 : Nat} (htw : tw s) (z1 : LZ "java/lang/Throwable" "UNASSIGNED_STACK" "[Ljava/lang/StackTraceElement;" b0 s) (z2 : LZ "java/lang/Throwable" "SUPPRESSED_SENTINEL" "Ljava/util/List;" b0 s) : ∀ a ∈ Bundle.ownAtoms "SegmentIndex" 106 "java/lang/IndexOutOfBoundsException" ["java/lang/RuntimeException", "java/lang/Exception"], a.before args s = true :=
  List.forall_mem_cons.mpr ⟨htw _ wt_0 args, List.forall_mem_cons.mpr ⟨htw _ wt_1 args, List.forall_mem_cons.mpr ⟨htw _ wt_2 args, List.forall_mem_cons.mpr ⟨htw _ wt_3 args, List.forall_mem_cons.mpr ⟨htw _ wt_4 args, List.forall_mem_cons.mpr ⟨htw _ wt_5 args, List.forall_mem_cons.mpr ⟨htw _ wt_6 args, List.forall_mem_cons.mpr ⟨htw _ wt_7 args, List.forall_mem_cons.mpr ⟨htw _ wt_8 args, List.forall_mem_cons.mpr ⟨htw _ wt_9 args, List.forall_mem_cons.mpr ⟨htw _ wt_10 args, List.forall_mem_cons.mpr ⟨htw _ wt_11 args, List.forall_mem_cons.mpr ⟨htw _ wt_12 args, List.forall_mem_cons.mpr ⟨htw _ wt_13 args, List.forall_mem_cons.mpr ⟨htw _ wt_14 args, List.forall_mem_cons.mpr ⟨htw _ wt_15 args, List.forall_mem_cons.mpr ⟨htw _ wt_16 args, List.forall_mem_cons.mpr ⟨htw _ wt_17 args, List.forall_mem_cons.mpr ⟨htw _ wt_18 args, List.forall_mem_cons.mpr ⟨htw _ wt_19 args, List.forall_mem_cons.mpr ⟨LZ_lays z1, List.forall_mem_cons.mpr ⟨htw _ wt_20 args, List.forall_mem_cons.mpr ⟨LZ_lays z2, List.forall_mem_cons.mpr ⟨htw _ wt_21 args, List.forall_mem_cons.mpr ⟨htw _ wt_22 args, List.forall_mem_cons.mpr ⟨htw _ wt_23 args, List.forall_mem_cons.mpr ⟨htw _ wt_24 args, List.forall_mem_cons.mpr ⟨htw _ wt_21 args, List.forall_mem_cons.mpr ⟨htw _ wt_62 args, List.forall_mem_cons.mpr ⟨htw _ wt_63 args, List.forall_mem_cons.mpr ⟨htw _ wt_64 args, List.forall_mem_cons.mpr ⟨htw _ wt_28 args, List.forall_mem_cons.mpr ⟨htw _ wt_29 args, List.forall_mem_cons.mpr ⟨htw _ wt_28 args, List.forall_mem_cons.mpr ⟨htw _ wt_30 args, List.forall_mem_cons.mpr ⟨htw _ wt_31 args, List.forall_mem_cons.mpr ⟨htw _ wt_32 args, List.forall_mem_cons.mpr ⟨htw _ wt_33 args, List.forall_mem_cons.mpr ⟨htw _ wt_32 args, List.forall_mem_cons.mpr ⟨htw _ wt_34 args, List.forall_mem_cons.mpr ⟨htw _ wt_35 args, List.forall_mem_cons.mpr ⟨htw _ wt_22 args, List.forall_mem_cons.mpr ⟨htw _ wt_36 args, List.forall_mem_cons.mpr ⟨htw _ wt_65 args, List.forall_mem_cons.mpr ⟨htw _ wt_66 args, List.forall_mem_cons.mpr ⟨htw _ wt_67 args, List.forall_mem_cons.mpr ⟨htw _ wt_68 args, List.forall_mem_cons.mpr ⟨htw _ wt_69 args, List.forall_mem_cons.mpr ⟨htw _ wt_70 args, List.forall_mem_cons.mpr ⟨htw _ wt_71 args, List.forall_mem_cons.mpr ⟨htw _ wt_72 args, List.forall_mem_cons.mpr ⟨htw _ wt_73 args, List.forall_mem_cons.mpr ⟨LZ_ref z1, List.forall_mem_cons.mpr ⟨LZ_ref z2, List.forall_mem_cons.mpr ⟨htw _ wt_46 args, List.forall_mem_cons.mpr ⟨htw _ wt_47 args, List.forall_mem_cons.mpr ⟨htw _ wt_74 args, fun _ h => absurd h List.not_mem_nil⟩⟩⟩⟩⟩⟩⟩⟩⟩⟩⟩⟩⟩⟩⟩⟩⟩⟩⟩⟩⟩⟩⟩⟩⟩⟩⟩⟩⟩⟩⟩⟩⟩⟩⟩⟩⟩⟩⟩⟩⟩⟩⟩⟩⟩⟩⟩⟩⟩⟩⟩⟩⟩⟩⟩⟩⟩
section XTHROW
variable {p : Program} {l : Launch} {e : Env} {R : Room} {s : State} {m : MethodId} {args : Array Value} {below : List Frame} {meth : Method} {c : Code} {H : Heap} {locs : List Loc} {cells slots : Nat} {Q : State → Prop}
variable {cc : ByteArray} {pc : Nat} {ls : Array Slot} {rest : List Value} {D : va_G} {K : Nat → ClassId} {A : Nat → Prop} {a : Nat} {ws : va_W}
theorem xthrow_IA {k : Nat} {tx : String} {mc ms : Nat} {post : va_W → Prop} (hfl : l.flags = flags0) (hx : p.tables.exec = Jvm.exec) (hb : c.code = cc) (hls : c.maxLocals = ls.size) (hlocks : meth.locks = false) (hown : s.vm.findClass "SegmentIndex" = some m.cls) (htw : tw s) {b0 : Nat} (hA : AS K s A b0) (hno : c.exceptionTable.isEmpty = true) (hP : va_P D classes ws H) (hD : va_D A ws) (hS : va_S A s.heap H locs) (hst : (k, tx) ∈ strs) (hcs : cells + 1 ≤ mc ∧ slots + 6 ≤ ms ∧ mc ≤ R.cells ∧ ms ≤ R.slots) (hR : 5 < R.frames ∧ ((.ref 0 :: rest).map fun v : Value => v.category).sum + 81 ≤ R.locals) (hpost : post ws)
    (d0 : decode cc pc = .ok (.new 41, 3)) (d3 : decode cc (pc + 3) = .ok (.dup, 1)) (d4 : decode cc (pc + 4) = .ok (.ldc k, 2)) (d6 : decode cc (pc + 6) = .ok (.invokespecial 45, 3)) (d9 : decode cc (pc + 9) = .ok (.athrow, 1)) : W p l e R s m args below meth c H locs cells slots (MT below (va_Qt D post "java/lang/IllegalArgumentException" A) args s mc ms A) (F0 m pc ls rest) := by
  intro T0 hT0 X0
  have X1 := st_root X0 (by omega) (by omega)
  have hW0 := X0.warmed
  generalize hs1 : T0.setFrames (.invoking m args :: below) = s1 at X1
  have e1 : s1.vm = T0.vm := by rw [← hs1]; rfl
  have e2 : s1.heap = H := by rw [← hs1]; exact hT0
  have hW1 : s.WarmedH s1.vm := by rw [e1]; exact hW0
  have htw1 : tw s1 := tw_warm hW1 htw
  have hSF1 : SF K b0 s1 := SF_step hA.2.1 hW1 (fun q h1 h2 => by rw [e2]; exact hS.2.1 q h1 (fun h => h2 (hA.2.2.1 q h)))
  have hown1 : s1.vm.findClass "SegmentIndex" = some m.cls := by rw [hW1.alike.findClass]; exact hown
  have K1 : W p l e { R with cells := R.cells - cells, slots := R.slots - slots } s1 m args below meth c H [] 0 0 (fun U => U.status = .running ∧ Ended U below (.threw H.size) ∧ s1.WarmedH U.vm ∧ s1.sameButNew ({ U with vm := s1.vm } : State) [] 1 6 ∧ ∃ ce, U.heap[H.size]? = some ce ∧ Bundle.OwnCell args s1 "java/lang/IllegalArgumentException" H.size (.ref (hSF1.2.2.2.2.1 (k, tx) hst).choose) ce) (F0 m pc ls rest) := by
    refine W.newc (n := 6) (g := F0 m pc ls rest) hx hb hown1 (htw1 _ cl_SI_41 args) (htw1 _ wt_38 args) (htw1 _ w_ini_IA args) rfl d0 (show 0 + 1 ≤ R.cells - cells by omega) (show 0 + 6 ≤ R.slots - slots by omega) ?_
    intro cC kC hcC hkC hord hsz
    have hq := (hSF1.2.2.2.2.1 (k, tx) hst).choose_spec
    refine lv_dup hx hb d3 rfl ?_
    refine va_ldcS hx hb hown1 hq d4 ?_
    intro T hT X
    have htr : e.platform.stackTraces = false := Launch.traces_off hfl X.admits
    have hcell : T.heap[H.size]? = some (freshCell cC kC) := by rw [hT]; simp
    exact X.ctorThrowS hx htr (names := ["java/lang/RuntimeException", "java/lang/Exception"]) hown1 (cls := "java/lang/IllegalArgumentException") (by decide) (by decide) (own_IA htw1 hSF1.2.2.1 hSF1.2.2.2.1) (fun x hxl cell hc => by cases hxl) hcC hkC hcell (by rw [e2]; exact Nat.le_refl _) (msg := .ref (hSF1.2.2.2.2.1 (k, tx) hst).choose) rfl (g := F0 m (pc + 6) ls (.ref (hSF1.2.2.2.2.1 (k, tx) hst).choose :: .ref H.size :: .ref H.size :: rest)) rfl hls.symm rfl rfl rfl (by rw [hb]; exact d6) (by rw [hb]; exact d9) (fun x hxl => by
      have : c.exceptionTable.toList = [] := by
        have h := hno
        simp only [Array.isEmpty_iff] at h
        rw [h]
      rw [this] at hxl
      cases hxl) hR.1 (by
      have h := hR.2
      simp only [List.map_cons, List.sum_cons] at h ⊢
      show 2 * 0 + _ + _ ≤ R.locals
      simp only [Value.category, List.length_cons, List.length_nil] at h ⊢
      omega)
  obtain ⟨U, u1, u2, u3, u4, u5, ce, u6, u7⟩ := K1 T0 hT0 X1
  have u5' : T0.sameButNew ({ U with vm := T0.vm } : State) [] 1 6 := by
    rw [e1] at u5
    rw [← hs1] at u5
    exact same_root u5
  have hU := same_nil u5'
  have hUH : ∀ a : Nat, a < H.size → U.heap[a]? = H[a]? := by
    intro a ha
    rw [← hT0]
    exact hU.2 a (by rw [hT0]; exact ha)
  have hWU : s.WarmedH U.vm := State.WarmedH.trans hW1 u4
  have hsame : s.sameButNew ({ U with vm := s.vm } : State) locs (cells + 1) (slots + 6) := by
    have h := X0.same.trans (u5'.setVm s.vm)
    rw [List.append_nil] at h
    exact h
  refine ⟨U, u1, H.size, u2, u3, ⟨⟨ws, hpost, ?_, hD, ce, u6, ?_, u7.vm⟩, ?_⟩, locs, hWU, hsame.mono hcs.1 hcs.2.1, hS.2.2⟩
  · intro i w hw
    exact (hP i w hw).kept (hUH _ (hP i w hw).lt)
  · rw [u4.alike.findClass]
    exact u7.cls
  · refine ⟨?_, fun q1 h1 h2 => ?_⟩
    · rw [← hT0] at hS
      exact Nat.le_trans hS.1 hU.1
    · rw [hUH q1 (Nat.lt_of_lt_of_le h1 hS.1)]
      exact hS.2.1 q1 h1 h2
theorem xthrow_IS {k : Nat} {tx : String} {mc ms : Nat} {post : va_W → Prop} (hfl : l.flags = flags0) (hx : p.tables.exec = Jvm.exec) (hb : c.code = cc) (hls : c.maxLocals = ls.size) (hlocks : meth.locks = false) (hown : s.vm.findClass "SegmentIndex" = some m.cls) (htw : tw s) {b0 : Nat} (hA : AS K s A b0) (hno : c.exceptionTable.isEmpty = true) (hP : va_P D classes ws H) (hD : va_D A ws) (hS : va_S A s.heap H locs) (hst : (k, tx) ∈ strs) (hcs : cells + 1 ≤ mc ∧ slots + 6 ≤ ms ∧ mc ≤ R.cells ∧ ms ≤ R.slots) (hR : 5 < R.frames ∧ ((.ref 0 :: rest).map fun v : Value => v.category).sum + 81 ≤ R.locals) (hpost : post ws)
    (d0 : decode cc pc = .ok (.new 71, 3)) (d3 : decode cc (pc + 3) = .ok (.dup, 1)) (d4 : decode cc (pc + 4) = .ok (.ldc k, 2)) (d6 : decode cc (pc + 6) = .ok (.invokespecial 75, 3)) (d9 : decode cc (pc + 9) = .ok (.athrow, 1)) : W p l e R s m args below meth c H locs cells slots (MT below (va_Qt D post "java/lang/IllegalStateException" A) args s mc ms A) (F0 m pc ls rest) := by
  intro T0 hT0 X0
  have X1 := st_root X0 (by omega) (by omega)
  have hW0 := X0.warmed
  generalize hs1 : T0.setFrames (.invoking m args :: below) = s1 at X1
  have e1 : s1.vm = T0.vm := by rw [← hs1]; rfl
  have e2 : s1.heap = H := by rw [← hs1]; exact hT0
  have hW1 : s.WarmedH s1.vm := by rw [e1]; exact hW0
  have htw1 : tw s1 := tw_warm hW1 htw
  have hSF1 : SF K b0 s1 := SF_step hA.2.1 hW1 (fun q h1 h2 => by rw [e2]; exact hS.2.1 q h1 (fun h => h2 (hA.2.2.1 q h)))
  have hown1 : s1.vm.findClass "SegmentIndex" = some m.cls := by rw [hW1.alike.findClass]; exact hown
  have K1 : W p l e { R with cells := R.cells - cells, slots := R.slots - slots } s1 m args below meth c H [] 0 0 (fun U => U.status = .running ∧ Ended U below (.threw H.size) ∧ s1.WarmedH U.vm ∧ s1.sameButNew ({ U with vm := s1.vm } : State) [] 1 6 ∧ ∃ ce, U.heap[H.size]? = some ce ∧ Bundle.OwnCell args s1 "java/lang/IllegalStateException" H.size (.ref (hSF1.2.2.2.2.1 (k, tx) hst).choose) ce) (F0 m pc ls rest) := by
    refine W.newc (n := 6) (g := F0 m pc ls rest) hx hb hown1 (htw1 _ cl_SI_71 args) (htw1 _ wt_53 args) (htw1 _ w_ini_IS args) rfl d0 (show 0 + 1 ≤ R.cells - cells by omega) (show 0 + 6 ≤ R.slots - slots by omega) ?_
    intro cC kC hcC hkC hord hsz
    have hq := (hSF1.2.2.2.2.1 (k, tx) hst).choose_spec
    refine lv_dup hx hb d3 rfl ?_
    refine va_ldcS hx hb hown1 hq d4 ?_
    intro T hT X
    have htr : e.platform.stackTraces = false := Launch.traces_off hfl X.admits
    have hcell : T.heap[H.size]? = some (freshCell cC kC) := by rw [hT]; simp
    exact X.ctorThrowS hx htr (names := ["java/lang/RuntimeException", "java/lang/Exception"]) hown1 (cls := "java/lang/IllegalStateException") (by decide) (by decide) (own_IS htw1 hSF1.2.2.1 hSF1.2.2.2.1) (fun x hxl cell hc => by cases hxl) hcC hkC hcell (by rw [e2]; exact Nat.le_refl _) (msg := .ref (hSF1.2.2.2.2.1 (k, tx) hst).choose) rfl (g := F0 m (pc + 6) ls (.ref (hSF1.2.2.2.2.1 (k, tx) hst).choose :: .ref H.size :: .ref H.size :: rest)) rfl hls.symm rfl rfl rfl (by rw [hb]; exact d6) (by rw [hb]; exact d9) (fun x hxl => by
      have : c.exceptionTable.toList = [] := by
        have h := hno
        simp only [Array.isEmpty_iff] at h
        rw [h]
      rw [this] at hxl
      cases hxl) hR.1 (by
      have h := hR.2
      simp only [List.map_cons, List.sum_cons] at h ⊢
      show 2 * 0 + _ + _ ≤ R.locals
      simp only [Value.category, List.length_cons, List.length_nil] at h ⊢
      omega)
  obtain ⟨U, u1, u2, u3, u4, u5, ce, u6, u7⟩ := K1 T0 hT0 X1
  have u5' : T0.sameButNew ({ U with vm := T0.vm } : State) [] 1 6 := by
    rw [e1] at u5
    rw [← hs1] at u5
    exact same_root u5
  have hU := same_nil u5'
  have hUH : ∀ a : Nat, a < H.size → U.heap[a]? = H[a]? := by
    intro a ha
    rw [← hT0]
    exact hU.2 a (by rw [hT0]; exact ha)
  have hWU : s.WarmedH U.vm := State.WarmedH.trans hW1 u4
  have hsame : s.sameButNew ({ U with vm := s.vm } : State) locs (cells + 1) (slots + 6) := by
    have h := X0.same.trans (u5'.setVm s.vm)
    rw [List.append_nil] at h
    exact h
  refine ⟨U, u1, H.size, u2, u3, ⟨⟨ws, hpost, ?_, hD, ce, u6, ?_, u7.vm⟩, ?_⟩, locs, hWU, hsame.mono hcs.1 hcs.2.1, hS.2.2⟩
  · intro i w hw
    exact (hP i w hw).kept (hUH _ (hP i w hw).lt)
  · rw [u4.alike.findClass]
    exact u7.cls
  · refine ⟨?_, fun q1 h1 h2 => ?_⟩
    · rw [← hT0] at hS
      exact Nat.le_trans hS.1 hU.1
    · rw [hUH q1 (Nat.lt_of_lt_of_le h1 hS.1)]
      exact hS.2.1 q1 h1 h2
theorem xthrow_IO {k : Nat} {tx : String} {mc ms : Nat} {post : va_W → Prop} (hfl : l.flags = flags0) (hx : p.tables.exec = Jvm.exec) (hb : c.code = cc) (hls : c.maxLocals = ls.size) (hlocks : meth.locks = false) (hown : s.vm.findClass "SegmentIndex" = some m.cls) (htw : tw s) {b0 : Nat} (hA : AS K s A b0) (hno : c.exceptionTable.isEmpty = true) (hP : va_P D classes ws H) (hD : va_D A ws) (hS : va_S A s.heap H locs) (hst : (k, tx) ∈ strs) (hcs : cells + 1 ≤ mc ∧ slots + 6 ≤ ms ∧ mc ≤ R.cells ∧ ms ≤ R.slots) (hR : 5 < R.frames ∧ ((.ref 0 :: rest).map fun v : Value => v.category).sum + 81 ≤ R.locals) (hpost : post ws)
    (d0 : decode cc pc = .ok (.new 102, 3)) (d3 : decode cc (pc + 3) = .ok (.dup, 1)) (d4 : decode cc (pc + 4) = .ok (.ldc k, 2)) (d6 : decode cc (pc + 6) = .ok (.invokespecial 106, 3)) (d9 : decode cc (pc + 9) = .ok (.athrow, 1)) : W p l e R s m args below meth c H locs cells slots (MT below (va_Qt D post "java/lang/IndexOutOfBoundsException" A) args s mc ms A) (F0 m pc ls rest) := by
  intro T0 hT0 X0
  have X1 := st_root X0 (by omega) (by omega)
  have hW0 := X0.warmed
  generalize hs1 : T0.setFrames (.invoking m args :: below) = s1 at X1
  have e1 : s1.vm = T0.vm := by rw [← hs1]; rfl
  have e2 : s1.heap = H := by rw [← hs1]; exact hT0
  have hW1 : s.WarmedH s1.vm := by rw [e1]; exact hW0
  have htw1 : tw s1 := tw_warm hW1 htw
  have hSF1 : SF K b0 s1 := SF_step hA.2.1 hW1 (fun q h1 h2 => by rw [e2]; exact hS.2.1 q h1 (fun h => h2 (hA.2.2.1 q h)))
  have hown1 : s1.vm.findClass "SegmentIndex" = some m.cls := by rw [hW1.alike.findClass]; exact hown
  have K1 : W p l e { R with cells := R.cells - cells, slots := R.slots - slots } s1 m args below meth c H [] 0 0 (fun U => U.status = .running ∧ Ended U below (.threw H.size) ∧ s1.WarmedH U.vm ∧ s1.sameButNew ({ U with vm := s1.vm } : State) [] 1 6 ∧ ∃ ce, U.heap[H.size]? = some ce ∧ Bundle.OwnCell args s1 "java/lang/IndexOutOfBoundsException" H.size (.ref (hSF1.2.2.2.2.1 (k, tx) hst).choose) ce) (F0 m pc ls rest) := by
    refine W.newc (n := 6) (g := F0 m pc ls rest) hx hb hown1 (htw1 _ cl_SI_102 args) (htw1 _ wt_66 args) (htw1 _ w_ini_IO args) rfl d0 (show 0 + 1 ≤ R.cells - cells by omega) (show 0 + 6 ≤ R.slots - slots by omega) ?_
    intro cC kC hcC hkC hord hsz
    have hq := (hSF1.2.2.2.2.1 (k, tx) hst).choose_spec
    refine lv_dup hx hb d3 rfl ?_
    refine va_ldcS hx hb hown1 hq d4 ?_
    intro T hT X
    have htr : e.platform.stackTraces = false := Launch.traces_off hfl X.admits
    have hcell : T.heap[H.size]? = some (freshCell cC kC) := by rw [hT]; simp
    exact X.ctorThrowS hx htr (names := ["java/lang/RuntimeException", "java/lang/Exception"]) hown1 (cls := "java/lang/IndexOutOfBoundsException") (by decide) (by decide) (own_IO htw1 hSF1.2.2.1 hSF1.2.2.2.1) (fun x hxl cell hc => by cases hxl) hcC hkC hcell (by rw [e2]; exact Nat.le_refl _) (msg := .ref (hSF1.2.2.2.2.1 (k, tx) hst).choose) rfl (g := F0 m (pc + 6) ls (.ref (hSF1.2.2.2.2.1 (k, tx) hst).choose :: .ref H.size :: .ref H.size :: rest)) rfl hls.symm rfl rfl rfl (by rw [hb]; exact d6) (by rw [hb]; exact d9) (fun x hxl => by
      have : c.exceptionTable.toList = [] := by
        have h := hno
        simp only [Array.isEmpty_iff] at h
        rw [h]
      rw [this] at hxl
      cases hxl) hR.1 (by
      have h := hR.2
      simp only [List.map_cons, List.sum_cons] at h ⊢
      show 2 * 0 + _ + _ ≤ R.locals
      simp only [Value.category, List.length_cons, List.length_nil] at h ⊢
      omega)
  obtain ⟨U, u1, u2, u3, u4, u5, ce, u6, u7⟩ := K1 T0 hT0 X1
  have u5' : T0.sameButNew ({ U with vm := T0.vm } : State) [] 1 6 := by
    rw [e1] at u5
    rw [← hs1] at u5
    exact same_root u5
  have hU := same_nil u5'
  have hUH : ∀ a : Nat, a < H.size → U.heap[a]? = H[a]? := by
    intro a ha
    rw [← hT0]
    exact hU.2 a (by rw [hT0]; exact ha)
  have hWU : s.WarmedH U.vm := State.WarmedH.trans hW1 u4
  have hsame : s.sameButNew ({ U with vm := s.vm } : State) locs (cells + 1) (slots + 6) := by
    have h := X0.same.trans (u5'.setVm s.vm)
    rw [List.append_nil] at h
    exact h
  refine ⟨U, u1, H.size, u2, u3, ⟨⟨ws, hpost, ?_, hD, ce, u6, ?_, u7.vm⟩, ?_⟩, locs, hWU, hsame.mono hcs.1 hcs.2.1, hS.2.2⟩
  · intro i w hw
    exact (hP i w hw).kept (hUH _ (hP i w hw).lt)
  · rw [u4.alike.findClass]
    exact u7.cls
  · refine ⟨?_, fun q1 h1 h2 => ?_⟩
    · rw [← hT0] at hS
      exact Nat.le_trans hS.1 hU.1
    · rw [hUH q1 (Nat.lt_of_lt_of_le h1 hS.1)]
      exact hS.2.1 q1 h1 h2
end XTHROW

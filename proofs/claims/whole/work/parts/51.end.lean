theorem tw_of {s : State} {a : Array Value} (h : ∀ w ∈ lw_tbl, w.before a s = true) : tw s := by
  intro w hw A
  have ok : tw_ok w = true := (List.mem_filter.mp hw).2
  have hb := h w (List.mem_filter.mp hw).1
  by_cases hg : goodWord w = true
  · exact word_at (State.WarmedH.refl s) (good_of_word hg) hb
  · cases w with
    | declares x => exact va_Nw.use rfl (va_Nw.warmD (State.WarmedH.refl s) hb)
    | castable a b => exact va_Nw.use rfl (va_Nw.warmC (State.WarmedH.refl s) hb)
    | methodLinkNest a i x h => exact va_Nw.use rfl (va_Nw.warmM (State.WarmedH.refl s) hb)
    | arrayOver ty =>
      cases ty with
      | object C => exact va_AO.use (va_AO.moved (Vm.Alike.refl s.vm) (va_AO.of hb))
      | _ => exact absurd ok hg
    | _ => exact absurd ok hg
theorem LZ_of {C n d : String} {s : State} {a : Array Value} (h1 : (Cond.laysStatic C n d).before a s = true) (h2 : (Cond.isRef (.static C n d)).before a s = true) : LZ C n d s.heap.size s := by
  obtain ⟨c, k, i, f, ad, cell, hc, hi, hst, ha, hcell, hs, hcls, hlt, hty⟩ := Cond.laysStatic_spec h1
  cases hv : (Term.static C n d).eval a s none [] s with
  | none => simp [Cond.before, Cond.holds, Cond.value, hv] at h2
  | some w =>
    obtain ⟨hst', a', cell', ha', hcell', -, hslot⟩ := Term.static_spec hi hv
    cases ha.symm.trans ha'
    cases hcell.symm.trans hcell'
    refine ⟨c, k, i, f, ad, cell, w, hc, hi, hst, ha, hcell, hs, hcls, hlt, hty, hslot, ?_, Nat.not_le.mpr (Array.getElem?_eq_some_iff.mp hcell).1⟩
    simp only [Cond.before, Cond.holds, Cond.value, hv] at h2
    cases w with
    | null => exact Or.inl rfl
    | ref t => exact Or.inr ⟨t, rfl⟩
    | _ => simp at h2
theorem NC_of {x y : String} {s : State} {a : Array Value} (h1 : (Cond.castable x x).before a s = true) (h2 : (Cond.castable y y).before a s = true) (h : (Cond.not (Cond.castable x y)).before a s = true) : NC x y s := by
  obtain ⟨c, t, e1, -, -⟩ := Cond.castable_spec h1
  obtain ⟨c2, t2, e2, -, -⟩ := Cond.castable_spec h2
  refine ⟨c, c2, e1, e2, ?_⟩
  cases hq : s.vm.assignable c c2 with
  | false => rfl
  | true =>
    exfalso
    simp [Cond.before, Cond.holds, Cond.value, e1, e2, hq] at h
theorem eq_int {a : Array Value} {s : State} {t : Term} {z : Int32} (h : (Cond.eq t (.int z)).before a s = true) : t.eval a s none [] s = some (.int z) := by
  cases hv : t.eval a s none [] s with
  | none => simp [Cond.before, Cond.holds, Cond.value, hv] at h
  | some w =>
    have hz : (Term.int z).eval a s none [] s = some (.int z) := rfl
    simp only [Cond.before, Cond.holds, Cond.value, hv, hz] at h
    cases w <;> simp_all
theorem str_of {s : State} {a : Array Value} {k : Nat} {tx : String} (h1 : (Cond.stringRef "SegmentIndex" k tx).before a s = true) (h2 : (Cond.exactly (.string "SegmentIndex" k) "java/lang/String").before a s = true) : ∃ q, vk_R "SegmentIndex" k tx q s := by
  obtain ⟨a2, c, cA, kA, q1, -⟩ := Cond.exactly_spec (args := a) (first := s) (o := none) (s := s) (idx := []) h2
  exact ⟨a2, vk_R.of h1 q1⟩
set_option maxHeartbeats 4000000 in
set_option maxRecDepth 100000 in
theorem whole_start {p : Program} {e : Env} {s : State} {m : MethodId} {below : List Frame} {meth : Method} {c : Code} (l : Launch) (hfl : l.flags = flags0) {b L : Nat} {xs : Nat → Int32} (hL : L ≤ 2560) (C0 : lw_At p s m meth c b L xs) : W p l e room_1 s m #[Value.ref b] below meth c s.heap [] 0 0 (lw_Z below #[Value.ref b] s) (entryFrame m ([Value.ref b] : List Value).toArray 7) := by
  obtain ⟨hx, hb, hr, hml, hown, hts, hX, hbl, hlocks, hgv⟩ := C0
  have htw : tw s := tw_of hts
  have hfl9 := flat_of_before _ hgv
  have hA0 : ∀ a : Nat, a < s.heap.size → ¬ (fun q : Nat => s.heap.size ≤ q) a := fun a h => Nat.not_le.mpr h
  have hgt : ∀ w ∈ gw, w.before #[Value.ref b] s = true := fun w hw => htw w hw _
  obtain ⟨c0, iS0, hKn0⟩ := u_known (n := 2) hgt k_HS.2.1 (htw _ w_ins_HS #[Value.ref b])
  obtain ⟨c1, iS1, hKn1⟩ := u_known (n := 2) hgt k_Ks.2.1 (htw _ w_ins_Ks #[Value.ref b])
  obtain ⟨c2, iS2, hKn2⟩ := u_known (n := 2) hgt k_Pl.2.1 (htw _ w_ins_Pl #[Value.ref b])
  obtain ⟨c3, iS3, hKn3⟩ := u_known (n := 5) hgt k_Sg.2.1 (htw _ w_ins_Sg #[Value.ref b])
  obtain ⟨c4, iS4, hKn4⟩ := u_known (n := 5) hgt k_Sh.2.1 (htw _ w_ins_Sh #[Value.ref b])
  obtain ⟨c5, iS5, hKn5⟩ := u_known (n := 3) hgt k_Tk.2.1 (htw _ w_ins_Tk #[Value.ref b])
  obtain ⟨c6, iS6, hKn6⟩ := u_known (n := 5) hgt k_SI.2.1 (htw _ w_ins_SI #[Value.ref b])
  obtain ⟨c7, iS7, hKn7⟩ := u_known (n := 3) hgt k_AL.2.1 (htw _ w_ins_AL #[Value.ref b])
  obtain ⟨c8, iS8, hKn8⟩ := u_known (n := 15) hgt k_Mo.2.1 (htw _ w_ins_Mo #[Value.ref b])
  obtain ⟨D, hKc⟩ : ∃ D : va_G, ∀ (k : Nat) (q : vw_C), classes[k]? = some q → u_Kn s q.1 q.2.1 q.2.2 (D.1 k) (D.2 k) := by
    refine ⟨(fun k => match k with | 0 => c0 | 1 => c1 | 2 => c2 | 3 => c3 | 4 => c4 | 5 => c5 | 6 => c6 | 7 => c7 | _ => c8, fun k => match k with | 0 => iS0 | 1 => iS1 | 2 => iS2 | 3 => iS3 | 4 => iS4 | 5 => iS5 | 6 => iS6 | 7 => iS7 | _ => iS8), ?_⟩
    intro k q hq
    match k, hq with
    | 0, hq => cases hq; exact hKn0
    | 1, hq => cases hq; exact hKn1
    | 2, hq => cases hq; exact hKn2
    | 3, hq => cases hq; exact hKn3
    | 4, hq => cases hq; exact hKn4
    | 5, hq => cases hq; exact hKn5
    | 6, hq => cases hq; exact hKn6
    | 7, hq => cases hq; exact hKn7
    | 8, hq => cases hq; exact hKn8
    | k + 9, hq => simp [classes] at hq
  obtain ⟨cI, kI, pI, i1, i2, i3⟩ := Cond.arrayClass_spec (htw _ w_arrI #[Value.ref b])
  obtain ⟨cJ, kJ, pJ, j1, j2, j3⟩ := Cond.arrayClass_spec (htw _ w_arrJ #[Value.ref b])
  obtain ⟨cZ, kZ, pZ, z1, z2, z3⟩ := Cond.arrayClass_spec (htw _ w_arrZ #[Value.ref b])
  obtain ⟨pH, cH, kH, g1, -, g2, g3, g4⟩ := Cond.arrayOver_spec (htw _ w_ovH #[Value.ref b])
  obtain ⟨pO, cO, kO, o1, -, o2, o3, o4⟩ := Cond.arrayOver_spec (htw _ w_ovO #[Value.ref b])
  have harr : (Cond.arrayOf (.static "java/util/ArrayList" "DEFAULTCAPACITY_EMPTY_ELEMENTDATA" "[Ljava/lang/Object;") (.object "java/lang/Object")).before #[Value.ref b] s = true := hfl9 _ (by decide +kernel)
  have hlen : (Cond.eq (.length (.static "java/util/ArrayList" "DEFAULTCAPACITY_EMPTY_ELEMENTDATA" "[Ljava/lang/Object;")) (.int 0)).before #[Value.ref b] s = true := hfl9 _ (by decide +kernel)
  obtain ⟨t5, ht5, hT5⟩ := va_Tof (N := 0) (f := fun _ => .null) (A := fun q : Nat => s.heap.size ≤ q) (by decide) harr (eq_int hlen) (fun j hj => absurd hj (Nat.not_lt_zero _)) hA0
  obtain ⟨mi, hmi⟩ := va_Mi.of (C := "[Ljava/lang/Object;") (hfl9 (Cond.isRef (.mirror "[Ljava/lang/Object;")) (by decide +kernel))
  obtain ⟨K, hK9⟩ : ∃ K : Nat → ClassId, K 0 = cI ∧ K 1 = cJ ∧ K 2 = cZ ∧ K 3 = cH ∧ K 4 = cO ∧ K 5 = t5 ∧ K 6 = mi := ⟨fun k => match k with | 0 => cI | 1 => cJ | 2 => cZ | 3 => cH | 4 => cO | 5 => t5 | _ => mi, rfl, rfl, rfl, rfl, rfl, rfl, rfl⟩
  obtain ⟨e0, e1, e2, e3, e4, e5, e6⟩ := hK9
  have hK : va_K D classes (tyl K) s := by
    refine ⟨hKc, ?_⟩
    intro k q hq
    match k, hq with
    | 0, hq => cases hq; rw [e0]; exact ⟨fun n z => ⟨fun k h => (by cases h), kI, i2, pI, i3⟩, i1⟩
    | 1, hq => cases hq; rw [e1]; exact ⟨fun n z => ⟨fun k h => (by cases h), kJ, j2, pJ, j3⟩, j1⟩
    | 2, hq => cases hq; rw [e2]; exact ⟨fun n z => ⟨fun k h => (by cases h), kZ, z2, pZ, z3⟩, z1⟩
    | 3, hq => cases hq; rw [e3]; exact ⟨fun n z => ⟨fun k h => (by cases h), kH, g2, pH, g3⟩, kH, pH, g2, g3, g1, g4⟩
    | 4, hq => cases hq; rw [e4]; exact ⟨fun n z => ⟨fun k h => (by cases h), kO, o2, pO, o3⟩, kO, pO, o2, o3, o1, o4⟩
    | k + 5, hq => simp at hq
  have hSF : SF K s.heap.size s := by
    refine ⟨?_, ?_, ?_, ?_, ?_, ?_, ?_⟩
    · rw [e5]
      exact va_Zof (hts _ w_ls_AL) (htw _ w_ini_AL #[Value.ref b]) ht5 hA0
    · rw [e5]
      exact hT5
    · exact LZ_of (hts _ w_ls_T1) (hfl9 _ (by decide +kernel))
    · exact LZ_of (hts _ w_ls_T2) (hfl9 _ (by decide +kernel))
    · intro i hi
      simp only [strs, List.mem_cons, List.not_mem_nil, or_false] at hi
      rcases hi with rfl | rfl | rfl | rfl | rfl | rfl | rfl | rfl | rfl | rfl
      · exact str_of (hts _ w_str_43) (hfl9 _ (by decide +kernel))
      · exact str_of (hts _ w_str_73) (hfl9 _ (by decide +kernel))
      · exact str_of (hts _ w_str_86) (hfl9 _ (by decide +kernel))
      · exact str_of (hts _ w_str_104) (hfl9 _ (by decide +kernel))
      · exact str_of (hts _ w_str_132) (hfl9 _ (by decide +kernel))
      · exact str_of (hts _ w_str_145) (hfl9 _ (by decide +kernel))
      · exact str_of (hts _ w_str_147) (hfl9 _ (by decide +kernel))
      · exact str_of (hts _ w_str_149) (hfl9 _ (by decide +kernel))
      · exact str_of (hts _ w_str_160) (hfl9 _ (by decide +kernel))
      · exact str_of (hts _ w_str_162) (hfl9 _ (by decide +kernel))
    · rw [e6]
      exact hmi
    · exact NC_of (htw _ w_cas_IS #[Value.ref b]) (htw _ w_cas_IA #[Value.ref b]) (hfl9 _ (by decide +kernel))
  have hA : AS K s (fun q : Nat => s.heap.size ≤ q) s.heap.size := ⟨fun q h => h, hSF, fun q h => h, Nat.le_refl _⟩
  rw [lg_entry_eq]
  exact law_start hfl hx hb hml hown htw hK hA hX hbl hL hr hlocks (lv_entry [Value.ref b] (Nat.le_of_ble_eq_true rfl))
set_option maxHeartbeats 4000000 in
theorem lw_walk (l : Launch) (hfl : l.flags = flags0) (b : Addr) (xs : List Int32) : MetFree l x (headSpec (Jvm.Cond.code x code maxLocals ret :: tables_1) room_1) (lw_P b xs) (fun _ _ _ _ _ => True) lw_Q := by
  refine MetFree.of_bodyS (code := code) (maxLocals := maxLocals) (ret := ret) (by decide) ?_ ?_
  · intro args s m h hn
    obtain ⟨meth, c, h1, h2, h3, h4, h5, h6, -, -⟩ := Cond.code_spec hn (atoms_spec (ws := Jvm.Cond.code x code maxLocals ret :: tables_1) h _ List.mem_cons_self)
    exact ⟨meth, c, h1, h2, h3, h4, h5, h6⟩
  · intro p e s m args below meth c s₁ B hml0 hP _
    obtain ⟨rfl, hx, hbd, hgv⟩ := hP
    obtain ⟨scr, harrAt, hlist, hof, hsmall⟩ := hx
    obtain ⟨hcb, hkn, -, -⟩ := State.arrayAt?_spec harrAt
    have hown : s.vm.findClass R_law = some m.cls := findClass_of_methodNamed B.named
    have hts0 : ∀ c ∈ (Jvm.Cond.code x code maxLocals ret :: tables_1), c.before #[Value.ref b] s = true := atoms_spec (ws := Jvm.Cond.code x code maxLocals ret :: tables_1) B.pre
    have hts : ∀ w ∈ lw_tbl, w.before #[Value.ref b] s = true := k2_hts_sels lw_privs (fun w hw => hts0 w (List.mem_cons_of_mem _ hw)) lw_privs_ok
    have hml : c.maxLocals = 7 := B.maxLocals_eq (hts0 _ List.mem_cons_self)
    have X₀ : Stand p l e room_1 s m #[Value.ref b] below meth c s₁ [] 0 0 := Stand.of_body B
    have hh0 : s₁.heap = s.heap := by rw [B.state]; rfl
    have hsz : scr.slots.size = xs.length := by rw [← Array.length_toList, hlist, List.length_map]
    have hval : ∀ j : Nat, j < xs.length → scr.slots[j]? = some (.int (xs.getD j 0)) := fun j hj => by
      rw [← Array.getElem?_toList, hlist]
      simp [hj]
    have hbl : b < s.heap.size := (Array.getElem?_eq_some_iff.mp hcb).1
    have hX : va_X b xs.length (fun j => xs.getD j 0) s s.heap := ⟨scr, hcb, hof, hkn, hsz, hval⟩
    have K : W p l e room_1 s m #[Value.ref b] below meth c s₁.heap [] 0 0 (lw_Z below #[Value.ref b] s) (entryFrame m ([Value.ref b] : List Value).toArray 7) := by
      rw [hh0]
      exact whole_start l hfl hbd ⟨B.exec, B.bytes, B.returns, hml, hown, hts, hX, hbl, B.notSynchronized, hgv⟩
    obtain ⟨t, a1, o, b1, b2, b3⟩ := K s₁ rfl X₀
    exact ⟨t, o, a1, b1, b2, b3⟩
theorem lw_pre_spec {args : Array Value} {s : State} (h : (Jvm.Cond.and given_1 narrow_1).before args s = true) (hr : rest_1_c.before args s = true) : ∃ (b : Addr) (xs : List Int32), lw_P b xs args s := by
  have hs := flat_of_before _ h
  have hq := flat_of_before _ hr
  have hc : (Cond.count 1).before args s = true := hs _ (by decide +kernel)
  have harr : (Cond.arrayOf (.arg 0) .int).before args s = true := hs _ (by decide +kernel)
  have hle : (Cond.le (.length (.arg 0)) (.int 2560)).before args s = true := hs _ (by decide +kernel)
  have hlen : (Cond.isInt (.length (.arg 0))).before args s = true := hq _ (by decide +kernel)
  have hall : (Cond.all (.arg 0) (.isInt (.elem (.arg 0) (.index 0)))).before args s = true := hq _ (by decide +kernel)
  obtain ⟨b, xs, hb, hx⟩ := State.ints_of_pre rfl harr hlen hall
  have hsm : xs.length < 2 ^ 31 := hx.choose_spec.2.2.2
  have hev : (Term.length (.arg 0)).eval args s none [] s = some (.int xs.length.toInt32) := hx.length_eval hb
  have hv := Cond.le_ints hev (show (Term.int 2560).eval args s none [] s = some (.int 2560) from rfl)
  have hd : xs.length.toInt32 ≤ 2560 := by
    simpa [Cond.before, Cond.holds, hv] using hle
  have hN : xs.length ≤ 2560 := (Int32.ofNat_le_ofNat hsm (by decide)).mp (show Int32.ofNat xs.length ≤ Int32.ofNat 2560 from hd)
  exact ⟨b, xs, Cond.one_arg hc (show args[0]? = some (.ref b) from hb), hx, hN, h⟩
theorem lw_comes (l : Launch) (hfl : l.flags = flags0) : Comes l x (Jvm.Cond.code x code maxLocals ret :: tables_1) room_1 (fun tb e args s => Calls_1 tb e args s ∧ rest_1 tb e args s ∧ Pre_1 tb e args s)
    (fun _ _ args s o t => lw_Q args s o t) := by
  intro p e ha hc hk s m args below hf hfit hheap happ hpre
  obtain ⟨b, xs, hP⟩ := lw_pre_spec hpre.2.2 hpre.2.1
  obtain ⟨k, o, h1, h2, h3, hQ⟩ := lw_walk l hfl b xs p e ha hc hk s m args below hf ((Spec.applies_iff_loose hf).mp happ).1 hP trivial
  exact ⟨k, o, h1, h2, h3, hQ⟩
theorem lw_frame {s t : State} {o : Outcome} {args : Array Value} (h : Framed s o t [] 601024 7293034) :
    Framed s o t (fieldLocs frame_1_writes args s ++ arrayLocs frame_1_arrays args s ++ staticLocs frame_1_statics s) 601024 7293034 := h
theorem lw_limb (L : Cond) (hL : ∀ (args : Array Value) (s t : State), L.after args s (.returned (some (.int 1))) t = true) :
    ArmFor flags0 classFile x code maxLocals ret World_1 tables_1 room_1 Calls_1 rest_1 Pre_1
      (fun tb e a s o t => postC L tb e a s o t ∧ Framed s o t (fieldLocs frame_1_writes a s ++ arrayLocs frame_1_arrays a s ++ staticLocs frame_1_statics s) 601024 7293034) := by
  intro l hfl _ _ p e ha hc hk s m args below hf hfit hheap happ hpre
  obtain ⟨k, o, h1, h2, h3, rfl, hF⟩ := lw_comes l hfl p e ha hc hk s m args below hf hfit hheap happ hpre
  exact ⟨k, _, h1, h2, h3, hL args s _, lw_frame hF⟩
theorem i_vc : Claimed_1_1 ∧ Claimed_1_2 := ⟨lw_limb limb_1_1 (fun args s t => by simp [limb_1_1, Cond.after, Cond.holds, Cond.value]), lw_limb limb_1_2 (fun args s t => Cond.after_iff.mpr (by
  first | (rw [show limb_1_2 = Cond.eq .result (.int 1) from rfl, Cond.eq_ints (x := 1) (y := 1) rfl rfl]; simp; done) | (simp [limb_1_2, Cond.value, Term.eval]; done)))⟩


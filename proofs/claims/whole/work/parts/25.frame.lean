theorem nd_of : ∀ {l : List Nat}, l.Nodup → va_nd l = true
  | [], _ => rfl
  | a :: l, h => by
    rw [List.nodup_cons] at h
    simp only [va_nd, Bool.and_eq_true, decide_eq_true_eq]
    exact ⟨h.1, nd_of h.2⟩
theorem nodup_of_nd : ∀ {l : List Nat}, va_nd l = true → l.Nodup
  | [], _ => List.nodup_nil
  | a :: l, h => by
    simp only [va_nd, Bool.and_eq_true, decide_eq_true_eq] at h
    exact List.nodup_cons.mpr ⟨h.1, nodup_of_nd h.2⟩
abbrev ixR (wr : va_W) : List Nat := List.range wr.length
abbrev ixC (wr wc : va_W) : List Nat := (List.range wc.length).map (wr.length + ·)
theorem ap_R (wr wc : va_W) : (ixR wr).map (fun i => (wr ++ wc)[i]?) = wr.map some := by
  apply List.ext_getElem
  · simp
  · intro i h1 h2
    simp only [List.length_map, List.length_range] at h1
    simp [List.getElem?_append_left h1, List.getElem?_eq_getElem h1]
theorem ap_C (wr wc : va_W) : (ixC wr wc).map (fun i => (wr ++ wc)[i]?) = wc.map some := by
  apply List.ext_getElem
  · simp
  · intro i h1 h2
    simp only [List.length_map, List.length_range] at h1
    simp [List.getElem?_append_right, List.getElem?_eq_getElem h1]
theorem nd_R (wr : va_W) : va_nd (ixR wr) = true := nd_of List.nodup_range
theorem nd_C (wr wc : va_W) : va_nd (ixC wr wc) = true := nd_of (List.Pairwise.map _ (fun a b h => by omega) List.nodup_range)
theorem ds_RC (wr wc : va_W) : ∀ i ∈ ixR wr, i ∉ ixC wr wc := by
  intro i h1 h2
  rw [List.mem_range] at h1
  obtain ⟨j, -, e⟩ := List.mem_map.mp h2
  omega
theorem P_mem {D : va_G} {ws : va_W} {H : Heap} (h : va_P D classes ws H) {q : Nat × va_E} (hq : q ∈ ws) : va_at D classes q H := by
  obtain ⟨k, hk⟩ := List.getElem?_of_mem hq
  exact h k q hk
theorem D_iff {A : Nat → Prop} {ws : va_W} : va_D A ws ↔ (ws.map Prod.fst).Nodup ∧ ∀ q ∈ ws, A q.1 := by
  constructor
  · intro h
    refine ⟨?_, fun q hq => ?_⟩
    · refine List.pairwise_iff_getElem.mpr ?_
      intro i j hi hj hij e
      rw [List.length_map] at hi hj
      rw [List.getElem_map, List.getElem_map] at e
      have := h.1 i j _ _ (List.getElem?_eq_getElem hi) (List.getElem?_eq_getElem hj) e
      omega
    · obtain ⟨k, hk⟩ := List.getElem?_of_mem hq
      exact h.2 k q hk
  · intro h
    refine ⟨fun i j p q hi hj e => ?_, fun k q hk => h.2 q (List.mem_of_getElem? hk)⟩
    have hn := List.pairwise_iff_getElem.mp h.1
    obtain ⟨li, ei⟩ := List.getElem?_eq_some_iff.mp hi
    obtain ⟨lj, ej⟩ := List.getElem?_eq_some_iff.mp hj
    have key : ∀ (a b : Nat) (ha : a < ws.length) (hb : b < ws.length), a < b → (ws[a]).1 ≠ (ws[b]).1 := fun a b ha hb hab hh => hn a b (by rw [List.length_map]; exact ha) (by rw [List.length_map]; exact hb) hab (by rw [List.getElem_map, List.getElem_map]; exact hh)
    rcases Nat.lt_trichotomy i j with c | c | c
    · exact absurd (by rw [ei, ej]; exact e) (key i j li lj c)
    · exact c
    · exact absurd (by rw [ei, ej]; exact e.symm) (key j i lj li c)
/-- the world in another order -/
theorem xperm {D : va_G} {A : Nat → Prop} {ws ws' : va_W} {H : Heap} (hs : ws.Perm ws') (hP : va_P D classes ws H) (hD : va_D A ws) : va_P D classes ws' H ∧ va_D A ws' := by
  refine ⟨fun k q hk => P_mem hP (hs.symm.subset (List.mem_of_getElem? hk)), ?_⟩
  rw [D_iff] at hD ⊢
  exact ⟨(hs.map Prod.fst).nodup_iff.mp hD.1, fun q hq => hD.2 q (hs.symm.subset hq)⟩
/-- a part of the world -/
theorem xsub {D : va_G} {A : Nat → Prop} {wc wr : va_W} {H : Heap} (hP : va_P D classes (wr ++ wc) H) (hD : va_D A (wr ++ wc)) : va_P D classes wc H ∧ va_D A wc := by
  refine ⟨fun k q hk => P_mem hP (List.mem_append_right _ (List.mem_of_getElem? hk)), ?_⟩
  rw [D_iff] at hD ⊢
  exact ⟨List.Nodup.sublist ((List.sublist_append_right wr wc).map Prod.fst) hD.1, fun q hq => hD.2 q (List.mem_append_right _ hq)⟩
/-- the frame rule in its plain form -/
theorem joinA {A0 : Nat → Prop} {D : va_G} {wc wr w1 : va_W} {H H1 : Heap} (hP : va_P D classes (wr ++ wc) H) (hD : va_D A0 (wr ++ wc)) (hk : ∀ q : Nat, q < H.size → ¬ va_A wc H.size q → H1[q]? = H[q]?) (hF : ∀ q, va_A wc H.size q → A0 q) (hP1 : va_P D classes w1 H1) (hD1 : va_D (va_A wc H.size) w1) : va_P D classes (wr ++ w1) H1 ∧ va_D A0 (wr ++ w1) :=
  va_join hP hD (ixC wr wc) (ixR wr) (ap_C wr wc) (ap_R wr wc) (nd_R wr) (ds_RC wr wc) hk hF hP1 hD1
theorem A_mono {wc ws : va_W} {sz : Nat} (h : ∀ q ∈ wc, q ∈ ws) : ∀ q, va_A wc sz q → va_A ws sz q := by
  intro q h1
  rcases h1 with ⟨k, e, hk⟩ | h1
  · obtain ⟨j, hj⟩ := List.getElem?_of_mem (h _ (List.mem_of_getElem? hk))
    exact Or.inl ⟨j, e, hj⟩
  · exact Or.inr h1
theorem PW_sub {D : va_G} {K : Nat → ClassId} {sz b0 : Nat} {ws wc wr : va_W} {av : List Value} (hp : ws.Perm (wr ++ wc)) {v : Array Value} {U : State} (h : PW D K sz b0 ws av v U) : PW D K sz b0 wc av v U := by
  obtain ⟨h1, h2, h3, h4, h5, h6, h7, h8⟩ := h
  obtain ⟨hP0, hD0⟩ := xperm hp h4 h6
  obtain ⟨hP, hD⟩ := xsub hP0 hD0
  exact ⟨h1, h2, h3, hP, h5, hD, h7, h8⟩
/-- what a method leaves of a larger world -/
theorem use_post {D : va_G} {K : Nat → ClassId} {sz b0 : Nat} {ws wc wr u u' : va_W} {av : List Value} {v : Array Value} {s t : State} (hp : ws.Perm (wr ++ wc)) (h : PW D K sz b0 ws av v s) (hF : va_F (va_A wc sz) s t) (hP1 : va_P D classes u t.heap) (hD1 : va_D (va_A wc sz) u) (hu : u'.Perm (wr ++ u)) : (va_P D classes u' t.heap ∧ va_D (va_A ws sz) u') ∧ va_F (va_A ws sz) s t := by
  obtain ⟨h1, h2, h3, h4, h5, h6, h7, h8⟩ := h
  subst h3
  have hm : ∀ q, va_A wc s.heap.size q → va_A ws s.heap.size q := A_mono fun q hq => hp.symm.subset (List.mem_append_right _ hq)
  obtain ⟨hP, hD⟩ := xperm hp h4 (h6.self (sz := s.heap.size))
  obtain ⟨hP2, hD2⟩ := joinA hP hD hF.2 hm hP1 hD1
  obtain ⟨hP3, hD3⟩ := xperm hu.symm hP2 hD2
  exact ⟨⟨hP3, hD3⟩, hF.1, fun q q1 q2 => hF.2 q q1 fun q3 => q2 (hm q q3)⟩
theorem pm_new (E tl w : va_W) : ((E ++ tl) ++ w).Perm ((E ++ w) ++ tl) := by
  rw [List.append_assoc, List.append_assoc]
  exact List.Perm.append_left E List.perm_append_comm
theorem pm_mid (R C tl : va_W) : ((R ++ C) ++ tl).Perm ((R ++ tl) ++ C) := pm_new R C tl
theorem pm_as (R C tl : va_W) : ((R ++ C) ++ tl).Perm (R ++ (C ++ tl)) := by rw [List.append_assoc]
/-- the first cells in another order, or fewer of them *)-/
theorem xpT {D : va_G} {A : Nat → Prop} {E E' tl : va_W} {H : Heap} (is : List Nat) (hn : va_nd is = true) (hs : is.map (fun i => E[i]?) = E'.map some) (hP : va_P D classes (E ++ tl) H) (hD : va_D A (E ++ tl)) : va_P D classes (E' ++ tl) H ∧ va_D A (E' ++ tl) := by
  have hin : ∀ q ∈ E', q ∈ E := by
    intro q hq
    have h1 : some q ∈ E'.map some := List.mem_map.mpr ⟨q, hq, rfl⟩
    rw [← hs] at h1
    obtain ⟨i, -, hi⟩ := List.mem_map.mp h1
    exact List.mem_of_getElem? hi
  have hE : va_D A E := by
    rw [D_iff] at hD ⊢
    exact ⟨List.Nodup.sublist ((List.sublist_append_left E tl).map Prod.fst) hD.1, fun q hq => hD.2 q (List.mem_append_left _ hq)⟩
  refine ⟨fun k q hk => P_mem hP ?_, va_D.app (hE.sub is hn hs) (xsub hP hD).2 ?_⟩
  · rcases List.mem_append.mp (List.mem_of_getElem? hk) with h | h
    · exact List.mem_append_left _ (hin q h)
    · exact List.mem_append_right _ h
  · intro i j x y hx hy e
    obtain ⟨k, hk⟩ := List.getElem?_of_mem (hin x (List.mem_of_getElem? hx))
    have lk := (List.getElem?_eq_some_iff.mp hk).1
    have := hD.1 k (E.length + j) x y (by rw [List.getElem?_append_left lk]; exact hk) (by rw [List.getElem?_append_right (by omega), Nat.add_sub_cancel_left]; exact hy) e
    omega
theorem CI_use {l : Launch} {y : MethodName} {cc : ByteArray} {maxL : Nat} {ret : FieldType} {rm : Room} {D : va_G} {K : Nat → ClassId} {av : List Value} {ws wc : va_W} {post post' : Int32 → va_W → Prop} (wr : va_W) (hM : CI l y cc maxL ret rm D K av wc post) (hp : ws.Perm (wr ++ wc)) (hpost : ∀ (r : Int32) u, post r u → ∃ u' : va_W, u'.Perm (wr ++ u) ∧ post' r u') : CI l y cc maxL ret rm D K av ws post' := by
  intro sz b0 p e ha hc hk s m args below hf happ hv hKK
  obtain ⟨n, o, h1, h2, h3, hq, L, hFE, hL⟩ := hM sz b0 p e ha hc hk s m args below hf happ (PW_sub hp hv) hKK
  have hm : ∀ q, va_A wc sz q → va_A ws sz q := A_mono fun q hq => hp.symm.subset (List.mem_append_right _ hq)
  obtain ⟨⟨r, u, rfl, q1, q2, q3⟩, q4⟩ := hq
  obtain ⟨u', e1, e2⟩ := hpost r u q1
  obtain ⟨g1, g2⟩ := use_post hp hv q4 q2 q3 e1
  exact ⟨n, _, h1, h2, h3, ⟨⟨r, u', rfl, e2, g1⟩, g2⟩, L, hFE, fun q hq => hm _ (hL q hq)⟩
theorem CL_use {l : Launch} {y : MethodName} {cc : ByteArray} {maxL : Nat} {rm : Room} {D : va_G} {K : Nat → ClassId} {av : List Value} {ws wc : va_W} {post post' : Int64 → va_W → Prop} (wr : va_W) (hM : CL l y cc maxL rm D K av wc post) (hp : ws.Perm (wr ++ wc)) (hpost : ∀ (r : Int64) u, post r u → ∃ u' : va_W, u'.Perm (wr ++ u) ∧ post' r u') : CL l y cc maxL rm D K av ws post' := by
  intro sz b0 p e ha hc hk s m args below hf happ hv hKK
  obtain ⟨n, o, h1, h2, h3, hq, L, hFE, hL⟩ := hM sz b0 p e ha hc hk s m args below hf happ (PW_sub hp hv) hKK
  have hm : ∀ q, va_A wc sz q → va_A ws sz q := A_mono fun q hq => hp.symm.subset (List.mem_append_right _ hq)
  obtain ⟨⟨r, u, rfl, q1, q2, q3⟩, q4⟩ := hq
  obtain ⟨u', e1, e2⟩ := hpost r u q1
  obtain ⟨g1, g2⟩ := use_post hp hv q4 q2 q3 e1
  exact ⟨n, _, h1, h2, h3, ⟨⟨r, u', rfl, e2, g1⟩, g2⟩, L, hFE, fun q hq => hm _ (hL q hq)⟩
theorem CV_use {l : Launch} {y : MethodName} {cc : ByteArray} {maxL : Nat} {rm : Room} {D : va_G} {K : Nat → ClassId} {av : List Value} {ws wc : va_W} {post post' : va_W → Prop} (wr : va_W) (hM : CV l y cc maxL rm D K av wc post) (hp : ws.Perm (wr ++ wc)) (hpost : ∀ u, post u → ∃ u' : va_W, u'.Perm (wr ++ u) ∧ post' u') : CV l y cc maxL rm D K av ws post' := by
  intro sz b0 p e ha hc hk s m args below hf happ hv hKK
  obtain ⟨n, o, h1, h2, h3, hq, L, hFE, hL⟩ := hM sz b0 p e ha hc hk s m args below hf happ (PW_sub hp hv) hKK
  have hm : ∀ q, va_A wc sz q → va_A ws sz q := A_mono fun q hq => hp.symm.subset (List.mem_append_right _ hq)
  obtain ⟨⟨u, rfl, q1, q2, q3⟩, q4⟩ := hq
  obtain ⟨u', e1, e2⟩ := hpost u q1
  obtain ⟨g1, g2⟩ := use_post hp hv q4 q2 q3 e1
  exact ⟨n, _, h1, h2, h3, ⟨⟨u', rfl, e2, g1⟩, g2⟩, L, hFE, fun q hq => hm _ (hL q hq)⟩
theorem CR_use {l : Launch} {y : MethodName} {cc : ByteArray} {maxL : Nat} {ret : FieldType} {rm : Room} {D : va_G} {K : Nat → ClassId} {av : List Value} {ws wc : va_W} {post post' : Nat → va_W → Prop} (wr : va_W) (hM : CR l y cc maxL ret rm D K av wc post) (hp : ws.Perm (wr ++ wc)) (hpost : ∀ (r : Nat) u, post r u → ∃ u' : va_W, u'.Perm (wr ++ u) ∧ post' r u') : CR l y cc maxL ret rm D K av ws post' := by
  intro sz b0 p e ha hc hk s m args below hf happ hv hKK
  obtain ⟨n, o, h1, h2, h3, hq, L, hFE, hL⟩ := hM sz b0 p e ha hc hk s m args below hf happ (PW_sub hp hv) hKK
  have hm : ∀ q, va_A wc sz q → va_A ws sz q := A_mono fun q hq => hp.symm.subset (List.mem_append_right _ hq)
  obtain ⟨⟨u, a, rfl, q1, rfl, q2, q3⟩, q4⟩ := hq
  obtain ⟨u', e1, e2⟩ := hpost u.1 u.2 q1
  obtain ⟨g1, g2⟩ := use_post hp hv q4 q2 q3 e1
  exact ⟨n, _, h1, h2, h3, ⟨⟨(u.1, u'), u.1, rfl, e2, rfl, g1⟩, g2⟩, L, hFE, fun q hq => hm _ (hL q hq)⟩

-- ===== PART A: goes FIRST, ahead of the names: the tables' words, and 'selects' of the private methods out of them =====
/-- a private method of a class that the tables say can be made, by its rows of tables_1 -/
def lw_okq (q : MethodName × Nat) : Prop := (q.1.cls ≠ "java/lang/invoke/MethodHandle" ∧ q.1.cls ≠ "java/lang/invoke/VarHandle") ∧ Cond.instantiable q.1.cls q.2 ∈ tables_1 ∧ Cond.privateMethod q.1 ∈ tables_1 ∧ Cond.instanceMethod q.1 ∈ tables_1
theorem lw_p0 : lw_okq (⟨"SegmentIndex", "flushBuffer", "()V"⟩, 5) := ⟨⟨by decide +kernel, by decide +kernel⟩, List.mem_of_getElem? (i := 25) (by decide +kernel), List.mem_of_getElem? (i := 172) (by decide +kernel), List.mem_of_getElem? (i := 173) (by decide +kernel)⟩
theorem lw_p1 : lw_okq (⟨"SegmentIndex", "putTogether", "(II)I"⟩, 5) := ⟨⟨by decide +kernel, by decide +kernel⟩, List.mem_of_getElem? (i := 25) (by decide +kernel), List.mem_of_getElem? (i := 176) (by decide +kernel), List.mem_of_getElem? (i := 177) (by decide +kernel)⟩
theorem lw_p2 : lw_okq (⟨"SegmentIndex$Keys", "sink", "(II)V"⟩, 2) := ⟨⟨by decide +kernel, by decide +kernel⟩, List.mem_of_getElem? (i := 137) (by decide +kernel), List.mem_of_getElem? (i := 231) (by decide +kernel), List.mem_of_getElem? (i := 232) (by decide +kernel)⟩
theorem lw_p3 : lw_okq (⟨"java/util/ArrayList", "add", "(Ljava/lang/Object;[Ljava/lang/Object;I)V"⟩, 3) := ⟨⟨by decide +kernel, by decide +kernel⟩, List.mem_of_getElem? (i := 79) (by decide +kernel), List.mem_of_getElem? (i := 264) (by decide +kernel), List.mem_of_getElem? (i := 265) (by decide +kernel)⟩
theorem lw_p4 : lw_okq (⟨"java/util/ArrayList", "grow", "()[Ljava/lang/Object;"⟩, 3) := ⟨⟨by decide +kernel, by decide +kernel⟩, List.mem_of_getElem? (i := 79) (by decide +kernel), List.mem_of_getElem? (i := 268) (by decide +kernel), List.mem_of_getElem? (i := 269) (by decide +kernel)⟩
theorem lw_p5 : lw_okq (⟨"java/util/ArrayList", "grow", "(I)[Ljava/lang/Object;"⟩, 3) := ⟨⟨by decide +kernel, by decide +kernel⟩, List.mem_of_getElem? (i := 79) (by decide +kernel), List.mem_of_getElem? (i := 272) (by decide +kernel), List.mem_of_getElem? (i := 273) (by decide +kernel)⟩
theorem lw_p6 : lw_okq (⟨"SegmentIndex", "lastFourAreAlike", "()Z"⟩, 5) := ⟨⟨by decide +kernel, by decide +kernel⟩, List.mem_of_getElem? (i := 25) (by decide +kernel), List.mem_of_getElem? (i := 313) (by decide +kernel), List.mem_of_getElem? (i := 314) (by decide +kernel)⟩
theorem lw_p7 : lw_okq (⟨"SegmentIndex", "mergeLastFour", "()V"⟩, 5) := ⟨⟨by decide +kernel, by decide +kernel⟩, List.mem_of_getElem? (i := 25) (by decide +kernel), List.mem_of_getElem? (i := 335) (by decide +kernel), List.mem_of_getElem? (i := 336) (by decide +kernel)⟩
theorem lw_p8 : lw_okq (⟨"SegmentIndex", "cutSegments", "(I)V"⟩, 5) := ⟨⟨by decide +kernel, by decide +kernel⟩, List.mem_of_getElem? (i := 25) (by decide +kernel), List.mem_of_getElem? (i := 339) (by decide +kernel), List.mem_of_getElem? (i := 340) (by decide +kernel)⟩
theorem lw_p9 : lw_okq (⟨"java/util/ArrayList", "fastRemove", "([Ljava/lang/Object;I)V"⟩, 3) := ⟨⟨by decide +kernel, by decide +kernel⟩, List.mem_of_getElem? (i := 79) (by decide +kernel), List.mem_of_getElem? (i := 347) (by decide +kernel), List.mem_of_getElem? (i := 348) (by decide +kernel)⟩
theorem lw_p10 : lw_okq (⟨"SegmentIndex", "highestLevel", "()I"⟩, 5) := ⟨⟨by decide +kernel, by decide +kernel⟩, List.mem_of_getElem? (i := 25) (by decide +kernel), List.mem_of_getElem? (i := 356) (by decide +kernel), List.mem_of_getElem? (i := 357) (by decide +kernel)⟩
theorem lw_p11 : lw_okq (⟨"SegmentIndex", "rankDocuments", "(LSegmentIndex$HitSet;)V"⟩, 5) := ⟨⟨by decide +kernel, by decide +kernel⟩, List.mem_of_getElem? (i := 25) (by decide +kernel), List.mem_of_getElem? (i := 399) (by decide +kernel), List.mem_of_getElem? (i := 400) (by decide +kernel)⟩
theorem lw_p12 : lw_okq (⟨"java/lang/Throwable", "fillInStackTrace", "(I)Ljava/lang/Throwable;"⟩, 6) := ⟨⟨by decide +kernel, by decide +kernel⟩, List.mem_of_getElem? (i := 465) (by decide +kernel), List.mem_of_getElem? (i := 463) (by decide +kernel), List.mem_of_getElem? (i := 464) (by decide +kernel)⟩
theorem lw_p13 : lw_okq (⟨"SegmentIndex$Shelf", "comesAfter", "(IIJ)Z"⟩, 5) := ⟨⟨by decide +kernel, by decide +kernel⟩, List.mem_of_getElem? (i := 33) (by decide +kernel), List.mem_of_getElem? (i := 506) (by decide +kernel), List.mem_of_getElem? (i := 507) (by decide +kernel)⟩
theorem lw_p14 : lw_okq (⟨"SegmentIndex$Shelf", "gatherFrom", "(IIJJLSegmentIndex$HitSet;)V"⟩, 5) := ⟨⟨by decide +kernel, by decide +kernel⟩, List.mem_of_getElem? (i := 33) (by decide +kernel), List.mem_of_getElem? (i := 600) (by decide +kernel), List.mem_of_getElem? (i := 601) (by decide +kernel)⟩
theorem lw_p15 : lw_okq (⟨"SegmentIndex$HitSet", "hasAtDistance", "(III)Z"⟩, 2) := ⟨⟨by decide +kernel, by decide +kernel⟩, List.mem_of_getElem? (i := 112) (by decide +kernel), List.mem_of_getElem? (i := 635) (by decide +kernel), List.mem_of_getElem? (i := 636) (by decide +kernel)⟩
def lw_privs_1 : List (MethodName × Nat) := [(⟨"SegmentIndex", "flushBuffer", "()V"⟩, 5), (⟨"SegmentIndex", "putTogether", "(II)I"⟩, 5), (⟨"SegmentIndex$Keys", "sink", "(II)V"⟩, 2), (⟨"java/util/ArrayList", "add", "(Ljava/lang/Object;[Ljava/lang/Object;I)V"⟩, 3), (⟨"java/util/ArrayList", "grow", "()[Ljava/lang/Object;"⟩, 3), (⟨"java/util/ArrayList", "grow", "(I)[Ljava/lang/Object;"⟩, 3), (⟨"SegmentIndex", "lastFourAreAlike", "()Z"⟩, 5), (⟨"SegmentIndex", "mergeLastFour", "()V"⟩, 5), (⟨"SegmentIndex", "cutSegments", "(I)V"⟩, 5), (⟨"java/util/ArrayList", "fastRemove", "([Ljava/lang/Object;I)V"⟩, 3), (⟨"SegmentIndex", "highestLevel", "()I"⟩, 5), (⟨"SegmentIndex", "rankDocuments", "(LSegmentIndex$HitSet;)V"⟩, 5), (⟨"java/lang/Throwable", "fillInStackTrace", "(I)Ljava/lang/Throwable;"⟩, 6), (⟨"SegmentIndex$Shelf", "comesAfter", "(IIJ)Z"⟩, 5), (⟨"SegmentIndex$Shelf", "gatherFrom", "(IIJJLSegmentIndex$HitSet;)V"⟩, 5), (⟨"SegmentIndex$HitSet", "hasAtDistance", "(III)Z"⟩, 2)]
theorem lw_r1 : ∀ q ∈ lw_privs_1, lw_okq q := List.forall_mem_cons.mpr ⟨lw_p0, List.forall_mem_cons.mpr ⟨lw_p1, List.forall_mem_cons.mpr ⟨lw_p2, List.forall_mem_cons.mpr ⟨lw_p3, List.forall_mem_cons.mpr ⟨lw_p4, List.forall_mem_cons.mpr ⟨lw_p5, List.forall_mem_cons.mpr ⟨lw_p6, List.forall_mem_cons.mpr ⟨lw_p7, List.forall_mem_cons.mpr ⟨lw_p8, List.forall_mem_cons.mpr ⟨lw_p9, List.forall_mem_cons.mpr ⟨lw_p10, List.forall_mem_cons.mpr ⟨lw_p11, List.forall_mem_cons.mpr ⟨lw_p12, List.forall_mem_cons.mpr ⟨lw_p13, List.forall_mem_cons.mpr ⟨lw_p14, List.forall_mem_cons.mpr ⟨lw_p15, fun _ h => absurd h List.not_mem_nil⟩⟩⟩⟩⟩⟩⟩⟩⟩⟩⟩⟩⟩⟩⟩⟩
theorem lw_p16 : lw_okq (⟨"SegmentIndex$HitSet", "hasWithin", "(II)Z"⟩, 2) := ⟨⟨by decide +kernel, by decide +kernel⟩, List.mem_of_getElem? (i := 112) (by decide +kernel), List.mem_of_getElem? (i := 642) (by decide +kernel), List.mem_of_getElem? (i := 643) (by decide +kernel)⟩
theorem lw_p17 : lw_okq (⟨"SegmentIndex$HitSet", "hasDocument", "(I)Z"⟩, 2) := ⟨⟨by decide +kernel, by decide +kernel⟩, List.mem_of_getElem? (i := 112) (by decide +kernel), List.mem_of_getElem? (i := 668) (by decide +kernel), List.mem_of_getElem? (i := 669) (by decide +kernel)⟩
theorem lw_p18 : lw_okq (⟨"SegmentIndexModel", "inside", "(I)I"⟩, 15) := ⟨⟨by decide +kernel, by decide +kernel⟩, List.mem_of_getElem? (i := 684) (by decide +kernel), List.mem_of_getElem? (i := 749) (by decide +kernel), List.mem_of_getElem? (i := 750) (by decide +kernel)⟩
theorem lw_p19 : lw_okq (⟨"SegmentIndexModel", "settle", "()V"⟩, 15) := ⟨⟨by decide +kernel, by decide +kernel⟩, List.mem_of_getElem? (i := 684) (by decide +kernel), List.mem_of_getElem? (i := 753) (by decide +kernel), List.mem_of_getElem? (i := 754) (by decide +kernel)⟩
theorem lw_p20 : lw_okq (⟨"SegmentIndexModel", "fourAlike", "()Z"⟩, 15) := ⟨⟨by decide +kernel, by decide +kernel⟩, List.mem_of_getElem? (i := 684) (by decide +kernel), List.mem_of_getElem? (i := 757) (by decide +kernel), List.mem_of_getElem? (i := 758) (by decide +kernel)⟩
theorem lw_p21 : lw_okq (⟨"SegmentIndexModel", "gather", "(IZ)I"⟩, 15) := ⟨⟨by decide +kernel, by decide +kernel⟩, List.mem_of_getElem? (i := 684) (by decide +kernel), List.mem_of_getElem? (i := 761) (by decide +kernel), List.mem_of_getElem? (i := 762) (by decide +kernel)⟩
theorem lw_p22 : lw_okq (⟨"SegmentIndexModel", "push", "(IIII)I"⟩, 15) := ⟨⟨by decide +kernel, by decide +kernel⟩, List.mem_of_getElem? (i := 684) (by decide +kernel), List.mem_of_getElem? (i := 781) (by decide +kernel), List.mem_of_getElem? (i := 782) (by decide +kernel)⟩
theorem lw_p23 : lw_okq (⟨"SegmentIndexModel", "found", "(I)Z"⟩, 15) := ⟨⟨by decide +kernel, by decide +kernel⟩, List.mem_of_getElem? (i := 684) (by decide +kernel), List.mem_of_getElem? (i := 785) (by decide +kernel), List.mem_of_getElem? (i := 786) (by decide +kernel)⟩
theorem lw_p24 : lw_okq (⟨"SegmentIndexModel", "alike", "(IIII)Z"⟩, 15) := ⟨⟨by decide +kernel, by decide +kernel⟩, List.mem_of_getElem? (i := 684) (by decide +kernel), List.mem_of_getElem? (i := 789) (by decide +kernel), List.mem_of_getElem? (i := 790) (by decide +kernel)⟩
theorem lw_p25 : lw_okq (⟨"SegmentIndexModel", "hitOf", "(I)I"⟩, 15) := ⟨⟨by decide +kernel, by decide +kernel⟩, List.mem_of_getElem? (i := 684) (by decide +kernel), List.mem_of_getElem? (i := 796) (by decide +kernel), List.mem_of_getElem? (i := 797) (by decide +kernel)⟩
theorem lw_p26 : lw_okq (⟨"SegmentIndexModel", "insert", "(II)V"⟩, 15) := ⟨⟨by decide +kernel, by decide +kernel⟩, List.mem_of_getElem? (i := 684) (by decide +kernel), List.mem_of_getElem? (i := 800) (by decide +kernel), List.mem_of_getElem? (i := 801) (by decide +kernel)⟩
theorem lw_p27 : lw_okq (⟨"SegmentIndexModel", "has", "(II)Z"⟩, 15) := ⟨⟨by decide +kernel, by decide +kernel⟩, List.mem_of_getElem? (i := 684) (by decide +kernel), List.mem_of_getElem? (i := 812) (by decide +kernel), List.mem_of_getElem? (i := 813) (by decide +kernel)⟩
theorem lw_p28 : lw_okq (⟨"SegmentIndexModel", "place", "(I)I"⟩, 15) := ⟨⟨by decide +kernel, by decide +kernel⟩, List.mem_of_getElem? (i := 684) (by decide +kernel), List.mem_of_getElem? (i := 816) (by decide +kernel), List.mem_of_getElem? (i := 817) (by decide +kernel)⟩
theorem lw_p29 : lw_okq (⟨"SegmentIndexModel", "many", "(II)I"⟩, 15) := ⟨⟨by decide +kernel, by decide +kernel⟩, List.mem_of_getElem? (i := 684) (by decide +kernel), List.mem_of_getElem? (i := 824) (by decide +kernel), List.mem_of_getElem? (i := 825) (by decide +kernel)⟩
theorem lw_p30 : lw_okq (⟨"SegmentIndexModel", "near", "(II)Z"⟩, 15) := ⟨⟨by decide +kernel, by decide +kernel⟩, List.mem_of_getElem? (i := 684) (by decide +kernel), List.mem_of_getElem? (i := 828) (by decide +kernel), List.mem_of_getElem? (i := 829) (by decide +kernel)⟩
theorem lw_p31 : lw_okq (⟨"SegmentIndexModel", "ahead", "(II)I"⟩, 15) := ⟨⟨by decide +kernel, by decide +kernel⟩, List.mem_of_getElem? (i := 684) (by decide +kernel), List.mem_of_getElem? (i := 848) (by decide +kernel), List.mem_of_getElem? (i := 849) (by decide +kernel)⟩
def lw_privs_2 : List (MethodName × Nat) := [(⟨"SegmentIndex$HitSet", "hasWithin", "(II)Z"⟩, 2), (⟨"SegmentIndex$HitSet", "hasDocument", "(I)Z"⟩, 2), (⟨"SegmentIndexModel", "inside", "(I)I"⟩, 15), (⟨"SegmentIndexModel", "settle", "()V"⟩, 15), (⟨"SegmentIndexModel", "fourAlike", "()Z"⟩, 15), (⟨"SegmentIndexModel", "gather", "(IZ)I"⟩, 15), (⟨"SegmentIndexModel", "push", "(IIII)I"⟩, 15), (⟨"SegmentIndexModel", "found", "(I)Z"⟩, 15), (⟨"SegmentIndexModel", "alike", "(IIII)Z"⟩, 15), (⟨"SegmentIndexModel", "hitOf", "(I)I"⟩, 15), (⟨"SegmentIndexModel", "insert", "(II)V"⟩, 15), (⟨"SegmentIndexModel", "has", "(II)Z"⟩, 15), (⟨"SegmentIndexModel", "place", "(I)I"⟩, 15), (⟨"SegmentIndexModel", "many", "(II)I"⟩, 15), (⟨"SegmentIndexModel", "near", "(II)Z"⟩, 15), (⟨"SegmentIndexModel", "ahead", "(II)I"⟩, 15)]
theorem lw_r2 : ∀ q ∈ lw_privs_2, lw_okq q := List.forall_mem_cons.mpr ⟨lw_p16, List.forall_mem_cons.mpr ⟨lw_p17, List.forall_mem_cons.mpr ⟨lw_p18, List.forall_mem_cons.mpr ⟨lw_p19, List.forall_mem_cons.mpr ⟨lw_p20, List.forall_mem_cons.mpr ⟨lw_p21, List.forall_mem_cons.mpr ⟨lw_p22, List.forall_mem_cons.mpr ⟨lw_p23, List.forall_mem_cons.mpr ⟨lw_p24, List.forall_mem_cons.mpr ⟨lw_p25, List.forall_mem_cons.mpr ⟨lw_p26, List.forall_mem_cons.mpr ⟨lw_p27, List.forall_mem_cons.mpr ⟨lw_p28, List.forall_mem_cons.mpr ⟨lw_p29, List.forall_mem_cons.mpr ⟨lw_p30, List.forall_mem_cons.mpr ⟨lw_p31, fun _ h => absurd h List.not_mem_nil⟩⟩⟩⟩⟩⟩⟩⟩⟩⟩⟩⟩⟩⟩⟩⟩
theorem lw_p32 : lw_okq (⟨"SegmentIndexModel", "firstAlike", "(I)I"⟩, 15) := ⟨⟨by decide +kernel, by decide +kernel⟩, List.mem_of_getElem? (i := 684) (by decide +kernel), List.mem_of_getElem? (i := 856) (by decide +kernel), List.mem_of_getElem? (i := 857) (by decide +kernel)⟩
def lw_privs_3 : List (MethodName × Nat) := [(⟨"SegmentIndexModel", "firstAlike", "(I)I"⟩, 15)]
theorem lw_r3 : ∀ q ∈ lw_privs_3, lw_okq q := List.forall_mem_cons.mpr ⟨lw_p32, fun _ h => absurd h List.not_mem_nil⟩
def lw_privs : List (MethodName × Nat) := lw_privs_1 ++ (lw_privs_2 ++ (lw_privs_3))
def lw_tbl : List Cond := k2_sels lw_privs ++ tables_1
theorem lw_privs_ok : ∀ q ∈ lw_privs, lw_okq q := by
  show ∀ q ∈ lw_privs_1 ++ (lw_privs_2 ++ (lw_privs_3)), lw_okq q
  exact List.forall_mem_append.mpr ⟨lw_r1, List.forall_mem_append.mpr ⟨lw_r2, lw_r3⟩⟩

-- ===== end of PART A =====
/-! which words stay while the tables grow warm, and are carried by every contract -/
def tw_ok : Cond → Bool
  | .declares _ => true
  | .castable .. => true
  | .methodLinkNest .. => true
  | .arrayOver (.object _) => true
  | w => goodWord w
def gw : List Cond := lw_tbl.filter tw_ok
def tw (U : State) : Prop := ∀ w ∈ gw, ∀ A : Array Value, w.before A U = true
theorem tw_warm {s U : State} (hW : s.WarmedH U.vm) (h : tw s) : tw U := by
  intro w hw A
  have ok : tw_ok w = true := (List.mem_filter.mp hw).2
  have hb := h w hw
  by_cases hg : goodWord w = true
  · exact word_at hW (good_of_word hg) (hb #[])
  · cases w with
    | declares x => exact va_Nw.use rfl (va_Nw.warmD hW (hb #[]))
    | castable a b => exact va_Nw.use rfl (va_Nw.warmC hW (hb #[]))
    | methodLinkNest a i x h => exact va_Nw.use rfl (va_Nw.warmM hW (hb #[]))
    | arrayOver ty =>
      cases ty with
      | object C => exact va_AO.use (va_AO.moved hW.alike (va_AO.of (hb #[])))
      | _ => exact absurd ok hg
    | _ => exact absurd ok hg
theorem gw_goods (ws : List Cond) (hm : ∀ w ∈ ws, w ∈ gw) (h : ∀ w ∈ ws, goodWord w = true) : GoodIn gw ws := fun w hw => ⟨hm w hw, good_of_word (h w hw)⟩
theorem gw_good (w : Cond) (hm : w ∈ gw) (h : goodWord w = true) : GoodIn gw [w] := fun v hv => by
  rw [List.mem_singleton] at hv
  subst hv
  exact ⟨hm, good_of_word h⟩
theorem gw_in {i : Nat} {w : Cond} (h : lw_tbl[i]? = some w) (ok : tw_ok w = true) : w ∈ gw := List.mem_filter.mpr ⟨List.mem_of_getElem? h, ok⟩
abbrev R_HS : String := "SegmentIndex$HitSet"
def F_HS : u_T := fun k => match k with
  | 0 => ("SegmentIndex$HitSet", "hits", "[I", false)
  | _ => ("SegmentIndex$HitSet", "size", "I", false)
def t_HS : Nat → FieldType := fun k => match k with
  | 0 => .array .int
  | _ => .int
abbrev R_Ks : String := "SegmentIndex$Keys"
def F_Ks : u_T := fun k => match k with
  | 0 => ("SegmentIndex$Keys", "row", "[J", false)
  | _ => ("SegmentIndex$Keys", "size", "I", false)
def t_Ks : Nat → FieldType := fun k => match k with
  | 0 => .array .long
  | _ => .int
abbrev R_Pl : String := "SegmentIndex$Pile"
def F_Pl : u_T := fun k => match k with
  | 0 => ("SegmentIndex$Pile", "sets", "[LSegmentIndex$HitSet;", true)
  | _ => ("SegmentIndex$Pile", "height", "I", false)
def t_Pl : Nat → FieldType := fun k => match k with
  | 0 => .array (.object "SegmentIndex$HitSet")
  | _ => .int
abbrev R_Sg : String := "SegmentIndex$Segment"
def F_Sg : u_T := fun k => match k with
  | 0 => ("SegmentIndex$Segment", "first", "I", true)
  | 1 => ("SegmentIndex$Segment", "level", "I", true)
  | 2 => ("SegmentIndex$Segment", "held", "I", true)
  | 3 => ("SegmentIndex$Segment", "terms", "I", true)
  | _ => ("SegmentIndex$Segment", "tokens", "I", true)
def t_Sg : Nat → FieldType := fun k => match k with
  | 0 => .int
  | 1 => .int
  | 2 => .int
  | 3 => .int
  | _ => .int
abbrev R_Sh : String := "SegmentIndex$Shelf"
def F_Sh : u_T := fun k => match k with
  | 0 => ("SegmentIndex$Shelf", "tokens", "LSegmentIndex$Tokens;", true)
  | 1 => ("SegmentIndex$Shelf", "states", "[I", true)
  | 2 => ("SegmentIndex$Shelf", "starts", "[I", true)
  | 3 => ("SegmentIndex$Shelf", "inState", "[I", true)
  | _ => ("SegmentIndex$Shelf", "came", "I", false)
def t_Sh : Nat → FieldType := fun k => match k with
  | 0 => .object "SegmentIndex$Tokens"
  | 1 => .array .int
  | 2 => .array .int
  | 3 => .array .int
  | _ => .int
abbrev R_Tk : String := "SegmentIndex$Tokens"
def F_Tk : u_T := fun k => match k with
  | 0 => ("SegmentIndex$Tokens", "hits", "[I", false)
  | 1 => ("SegmentIndex$Tokens", "terms", "[J", false)
  | _ => ("SegmentIndex$Tokens", "size", "I", false)
def t_Tk : Nat → FieldType := fun k => match k with
  | 0 => .array .int
  | 1 => .array .long
  | _ => .int
abbrev R_SI : String := "SegmentIndex"
def F_SI : u_T := fun k => match k with
  | 0 => ("SegmentIndex", "shelf", "LSegmentIndex$Shelf;", true)
  | 1 => ("SegmentIndex", "segments", "Ljava/util/ArrayList;", true)
  | 2 => ("SegmentIndex", "pile", "LSegmentIndex$Pile;", true)
  | 3 => ("SegmentIndex", "keys", "LSegmentIndex$Keys;", true)
  | _ => ("SegmentIndex", "bufferFirst", "I", false)
def t_SI : Nat → FieldType := fun k => match k with
  | 0 => .object "SegmentIndex$Shelf"
  | 1 => .object "java/util/ArrayList"
  | 2 => .object "SegmentIndex$Pile"
  | 3 => .object "SegmentIndex$Keys"
  | _ => .int
abbrev R_AL : String := "java/util/ArrayList"
def F_AL : u_T := fun k => match k with
  | 0 => ("java/util/AbstractList", "modCount", "I", false)
  | 1 => ("java/util/ArrayList", "elementData", "[Ljava/lang/Object;", false)
  | _ => ("java/util/ArrayList", "size", "I", false)
def t_AL : Nat → FieldType := fun k => match k with
  | 0 => .int
  | 1 => .array (.object "java/lang/Object")
  | _ => .int
abbrev R_Mo : String := "SegmentIndexModel"
def F_Mo : u_T := fun k => match k with
  | 0 => ("SegmentIndexModel", "thrown", "I", false)
  | 1 => ("SegmentIndexModel", "tokens", "I", false)
  | 2 => ("SegmentIndexModel", "hand", "I", false)
  | 3 => ("SegmentIndexModel", "documentOf", "[I", true)
  | 4 => ("SegmentIndexModel", "spots", "[I", true)
  | 5 => ("SegmentIndexModel", "uppers", "[I", true)
  | 6 => ("SegmentIndexModel", "lowers", "[I", true)
  | 7 => ("SegmentIndexModel", "came", "I", false)
  | 8 => ("SegmentIndexModel", "where", "[I", true)
  | 9 => ("SegmentIndexModel", "taken", "[Z", true)
  | 10 => ("SegmentIndexModel", "segments", "I", false)
  | 11 => ("SegmentIndexModel", "levels", "[I", true)
  | 12 => ("SegmentIndexModel", "sets", "I", false)
  | 13 => ("SegmentIndexModel", "hits", "[I", true)
  | _ => ("SegmentIndexModel", "sizes", "[I", true)
def t_Mo : Nat → FieldType := fun k => match k with
  | 0 => .int
  | 1 => .int
  | 2 => .int
  | 3 => .array .int
  | 4 => .array .int
  | 5 => .array .int
  | 6 => .array .int
  | 7 => .int
  | 8 => .array .int
  | 9 => .array .boolean
  | 10 => .int
  | 11 => .array .int
  | 12 => .int
  | 13 => .array .int
  | _ => .array .int
abbrev classes : List vw_C := [(R_HS, F_HS, 2), (R_Ks, F_Ks, 2), (R_Pl, F_Pl, 2), (R_Sg, F_Sg, 5), (R_Sh, F_Sh, 5), (R_Tk, F_Tk, 3), (R_SI, F_SI, 5), (R_AL, F_AL, 3), (R_Mo, F_Mo, 15)]
def CW (ci : Nat) (C : String) (T : u_T) (N : Nat) (ty : Nat → FieldType) : Prop := classes[ci]? = some (C, T, N) ∧ (∀ w ∈ u_ws C T N, w ∈ gw) ∧ (∀ k, k < N → parseFieldDescriptor (T k).2.2.1 = some (ty k)) ∧ ∀ a, a < N → ∀ b, b < N → a ≠ b → (T a).2.1 ≠ (T b).2.1
def MV (y : MethodName) (bytes : ByteArray) (maxL : Nat) (ret : Option FieldType) (n : Nat) : Prop := Cond.instanceMethod y ∈ gw ∧ Cond.selects y.cls y y ∈ gw ∧ Cond.initialized y.cls ∈ gw ∧ Cond.code y bytes maxL ret ∈ gw ∧ (y.cls ≠ "java/lang/invoke/MethodHandle" ∧ y.cls ≠ "java/lang/invoke/VarHandle" ∧ (parseMethodDescriptor y.desc).map (fun d => d.parameters.length) = some n)
def MS (y : MethodName) (bytes : ByteArray) (maxL : Nat) (ret : Option FieldType) (n : Nat) : Prop := Cond.static y ∈ gw ∧ Cond.initialized y.cls ∈ gw ∧ Cond.code y bytes maxL ret ∈ gw ∧ (y.cls ≠ "java/lang/invoke/MethodHandle" ∧ y.cls ≠ "java/lang/invoke/VarHandle" ∧ (parseMethodDescriptor y.desc).map (fun d => d.parameters.length) = some n)
def MI (y : MethodName) (bytes : ByteArray) (maxL : Nat) (ret : Option FieldType) (n : Nat) : Prop := Cond.instanceMethod y ∈ gw ∧ Cond.initialized y.cls ∈ gw ∧ Cond.code y bytes maxL ret ∈ gw ∧ y.name = "<init>" ∧ (y.cls ≠ "java/lang/invoke/MethodHandle" ∧ y.cls ≠ "java/lang/invoke/VarHandle" ∧ (parseMethodDescriptor y.desc).map (fun d => d.parameters.length) = some n)
/-- the array classes: int, long, boolean, HitSet, Object -/
abbrev tyl (K : Nat → ClassId) : List (ClassId × FieldType) := [(K 0, .int), (K 1, .long), (K 2, .boolean), (K 3, .object "SegmentIndex$HitSet"), (K 4, .object "java/lang/Object")]
theorem k_HS : CW 0 R_HS F_HS 2 t_HS := ⟨rfl, by decide +kernel, by decide +kernel, by decide +kernel⟩
theorem k_Ks : CW 1 R_Ks F_Ks 2 t_Ks := ⟨rfl, by decide +kernel, by decide +kernel, by decide +kernel⟩
theorem k_Pl : CW 2 R_Pl F_Pl 2 t_Pl := ⟨rfl, by decide +kernel, by decide +kernel, by decide +kernel⟩
theorem k_Sg : CW 3 R_Sg F_Sg 5 t_Sg := ⟨rfl, by decide +kernel, by decide +kernel, by decide +kernel⟩
theorem k_Sh : CW 4 R_Sh F_Sh 5 t_Sh := ⟨rfl, by decide +kernel, by decide +kernel, by decide +kernel⟩
theorem k_Tk : CW 5 R_Tk F_Tk 3 t_Tk := ⟨rfl, by decide +kernel, by decide +kernel, by decide +kernel⟩
theorem k_SI : CW 6 R_SI F_SI 5 t_SI := ⟨rfl, by decide +kernel, by decide +kernel, by decide +kernel⟩
theorem k_AL : CW 7 R_AL F_AL 3 t_AL := ⟨rfl, by decide +kernel, by decide +kernel, by decide +kernel⟩
theorem k_Mo : CW 8 R_Mo F_Mo 15 t_Mo := ⟨rfl, by decide +kernel, by decide +kernel, by decide +kernel⟩

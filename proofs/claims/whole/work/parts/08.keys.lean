abbrev q_Ks_clear (K : Nat → ClassId) (h0 : Nat) (h1 : Nat) (z : Nat) : va_W → Prop := fun u => u = [(h0, .inr (1, [.ref h1, .int (nI 0)]))]
set_option maxHeartbeats 4000000 in
set_option maxRecDepth 100000 in
theorem c_Ks_clear (l : Launch) (D : va_G) (K : Nat → ClassId) (h0 : Nat) (h1 : Nat) (z : Nat)  : CV l y_Ks_clear b_Ks_clear 1 ({ frames := 0, cells := 0, slots := 0, locals := 0 } : Room) D K [.ref h0] [(h0, .inr (1, [.ref h1, .int (nI z)]))] (q_Ks_clear K h0 h1 z) := by
  refine CV_of (by decide) (Nat.le_of_ble_eq_true rfl) ?_
  intro p e s m below meth c A ls hF hA hP hD hl
  have hF2 := hF
  obtain ⟨hx, hb, hr, hml, hown, htw, hK, hlocks, hname⟩ := hF
  have hS : va_S A s.heap s.heap [] := va_S.rf
  have hl : lv_has ls 1 [(0, .ref h0)] := hl
  refine lv_aload_n hx hb d_Ks_clear_0 rfl (lv_at hl 0 rfl) ?_
  refine lv_iconst (v := nI 0) hx hb d_Ks_clear_1 (by decide) ?_
  refine xpt hx hb hown htw hK hP hD hS 0 1 rfl k_Ks (by decide) fl_Ks_15 rfl rfl rfl (Nat.le_of_ble_eq_true rfl) d_Ks_clear_2 (fun H locs hP hD hS => ?_)
  have hP : va_P D classes [(h0, .inr (1, [.ref h1, .int (nI 0)]))] H := hP
  have hD : va_D A [(h0, .inr (1, [.ref h1, .int (nI 0)]))] := hD
  exact xr_vret hx hb hr hlocks hP hD hS (Nat.le_of_ble_eq_true rfl) (Nat.le_of_ble_eq_true rfl) (rfl) d_Ks_clear_5

abbrev q_Ks_put (K : Nat → ClassId) (h0 : Nat) (h1 : Nat) (z : Nat) (n : Nat) (f : Nat → Int64) (x : Int64) : va_W → Prop := fun u => u = [(h0, .inr (1, [.ref h1, .int (nI (z + 1))])), (h1, .inl (K 1, n, .inr (.inl (vp_updL f z x))))]
set_option maxHeartbeats 4000000 in
set_option maxRecDepth 100000 in
theorem c_Ks_put (l : Launch) (D : va_G) (K : Nat → ClassId) (h0 : Nat) (h1 : Nat) (z : Nat) (n : Nat) (f : Nat → Int64) (x : Int64) (hz : z < n) (hn : n < 2 ^ 31) : CV l y_Ks_put b_Ks_put 3 ({ frames := 0, cells := 0, slots := 0, locals := 0 } : Room) D K [.ref h0, .long x] [(h0, .inr (1, [.ref h1, .int (nI z)])), (h1, .inl (K 1, n, .inr (.inl f)))] (q_Ks_put K h0 h1 z n f x) := by
  refine CV_of (by decide) (Nat.le_of_ble_eq_true rfl) ?_
  intro p e s m below meth c A ls hF hA hP hD hl
  have hF2 := hF
  obtain ⟨hx, hb, hr, hml, hown, htw, hK, hlocks, hname⟩ := hF
  have hS : va_S A s.heap s.heap [] := va_S.rf
  have hl : lv_has ls 3 [(0, .ref h0), (1, .long x)] := hl
  refine lv_aload_n hx hb d_Ks_put_0 rfl (lv_at hl 0 rfl) ?_
  refine xg hx hb hown htw hK hP 0 1 rfl k_Ks (by decide) fl_Ks_15 rfl d_Ks_put_1 ?_
  refine lv_aload_n hx hb d_Ks_put_4 rfl (lv_at hl 0 rfl) ?_
  refine xg hx hb hown htw hK hP 0 0 rfl k_Ks (by decide) fl_Ks_9 rfl d_Ks_put_5 ?_
  refine xalen (t0 := 1) (n := n) hx hb hK hP 1 rfl rfl rfl d_Ks_put_8 ?_
  refine xc_lt (tgt := 30) (a := z) (b := n) hx hb (by omega) (by omega) d_Ks_put_9 (by decide) (fun c_9 => ?_) (fun c_9 => ?_)
  · refine lv_aload_n hx hb d_Ks_put_30 rfl (lv_at hl 0 rfl) ?_
    refine xg hx hb hown htw hK hP 0 0 rfl k_Ks (by decide) fl_Ks_9 rfl d_Ks_put_31 ?_
    refine lv_aload_n hx hb d_Ks_put_34 rfl (lv_at hl 0 rfl) ?_
    refine xg hx hb hown htw hK hP 0 1 rfl k_Ks (by decide) fl_Ks_15 rfl d_Ks_put_35 ?_
    refine lv_lload_n hx hb d_Ks_put_38 rfl (lv_at hl 1 rfl) ?_
    refine xast_l hx hb hK hP hD hS 1 rfl (by omega) (by omega) d_Ks_put_39 (fun H locs hP hD hS => ?_)
    have hP : va_P D classes [(h0, .inr (1, [.ref h1, .int (nI z)])), (h1, .inl (K 1, n, .inr (.inl (vp_updL f z x))))] H := hP
    have hD : va_D A [(h0, .inr (1, [.ref h1, .int (nI z)])), (h1, .inl (K 1, n, .inr (.inl (vp_updL f z x))))] := hD
    refine lv_aload_n hx hb d_Ks_put_40 rfl (lv_at hl 0 rfl) ?_
    refine lv_dup hx hb d_Ks_put_41 rfl ?_
    refine xg hx hb hown htw hK hP 0 1 rfl k_Ks (by decide) fl_Ks_15 rfl d_Ks_put_42 ?_
    refine lv_iconst (v := nI 1) hx hb d_Ks_put_45 (by decide) ?_
    refine lv_iadd hx hb d_Ks_put_46 ?_
    refine xi (nI_add z 1) ?_
    refine xpt hx hb hown htw hK hP hD hS 0 1 rfl k_Ks (by decide) fl_Ks_15 rfl rfl rfl (Nat.le_of_ble_eq_true rfl) d_Ks_put_47 (fun H locs hP hD hS => ?_)
    have hP : va_P D classes [(h0, .inr (1, [.ref h1, .int (nI (z + 1))])), (h1, .inl (K 1, n, .inr (.inl (vp_updL f z x))))] H := hP
    have hD : va_D A [(h0, .inr (1, [.ref h1, .int (nI (z + 1))])), (h1, .inl (K 1, n, .inr (.inl (vp_updL f z x))))] := hD
    exact xr_vret hx hb hr hlocks hP hD hS (Nat.le_of_ble_eq_true rfl) (Nat.le_of_ble_eq_true rfl) (rfl) d_Ks_put_50
  · omega

abbrev q_Ks_sink (K : Nat → ClassId) (h0 : Nat) (h1 : Nat) (z : Nat) (n : Nat) (f : Nat → Int64) (root : Nat) (en : Nat) : va_W → Prop := fun u => ∃ f' : Nat → Int64, u = [(h0, .inr (1, [.ref h1, .int (nI z)])), (h1, .inl (K 1, n, .inr (.inl f')))] ∧ hp_sunk f root en f'
set_option maxHeartbeats 4000000 in
set_option maxRecDepth 100000 in
theorem lp_Ks_sink_18 {p : Program} {l : Launch} {e : Env} {s : State} {m : MethodId} {below : List Frame} {meth : Method} {c : Code} {A : Nat → Prop} {D : va_G} {K : Nat → ClassId} (h0 : Nat) (h1 : Nat) (z : Nat) (n : Nat) (f : Nat → Int64) (root : Nat) (en : Nat) (hr0 : root < en) (hen : en ≤ n) (hn : n < 2 ^ 30) (hF : Fx p s m meth c y_Ks_sink b_Ks_sink 7 none D K) (hA : ∀ q, s.heap.size ≤ q → A q) : ∀ fuel : Nat, ∀ pp : Nat, ∀ g : Nat → Int64, hp_sinking f root en (f root) g pp → root ≤ pp → pp < en → en - pp < fuel → ∀ (H : Heap) (locs : List Loc), va_P D classes [(h0, .inr (1, [.ref h1, .int (nI z)])), (h1, .inl (K 1, n, .inr (.inl g)))] H → va_D A [(h0, .inr (1, [.ref h1, .int (nI z)])), (h1, .inl (K 1, n, .inr (.inl g)))] → va_S A s.heap H locs → ∀ ls : Array Slot, lv_has ls 7 [(0, .ref h0), (1, .int (nI root)), (2, .int (nI en)), (3, .long (f root)), (5, .int (nI pp)), (6, .int (nI ((2 * pp) + 1)))] → W p l e ({ frames := 0, cells := 0, slots := 0, locals := 0 } : Room) s m ([.ref h0, .int (nI root), .int (nI en)] : List Value).toArray below meth c H locs 0 0 (MQ below (va_Qv (q_Ks_sink K h0 h1 z n f root en) (fun u t => va_P D classes u t.heap ∧ va_D A u) A) ([.ref h0, .int (nI root), .int (nI en)] : List Value).toArray s 0 0 A) (F0 m 18 ls []) := by
  have hF2 := hF
  obtain ⟨hx, hb, hr, hml, hown, htw, hK, hlocks, hname⟩ := hF
  intro fuel
  induction fuel with
  | zero => intros; omega
  | succ fuel ih =>
    have jn_99 : ∀ pp : Nat, ∀ g : Nat → Int64, pp < en → hp_sunk f root en (vp_updL g pp (f root)) → ∀ (H : Heap) (locs : List Loc), va_P D classes [(h0, .inr (1, [.ref h1, .int (nI z)])), (h1, .inl (K 1, n, .inr (.inl g)))] H → va_D A [(h0, .inr (1, [.ref h1, .int (nI z)])), (h1, .inl (K 1, n, .inr (.inl g)))] → va_S A s.heap H locs → ∀ ls : Array Slot, lv_has ls 7 [(0, .ref h0), (3, .long (f root)), (5, .int (nI pp))] → W p l e ({ frames := 0, cells := 0, slots := 0, locals := 0 } : Room) s m ([.ref h0, .int (nI root), .int (nI en)] : List Value).toArray below meth c H locs 0 0 (MQ below (va_Qv (q_Ks_sink K h0 h1 z n f root en) (fun u t => va_P D classes u t.heap ∧ va_D A u) A) ([.ref h0, .int (nI root), .int (nI en)] : List Value).toArray s 0 0 A) (F0 m 99 ls []) := by
      intro pp g hpe hsk H locs hP hD hS ls hl
      refine lv_aload_n hx hb d_Ks_sink_99 rfl (lv_at hl 0 rfl) ?_
      refine xg hx hb hown htw hK hP 0 0 rfl k_Ks (by decide) fl_Ks_9 rfl d_Ks_sink_100 ?_
      refine lv_iload hx hb d_Ks_sink_103 (lv_at hl 2 rfl) ?_
      refine lv_lload_n hx hb d_Ks_sink_105 rfl (lv_at hl 1 rfl) ?_
      refine xast_l hx hb hK hP hD hS 1 rfl (by omega) (by omega) d_Ks_sink_106 (fun H locs hP hD hS => ?_)
      have hP : va_P D classes [(h0, .inr (1, [.ref h1, .int (nI z)])), (h1, .inl (K 1, n, .inr (.inl (vp_updL g pp (f root)))))] H := hP
      have hD : va_D A [(h0, .inr (1, [.ref h1, .int (nI z)])), (h1, .inl (K 1, n, .inr (.inl (vp_updL g pp (f root)))))] := hD
      exact xr_vret hx hb hr hlocks hP hD hS (Nat.le_of_ble_eq_true rfl) (Nat.le_of_ble_eq_true rfl) (⟨_, rfl, hsk⟩) d_Ks_sink_107
    have jn_55 : ∀ pp : Nat, ∀ g : Nat → Int64, ∀ ch : Nat, hp_sinking f root en (f root) g pp → root ≤ pp → pp < en → en - pp < fuel + 1 → hp_max g en pp ch → ch < en → pp < ch → ∀ (H : Heap) (locs : List Loc), va_P D classes [(h0, .inr (1, [.ref h1, .int (nI z)])), (h1, .inl (K 1, n, .inr (.inl g)))] H → va_D A [(h0, .inr (1, [.ref h1, .int (nI z)])), (h1, .inl (K 1, n, .inr (.inl g)))] → va_S A s.heap H locs → ∀ ls : Array Slot, lv_has ls 7 [(0, .ref h0), (1, .int (nI root)), (2, .int (nI en)), (3, .long (f root)), (5, .int (nI pp)), (6, .int (nI ch))] → W p l e ({ frames := 0, cells := 0, slots := 0, locals := 0 } : Room) s m ([.ref h0, .int (nI root), .int (nI en)] : List Value).toArray below meth c H locs 0 0 (MQ below (va_Qv (q_Ks_sink K h0 h1 z n f root en) (fun u t => va_P D classes u t.heap ∧ va_D A u) A) ([.ref h0, .int (nI root), .int (nI en)] : List Value).toArray s 0 0 A) (F0 m 55 ls []) := by
      intro pp g ch hk hrp hpe hfu hmx hcn hcp H locs hP hD hS ls hl
      refine lv_aload_n hx hb d_Ks_sink_55 rfl (lv_at hl 0 rfl) ?_
      refine xg hx hb hown htw hK hP 0 0 rfl k_Ks (by decide) fl_Ks_9 rfl d_Ks_sink_56 ?_
      refine lv_iload hx hb d_Ks_sink_59 (lv_at hl 5 rfl) ?_
      refine xald_l hx hb hK hP 1 rfl (by omega) (by omega) d_Ks_sink_61 ?_
      refine lv_lload_n hx hb d_Ks_sink_62 rfl (lv_at hl 3 rfl) ?_
      refine xlc_gt (tgt := 70) (x := g ch) (y := f root) hx hb d_Ks_sink_63 d_Ks_sink_64 (by decide) (fun c_63 => ?_) (fun c_63 => ?_)
      · refine lv_aload_n hx hb d_Ks_sink_70 rfl (lv_at hl 0 rfl) ?_
        refine xg hx hb hown htw hK hP 0 0 rfl k_Ks (by decide) fl_Ks_9 rfl d_Ks_sink_71 ?_
        refine lv_iload hx hb d_Ks_sink_74 (lv_at hl 4 rfl) ?_
        refine lv_aload_n hx hb d_Ks_sink_76 rfl (lv_at hl 0 rfl) ?_
        refine xg hx hb hown htw hK hP 0 0 rfl k_Ks (by decide) fl_Ks_9 rfl d_Ks_sink_77 ?_
        refine lv_iload hx hb d_Ks_sink_80 (lv_at hl 5 rfl) ?_
        refine xald_l hx hb hK hP 1 rfl (by omega) (by omega) d_Ks_sink_82 ?_
        refine xast_l hx hb hK hP hD hS 1 rfl (by omega) (by omega) d_Ks_sink_83 (fun H locs hP hD hS => ?_)
        have hP : va_P D classes [(h0, .inr (1, [.ref h1, .int (nI z)])), (h1, .inl (K 1, n, .inr (.inl (vp_updL g pp (g ch)))))] H := hP
        have hD : va_D A [(h0, .inr (1, [.ref h1, .int (nI z)])), (h1, .inl (K 1, n, .inr (.inl (vp_updL g pp (g ch)))))] := hD
        refine lv_iload hx hb d_Ks_sink_84 (lv_at hl 5 rfl) ?_
        refine lv_istore (lv' := [(5, .int (nI ch)), (0, .ref h0), (1, .int (nI root)), (2, .int (nI en)), (3, .long (f root)), (6, .int (nI ch))]) hx hb d_Ks_sink_86 hl (by decide) rfl (fun ls hl => ?_)
        refine lv_iconst (v := nI 2) hx hb d_Ks_sink_88 (by decide) ?_
        refine lv_iload hx hb d_Ks_sink_89 (lv_at hl 0 rfl) ?_
        refine lv_imul hx hb d_Ks_sink_91 ?_
        refine xi (nI_mul 2 ch) ?_
        refine lv_iconst (v := nI 1) hx hb d_Ks_sink_92 (by decide) ?_
        refine lv_iadd hx hb d_Ks_sink_93 ?_
        refine xi (nI_add (2 * ch) 1) ?_
        refine lv_istore (lv' := [(6, .int (nI ((2 * ch) + 1))), (5, .int (nI ch)), (0, .ref h0), (1, .int (nI root)), (2, .int (nI en)), (3, .long (f root))]) hx hb d_Ks_sink_94 hl (by decide) rfl (fun ls hl => ?_)
        refine lv_goto (tgt := 18) hx hb d_Ks_sink_96 (by decide) ?_
        exact ih ch (vp_updL g pp (g ch)) (by exact hp_step hk hrp hpe hmx c_63) (by first | assumption | omega) (by first | assumption | omega) (by omega) _ _ hP hD hS _ (lv_sub hl [2, 3, 4, 5, 1, 0] rfl)
      · refine lv_goto (tgt := 99) hx hb d_Ks_sink_67 (by decide) ?_
        exact jn_99 pp g (by first | assumption | omega) (by exact hp_done hk hrp hpe ⟨fun z => Int64.le_trans (hmx.2.2.1 z) (Int64.not_lt.mp c_63), fun z => Int64.le_trans (hmx.2.2.2 z) (Int64.not_lt.mp c_63)⟩) _ _ hP hD hS _ (lv_sub hl [0, 3, 4] rfl)
    intro pp g hk hrp hpe hfu H locs hP hD hS ls hl
    refine lv_iload hx hb d_Ks_sink_18 (lv_at hl 5 rfl) ?_
    refine lv_iload_n hx hb d_Ks_sink_20 rfl (lv_at hl 2 rfl) ?_
    refine xc_ge (tgt := 99) (a := (2 * pp) + 1) (b := en) hx hb (by omega) (by omega) d_Ks_sink_21 (by decide) (fun c_21 => ?_) (fun c_21 => ?_)
    · exact jn_99 pp g (by first | assumption | omega) (by exact hp_done hk hrp hpe ⟨fun z => by omega, fun z => by omega⟩) _ _ hP hD hS _ (lv_sub hl [0, 3, 4] rfl)
    · refine lv_iload hx hb d_Ks_sink_24 (lv_at hl 5 rfl) ?_
      refine lv_iconst (v := nI 1) hx hb d_Ks_sink_26 (by decide) ?_
      refine lv_iadd hx hb d_Ks_sink_27 ?_
      refine xi (nI_add ((2 * pp) + 1) 1) ?_
      refine lv_iload_n hx hb d_Ks_sink_28 rfl (lv_at hl 2 rfl) ?_
      refine xc_ge (tgt := 55) (a := ((2 * pp) + 1) + 1) (b := en) hx hb (by omega) (by omega) d_Ks_sink_29 (by decide) (fun c_29 => ?_) (fun c_29 => ?_)
      · exact jn_55 pp g ((2 * pp) + 1) (by first | assumption | omega) (by first | assumption | omega) (by first | assumption | omega) (by first | assumption | omega) (by exact ⟨Or.inl rfl, c_21, fun _ => Int64.le_refl _, fun z => by omega⟩) (by first | assumption | omega) (by first | assumption | omega) _ _ hP hD hS _ (lv_sub hl [0, 1, 2, 3, 4, 5] rfl)
      · refine lv_aload_n hx hb d_Ks_sink_32 rfl (lv_at hl 0 rfl) ?_
        refine xg hx hb hown htw hK hP 0 0 rfl k_Ks (by decide) fl_Ks_9 rfl d_Ks_sink_33 ?_
        refine lv_iload hx hb d_Ks_sink_36 (lv_at hl 5 rfl) ?_
        refine lv_iconst (v := nI 1) hx hb d_Ks_sink_38 (by decide) ?_
        refine lv_iadd hx hb d_Ks_sink_39 ?_
        refine xi (nI_add ((2 * pp) + 1) 1) ?_
        refine xald_l hx hb hK hP 1 rfl (by omega) (by omega) d_Ks_sink_40 ?_
        refine lv_aload_n hx hb d_Ks_sink_41 rfl (lv_at hl 0 rfl) ?_
        refine xg hx hb hown htw hK hP 0 0 rfl k_Ks (by decide) fl_Ks_9 rfl d_Ks_sink_42 ?_
        refine lv_iload hx hb d_Ks_sink_45 (lv_at hl 5 rfl) ?_
        refine xald_l hx hb hK hP 1 rfl (by omega) (by omega) d_Ks_sink_47 ?_
        refine xlc_le (tgt := 55) (x := g (((2 * pp) + 1) + 1)) (y := g ((2 * pp) + 1)) hx hb d_Ks_sink_48 d_Ks_sink_49 (by decide) (fun c_48 => ?_) (fun c_48 => ?_)
        · exact jn_55 pp g ((2 * pp) + 1) (by first | assumption | omega) (by first | assumption | omega) (by first | assumption | omega) (by first | assumption | omega) (by exact ⟨Or.inl rfl, c_21, fun _ => Int64.le_refl _, fun _ => c_48⟩) (by first | assumption | omega) (by first | assumption | omega) _ _ hP hD hS _ (lv_sub hl [0, 1, 2, 3, 4, 5] rfl)
        · refine lv_iinc (v := nI (((2 * pp) + 1) + 1)) (lv' := [(6, .int (nI (((2 * pp) + 1) + 1))), (0, .ref h0), (1, .int (nI root)), (2, .int (nI en)), (3, .long (f root)), (5, .int (nI pp))]) hx hb d_Ks_sink_52 hl (k := 5) rfl (inc_nI _ _) (by decide) rfl (fun ls hl => ?_)
          exact jn_55 pp g (((2 * pp) + 1) + 1) (by first | assumption | omega) (by first | assumption | omega) (by first | assumption | omega) (by first | assumption | omega) (by exact ⟨Or.inr (by omega), by omega, fun _ => Int64.le_of_lt (Int64.not_le.mp c_48), fun _ => Int64.le_refl _⟩) (by first | assumption | omega) (by first | assumption | omega) _ _ hP hD hS _ (lv_sub hl [1, 2, 3, 4, 5, 0] rfl)
set_option maxHeartbeats 4000000 in
set_option maxRecDepth 100000 in
theorem c_Ks_sink (l : Launch) (D : va_G) (K : Nat → ClassId) (h0 : Nat) (h1 : Nat) (z : Nat) (n : Nat) (f : Nat → Int64) (root : Nat) (en : Nat) (hr0 : root < en) (hen : en ≤ n) (hn : n < 2 ^ 30) : CV l y_Ks_sink b_Ks_sink 7 ({ frames := 0, cells := 0, slots := 0, locals := 0 } : Room) D K [.ref h0, .int (nI root), .int (nI en)] [(h0, .inr (1, [.ref h1, .int (nI z)])), (h1, .inl (K 1, n, .inr (.inl f)))] (q_Ks_sink K h0 h1 z n f root en) := by
  refine CV_of (by decide) (Nat.le_of_ble_eq_true rfl) ?_
  intro p e s m below meth c A ls hF hA hP hD hl
  have hF2 := hF
  obtain ⟨hx, hb, hr, hml, hown, htw, hK, hlocks, hname⟩ := hF
  have hS : va_S A s.heap s.heap [] := va_S.rf
  have hl : lv_has ls 7 [(0, .ref h0), (1, .int (nI root)), (2, .int (nI en))] := hl
  refine lv_aload_n hx hb d_Ks_sink_0 rfl (lv_at hl 0 rfl) ?_
  refine xg hx hb hown htw hK hP 0 0 rfl k_Ks (by decide) fl_Ks_9 rfl d_Ks_sink_1 ?_
  refine lv_iload_n hx hb d_Ks_sink_4 rfl (lv_at hl 1 rfl) ?_
  refine xald_l hx hb hK hP 1 rfl (by omega) (by omega) d_Ks_sink_5 ?_
  refine lv_lstore_n (lv' := [(3, .long (f root)), (0, .ref h0), (1, .int (nI root)), (2, .int (nI en))]) hx hb d_Ks_sink_6 rfl hl (by decide) rfl (fun ls hl => ?_)
  refine lv_iload_n hx hb d_Ks_sink_7 rfl (lv_at hl 2 rfl) ?_
  refine lv_istore (lv' := [(5, .int (nI root)), (3, .long (f root)), (0, .ref h0), (1, .int (nI root)), (2, .int (nI en))]) hx hb d_Ks_sink_8 hl (by decide) rfl (fun ls hl => ?_)
  refine lv_iconst (v := nI 2) hx hb d_Ks_sink_10 (by decide) ?_
  refine lv_iload hx hb d_Ks_sink_11 (lv_at hl 0 rfl) ?_
  refine lv_imul hx hb d_Ks_sink_13 ?_
  refine xi (nI_mul 2 root) ?_
  refine lv_iconst (v := nI 1) hx hb d_Ks_sink_14 (by decide) ?_
  refine lv_iadd hx hb d_Ks_sink_15 ?_
  refine xi (nI_add (2 * root) 1) ?_
  refine lv_istore (lv' := [(6, .int (nI ((2 * root) + 1))), (5, .int (nI root)), (3, .long (f root)), (0, .ref h0), (1, .int (nI root)), (2, .int (nI en))]) hx hb d_Ks_sink_16 hl (by decide) rfl (fun ls hl => ?_)
  exact lp_Ks_sink_18 (l := l) h0 h1 z n f root en hr0 hen hn hF2 hA _ root f (by exact hp_start f root en) (by first | assumption | omega) (by first | assumption | omega) (Nat.lt_succ_self _) _ _ hP hD hS _ (lv_sub hl [3, 4, 5, 2, 1, 0] rfl)


abbrev q_Ks_clear (K : Nat → ClassId) (h0 : Nat) (h1 : Nat) (z : Nat) : va_W → Prop := fun u => u = [(h0, .inr (1, [.ref h1, .int (nI 0)]))]
set_option maxHeartbeats 4000000 in
set_option maxRecDepth 100000 in
theorem c_Ks_clear (l : Launch) (D : va_G) (K : Nat → ClassId) (h0 : Nat) (h1 : Nat) (z : Nat)  : CV l y_Ks_clear b_Ks_clear 1 ({ frames := 0, cells := 0, slots := 0, locals := 0 } : Room) D K [.ref h0] [(h0, .inr (1, [.ref h1, .int (nI z)]))] (q_Ks_clear K h0 h1 z) := by
  refine CV_of (by decide) (Nat.le_of_ble_eq_true rfl) ?_
  intro p e s m below meth c A b0 ls hF hA hP hD hl
  have hF2 := hF
  obtain ⟨hx, hb, hr, hml, hown, htw, hK, hlocks, hname⟩ := hF
  have hS : va_S A s.heap s.heap [] := va_S.rf
  have hl : lv_has ls 1 [(0, .ref h0)] := hl
  refine lv_aload_n hx hb d_Ks_clear_0 rfl (lv_at hl 0 rfl) ?_
  refine lv_iconst (v := nI 0) hx hb d_Ks_clear_1 (by decide) ?_
  refine xpt hx hb hown htw hK hP hD hS 0 1 rfl k_Ks (by decide) fl_Ks_15 rfl rfl rfl (Nat.le_of_ble_eq_true rfl) d_Ks_clear_2 (fun H locs hP hD hS => ?_)
  have hP : va_P D classes [(h0, .inr (1, [.ref h1, .int (nI 0)]))] H := hP
  have hD : va_D A [(h0, .inr (1, [.ref h1, .int (nI 0)]))] := hD
  exact xr_vret hx hb hr hlocks hP hD hS (Nat.le_of_ble_eq_true rfl) (Nat.le_of_ble_eq_true rfl) (rfl) d_Ks_clear_5

abbrev q_Ks_put (K : Nat → ClassId) (h0 : Nat) (h1 : Nat) (z : Nat) (n : Nat) (f : Nat → Int64) (x : Int64) : va_W → Prop := fun u => u = [(h0, .inr (1, [.ref h1, .int (nI (z + 1))])), (h1, .inl (K 1, n, .inr (.inl (vp_updL f z x))))]
set_option maxHeartbeats 4000000 in
set_option maxRecDepth 100000 in
theorem c_Ks_put (l : Launch) (D : va_G) (K : Nat → ClassId) (h0 : Nat) (h1 : Nat) (z : Nat) (n : Nat) (f : Nat → Int64) (x : Int64) (hz : z < n) (hn : n < 2 ^ 31) : CV l y_Ks_put b_Ks_put 3 ({ frames := 0, cells := 0, slots := 0, locals := 0 } : Room) D K [.ref h0, .long x] [(h0, .inr (1, [.ref h1, .int (nI z)])), (h1, .inl (K 1, n, .inr (.inl f)))] (q_Ks_put K h0 h1 z n f x) := by
  refine CV_of (by decide) (Nat.le_of_ble_eq_true rfl) ?_
  intro p e s m below meth c A b0 ls hF hA hP hD hl
  have hF2 := hF
  obtain ⟨hx, hb, hr, hml, hown, htw, hK, hlocks, hname⟩ := hF
  have hS : va_S A s.heap s.heap [] := va_S.rf
  have hl : lv_has ls 3 [(0, .ref h0), (1, .long x)] := hl
  refine lv_aload_n hx hb d_Ks_put_0 rfl (lv_at hl 0 rfl) ?_
  refine xg hx hb hown htw hK hP 0 1 rfl k_Ks (by decide) fl_Ks_15 rfl d_Ks_put_1 ?_
  refine lv_aload_n hx hb d_Ks_put_4 rfl (lv_at hl 0 rfl) ?_
  refine xg hx hb hown htw hK hP 0 0 rfl k_Ks (by decide) fl_Ks_9 rfl d_Ks_put_5 ?_
  refine xalen (t0 := 1) (n := n) hx hb hK hP 1 rfl rfl rfl d_Ks_put_8 ?_
  refine xc_lt (tgt := 30) (a := z) (b := n) hx hb (by omega) (by omega) d_Ks_put_9 (by decide) (fun c_9 => ?_) (fun c_9 => ?_)
  · refine lv_aload_n hx hb d_Ks_put_30 rfl (lv_at hl 0 rfl) ?_
    refine xg hx hb hown htw hK hP 0 0 rfl k_Ks (by decide) fl_Ks_9 rfl d_Ks_put_31 ?_
    refine lv_aload_n hx hb d_Ks_put_34 rfl (lv_at hl 0 rfl) ?_
    refine xg hx hb hown htw hK hP 0 1 rfl k_Ks (by decide) fl_Ks_15 rfl d_Ks_put_35 ?_
    refine lv_lload_n hx hb d_Ks_put_38 rfl (lv_at hl 1 rfl) ?_
    refine xast_l hx hb hK hP hD hS 1 rfl (by omega) (by omega) d_Ks_put_39 (fun H locs hP hD hS => ?_)
    have hP : va_P D classes [(h0, .inr (1, [.ref h1, .int (nI z)])), (h1, .inl (K 1, n, .inr (.inl (vp_updL f z x))))] H := hP
    have hD : va_D A [(h0, .inr (1, [.ref h1, .int (nI z)])), (h1, .inl (K 1, n, .inr (.inl (vp_updL f z x))))] := hD
    refine lv_aload_n hx hb d_Ks_put_40 rfl (lv_at hl 0 rfl) ?_
    refine lv_dup hx hb d_Ks_put_41 rfl ?_
    refine xg hx hb hown htw hK hP 0 1 rfl k_Ks (by decide) fl_Ks_15 rfl d_Ks_put_42 ?_
    refine lv_iconst (v := nI 1) hx hb d_Ks_put_45 (by decide) ?_
    refine lv_iadd hx hb d_Ks_put_46 ?_
    refine xi (nI_add z 1) ?_
    refine xpt hx hb hown htw hK hP hD hS 0 1 rfl k_Ks (by decide) fl_Ks_15 rfl rfl rfl (Nat.le_of_ble_eq_true rfl) d_Ks_put_47 (fun H locs hP hD hS => ?_)
    have hP : va_P D classes [(h0, .inr (1, [.ref h1, .int (nI (z + 1))])), (h1, .inl (K 1, n, .inr (.inl (vp_updL f z x))))] H := hP
    have hD : va_D A [(h0, .inr (1, [.ref h1, .int (nI (z + 1))])), (h1, .inl (K 1, n, .inr (.inl (vp_updL f z x))))] := hD
    exact xr_vret hx hb hr hlocks hP hD hS (Nat.le_of_ble_eq_true rfl) (Nat.le_of_ble_eq_true rfl) (rfl) d_Ks_put_50
  · omega

abbrev q_Ks_sink (K : Nat → ClassId) (h0 : Nat) (h1 : Nat) (z : Nat) (n : Nat) (f : Nat → Int64) (root : Nat) (en : Nat) : va_W → Prop := fun u => ∃ f' : Nat → Int64, u = [(h0, .inr (1, [.ref h1, .int (nI z)])), (h1, .inl (K 1, n, .inr (.inl f')))] ∧ (hp_sunk f root en f')
set_option maxHeartbeats 4000000 in
set_option maxRecDepth 100000 in
theorem lp_Ks_sink_18 {p : Program} {l : Launch} {e : Env} {s : State} {m : MethodId} {below : List Frame} {meth : Method} {c : Code} {A : Nat → Prop} {D : va_G} {K : Nat → ClassId} (h0 : Nat) (h1 : Nat) (z : Nat) (n : Nat) (f : Nat → Int64) (root : Nat) (en : Nat) (hr0 : root < en) (hen : en ≤ n) (hn : n < 2 ^ 30) (hF : Fx p s m meth c y_Ks_sink b_Ks_sink 7 none D K) {b0 : Nat} (hA : AS K s A b0) : ∀ fuel : Nat, ∀ pp : Nat, ∀ g : Nat → Int64, (hp_sinking f root en (f root) g pp) → (root ≤ pp) → (pp < en) → en - pp < fuel → ∀ (H : Heap) (locs : List Loc), va_P D classes [(h0, .inr (1, [.ref h1, .int (nI z)])), (h1, .inl (K 1, n, .inr (.inl g)))] H → va_D A [(h0, .inr (1, [.ref h1, .int (nI z)])), (h1, .inl (K 1, n, .inr (.inl g)))] → va_S A s.heap H locs → ∀ ls : Array Slot, lv_has ls 7 [(0, .ref h0), (1, .int (nI root)), (2, .int (nI en)), (3, .long (f root)), (5, .int (nI pp)), (6, .int (nI ((2 * pp) + 1)))] → W p l e ({ frames := 0, cells := 0, slots := 0, locals := 0 } : Room) s m ([.ref h0, .int (nI root), .int (nI en)] : List Value).toArray below meth c H locs 0 0 (MQ below (va_Qv (q_Ks_sink K h0 h1 z n f root en) (fun u t => va_P D classes u t.heap ∧ va_D A u) A) ([.ref h0, .int (nI root), .int (nI en)] : List Value).toArray s 0 0 A) (F0 m 18 ls []) := by
  have hF2 := hF
  obtain ⟨hx, hb, hr, hml, hown, htw, hK, hlocks, hname⟩ := hF
  intro fuel
  induction fuel with
  | zero => intros; omega
  | succ fuel ih =>
    have jn_99 : ∀ pp : Nat, ∀ g : Nat → Int64, (pp < en) → (hp_sunk f root en (vp_updL g pp (f root))) → ∀ (H : Heap) (locs : List Loc), va_P D classes [(h0, .inr (1, [.ref h1, .int (nI z)])), (h1, .inl (K 1, n, .inr (.inl g)))] H → va_D A [(h0, .inr (1, [.ref h1, .int (nI z)])), (h1, .inl (K 1, n, .inr (.inl g)))] → va_S A s.heap H locs → ∀ ls : Array Slot, lv_has ls 7 [(0, .ref h0), (3, .long (f root)), (5, .int (nI pp))] → W p l e ({ frames := 0, cells := 0, slots := 0, locals := 0 } : Room) s m ([.ref h0, .int (nI root), .int (nI en)] : List Value).toArray below meth c H locs 0 0 (MQ below (va_Qv (q_Ks_sink K h0 h1 z n f root en) (fun u t => va_P D classes u t.heap ∧ va_D A u) A) ([.ref h0, .int (nI root), .int (nI en)] : List Value).toArray s 0 0 A) (F0 m 99 ls []) := by
      intro pp g hpe hsk H locs hP hD hS ls hl
      refine lv_aload_n hx hb d_Ks_sink_99 rfl (lv_at hl 0 rfl) ?_
      refine xg hx hb hown htw hK hP 0 0 rfl k_Ks (by decide) fl_Ks_9 rfl d_Ks_sink_100 ?_
      refine lv_iload hx hb d_Ks_sink_103 (lv_at hl 2 rfl) ?_
      refine lv_lload_n hx hb d_Ks_sink_105 rfl (lv_at hl 1 rfl) ?_
      refine xast_l hx hb hK hP hD hS 1 rfl (by omega) (by omega) d_Ks_sink_106 (fun H locs hP hD hS => ?_)
      have hP : va_P D classes [(h0, .inr (1, [.ref h1, .int (nI z)])), (h1, .inl (K 1, n, .inr (.inl (vp_updL g pp (f root)))))] H := hP
      have hD : va_D A [(h0, .inr (1, [.ref h1, .int (nI z)])), (h1, .inl (K 1, n, .inr (.inl (vp_updL g pp (f root)))))] := hD
      exact xr_vret hx hb hr hlocks hP hD hS (Nat.le_of_ble_eq_true rfl) (Nat.le_of_ble_eq_true rfl) (⟨_, rfl, hsk⟩) d_Ks_sink_107
    have jn_55 : ∀ pp : Nat, ∀ g : Nat → Int64, ∀ ch : Nat, (hp_sinking f root en (f root) g pp) → (root ≤ pp) → (pp < en) → (en - pp < fuel + 1) → (hp_max g en pp ch) → (ch < en) → (pp < ch) → ∀ (H : Heap) (locs : List Loc), va_P D classes [(h0, .inr (1, [.ref h1, .int (nI z)])), (h1, .inl (K 1, n, .inr (.inl g)))] H → va_D A [(h0, .inr (1, [.ref h1, .int (nI z)])), (h1, .inl (K 1, n, .inr (.inl g)))] → va_S A s.heap H locs → ∀ ls : Array Slot, lv_has ls 7 [(0, .ref h0), (1, .int (nI root)), (2, .int (nI en)), (3, .long (f root)), (5, .int (nI pp)), (6, .int (nI ch))] → W p l e ({ frames := 0, cells := 0, slots := 0, locals := 0 } : Room) s m ([.ref h0, .int (nI root), .int (nI en)] : List Value).toArray below meth c H locs 0 0 (MQ below (va_Qv (q_Ks_sink K h0 h1 z n f root en) (fun u t => va_P D classes u t.heap ∧ va_D A u) A) ([.ref h0, .int (nI root), .int (nI en)] : List Value).toArray s 0 0 A) (F0 m 55 ls []) := by
      intro pp g ch hk hrp hpe hfu hmx hcn hcp H locs hP hD hS ls hl
      refine lv_aload_n hx hb d_Ks_sink_55 rfl (lv_at hl 0 rfl) ?_
      refine xg hx hb hown htw hK hP 0 0 rfl k_Ks (by decide) fl_Ks_9 rfl d_Ks_sink_56 ?_
      refine lv_iload hx hb d_Ks_sink_59 (lv_at hl 5 rfl) ?_
      refine xald_l hx hb hK hP 1 rfl (by omega) (by omega) d_Ks_sink_61 ?_
      refine lv_lload_n hx hb d_Ks_sink_62 rfl (lv_at hl 3 rfl) ?_
      refine xlc_gt (tgt := 70) (x := g ch) (y := f root) hx hb d_Ks_sink_63 d_Ks_sink_64 (by decide) (fun c_63 => ?_) (fun c_63 => ?_)
      · refine lv_aload_n hx hb d_Ks_sink_70 rfl (lv_at hl 0 rfl) ?_
        refine xg hx hb hown htw hK hP 0 0 rfl k_Ks (by decide) fl_Ks_9 rfl d_Ks_sink_71 ?_
        refine lv_iload hx hb d_Ks_sink_74 (lv_at hl 4 rfl) ?_
        refine lv_aload_n hx hb d_Ks_sink_76 rfl (lv_at hl 0 rfl) ?_
        refine xg hx hb hown htw hK hP 0 0 rfl k_Ks (by decide) fl_Ks_9 rfl d_Ks_sink_77 ?_
        refine lv_iload hx hb d_Ks_sink_80 (lv_at hl 5 rfl) ?_
        refine xald_l hx hb hK hP 1 rfl (by omega) (by omega) d_Ks_sink_82 ?_
        refine xast_l hx hb hK hP hD hS 1 rfl (by omega) (by omega) d_Ks_sink_83 (fun H locs hP hD hS => ?_)
        have hP : va_P D classes [(h0, .inr (1, [.ref h1, .int (nI z)])), (h1, .inl (K 1, n, .inr (.inl (vp_updL g pp (g ch)))))] H := hP
        have hD : va_D A [(h0, .inr (1, [.ref h1, .int (nI z)])), (h1, .inl (K 1, n, .inr (.inl (vp_updL g pp (g ch)))))] := hD
        refine lv_iload hx hb d_Ks_sink_84 (lv_at hl 5 rfl) ?_
        refine lv_istore (lv' := [(5, .int (nI ch)), (0, .ref h0), (1, .int (nI root)), (2, .int (nI en)), (3, .long (f root)), (6, .int (nI ch))]) hx hb d_Ks_sink_86 hl (by decide) rfl (fun ls hl => ?_)
        refine lv_iconst (v := nI 2) hx hb d_Ks_sink_88 (by decide) ?_
        refine lv_iload hx hb d_Ks_sink_89 (lv_at hl 0 rfl) ?_
        refine lv_imul hx hb d_Ks_sink_91 ?_
        refine xi (nI_mul 2 ch) ?_
        refine lv_iconst (v := nI 1) hx hb d_Ks_sink_92 (by decide) ?_
        refine lv_iadd hx hb d_Ks_sink_93 ?_
        refine xi (nI_add (2 * ch) 1) ?_
        refine lv_istore (lv' := [(6, .int (nI ((2 * ch) + 1))), (5, .int (nI ch)), (0, .ref h0), (1, .int (nI root)), (2, .int (nI en)), (3, .long (f root))]) hx hb d_Ks_sink_94 hl (by decide) rfl (fun ls hl => ?_)
        refine lv_goto (tgt := 18) hx hb d_Ks_sink_96 (by decide) ?_
        exact ih ch (vp_updL g pp (g ch)) (by exact hp_step hk hrp hpe hmx c_63) (by first | assumption | omega) (by first | assumption | omega) (by omega) _ _ hP hD hS _ (lv_sub hl [2, 3, 4, 5, 1, 0] rfl)
      · refine lv_goto (tgt := 99) hx hb d_Ks_sink_67 (by decide) ?_
        exact jn_99 pp g (by first | assumption | omega) (by exact hp_done hk hrp hpe ⟨fun z => Int64.le_trans (hmx.2.2.1 z) (Int64.not_lt.mp c_63), fun z => Int64.le_trans (hmx.2.2.2 z) (Int64.not_lt.mp c_63)⟩) _ _ hP hD hS _ (lv_sub hl [0, 3, 4] rfl)
    intro pp g hk hrp hpe hfu H locs hP hD hS ls hl
    refine lv_iload hx hb d_Ks_sink_18 (lv_at hl 5 rfl) ?_
    refine lv_iload_n hx hb d_Ks_sink_20 rfl (lv_at hl 2 rfl) ?_
    refine xc_ge (tgt := 99) (a := (2 * pp) + 1) (b := en) hx hb (by omega) (by omega) d_Ks_sink_21 (by decide) (fun c_21 => ?_) (fun c_21 => ?_)
    · exact jn_99 pp g (by first | assumption | omega) (by exact hp_done hk hrp hpe ⟨fun z => by omega, fun z => by omega⟩) _ _ hP hD hS _ (lv_sub hl [0, 3, 4] rfl)
    · refine lv_iload hx hb d_Ks_sink_24 (lv_at hl 5 rfl) ?_
      refine lv_iconst (v := nI 1) hx hb d_Ks_sink_26 (by decide) ?_
      refine lv_iadd hx hb d_Ks_sink_27 ?_
      refine xi (nI_add ((2 * pp) + 1) 1) ?_
      refine lv_iload_n hx hb d_Ks_sink_28 rfl (lv_at hl 2 rfl) ?_
      refine xc_ge (tgt := 55) (a := ((2 * pp) + 1) + 1) (b := en) hx hb (by omega) (by omega) d_Ks_sink_29 (by decide) (fun c_29 => ?_) (fun c_29 => ?_)
      · exact jn_55 pp g ((2 * pp) + 1) (by first | assumption | omega) (by first | assumption | omega) (by first | assumption | omega) (by first | assumption | omega) (by exact ⟨Or.inl rfl, c_21, fun _ => Int64.le_refl _, fun z => by omega⟩) (by first | assumption | omega) (by first | assumption | omega) _ _ hP hD hS _ (lv_sub hl [0, 1, 2, 3, 4, 5] rfl)
      · refine lv_aload_n hx hb d_Ks_sink_32 rfl (lv_at hl 0 rfl) ?_
        refine xg hx hb hown htw hK hP 0 0 rfl k_Ks (by decide) fl_Ks_9 rfl d_Ks_sink_33 ?_
        refine lv_iload hx hb d_Ks_sink_36 (lv_at hl 5 rfl) ?_
        refine lv_iconst (v := nI 1) hx hb d_Ks_sink_38 (by decide) ?_
        refine lv_iadd hx hb d_Ks_sink_39 ?_
        refine xi (nI_add ((2 * pp) + 1) 1) ?_
        refine xald_l hx hb hK hP 1 rfl (by omega) (by omega) d_Ks_sink_40 ?_
        refine lv_aload_n hx hb d_Ks_sink_41 rfl (lv_at hl 0 rfl) ?_
        refine xg hx hb hown htw hK hP 0 0 rfl k_Ks (by decide) fl_Ks_9 rfl d_Ks_sink_42 ?_
        refine lv_iload hx hb d_Ks_sink_45 (lv_at hl 5 rfl) ?_
        refine xald_l hx hb hK hP 1 rfl (by omega) (by omega) d_Ks_sink_47 ?_
        refine xlc_le (tgt := 55) (x := g (((2 * pp) + 1) + 1)) (y := g ((2 * pp) + 1)) hx hb d_Ks_sink_48 d_Ks_sink_49 (by decide) (fun c_48 => ?_) (fun c_48 => ?_)
        · exact jn_55 pp g ((2 * pp) + 1) (by first | assumption | omega) (by first | assumption | omega) (by first | assumption | omega) (by first | assumption | omega) (by exact ⟨Or.inl rfl, c_21, fun _ => Int64.le_refl _, fun _ => c_48⟩) (by first | assumption | omega) (by first | assumption | omega) _ _ hP hD hS _ (lv_sub hl [0, 1, 2, 3, 4, 5] rfl)
        · refine lv_iinc (v := nI (((2 * pp) + 1) + 1)) (lv' := [(6, .int (nI (((2 * pp) + 1) + 1))), (0, .ref h0), (1, .int (nI root)), (2, .int (nI en)), (3, .long (f root)), (5, .int (nI pp))]) hx hb d_Ks_sink_52 hl (k := 5) rfl (inc_nI _ _) (by decide) rfl (fun ls hl => ?_)
          exact jn_55 pp g (((2 * pp) + 1) + 1) (by first | assumption | omega) (by first | assumption | omega) (by first | assumption | omega) (by first | assumption | omega) (by exact ⟨Or.inr (by omega), by omega, fun _ => Int64.le_of_lt (Int64.not_le.mp c_48), fun _ => Int64.le_refl _⟩) (by first | assumption | omega) (by first | assumption | omega) _ _ hP hD hS _ (lv_sub hl [1, 2, 3, 4, 5, 0] rfl)
set_option maxHeartbeats 4000000 in
set_option maxRecDepth 100000 in
theorem c_Ks_sink (l : Launch) (D : va_G) (K : Nat → ClassId) (h0 : Nat) (h1 : Nat) (z : Nat) (n : Nat) (f : Nat → Int64) (root : Nat) (en : Nat) (hr0 : root < en) (hen : en ≤ n) (hn : n < 2 ^ 30) : CV l y_Ks_sink b_Ks_sink 7 ({ frames := 0, cells := 0, slots := 0, locals := 0 } : Room) D K [.ref h0, .int (nI root), .int (nI en)] [(h0, .inr (1, [.ref h1, .int (nI z)])), (h1, .inl (K 1, n, .inr (.inl f)))] (q_Ks_sink K h0 h1 z n f root en) := by
  refine CV_of (by decide) (Nat.le_of_ble_eq_true rfl) ?_
  intro p e s m below meth c A b0 ls hF hA hP hD hl
  have hF2 := hF
  obtain ⟨hx, hb, hr, hml, hown, htw, hK, hlocks, hname⟩ := hF
  have hS : va_S A s.heap s.heap [] := va_S.rf
  have hl : lv_has ls 7 [(0, .ref h0), (1, .int (nI root)), (2, .int (nI en))] := hl
  refine lv_aload_n hx hb d_Ks_sink_0 rfl (lv_at hl 0 rfl) ?_
  refine xg hx hb hown htw hK hP 0 0 rfl k_Ks (by decide) fl_Ks_9 rfl d_Ks_sink_1 ?_
  refine lv_iload_n hx hb d_Ks_sink_4 rfl (lv_at hl 1 rfl) ?_
  refine xald_l hx hb hK hP 1 rfl (by omega) (by omega) d_Ks_sink_5 ?_
  refine lv_lstore_n (lv' := [(3, .long (f root)), (0, .ref h0), (1, .int (nI root)), (2, .int (nI en))]) hx hb d_Ks_sink_6 rfl hl (by decide) rfl (fun ls hl => ?_)
  refine lv_iload_n hx hb d_Ks_sink_7 rfl (lv_at hl 2 rfl) ?_
  refine lv_istore (lv' := [(5, .int (nI root)), (3, .long (f root)), (0, .ref h0), (1, .int (nI root)), (2, .int (nI en))]) hx hb d_Ks_sink_8 hl (by decide) rfl (fun ls hl => ?_)
  refine lv_iconst (v := nI 2) hx hb d_Ks_sink_10 (by decide) ?_
  refine lv_iload hx hb d_Ks_sink_11 (lv_at hl 0 rfl) ?_
  refine lv_imul hx hb d_Ks_sink_13 ?_
  refine xi (nI_mul 2 root) ?_
  refine lv_iconst (v := nI 1) hx hb d_Ks_sink_14 (by decide) ?_
  refine lv_iadd hx hb d_Ks_sink_15 ?_
  refine xi (nI_add (2 * root) 1) ?_
  refine lv_istore (lv' := [(6, .int (nI ((2 * root) + 1))), (5, .int (nI root)), (3, .long (f root)), (0, .ref h0), (1, .int (nI root)), (2, .int (nI en))]) hx hb d_Ks_sink_16 hl (by decide) rfl (fun ls hl => ?_)
  exact lp_Ks_sink_18 (l := l) h0 h1 z n f root en hr0 hen hn hF2 hA _ root f (by exact hp_start f root en) (by first | assumption | omega) (by first | assumption | omega) (Nat.lt_succ_self _) _ _ hP hD hS _ (lv_sub hl [3, 4, 5, 2, 1, 0] rfl)

abbrev q_Ks_sort (K : Nat → ClassId) (h0 : Nat) (h1 : Nat) (z : Nat) (n : Nat) (f : Nat → Int64) : va_W → Prop := fun u => ∃ f' : Nat → Int64, u = [(h0, .inr (1, [.ref h1, .int (nI z)])), (h1, .inl (K 1, n, .inr (.inl f')))] ∧ (∀ v, hp_cnt f' v z = hp_cnt f v z) ∧ (∀ i j, i ≤ j → j < z → f' i ≤ f' j)
set_option maxHeartbeats 4000000 in
set_option maxRecDepth 100000 in
theorem lp_Ks_sort_35 {p : Program} {l : Launch} {e : Env} {s : State} {m : MethodId} {below : List Frame} {meth : Method} {c : Code} {A : Nat → Prop} {D : va_G} {K : Nat → ClassId} (h0 : Nat) (h1 : Nat) (z : Nat) (n : Nat) (f : Nat → Int64) (hz : z ≤ n) (hn : n < 2 ^ 30) (hF : Fx p s m meth c y_Ks_sort b_Ks_sort 4 none D K) {b0 : Nat} (hA : AS K s A b0) : ∀ fuel : Nat, ∀ k : Nat, ∀ g : Nat → Int64, (hp_srt f g z k) → (k ≤ z) → k < fuel → ∀ (H : Heap) (locs : List Loc), va_P D classes [(h0, .inr (1, [.ref h1, .int (nI z)])), (h1, .inl (K 1, n, .inr (.inl g)))] H → va_D A [(h0, .inr (1, [.ref h1, .int (nI z)])), (h1, .inl (K 1, n, .inr (.inl g)))] → va_S A s.heap H locs → ∀ ls : Array Slot, lv_has ls 4 [(0, .ref h0), (1, .int (dI k))] → W p l e ({ frames := 1, cells := 0, slots := 0, locals := 26 } : Room) s m ([.ref h0] : List Value).toArray below meth c H locs 0 0 (MQ below (va_Qv (q_Ks_sort K h0 h1 z n f) (fun u t => va_P D classes u t.heap ∧ va_D A u) A) ([.ref h0] : List Value).toArray s 0 0 A) (F0 m 35 ls []) := by
  have hF2 := hF
  obtain ⟨hx, hb, hr, hml, hown, htw, hK, hlocks, hname⟩ := hF
  intro fuel
  induction fuel with
  | zero => intros; omega
  | succ fuel ih =>
    intro k g hs hk hfu H locs hP hD hS ls hl
    refine lv_iload_n hx hb d_Ks_sort_35 rfl (lv_at hl 1 rfl) ?_
    refine lv_if_le (tgt := 77) hx hb d_Ks_sort_36 (by decide) (fun c_36 => ?_) (fun c_36 => ?_)
    · have c_36 := (dI_le (by omega)).mp c_36
      exact xr_vret hx hb hr hlocks hP hD hS (Nat.le_of_ble_eq_true rfl) (Nat.le_of_ble_eq_true rfl) (⟨_, rfl, hs.1, hp_srt_end hs c_36⟩) d_Ks_sort_77
    · have c_36 : 1 < k := Nat.lt_of_not_le (fun q => c_36 ((dI_le (by omega)).mpr q))
      rw [show dI k = nI (k - 1) from dI_pos (by omega)] at hl
      refine lv_aload_n hx hb d_Ks_sort_39 rfl (lv_at hl 0 rfl) ?_
      refine xg hx hb hown htw hK hP 0 0 rfl k_Ks (by decide) fl_Ks_9 rfl d_Ks_sort_40 ?_
      refine lv_iconst (v := nI 0) hx hb d_Ks_sort_43 (by decide) ?_
      refine xald_l hx hb hK hP 1 rfl (by omega) (by omega) d_Ks_sort_44 ?_
      refine lv_lstore_n (lv' := [(2, .long (g 0)), (0, .ref h0), (1, .int (nI (k - 1)))]) hx hb d_Ks_sort_45 rfl hl (by decide) rfl (fun ls hl => ?_)
      refine lv_aload_n hx hb d_Ks_sort_46 rfl (lv_at hl 1 rfl) ?_
      refine xg hx hb hown htw hK hP 0 0 rfl k_Ks (by decide) fl_Ks_9 rfl d_Ks_sort_47 ?_
      refine lv_iconst (v := nI 0) hx hb d_Ks_sort_50 (by decide) ?_
      refine lv_aload_n hx hb d_Ks_sort_51 rfl (lv_at hl 1 rfl) ?_
      refine xg hx hb hown htw hK hP 0 0 rfl k_Ks (by decide) fl_Ks_9 rfl d_Ks_sort_52 ?_
      refine lv_iload_n hx hb d_Ks_sort_55 rfl (lv_at hl 2 rfl) ?_
      refine xald_l hx hb hK hP 1 rfl (by omega) (by omega) d_Ks_sort_56 ?_
      refine xast_l hx hb hK hP hD hS 1 rfl (by omega) (by omega) d_Ks_sort_57 (fun H locs hP hD hS => ?_)
      have hP : va_P D classes [(h0, .inr (1, [.ref h1, .int (nI z)])), (h1, .inl (K 1, n, .inr (.inl (vp_updL g 0 (g (k - 1))))))] H := hP
      have hD : va_D A [(h0, .inr (1, [.ref h1, .int (nI z)])), (h1, .inl (K 1, n, .inr (.inl (vp_updL g 0 (g (k - 1))))))] := hD
      refine lv_aload_n hx hb d_Ks_sort_58 rfl (lv_at hl 1 rfl) ?_
      refine xg hx hb hown htw hK hP 0 0 rfl k_Ks (by decide) fl_Ks_9 rfl d_Ks_sort_59 ?_
      refine lv_iload_n hx hb d_Ks_sort_62 rfl (lv_at hl 2 rfl) ?_
      refine lv_lload_n hx hb d_Ks_sort_63 rfl (lv_at hl 0 rfl) ?_
      refine xast_l hx hb hK hP hD hS 1 rfl (by omega) (by omega) d_Ks_sort_64 (fun H locs hP hD hS => ?_)
      have hP : va_P D classes [(h0, .inr (1, [.ref h1, .int (nI z)])), (h1, .inl (K 1, n, .inr (.inl (vp_updL (vp_updL g 0 (g (k - 1))) (k - 1) (g 0)))))] H := hP
      have hD : va_D A [(h0, .inr (1, [.ref h1, .int (nI z)])), (h1, .inl (K 1, n, .inr (.inl (vp_updL (vp_updL g 0 (g (k - 1))) (k - 1) (g 0)))))] := hD
      refine lv_aload_n hx hb d_Ks_sort_65 rfl (lv_at hl 1 rfl) ?_
      refine lv_iconst (v := nI 0) hx hb d_Ks_sort_66 (by decide) ?_
      refine lv_iload_n hx hb d_Ks_sort_67 rfl (lv_at hl 2 rfl) ?_
      refine xcV_v (As := [.int (nI 0), .int (nI (k - 1))]) (rest := []) (wr := []) hx hb hml hown htw hK hA hl.1 hP hD hS (c_Ks_sink l D K h0 h1 z n (vp_updL (vp_updL g 0 (g (k - 1))) (k - 1) (g 0)) 0 (k - 1) (by first | assumption | omega) (by first | assumption | omega) (by first | assumption | omega)) [0, 1] [] rfl rfl (by decide) (by decide) (by decide) 0 rfl k_Ks ml_Ks_28 w_Ks_sink rfl ⟨by decide, by decide⟩ rfl (Nat.le_of_ble_eq_true rfl) ⟨by decide, by decide⟩ d_Ks_sort_68 (fun u H locs hpost hP hD hS => ?_)
      obtain ⟨f'_68, rfl, hsunk_68⟩ := hpost
      have hP : va_P D classes [(h0, .inr (1, [.ref h1, .int (nI z)])), (h1, .inl (K 1, n, .inr (.inl f'_68)))] H := hP
      have hD : va_D A [(h0, .inr (1, [.ref h1, .int (nI z)])), (h1, .inl (K 1, n, .inr (.inl f'_68)))] := hD
      refine lv_iinc (v := dI (k - 1)) (lv' := [(1, .int (dI (k - 1))), (2, .long (g 0)), (0, .ref h0)]) hx hb d_Ks_sort_71 hl (k := 2) rfl (dI_inc _) (by decide) rfl (fun ls hl => ?_)
      refine lv_goto (tgt := 35) hx hb d_Ks_sort_74 (by decide) ?_
      exact ih (k - 1) f'_68 (by exact hp_srt_next hs (by omega) hk hsunk_68) (by first | assumption | omega) (by omega) _ _ hP hD hS _ (lv_sub hl [2, 0] rfl)
set_option maxHeartbeats 4000000 in
set_option maxRecDepth 100000 in
theorem lp_Ks_sort_9 {p : Program} {l : Launch} {e : Env} {s : State} {m : MethodId} {below : List Frame} {meth : Method} {c : Code} {A : Nat → Prop} {D : va_G} {K : Nat → ClassId} (h0 : Nat) (h1 : Nat) (z : Nat) (n : Nat) (f : Nat → Int64) (hz : z ≤ n) (hn : n < 2 ^ 30) (hF : Fx p s m meth c y_Ks_sort b_Ks_sort 4 none D K) {b0 : Nat} (hA : AS K s A b0) : ∀ fuel : Nat, ∀ k : Nat, ∀ g : Nat → Int64, (∀ v, hp_cnt g v z = hp_cnt f v z) → (∀ i, k ≤ i → hp_ge g z i) → (k ≤ z) → k < fuel → ∀ (H : Heap) (locs : List Loc), va_P D classes [(h0, .inr (1, [.ref h1, .int (nI z)])), (h1, .inl (K 1, n, .inr (.inl g)))] H → va_D A [(h0, .inr (1, [.ref h1, .int (nI z)])), (h1, .inl (K 1, n, .inr (.inl g)))] → va_S A s.heap H locs → ∀ ls : Array Slot, lv_has ls 4 [(0, .ref h0), (1, .int (dI k))] → W p l e ({ frames := 1, cells := 0, slots := 0, locals := 26 } : Room) s m ([.ref h0] : List Value).toArray below meth c H locs 0 0 (MQ below (va_Qv (q_Ks_sort K h0 h1 z n f) (fun u t => va_P D classes u t.heap ∧ va_D A u) A) ([.ref h0] : List Value).toArray s 0 0 A) (F0 m 9 ls []) := by
  have hF2 := hF
  obtain ⟨hx, hb, hr, hml, hown, htw, hK, hlocks, hname⟩ := hF
  intro fuel
  induction fuel with
  | zero => intros; omega
  | succ fuel ih =>
    intro k g hc hh hk hfu H locs hP hD hS ls hl
    refine lv_iload_n hx hb d_Ks_sort_9 rfl (lv_at hl 1 rfl) ?_
    refine lv_if_lt (tgt := 28) hx hb d_Ks_sort_10 (by decide) (fun c_10 => ?_) (fun c_10 => ?_)
    · have c_10 := (dI_lt (by omega)).mp c_10
      refine lv_aload_n hx hb d_Ks_sort_28 rfl (lv_at hl 0 rfl) ?_
      refine xg hx hb hown htw hK hP 0 1 rfl k_Ks (by decide) fl_Ks_15 rfl d_Ks_sort_29 ?_
      refine lv_iconst (v := nI 1) hx hb d_Ks_sort_32 (by decide) ?_
      refine lv_isub hx hb d_Ks_sort_33 ?_
      refine xi (y := dI z) (rfl) ?_
      refine lv_istore_n (lv' := [(1, .int (dI z)), (0, .ref h0)]) hx hb d_Ks_sort_34 rfl hl (by decide) rfl (fun ls hl => ?_)
      exact lp_Ks_sort_35 (l := l) h0 h1 z n f hz hn hF2 hA _ z g (by exact ⟨hc, fun i => hh i (by omega), fun i j h1 h2 h3 => by omega, fun i j h1 h2 h3 => by omega⟩) (by first | assumption | omega) (Nat.lt_succ_self _) _ _ hP hD hS _ (lv_sub hl [1, 0] rfl)
    · have c_10 : 0 < k := Nat.pos_of_ne_zero (fun q => c_10 ((dI_lt (by omega)).mpr q))
      rw [show dI k = nI (k - 1) from dI_pos c_10] at hl
      refine lv_aload_n hx hb d_Ks_sort_13 rfl (lv_at hl 0 rfl) ?_
      refine lv_iload_n hx hb d_Ks_sort_14 rfl (lv_at hl 1 rfl) ?_
      refine lv_aload_n hx hb d_Ks_sort_15 rfl (lv_at hl 0 rfl) ?_
      refine xg hx hb hown htw hK hP 0 1 rfl k_Ks (by decide) fl_Ks_15 rfl d_Ks_sort_16 ?_
      refine xcV_v (As := [.int (nI (k - 1)), .int (nI z)]) (rest := []) (wr := []) hx hb hml hown htw hK hA hl.1 hP hD hS (c_Ks_sink l D K h0 h1 z n g (k - 1) z (by first | assumption | omega) (by first | assumption | omega) (by first | assumption | omega)) [0, 1] [] rfl rfl (by decide) (by decide) (by decide) 0 rfl k_Ks ml_Ks_28 w_Ks_sink rfl ⟨by decide, by decide⟩ rfl (Nat.le_of_ble_eq_true rfl) ⟨by decide, by decide⟩ d_Ks_sort_19 (fun u H locs hpost hP hD hS => ?_)
      obtain ⟨f'_19, rfl, hsunk_19⟩ := hpost
      have hP : va_P D classes [(h0, .inr (1, [.ref h1, .int (nI z)])), (h1, .inl (K 1, n, .inr (.inl f'_19)))] H := hP
      have hD : va_D A [(h0, .inr (1, [.ref h1, .int (nI z)])), (h1, .inl (K 1, n, .inr (.inl f'_19)))] := hD
      refine lv_iinc (v := dI (k - 1)) (lv' := [(1, .int (dI (k - 1))), (0, .ref h0)]) hx hb d_Ks_sort_22 hl (k := 1) rfl (dI_inc _) (by decide) rfl (fun ls hl => ?_)
      refine lv_goto (tgt := 9) hx hb d_Ks_sort_25 (by decide) ?_
      exact ih (k - 1) f'_19 (by exact fun v => (hsunk_19.1 v).trans (hc v)) (by exact hsunk_19.2.2 (fun i hi => hh i (by omega))) (by first | assumption | omega) (by omega) _ _ hP hD hS _ (lv_sub hl [1, 0] rfl)
set_option maxHeartbeats 4000000 in
set_option maxRecDepth 100000 in
theorem c_Ks_sort (l : Launch) (D : va_G) (K : Nat → ClassId) (h0 : Nat) (h1 : Nat) (z : Nat) (n : Nat) (f : Nat → Int64) (hz : z ≤ n) (hn : n < 2 ^ 30) : CV l y_Ks_sort b_Ks_sort 4 ({ frames := 1, cells := 0, slots := 0, locals := 26 } : Room) D K [.ref h0] [(h0, .inr (1, [.ref h1, .int (nI z)])), (h1, .inl (K 1, n, .inr (.inl f)))] (q_Ks_sort K h0 h1 z n f) := by
  refine CV_of (by decide) (Nat.le_of_ble_eq_true rfl) ?_
  intro p e s m below meth c A b0 ls hF hA hP hD hl
  have hF2 := hF
  obtain ⟨hx, hb, hr, hml, hown, htw, hK, hlocks, hname⟩ := hF
  have hS : va_S A s.heap s.heap [] := va_S.rf
  have hl : lv_has ls 4 [(0, .ref h0)] := hl
  refine lv_aload_n hx hb d_Ks_sort_0 rfl (lv_at hl 0 rfl) ?_
  refine xg hx hb hown htw hK hP 0 1 rfl k_Ks (by decide) fl_Ks_15 rfl d_Ks_sort_1 ?_
  refine lv_iconst (v := nI 2) hx hb d_Ks_sort_4 (by decide) ?_
  refine lv_idiv hx hb d_Ks_sort_5 (by decide) ?_
  refine xi (y := nI (z / 2)) (pk_div (by omega) (by decide) (by decide)) ?_
  refine lv_iconst (v := nI 1) hx hb d_Ks_sort_6 (by decide) ?_
  refine lv_isub hx hb d_Ks_sort_7 ?_
  refine xi (y := dI (z / 2)) (rfl) ?_
  refine lv_istore_n (lv' := [(1, .int (dI (z / 2))), (0, .ref h0)]) hx hb d_Ks_sort_8 rfl hl (by decide) rfl (fun ls hl => ?_)
  exact lp_Ks_sort_9 (l := l) h0 h1 z n f hz hn hF2 hA _ (z / 2) f (by exact fun _ => rfl) (by exact fun i hi => ⟨fun q => by omega, fun q => by omega⟩) (by first | assumption | omega) (Nat.lt_succ_self _) _ _ hP hD hS _ (lv_sub hl [1, 0] rfl)

abbrev q_Ks_different (K : Nat → ClassId) (h0 : Nat) (h1 : Nat) (z : Nat) (n : Nat) (f : Nat → Int64) : Int32 → va_W → Prop := fun r u => ∃ f' : Nat → Int64, u = [(h0, .inr (1, [.ref h1, .int (nI z)])), (h1, .inl (K 1, n, .inr (.inl f')))] ∧ r = nI (hp_dif f' z) ∧ (∀ v, hp_cnt f' v z = hp_cnt f v z) ∧ (∀ i j, i ≤ j → j < z → f' i ≤ f' j)
set_option maxHeartbeats 4000000 in
set_option maxRecDepth 100000 in
theorem lp_Ks_different_8 {p : Program} {l : Launch} {e : Env} {s : State} {m : MethodId} {below : List Frame} {meth : Method} {c : Code} {A : Nat → Prop} {D : va_G} {K : Nat → ClassId} (h0 : Nat) (h1 : Nat) (z : Nat) (n : Nat) (f : Nat → Int64) (hz : z ≤ n) (hn : n < 2 ^ 30) (hF : Fx p s m meth c y_Ks_different b_Ks_different 3 (some .int) D K) {b0 : Nat} (hA : AS K s A b0) : ∀ fuel : Nat, ∀ i : Nat, ∀ g : Nat → Int64, (∀ v, hp_cnt g v z = hp_cnt f v z) → (∀ i j, i ≤ j → j < z → g i ≤ g j) → (i ≤ z) → z - i < fuel → ∀ (H : Heap) (locs : List Loc), va_P D classes [(h0, .inr (1, [.ref h1, .int (nI z)])), (h1, .inl (K 1, n, .inr (.inl g)))] H → va_D A [(h0, .inr (1, [.ref h1, .int (nI z)])), (h1, .inl (K 1, n, .inr (.inl g)))] → va_S A s.heap H locs → ∀ ls : Array Slot, lv_has ls 3 [(0, .ref h0), (1, .int (nI (hp_dif g i))), (2, .int (nI i))] → W p l e ({ frames := 2, cells := 0, slots := 0, locals := 49 } : Room) s m ([.ref h0] : List Value).toArray below meth c H locs 0 0 (MQ below (va_Qi (q_Ks_different K h0 h1 z n f) (fun u t => va_P D classes u t.heap ∧ va_D A u) A) ([.ref h0] : List Value).toArray s 0 0 A) (F0 m 8 ls []) := by
  have hF2 := hF
  obtain ⟨hx, hb, hr, hml, hown, htw, hK, hlocks, hname⟩ := hF
  intro fuel
  induction fuel with
  | zero => intros; omega
  | succ fuel ih =>
    have jn_41 : ∀ i : Nat, ∀ g : Nat → Int64, ∀ dd : Nat, (∀ v, hp_cnt g v z = hp_cnt f v z) → (∀ i j, i ≤ j → j < z → g i ≤ g j) → (i < z) → (z - i < fuel + 1) → (dd = hp_dif g (i + 1)) → ∀ (H : Heap) (locs : List Loc), va_P D classes [(h0, .inr (1, [.ref h1, .int (nI z)])), (h1, .inl (K 1, n, .inr (.inl g)))] H → va_D A [(h0, .inr (1, [.ref h1, .int (nI z)])), (h1, .inl (K 1, n, .inr (.inl g)))] → va_S A s.heap H locs → ∀ ls : Array Slot, lv_has ls 3 [(0, .ref h0), (1, .int (nI dd)), (2, .int (nI i))] → W p l e ({ frames := 2, cells := 0, slots := 0, locals := 49 } : Room) s m ([.ref h0] : List Value).toArray below meth c H locs 0 0 (MQ below (va_Qi (q_Ks_different K h0 h1 z n f) (fun u t => va_P D classes u t.heap ∧ va_D A u) A) ([.ref h0] : List Value).toArray s 0 0 A) (F0 m 41 ls []) := by
      intro i g dd hc hs hi hfu hd H locs hP hD hS ls hl
      subst hd
      refine lv_iinc (v := nI (i + 1)) (lv' := [(2, .int (nI (i + 1))), (0, .ref h0), (1, .int (nI (hp_dif g (i + 1))))]) hx hb d_Ks_different_41 hl (k := 2) rfl (inc_nI _ _) (by decide) rfl (fun ls hl => ?_)
      refine lv_goto (tgt := 8) hx hb d_Ks_different_44 (by decide) ?_
      exact ih (i + 1) g (by first | assumption | omega) (by first | assumption | omega) (by first | assumption | omega) (by omega) _ _ hP hD hS _ (lv_sub hl [1, 2, 0] rfl)
    intro i g hc hs hi hfu H locs hP hD hS ls hl
    refine lv_iload_n hx hb d_Ks_different_8 rfl (lv_at hl 2 rfl) ?_
    refine lv_aload_n hx hb d_Ks_different_9 rfl (lv_at hl 0 rfl) ?_
    refine xg hx hb hown htw hK hP 0 1 rfl k_Ks (by decide) fl_Ks_15 rfl d_Ks_different_10 ?_
    have hle := hp_dif_le g i
    refine xc_ge (tgt := 47) (a := i) (b := z) hx hb (by omega) (by omega) d_Ks_different_13 (by decide) (fun c_13 => ?_) (fun c_13 => ?_)
    · have hiz : i = z := by omega
      subst hiz
      refine lv_iload_n hx hb d_Ks_different_47 rfl (lv_at hl 1 rfl) ?_
      exact xr_iret hx hb hr hlocks hP hD hS (Nat.le_of_ble_eq_true rfl) (Nat.le_of_ble_eq_true rfl) (⟨_, rfl, rfl, hc, hs⟩) d_Ks_different_48
    · refine lv_iload_n hx hb d_Ks_different_16 rfl (lv_at hl 2 rfl) ?_
      refine xz_eq (tgt := 38) (a := i) hx hb (by omega) d_Ks_different_17 (by decide) (fun c_17 => ?_) (fun c_17 => ?_)
      · refine lv_iinc (v := nI ((hp_dif g i) + 1)) (lv' := [(1, .int (nI ((hp_dif g i) + 1))), (0, .ref h0), (2, .int (nI i))]) hx hb d_Ks_different_38 hl (k := 1) rfl (inc_nI _ _) (by decide) rfl (fun ls hl => ?_)
        exact jn_41 i g ((hp_dif g i) + 1) (by first | assumption | omega) (by first | assumption | omega) (by first | assumption | omega) (by first | assumption | omega) (by exact (hp_dif_ne (by first | exact Or.inl c_17 | exact Or.inr c_34)).symm) _ _ hP hD hS _ (lv_sub hl [1, 0, 2] rfl)
      · refine lv_aload_n hx hb d_Ks_different_20 rfl (lv_at hl 0 rfl) ?_
        refine xg hx hb hown htw hK hP 0 0 rfl k_Ks (by decide) fl_Ks_9 rfl d_Ks_different_21 ?_
        refine lv_iload_n hx hb d_Ks_different_24 rfl (lv_at hl 2 rfl) ?_
        refine xald_l hx hb hK hP 1 rfl (by omega) (by omega) d_Ks_different_25 ?_
        refine lv_aload_n hx hb d_Ks_different_26 rfl (lv_at hl 0 rfl) ?_
        refine xg hx hb hown htw hK hP 0 0 rfl k_Ks (by decide) fl_Ks_9 rfl d_Ks_different_27 ?_
        refine lv_iload_n hx hb d_Ks_different_30 rfl (lv_at hl 2 rfl) ?_
        refine lv_iconst (v := nI 1) hx hb d_Ks_different_31 (by decide) ?_
        refine lv_isub hx hb d_Ks_different_32 ?_
        refine xi (nI_sub (a := i) (b := 1) (by omega)) ?_
        refine xald_l hx hb hK hP 1 rfl (by omega) (by omega) d_Ks_different_33 ?_
        refine xlc_eq (tgt := 41) (x := g i) (y := g (i - 1)) hx hb d_Ks_different_34 d_Ks_different_35 (by decide) (fun c_34 => ?_) (fun c_34 => ?_)
        · exact jn_41 i g (hp_dif g i) (by first | assumption | omega) (by first | assumption | omega) (by first | assumption | omega) (by first | assumption | omega) (by exact (hp_dif_eq (by omega) c_34).symm) _ _ hP hD hS _ (lv_sub hl [0, 1, 2] rfl)
        · refine lv_iinc (v := nI ((hp_dif g i) + 1)) (lv' := [(1, .int (nI ((hp_dif g i) + 1))), (0, .ref h0), (2, .int (nI i))]) hx hb d_Ks_different_38 hl (k := 1) rfl (inc_nI _ _) (by decide) rfl (fun ls hl => ?_)
          exact jn_41 i g ((hp_dif g i) + 1) (by first | assumption | omega) (by first | assumption | omega) (by first | assumption | omega) (by first | assumption | omega) (by exact (hp_dif_ne (by first | exact Or.inl c_17 | exact Or.inr c_34)).symm) _ _ hP hD hS _ (lv_sub hl [1, 0, 2] rfl)
set_option maxHeartbeats 4000000 in
set_option maxRecDepth 100000 in
theorem c_Ks_different (l : Launch) (D : va_G) (K : Nat → ClassId) (h0 : Nat) (h1 : Nat) (z : Nat) (n : Nat) (f : Nat → Int64) (hz : z ≤ n) (hn : n < 2 ^ 30) : CI l y_Ks_different b_Ks_different 3 .int ({ frames := 2, cells := 0, slots := 0, locals := 49 } : Room) D K [.ref h0] [(h0, .inr (1, [.ref h1, .int (nI z)])), (h1, .inl (K 1, n, .inr (.inl f)))] (q_Ks_different K h0 h1 z n f) := by
  refine CI_of (by decide) (Nat.le_of_ble_eq_true rfl) ?_
  intro p e s m below meth c A b0 ls hF hA hP hD hl
  have hF2 := hF
  obtain ⟨hx, hb, hr, hml, hown, htw, hK, hlocks, hname⟩ := hF
  have hS : va_S A s.heap s.heap [] := va_S.rf
  have hl : lv_has ls 3 [(0, .ref h0)] := hl
  refine lv_aload_n hx hb d_Ks_different_0 rfl (lv_at hl 0 rfl) ?_
  refine xcV_v (As := []) (rest := []) (wr := []) hx hb hml hown htw hK hA hl.1 hP hD hS (c_Ks_sort l D K h0 h1 z n f (by first | assumption | omega) (by first | assumption | omega)) [0, 1] [] rfl rfl (by decide) (by decide) (by decide) 0 rfl k_Ks ml_Ks_25 w_Ks_sort rfl ⟨by decide, by decide⟩ rfl (Nat.le_of_ble_eq_true rfl) ⟨by decide, by decide⟩ d_Ks_different_1 (fun u H locs hpost hP hD hS => ?_)
  obtain ⟨f'_1, rfl, hcnt_1, hsrt_1⟩ := hpost
  have hP : va_P D classes [(h0, .inr (1, [.ref h1, .int (nI z)])), (h1, .inl (K 1, n, .inr (.inl f'_1)))] H := hP
  have hD : va_D A [(h0, .inr (1, [.ref h1, .int (nI z)])), (h1, .inl (K 1, n, .inr (.inl f'_1)))] := hD
  refine lv_iconst (v := nI 0) hx hb d_Ks_different_4 (by decide) ?_
  refine lv_istore_n (lv' := [(1, .int (nI 0)), (0, .ref h0)]) hx hb d_Ks_different_5 rfl hl (by decide) rfl (fun ls hl => ?_)
  rw [show nI 0 = nI (hp_dif f'_1 0) from rfl] at hl
  refine lv_iconst (v := nI 0) hx hb d_Ks_different_6 (by decide) ?_
  refine lv_istore_n (lv' := [(2, .int (nI 0)), (1, .int (nI (hp_dif f'_1 0))), (0, .ref h0)]) hx hb d_Ks_different_7 rfl hl (by decide) rfl (fun ls hl => ?_)
  exact lp_Ks_different_8 (l := l) h0 h1 z n f hz hn hF2 hA _ 0 f'_1 (by exact hcnt_1) (by exact hsrt_1) (by first | assumption | omega) (Nat.lt_succ_self _) _ _ hP hD hS _ (lv_sub hl [2, 1, 0] rfl)


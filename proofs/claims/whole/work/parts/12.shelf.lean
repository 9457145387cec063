abbrev q_Tk_insert (K : Nat → ClassId) (t0 : Nat) (b1 : Nat) (b2 : Nat) (T : Nat) (ch : Nat → Nat) (ct : Nat → Int64) (pp : Nat) (x : Nat) (y : Int64) : va_W → Prop := fun u => u = [(t0, .inr (5, [.ref b1, .ref b2, .int (nI (T + 1))])), (b1, .inl (K 0, 512, .inl (nA (insN ch pp T x)))), (b2, .inl (K 1, 512, .inr (.inl (insN ct pp T y))))]
set_option maxHeartbeats 4000000 in
set_option maxRecDepth 100000 in
theorem c_Tk_insert (l : Launch) (D : va_G) (K : Nat → ClassId) (t0 : Nat) (b1 : Nat) (b2 : Nat) (T : Nat) (ch : Nat → Nat) (ct : Nat → Int64) (pp : Nat) (x : Nat) (y : Int64) (hp : pp ≤ T) (hT : T < 512) : CV l y_Tk_insert b_Tk_insert 5 ({ frames := 1, cells := 0, slots := 0, locals := 64 } : Room) D K [.ref t0, .int (nI pp), .int (nI x), .long y] [(t0, .inr (5, [.ref b1, .ref b2, .int (nI T)])), (b1, .inl (K 0, 512, .inl (nA ch))), (b2, .inl (K 1, 512, .inr (.inl ct)))] (q_Tk_insert K t0 b1 b2 T ch ct pp x y) := by
  refine CV_of (by decide) (Nat.le_of_ble_eq_true rfl) ?_
  intro p e s m below meth c A b0 ls hF hA hP hD hl
  have hF2 := hF
  obtain ⟨hx, hb, hr, hml, hown, htw, hK, hlocks, hname⟩ := hF
  have hS : va_S A s.heap s.heap [] := va_S.rf
  have hl : lv_has ls 5 [(0, .ref t0), (1, .int (nI pp)), (2, .int (nI x)), (3, .long y)] := hl
  refine lv_iload_n hx hb d_Tk_insert_0 rfl (lv_at hl 1 rfl) ?_
  refine xz_lt (a := pp) hx hb (by omega) d_Tk_insert_1 12 (by decide) ?_
  refine lv_iload_n hx hb d_Tk_insert_4 rfl (lv_at hl 1 rfl) ?_
  refine lv_aload_n hx hb d_Tk_insert_5 rfl (lv_at hl 0 rfl) ?_
  refine xg hx hb hown htw hK hP 0 2 rfl k_Tk (by decide) fl_Tk_19 rfl d_Tk_insert_6 ?_
  refine xc_le (tgt := 13) (a := pp) (b := T) hx hb (by omega) (by omega) d_Tk_insert_9 (by decide) (fun c_9 => ?_) (fun c_9 => ?_)
  · refine lv_aload_n hx hb d_Tk_insert_13 rfl (lv_at hl 0 rfl) ?_
    refine xg hx hb hown htw hK hP 0 2 rfl k_Tk (by decide) fl_Tk_19 rfl d_Tk_insert_14 ?_
    refine lv_aload_n hx hb d_Tk_insert_17 rfl (lv_at hl 0 rfl) ?_
    refine xg hx hb hown htw hK hP 0 0 rfl k_Tk (by decide) fl_Tk_9 rfl d_Tk_insert_18 ?_
    refine xalen (t0 := 0) (n := 512) hx hb hK hP 1 rfl rfl rfl d_Tk_insert_21 ?_
    refine xc_lt (tgt := 59) (a := T) (b := 512) hx hb (by omega) (by omega) d_Tk_insert_22 (by decide) (fun c_22 => ?_) (fun c_22 => ?_)
    · refine lv_aload_n hx hb d_Tk_insert_59 rfl (lv_at hl 0 rfl) ?_
      refine xg hx hb hown htw hK hP 0 0 rfl k_Tk (by decide) fl_Tk_9 rfl d_Tk_insert_60 ?_
      refine lv_iload_n hx hb d_Tk_insert_63 rfl (lv_at hl 1 rfl) ?_
      refine lv_aload_n hx hb d_Tk_insert_64 rfl (lv_at hl 0 rfl) ?_
      refine xg hx hb hown htw hK hP 0 0 rfl k_Tk (by decide) fl_Tk_9 rfl d_Tk_insert_65 ?_
      refine lv_iload_n hx hb d_Tk_insert_68 rfl (lv_at hl 1 rfl) ?_
      refine lv_iconst (v := nI 1) hx hb d_Tk_insert_69 (by decide) ?_
      refine lv_iadd hx hb d_Tk_insert_70 ?_
      refine xi (nI_add pp 1) ?_
      refine lv_aload_n hx hb d_Tk_insert_71 rfl (lv_at hl 0 rfl) ?_
      refine xg hx hb hown htw hK hP 0 2 rfl k_Tk (by decide) fl_Tk_19 rfl d_Tk_insert_72 ?_
      refine lv_iload_n hx hb d_Tk_insert_75 rfl (lv_at hl 1 rfl) ?_
      refine lv_isub hx hb d_Tk_insert_76 ?_
      refine xi (nI_sub (a := T) (b := pp) (by omega)) ?_
      refine xcpy_i hx hb (by rw [hml]; exact hl.1.symm) hown htw hK hP hD hS 1 rfl ml_Tk_32 (by omega) (by omega) (by omega) (Nat.le_of_ble_eq_true rfl) (by decide) d_Tk_insert_77 (fun H locs hP hD hS => ?_)
      rw [cpy_nA] at hP hD
      have hP : va_P D classes [(t0, .inr (5, [.ref b1, .ref b2, .int (nI T)])), (b1, .inl (K 0, 512, .inl (nA (va_cpy ch ch pp (pp + 1) (T - pp))))), (b2, .inl (K 1, 512, .inr (.inl ct)))] H := hP
      have hD : va_D A [(t0, .inr (5, [.ref b1, .ref b2, .int (nI T)])), (b1, .inl (K 0, 512, .inl (nA (va_cpy ch ch pp (pp + 1) (T - pp))))), (b2, .inl (K 1, 512, .inr (.inl ct)))] := hD
      refine lv_aload_n hx hb d_Tk_insert_80 rfl (lv_at hl 0 rfl) ?_
      refine xg hx hb hown htw hK hP 0 1 rfl k_Tk (by decide) fl_Tk_15 rfl d_Tk_insert_81 ?_
      refine lv_iload_n hx hb d_Tk_insert_84 rfl (lv_at hl 1 rfl) ?_
      refine lv_aload_n hx hb d_Tk_insert_85 rfl (lv_at hl 0 rfl) ?_
      refine xg hx hb hown htw hK hP 0 1 rfl k_Tk (by decide) fl_Tk_15 rfl d_Tk_insert_86 ?_
      refine lv_iload_n hx hb d_Tk_insert_89 rfl (lv_at hl 1 rfl) ?_
      refine lv_iconst (v := nI 1) hx hb d_Tk_insert_90 (by decide) ?_
      refine lv_iadd hx hb d_Tk_insert_91 ?_
      refine xi (nI_add pp 1) ?_
      refine lv_aload_n hx hb d_Tk_insert_92 rfl (lv_at hl 0 rfl) ?_
      refine xg hx hb hown htw hK hP 0 2 rfl k_Tk (by decide) fl_Tk_19 rfl d_Tk_insert_93 ?_
      refine lv_iload_n hx hb d_Tk_insert_96 rfl (lv_at hl 1 rfl) ?_
      refine lv_isub hx hb d_Tk_insert_97 ?_
      refine xi (nI_sub (a := T) (b := pp) (by omega)) ?_
      refine xcpy_l hx hb (by rw [hml]; exact hl.1.symm) hown htw hK hP hD hS 2 rfl ml_Tk_32 (by omega) (by omega) (by omega) (Nat.le_of_ble_eq_true rfl) (by decide) d_Tk_insert_98 (fun H locs hP hD hS => ?_)
      have hP : va_P D classes [(t0, .inr (5, [.ref b1, .ref b2, .int (nI T)])), (b1, .inl (K 0, 512, .inl (nA (va_cpy ch ch pp (pp + 1) (T - pp))))), (b2, .inl (K 1, 512, .inr (.inl (va_cpy ct ct pp (pp + 1) (T - pp)))))] H := hP
      have hD : va_D A [(t0, .inr (5, [.ref b1, .ref b2, .int (nI T)])), (b1, .inl (K 0, 512, .inl (nA (va_cpy ch ch pp (pp + 1) (T - pp))))), (b2, .inl (K 1, 512, .inr (.inl (va_cpy ct ct pp (pp + 1) (T - pp)))))] := hD
      refine lv_aload_n hx hb d_Tk_insert_101 rfl (lv_at hl 0 rfl) ?_
      refine xg hx hb hown htw hK hP 0 0 rfl k_Tk (by decide) fl_Tk_9 rfl d_Tk_insert_102 ?_
      refine lv_iload_n hx hb d_Tk_insert_105 rfl (lv_at hl 1 rfl) ?_
      refine lv_iload_n hx hb d_Tk_insert_106 rfl (lv_at hl 2 rfl) ?_
      refine xast_i hx hb hK hP hD hS 1 rfl (by omega) (by omega) d_Tk_insert_107 (fun H locs hP hD hS => ?_)
      rw [upd_nA] at hP hD
      have hP : va_P D classes [(t0, .inr (5, [.ref b1, .ref b2, .int (nI T)])), (b1, .inl (K 0, 512, .inl (nA (va_up (va_cpy ch ch pp (pp + 1) (T - pp)) pp x)))), (b2, .inl (K 1, 512, .inr (.inl (va_cpy ct ct pp (pp + 1) (T - pp)))))] H := hP
      have hD : va_D A [(t0, .inr (5, [.ref b1, .ref b2, .int (nI T)])), (b1, .inl (K 0, 512, .inl (nA (va_up (va_cpy ch ch pp (pp + 1) (T - pp)) pp x)))), (b2, .inl (K 1, 512, .inr (.inl (va_cpy ct ct pp (pp + 1) (T - pp)))))] := hD
      rw [insN_n ch hp x] at hP hD
      have hP : va_P D classes [(t0, .inr (5, [.ref b1, .ref b2, .int (nI T)])), (b1, .inl (K 0, 512, .inl (nA (insN ch pp T x)))), (b2, .inl (K 1, 512, .inr (.inl (va_cpy ct ct pp (pp + 1) (T - pp)))))] H := hP
      have hD : va_D A [(t0, .inr (5, [.ref b1, .ref b2, .int (nI T)])), (b1, .inl (K 0, 512, .inl (nA (insN ch pp T x)))), (b2, .inl (K 1, 512, .inr (.inl (va_cpy ct ct pp (pp + 1) (T - pp)))))] := hD
      refine lv_aload_n hx hb d_Tk_insert_108 rfl (lv_at hl 0 rfl) ?_
      refine xg hx hb hown htw hK hP 0 1 rfl k_Tk (by decide) fl_Tk_15 rfl d_Tk_insert_109 ?_
      refine lv_iload_n hx hb d_Tk_insert_112 rfl (lv_at hl 1 rfl) ?_
      refine lv_lload_n hx hb d_Tk_insert_113 rfl (lv_at hl 3 rfl) ?_
      refine xast_l hx hb hK hP hD hS 2 rfl (by omega) (by omega) d_Tk_insert_114 (fun H locs hP hD hS => ?_)
      have hP : va_P D classes [(t0, .inr (5, [.ref b1, .ref b2, .int (nI T)])), (b1, .inl (K 0, 512, .inl (nA (insN ch pp T x)))), (b2, .inl (K 1, 512, .inr (.inl (vp_updL (va_cpy ct ct pp (pp + 1) (T - pp)) pp y))))] H := hP
      have hD : va_D A [(t0, .inr (5, [.ref b1, .ref b2, .int (nI T)])), (b1, .inl (K 0, 512, .inl (nA (insN ch pp T x)))), (b2, .inl (K 1, 512, .inr (.inl (vp_updL (va_cpy ct ct pp (pp + 1) (T - pp)) pp y))))] := hD
      rw [insN_l ct hp y] at hP hD
      have hP : va_P D classes [(t0, .inr (5, [.ref b1, .ref b2, .int (nI T)])), (b1, .inl (K 0, 512, .inl (nA (insN ch pp T x)))), (b2, .inl (K 1, 512, .inr (.inl (insN ct pp T y))))] H := hP
      have hD : va_D A [(t0, .inr (5, [.ref b1, .ref b2, .int (nI T)])), (b1, .inl (K 0, 512, .inl (nA (insN ch pp T x)))), (b2, .inl (K 1, 512, .inr (.inl (insN ct pp T y))))] := hD
      refine lv_aload_n hx hb d_Tk_insert_115 rfl (lv_at hl 0 rfl) ?_
      refine lv_dup hx hb d_Tk_insert_116 rfl ?_
      refine xg hx hb hown htw hK hP 0 2 rfl k_Tk (by decide) fl_Tk_19 rfl d_Tk_insert_117 ?_
      refine lv_iconst (v := nI 1) hx hb d_Tk_insert_120 (by decide) ?_
      refine lv_iadd hx hb d_Tk_insert_121 ?_
      refine xi (nI_add T 1) ?_
      refine xpt hx hb hown htw hK hP hD hS 0 2 rfl k_Tk (by decide) fl_Tk_19 rfl rfl rfl (Nat.le_of_ble_eq_true rfl) d_Tk_insert_122 (fun H locs hP hD hS => ?_)
      have hP : va_P D classes [(t0, .inr (5, [.ref b1, .ref b2, .int (nI (T + 1))])), (b1, .inl (K 0, 512, .inl (nA (insN ch pp T x)))), (b2, .inl (K 1, 512, .inr (.inl (insN ct pp T y))))] H := hP
      have hD : va_D A [(t0, .inr (5, [.ref b1, .ref b2, .int (nI (T + 1))])), (b1, .inl (K 0, 512, .inl (nA (insN ch pp T x)))), (b2, .inl (K 1, 512, .inr (.inl (insN ct pp T y))))] := hD
      exact xr_vret hx hb hr hlocks hP hD hS (Nat.le_of_ble_eq_true rfl) (Nat.le_of_ble_eq_true rfl) (rfl) d_Tk_insert_125
    · omega
  · omega

abbrev q_Sh_inHand (K : Nat → ClassId) (s0 : Nat) (t0 : Nat) (a1 : Nat) (a2 : Nat) (a3 : Nat) (cm : Nat) (b1 : Nat) (b2 : Nat) (T : Nat) (st : Nat → Nat) : Int32 → va_W → Prop := fun r u => u = [(s0, .inr (4, [.ref t0, .ref a1, .ref a2, .ref a3, .int (nI cm)])), (t0, .inr (5, [.ref b1, .ref b2, .int (nI T)])), (a2, .inl (K 0, 601, .inl (nA st)))] ∧ r = nI (T - st cm)
set_option maxHeartbeats 4000000 in
set_option maxRecDepth 100000 in
theorem c_Sh_inHand (l : Launch) (D : va_G) (K : Nat → ClassId) (s0 : Nat) (t0 : Nat) (a1 : Nat) (a2 : Nat) (a3 : Nat) (cm : Nat) (b1 : Nat) (b2 : Nat) (T : Nat) (st : Nat → Nat) (hcm : cm ≤ 600) (hst : st cm ≤ T) : CI l y_Sh_inHand b_Sh_inHand 1 .int ({ frames := 0, cells := 0, slots := 0, locals := 0 } : Room) D K [.ref s0] [(s0, .inr (4, [.ref t0, .ref a1, .ref a2, .ref a3, .int (nI cm)])), (t0, .inr (5, [.ref b1, .ref b2, .int (nI T)])), (a2, .inl (K 0, 601, .inl (nA st)))] (q_Sh_inHand K s0 t0 a1 a2 a3 cm b1 b2 T st) := by
  refine CI_of (by decide) (Nat.le_of_ble_eq_true rfl) ?_
  intro p e s m below meth c A b0 ls hF hA hP hD hl
  have hF2 := hF
  obtain ⟨hx, hb, hr, hml, hown, htw, hK, hlocks, hname⟩ := hF
  have hS : va_S A s.heap s.heap [] := va_S.rf
  have hl : lv_has ls 1 [(0, .ref s0)] := hl
  refine lv_aload_n hx hb d_Sh_inHand_0 rfl (lv_at hl 0 rfl) ?_
  refine xg hx hb hown htw hK hP 0 0 rfl k_Sh (by decide) fl_Sh_12 rfl d_Sh_inHand_1 ?_
  refine xg hx hb hown htw hK hP 1 2 rfl k_Tk (by decide) fl_Sh_32 rfl d_Sh_inHand_4 ?_
  refine lv_aload_n hx hb d_Sh_inHand_7 rfl (lv_at hl 0 rfl) ?_
  refine xg hx hb hown htw hK hP 0 2 rfl k_Sh (by decide) fl_Sh_22 rfl d_Sh_inHand_8 ?_
  refine lv_aload_n hx hb d_Sh_inHand_11 rfl (lv_at hl 0 rfl) ?_
  refine xg hx hb hown htw hK hP 0 4 rfl k_Sh (by decide) fl_Sh_28 rfl d_Sh_inHand_12 ?_
  refine xald_i hx hb hK hP 2 rfl (by omega) (by omega) d_Sh_inHand_15 ?_
  refine xi (y := nI (st cm)) rfl ?_
  refine lv_isub hx hb d_Sh_inHand_16 ?_
  refine xi (nI_sub (a := T) (b := st cm) (by omega)) ?_
  exact xr_iret hx hb hr hlocks hP hD hS (Nat.le_of_ble_eq_true rfl) (Nat.le_of_ble_eq_true rfl) (⟨rfl, rfl⟩) d_Sh_inHand_17

abbrev q_Sh_comesAfter (K : Nat → ClassId) (s0 : Nat) (t0 : Nat) (a1 : Nat) (a2 : Nat) (a3 : Nat) (cm : Nat) (b1 : Nat) (b2 : Nat) (T : Nat) (ch : Nat → Nat) (ct : Nat → Int64) (i : Nat) (x : Nat) (y : Int64) : Int32 → va_W → Prop := fun r u => u = [(s0, .inr (4, [.ref t0, .ref a1, .ref a2, .ref a3, .int (nI cm)])), (t0, .inr (5, [.ref b1, .ref b2, .int (nI T)])), (b1, .inl (K 0, 512, .inl (nA ch))), (b2, .inl (K 1, 512, .inr (.inl ct)))] ∧ r = nI (bN (x < ch i ∨ (ch i = x ∧ y < ct i)))
set_option maxHeartbeats 4000000 in
set_option maxRecDepth 100000 in
theorem c_Sh_comesAfter (l : Launch) (D : va_G) (K : Nat → ClassId) (s0 : Nat) (t0 : Nat) (a1 : Nat) (a2 : Nat) (a3 : Nat) (cm : Nat) (b1 : Nat) (b2 : Nat) (T : Nat) (ch : Nat → Nat) (ct : Nat → Int64) (i : Nat) (x : Nat) (y : Int64) (hT : T ≤ 512) (hch : ∀ k, k < T → ch k < 2 ^ 24) (hx1 : x < 2 ^ 24) (hi : i < T) : CI l y_Sh_comesAfter b_Sh_comesAfter 5 .boolean ({ frames := 0, cells := 0, slots := 0, locals := 0 } : Room) D K [.ref s0, .int (nI i), .int (nI x), .long y] [(s0, .inr (4, [.ref t0, .ref a1, .ref a2, .ref a3, .int (nI cm)])), (t0, .inr (5, [.ref b1, .ref b2, .int (nI T)])), (b1, .inl (K 0, 512, .inl (nA ch))), (b2, .inl (K 1, 512, .inr (.inl ct)))] (q_Sh_comesAfter K s0 t0 a1 a2 a3 cm b1 b2 T ch ct i x y) := by
  refine CI_of (by decide) (Nat.le_of_ble_eq_true rfl) ?_
  intro p e s m below meth c A b0 ls hF hA hP hD hl
  have hF2 := hF
  obtain ⟨hx, hb, hr, hml, hown, htw, hK, hlocks, hname⟩ := hF
  have jn_44 : (¬ (x < ch i ∨ (ch i = x ∧ y < ct i))) → ∀ (H : Heap) (locs : List Loc), va_P D classes [(s0, .inr (4, [.ref t0, .ref a1, .ref a2, .ref a3, .int (nI cm)])), (t0, .inr (5, [.ref b1, .ref b2, .int (nI T)])), (b1, .inl (K 0, 512, .inl (nA ch))), (b2, .inl (K 1, 512, .inr (.inl ct)))] H → va_D A [(s0, .inr (4, [.ref t0, .ref a1, .ref a2, .ref a3, .int (nI cm)])), (t0, .inr (5, [.ref b1, .ref b2, .int (nI T)])), (b1, .inl (K 0, 512, .inl (nA ch))), (b2, .inl (K 1, 512, .inr (.inl ct)))] → va_S A s.heap H locs → ∀ ls : Array Slot, lv_has ls 5 [] → W p l e ({ frames := 0, cells := 0, slots := 0, locals := 0 } : Room) s m ([.ref s0, .int (nI i), .int (nI x), .long y] : List Value).toArray below meth c H locs 0 0 (MQ below (va_Qi (q_Sh_comesAfter K s0 t0 a1 a2 a3 cm b1 b2 T ch ct i x y) (fun u t => va_P D classes u t.heap ∧ va_D A u) A) ([.ref s0, .int (nI i), .int (nI x), .long y] : List Value).toArray s 0 0 A) (F0 m 44 ls []) := by
    intro hy0 H locs hP hD hS ls hl
    refine lv_iconst (v := nI 0) hx hb d_Sh_comesAfter_44 (by decide) ?_
    exact xr_zret (by first | exact Or.inl rfl | exact Or.inr rfl | exact bN_v _) hx hb hr hlocks hP hD hS (Nat.le_of_ble_eq_true rfl) (Nat.le_of_ble_eq_true rfl) (⟨rfl, by first | rw [bN_t hy1] | rw [bN_f hy0]⟩) d_Sh_comesAfter_45
  have jn_40 : (x < ch i ∨ (ch i = x ∧ y < ct i)) → ∀ (H : Heap) (locs : List Loc), va_P D classes [(s0, .inr (4, [.ref t0, .ref a1, .ref a2, .ref a3, .int (nI cm)])), (t0, .inr (5, [.ref b1, .ref b2, .int (nI T)])), (b1, .inl (K 0, 512, .inl (nA ch))), (b2, .inl (K 1, 512, .inr (.inl ct)))] H → va_D A [(s0, .inr (4, [.ref t0, .ref a1, .ref a2, .ref a3, .int (nI cm)])), (t0, .inr (5, [.ref b1, .ref b2, .int (nI T)])), (b1, .inl (K 0, 512, .inl (nA ch))), (b2, .inl (K 1, 512, .inr (.inl ct)))] → va_S A s.heap H locs → ∀ ls : Array Slot, lv_has ls 5 [] → W p l e ({ frames := 0, cells := 0, slots := 0, locals := 0 } : Room) s m ([.ref s0, .int (nI i), .int (nI x), .long y] : List Value).toArray below meth c H locs 0 0 (MQ below (va_Qi (q_Sh_comesAfter K s0 t0 a1 a2 a3 cm b1 b2 T ch ct i x y) (fun u t => va_P D classes u t.heap ∧ va_D A u) A) ([.ref s0, .int (nI i), .int (nI x), .long y] : List Value).toArray s 0 0 A) (F0 m 40 ls []) := by
    intro hy1 H locs hP hD hS ls hl
    refine lv_iconst (v := nI 1) hx hb d_Sh_comesAfter_40 (by decide) ?_
    refine lv_goto (tgt := 45) hx hb d_Sh_comesAfter_41 (by decide) ?_
    exact xr_zret (by first | exact Or.inl rfl | exact Or.inr rfl | exact bN_v _) hx hb hr hlocks hP hD hS (Nat.le_of_ble_eq_true rfl) (Nat.le_of_ble_eq_true rfl) (⟨rfl, by first | rw [bN_t hy1] | rw [bN_f hy0]⟩) d_Sh_comesAfter_45
  have hS : va_S A s.heap s.heap [] := va_S.rf
  have hl : lv_has ls 5 [(0, .ref s0), (1, .int (nI i)), (2, .int (nI x)), (3, .long y)] := hl
  refine lv_aload_n hx hb d_Sh_comesAfter_0 rfl (lv_at hl 0 rfl) ?_
  refine xg hx hb hown htw hK hP 0 0 rfl k_Sh (by decide) fl_Sh_12 rfl d_Sh_comesAfter_1 ?_
  refine xg hx hb hown htw hK hP 1 0 rfl k_Tk (by decide) fl_Sh_39 rfl d_Sh_comesAfter_4 ?_
  refine lv_iload_n hx hb d_Sh_comesAfter_7 rfl (lv_at hl 1 rfl) ?_
  refine xald_i hx hb hK hP 2 rfl (by omega) (by omega) d_Sh_comesAfter_8 ?_
  refine xi (y := nI (ch i)) rfl ?_
  refine lv_iload_n hx hb d_Sh_comesAfter_9 rfl (lv_at hl 2 rfl) ?_
  refine xc_gt (tgt := 40) (a := ch i) (b := x) hx hb (by have := hch i hi; omega) (by omega) d_Sh_comesAfter_10 (by decide) (fun c_10 => ?_) (fun c_10 => ?_)
  · exact jn_40  (by exact Or.inl c_10) _ _ hP hD hS _ (lv_sub hl [] rfl)
  · refine lv_aload_n hx hb d_Sh_comesAfter_13 rfl (lv_at hl 0 rfl) ?_
    refine xg hx hb hown htw hK hP 0 0 rfl k_Sh (by decide) fl_Sh_12 rfl d_Sh_comesAfter_14 ?_
    refine xg hx hb hown htw hK hP 1 0 rfl k_Tk (by decide) fl_Sh_39 rfl d_Sh_comesAfter_17 ?_
    refine lv_iload_n hx hb d_Sh_comesAfter_20 rfl (lv_at hl 1 rfl) ?_
    refine xald_i hx hb hK hP 2 rfl (by omega) (by omega) d_Sh_comesAfter_21 ?_
    refine xi (y := nI (ch i)) rfl ?_
    refine lv_iload_n hx hb d_Sh_comesAfter_22 rfl (lv_at hl 2 rfl) ?_
    refine xc_ne (tgt := 44) (a := ch i) (b := x) hx hb (by have := hch i hi; omega) (by omega) d_Sh_comesAfter_23 (by decide) (fun c_23 => ?_) (fun c_23 => ?_)
    · exact jn_44  (by exact fun q => q.elim (fun q => by omega) (fun q => c_23 q.1)) _ _ hP hD hS _ (lv_sub hl [] rfl)
    · refine lv_aload_n hx hb d_Sh_comesAfter_26 rfl (lv_at hl 0 rfl) ?_
      refine xg hx hb hown htw hK hP 0 0 rfl k_Sh (by decide) fl_Sh_12 rfl d_Sh_comesAfter_27 ?_
      refine xg hx hb hown htw hK hP 1 1 rfl k_Tk (by decide) fl_Sh_42 rfl d_Sh_comesAfter_30 ?_
      refine lv_iload_n hx hb d_Sh_comesAfter_33 rfl (lv_at hl 1 rfl) ?_
      refine xald_l hx hb hK hP 3 rfl (by omega) (by omega) d_Sh_comesAfter_34 ?_
      refine lv_lload_n hx hb d_Sh_comesAfter_35 rfl (lv_at hl 3 rfl) ?_
      refine xlc_le (tgt := 44) (x := ct i) (y := y) hx hb d_Sh_comesAfter_36 d_Sh_comesAfter_37 (by decide) (fun c_36 => ?_) (fun c_36 => ?_)
      · exact jn_44  (by exact fun q => q.elim (fun q => by omega) (fun q => absurd c_36 (Int64.not_le.mpr q.2))) _ _ hP hD hS _ (lv_sub hl [] rfl)
      · exact jn_40  (by exact Or.inr ⟨c_23, Int64.not_le.mp c_36⟩) _ _ hP hD hS _ (lv_sub hl [] rfl)

abbrev q_Sh_spotInHand (K : Nat → ClassId) (s0 : Nat) (t0 : Nat) (a1 : Nat) (a2 : Nat) (a3 : Nat) (cm : Nat) (b1 : Nat) (b2 : Nat) (T : Nat) (st : Nat → Nat) (ch : Nat → Nat) (ct : Nat → Int64) (x : Nat) (y : Int64) : Int32 → va_W → Prop := fun r u => ∃ pp : Nat, u = [(s0, .inr (4, [.ref t0, .ref a1, .ref a2, .ref a3, .int (nI cm)])), (t0, .inr (5, [.ref b1, .ref b2, .int (nI T)])), (a2, .inl (K 0, 601, .inl (nA st))), (b1, .inl (K 0, 512, .inl (nA ch))), (b2, .inl (K 1, 512, .inr (.inl ct)))] ∧ r = nI pp ∧ (st cm ≤ pp) ∧ (pp ≤ T) ∧ (∀ k, pp ≤ k → k < T → (x < ch k ∨ (ch k = x ∧ y < ct k))) ∧ (st cm < pp → ¬ (x < ch (pp - 1) ∨ (ch (pp - 1) = x ∧ y < ct (pp - 1))))
set_option maxHeartbeats 4000000 in
set_option maxRecDepth 100000 in
theorem lp_Sh_spotInHand_9 {p : Program} {l : Launch} {e : Env} {s : State} {m : MethodId} {below : List Frame} {meth : Method} {c : Code} {A : Nat → Prop} {D : va_G} {K : Nat → ClassId} (s0 : Nat) (t0 : Nat) (a1 : Nat) (a2 : Nat) (a3 : Nat) (cm : Nat) (b1 : Nat) (b2 : Nat) (T : Nat) (st : Nat → Nat) (ch : Nat → Nat) (ct : Nat → Int64) (x : Nat) (y : Int64) (hT : T ≤ 512) (hch : ∀ k, k < T → ch k < 2 ^ 24) (hx1 : x < 2 ^ 24) (hcm : cm ≤ 600) (hst : st cm ≤ T) (hF : Fx p s m meth c y_Sh_spotInHand b_Sh_spotInHand 5 (some .int) D K) {b0 : Nat} (hA : AS K s A b0) : ∀ fuel : Nat, ∀ pp : Nat, (st cm ≤ pp) → (pp ≤ T) → (∀ k, pp ≤ k → k < T → (x < ch k ∨ (ch k = x ∧ y < ct k))) → pp < fuel → ∀ (H : Heap) (locs : List Loc), va_P D classes [(s0, .inr (4, [.ref t0, .ref a1, .ref a2, .ref a3, .int (nI cm)])), (t0, .inr (5, [.ref b1, .ref b2, .int (nI T)])), (a2, .inl (K 0, 601, .inl (nA st))), (b1, .inl (K 0, 512, .inl (nA ch))), (b2, .inl (K 1, 512, .inr (.inl ct)))] H → va_D A [(s0, .inr (4, [.ref t0, .ref a1, .ref a2, .ref a3, .int (nI cm)])), (t0, .inr (5, [.ref b1, .ref b2, .int (nI T)])), (a2, .inl (K 0, 601, .inl (nA st))), (b1, .inl (K 0, 512, .inl (nA ch))), (b2, .inl (K 1, 512, .inr (.inl ct)))] → va_S A s.heap H locs → ∀ ls : Array Slot, lv_has ls 5 [(0, .ref s0), (1, .int (nI x)), (2, .long y), (4, .int (nI pp))] → W p l e ({ frames := 1, cells := 0, slots := 0, locals := 24 } : Room) s m ([.ref s0, .int (nI x), .long y] : List Value).toArray below meth c H locs 0 0 (MQ below (va_Qi (q_Sh_spotInHand K s0 t0 a1 a2 a3 cm b1 b2 T st ch ct x y) (fun u t => va_P D classes u t.heap ∧ va_D A u) A) ([.ref s0, .int (nI x), .long y] : List Value).toArray s 0 0 A) (F0 m 9 ls []) := by
  have hF2 := hF
  obtain ⟨hx, hb, hr, hml, hown, htw, hK, hlocks, hname⟩ := hF
  intro fuel
  induction fuel with
  | zero => intros; omega
  | succ fuel ih =>
    have jn_42 : ∀ pp : Nat, (st cm ≤ pp) → (pp ≤ T) → (∀ k, pp ≤ k → k < T → (x < ch k ∨ (ch k = x ∧ y < ct k))) → (st cm < pp → ¬ (x < ch (pp - 1) ∨ (ch (pp - 1) = x ∧ y < ct (pp - 1)))) → ∀ (H : Heap) (locs : List Loc), va_P D classes [(s0, .inr (4, [.ref t0, .ref a1, .ref a2, .ref a3, .int (nI cm)])), (t0, .inr (5, [.ref b1, .ref b2, .int (nI T)])), (a2, .inl (K 0, 601, .inl (nA st))), (b1, .inl (K 0, 512, .inl (nA ch))), (b2, .inl (K 1, 512, .inr (.inl ct)))] H → va_D A [(s0, .inr (4, [.ref t0, .ref a1, .ref a2, .ref a3, .int (nI cm)])), (t0, .inr (5, [.ref b1, .ref b2, .int (nI T)])), (a2, .inl (K 0, 601, .inl (nA st))), (b1, .inl (K 0, 512, .inl (nA ch))), (b2, .inl (K 1, 512, .inr (.inl ct)))] → va_S A s.heap H locs → ∀ ls : Array Slot, lv_has ls 5 [(4, .int (nI pp))] → W p l e ({ frames := 1, cells := 0, slots := 0, locals := 24 } : Room) s m ([.ref s0, .int (nI x), .long y] : List Value).toArray below meth c H locs 0 0 (MQ below (va_Qi (q_Sh_spotInHand K s0 t0 a1 a2 a3 cm b1 b2 T st ch ct x y) (fun u t => va_P D classes u t.heap ∧ va_D A u) A) ([.ref s0, .int (nI x), .long y] : List Value).toArray s 0 0 A) (F0 m 42 ls []) := by
      intro pp hp1 hp2 hp3 hp4 H locs hP hD hS ls hl
      refine lv_iload hx hb d_Sh_spotInHand_42 (lv_at hl 0 rfl) ?_
      exact xr_iret hx hb hr hlocks hP hD hS (Nat.le_of_ble_eq_true rfl) (Nat.le_of_ble_eq_true rfl) (⟨pp, rfl, rfl, hp1, hp2, hp3, hp4⟩) d_Sh_spotInHand_44
    intro pp hp1 hp2 hp3 hfu H locs hP hD hS ls hl
    refine lv_iload hx hb d_Sh_spotInHand_9 (lv_at hl 3 rfl) ?_
    refine lv_aload_n hx hb d_Sh_spotInHand_11 rfl (lv_at hl 0 rfl) ?_
    refine xg hx hb hown htw hK hP 0 2 rfl k_Sh (by decide) fl_Sh_22 rfl d_Sh_spotInHand_12 ?_
    refine lv_aload_n hx hb d_Sh_spotInHand_15 rfl (lv_at hl 0 rfl) ?_
    refine xg hx hb hown htw hK hP 0 4 rfl k_Sh (by decide) fl_Sh_28 rfl d_Sh_spotInHand_16 ?_
    refine xald_i hx hb hK hP 2 rfl (by omega) (by omega) d_Sh_spotInHand_19 ?_
    refine xi (y := nI (st cm)) rfl ?_
    refine xc_le (tgt := 42) (a := pp) (b := st cm) hx hb (by omega) (by omega) d_Sh_spotInHand_20 (by decide) (fun c_20 => ?_) (fun c_20 => ?_)
    · exact jn_42 pp (by first | assumption | omega) (by first | assumption | omega) (by first | assumption | omega) (by exact fun q => by omega) _ _ hP hD hS _ (lv_sub hl [3] rfl)
    · refine lv_aload_n hx hb d_Sh_spotInHand_23 rfl (lv_at hl 0 rfl) ?_
      refine lv_iload hx hb d_Sh_spotInHand_24 (lv_at hl 3 rfl) ?_
      refine lv_iconst (v := nI 1) hx hb d_Sh_spotInHand_26 (by decide) ?_
      refine lv_isub hx hb d_Sh_spotInHand_27 ?_
      refine xi (nI_sub (a := pp) (b := 1) (by omega)) ?_
      refine lv_iload_n hx hb d_Sh_spotInHand_28 rfl (lv_at hl 1 rfl) ?_
      refine lv_lload_n hx hb d_Sh_spotInHand_29 rfl (lv_at hl 2 rfl) ?_
      refine xcV_i (As := [.int (nI (pp - 1)), .int (nI x), .long y]) (rest := []) (wr := [(a2, .inl (K 0, 601, .inl (nA st)))]) hx hb hml hown htw hK hA hl.1 hP hD hS (c_Sh_comesAfter l D K s0 t0 a1 a2 a3 cm b1 b2 T ch ct (pp - 1) x y (by first | assumption | omega) (by first | assumption | omega) (by first | assumption | omega) (by first | assumption | omega)) [0, 1, 3, 4] [2] rfl rfl (by decide) (by decide) (by decide) 0 rfl k_Sh ml_Sh_35 w_Sh_comesAfter rfl ⟨by decide, by decide⟩ rfl (Nat.le_of_ble_eq_true rfl) ⟨by decide, by decide⟩ d_Sh_spotInHand_30 (fun r u H locs hpost hP hD hS => ?_)
      obtain ⟨rfl, rfl⟩ := hpost
      have hP : va_P D classes [(a2, .inl (K 0, 601, .inl (nA st))), (s0, .inr (4, [.ref t0, .ref a1, .ref a2, .ref a3, .int (nI cm)])), (t0, .inr (5, [.ref b1, .ref b2, .int (nI T)])), (b1, .inl (K 0, 512, .inl (nA ch))), (b2, .inl (K 1, 512, .inr (.inl ct)))] H := hP
      have hD : va_D A [(a2, .inl (K 0, 601, .inl (nA st))), (s0, .inr (4, [.ref t0, .ref a1, .ref a2, .ref a3, .int (nI cm)])), (t0, .inr (5, [.ref b1, .ref b2, .int (nI T)])), (b1, .inl (K 0, 512, .inl (nA ch))), (b2, .inl (K 1, 512, .inr (.inl ct)))] := hD
      refine xz_eq (tgt := 42) (a := bN (x < ch (pp - 1) ∨ (ch (pp - 1) = x ∧ y < ct (pp - 1)))) hx hb (by exact bN_31 _) d_Sh_spotInHand_33 (by decide) (fun c_33 => ?_) (fun c_33 => ?_)
      · obtain ⟨hP9, hD9⟩ := xp (ws' := [(s0, .inr (4, [.ref t0, .ref a1, .ref a2, .ref a3, .int (nI cm)])), (t0, .inr (5, [.ref b1, .ref b2, .int (nI T)])), (a2, .inl (K 0, 601, .inl (nA st))), (b1, .inl (K 0, 512, .inl (nA ch))), (b2, .inl (K 1, 512, .inr (.inl ct)))]) hP hD [1, 2, 0, 3, 4] (by decide) rfl
        exact jn_42 pp (by first | assumption | omega) (by first | assumption | omega) (by first | assumption | omega) (by exact fun _ => bN_0.mp c_33) _ _ hP9 hD9 hS _ (lv_sub hl [3] rfl)
      · refine lv_iinc (v := nI (pp - 1)) (lv' := [(4, .int (nI (pp - 1))), (0, .ref s0), (1, .int (nI x)), (2, .long y)]) hx hb d_Sh_spotInHand_36 hl (k := 3) rfl (dec_nI (a := pp) (b := 1) (by omega)) (by decide) rfl (fun ls hl => ?_)
        refine lv_goto (tgt := 9) hx hb d_Sh_spotInHand_39 (by decide) ?_
        obtain ⟨hP9, hD9⟩ := xp (ws' := [(s0, .inr (4, [.ref t0, .ref a1, .ref a2, .ref a3, .int (nI cm)])), (t0, .inr (5, [.ref b1, .ref b2, .int (nI T)])), (a2, .inl (K 0, 601, .inl (nA st))), (b1, .inl (K 0, 512, .inl (nA ch))), (b2, .inl (K 1, 512, .inr (.inl ct)))]) hP hD [1, 2, 0, 3, 4] (by decide) rfl
        exact ih (pp - 1) (by first | assumption | omega) (by first | assumption | omega) (by exact fun k h1 h2 => by rcases Nat.lt_or_ge k pp with q | q; (have e : k = pp - 1 := by omega); (rw [e]; exact bN_pos.mp c_33); (exact hp3 k q h2)) (by omega) _ _ hP9 hD9 hS _ (lv_sub hl [1, 2, 3, 0] rfl)
set_option maxHeartbeats 4000000 in
set_option maxRecDepth 100000 in
theorem c_Sh_spotInHand (l : Launch) (D : va_G) (K : Nat → ClassId) (s0 : Nat) (t0 : Nat) (a1 : Nat) (a2 : Nat) (a3 : Nat) (cm : Nat) (b1 : Nat) (b2 : Nat) (T : Nat) (st : Nat → Nat) (ch : Nat → Nat) (ct : Nat → Int64) (x : Nat) (y : Int64) (hT : T ≤ 512) (hch : ∀ k, k < T → ch k < 2 ^ 24) (hx1 : x < 2 ^ 24) (hcm : cm ≤ 600) (hst : st cm ≤ T) : CI l y_Sh_spotInHand b_Sh_spotInHand 5 .int ({ frames := 1, cells := 0, slots := 0, locals := 24 } : Room) D K [.ref s0, .int (nI x), .long y] [(s0, .inr (4, [.ref t0, .ref a1, .ref a2, .ref a3, .int (nI cm)])), (t0, .inr (5, [.ref b1, .ref b2, .int (nI T)])), (a2, .inl (K 0, 601, .inl (nA st))), (b1, .inl (K 0, 512, .inl (nA ch))), (b2, .inl (K 1, 512, .inr (.inl ct)))] (q_Sh_spotInHand K s0 t0 a1 a2 a3 cm b1 b2 T st ch ct x y) := by
  refine CI_of (by decide) (Nat.le_of_ble_eq_true rfl) ?_
  intro p e s m below meth c A b0 ls hF hA hP hD hl
  have hF2 := hF
  obtain ⟨hx, hb, hr, hml, hown, htw, hK, hlocks, hname⟩ := hF
  have hS : va_S A s.heap s.heap [] := va_S.rf
  have hl : lv_has ls 5 [(0, .ref s0), (1, .int (nI x)), (2, .long y)] := hl
  refine lv_aload_n hx hb d_Sh_spotInHand_0 rfl (lv_at hl 0 rfl) ?_
  refine xg hx hb hown htw hK hP 0 0 rfl k_Sh (by decide) fl_Sh_12 rfl d_Sh_spotInHand_1 ?_
  refine xg hx hb hown htw hK hP 1 2 rfl k_Tk (by decide) fl_Sh_32 rfl d_Sh_spotInHand_4 ?_
  refine lv_istore (lv' := [(4, .int (nI T)), (0, .ref s0), (1, .int (nI x)), (2, .long y)]) hx hb d_Sh_spotInHand_7 hl (by decide) rfl (fun ls hl => ?_)
  exact lp_Sh_spotInHand_9 (l := l) s0 t0 a1 a2 a3 cm b1 b2 T st ch ct x y hT hch hx1 hcm hst hF2 hA _ T (by first | assumption | omega) (by first | assumption | omega) (by exact fun k h1 h2 => by omega) (Nat.lt_succ_self _) _ _ hP hD hS _ (lv_sub hl [1, 2, 3, 0] rfl)

abbrev q_Sh_handHasBefore (K : Nat → ClassId) (s0 : Nat) (t0 : Nat) (a1 : Nat) (a2 : Nat) (a3 : Nat) (cm : Nat) (b1 : Nat) (b2 : Nat) (T : Nat) (st : Nat → Nat) (ch : Nat → Nat) (ct : Nat → Int64) (pp : Nat) (x : Nat) (y : Int64) : Int32 → va_W → Prop := fun r u => u = [(s0, .inr (4, [.ref t0, .ref a1, .ref a2, .ref a3, .int (nI cm)])), (t0, .inr (5, [.ref b1, .ref b2, .int (nI T)])), (a2, .inl (K 0, 601, .inl (nA st))), (b1, .inl (K 0, 512, .inl (nA ch))), (b2, .inl (K 1, 512, .inr (.inl ct)))] ∧ r = nI (bN (st cm < pp ∧ ch (pp - 1) = x ∧ ct (pp - 1) = y))
set_option maxHeartbeats 4000000 in
set_option maxRecDepth 100000 in
theorem c_Sh_handHasBefore (l : Launch) (D : va_G) (K : Nat → ClassId) (s0 : Nat) (t0 : Nat) (a1 : Nat) (a2 : Nat) (a3 : Nat) (cm : Nat) (b1 : Nat) (b2 : Nat) (T : Nat) (st : Nat → Nat) (ch : Nat → Nat) (ct : Nat → Int64) (pp : Nat) (x : Nat) (y : Int64) (hT : T ≤ 512) (hch : ∀ k, k < T → ch k < 2 ^ 24) (hx1 : x < 2 ^ 24) (hcm : cm ≤ 600) (hst : st cm ≤ T) (hpp : pp ≤ T) : CI l y_Sh_handHasBefore b_Sh_handHasBefore 5 .boolean ({ frames := 0, cells := 0, slots := 0, locals := 0 } : Room) D K [.ref s0, .int (nI pp), .int (nI x), .long y] [(s0, .inr (4, [.ref t0, .ref a1, .ref a2, .ref a3, .int (nI cm)])), (t0, .inr (5, [.ref b1, .ref b2, .int (nI T)])), (a2, .inl (K 0, 601, .inl (nA st))), (b1, .inl (K 0, 512, .inl (nA ch))), (b2, .inl (K 1, 512, .inr (.inl ct)))] (q_Sh_handHasBefore K s0 t0 a1 a2 a3 cm b1 b2 T st ch ct pp x y) := by
  refine CI_of (by decide) (Nat.le_of_ble_eq_true rfl) ?_
  intro p e s m below meth c A b0 ls hF hA hP hD hl
  have hF2 := hF
  obtain ⟨hx, hb, hr, hml, hown, htw, hK, hlocks, hname⟩ := hF
  have jn_48 : (¬ (st cm < pp ∧ ch (pp - 1) = x ∧ ct (pp - 1) = y)) → ∀ (H : Heap) (locs : List Loc), va_P D classes [(s0, .inr (4, [.ref t0, .ref a1, .ref a2, .ref a3, .int (nI cm)])), (t0, .inr (5, [.ref b1, .ref b2, .int (nI T)])), (a2, .inl (K 0, 601, .inl (nA st))), (b1, .inl (K 0, 512, .inl (nA ch))), (b2, .inl (K 1, 512, .inr (.inl ct)))] H → va_D A [(s0, .inr (4, [.ref t0, .ref a1, .ref a2, .ref a3, .int (nI cm)])), (t0, .inr (5, [.ref b1, .ref b2, .int (nI T)])), (a2, .inl (K 0, 601, .inl (nA st))), (b1, .inl (K 0, 512, .inl (nA ch))), (b2, .inl (K 1, 512, .inr (.inl ct)))] → va_S A s.heap H locs → ∀ ls : Array Slot, lv_has ls 5 [] → W p l e ({ frames := 0, cells := 0, slots := 0, locals := 0 } : Room) s m ([.ref s0, .int (nI pp), .int (nI x), .long y] : List Value).toArray below meth c H locs 0 0 (MQ below (va_Qi (q_Sh_handHasBefore K s0 t0 a1 a2 a3 cm b1 b2 T st ch ct pp x y) (fun u t => va_P D classes u t.heap ∧ va_D A u) A) ([.ref s0, .int (nI pp), .int (nI x), .long y] : List Value).toArray s 0 0 A) (F0 m 48 ls []) := by
    intro hy0 H locs hP hD hS ls hl
    refine lv_iconst (v := nI 0) hx hb d_Sh_handHasBefore_48 (by decide) ?_
    exact xr_zret (by first | exact Or.inl rfl | exact Or.inr rfl | exact bN_v _) hx hb hr hlocks hP hD hS (Nat.le_of_ble_eq_true rfl) (Nat.le_of_ble_eq_true rfl) (⟨rfl, by first | rw [bN_f hy0] | rw [bN_t ⟨c_10, c_25, c_40⟩]⟩) d_Sh_handHasBefore_49
  have hS : va_S A s.heap s.heap [] := va_S.rf
  have hl : lv_has ls 5 [(0, .ref s0), (1, .int (nI pp)), (2, .int (nI x)), (3, .long y)] := hl
  refine lv_iload_n hx hb d_Sh_handHasBefore_0 rfl (lv_at hl 1 rfl) ?_
  refine lv_aload_n hx hb d_Sh_handHasBefore_1 rfl (lv_at hl 0 rfl) ?_
  refine xg hx hb hown htw hK hP 0 2 rfl k_Sh (by decide) fl_Sh_22 rfl d_Sh_handHasBefore_2 ?_
  refine lv_aload_n hx hb d_Sh_handHasBefore_5 rfl (lv_at hl 0 rfl) ?_
  refine xg hx hb hown htw hK hP 0 4 rfl k_Sh (by decide) fl_Sh_28 rfl d_Sh_handHasBefore_6 ?_
  refine xald_i hx hb hK hP 2 rfl (by omega) (by omega) d_Sh_handHasBefore_9 ?_
  refine xi (y := nI (st cm)) rfl ?_
  refine xc_le (tgt := 48) (a := pp) (b := st cm) hx hb (by omega) (by omega) d_Sh_handHasBefore_10 (by decide) (fun c_10 => ?_) (fun c_10 => ?_)
  · exact jn_48  (by exact fun q => by omega) _ _ hP hD hS _ (lv_sub hl [] rfl)
  · refine lv_aload_n hx hb d_Sh_handHasBefore_13 rfl (lv_at hl 0 rfl) ?_
    refine xg hx hb hown htw hK hP 0 0 rfl k_Sh (by decide) fl_Sh_12 rfl d_Sh_handHasBefore_14 ?_
    refine xg hx hb hown htw hK hP 1 0 rfl k_Tk (by decide) fl_Sh_39 rfl d_Sh_handHasBefore_17 ?_
    refine lv_iload_n hx hb d_Sh_handHasBefore_20 rfl (lv_at hl 1 rfl) ?_
    refine lv_iconst (v := nI 1) hx hb d_Sh_handHasBefore_21 (by decide) ?_
    refine lv_isub hx hb d_Sh_handHasBefore_22 ?_
    refine xi (nI_sub (a := pp) (b := 1) (by omega)) ?_
    refine xald_i hx hb hK hP 3 rfl (by omega) (by omega) d_Sh_handHasBefore_23 ?_
    refine xi (y := nI (ch (pp - 1))) rfl ?_
    refine lv_iload_n hx hb d_Sh_handHasBefore_24 rfl (lv_at hl 2 rfl) ?_
    refine xc_ne (tgt := 48) (a := ch (pp - 1)) (b := x) hx hb (by have := hch (pp - 1) (by omega); omega) (by omega) d_Sh_handHasBefore_25 (by decide) (fun c_25 => ?_) (fun c_25 => ?_)
    · exact jn_48  (by exact fun q => c_25 q.2.1) _ _ hP hD hS _ (lv_sub hl [] rfl)
    · refine lv_aload_n hx hb d_Sh_handHasBefore_28 rfl (lv_at hl 0 rfl) ?_
      refine xg hx hb hown htw hK hP 0 0 rfl k_Sh (by decide) fl_Sh_12 rfl d_Sh_handHasBefore_29 ?_
      refine xg hx hb hown htw hK hP 1 1 rfl k_Tk (by decide) fl_Sh_42 rfl d_Sh_handHasBefore_32 ?_
      refine lv_iload_n hx hb d_Sh_handHasBefore_35 rfl (lv_at hl 1 rfl) ?_
      refine lv_iconst (v := nI 1) hx hb d_Sh_handHasBefore_36 (by decide) ?_
      refine lv_isub hx hb d_Sh_handHasBefore_37 ?_
      refine xi (nI_sub (a := pp) (b := 1) (by omega)) ?_
      refine xald_l hx hb hK hP 4 rfl (by omega) (by omega) d_Sh_handHasBefore_38 ?_
      refine lv_lload_n hx hb d_Sh_handHasBefore_39 rfl (lv_at hl 3 rfl) ?_
      refine xlc_ne (tgt := 48) (x := ct (pp - 1)) (y := y) hx hb d_Sh_handHasBefore_40 d_Sh_handHasBefore_41 (by decide) (fun c_40 => ?_) (fun c_40 => ?_)
      · exact jn_48  (by exact fun q => c_40 q.2.2) _ _ hP hD hS _ (lv_sub hl [] rfl)
      · refine lv_iconst (v := nI 1) hx hb d_Sh_handHasBefore_44 (by decide) ?_
        refine lv_goto (tgt := 49) hx hb d_Sh_handHasBefore_45 (by decide) ?_
        exact xr_zret (by first | exact Or.inl rfl | exact Or.inr rfl | exact bN_v _) hx hb hr hlocks hP hD hS (Nat.le_of_ble_eq_true rfl) (Nat.le_of_ble_eq_true rfl) (⟨rfl, by first | rw [bN_f hy0] | rw [bN_t ⟨c_10, c_25, c_40⟩]⟩) d_Sh_handHasBefore_49

abbrev q_Sh_bringHand (K : Nat → ClassId) (s0 : Nat) (t0 : Nat) (a1 : Nat) (a2 : Nat) (a3 : Nat) (cm : Nat) (b1 : Nat) (b2 : Nat) (T : Nat) (sa : Nat → Nat) (st : Nat → Nat) (is : Nat → Nat) : Int32 → va_W → Prop := fun r u => u = [(s0, .inr (4, [.ref t0, .ref a1, .ref a2, .ref a3, .int (nI (cm + 1))])), (t0, .inr (5, [.ref b1, .ref b2, .int (nI T)])), (a1, .inl (K 0, 600, .inl (nA (va_up sa cm 0)))), (a2, .inl (K 0, 601, .inl (nA (va_up st (cm + 1) T)))), (a3, .inl (K 0, 4, .inl (nA (va_up is 0 (is 0 + 1)))))] ∧ r = nI cm
set_option maxHeartbeats 4000000 in
set_option maxRecDepth 100000 in
theorem c_Sh_bringHand (l : Launch) (D : va_G) (K : Nat → ClassId) (s0 : Nat) (t0 : Nat) (a1 : Nat) (a2 : Nat) (a3 : Nat) (cm : Nat) (b1 : Nat) (b2 : Nat) (T : Nat) (sa : Nat → Nat) (st : Nat → Nat) (is : Nat → Nat) (hcm : cm < 600) (hT : T ≤ 512) : CI l y_Sh_bringHand b_Sh_bringHand 2 .int ({ frames := 0, cells := 0, slots := 0, locals := 0 } : Room) D K [.ref s0] [(s0, .inr (4, [.ref t0, .ref a1, .ref a2, .ref a3, .int (nI cm)])), (t0, .inr (5, [.ref b1, .ref b2, .int (nI T)])), (a1, .inl (K 0, 600, .inl (nA sa))), (a2, .inl (K 0, 601, .inl (nA st))), (a3, .inl (K 0, 4, .inl (nA is)))] (q_Sh_bringHand K s0 t0 a1 a2 a3 cm b1 b2 T sa st is) := by
  refine CI_of (by decide) (Nat.le_of_ble_eq_true rfl) ?_
  intro p e s m below meth c A b0 ls hF hA hP hD hl
  have hF2 := hF
  obtain ⟨hx, hb, hr, hml, hown, htw, hK, hlocks, hname⟩ := hF
  have hS : va_S A s.heap s.heap [] := va_S.rf
  have hl : lv_has ls 2 [(0, .ref s0)] := hl
  refine lv_aload_n hx hb d_Sh_bringHand_0 rfl (lv_at hl 0 rfl) ?_
  refine xg hx hb hown htw hK hP 0 4 rfl k_Sh (by decide) fl_Sh_28 rfl d_Sh_bringHand_1 ?_
  refine lv_sipush (v := nI 600) hx hb d_Sh_bringHand_4 (by decide) ?_
  refine xc_lt (tgt := 12) (a := cm) (b := 600) hx hb (by omega) (by omega) d_Sh_bringHand_7 (by decide) (fun c_7 => ?_) (fun c_7 => ?_)
  · refine lv_aload_n hx hb d_Sh_bringHand_12 rfl (lv_at hl 0 rfl) ?_
    refine xg hx hb hown htw hK hP 0 4 rfl k_Sh (by decide) fl_Sh_28 rfl d_Sh_bringHand_13 ?_
    refine lv_istore_n (lv' := [(1, .int (nI cm)), (0, .ref s0)]) hx hb d_Sh_bringHand_16 rfl hl (by decide) rfl (fun ls hl => ?_)
    refine lv_aload_n hx hb d_Sh_bringHand_17 rfl (lv_at hl 1 rfl) ?_
    refine xg hx hb hown htw hK hP 0 1 rfl k_Sh (by decide) fl_Sh_18 rfl d_Sh_bringHand_18 ?_
    refine lv_iload_n hx hb d_Sh_bringHand_21 rfl (lv_at hl 0 rfl) ?_
    refine lv_iconst (v := nI 0) hx hb d_Sh_bringHand_22 (by decide) ?_
    refine xast_i hx hb hK hP hD hS 2 rfl (by omega) (by omega) d_Sh_bringHand_23 (fun H locs hP hD hS => ?_)
    rw [upd_nA] at hP hD
    have hP : va_P D classes [(s0, .inr (4, [.ref t0, .ref a1, .ref a2, .ref a3, .int (nI cm)])), (t0, .inr (5, [.ref b1, .ref b2, .int (nI T)])), (a1, .inl (K 0, 600, .inl (nA (va_up sa cm 0)))), (a2, .inl (K 0, 601, .inl (nA st))), (a3, .inl (K 0, 4, .inl (nA is)))] H := hP
    have hD : va_D A [(s0, .inr (4, [.ref t0, .ref a1, .ref a2, .ref a3, .int (nI cm)])), (t0, .inr (5, [.ref b1, .ref b2, .int (nI T)])), (a1, .inl (K 0, 600, .inl (nA (va_up sa cm 0)))), (a2, .inl (K 0, 601, .inl (nA st))), (a3, .inl (K 0, 4, .inl (nA is)))] := hD
    refine lv_aload_n hx hb d_Sh_bringHand_24 rfl (lv_at hl 1 rfl) ?_
    refine xg hx hb hown htw hK hP 0 3 rfl k_Sh (by decide) fl_Sh_25 rfl d_Sh_bringHand_25 ?_
    refine lv_iconst (v := nI 0) hx hb d_Sh_bringHand_28 (by decide) ?_
    refine lv_dup2_11 hx hb d_Sh_bringHand_29 rfl rfl ?_
    refine xald_i hx hb hK hP 4 rfl (by omega) (by omega) d_Sh_bringHand_30 ?_
    refine xi (y := nI (is 0)) rfl ?_
    refine lv_iconst (v := nI 1) hx hb d_Sh_bringHand_31 (by decide) ?_
    refine lv_iadd hx hb d_Sh_bringHand_32 ?_
    refine xi (nI_add (is 0) 1) ?_
    refine xast_i hx hb hK hP hD hS 4 rfl (by omega) (by omega) d_Sh_bringHand_33 (fun H locs hP hD hS => ?_)
    rw [upd_nA] at hP hD
    have hP : va_P D classes [(s0, .inr (4, [.ref t0, .ref a1, .ref a2, .ref a3, .int (nI cm)])), (t0, .inr (5, [.ref b1, .ref b2, .int (nI T)])), (a1, .inl (K 0, 600, .inl (nA (va_up sa cm 0)))), (a2, .inl (K 0, 601, .inl (nA st))), (a3, .inl (K 0, 4, .inl (nA (va_up is 0 ((is 0) + 1)))))] H := hP
    have hD : va_D A [(s0, .inr (4, [.ref t0, .ref a1, .ref a2, .ref a3, .int (nI cm)])), (t0, .inr (5, [.ref b1, .ref b2, .int (nI T)])), (a1, .inl (K 0, 600, .inl (nA (va_up sa cm 0)))), (a2, .inl (K 0, 601, .inl (nA st))), (a3, .inl (K 0, 4, .inl (nA (va_up is 0 ((is 0) + 1)))))] := hD
    refine lv_aload_n hx hb d_Sh_bringHand_34 rfl (lv_at hl 1 rfl) ?_
    refine lv_dup hx hb d_Sh_bringHand_35 rfl ?_
    refine xg hx hb hown htw hK hP 0 4 rfl k_Sh (by decide) fl_Sh_28 rfl d_Sh_bringHand_36 ?_
    refine lv_iconst (v := nI 1) hx hb d_Sh_bringHand_39 (by decide) ?_
    refine lv_iadd hx hb d_Sh_bringHand_40 ?_
    refine xi (nI_add cm 1) ?_
    refine xpt hx hb hown htw hK hP hD hS 0 4 rfl k_Sh (by decide) fl_Sh_28 rfl rfl rfl (Nat.le_of_ble_eq_true rfl) d_Sh_bringHand_41 (fun H locs hP hD hS => ?_)
    have hP : va_P D classes [(s0, .inr (4, [.ref t0, .ref a1, .ref a2, .ref a3, .int (nI (cm + 1))])), (t0, .inr (5, [.ref b1, .ref b2, .int (nI T)])), (a1, .inl (K 0, 600, .inl (nA (va_up sa cm 0)))), (a2, .inl (K 0, 601, .inl (nA st))), (a3, .inl (K 0, 4, .inl (nA (va_up is 0 ((is 0) + 1)))))] H := hP
    have hD : va_D A [(s0, .inr (4, [.ref t0, .ref a1, .ref a2, .ref a3, .int (nI (cm + 1))])), (t0, .inr (5, [.ref b1, .ref b2, .int (nI T)])), (a1, .inl (K 0, 600, .inl (nA (va_up sa cm 0)))), (a2, .inl (K 0, 601, .inl (nA st))), (a3, .inl (K 0, 4, .inl (nA (va_up is 0 ((is 0) + 1)))))] := hD
    refine lv_aload_n hx hb d_Sh_bringHand_44 rfl (lv_at hl 1 rfl) ?_
    refine xg hx hb hown htw hK hP 0 2 rfl k_Sh (by decide) fl_Sh_22 rfl d_Sh_bringHand_45 ?_
    refine lv_aload_n hx hb d_Sh_bringHand_48 rfl (lv_at hl 1 rfl) ?_
    refine xg hx hb hown htw hK hP 0 4 rfl k_Sh (by decide) fl_Sh_28 rfl d_Sh_bringHand_49 ?_
    refine lv_aload_n hx hb d_Sh_bringHand_52 rfl (lv_at hl 1 rfl) ?_
    refine xg hx hb hown htw hK hP 0 0 rfl k_Sh (by decide) fl_Sh_12 rfl d_Sh_bringHand_53 ?_
    refine xg hx hb hown htw hK hP 1 2 rfl k_Tk (by decide) fl_Sh_32 rfl d_Sh_bringHand_56 ?_
    refine xast_i hx hb hK hP hD hS 3 rfl (by omega) (by omega) d_Sh_bringHand_59 (fun H locs hP hD hS => ?_)
    rw [upd_nA] at hP hD
    have hP : va_P D classes [(s0, .inr (4, [.ref t0, .ref a1, .ref a2, .ref a3, .int (nI (cm + 1))])), (t0, .inr (5, [.ref b1, .ref b2, .int (nI T)])), (a1, .inl (K 0, 600, .inl (nA (va_up sa cm 0)))), (a2, .inl (K 0, 601, .inl (nA (va_up st (cm + 1) T)))), (a3, .inl (K 0, 4, .inl (nA (va_up is 0 ((is 0) + 1)))))] H := hP
    have hD : va_D A [(s0, .inr (4, [.ref t0, .ref a1, .ref a2, .ref a3, .int (nI (cm + 1))])), (t0, .inr (5, [.ref b1, .ref b2, .int (nI T)])), (a1, .inl (K 0, 600, .inl (nA (va_up sa cm 0)))), (a2, .inl (K 0, 601, .inl (nA (va_up st (cm + 1) T)))), (a3, .inl (K 0, 4, .inl (nA (va_up is 0 ((is 0) + 1)))))] := hD
    refine lv_iload_n hx hb d_Sh_bringHand_60 rfl (lv_at hl 0 rfl) ?_
    exact xr_iret hx hb hr hlocks hP hD hS (Nat.le_of_ble_eq_true rfl) (Nat.le_of_ble_eq_true rfl) (⟨rfl, rfl⟩) d_Sh_bringHand_61
  · omega

abbrev q_Sh_stateOf (K : Nat → ClassId) (s0 : Nat) (t0 : Nat) (a1 : Nat) (a2 : Nat) (a3 : Nat) (cm : Nat) (sa : Nat → Nat) (d : Nat) : Int32 → va_W → Prop := fun r u => u = [(s0, .inr (4, [.ref t0, .ref a1, .ref a2, .ref a3, .int (nI cm)])), (a1, .inl (K 0, 600, .inl (nA sa)))] ∧ r = nI (sa d)
set_option maxHeartbeats 4000000 in
set_option maxRecDepth 100000 in
theorem c_Sh_stateOf (l : Launch) (D : va_G) (K : Nat → ClassId) (s0 : Nat) (t0 : Nat) (a1 : Nat) (a2 : Nat) (a3 : Nat) (cm : Nat) (sa : Nat → Nat) (d : Nat) (hcm : cm ≤ 600) (hd : d < cm) : CI l y_Sh_stateOf b_Sh_stateOf 2 .int ({ frames := 0, cells := 0, slots := 0, locals := 0 } : Room) D K [.ref s0, .int (nI d)] [(s0, .inr (4, [.ref t0, .ref a1, .ref a2, .ref a3, .int (nI cm)])), (a1, .inl (K 0, 600, .inl (nA sa)))] (q_Sh_stateOf K s0 t0 a1 a2 a3 cm sa d) := by
  refine CI_of (by decide) (Nat.le_of_ble_eq_true rfl) ?_
  intro p e s m below meth c A b0 ls hF hA hP hD hl
  have hF2 := hF
  obtain ⟨hx, hb, hr, hml, hown, htw, hK, hlocks, hname⟩ := hF
  have hS : va_S A s.heap s.heap [] := va_S.rf
  have hl : lv_has ls 2 [(0, .ref s0), (1, .int (nI d))] := hl
  refine lv_iload_n hx hb d_Sh_stateOf_0 rfl (lv_at hl 1 rfl) ?_
  refine xz_lt (a := d) hx hb (by omega) d_Sh_stateOf_1 12 (by decide) ?_
  refine lv_iload_n hx hb d_Sh_stateOf_4 rfl (lv_at hl 1 rfl) ?_
  refine lv_aload_n hx hb d_Sh_stateOf_5 rfl (lv_at hl 0 rfl) ?_
  refine xg hx hb hown htw hK hP 0 4 rfl k_Sh (by decide) fl_Sh_28 rfl d_Sh_stateOf_6 ?_
  refine xc_lt (tgt := 16) (a := d) (b := cm) hx hb (by omega) (by omega) d_Sh_stateOf_9 (by decide) (fun c_9 => ?_) (fun c_9 => ?_)
  · refine lv_aload_n hx hb d_Sh_stateOf_16 rfl (lv_at hl 0 rfl) ?_
    refine xg hx hb hown htw hK hP 0 1 rfl k_Sh (by decide) fl_Sh_18 rfl d_Sh_stateOf_17 ?_
    refine lv_iload_n hx hb d_Sh_stateOf_20 rfl (lv_at hl 1 rfl) ?_
    refine xald_i hx hb hK hP 1 rfl (by omega) (by omega) d_Sh_stateOf_21 ?_
    refine xi (y := nI (sa d)) rfl ?_
    exact xr_iret hx hb hr hlocks hP hD hS (Nat.le_of_ble_eq_true rfl) (Nat.le_of_ble_eq_true rfl) (⟨rfl, rfl⟩) d_Sh_stateOf_22
  · omega

abbrev q_Sh_stateOf_out (K : Nat → ClassId) (s0 : Nat) (t0 : Nat) (a1 : Nat) (a2 : Nat) (a3 : Nat) (cm : Nat) (sa : Nat → Nat) (x : Int32) : Int32 → va_W → Prop := fun r u => u = [(s0, .inr (4, [.ref t0, .ref a1, .ref a2, .ref a3, .int (nI cm)])), (a1, .inl (K 0, 600, .inl (nA sa)))] ∧ r = nI 3
set_option maxHeartbeats 4000000 in
set_option maxRecDepth 100000 in
theorem c_Sh_stateOf_out (l : Launch) (D : va_G) (K : Nat → ClassId) (s0 : Nat) (t0 : Nat) (a1 : Nat) (a2 : Nat) (a3 : Nat) (cm : Nat) (sa : Nat → Nat) (x : Int32) (hcm : cm ≤ 600) (hd : x < 0 ∨ nI cm ≤ x) : CI l y_Sh_stateOf b_Sh_stateOf 2 .int ({ frames := 0, cells := 0, slots := 0, locals := 0 } : Room) D K [.ref s0, .int x] [(s0, .inr (4, [.ref t0, .ref a1, .ref a2, .ref a3, .int (nI cm)])), (a1, .inl (K 0, 600, .inl (nA sa)))] (q_Sh_stateOf_out K s0 t0 a1 a2 a3 cm sa x) := by
  refine CI_of (by decide) (Nat.le_of_ble_eq_true rfl) ?_
  intro p e s m below meth c A b0 ls hF hA hP hD hl
  have hF2 := hF
  obtain ⟨hx, hb, hr, hml, hown, htw, hK, hlocks, hname⟩ := hF
  have hS : va_S A s.heap s.heap [] := va_S.rf
  have hl : lv_has ls 2 [(0, .ref s0), (1, .int x)] := hl
  refine lv_iload_n hx hb d_Sh_stateOf_0 rfl (lv_at hl 1 rfl) ?_
  refine lv_if_lt (tgt := 12) hx hb d_Sh_stateOf_1 (by decide) (fun c_1 => ?_) (fun c_1 => ?_)
  · refine lv_iconst (v := nI 3) hx hb d_Sh_stateOf_12 (by decide) ?_
    refine lv_goto (tgt := 22) hx hb d_Sh_stateOf_13 (by decide) ?_
    exact xr_iret hx hb hr hlocks hP hD hS (Nat.le_of_ble_eq_true rfl) (Nat.le_of_ble_eq_true rfl) (⟨rfl, rfl⟩) d_Sh_stateOf_22
  · refine lv_iload_n hx hb d_Sh_stateOf_4 rfl (lv_at hl 1 rfl) ?_
    refine lv_aload_n hx hb d_Sh_stateOf_5 rfl (lv_at hl 0 rfl) ?_
    refine xg hx hb hown htw hK hP 0 4 rfl k_Sh (by decide) fl_Sh_28 rfl d_Sh_stateOf_6 ?_
    refine lv_icmp_lt (tgt := 16) hx hb d_Sh_stateOf_9 (by decide) (fun c_9 => ?_) (fun c_9 => ?_)
    · exact absurd c_9 (by rcases hd with q | q; exact absurd q c_1; exact Int32.not_lt.mpr q)
    · refine lv_iconst (v := nI 3) hx hb d_Sh_stateOf_12 (by decide) ?_
      refine lv_goto (tgt := 22) hx hb d_Sh_stateOf_13 (by decide) ?_
      exact xr_iret hx hb hr hlocks hP hD hS (Nat.le_of_ble_eq_true rfl) (Nat.le_of_ble_eq_true rfl) (⟨rfl, rfl⟩) d_Sh_stateOf_22

abbrev q_Sh_isThere (K : Nat → ClassId) (s0 : Nat) (t0 : Nat) (a1 : Nat) (a2 : Nat) (a3 : Nat) (cm : Nat) (sa : Nat → Nat) (d : Nat) : Int32 → va_W → Prop := fun r u => u = [(s0, .inr (4, [.ref t0, .ref a1, .ref a2, .ref a3, .int (nI cm)])), (a1, .inl (K 0, 600, .inl (nA sa)))] ∧ r = nI (bN (sa d ≤ 1))
set_option maxHeartbeats 4000000 in
set_option maxRecDepth 100000 in
theorem c_Sh_isThere (l : Launch) (D : va_G) (K : Nat → ClassId) (s0 : Nat) (t0 : Nat) (a1 : Nat) (a2 : Nat) (a3 : Nat) (cm : Nat) (sa : Nat → Nat) (d : Nat) (hcm : cm ≤ 600) (hd : d < cm) (hs4 : sa d < 4) : CI l y_Sh_isThere b_Sh_isThere 3 .boolean ({ frames := 1, cells := 0, slots := 0, locals := 21 } : Room) D K [.ref s0, .int (nI d)] [(s0, .inr (4, [.ref t0, .ref a1, .ref a2, .ref a3, .int (nI cm)])), (a1, .inl (K 0, 600, .inl (nA sa)))] (q_Sh_isThere K s0 t0 a1 a2 a3 cm sa d) := by
  refine CI_of (by decide) (Nat.le_of_ble_eq_true rfl) ?_
  intro p e s m below meth c A b0 ls hF hA hP hD hl
  have hF2 := hF
  obtain ⟨hx, hb, hr, hml, hown, htw, hK, hlocks, hname⟩ := hF
  have jn_15 : (sa d ≤ 1) → ∀ (H : Heap) (locs : List Loc), va_P D classes [(s0, .inr (4, [.ref t0, .ref a1, .ref a2, .ref a3, .int (nI cm)])), (a1, .inl (K 0, 600, .inl (nA sa)))] H → va_D A [(s0, .inr (4, [.ref t0, .ref a1, .ref a2, .ref a3, .int (nI cm)])), (a1, .inl (K 0, 600, .inl (nA sa)))] → va_S A s.heap H locs → ∀ ls : Array Slot, lv_has ls 3 [] → W p l e ({ frames := 1, cells := 0, slots := 0, locals := 21 } : Room) s m ([.ref s0, .int (nI d)] : List Value).toArray below meth c H locs 0 0 (MQ below (va_Qi (q_Sh_isThere K s0 t0 a1 a2 a3 cm sa d) (fun u t => va_P D classes u t.heap ∧ va_D A u) A) ([.ref s0, .int (nI d)] : List Value).toArray s 0 0 A) (F0 m 15 ls []) := by
    intro hy1 H locs hP hD hS ls hl
    refine lv_iconst (v := nI 1) hx hb d_Sh_isThere_15 (by decide) ?_
    refine lv_goto (tgt := 20) hx hb d_Sh_isThere_16 (by decide) ?_
    exact xr_zret (by first | exact Or.inl rfl | exact Or.inr rfl | exact bN_v _) hx hb hr hlocks hP hD hS (Nat.le_of_ble_eq_true rfl) (Nat.le_of_ble_eq_true rfl) (⟨rfl, by first | rw [bN_t hy1] | rw [bN_f (show ¬ sa d ≤ 1 by omega)]⟩) d_Sh_isThere_20
  have hS : va_S A s.heap s.heap [] := va_S.rf
  have hl : lv_has ls 3 [(0, .ref s0), (1, .int (nI d))] := hl
  refine lv_aload_n hx hb d_Sh_isThere_0 rfl (lv_at hl 0 rfl) ?_
  refine lv_iload_n hx hb d_Sh_isThere_1 rfl (lv_at hl 1 rfl) ?_
  refine xcV_i (As := [.int (nI d)]) (rest := []) (wr := []) hx hb hml hown htw hK hA hl.1 hP hD hS (c_Sh_stateOf l D K s0 t0 a1 a2 a3 cm sa d (by first | assumption | omega) (by first | assumption | omega)) [0, 1] [] rfl rfl (by decide) (by decide) (by decide) 0 rfl k_Sh ml_Sh_46 w_Sh_stateOf rfl ⟨by decide, by decide⟩ rfl (Nat.le_of_ble_eq_true rfl) ⟨by decide, by decide⟩ d_Sh_isThere_2 (fun r u H locs hpost hP hD hS => ?_)
  obtain ⟨rfl, rfl⟩ := hpost
  have hP : va_P D classes [(s0, .inr (4, [.ref t0, .ref a1, .ref a2, .ref a3, .int (nI cm)])), (a1, .inl (K 0, 600, .inl (nA sa)))] H := hP
  have hD : va_D A [(s0, .inr (4, [.ref t0, .ref a1, .ref a2, .ref a3, .int (nI cm)])), (a1, .inl (K 0, 600, .inl (nA sa)))] := hD
  refine lv_istore_n (lv' := [(2, .int (nI (sa d))), (0, .ref s0), (1, .int (nI d))]) hx hb d_Sh_isThere_5 rfl hl (by decide) rfl (fun ls hl => ?_)
  refine lv_iload_n hx hb d_Sh_isThere_6 rfl (lv_at hl 0 rfl) ?_
  refine xz_eq (tgt := 15) (a := sa d) hx hb (by omega) d_Sh_isThere_7 (by decide) (fun c_7 => ?_) (fun c_7 => ?_)
  · exact jn_15  (by first | assumption | omega) _ _ hP hD hS _ (lv_sub hl [] rfl)
  · refine lv_iload_n hx hb d_Sh_isThere_10 rfl (lv_at hl 0 rfl) ?_
    refine lv_iconst (v := nI 1) hx hb d_Sh_isThere_11 (by decide) ?_
    refine xc_ne (tgt := 19) (a := sa d) (b := 1) hx hb (by omega) (by omega) d_Sh_isThere_12 (by decide) (fun c_12 => ?_) (fun c_12 => ?_)
    · refine lv_iconst (v := nI 0) hx hb d_Sh_isThere_19 (by decide) ?_
      exact xr_zret (by first | exact Or.inl rfl | exact Or.inr rfl | exact bN_v _) hx hb hr hlocks hP hD hS (Nat.le_of_ble_eq_true rfl) (Nat.le_of_ble_eq_true rfl) (⟨rfl, by first | rw [bN_t hy1] | rw [bN_f (show ¬ sa d ≤ 1 by omega)]⟩) d_Sh_isThere_20
    · exact jn_15  (by first | assumption | omega) _ _ hP hD hS _ (lv_sub hl [] rfl)

abbrev q_Sh_isThere_out (K : Nat → ClassId) (s0 : Nat) (t0 : Nat) (a1 : Nat) (a2 : Nat) (a3 : Nat) (cm : Nat) (sa : Nat → Nat) (x : Int32) : Int32 → va_W → Prop := fun r u => u = [(s0, .inr (4, [.ref t0, .ref a1, .ref a2, .ref a3, .int (nI cm)])), (a1, .inl (K 0, 600, .inl (nA sa)))] ∧ r = nI 0
set_option maxHeartbeats 4000000 in
set_option maxRecDepth 100000 in
theorem c_Sh_isThere_out (l : Launch) (D : va_G) (K : Nat → ClassId) (s0 : Nat) (t0 : Nat) (a1 : Nat) (a2 : Nat) (a3 : Nat) (cm : Nat) (sa : Nat → Nat) (x : Int32) (hcm : cm ≤ 600) (hd : x < 0 ∨ nI cm ≤ x) : CI l y_Sh_isThere b_Sh_isThere 3 .boolean ({ frames := 1, cells := 0, slots := 0, locals := 21 } : Room) D K [.ref s0, .int x] [(s0, .inr (4, [.ref t0, .ref a1, .ref a2, .ref a3, .int (nI cm)])), (a1, .inl (K 0, 600, .inl (nA sa)))] (q_Sh_isThere_out K s0 t0 a1 a2 a3 cm sa x) := by
  refine CI_of (by decide) (Nat.le_of_ble_eq_true rfl) ?_
  intro p e s m below meth c A b0 ls hF hA hP hD hl
  have hF2 := hF
  obtain ⟨hx, hb, hr, hml, hown, htw, hK, hlocks, hname⟩ := hF
  have hS : va_S A s.heap s.heap [] := va_S.rf
  have hl : lv_has ls 3 [(0, .ref s0), (1, .int x)] := hl
  refine lv_aload_n hx hb d_Sh_isThere_0 rfl (lv_at hl 0 rfl) ?_
  refine lv_iload_n hx hb d_Sh_isThere_1 rfl (lv_at hl 1 rfl) ?_
  refine xcV_i (As := [.int x]) (rest := []) (wr := []) hx hb hml hown htw hK hA hl.1 hP hD hS (c_Sh_stateOf_out l D K s0 t0 a1 a2 a3 cm sa x (by first | assumption | omega) (by first | assumption | omega)) [0, 1] [] rfl rfl (by decide) (by decide) (by decide) 0 rfl k_Sh ml_Sh_46 w_Sh_stateOf rfl ⟨by decide, by decide⟩ rfl (Nat.le_of_ble_eq_true rfl) ⟨by decide, by decide⟩ d_Sh_isThere_2 (fun r u H locs hpost hP hD hS => ?_)
  obtain ⟨rfl, rfl⟩ := hpost
  have hP : va_P D classes [(s0, .inr (4, [.ref t0, .ref a1, .ref a2, .ref a3, .int (nI cm)])), (a1, .inl (K 0, 600, .inl (nA sa)))] H := hP
  have hD : va_D A [(s0, .inr (4, [.ref t0, .ref a1, .ref a2, .ref a3, .int (nI cm)])), (a1, .inl (K 0, 600, .inl (nA sa)))] := hD
  refine lv_istore_n (lv' := [(2, .int (nI 3)), (0, .ref s0), (1, .int x)]) hx hb d_Sh_isThere_5 rfl hl (by decide) rfl (fun ls hl => ?_)
  refine lv_iload_n hx hb d_Sh_isThere_6 rfl (lv_at hl 0 rfl) ?_
  refine xz_eq (tgt := 15) (a := 3) hx hb (by omega) d_Sh_isThere_7 (by decide) (fun c_7 => ?_) (fun c_7 => ?_)
  · omega
  · refine lv_iload_n hx hb d_Sh_isThere_10 rfl (lv_at hl 0 rfl) ?_
    refine lv_iconst (v := nI 1) hx hb d_Sh_isThere_11 (by decide) ?_
    refine xc_ne (tgt := 19) (a := 3) (b := 1) hx hb (by omega) (by omega) d_Sh_isThere_12 (by decide) (fun c_12 => ?_) (fun c_12 => ?_)
    · refine lv_iconst (v := nI 0) hx hb d_Sh_isThere_19 (by decide) ?_
      exact xr_zret (by first | exact Or.inl rfl | exact Or.inr rfl | exact bN_v _) hx hb hr hlocks hP hD hS (Nat.le_of_ble_eq_true rfl) (Nat.le_of_ble_eq_true rfl) (⟨rfl, rfl⟩) d_Sh_isThere_20
    · omega

abbrev q_Sh_move (K : Nat → ClassId) (s0 : Nat) (t0 : Nat) (a1 : Nat) (a2 : Nat) (a3 : Nat) (cm : Nat) (sa : Nat → Nat) (is : Nat → Nat) (d : Nat) (v : Nat) : va_W → Prop := fun u => u = [(s0, .inr (4, [.ref t0, .ref a1, .ref a2, .ref a3, .int (nI cm)])), (a1, .inl (K 0, 600, .inl (nA (va_up sa d v)))), (a3, .inl (K 0, 4, .inl (nA (mvC is (sa d) v))))]
set_option maxHeartbeats 4000000 in
set_option maxRecDepth 100000 in
theorem c_Sh_move (l : Launch) (D : va_G) (K : Nat → ClassId) (s0 : Nat) (t0 : Nat) (a1 : Nat) (a2 : Nat) (a3 : Nat) (cm : Nat) (sa : Nat → Nat) (is : Nat → Nat) (d : Nat) (v : Nat) (hcm : cm ≤ 600) (hd : d < cm) (hs4 : sa d < 4) (hv : v < 4) (hpos : 0 < is (sa d)) : CV l y_Sh_move b_Sh_move 3 ({ frames := 0, cells := 0, slots := 0, locals := 0 } : Room) D K [.ref s0, .int (nI d), .int (nI v)] [(s0, .inr (4, [.ref t0, .ref a1, .ref a2, .ref a3, .int (nI cm)])), (a1, .inl (K 0, 600, .inl (nA sa))), (a3, .inl (K 0, 4, .inl (nA is)))] (q_Sh_move K s0 t0 a1 a2 a3 cm sa is d v) := by
  refine CV_of (by decide) (Nat.le_of_ble_eq_true rfl) ?_
  intro p e s m below meth c A b0 ls hF hA hP hD hl
  have hF2 := hF
  obtain ⟨hx, hb, hr, hml, hown, htw, hK, hlocks, hname⟩ := hF
  have hS : va_S A s.heap s.heap [] := va_S.rf
  have hl : lv_has ls 3 [(0, .ref s0), (1, .int (nI d)), (2, .int (nI v))] := hl
  refine lv_iload_n hx hb d_Sh_move_0 rfl (lv_at hl 1 rfl) ?_
  refine xz_lt (a := d) hx hb (by omega) d_Sh_move_1 12 (by decide) ?_
  refine lv_iload_n hx hb d_Sh_move_4 rfl (lv_at hl 1 rfl) ?_
  refine lv_aload_n hx hb d_Sh_move_5 rfl (lv_at hl 0 rfl) ?_
  refine xg hx hb hown htw hK hP 0 4 rfl k_Sh (by decide) fl_Sh_28 rfl d_Sh_move_6 ?_
  refine xc_lt (tgt := 13) (a := d) (b := cm) hx hb (by omega) (by omega) d_Sh_move_9 (by decide) (fun c_9 => ?_) (fun c_9 => ?_)
  · refine lv_aload_n hx hb d_Sh_move_13 rfl (lv_at hl 0 rfl) ?_
    refine xg hx hb hown htw hK hP 0 3 rfl k_Sh (by decide) fl_Sh_25 rfl d_Sh_move_14 ?_
    refine lv_aload_n hx hb d_Sh_move_17 rfl (lv_at hl 0 rfl) ?_
    refine xg hx hb hown htw hK hP 0 1 rfl k_Sh (by decide) fl_Sh_18 rfl d_Sh_move_18 ?_
    refine lv_iload_n hx hb d_Sh_move_21 rfl (lv_at hl 1 rfl) ?_
    refine xald_i hx hb hK hP 1 rfl (by omega) (by omega) d_Sh_move_22 ?_
    refine xi (y := nI (sa d)) rfl ?_
    refine lv_dup2_11 hx hb d_Sh_move_23 rfl rfl ?_
    refine xald_i hx hb hK hP 2 rfl (by omega) (by omega) d_Sh_move_24 ?_
    refine xi (y := nI (is (sa d))) rfl ?_
    refine lv_iconst (v := nI 1) hx hb d_Sh_move_25 (by decide) ?_
    refine lv_isub hx hb d_Sh_move_26 ?_
    refine xi (nI_sub (a := is (sa d)) (b := 1) (by omega)) ?_
    refine xast_i hx hb hK hP hD hS 2 rfl (by omega) (by omega) d_Sh_move_27 (fun H locs hP hD hS => ?_)
    rw [upd_nA] at hP hD
    have hP : va_P D classes [(s0, .inr (4, [.ref t0, .ref a1, .ref a2, .ref a3, .int (nI cm)])), (a1, .inl (K 0, 600, .inl (nA sa))), (a3, .inl (K 0, 4, .inl (nA (va_up is (sa d) ((is (sa d)) - 1)))))] H := hP
    have hD : va_D A [(s0, .inr (4, [.ref t0, .ref a1, .ref a2, .ref a3, .int (nI cm)])), (a1, .inl (K 0, 600, .inl (nA sa))), (a3, .inl (K 0, 4, .inl (nA (va_up is (sa d) ((is (sa d)) - 1)))))] := hD
    refine lv_aload_n hx hb d_Sh_move_28 rfl (lv_at hl 0 rfl) ?_
    refine xg hx hb hown htw hK hP 0 3 rfl k_Sh (by decide) fl_Sh_25 rfl d_Sh_move_29 ?_
    refine lv_iload_n hx hb d_Sh_move_32 rfl (lv_at hl 2 rfl) ?_
    refine lv_dup2_11 hx hb d_Sh_move_33 rfl rfl ?_
    refine xald_i hx hb hK hP 2 rfl (by omega) (by omega) d_Sh_move_34 ?_
    refine xi (y := nI ((va_up is (sa d) ((is (sa d)) - 1)) v)) rfl ?_
    refine lv_iconst (v := nI 1) hx hb d_Sh_move_35 (by decide) ?_
    refine lv_iadd hx hb d_Sh_move_36 ?_
    refine xi (nI_add ((va_up is (sa d) ((is (sa d)) - 1)) v) 1) ?_
    refine xast_i hx hb hK hP hD hS 2 rfl (by omega) (by omega) d_Sh_move_37 (fun H locs hP hD hS => ?_)
    rw [upd_nA] at hP hD
    have hP : va_P D classes [(s0, .inr (4, [.ref t0, .ref a1, .ref a2, .ref a3, .int (nI cm)])), (a1, .inl (K 0, 600, .inl (nA sa))), (a3, .inl (K 0, 4, .inl (nA (va_up (va_up is (sa d) ((is (sa d)) - 1)) v (((va_up is (sa d) ((is (sa d)) - 1)) v) + 1)))))] H := hP
    have hD : va_D A [(s0, .inr (4, [.ref t0, .ref a1, .ref a2, .ref a3, .int (nI cm)])), (a1, .inl (K 0, 600, .inl (nA sa))), (a3, .inl (K 0, 4, .inl (nA (va_up (va_up is (sa d) ((is (sa d)) - 1)) v (((va_up is (sa d) ((is (sa d)) - 1)) v) + 1)))))] := hD
    refine lv_aload_n hx hb d_Sh_move_38 rfl (lv_at hl 0 rfl) ?_
    refine xg hx hb hown htw hK hP 0 1 rfl k_Sh (by decide) fl_Sh_18 rfl d_Sh_move_39 ?_
    refine lv_iload_n hx hb d_Sh_move_42 rfl (lv_at hl 1 rfl) ?_
    refine lv_iload_n hx hb d_Sh_move_43 rfl (lv_at hl 2 rfl) ?_
    refine xast_i hx hb hK hP hD hS 1 rfl (by omega) (by omega) d_Sh_move_44 (fun H locs hP hD hS => ?_)
    rw [upd_nA] at hP hD
    have hP : va_P D classes [(s0, .inr (4, [.ref t0, .ref a1, .ref a2, .ref a3, .int (nI cm)])), (a1, .inl (K 0, 600, .inl (nA (va_up sa d v)))), (a3, .inl (K 0, 4, .inl (nA (va_up (va_up is (sa d) ((is (sa d)) - 1)) v (((va_up is (sa d) ((is (sa d)) - 1)) v) + 1)))))] H := hP
    have hD : va_D A [(s0, .inr (4, [.ref t0, .ref a1, .ref a2, .ref a3, .int (nI cm)])), (a1, .inl (K 0, 600, .inl (nA (va_up sa d v)))), (a3, .inl (K 0, 4, .inl (nA (va_up (va_up is (sa d) ((is (sa d)) - 1)) v (((va_up is (sa d) ((is (sa d)) - 1)) v) + 1)))))] := hD
    exact xr_vret hx hb hr hlocks hP hD hS (Nat.le_of_ble_eq_true rfl) (Nat.le_of_ble_eq_true rfl) (rfl) d_Sh_move_45
  · omega

abbrev q_Sh_moveOn (K : Nat → ClassId) (s0 : Nat) (t0 : Nat) (a1 : Nat) (a2 : Nat) (a3 : Nat) (cm : Nat) (sa : Nat → Nat) (is : Nat → Nat) (d : Nat) : va_W → Prop := fun u => u = [(s0, .inr (4, [.ref t0, .ref a1, .ref a2, .ref a3, .int (nI cm)])), (a1, .inl (K 0, 600, .inl (nA (mvS sa d)))), (a3, .inl (K 0, 4, .inl (nA (mvI sa is d))))]
set_option maxHeartbeats 4000000 in
set_option maxRecDepth 100000 in
theorem c_Sh_moveOn (l : Launch) (D : va_G) (K : Nat → ClassId) (s0 : Nat) (t0 : Nat) (a1 : Nat) (a2 : Nat) (a3 : Nat) (cm : Nat) (sa : Nat → Nat) (is : Nat → Nat) (d : Nat) (hcm : cm ≤ 600) (hd : d < cm) (hs4 : sa d < 4) (hpos : 0 < is (sa d)) : CV l y_Sh_moveOn b_Sh_moveOn 3 ({ frames := 1, cells := 0, slots := 0, locals := 22 } : Room) D K [.ref s0, .int (nI d)] [(s0, .inr (4, [.ref t0, .ref a1, .ref a2, .ref a3, .int (nI cm)])), (a1, .inl (K 0, 600, .inl (nA sa))), (a3, .inl (K 0, 4, .inl (nA is)))] (q_Sh_moveOn K s0 t0 a1 a2 a3 cm sa is d) := by
  refine CV_of (by decide) (Nat.le_of_ble_eq_true rfl) ?_
  intro p e s m below meth c A b0 ls hF hA hP hD hl
  have hF2 := hF
  obtain ⟨hx, hb, hr, hml, hown, htw, hK, hlocks, hname⟩ := hF
  have hS : va_S A s.heap s.heap [] := va_S.rf
  have hl : lv_has ls 3 [(0, .ref s0), (1, .int (nI d))] := hl
  refine lv_aload_n hx hb d_Sh_moveOn_0 rfl (lv_at hl 0 rfl) ?_
  refine lv_iload_n hx hb d_Sh_moveOn_1 rfl (lv_at hl 1 rfl) ?_
  refine xcV_i (As := [.int (nI d)]) (rest := []) (wr := [(a3, .inl (K 0, 4, .inl (nA is)))]) hx hb hml hown htw hK hA hl.1 hP hD hS (c_Sh_stateOf l D K s0 t0 a1 a2 a3 cm sa d (by first | assumption | omega) (by first | assumption | omega)) [0, 1] [2] rfl rfl (by decide) (by decide) (by decide) 0 rfl k_Sh ml_Sh_46 w_Sh_stateOf rfl ⟨by decide, by decide⟩ rfl (Nat.le_of_ble_eq_true rfl) ⟨by decide, by decide⟩ d_Sh_moveOn_2 (fun r u H locs hpost hP hD hS => ?_)
  obtain ⟨rfl, rfl⟩ := hpost
  have hP : va_P D classes [(a3, .inl (K 0, 4, .inl (nA is))), (s0, .inr (4, [.ref t0, .ref a1, .ref a2, .ref a3, .int (nI cm)])), (a1, .inl (K 0, 600, .inl (nA sa)))] H := hP
  have hD : va_D A [(a3, .inl (K 0, 4, .inl (nA is))), (s0, .inr (4, [.ref t0, .ref a1, .ref a2, .ref a3, .int (nI cm)])), (a1, .inl (K 0, 600, .inl (nA sa)))] := hD
  refine lv_istore_n (lv' := [(2, .int (nI (sa d))), (0, .ref s0), (1, .int (nI d))]) hx hb d_Sh_moveOn_5 rfl hl (by decide) rfl (fun ls hl => ?_)
  refine lv_iload_n hx hb d_Sh_moveOn_6 rfl (lv_at hl 0 rfl) ?_
  refine xz_ne (tgt := 19) (a := sa d) hx hb (by omega) d_Sh_moveOn_7 (by decide) (fun c_7 => ?_) (fun c_7 => ?_)
  · refine lv_iload_n hx hb d_Sh_moveOn_19 rfl (lv_at hl 0 rfl) ?_
    refine lv_iconst (v := nI 2) hx hb d_Sh_moveOn_20 (by decide) ?_
    refine xc_ne (tgt := 30) (a := sa d) (b := 2) hx hb (by omega) (by omega) d_Sh_moveOn_21 (by decide) (fun c_21 => ?_) (fun c_21 => ?_)
    · obtain ⟨hP, hD⟩ := xp (ws' := [(s0, .inr (4, [.ref t0, .ref a1, .ref a2, .ref a3, .int (nI cm)])), (a1, .inl (K 0, 600, .inl (nA sa))), (a3, .inl (K 0, 4, .inl (nA is)))]) hP hD [1, 2, 0] (by decide) rfl
      exact xr_vret hx hb hr hlocks hP hD hS (Nat.le_of_ble_eq_true rfl) (Nat.le_of_ble_eq_true rfl) (by dsimp only [q_Sh_moveOn]; unfold mvS mvI; first | (rw [if_pos c_7, if_pos c_7, c_7]) | (rw [if_neg (show ¬ sa d = 0 by omega), if_neg (show ¬ sa d = 0 by omega), if_pos c_21, if_pos c_21, c_21]) | (rw [if_neg (show ¬ sa d = 0 by omega), if_neg (show ¬ sa d = 0 by omega), if_neg c_21, if_neg c_21])) d_Sh_moveOn_30
    · refine lv_aload_n hx hb d_Sh_moveOn_24 rfl (lv_at hl 1 rfl) ?_
      refine lv_iload_n hx hb d_Sh_moveOn_25 rfl (lv_at hl 2 rfl) ?_
      refine lv_iconst (v := nI 3) hx hb d_Sh_moveOn_26 (by decide) ?_
      refine xcV_v (As := [.int (nI d), .int (nI 3)]) (rest := []) (wr := []) hx hb hml hown htw hK hA hl.1 hP hD hS (c_Sh_move l D K s0 t0 a1 a2 a3 cm sa is d 3 (by first | assumption | omega) (by first | assumption | omega) (by first | assumption | omega) (by first | assumption | omega) (by first | assumption | omega)) [1, 2, 0] [] rfl rfl (by decide) (by decide) (by decide) 0 rfl k_Sh ml_Sh_50 w_Sh_move rfl ⟨by decide, by decide⟩ rfl (Nat.le_of_ble_eq_true rfl) ⟨by decide, by decide⟩ d_Sh_moveOn_27 (fun u H locs hpost hP hD hS => ?_)
      subst hpost
      have hP : va_P D classes [(s0, .inr (4, [.ref t0, .ref a1, .ref a2, .ref a3, .int (nI cm)])), (a1, .inl (K 0, 600, .inl (nA (va_up sa d 3)))), (a3, .inl (K 0, 4, .inl (nA (mvC is (sa d) 3))))] H := hP
      have hD : va_D A [(s0, .inr (4, [.ref t0, .ref a1, .ref a2, .ref a3, .int (nI cm)])), (a1, .inl (K 0, 600, .inl (nA (va_up sa d 3)))), (a3, .inl (K 0, 4, .inl (nA (mvC is (sa d) 3))))] := hD
      exact xr_vret hx hb hr hlocks hP hD hS (Nat.le_of_ble_eq_true rfl) (Nat.le_of_ble_eq_true rfl) (by dsimp only [q_Sh_moveOn]; unfold mvS mvI; first | (rw [if_pos c_7, if_pos c_7, c_7]) | (rw [if_neg (show ¬ sa d = 0 by omega), if_neg (show ¬ sa d = 0 by omega), if_pos c_21, if_pos c_21, c_21]) | (rw [if_neg (show ¬ sa d = 0 by omega), if_neg (show ¬ sa d = 0 by omega), if_neg c_21, if_neg c_21])) d_Sh_moveOn_30
  · refine lv_aload_n hx hb d_Sh_moveOn_10 rfl (lv_at hl 1 rfl) ?_
    refine lv_iload_n hx hb d_Sh_moveOn_11 rfl (lv_at hl 2 rfl) ?_
    refine lv_iconst (v := nI 1) hx hb d_Sh_moveOn_12 (by decide) ?_
    refine xcV_v (As := [.int (nI d), .int (nI 1)]) (rest := []) (wr := []) hx hb hml hown htw hK hA hl.1 hP hD hS (c_Sh_move l D K s0 t0 a1 a2 a3 cm sa is d 1 (by first | assumption | omega) (by first | assumption | omega) (by first | assumption | omega) (by first | assumption | omega) (by first | assumption | omega)) [1, 2, 0] [] rfl rfl (by decide) (by decide) (by decide) 0 rfl k_Sh ml_Sh_50 w_Sh_move rfl ⟨by decide, by decide⟩ rfl (Nat.le_of_ble_eq_true rfl) ⟨by decide, by decide⟩ d_Sh_moveOn_13 (fun u H locs hpost hP hD hS => ?_)
    subst hpost
    have hP : va_P D classes [(s0, .inr (4, [.ref t0, .ref a1, .ref a2, .ref a3, .int (nI cm)])), (a1, .inl (K 0, 600, .inl (nA (va_up sa d 1)))), (a3, .inl (K 0, 4, .inl (nA (mvC is (sa d) 1))))] H := hP
    have hD : va_D A [(s0, .inr (4, [.ref t0, .ref a1, .ref a2, .ref a3, .int (nI cm)])), (a1, .inl (K 0, 600, .inl (nA (va_up sa d 1)))), (a3, .inl (K 0, 4, .inl (nA (mvC is (sa d) 1))))] := hD
    refine lv_goto (tgt := 30) hx hb d_Sh_moveOn_16 (by decide) ?_
    exact xr_vret hx hb hr hlocks hP hD hS (Nat.le_of_ble_eq_true rfl) (Nat.le_of_ble_eq_true rfl) (by dsimp only [q_Sh_moveOn]; unfold mvS mvI; first | (rw [if_pos c_7, if_pos c_7, c_7]) | (rw [if_neg (show ¬ sa d = 0 by omega), if_neg (show ¬ sa d = 0 by omega), if_pos c_21, if_pos c_21, c_21]) | (rw [if_neg (show ¬ sa d = 0 by omega), if_neg (show ¬ sa d = 0 by omega), if_neg c_21, if_neg c_21])) d_Sh_moveOn_30

abbrev q_Sh_listTerms (K : Nat → ClassId) (s0 : Nat) (t0 : Nat) (a1 : Nat) (a2 : Nat) (a3 : Nat) (cm : Nat) (b1 : Nat) (b2 : Nat) (T : Nat) (st : Nat → Nat) (ct : Nat → Int64) (d : Nat) (k0 : Nat) (k1 : Nat) (z : Nat) (n : Nat) (f : Nat → Int64) : va_W → Prop := fun u => ∃ f' : Nat → Int64, u = [(s0, .inr (4, [.ref t0, .ref a1, .ref a2, .ref a3, .int (nI cm)])), (t0, .inr (5, [.ref b1, .ref b2, .int (nI T)])), (a2, .inl (K 0, 601, .inl (nA st))), (b2, .inl (K 1, 512, .inr (.inl ct))), (k0, .inr (1, [.ref k1, .int (nI (z + (st (d + 1) - st d)))])), (k1, .inl (K 1, n, .inr (.inl f')))] ∧ (∀ j, j < z → f' j = f j) ∧ (∀ k, st d ≤ k → k < st (d + 1) → f' (z + (k - st d)) = ct k)
set_option maxHeartbeats 4000000 in
set_option maxRecDepth 100000 in
theorem lp_Sh_listTerms_20 {p : Program} {l : Launch} {e : Env} {s : State} {m : MethodId} {below : List Frame} {meth : Method} {c : Code} {A : Nat → Prop} {D : va_G} {K : Nat → ClassId} (s0 : Nat) (t0 : Nat) (a1 : Nat) (a2 : Nat) (a3 : Nat) (cm : Nat) (b1 : Nat) (b2 : Nat) (T : Nat) (st : Nat → Nat) (ct : Nat → Int64) (d : Nat) (k0 : Nat) (k1 : Nat) (z : Nat) (n : Nat) (f : Nat → Int64) (hcm : cm ≤ 600) (hd : d < cm) (h12 : st d ≤ st (d + 1)) (hT : st (d + 1) ≤ 512) (hz : z + (st (d + 1) - st d) ≤ n) (hn : n < 2 ^ 30) (hF : Fx p s m meth c y_Sh_listTerms b_Sh_listTerms 4 none D K) {b0 : Nat} (hA : AS K s A b0) : ∀ fuel : Nat, ∀ k : Nat, ∀ zz : Nat, ∀ gg : Nat → Int64, (st d ≤ k) → (k ≤ st (d + 1)) → (zz = z + (k - st d)) → (∀ j, j < z → gg j = f j) → (∀ i, st d ≤ i → i < k → gg (z + (i - st d)) = ct i) → st (d + 1) - k < fuel → ∀ (H : Heap) (locs : List Loc), va_P D classes [(s0, .inr (4, [.ref t0, .ref a1, .ref a2, .ref a3, .int (nI cm)])), (t0, .inr (5, [.ref b1, .ref b2, .int (nI T)])), (a2, .inl (K 0, 601, .inl (nA st))), (b2, .inl (K 1, 512, .inr (.inl ct))), (k0, .inr (1, [.ref k1, .int (nI zz)])), (k1, .inl (K 1, n, .inr (.inl gg)))] H → va_D A [(s0, .inr (4, [.ref t0, .ref a1, .ref a2, .ref a3, .int (nI cm)])), (t0, .inr (5, [.ref b1, .ref b2, .int (nI T)])), (a2, .inl (K 0, 601, .inl (nA st))), (b2, .inl (K 1, 512, .inr (.inl ct))), (k0, .inr (1, [.ref k1, .int (nI zz)])), (k1, .inl (K 1, n, .inr (.inl gg)))] → va_S A s.heap H locs → ∀ ls : Array Slot, lv_has ls 4 [(0, .ref s0), (1, .int (nI d)), (2, .ref k0), (3, .int (nI k))] → W p l e ({ frames := 1, cells := 0, slots := 0, locals := 22 } : Room) s m ([.ref s0, .int (nI d), .ref k0] : List Value).toArray below meth c H locs 0 0 (MQ below (va_Qv (q_Sh_listTerms K s0 t0 a1 a2 a3 cm b1 b2 T st ct d k0 k1 z n f) (fun u t => va_P D classes u t.heap ∧ va_D A u) A) ([.ref s0, .int (nI d), .ref k0] : List Value).toArray s 0 0 A) (F0 m 20 ls []) := by
  have hF2 := hF
  obtain ⟨hx, hb, hr, hml, hown, htw, hK, hlocks, hname⟩ := hF
  intro fuel
  induction fuel with
  | zero => intros; omega
  | succ fuel ih =>
    intro k zz gg h1 h2 hzz h3 h4 hfu H locs hP hD hS ls hl
    refine lv_iload_n hx hb d_Sh_listTerms_20 rfl (lv_at hl 3 rfl) ?_
    refine lv_aload_n hx hb d_Sh_listTerms_21 rfl (lv_at hl 0 rfl) ?_
    refine xg hx hb hown htw hK hP 0 2 rfl k_Sh (by decide) fl_Sh_22 rfl d_Sh_listTerms_22 ?_
    refine lv_iload_n hx hb d_Sh_listTerms_25 rfl (lv_at hl 1 rfl) ?_
    refine lv_iconst (v := nI 1) hx hb d_Sh_listTerms_26 (by decide) ?_
    refine lv_iadd hx hb d_Sh_listTerms_27 ?_
    refine xi (nI_add d 1) ?_
    refine xald_i hx hb hK hP 2 rfl (by omega) (by omega) d_Sh_listTerms_28 ?_
    refine xi (y := nI (st (d + 1))) rfl ?_
    refine xc_ge (tgt := 51) (a := k) (b := st (d + 1)) hx hb (by omega) (by omega) d_Sh_listTerms_29 (by decide) (fun c_29 => ?_) (fun c_29 => ?_)
    · have hk2 : k = st (d + 1) := by omega
      subst hk2
      subst hzz
      exact xr_vret hx hb hr hlocks hP hD hS (Nat.le_of_ble_eq_true rfl) (Nat.le_of_ble_eq_true rfl) (⟨_, rfl, h3, h4⟩) d_Sh_listTerms_51
    · refine lv_aload_n hx hb d_Sh_listTerms_32 rfl (lv_at hl 2 rfl) ?_
      refine lv_aload_n hx hb d_Sh_listTerms_33 rfl (lv_at hl 0 rfl) ?_
      refine xg hx hb hown htw hK hP 0 0 rfl k_Sh (by decide) fl_Sh_12 rfl d_Sh_listTerms_34 ?_
      refine xg hx hb hown htw hK hP 1 1 rfl k_Tk (by decide) fl_Sh_42 rfl d_Sh_listTerms_37 ?_
      refine lv_iload_n hx hb d_Sh_listTerms_40 rfl (lv_at hl 3 rfl) ?_
      refine xald_l hx hb hK hP 3 rfl (by omega) (by omega) d_Sh_listTerms_41 ?_
      refine xcV_v (As := [.long (ct k)]) (rest := []) (wr := [(s0, .inr (4, [.ref t0, .ref a1, .ref a2, .ref a3, .int (nI cm)])), (t0, .inr (5, [.ref b1, .ref b2, .int (nI T)])), (a2, .inl (K 0, 601, .inl (nA st))), (b2, .inl (K 1, 512, .inr (.inl ct)))]) hx hb hml hown htw hK hA hl.1 hP hD hS (c_Ks_put l D K k0 k1 zz n gg (ct k) (by first | assumption | omega) (by first | assumption | omega)) [4, 5] [0, 1, 2, 3] rfl rfl (by decide) (by decide) (by decide) 0 rfl k_Ks ml_Sh_54 w_Ks_put rfl ⟨by decide, by decide⟩ rfl (Nat.le_of_ble_eq_true rfl) ⟨by decide, by decide⟩ d_Sh_listTerms_42 (fun u H locs hpost hP hD hS => ?_)
      subst hpost
      have hP : va_P D classes [(s0, .inr (4, [.ref t0, .ref a1, .ref a2, .ref a3, .int (nI cm)])), (t0, .inr (5, [.ref b1, .ref b2, .int (nI T)])), (a2, .inl (K 0, 601, .inl (nA st))), (b2, .inl (K 1, 512, .inr (.inl ct))), (k0, .inr (1, [.ref k1, .int (nI (zz + 1))])), (k1, .inl (K 1, n, .inr (.inl (vp_updL gg zz (ct k)))))] H := hP
      have hD : va_D A [(s0, .inr (4, [.ref t0, .ref a1, .ref a2, .ref a3, .int (nI cm)])), (t0, .inr (5, [.ref b1, .ref b2, .int (nI T)])), (a2, .inl (K 0, 601, .inl (nA st))), (b2, .inl (K 1, 512, .inr (.inl ct))), (k0, .inr (1, [.ref k1, .int (nI (zz + 1))])), (k1, .inl (K 1, n, .inr (.inl (vp_updL gg zz (ct k)))))] := hD
      refine lv_iinc (v := nI (k + 1)) (lv' := [(3, .int (nI (k + 1))), (0, .ref s0), (1, .int (nI d)), (2, .ref k0)]) hx hb d_Sh_listTerms_45 hl (k := 3) rfl (inc_nI _ _) (by decide) rfl (fun ls hl => ?_)
      refine lv_goto (tgt := 20) hx hb d_Sh_listTerms_48 (by decide) ?_
      exact ih (k + 1) (zz + 1) (vp_updL gg zz (ct k)) (by first | assumption | omega) (by first | assumption | omega) (by first | assumption | omega) (by exact fun j hj => by rw [pk_uLn (by omega)]; exact h3 j hj) (by exact fun i a b => by rcases Nat.lt_or_ge i k with q | q; (rw [pk_uLn (by omega)]; exact h4 i a q); (have e : i = k := by omega); (rw [e, ← hzz, pk_uLs])) (by omega) _ _ hP hD hS _ (lv_sub hl [1, 2, 3, 0] rfl)
set_option maxHeartbeats 4000000 in
set_option maxRecDepth 100000 in
theorem c_Sh_listTerms (l : Launch) (D : va_G) (K : Nat → ClassId) (s0 : Nat) (t0 : Nat) (a1 : Nat) (a2 : Nat) (a3 : Nat) (cm : Nat) (b1 : Nat) (b2 : Nat) (T : Nat) (st : Nat → Nat) (ct : Nat → Int64) (d : Nat) (k0 : Nat) (k1 : Nat) (z : Nat) (n : Nat) (f : Nat → Int64) (hcm : cm ≤ 600) (hd : d < cm) (h12 : st d ≤ st (d + 1)) (hT : st (d + 1) ≤ 512) (hz : z + (st (d + 1) - st d) ≤ n) (hn : n < 2 ^ 30) : CV l y_Sh_listTerms b_Sh_listTerms 4 ({ frames := 1, cells := 0, slots := 0, locals := 22 } : Room) D K [.ref s0, .int (nI d), .ref k0] [(s0, .inr (4, [.ref t0, .ref a1, .ref a2, .ref a3, .int (nI cm)])), (t0, .inr (5, [.ref b1, .ref b2, .int (nI T)])), (a2, .inl (K 0, 601, .inl (nA st))), (b2, .inl (K 1, 512, .inr (.inl ct))), (k0, .inr (1, [.ref k1, .int (nI z)])), (k1, .inl (K 1, n, .inr (.inl f)))] (q_Sh_listTerms K s0 t0 a1 a2 a3 cm b1 b2 T st ct d k0 k1 z n f) := by
  refine CV_of (by decide) (Nat.le_of_ble_eq_true rfl) ?_
  intro p e s m below meth c A b0 ls hF hA hP hD hl
  have hF2 := hF
  obtain ⟨hx, hb, hr, hml, hown, htw, hK, hlocks, hname⟩ := hF
  have hS : va_S A s.heap s.heap [] := va_S.rf
  have hl : lv_has ls 4 [(0, .ref s0), (1, .int (nI d)), (2, .ref k0)] := hl
  refine lv_iload_n hx hb d_Sh_listTerms_0 rfl (lv_at hl 1 rfl) ?_
  refine xz_lt (a := d) hx hb (by omega) d_Sh_listTerms_1 12 (by decide) ?_
  refine lv_iload_n hx hb d_Sh_listTerms_4 rfl (lv_at hl 1 rfl) ?_
  refine lv_aload_n hx hb d_Sh_listTerms_5 rfl (lv_at hl 0 rfl) ?_
  refine xg hx hb hown htw hK hP 0 4 rfl k_Sh (by decide) fl_Sh_28 rfl d_Sh_listTerms_6 ?_
  refine xc_lt (tgt := 13) (a := d) (b := cm) hx hb (by omega) (by omega) d_Sh_listTerms_9 (by decide) (fun c_9 => ?_) (fun c_9 => ?_)
  · refine lv_aload_n hx hb d_Sh_listTerms_13 rfl (lv_at hl 0 rfl) ?_
    refine xg hx hb hown htw hK hP 0 2 rfl k_Sh (by decide) fl_Sh_22 rfl d_Sh_listTerms_14 ?_
    refine lv_iload_n hx hb d_Sh_listTerms_17 rfl (lv_at hl 1 rfl) ?_
    refine xald_i hx hb hK hP 2 rfl (by omega) (by omega) d_Sh_listTerms_18 ?_
    refine xi (y := nI (st d)) rfl ?_
    refine lv_istore_n (lv' := [(3, .int (nI (st d))), (0, .ref s0), (1, .int (nI d)), (2, .ref k0)]) hx hb d_Sh_listTerms_19 rfl hl (by decide) rfl (fun ls hl => ?_)
    exact lp_Sh_listTerms_20 (l := l) s0 t0 a1 a2 a3 cm b1 b2 T st ct d k0 k1 z n f hcm hd h12 hT hz hn hF2 hA _ (st d) z f (by first | assumption | omega) (by first | assumption | omega) (by first | assumption | omega) (by exact fun _ _ => rfl) (by exact fun i a b => by omega) (Nat.lt_succ_self _) _ _ hP hD hS _ (lv_sub hl [1, 2, 3, 0] rfl)
  · omega

abbrev q_Sh_gatherFrom (K : Nat → ClassId) (s0 : Nat) (t0 : Nat) (a1 : Nat) (a2 : Nat) (a3 : Nat) (cm : Nat) (b1 : Nat) (b2 : Nat) (T : Nat) (st : Nat → Nat) (ch : Nat → Nat) (ct : Nat → Int64) (d : Nat) (fs : Int32) (wanted : Int64) (mask : Int64) (g0 : Nat) (g1 : Nat) (z : Nat) (g : Nat → Nat) (S : Nat → Prop) : va_W → Prop := fun u => ∃ z' : Nat, ∃ g' : Nat → Nat, u = [(s0, .inr (4, [.ref t0, .ref a1, .ref a2, .ref a3, .int (nI cm)])), (t0, .inr (5, [.ref b1, .ref b2, .int (nI T)])), (a2, .inl (K 0, 601, .inl (nA st))), (b1, .inl (K 0, 512, .inl (nA ch))), (b2, .inl (K 1, 512, .inr (.inl ct))), (g0, .inr (0, [.ref g1, .int (nI z')])), (g1, .inl (K 0, 512, .inl (nA g')))] ∧ (st_gt ch S (st (d + 1)) z' g')
set_option maxHeartbeats 4000000 in
set_option maxRecDepth 100000 in
theorem lp_Sh_gatherFrom_8 {p : Program} {l : Launch} {e : Env} {s : State} {m : MethodId} {below : List Frame} {meth : Method} {c : Code} {A : Nat → Prop} {D : va_G} {K : Nat → ClassId} (s0 : Nat) (t0 : Nat) (a1 : Nat) (a2 : Nat) (a3 : Nat) (cm : Nat) (b1 : Nat) (b2 : Nat) (T : Nat) (st : Nat → Nat) (ch : Nat → Nat) (ct : Nat → Int64) (d : Nat) (fs : Int32) (wanted : Int64) (mask : Int64) (g0 : Nat) (g1 : Nat) (z : Nat) (g : Nat → Nat) (S : Nat → Prop) (hcm : cm ≤ 600) (hT : T < 512) (hmo : ∀ i j, i ≤ j → j < T → ch i ≤ ch j) (hch : ∀ k, k < T → ch k < 2 ^ 24) (hd : d < cm) (h12 : st d ≤ st (d + 1)) (hTd : st (d + 1) ≤ T) (hSel : ∀ i, st d ≤ i → i < st (d + 1) → (S i ↔ (ct i &&& mask = wanted ∧ fbit fs (ch i)))) (hgt : st_gt ch S (st d) z g) (hF : Fx p s m meth c y_Sh_gatherFrom b_Sh_gatherFrom 10 none D K) {b0 : Nat} (hA : AS K s A b0) : ∀ fuel : Nat, ∀ k : Nat, ∀ zz : Nat, ∀ gg : Nat → Nat, (st d ≤ k) → (k ≤ st (d + 1)) → (st_gt ch S k zz gg) → st (d + 1) - k < fuel → ∀ (H : Heap) (locs : List Loc), va_P D classes [(s0, .inr (4, [.ref t0, .ref a1, .ref a2, .ref a3, .int (nI cm)])), (t0, .inr (5, [.ref b1, .ref b2, .int (nI T)])), (a2, .inl (K 0, 601, .inl (nA st))), (b1, .inl (K 0, 512, .inl (nA ch))), (b2, .inl (K 1, 512, .inr (.inl ct))), (g0, .inr (0, [.ref g1, .int (nI zz)])), (g1, .inl (K 0, 512, .inl (nA gg)))] H → va_D A [(s0, .inr (4, [.ref t0, .ref a1, .ref a2, .ref a3, .int (nI cm)])), (t0, .inr (5, [.ref b1, .ref b2, .int (nI T)])), (a2, .inl (K 0, 601, .inl (nA st))), (b1, .inl (K 0, 512, .inl (nA ch))), (b2, .inl (K 1, 512, .inr (.inl ct))), (g0, .inr (0, [.ref g1, .int (nI zz)])), (g1, .inl (K 0, 512, .inl (nA gg)))] → va_S A s.heap H locs → ∀ ls : Array Slot, lv_has ls 10 [(0, .ref s0), (1, .int (nI d)), (2, .int fs), (3, .long wanted), (5, .long mask), (7, .ref g0), (8, .int (nI k))] → W p l e ({ frames := 1, cells := 0, slots := 0, locals := 21 } : Room) s m ([.ref s0, .int (nI d), .int fs, .long wanted, .long mask, .ref g0] : List Value).toArray below meth c H locs 0 0 (MQ below (va_Qv (q_Sh_gatherFrom K s0 t0 a1 a2 a3 cm b1 b2 T st ch ct d fs wanted mask g0 g1 z g S) (fun u t => va_P D classes u t.heap ∧ va_D A u) A) ([.ref s0, .int (nI d), .int fs, .long wanted, .long mask, .ref g0] : List Value).toArray s 0 0 A) (F0 m 8 ls []) := by
  have hF2 := hF
  obtain ⟨hx, hb, hr, hml, hown, htw, hK, hlocks, hname⟩ := hF
  intro fuel
  induction fuel with
  | zero => intros; omega
  | succ fuel ih =>
    have jn_70 : ∀ k : Nat, ∀ zz : Nat, ∀ gg : Nat → Nat, (st d ≤ k) → (k < st (d + 1)) → (st_gt ch S (k + 1) zz gg) → (st (d + 1) - k < fuel + 1) → ∀ (H : Heap) (locs : List Loc), va_P D classes [(s0, .inr (4, [.ref t0, .ref a1, .ref a2, .ref a3, .int (nI cm)])), (t0, .inr (5, [.ref b1, .ref b2, .int (nI T)])), (a2, .inl (K 0, 601, .inl (nA st))), (b1, .inl (K 0, 512, .inl (nA ch))), (b2, .inl (K 1, 512, .inr (.inl ct))), (g0, .inr (0, [.ref g1, .int (nI zz)])), (g1, .inl (K 0, 512, .inl (nA gg)))] H → va_D A [(s0, .inr (4, [.ref t0, .ref a1, .ref a2, .ref a3, .int (nI cm)])), (t0, .inr (5, [.ref b1, .ref b2, .int (nI T)])), (a2, .inl (K 0, 601, .inl (nA st))), (b1, .inl (K 0, 512, .inl (nA ch))), (b2, .inl (K 1, 512, .inr (.inl ct))), (g0, .inr (0, [.ref g1, .int (nI zz)])), (g1, .inl (K 0, 512, .inl (nA gg)))] → va_S A s.heap H locs → ∀ ls : Array Slot, lv_has ls 10 [(0, .ref s0), (1, .int (nI d)), (2, .int fs), (3, .long wanted), (5, .long mask), (7, .ref g0), (8, .int (nI k))] → W p l e ({ frames := 1, cells := 0, slots := 0, locals := 21 } : Room) s m ([.ref s0, .int (nI d), .int fs, .long wanted, .long mask, .ref g0] : List Value).toArray below meth c H locs 0 0 (MQ below (va_Qv (q_Sh_gatherFrom K s0 t0 a1 a2 a3 cm b1 b2 T st ch ct d fs wanted mask g0 g1 z g S) (fun u t => va_P D classes u t.heap ∧ va_D A u) A) ([.ref s0, .int (nI d), .int fs, .long wanted, .long mask, .ref g0] : List Value).toArray s 0 0 A) (F0 m 70 ls []) := by
      intro k zz gg h1 h2 hg hfu H locs hP hD hS ls hl
      refine lv_iinc (v := nI (k + 1)) (lv' := [(8, .int (nI (k + 1))), (0, .ref s0), (1, .int (nI d)), (2, .int fs), (3, .long wanted), (5, .long mask), (7, .ref g0)]) hx hb d_Sh_gatherFrom_70 hl (k := 6) rfl (inc_nI _ _) (by decide) rfl (fun ls hl => ?_)
      refine lv_goto (tgt := 8) hx hb d_Sh_gatherFrom_73 (by decide) ?_
      exact ih (k + 1) zz gg (by first | assumption | omega) (by first | assumption | omega) (by first | assumption | omega) (by omega) _ _ hP hD hS _ (lv_sub hl [1, 2, 3, 4, 5, 6, 0] rfl)
    intro k zz gg h1 h2 hg hfu H locs hP hD hS ls hl
    refine lv_iload hx hb d_Sh_gatherFrom_8 (lv_at hl 6 rfl) ?_
    refine lv_aload_n hx hb d_Sh_gatherFrom_10 rfl (lv_at hl 0 rfl) ?_
    refine xg hx hb hown htw hK hP 0 2 rfl k_Sh (by decide) fl_Sh_22 rfl d_Sh_gatherFrom_11 ?_
    refine lv_iload_n hx hb d_Sh_gatherFrom_14 rfl (lv_at hl 1 rfl) ?_
    refine lv_iconst (v := nI 1) hx hb d_Sh_gatherFrom_15 (by decide) ?_
    refine lv_iadd hx hb d_Sh_gatherFrom_16 ?_
    refine xi (nI_add d 1) ?_
    refine xald_i hx hb hK hP 2 rfl (by omega) (by omega) d_Sh_gatherFrom_17 ?_
    refine xi (y := nI (st (d + 1))) rfl ?_
    refine xc_ge (tgt := 76) (a := k) (b := st (d + 1)) hx hb (by omega) (by omega) d_Sh_gatherFrom_18 (by decide) (fun c_18 => ?_) (fun c_18 => ?_)
    · have hk2 : k = st (d + 1) := by omega
      subst hk2
      exact xr_vret hx hb hr hlocks hP hD hS (Nat.le_of_ble_eq_true rfl) (Nat.le_of_ble_eq_true rfl) (⟨_, _, rfl, hg⟩) d_Sh_gatherFrom_76
    · refine lv_aload_n hx hb d_Sh_gatherFrom_21 rfl (lv_at hl 0 rfl) ?_
      refine xg hx hb hown htw hK hP 0 0 rfl k_Sh (by decide) fl_Sh_12 rfl d_Sh_gatherFrom_22 ?_
      refine xg hx hb hown htw hK hP 1 0 rfl k_Tk (by decide) fl_Sh_39 rfl d_Sh_gatherFrom_25 ?_
      refine lv_iload hx hb d_Sh_gatherFrom_28 (lv_at hl 6 rfl) ?_
      refine xald_i hx hb hK hP 3 rfl (by omega) (by omega) d_Sh_gatherFrom_30 ?_
      refine xi (y := nI (ch k)) rfl ?_
      refine lv_istore (lv' := [(9, .int (nI (ch k))), (0, .ref s0), (1, .int (nI d)), (2, .int fs), (3, .long wanted), (5, .long mask), (7, .ref g0), (8, .int (nI k))]) hx hb d_Sh_gatherFrom_31 hl (by decide) rfl (fun ls hl => ?_)
      refine lv_aload_n hx hb d_Sh_gatherFrom_33 rfl (lv_at hl 1 rfl) ?_
      refine xg hx hb hown htw hK hP 0 0 rfl k_Sh (by decide) fl_Sh_12 rfl d_Sh_gatherFrom_34 ?_
      refine xg hx hb hown htw hK hP 1 1 rfl k_Tk (by decide) fl_Sh_42 rfl d_Sh_gatherFrom_37 ?_
      refine lv_iload hx hb d_Sh_gatherFrom_40 (lv_at hl 7 rfl) ?_
      refine xald_l hx hb hK hP 4 rfl (by omega) (by omega) d_Sh_gatherFrom_42 ?_
      refine lv_lload hx hb d_Sh_gatherFrom_43 (lv_at hl 5 rfl) ?_
      refine lv_land hx hb d_Sh_gatherFrom_45 ?_
      refine lv_lload_n hx hb d_Sh_gatherFrom_46 rfl (lv_at hl 4 rfl) ?_
      refine xlc_ne (tgt := 70) (x := (ct k) &&& mask) (y := wanted) hx hb d_Sh_gatherFrom_47 d_Sh_gatherFrom_48 (by decide) (fun c_47 => ?_) (fun c_47 => ?_)
      · exact jn_70 k zz gg (by first | assumption | omega) (by first | assumption | omega) (by exact st_gt_n hg (fun q => c_47 ((hSel k h1 (by omega)).mp q).1)) (by first | assumption | omega) _ _ hP hD hS _ (lv_sub hl [1, 2, 3, 4, 5, 6, 7] rfl)
      · refine lv_iload_n hx hb d_Sh_gatherFrom_51 rfl (lv_at hl 3 rfl) ?_
        refine lv_iload hx hb d_Sh_gatherFrom_52 (lv_at hl 0 rfl) ?_
        refine xcSN_i (As := [.int (nI (ch k))]) (rest := [.int fs]) (wr := [(s0, .inr (4, [.ref t0, .ref a1, .ref a2, .ref a3, .int (nI cm)])), (t0, .inr (5, [.ref b1, .ref b2, .int (nI T)])), (a2, .inl (K 0, 601, .inl (nA st))), (b1, .inl (K 0, 512, .inl (nA ch))), (b2, .inl (K 1, 512, .inr (.inl ct))), (g0, .inr (0, [.ref g1, .int (nI zz)])), (g1, .inl (K 0, 512, .inl (nA gg)))]) hx hb hml hown htw hK hA hl.1 hP hD hS (c_SI_fieldOf l D K (ch k) (by have := hch k (by omega); omega)) [] [0, 1, 2, 3, 4, 5, 6] rfl rfl (by decide) (by decide) (by decide) ml_Sh_70 w_SI_fieldOf rfl ⟨by decide, by decide⟩ rfl (Nat.le_of_ble_eq_true rfl) ⟨by decide, by decide⟩ d_Sh_gatherFrom_54 (fun r u H locs hpost hP hD hS => ?_)
        obtain ⟨rfl, rfl⟩ := hpost
        have hP : va_P D classes [(s0, .inr (4, [.ref t0, .ref a1, .ref a2, .ref a3, .int (nI cm)])), (t0, .inr (5, [.ref b1, .ref b2, .int (nI T)])), (a2, .inl (K 0, 601, .inl (nA st))), (b1, .inl (K 0, 512, .inl (nA ch))), (b2, .inl (K 1, 512, .inr (.inl ct))), (g0, .inr (0, [.ref g1, .int (nI zz)])), (g1, .inl (K 0, 512, .inl (nA gg)))] H := hP
        have hD : va_D A [(s0, .inr (4, [.ref t0, .ref a1, .ref a2, .ref a3, .int (nI cm)])), (t0, .inr (5, [.ref b1, .ref b2, .int (nI T)])), (a2, .inl (K 0, 601, .inl (nA st))), (b1, .inl (K 0, 512, .inl (nA ch))), (b2, .inl (K 1, 512, .inr (.inl ct))), (g0, .inr (0, [.ref g1, .int (nI zz)])), (g1, .inl (K 0, 512, .inl (nA gg)))] := hD
        refine lv_ishr hx hb d_Sh_gatherFrom_57 ?_
        refine lv_iconst (v := nI 1) hx hb d_Sh_gatherFrom_58 (by decide) ?_
        refine lv_iand hx hb d_Sh_gatherFrom_59 ?_
        refine lv_if_eq (tgt := 70) hx hb d_Sh_gatherFrom_60 (by decide) (fun c_60 => ?_) (fun c_60 => ?_)
        · exact jn_70 k zz gg (by first | assumption | omega) (by first | assumption | omega) (by exact st_gt_n hg (fun q => ((hSel k h1 (by omega)).mp q).2 c_60)) (by first | assumption | omega) _ _ hP hD hS _ (lv_sub hl [1, 2, 3, 4, 5, 6, 7] rfl)
        · refine lv_aload hx hb d_Sh_gatherFrom_63 (lv_at hl 6 rfl) ?_
          refine lv_iload hx hb d_Sh_gatherFrom_65 (lv_at hl 0 rfl) ?_
          refine xcV_v (As := [.int (nI (ch k))]) (rest := []) (wr := [(s0, .inr (4, [.ref t0, .ref a1, .ref a2, .ref a3, .int (nI cm)])), (t0, .inr (5, [.ref b1, .ref b2, .int (nI T)])), (a2, .inl (K 0, 601, .inl (nA st))), (b1, .inl (K 0, 512, .inl (nA ch))), (b2, .inl (K 1, 512, .inr (.inl ct)))]) hx hb hml hown htw hK hA hl.1 hP hD hS (c_HS_put l D K g0 g1 zz 512 gg (ch k) (by have := st_gt_card hg; omega) (by first | assumption | omega) (by have := hch k (by omega); omega) (by exact fun j hj => Nat.lt_trans (st_gt_lt hg (by omega) hch j hj) (by decide))) [5, 6] [0, 1, 2, 3, 4] rfl rfl (by decide) (by decide) (by decide) 0 rfl k_HS ml_Sh_73 w_HS_put rfl ⟨by decide, by decide⟩ rfl (Nat.le_of_ble_eq_true rfl) ⟨by decide, by decide⟩ d_Sh_gatherFrom_67 (fun u H locs hpost hP hD hS => ?_)
          subst hpost
          have hP : va_P D classes [(s0, .inr (4, [.ref t0, .ref a1, .ref a2, .ref a3, .int (nI cm)])), (t0, .inr (5, [.ref b1, .ref b2, .int (nI T)])), (a2, .inl (K 0, 601, .inl (nA st))), (b1, .inl (K 0, 512, .inl (nA ch))), (b2, .inl (K 1, 512, .inr (.inl ct))), (g0, .inr (0, [.ref g1, .int (nI (pz zz gg (ch k)))])), (g1, .inl (K 0, 512, .inl (nA (pg zz gg (ch k)))))] H := hP
          have hD : va_D A [(s0, .inr (4, [.ref t0, .ref a1, .ref a2, .ref a3, .int (nI cm)])), (t0, .inr (5, [.ref b1, .ref b2, .int (nI T)])), (a2, .inl (K 0, 601, .inl (nA st))), (b1, .inl (K 0, 512, .inl (nA ch))), (b2, .inl (K 1, 512, .inr (.inl ct))), (g0, .inr (0, [.ref g1, .int (nI (pz zz gg (ch k)))])), (g1, .inl (K 0, 512, .inl (nA (pg zz gg (ch k)))))] := hD
          exact jn_70 k (pz zz gg (ch k)) (pg zz gg (ch k)) (by first | assumption | omega) (by first | assumption | omega) (by exact st_gt_y hg hmo (by omega) ((hSel k h1 (by omega)).mpr ⟨c_47, c_60⟩)) (by first | assumption | omega) _ _ hP hD hS _ (lv_sub hl [1, 2, 3, 4, 5, 6, 7] rfl)
set_option maxHeartbeats 4000000 in
set_option maxRecDepth 100000 in
theorem c_Sh_gatherFrom (l : Launch) (D : va_G) (K : Nat → ClassId) (s0 : Nat) (t0 : Nat) (a1 : Nat) (a2 : Nat) (a3 : Nat) (cm : Nat) (b1 : Nat) (b2 : Nat) (T : Nat) (st : Nat → Nat) (ch : Nat → Nat) (ct : Nat → Int64) (d : Nat) (fs : Int32) (wanted : Int64) (mask : Int64) (g0 : Nat) (g1 : Nat) (z : Nat) (g : Nat → Nat) (S : Nat → Prop) (hcm : cm ≤ 600) (hT : T < 512) (hmo : ∀ i j, i ≤ j → j < T → ch i ≤ ch j) (hch : ∀ k, k < T → ch k < 2 ^ 24) (hd : d < cm) (h12 : st d ≤ st (d + 1)) (hTd : st (d + 1) ≤ T) (hSel : ∀ i, st d ≤ i → i < st (d + 1) → (S i ↔ (ct i &&& mask = wanted ∧ fbit fs (ch i)))) (hgt : st_gt ch S (st d) z g) : CV l y_Sh_gatherFrom b_Sh_gatherFrom 10 ({ frames := 1, cells := 0, slots := 0, locals := 21 } : Room) D K [.ref s0, .int (nI d), .int fs, .long wanted, .long mask, .ref g0] [(s0, .inr (4, [.ref t0, .ref a1, .ref a2, .ref a3, .int (nI cm)])), (t0, .inr (5, [.ref b1, .ref b2, .int (nI T)])), (a2, .inl (K 0, 601, .inl (nA st))), (b1, .inl (K 0, 512, .inl (nA ch))), (b2, .inl (K 1, 512, .inr (.inl ct))), (g0, .inr (0, [.ref g1, .int (nI z)])), (g1, .inl (K 0, 512, .inl (nA g)))] (q_Sh_gatherFrom K s0 t0 a1 a2 a3 cm b1 b2 T st ch ct d fs wanted mask g0 g1 z g S) := by
  refine CV_of (by decide) (Nat.le_of_ble_eq_true rfl) ?_
  intro p e s m below meth c A b0 ls hF hA hP hD hl
  have hF2 := hF
  obtain ⟨hx, hb, hr, hml, hown, htw, hK, hlocks, hname⟩ := hF
  have hS : va_S A s.heap s.heap [] := va_S.rf
  have hl : lv_has ls 10 [(0, .ref s0), (1, .int (nI d)), (2, .int fs), (3, .long wanted), (5, .long mask), (7, .ref g0)] := hl
  refine lv_aload_n hx hb d_Sh_gatherFrom_0 rfl (lv_at hl 0 rfl) ?_
  refine xg hx hb hown htw hK hP 0 2 rfl k_Sh (by decide) fl_Sh_22 rfl d_Sh_gatherFrom_1 ?_
  refine lv_iload_n hx hb d_Sh_gatherFrom_4 rfl (lv_at hl 1 rfl) ?_
  refine xald_i hx hb hK hP 2 rfl (by omega) (by omega) d_Sh_gatherFrom_5 ?_
  refine xi (y := nI (st d)) rfl ?_
  refine lv_istore (lv' := [(8, .int (nI (st d))), (0, .ref s0), (1, .int (nI d)), (2, .int fs), (3, .long wanted), (5, .long mask), (7, .ref g0)]) hx hb d_Sh_gatherFrom_6 hl (by decide) rfl (fun ls hl => ?_)
  exact lp_Sh_gatherFrom_8 (l := l) s0 t0 a1 a2 a3 cm b1 b2 T st ch ct d fs wanted mask g0 g1 z g S hcm hT hmo hch hd h12 hTd hSel hgt hF2 hA _ (st d) z g (by first | assumption | omega) (by first | assumption | omega) (by exact hgt) (Nat.lt_succ_self _) _ _ hP hD hS _ (lv_sub hl [1, 2, 3, 4, 5, 6, 0] rfl)

abbrev q_Sh_gather (K : Nat → ClassId) (s0 : Nat) (t0 : Nat) (a1 : Nat) (a2 : Nat) (a3 : Nat) (cm : Nat) (b1 : Nat) (b2 : Nat) (T : Nat) (sa : Nat → Nat) (st : Nat → Nat) (ch : Nat → Nat) (ct : Nat → Int64) (fs : Int32) (tm : Int64) (nb : Nat) (g0 : Nat) (g1 : Nat) (g : Nat → Nat) (S : Nat → Prop) : va_W → Prop := fun u => ∃ z' : Nat, ∃ g' : Nat → Nat, u = [(s0, .inr (4, [.ref t0, .ref a1, .ref a2, .ref a3, .int (nI cm)])), (t0, .inr (5, [.ref b1, .ref b2, .int (nI T)])), (a1, .inl (K 0, 600, .inl (nA sa))), (a2, .inl (K 0, 601, .inl (nA st))), (b1, .inl (K 0, 512, .inl (nA ch))), (b2, .inl (K 1, 512, .inr (.inl ct))), (g0, .inr (0, [.ref g1, .int (nI z')])), (g1, .inl (K 0, 512, .inl (nA g')))] ∧ (st_gt ch S (st cm) z' g')
set_option maxHeartbeats 4000000 in
set_option maxRecDepth 100000 in
theorem lp_Sh_gather_26 {p : Program} {l : Launch} {e : Env} {s : State} {m : MethodId} {below : List Frame} {meth : Method} {c : Code} {A : Nat → Prop} {D : va_G} {K : Nat → ClassId} (s0 : Nat) (t0 : Nat) (a1 : Nat) (a2 : Nat) (a3 : Nat) (cm : Nat) (b1 : Nat) (b2 : Nat) (T : Nat) (sa : Nat → Nat) (st : Nat → Nat) (ch : Nat → Nat) (ct : Nat → Int64) (fs : Int32) (tm : Int64) (nb : Nat) (g0 : Nat) (g1 : Nat) (g : Nat → Nat) (S : Nat → Prop) (hcm : cm ≤ 600) (hT : T < 512) (hmo : ∀ i j, i ≤ j → j < T → ch i ≤ ch j) (hch : ∀ k, k < T → ch k < 2 ^ 24) (hnb : nb ≤ 8) (hs4 : ∀ d, d < cm → sa d < 4) (h0 : st 0 = 0) (h12 : ∀ d, d < cm → st d ≤ st (d + 1)) (hTc : ∀ d, d ≤ cm → st d ≤ T) (hSel : ∀ d, d < cm → ∀ i, st d ≤ i → i < st (d + 1) → (S i ↔ (sa d ≤ 1 ∧ ct i &&& mkL nb = tm &&& mkL nb ∧ fbit fs (ch i)))) (hF : Fx p s m meth c y_Sh_gather b_Sh_gather 9 none D K) {b0 : Nat} (hA : AS K s A b0) : ∀ fuel : Nat, ∀ d : Nat, ∀ zz : Nat, ∀ gg : Nat → Nat, (d ≤ cm) → (st_gt ch S (st d) zz gg) → cm - d < fuel → ∀ (H : Heap) (locs : List Loc), va_P D classes [(s0, .inr (4, [.ref t0, .ref a1, .ref a2, .ref a3, .int (nI cm)])), (t0, .inr (5, [.ref b1, .ref b2, .int (nI T)])), (a1, .inl (K 0, 600, .inl (nA sa))), (a2, .inl (K 0, 601, .inl (nA st))), (b1, .inl (K 0, 512, .inl (nA ch))), (b2, .inl (K 1, 512, .inr (.inl ct))), (g0, .inr (0, [.ref g1, .int (nI zz)])), (g1, .inl (K 0, 512, .inl (nA gg)))] H → va_D A [(s0, .inr (4, [.ref t0, .ref a1, .ref a2, .ref a3, .int (nI cm)])), (t0, .inr (5, [.ref b1, .ref b2, .int (nI T)])), (a1, .inl (K 0, 600, .inl (nA sa))), (a2, .inl (K 0, 601, .inl (nA st))), (b1, .inl (K 0, 512, .inl (nA ch))), (b2, .inl (K 1, 512, .inr (.inl ct))), (g0, .inr (0, [.ref g1, .int (nI zz)])), (g1, .inl (K 0, 512, .inl (nA gg)))] → va_S A s.heap H locs → ∀ ls : Array Slot, lv_has ls 9 [(0, .ref s0), (1, .int fs), (2, .long tm), (5, .ref g0), (6, .long (mkL nb)), (8, .int (nI d))] → W p l e ({ frames := 2, cells := 0, slots := 0, locals := 50 } : Room) s m ([.ref s0, .int fs, .long tm, .int (nI nb), .ref g0] : List Value).toArray below meth c H locs 0 0 (MQ below (va_Qv (q_Sh_gather K s0 t0 a1 a2 a3 cm b1 b2 T sa st ch ct fs tm nb g0 g1 g S) (fun u t => va_P D classes u t.heap ∧ va_D A u) A) ([.ref s0, .int fs, .long tm, .int (nI nb), .ref g0] : List Value).toArray s 0 0 A) (F0 m 26 ls []) := by
  have hF2 := hF
  obtain ⟨hx, hb, hr, hml, hown, htw, hK, hlocks, hname⟩ := hF
  intro fuel
  induction fuel with
  | zero => intros; omega
  | succ fuel ih =>
    have jn_59 : ∀ d : Nat, ∀ zz : Nat, ∀ gg : Nat → Nat, (d < cm) → (st_gt ch S (st (d + 1)) zz gg) → (cm - d < fuel + 1) → ∀ (H : Heap) (locs : List Loc), va_P D classes [(s0, .inr (4, [.ref t0, .ref a1, .ref a2, .ref a3, .int (nI cm)])), (t0, .inr (5, [.ref b1, .ref b2, .int (nI T)])), (a1, .inl (K 0, 600, .inl (nA sa))), (a2, .inl (K 0, 601, .inl (nA st))), (b1, .inl (K 0, 512, .inl (nA ch))), (b2, .inl (K 1, 512, .inr (.inl ct))), (g0, .inr (0, [.ref g1, .int (nI zz)])), (g1, .inl (K 0, 512, .inl (nA gg)))] H → va_D A [(s0, .inr (4, [.ref t0, .ref a1, .ref a2, .ref a3, .int (nI cm)])), (t0, .inr (5, [.ref b1, .ref b2, .int (nI T)])), (a1, .inl (K 0, 600, .inl (nA sa))), (a2, .inl (K 0, 601, .inl (nA st))), (b1, .inl (K 0, 512, .inl (nA ch))), (b2, .inl (K 1, 512, .inr (.inl ct))), (g0, .inr (0, [.ref g1, .int (nI zz)])), (g1, .inl (K 0, 512, .inl (nA gg)))] → va_S A s.heap H locs → ∀ ls : Array Slot, lv_has ls 9 [(0, .ref s0), (1, .int fs), (2, .long tm), (5, .ref g0), (6, .long (mkL nb)), (8, .int (nI d))] → W p l e ({ frames := 2, cells := 0, slots := 0, locals := 50 } : Room) s m ([.ref s0, .int fs, .long tm, .int (nI nb), .ref g0] : List Value).toArray below meth c H locs 0 0 (MQ below (va_Qv (q_Sh_gather K s0 t0 a1 a2 a3 cm b1 b2 T sa st ch ct fs tm nb g0 g1 g S) (fun u t => va_P D classes u t.heap ∧ va_D A u) A) ([.ref s0, .int fs, .long tm, .int (nI nb), .ref g0] : List Value).toArray s 0 0 A) (F0 m 59 ls []) := by
      intro d zz gg hd hg hfu H locs hP hD hS ls hl
      refine lv_iinc (v := nI (d + 1)) (lv' := [(8, .int (nI (d + 1))), (0, .ref s0), (1, .int fs), (2, .long tm), (5, .ref g0), (6, .long (mkL nb))]) hx hb d_Sh_gather_59 hl (k := 5) rfl (inc_nI _ _) (by decide) rfl (fun ls hl => ?_)
      refine lv_goto (tgt := 26) hx hb d_Sh_gather_62 (by decide) ?_
      exact ih (d + 1) zz gg (by first | assumption | omega) (by first | assumption | omega) (by omega) _ _ hP hD hS _ (lv_sub hl [1, 2, 3, 4, 5, 0] rfl)
    intro d zz gg hd hg hfu H locs hP hD hS ls hl
    refine lv_iload hx hb d_Sh_gather_26 (lv_at hl 5 rfl) ?_
    refine lv_aload_n hx hb d_Sh_gather_28 rfl (lv_at hl 0 rfl) ?_
    refine xg hx hb hown htw hK hP 0 4 rfl k_Sh (by decide) fl_Sh_28 rfl d_Sh_gather_29 ?_
    refine xc_ge (tgt := 65) (a := d) (b := cm) hx hb (by omega) (by omega) d_Sh_gather_32 (by decide) (fun c_32 => ?_) (fun c_32 => ?_)
    · have hk2 : d = cm := by omega
      subst hk2
      exact xr_vret hx hb hr hlocks hP hD hS (Nat.le_of_ble_eq_true rfl) (Nat.le_of_ble_eq_true rfl) (⟨_, _, rfl, hg⟩) d_Sh_gather_65
    · refine lv_aload_n hx hb d_Sh_gather_35 rfl (lv_at hl 0 rfl) ?_
      refine lv_iload hx hb d_Sh_gather_36 (lv_at hl 5 rfl) ?_
      refine xcV_i (As := [.int (nI d)]) (rest := []) (wr := [(t0, .inr (5, [.ref b1, .ref b2, .int (nI T)])), (a2, .inl (K 0, 601, .inl (nA st))), (b1, .inl (K 0, 512, .inl (nA ch))), (b2, .inl (K 1, 512, .inr (.inl ct))), (g0, .inr (0, [.ref g1, .int (nI zz)])), (g1, .inl (K 0, 512, .inl (nA gg)))]) hx hb hml hown htw hK hA hl.1 hP hD hS (c_Sh_isThere l D K s0 t0 a1 a2 a3 cm sa d (by first | assumption | omega) (by first | assumption | omega) (by exact hs4 d c_32)) [0, 2] [1, 3, 4, 5, 6, 7] rfl rfl (by decide) (by decide) (by decide) 0 rfl k_Sh ml_Sh_62 w_Sh_isThere rfl ⟨by decide, by decide⟩ rfl (Nat.le_of_ble_eq_true rfl) ⟨by decide, by decide⟩ d_Sh_gather_38 (fun r u H locs hpost hP hD hS => ?_)
      obtain ⟨rfl, rfl⟩ := hpost
      have hP : va_P D classes [(t0, .inr (5, [.ref b1, .ref b2, .int (nI T)])), (a2, .inl (K 0, 601, .inl (nA st))), (b1, .inl (K 0, 512, .inl (nA ch))), (b2, .inl (K 1, 512, .inr (.inl ct))), (g0, .inr (0, [.ref g1, .int (nI zz)])), (g1, .inl (K 0, 512, .inl (nA gg))), (s0, .inr (4, [.ref t0, .ref a1, .ref a2, .ref a3, .int (nI cm)])), (a1, .inl (K 0, 600, .inl (nA sa)))] H := hP
      have hD : va_D A [(t0, .inr (5, [.ref b1, .ref b2, .int (nI T)])), (a2, .inl (K 0, 601, .inl (nA st))), (b1, .inl (K 0, 512, .inl (nA ch))), (b2, .inl (K 1, 512, .inr (.inl ct))), (g0, .inr (0, [.ref g1, .int (nI zz)])), (g1, .inl (K 0, 512, .inl (nA gg))), (s0, .inr (4, [.ref t0, .ref a1, .ref a2, .ref a3, .int (nI cm)])), (a1, .inl (K 0, 600, .inl (nA sa)))] := hD
      refine xz_eq (tgt := 59) (a := bN (sa d ≤ 1)) hx hb (by exact bN_31 _) d_Sh_gather_41 (by decide) (fun c_41 => ?_) (fun c_41 => ?_)
      · obtain ⟨hP9, hD9⟩ := xp (ws' := [(s0, .inr (4, [.ref t0, .ref a1, .ref a2, .ref a3, .int (nI cm)])), (t0, .inr (5, [.ref b1, .ref b2, .int (nI T)])), (a1, .inl (K 0, 600, .inl (nA sa))), (a2, .inl (K 0, 601, .inl (nA st))), (b1, .inl (K 0, 512, .inl (nA ch))), (b2, .inl (K 1, 512, .inr (.inl ct))), (g0, .inr (0, [.ref g1, .int (nI zz)])), (g1, .inl (K 0, 512, .inl (nA gg)))]) hP hD [6, 0, 7, 1, 2, 3, 4, 5] (by decide) rfl
        exact jn_59 d zz gg (by first | assumption | omega) (by exact st_gt_skip hg (h12 d c_32) (fun i a b q => bN_0.mp c_41 ((hSel d c_32 i a b).mp q).1)) (by first | assumption | omega) _ _ hP9 hD9 hS _ (lv_sub hl [0, 1, 2, 3, 4, 5] rfl)
      · refine lv_aload_n hx hb d_Sh_gather_44 rfl (lv_at hl 0 rfl) ?_
        refine lv_iload hx hb d_Sh_gather_45 (lv_at hl 5 rfl) ?_
        refine lv_iload_n hx hb d_Sh_gather_47 rfl (lv_at hl 1 rfl) ?_
        refine lv_lload_n hx hb d_Sh_gather_48 rfl (lv_at hl 2 rfl) ?_
        refine lv_lload hx hb d_Sh_gather_49 (lv_at hl 4 rfl) ?_
        refine lv_land hx hb d_Sh_gather_51 ?_
        refine lv_lload hx hb d_Sh_gather_52 (lv_at hl 4 rfl) ?_
        refine lv_aload hx hb d_Sh_gather_54 (lv_at hl 3 rfl) ?_
        refine xcV_v (As := [.int (nI d), .int fs, .long (tm &&& (mkL nb)), .long (mkL nb), .ref g0]) (rest := []) (wr := [(a1, .inl (K 0, 600, .inl (nA sa)))]) hx hb hml hown htw hK hA hl.1 hP hD hS (c_Sh_gatherFrom l D K s0 t0 a1 a2 a3 cm b1 b2 T st ch ct d fs (tm &&& (mkL nb)) (mkL nb) g0 g1 zz gg S (by first | assumption | omega) (by first | assumption | omega) (by first | assumption | omega) (by first | assumption | omega) (by first | assumption | omega) (by exact h12 d c_32) (by exact hTc (d + 1) c_32) (by exact fun i a b => (hSel d c_32 i a b).trans ⟨fun q => q.2, fun q => ⟨bN_pos.mp c_41, q⟩⟩) (by exact hg)) [6, 0, 1, 2, 3, 4, 5] [7] rfl rfl (by decide) (by decide) (by decide) 0 rfl k_Sh ml_Sh_66 w_Sh_gatherFrom rfl ⟨by decide, by decide⟩ rfl (Nat.le_of_ble_eq_true rfl) ⟨by decide, by decide⟩ d_Sh_gather_56 (fun u H locs hpost hP hD hS => ?_)
        obtain ⟨z'_56, g'_56, rfl, hgt2_56⟩ := hpost
        have hP : va_P D classes [(a1, .inl (K 0, 600, .inl (nA sa))), (s0, .inr (4, [.ref t0, .ref a1, .ref a2, .ref a3, .int (nI cm)])), (t0, .inr (5, [.ref b1, .ref b2, .int (nI T)])), (a2, .inl (K 0, 601, .inl (nA st))), (b1, .inl (K 0, 512, .inl (nA ch))), (b2, .inl (K 1, 512, .inr (.inl ct))), (g0, .inr (0, [.ref g1, .int (nI z'_56)])), (g1, .inl (K 0, 512, .inl (nA g'_56)))] H := hP
        have hD : va_D A [(a1, .inl (K 0, 600, .inl (nA sa))), (s0, .inr (4, [.ref t0, .ref a1, .ref a2, .ref a3, .int (nI cm)])), (t0, .inr (5, [.ref b1, .ref b2, .int (nI T)])), (a2, .inl (K 0, 601, .inl (nA st))), (b1, .inl (K 0, 512, .inl (nA ch))), (b2, .inl (K 1, 512, .inr (.inl ct))), (g0, .inr (0, [.ref g1, .int (nI z'_56)])), (g1, .inl (K 0, 512, .inl (nA g'_56)))] := hD
        obtain ⟨hP9, hD9⟩ := xp (ws' := [(s0, .inr (4, [.ref t0, .ref a1, .ref a2, .ref a3, .int (nI cm)])), (t0, .inr (5, [.ref b1, .ref b2, .int (nI T)])), (a1, .inl (K 0, 600, .inl (nA sa))), (a2, .inl (K 0, 601, .inl (nA st))), (b1, .inl (K 0, 512, .inl (nA ch))), (b2, .inl (K 1, 512, .inr (.inl ct))), (g0, .inr (0, [.ref g1, .int (nI z'_56)])), (g1, .inl (K 0, 512, .inl (nA g'_56)))]) hP hD [1, 2, 0, 3, 4, 5, 6, 7] (by decide) rfl
        exact jn_59 d z'_56 g'_56 (by first | assumption | omega) (by exact hgt2_56) (by first | assumption | omega) _ _ hP9 hD9 hS _ (lv_sub hl [0, 1, 2, 3, 4, 5] rfl)
set_option maxHeartbeats 4000000 in
set_option maxRecDepth 100000 in
theorem c_Sh_gather (l : Launch) (D : va_G) (K : Nat → ClassId) (s0 : Nat) (t0 : Nat) (a1 : Nat) (a2 : Nat) (a3 : Nat) (cm : Nat) (b1 : Nat) (b2 : Nat) (T : Nat) (sa : Nat → Nat) (st : Nat → Nat) (ch : Nat → Nat) (ct : Nat → Int64) (fs : Int32) (tm : Int64) (nb : Nat) (g0 : Nat) (g1 : Nat) (g : Nat → Nat) (S : Nat → Prop) (hcm : cm ≤ 600) (hT : T < 512) (hmo : ∀ i j, i ≤ j → j < T → ch i ≤ ch j) (hch : ∀ k, k < T → ch k < 2 ^ 24) (hnb : nb ≤ 8) (hs4 : ∀ d, d < cm → sa d < 4) (h0 : st 0 = 0) (h12 : ∀ d, d < cm → st d ≤ st (d + 1)) (hTc : ∀ d, d ≤ cm → st d ≤ T) (hSel : ∀ d, d < cm → ∀ i, st d ≤ i → i < st (d + 1) → (S i ↔ (sa d ≤ 1 ∧ ct i &&& mkL nb = tm &&& mkL nb ∧ fbit fs (ch i)))) : CV l y_Sh_gather b_Sh_gather 9 ({ frames := 2, cells := 0, slots := 0, locals := 50 } : Room) D K [.ref s0, .int fs, .long tm, .int (nI nb), .ref g0] [(s0, .inr (4, [.ref t0, .ref a1, .ref a2, .ref a3, .int (nI cm)])), (t0, .inr (5, [.ref b1, .ref b2, .int (nI T)])), (a1, .inl (K 0, 600, .inl (nA sa))), (a2, .inl (K 0, 601, .inl (nA st))), (b1, .inl (K 0, 512, .inl (nA ch))), (b2, .inl (K 1, 512, .inr (.inl ct))), (g0, .inr (0, [.ref g1, .int (nI 0)])), (g1, .inl (K 0, 512, .inl (nA g)))] (q_Sh_gather K s0 t0 a1 a2 a3 cm b1 b2 T sa st ch ct fs tm nb g0 g1 g S) := by
  refine CV_of (by decide) (Nat.le_of_ble_eq_true rfl) ?_
  intro p e s m below meth c A b0 ls hF hA hP hD hl
  have hF2 := hF
  obtain ⟨hx, hb, hr, hml, hown, htw, hK, hlocks, hname⟩ := hF
  have jn_21 : ∀ (H : Heap) (locs : List Loc), va_P D classes [(s0, .inr (4, [.ref t0, .ref a1, .ref a2, .ref a3, .int (nI cm)])), (t0, .inr (5, [.ref b1, .ref b2, .int (nI T)])), (a1, .inl (K 0, 600, .inl (nA sa))), (a2, .inl (K 0, 601, .inl (nA st))), (b1, .inl (K 0, 512, .inl (nA ch))), (b2, .inl (K 1, 512, .inr (.inl ct))), (g0, .inr (0, [.ref g1, .int (nI 0)])), (g1, .inl (K 0, 512, .inl (nA g)))] H → va_D A [(s0, .inr (4, [.ref t0, .ref a1, .ref a2, .ref a3, .int (nI cm)])), (t0, .inr (5, [.ref b1, .ref b2, .int (nI T)])), (a1, .inl (K 0, 600, .inl (nA sa))), (a2, .inl (K 0, 601, .inl (nA st))), (b1, .inl (K 0, 512, .inl (nA ch))), (b2, .inl (K 1, 512, .inr (.inl ct))), (g0, .inr (0, [.ref g1, .int (nI 0)])), (g1, .inl (K 0, 512, .inl (nA g)))] → va_S A s.heap H locs → ∀ ls : Array Slot, lv_has ls 9 [(0, .ref s0), (1, .int fs), (2, .long tm), (5, .ref g0)] → W p l e ({ frames := 2, cells := 0, slots := 0, locals := 50 } : Room) s m ([.ref s0, .int fs, .long tm, .int (nI nb), .ref g0] : List Value).toArray below meth c H locs 0 0 (MQ below (va_Qv (q_Sh_gather K s0 t0 a1 a2 a3 cm b1 b2 T sa st ch ct fs tm nb g0 g1 g S) (fun u t => va_P D classes u t.heap ∧ va_D A u) A) ([.ref s0, .int fs, .long tm, .int (nI nb), .ref g0] : List Value).toArray s 0 0 A) (F0 m 21 ls [.long (mkL nb)]) := by
    intro  H locs hP hD hS ls hl
    refine lv_lstore (lv' := [(6, .long (mkL nb)), (0, .ref s0), (1, .int fs), (2, .long tm), (5, .ref g0)]) hx hb d_Sh_gather_21 hl (by decide) rfl (fun ls hl => ?_)
    refine lv_iconst (v := nI 0) hx hb d_Sh_gather_23 (by decide) ?_
    refine lv_istore (lv' := [(8, .int (nI 0)), (6, .long (mkL nb)), (0, .ref s0), (1, .int fs), (2, .long tm), (5, .ref g0)]) hx hb d_Sh_gather_24 hl (by decide) rfl (fun ls hl => ?_)
    exact lp_Sh_gather_26 (l := l) s0 t0 a1 a2 a3 cm b1 b2 T sa st ch ct fs tm nb g0 g1 g S hcm hT hmo hch hnb hs4 h0 h12 hTc hSel hF2 hA _ 0 0 g (by first | assumption | omega) (by rw [h0]; exact st_gt_0) (Nat.lt_succ_self _) _ _ hP hD hS _ (lv_sub hl [2, 3, 4, 5, 1, 0] rfl)
  have hS : va_S A s.heap s.heap [] := va_S.rf
  have hl : lv_has ls 9 [(0, .ref s0), (1, .int fs), (2, .long tm), (4, .int (nI nb)), (5, .ref g0)] := hl
  refine lv_iload hx hb d_Sh_gather_0 (lv_at hl 3 rfl) ?_
  refine xz_gt (tgt := 9) (a := nb) hx hb (by omega) d_Sh_gather_2 (by decide) (fun c_2 => ?_) (fun c_2 => ?_)
  · refine lv_ldc2 (v := -1) hx hb hown (htw _ cn_Sh_60 _) d_Sh_gather_9 ?_
    refine lv_bipush (v := nI 64) hx hb d_Sh_gather_12 (by decide) ?_
    refine lv_bipush (v := nI 8) hx hb d_Sh_gather_14 (by decide) ?_
    refine lv_iload hx hb d_Sh_gather_16 (lv_at hl 3 rfl) ?_
    refine lv_imul hx hb d_Sh_gather_18 ?_
    refine xi (nI_mul 8 nb) ?_
    refine lv_isub hx hb d_Sh_gather_19 ?_
    refine xi (nI_sub (a := 64) (b := 8 * nb) (by omega)) ?_
    refine lv_lshl hx hb d_Sh_gather_20 rfl ?_
    refine xl (y := mkL nb) ((if_neg (show ¬ nb = 0 by omega)).symm) ?_
    exact jn_21   _ _ hP hD hS _ (lv_sub hl [0, 1, 2, 4] rfl)
  · refine lv_lconst (v := 0) hx hb d_Sh_gather_5 (by decide) ?_
    refine xl (y := mkL nb) ((if_pos c_2).symm) ?_
    refine lv_goto (tgt := 21) hx hb d_Sh_gather_6 (by decide) ?_
    exact jn_21   _ _ hP hD hS _ (lv_sub hl [0, 1, 2, 4] rfl)


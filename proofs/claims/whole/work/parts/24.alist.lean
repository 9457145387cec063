abbrev q_AL_size (K : Nat → ClassId) (l0 : Nat) (mc : Int32) (l1 : Nat) (sg : Nat) : Int32 → va_W → Prop := fun r u => u = [(l0, .inr (7, [.int mc, .ref l1, .int (nI sg)]))] ∧ r = nI sg
set_option maxHeartbeats 4000000 in
set_option maxRecDepth 100000 in
theorem c_AL_size (l : Launch) (D : va_G) (K : Nat → ClassId) (l0 : Nat) (mc : Int32) (l1 : Nat) (sg : Nat)  : CI l y_AL_size b_AL_size 1 .int ({ frames := 0, cells := 0, slots := 0, locals := 0 } : Room) D K [.ref l0] [(l0, .inr (7, [.int mc, .ref l1, .int (nI sg)]))] (q_AL_size K l0 mc l1 sg) := by
  refine CI_of (by decide) (Nat.le_of_ble_eq_true rfl) ?_
  intro p e s m below meth c A b0 ls hF hA hP hD hl
  have hF2 := hF
  obtain ⟨hx, hb, hr, hml, hown, htw, hK, hlocks, hname⟩ := hF
  have hS : va_S A s.heap s.heap [] := va_S.rf
  have hl : lv_has ls 1 [(0, .ref l0)] := hl
  refine lv_aload_n hx hb d_AL_size_0 rfl (lv_at hl 0 rfl) ?_
  refine xg hx hb hown htw hK hP 0 2 rfl k_AL (by decide) fl_AL_48 rfl d_AL_size_1 ?_
  exact xr_iret hx hb hr hlocks hP hD hS (Nat.le_of_ble_eq_true rfl) (Nat.le_of_ble_eq_true rfl) (⟨rfl, rfl⟩) d_AL_size_4

abbrev q_Pre_checkIndex (K : Nat → ClassId) (i : Nat) (n : Nat) : Int32 → va_W → Prop := fun r u => u = [] ∧ r = nI i
set_option maxHeartbeats 4000000 in
set_option maxRecDepth 100000 in
theorem c_Pre_checkIndex (l : Launch) (D : va_G) (K : Nat → ClassId) (i : Nat) (n : Nat) (hi : i < n) (hn : n < 2 ^ 31) : CI l y_Pre_checkIndex b_Pre_checkIndex 3 .int ({ frames := 0, cells := 0, slots := 0, locals := 0 } : Room) D K [.int (nI i), .int (nI n), .null] [] (q_Pre_checkIndex K i n) := by
  refine CI_of (by decide) (Nat.le_of_ble_eq_true rfl) ?_
  intro p e s m below meth c A b0 ls hF hA hP hD hl
  have hF2 := hF
  obtain ⟨hx, hb, hr, hml, hown, htw, hK, hlocks, hname⟩ := hF
  have hS : va_S A s.heap s.heap [] := va_S.rf
  have hl : lv_has ls 3 [(0, .int (nI i)), (1, .int (nI n)), (2, .null)] := hl
  refine lv_iload_n hx hb d_Pre_checkIndex_0 rfl (lv_at hl 0 rfl) ?_
  refine xz_lt (a := i) hx hb (by omega) d_Pre_checkIndex_1 9 (by decide) ?_
  refine lv_iload_n hx hb d_Pre_checkIndex_4 rfl (lv_at hl 0 rfl) ?_
  refine lv_iload_n hx hb d_Pre_checkIndex_5 rfl (lv_at hl 1 rfl) ?_
  refine xc_lt (tgt := 16) (a := i) (b := n) hx hb (by omega) (by omega) d_Pre_checkIndex_6 (by decide) (fun c_6 => ?_) (fun c_6 => ?_)
  · refine lv_iload_n hx hb d_Pre_checkIndex_16 rfl (lv_at hl 0 rfl) ?_
    exact xr_iret hx hb hr hlocks hP hD hS (Nat.le_of_ble_eq_true rfl) (Nat.le_of_ble_eq_true rfl) (⟨rfl, rfl⟩) d_Pre_checkIndex_17
  · omega

abbrev q_Os_checkIndex (K : Nat → ClassId) (i : Nat) (n : Nat) : Int32 → va_W → Prop := fun r u => u = [] ∧ r = nI i
set_option maxHeartbeats 4000000 in
set_option maxRecDepth 100000 in
theorem c_Os_checkIndex (l : Launch) (D : va_G) (K : Nat → ClassId) (i : Nat) (n : Nat) (hi : i < n) (hn : n < 2 ^ 31) : CI l y_Os_checkIndex b_Os_checkIndex 2 .int ({ frames := 1, cells := 0, slots := 0, locals := 22 } : Room) D K [.int (nI i), .int (nI n)] [] (q_Os_checkIndex K i n) := by
  refine CI_of (by decide) (Nat.le_of_ble_eq_true rfl) ?_
  intro p e s m below meth c A b0 ls hF hA hP hD hl
  have hF2 := hF
  obtain ⟨hx, hb, hr, hml, hown, htw, hK, hlocks, hname⟩ := hF
  have hS : va_S A s.heap s.heap [] := va_S.rf
  have hl : lv_has ls 2 [(0, .int (nI i)), (1, .int (nI n))] := hl
  refine lv_iload_n hx hb d_Os_checkIndex_0 rfl (lv_at hl 0 rfl) ?_
  refine lv_iload_n hx hb d_Os_checkIndex_1 rfl (lv_at hl 1 rfl) ?_
  refine lv_null hx hb d_Os_checkIndex_2 ?_
  refine xcS_i (As := [.int (nI i), .int (nI n), .null]) (rest := []) (wr := []) hx hb hml hown htw hK hA hl.1 hP hD hS (c_Pre_checkIndex l D K i n (by first | assumption | omega) (by first | assumption | omega)) [] [] rfl rfl (by decide) (by decide) (by decide) ml_Os_105 w_Pre_checkIndex rfl ⟨by decide, by decide⟩ rfl (Nat.le_of_ble_eq_true rfl) ⟨by decide, by decide⟩ d_Os_checkIndex_3 (fun r u H locs hpost hP hD hS => ?_)
  obtain ⟨rfl, rfl⟩ := hpost
  have hP : va_P D classes [] H := hP
  have hD : va_D A [] := hD
  exact xr_iret hx hb hr hlocks hP hD hS (Nat.le_of_ble_eq_true rfl) (Nat.le_of_ble_eq_true rfl) (⟨rfl, rfl⟩) d_Os_checkIndex_6

abbrev q_AL_elementData (K : Nat → ClassId) (l0 : Nat) (mc : Int32) (l1 : Nat) (sg : Nat) (ne : Nat) (ef : Nat → Option Nat) (i : Nat) (v : Nat) : Nat → va_W → Prop := fun r u => u = [(l0, .inr (7, [.int mc, .ref l1, .int (nI sg)])), (l1, .inl (K 4, ne, .inr (.inr (.inr (.inr ef)))))] ∧ r = v
set_option maxHeartbeats 4000000 in
set_option maxRecDepth 100000 in
theorem c_AL_elementData (l : Launch) (D : va_G) (K : Nat → ClassId) (l0 : Nat) (mc : Int32) (l1 : Nat) (sg : Nat) (ne : Nat) (ef : Nat → Option Nat) (i : Nat) (v : Nat) (hne : ne < 2 ^ 20) (hi : i < ne) (hv : ef i = some v) : CR l y_AL_elementData b_AL_elementData 2 (.object "java/lang/Object") ({ frames := 0, cells := 0, slots := 0, locals := 0 } : Room) D K [.ref l0, .int (nI i)] [(l0, .inr (7, [.int mc, .ref l1, .int (nI sg)])), (l1, .inl (K 4, ne, .inr (.inr (.inr (.inr ef)))))] (q_AL_elementData K l0 mc l1 sg ne ef i v) := by
  refine CR_of (by decide) (Nat.le_of_ble_eq_true rfl) ?_
  intro p e s m below meth c A b0 ls hF hA hP hD hl
  have hF2 := hF
  obtain ⟨hx, hb, hr, hml, hown, htw, hK, hlocks, hname⟩ := hF
  have hS : va_S A s.heap s.heap [] := va_S.rf
  have hl : lv_has ls 2 [(0, .ref l0), (1, .int (nI i))] := hl
  refine lv_aload_n hx hb d_AL_elementData_0 rfl (lv_at hl 0 rfl) ?_
  refine xg hx hb hown htw hK hP 0 1 rfl k_AL (by decide) fl_AL_9 rfl d_AL_elementData_1 ?_
  refine lv_iload_n hx hb d_AL_elementData_4 rfl (lv_at hl 1 rfl) ?_
  refine xald_q (t0 := 4) hx hb hK hP 1 rfl rfl (by omega) (by omega) (hv) d_AL_elementData_5 ?_
  exact xr_aret (by first | exact Or.inl ⟨_, rfl⟩ | exact Or.inr ⟨_, rfl⟩) hx hb hr hlocks hP hD hS (Nat.le_of_ble_eq_true rfl) (Nat.le_of_ble_eq_true rfl) (⟨rfl, rfl⟩) d_AL_elementData_6

abbrev q_AL_get (K : Nat → ClassId) (l0 : Nat) (mc : Int32) (l1 : Nat) (sg : Nat) (ne : Nat) (ef : Nat → Option Nat) (i : Nat) (v : Nat) : Nat → va_W → Prop := fun r u => u = [(l0, .inr (7, [.int mc, .ref l1, .int (nI sg)])), (l1, .inl (K 4, ne, .inr (.inr (.inr (.inr ef)))))] ∧ r = v
set_option maxHeartbeats 4000000 in
set_option maxRecDepth 100000 in
theorem c_AL_get (l : Launch) (D : va_G) (K : Nat → ClassId) (l0 : Nat) (mc : Int32) (l1 : Nat) (sg : Nat) (ne : Nat) (ef : Nat → Option Nat) (i : Nat) (v : Nat) (hne : ne < 2 ^ 20) (hi : i < sg) (hs : sg ≤ ne) (hv : ef i = some v) : CR l y_AL_get b_AL_get 2 (.object "java/lang/Object") ({ frames := 2, cells := 0, slots := 0, locals := 43 } : Room) D K [.ref l0, .int (nI i)] [(l0, .inr (7, [.int mc, .ref l1, .int (nI sg)])), (l1, .inl (K 4, ne, .inr (.inr (.inr (.inr ef)))))] (q_AL_get K l0 mc l1 sg ne ef i v) := by
  refine CR_of (by decide) (Nat.le_of_ble_eq_true rfl) ?_
  intro p e s m below meth c A b0 ls hF hA hP hD hl
  have hF2 := hF
  obtain ⟨hx, hb, hr, hml, hown, htw, hK, hlocks, hname⟩ := hF
  have hS : va_S A s.heap s.heap [] := va_S.rf
  have hl : lv_has ls 2 [(0, .ref l0), (1, .int (nI i))] := hl
  refine lv_iload_n hx hb d_AL_get_0 rfl (lv_at hl 1 rfl) ?_
  refine lv_aload_n hx hb d_AL_get_1 rfl (lv_at hl 0 rfl) ?_
  refine xg hx hb hown htw hK hP 0 2 rfl k_AL (by decide) fl_AL_48 rfl d_AL_get_2 ?_
  refine xcS_i (As := [.int (nI i), .int (nI sg)]) (rest := []) (wr := [(l0, .inr (7, [.int mc, .ref l1, .int (nI sg)])), (l1, .inl (K 4, ne, .inr (.inr (.inr (.inr ef)))))]) hx hb hml hown htw hK hA hl.1 hP hD hS (c_Os_checkIndex l D K i sg (by first | assumption | omega) (by first | assumption | omega)) [] [0, 1] rfl rfl (by decide) (by decide) (by decide) ml_AL_118 w_Os_checkIndex rfl ⟨by decide, by decide⟩ rfl (Nat.le_of_ble_eq_true rfl) ⟨by decide, by decide⟩ d_AL_get_5 (fun r u H locs hpost hP hD hS => ?_)
  obtain ⟨rfl, rfl⟩ := hpost
  have hP : va_P D classes [(l0, .inr (7, [.int mc, .ref l1, .int (nI sg)])), (l1, .inl (K 4, ne, .inr (.inr (.inr (.inr ef)))))] H := hP
  have hD : va_D A [(l0, .inr (7, [.int mc, .ref l1, .int (nI sg)])), (l1, .inl (K 4, ne, .inr (.inr (.inr (.inr ef)))))] := hD
  refine lv_pop hx hb d_AL_get_8 rfl ?_
  refine lv_aload_n hx hb d_AL_get_9 rfl (lv_at hl 0 rfl) ?_
  refine lv_iload_n hx hb d_AL_get_10 rfl (lv_at hl 1 rfl) ?_
  refine xcV_r (As := [.int (nI i)]) (rest := []) (wr := []) hx hb hml hown htw hK hA hl.1 hP hD hS (c_AL_elementData l D K l0 mc l1 sg ne ef i v (by first | assumption | omega) (by first | assumption | omega) (by first | assumption | omega)) [0, 1] [] rfl rfl (by decide) (by decide) (by decide) 0 rfl k_AL ml_AL_123 w_AL_elementData rfl ⟨by decide, by decide⟩ rfl (Nat.le_of_ble_eq_true rfl) ⟨by decide, by decide⟩ d_AL_get_11 (fun r_11 u H locs hpost hP hD hS => ?_)
  obtain ⟨rfl, hr_11⟩ := hpost
  replace hr_11 := hr_11.symm
  subst hr_11
  have hP : va_P D classes [(l0, .inr (7, [.int mc, .ref l1, .int (nI sg)])), (l1, .inl (K 4, ne, .inr (.inr (.inr (.inr ef)))))] H := hP
  have hD : va_D A [(l0, .inr (7, [.int mc, .ref l1, .int (nI sg)])), (l1, .inl (K 4, ne, .inr (.inr (.inr (.inr ef)))))] := hD
  exact xr_aret (by first | exact Or.inl ⟨_, rfl⟩ | exact Or.inr ⟨_, rfl⟩) hx hb hr hlocks hP hD hS (Nat.le_of_ble_eq_true rfl) (Nat.le_of_ble_eq_true rfl) (⟨rfl, rfl⟩) d_AL_get_14

abbrev q_AL_add_LObjectaLObjectIV (K : Nat → ClassId) (l0 : Nat) (mc : Int32) (l1 : Nat) (sg : Nat) (ne : Nat) (ef : Nat → Option Nat) (q0 : Nat) (u1 : Nat) (u2 : Nat) (u3 : Nat) (u4 : Nat) (u5 : Nat) : va_W → Prop := fun u => u = [(l0, .inr (7, [.int mc, .ref l1, .int (nI (sg + 1))])), (l1, .inl (K 4, ne, .inr (.inr (.inr (.inr (va_up ef sg (some q0))))))), (q0, .inr (3, [.int (nI u1), .int (nI u2), .int (nI u3), .int (nI u4), .int (nI u5)]))]
set_option maxHeartbeats 4000000 in
set_option maxRecDepth 100000 in
theorem c_AL_add_LObjectaLObjectIV (l : Launch) (D : va_G) (K : Nat → ClassId) (l0 : Nat) (mc : Int32) (l1 : Nat) (sg : Nat) (ne : Nat) (ef : Nat → Option Nat) (q0 : Nat) (u1 : Nat) (u2 : Nat) (u3 : Nat) (u4 : Nat) (u5 : Nat) (hne : ne < 2 ^ 20) (hi : sg < ne) : CV l y_AL_add_LObjectaLObjectIV b_AL_add_LObjectaLObjectIV 4 ({ frames := 0, cells := 0, slots := 0, locals := 0 } : Room) D K [.ref l0, .ref q0, .ref l1, .int (nI sg)] [(l0, .inr (7, [.int mc, .ref l1, .int (nI sg)])), (l1, .inl (K 4, ne, .inr (.inr (.inr (.inr ef))))), (q0, .inr (3, [.int (nI u1), .int (nI u2), .int (nI u3), .int (nI u4), .int (nI u5)]))] (q_AL_add_LObjectaLObjectIV K l0 mc l1 sg ne ef q0 u1 u2 u3 u4 u5) := by
  refine CV_of (by decide) (Nat.le_of_ble_eq_true rfl) ?_
  intro p e s m below meth c A b0 ls hF hA hP hD hl
  have hF2 := hF
  obtain ⟨hx, hb, hr, hml, hown, htw, hK, hlocks, hname⟩ := hF
  have hS : va_S A s.heap s.heap [] := va_S.rf
  have hl : lv_has ls 4 [(0, .ref l0), (1, .ref q0), (2, .ref l1), (3, .int (nI sg))] := hl
  refine lv_iload_n hx hb d_AL_add_LObjectaLObjectIV_0 rfl (lv_at hl 3 rfl) ?_
  refine lv_aload_n hx hb d_AL_add_LObjectaLObjectIV_1 rfl (lv_at hl 2 rfl) ?_
  refine xalen (t0 := 4) (n := ne) hx hb hK hP 1 rfl rfl rfl d_AL_add_LObjectaLObjectIV_2 ?_
  refine xc_ne (tgt := 11) (a := sg) (b := ne) hx hb (by omega) (by omega) d_AL_add_LObjectaLObjectIV_3 (by decide) (fun c_3 => ?_) (fun c_3 => ?_)
  · refine lv_aload_n hx hb d_AL_add_LObjectaLObjectIV_11 rfl (lv_at hl 2 rfl) ?_
    refine lv_iload_n hx hb d_AL_add_LObjectaLObjectIV_12 rfl (lv_at hl 3 rfl) ?_
    refine lv_aload_n hx hb d_AL_add_LObjectaLObjectIV_13 rfl (lv_at hl 1 rfl) ?_
    refine xast_o (t0 := 4) (qk := 2) hx hb htw hK hP hD hS 1 rfl rfl w_casSg rfl k_Sg (by omega) (by omega) d_AL_add_LObjectaLObjectIV_14 (fun H locs hP hD hS => ?_)
    have hP : va_P D classes [(l0, .inr (7, [.int mc, .ref l1, .int (nI sg)])), (l1, .inl (K 4, ne, .inr (.inr (.inr (.inr (va_up ef sg (some q0))))))), (q0, .inr (3, [.int (nI u1), .int (nI u2), .int (nI u3), .int (nI u4), .int (nI u5)]))] H := hP
    have hD : va_D A [(l0, .inr (7, [.int mc, .ref l1, .int (nI sg)])), (l1, .inl (K 4, ne, .inr (.inr (.inr (.inr (va_up ef sg (some q0))))))), (q0, .inr (3, [.int (nI u1), .int (nI u2), .int (nI u3), .int (nI u4), .int (nI u5)]))] := hD
    refine lv_aload_n hx hb d_AL_add_LObjectaLObjectIV_15 rfl (lv_at hl 0 rfl) ?_
    refine lv_iload_n hx hb d_AL_add_LObjectaLObjectIV_16 rfl (lv_at hl 3 rfl) ?_
    refine lv_iconst (v := nI 1) hx hb d_AL_add_LObjectaLObjectIV_17 (by decide) ?_
    refine lv_iadd hx hb d_AL_add_LObjectaLObjectIV_18 ?_
    refine xi (nI_add sg 1) ?_
    refine xpt hx hb hown htw hK hP hD hS 0 2 rfl k_AL (by decide) fl_AL_48 rfl rfl rfl (Nat.le_of_ble_eq_true rfl) d_AL_add_LObjectaLObjectIV_19 (fun H locs hP hD hS => ?_)
    have hP : va_P D classes [(l0, .inr (7, [.int mc, .ref l1, .int (nI (sg + 1))])), (l1, .inl (K 4, ne, .inr (.inr (.inr (.inr (va_up ef sg (some q0))))))), (q0, .inr (3, [.int (nI u1), .int (nI u2), .int (nI u3), .int (nI u4), .int (nI u5)]))] H := hP
    have hD : va_D A [(l0, .inr (7, [.int mc, .ref l1, .int (nI (sg + 1))])), (l1, .inl (K 4, ne, .inr (.inr (.inr (.inr (va_up ef sg (some q0))))))), (q0, .inr (3, [.int (nI u1), .int (nI u2), .int (nI u3), .int (nI u4), .int (nI u5)]))] := hD
    exact xr_vret hx hb hr hlocks hP hD hS (Nat.le_of_ble_eq_true rfl) (Nat.le_of_ble_eq_true rfl) (rfl) d_AL_add_LObjectaLObjectIV_22
  · omega

abbrev q_AL_add_LObjectZ (K : Nat → ClassId) (l0 : Nat) (mc : Int32) (l1 : Nat) (sg : Nat) (ne : Nat) (ef : Nat → Option Nat) (q0 : Nat) (u1 : Nat) (u2 : Nat) (u3 : Nat) (u4 : Nat) (u5 : Nat) : Int32 → va_W → Prop := fun r u => u = [(l0, .inr (7, [.int (mc + nI 1), .ref l1, .int (nI (sg + 1))])), (l1, .inl (K 4, ne, .inr (.inr (.inr (.inr (va_up ef sg (some q0))))))), (q0, .inr (3, [.int (nI u1), .int (nI u2), .int (nI u3), .int (nI u4), .int (nI u5)]))] ∧ r = nI 1
set_option maxHeartbeats 4000000 in
set_option maxRecDepth 100000 in
theorem c_AL_add_LObjectZ (l : Launch) (D : va_G) (K : Nat → ClassId) (l0 : Nat) (mc : Int32) (l1 : Nat) (sg : Nat) (ne : Nat) (ef : Nat → Option Nat) (q0 : Nat) (u1 : Nat) (u2 : Nat) (u3 : Nat) (u4 : Nat) (u5 : Nat) (hne : ne < 2 ^ 20) (hi : sg < ne) : CI l y_AL_add_LObjectZ b_AL_add_LObjectZ 2 .boolean ({ frames := 1, cells := 0, slots := 0, locals := 23 } : Room) D K [.ref l0, .ref q0] [(l0, .inr (7, [.int mc, .ref l1, .int (nI sg)])), (l1, .inl (K 4, ne, .inr (.inr (.inr (.inr ef))))), (q0, .inr (3, [.int (nI u1), .int (nI u2), .int (nI u3), .int (nI u4), .int (nI u5)]))] (q_AL_add_LObjectZ K l0 mc l1 sg ne ef q0 u1 u2 u3 u4 u5) := by
  refine CI_of (by decide) (Nat.le_of_ble_eq_true rfl) ?_
  intro p e s m below meth c A b0 ls hF hA hP hD hl
  have hF2 := hF
  obtain ⟨hx, hb, hr, hml, hown, htw, hK, hlocks, hname⟩ := hF
  have hS : va_S A s.heap s.heap [] := va_S.rf
  have hl : lv_has ls 2 [(0, .ref l0), (1, .ref q0)] := hl
  refine lv_aload_n hx hb d_AL_add_LObjectZ_0 rfl (lv_at hl 0 rfl) ?_
  refine lv_dup hx hb d_AL_add_LObjectZ_1 rfl ?_
  refine xgS hx hb hown htw hK hP 0 0 rfl k_AL (by decide) fl_AL_63 w_sfMC rfl d_AL_add_LObjectZ_2 ?_
  refine lv_iconst (v := nI 1) hx hb d_AL_add_LObjectZ_5 (by decide) ?_
  refine lv_iadd hx hb d_AL_add_LObjectZ_6 ?_
  refine xptS hx hb hown htw hK hP hD hS 0 0 rfl k_AL (by decide) fl_AL_63 w_sfMC rfl rfl rfl (Nat.le_of_ble_eq_true rfl) d_AL_add_LObjectZ_7 (fun H locs hP hD hS => ?_)
  have hP : va_P D classes [(l0, .inr (7, [.int (mc + (nI 1)), .ref l1, .int (nI sg)])), (l1, .inl (K 4, ne, .inr (.inr (.inr (.inr ef))))), (q0, .inr (3, [.int (nI u1), .int (nI u2), .int (nI u3), .int (nI u4), .int (nI u5)]))] H := hP
  have hD : va_D A [(l0, .inr (7, [.int (mc + (nI 1)), .ref l1, .int (nI sg)])), (l1, .inl (K 4, ne, .inr (.inr (.inr (.inr ef))))), (q0, .inr (3, [.int (nI u1), .int (nI u2), .int (nI u3), .int (nI u4), .int (nI u5)]))] := hD
  refine lv_aload_n hx hb d_AL_add_LObjectZ_10 rfl (lv_at hl 0 rfl) ?_
  refine lv_aload_n hx hb d_AL_add_LObjectZ_11 rfl (lv_at hl 1 rfl) ?_
  refine lv_aload_n hx hb d_AL_add_LObjectZ_12 rfl (lv_at hl 0 rfl) ?_
  refine xg hx hb hown htw hK hP 0 1 rfl k_AL (by decide) fl_AL_9 rfl d_AL_add_LObjectZ_13 ?_
  refine lv_aload_n hx hb d_AL_add_LObjectZ_16 rfl (lv_at hl 0 rfl) ?_
  refine xg hx hb hown htw hK hP 0 2 rfl k_AL (by decide) fl_AL_48 rfl d_AL_add_LObjectZ_17 ?_
  refine xcV_v (As := [.ref q0, .ref l1, .int (nI sg)]) (rest := []) (wr := []) hx hb hml hown htw hK hA hl.1 hP hD hS (c_AL_add_LObjectaLObjectIV l D K l0 (mc + (nI 1)) l1 sg ne ef q0 u1 u2 u3 u4 u5 (by first | assumption | omega) (by first | assumption | omega)) [0, 1, 2] [] rfl rfl (by decide) (by decide) (by decide) 0 rfl k_AL ml_AL_131 w_AL_add_LObjectaLObjectIV rfl ⟨by decide, by decide⟩ rfl (Nat.le_of_ble_eq_true rfl) ⟨by decide, by decide⟩ d_AL_add_LObjectZ_20 (fun u H locs hpost hP hD hS => ?_)
  subst hpost
  have hP : va_P D classes [(l0, .inr (7, [.int (mc + (nI 1)), .ref l1, .int (nI (sg + 1))])), (l1, .inl (K 4, ne, .inr (.inr (.inr (.inr (va_up ef sg (some q0))))))), (q0, .inr (3, [.int (nI u1), .int (nI u2), .int (nI u3), .int (nI u4), .int (nI u5)]))] H := hP
  have hD : va_D A [(l0, .inr (7, [.int (mc + (nI 1)), .ref l1, .int (nI (sg + 1))])), (l1, .inl (K 4, ne, .inr (.inr (.inr (.inr (va_up ef sg (some q0))))))), (q0, .inr (3, [.int (nI u1), .int (nI u2), .int (nI u3), .int (nI u4), .int (nI u5)]))] := hD
  refine lv_iconst (v := nI 1) hx hb d_AL_add_LObjectZ_23 (by decide) ?_
  exact xr_zret (by first | exact Or.inl rfl | exact Or.inr rfl | exact bN_v _) hx hb hr hlocks hP hD hS (Nat.le_of_ble_eq_true rfl) (Nat.le_of_ble_eq_true rfl) (⟨rfl, rfl⟩) d_AL_add_LObjectZ_24

abbrev q_AL_fastRemove (K : Nat → ClassId) (l0 : Nat) (mc : Int32) (l1 : Nat) (sg : Nat) (ne : Nat) (ef : Nat → Option Nat) (i : Nat) : va_W → Prop := fun u => u = [(l0, .inr (7, [.int (mc + nI 1), .ref l1, .int (nI (sg - 1))])), (l1, .inl (K 4, ne, .inr (.inr (.inr (.inr (va_up ef (sg - 1) none))))))]
set_option maxHeartbeats 4000000 in
set_option maxRecDepth 100000 in
theorem c_AL_fastRemove (l : Launch) (D : va_G) (K : Nat → ClassId) (l0 : Nat) (mc : Int32) (l1 : Nat) (sg : Nat) (ne : Nat) (ef : Nat → Option Nat) (i : Nat) (hne : ne < 2 ^ 20) (hi : i + 1 = sg) (hs : sg ≤ ne) : CV l y_AL_fastRemove b_AL_fastRemove 4 ({ frames := 0, cells := 0, slots := 0, locals := 0 } : Room) D K [.ref l0, .ref l1, .int (nI i)] [(l0, .inr (7, [.int mc, .ref l1, .int (nI sg)])), (l1, .inl (K 4, ne, .inr (.inr (.inr (.inr ef)))))] (q_AL_fastRemove K l0 mc l1 sg ne ef i) := by
  refine CV_of (by decide) (Nat.le_of_ble_eq_true rfl) ?_
  intro p e s m below meth c A b0 ls hF hA hP hD hl
  have hF2 := hF
  obtain ⟨hx, hb, hr, hml, hown, htw, hK, hlocks, hname⟩ := hF
  have hS : va_S A s.heap s.heap [] := va_S.rf
  have hl : lv_has ls 4 [(0, .ref l0), (1, .ref l1), (2, .int (nI i))] := hl
  refine lv_aload_n hx hb d_AL_fastRemove_0 rfl (lv_at hl 0 rfl) ?_
  refine lv_dup hx hb d_AL_fastRemove_1 rfl ?_
  refine xgS hx hb hown htw hK hP 0 0 rfl k_AL (by decide) fl_AL_63 w_sfMC rfl d_AL_fastRemove_2 ?_
  refine lv_iconst (v := nI 1) hx hb d_AL_fastRemove_5 (by decide) ?_
  refine lv_iadd hx hb d_AL_fastRemove_6 ?_
  refine xptS hx hb hown htw hK hP hD hS 0 0 rfl k_AL (by decide) fl_AL_63 w_sfMC rfl rfl rfl (Nat.le_of_ble_eq_true rfl) d_AL_fastRemove_7 (fun H locs hP hD hS => ?_)
  have hP : va_P D classes [(l0, .inr (7, [.int (mc + (nI 1)), .ref l1, .int (nI sg)])), (l1, .inl (K 4, ne, .inr (.inr (.inr (.inr ef)))))] H := hP
  have hD : va_D A [(l0, .inr (7, [.int (mc + (nI 1)), .ref l1, .int (nI sg)])), (l1, .inl (K 4, ne, .inr (.inr (.inr (.inr ef)))))] := hD
  refine lv_aload_n hx hb d_AL_fastRemove_10 rfl (lv_at hl 0 rfl) ?_
  refine xg hx hb hown htw hK hP 0 2 rfl k_AL (by decide) fl_AL_48 rfl d_AL_fastRemove_11 ?_
  refine lv_iconst (v := nI 1) hx hb d_AL_fastRemove_14 (by decide) ?_
  refine lv_isub hx hb d_AL_fastRemove_15 ?_
  refine xi (nI_sub (a := sg) (b := 1) (by omega)) ?_
  refine lv_dup hx hb d_AL_fastRemove_16 rfl ?_
  refine lv_istore_n (lv' := [(3, .int (nI (sg - 1))), (0, .ref l0), (1, .ref l1), (2, .int (nI i))]) hx hb d_AL_fastRemove_17 rfl hl (by decide) rfl (fun ls hl => ?_)
  refine lv_iload_n hx hb d_AL_fastRemove_18 rfl (lv_at hl 3 rfl) ?_
  refine xc_le (tgt := 34) (a := sg - 1) (b := i) hx hb (by omega) (by omega) d_AL_fastRemove_19 (by decide) (fun c_19 => ?_) (fun c_19 => ?_)
  · refine lv_aload_n hx hb d_AL_fastRemove_34 rfl (lv_at hl 2 rfl) ?_
    refine lv_aload_n hx hb d_AL_fastRemove_35 rfl (lv_at hl 1 rfl) ?_
    refine lv_iload_n hx hb d_AL_fastRemove_36 rfl (lv_at hl 0 rfl) ?_
    refine lv_dup_x1 hx hb d_AL_fastRemove_37 rfl rfl ?_
    refine xpt hx hb hown htw hK hP hD hS 0 2 rfl k_AL (by decide) fl_AL_48 rfl rfl rfl (Nat.le_of_ble_eq_true rfl) d_AL_fastRemove_38 (fun H locs hP hD hS => ?_)
    have hP : va_P D classes [(l0, .inr (7, [.int (mc + (nI 1)), .ref l1, .int (nI (sg - 1))])), (l1, .inl (K 4, ne, .inr (.inr (.inr (.inr ef)))))] H := hP
    have hD : va_D A [(l0, .inr (7, [.int (mc + (nI 1)), .ref l1, .int (nI (sg - 1))])), (l1, .inl (K 4, ne, .inr (.inr (.inr (.inr ef)))))] := hD
    refine lv_null hx hb d_AL_fastRemove_41 ?_
    refine xast_n (t0 := 4) hx hb hK hP hD hS 1 rfl rfl (by omega) (by omega) d_AL_fastRemove_42 (fun H locs hP hD hS => ?_)
    have hP : va_P D classes [(l0, .inr (7, [.int (mc + (nI 1)), .ref l1, .int (nI (sg - 1))])), (l1, .inl (K 4, ne, .inr (.inr (.inr (.inr (va_up ef (sg - 1) none))))))] H := hP
    have hD : va_D A [(l0, .inr (7, [.int (mc + (nI 1)), .ref l1, .int (nI (sg - 1))])), (l1, .inl (K 4, ne, .inr (.inr (.inr (.inr (va_up ef (sg - 1) none))))))] := hD
    exact xr_vret hx hb hr hlocks hP hD hS (Nat.le_of_ble_eq_true rfl) (Nat.le_of_ble_eq_true rfl) (rfl) d_AL_fastRemove_43
  · omega

abbrev q_AL_remove (K : Nat → ClassId) (l0 : Nat) (mc : Int32) (l1 : Nat) (sg : Nat) (ne : Nat) (ef : Nat → Option Nat) (i : Nat) (v : Nat) : Nat → va_W → Prop := fun r u => u = [(l0, .inr (7, [.int (mc + nI 1), .ref l1, .int (nI (sg - 1))])), (l1, .inl (K 4, ne, .inr (.inr (.inr (.inr (va_up ef (sg - 1) none))))))] ∧ r = v
set_option maxHeartbeats 4000000 in
set_option maxRecDepth 100000 in
theorem c_AL_remove (l : Launch) (D : va_G) (K : Nat → ClassId) (l0 : Nat) (mc : Int32) (l1 : Nat) (sg : Nat) (ne : Nat) (ef : Nat → Option Nat) (i : Nat) (v : Nat) (hne : ne < 2 ^ 20) (hi : i + 1 = sg) (hs : sg ≤ ne) (hv : ef i = some v) : CR l y_AL_remove b_AL_remove 4 (.object "java/lang/Object") ({ frames := 2, cells := 0, slots := 0, locals := 45 } : Room) D K [.ref l0, .int (nI i)] [(l0, .inr (7, [.int mc, .ref l1, .int (nI sg)])), (l1, .inl (K 4, ne, .inr (.inr (.inr (.inr ef)))))] (q_AL_remove K l0 mc l1 sg ne ef i v) := by
  refine CR_of (by decide) (Nat.le_of_ble_eq_true rfl) ?_
  intro p e s m below meth c A b0 ls hF hA hP hD hl
  have hF2 := hF
  obtain ⟨hx, hb, hr, hml, hown, htw, hK, hlocks, hname⟩ := hF
  have hS : va_S A s.heap s.heap [] := va_S.rf
  have hl : lv_has ls 4 [(0, .ref l0), (1, .int (nI i))] := hl
  refine lv_iload_n hx hb d_AL_remove_0 rfl (lv_at hl 1 rfl) ?_
  refine lv_aload_n hx hb d_AL_remove_1 rfl (lv_at hl 0 rfl) ?_
  refine xg hx hb hown htw hK hP 0 2 rfl k_AL (by decide) fl_AL_48 rfl d_AL_remove_2 ?_
  refine xcS_i (As := [.int (nI i), .int (nI sg)]) (rest := []) (wr := [(l0, .inr (7, [.int mc, .ref l1, .int (nI sg)])), (l1, .inl (K 4, ne, .inr (.inr (.inr (.inr ef)))))]) hx hb hml hown htw hK hA hl.1 hP hD hS (c_Os_checkIndex l D K i sg (by first | assumption | omega) (by first | assumption | omega)) [] [0, 1] rfl rfl (by decide) (by decide) (by decide) ml_AL_118 w_Os_checkIndex rfl ⟨by decide, by decide⟩ rfl (Nat.le_of_ble_eq_true rfl) ⟨by decide, by decide⟩ d_AL_remove_5 (fun r u H locs hpost hP hD hS => ?_)
  obtain ⟨rfl, rfl⟩ := hpost
  have hP : va_P D classes [(l0, .inr (7, [.int mc, .ref l1, .int (nI sg)])), (l1, .inl (K 4, ne, .inr (.inr (.inr (.inr ef)))))] H := hP
  have hD : va_D A [(l0, .inr (7, [.int mc, .ref l1, .int (nI sg)])), (l1, .inl (K 4, ne, .inr (.inr (.inr (.inr ef)))))] := hD
  refine lv_pop hx hb d_AL_remove_8 rfl ?_
  refine lv_aload_n hx hb d_AL_remove_9 rfl (lv_at hl 0 rfl) ?_
  refine xg hx hb hown htw hK hP 0 1 rfl k_AL (by decide) fl_AL_9 rfl d_AL_remove_10 ?_
  refine lv_astore_n (lv' := [(2, .ref l1), (0, .ref l0), (1, .int (nI i))]) hx hb d_AL_remove_13 rfl hl (by decide) rfl (fun ls hl => ?_)
  refine lv_aload_n hx hb d_AL_remove_14 rfl (lv_at hl 0 rfl) ?_
  refine lv_iload_n hx hb d_AL_remove_15 rfl (lv_at hl 2 rfl) ?_
  refine xald_q (t0 := 4) hx hb hK hP 1 rfl rfl (by omega) (by omega) (hv) d_AL_remove_16 ?_
  refine lv_astore_n (lv' := [(3, .ref v), (2, .ref l1), (0, .ref l0), (1, .int (nI i))]) hx hb d_AL_remove_17 rfl hl (by decide) rfl (fun ls hl => ?_)
  refine lv_aload_n hx hb d_AL_remove_18 rfl (lv_at hl 2 rfl) ?_
  refine lv_aload_n hx hb d_AL_remove_19 rfl (lv_at hl 1 rfl) ?_
  refine lv_iload_n hx hb d_AL_remove_20 rfl (lv_at hl 3 rfl) ?_
  refine xcV_v (As := [.ref l1, .int (nI i)]) (rest := []) (wr := []) hx hb hml hown htw hK hA hl.1 hP hD hS (c_AL_fastRemove l D K l0 mc l1 sg ne ef i (by first | assumption | omega) (by first | assumption | omega) (by first | assumption | omega)) [0, 1] [] rfl rfl (by decide) (by decide) (by decide) 0 rfl k_AL ml_AL_144 w_AL_fastRemove rfl ⟨by decide, by decide⟩ rfl (Nat.le_of_ble_eq_true rfl) ⟨by decide, by decide⟩ d_AL_remove_21 (fun u H locs hpost hP hD hS => ?_)
  subst hpost
  have hP : va_P D classes [(l0, .inr (7, [.int (mc + nI 1), .ref l1, .int (nI (sg - 1))])), (l1, .inl (K 4, ne, .inr (.inr (.inr (.inr (va_up ef (sg - 1) none))))))] H := hP
  have hD : va_D A [(l0, .inr (7, [.int (mc + nI 1), .ref l1, .int (nI (sg - 1))])), (l1, .inl (K 4, ne, .inr (.inr (.inr (.inr (va_up ef (sg - 1) none))))))] := hD
  refine lv_aload_n hx hb d_AL_remove_24 rfl (lv_at hl 0 rfl) ?_
  exact xr_aret (by first | exact Or.inl ⟨_, rfl⟩ | exact Or.inr ⟨_, rfl⟩) hx hb hr hlocks hP hD hS (Nat.le_of_ble_eq_true rfl) (Nat.le_of_ble_eq_true rfl) (⟨rfl, rfl⟩) d_AL_remove_25


abbrev q_Pl_spare (K : Nat → ClassId) (p0 : Nat) (p1 : Nat) (ht : Nat) (pf : Nat → Option Nat) (a : Nat) (b : Nat) (z : Nat) : Nat → va_W → Prop := fun r u => u = [(p0, .inr (2, [.ref p1, .int (nI ht)])), (p1, .inl (K 3, 9, .inr (.inr (.inr (.inr pf))))), (a, .inr (0, [.ref b, .int (nI 0)]))] ∧ r = a
set_option maxHeartbeats 4000000 in
set_option maxRecDepth 100000 in
theorem c_Pl_spare (l : Launch) (D : va_G) (K : Nat → ClassId) (p0 : Nat) (p1 : Nat) (ht : Nat) (pf : Nat → Option Nat) (a : Nat) (b : Nat) (z : Nat) (hht : ht < 9) (hf : pf ht = some a) : CR l y_Pl_spare b_Pl_spare 2 (.object "SegmentIndex$HitSet") ({ frames := 1, cells := 0, slots := 0, locals := 30 } : Room) D K [.ref p0] [(p0, .inr (2, [.ref p1, .int (nI ht)])), (p1, .inl (K 3, 9, .inr (.inr (.inr (.inr pf))))), (a, .inr (0, [.ref b, .int (nI z)]))] (q_Pl_spare K p0 p1 ht pf a b z) := by
  refine CR_of (by decide) (Nat.le_of_ble_eq_true rfl) ?_
  intro p e s m below meth c A b0 ls hF hA hP hD hl
  have hF2 := hF
  obtain ⟨hx, hb, hr, hml, hown, htw, hK, hlocks, hname⟩ := hF
  have hS : va_S A s.heap s.heap [] := va_S.rf
  have hl : lv_has ls 2 [(0, .ref p0)] := hl
  refine lv_aload_n hx hb d_Pl_spare_0 rfl (lv_at hl 0 rfl) ?_
  refine xg hx hb hown htw hK hP 0 0 rfl k_Pl (by decide) fl_Pl_11 rfl d_Pl_spare_1 ?_
  refine lv_aload_n hx hb d_Pl_spare_4 rfl (lv_at hl 0 rfl) ?_
  refine xg hx hb hown htw hK hP 0 1 rfl k_Pl (by decide) fl_Pl_17 rfl d_Pl_spare_5 ?_
  refine xald_q (t0 := 3) hx hb hK hP 1 rfl rfl (by omega) (by decide) (hf) d_Pl_spare_8 ?_
  refine lv_astore_n (lv' := [(1, .ref a), (0, .ref p0)]) hx hb d_Pl_spare_9 rfl hl (by decide) rfl (fun ls hl => ?_)
  refine lv_aload_n hx hb d_Pl_spare_10 rfl (lv_at hl 0 rfl) ?_
  refine xcV_v (As := []) (rest := []) (wr := [(p0, .inr (2, [.ref p1, .int (nI ht)])), (p1, .inl (K 3, 9, .inr (.inr (.inr (.inr pf)))))]) hx hb hml hown htw hK hA hl.1 hP hD hS (c_HS_clear l D K a b z ) [2] [0, 1] rfl rfl (by decide) (by decide) (by decide) 0 rfl k_HS ml_Pl_22 w_HS_clear rfl ⟨by decide, by decide⟩ rfl (Nat.le_of_ble_eq_true rfl) ⟨by decide, by decide⟩ d_Pl_spare_11 (fun u H locs hpost hP hD hS => ?_)
  subst hpost
  have hP : va_P D classes [(p0, .inr (2, [.ref p1, .int (nI ht)])), (p1, .inl (K 3, 9, .inr (.inr (.inr (.inr pf))))), (a, .inr (0, [.ref b, .int (nI 0)]))] H := hP
  have hD : va_D A [(p0, .inr (2, [.ref p1, .int (nI ht)])), (p1, .inl (K 3, 9, .inr (.inr (.inr (.inr pf))))), (a, .inr (0, [.ref b, .int (nI 0)]))] := hD
  refine lv_aload_n hx hb d_Pl_spare_14 rfl (lv_at hl 0 rfl) ?_
  exact xr_aret (by first | exact Or.inl ⟨_, rfl⟩ | exact Or.inr ⟨_, rfl⟩) hx hb hr hlocks hP hD hS (Nat.le_of_ble_eq_true rfl) (Nat.le_of_ble_eq_true rfl) (⟨rfl, rfl⟩) d_Pl_spare_15

abbrev q_Pl_uppermost_0 (K : Nat → ClassId) (p0 : Nat) (p1 : Nat) (pf : Nat → Option Nat) (a : Nat) (b : Nat) (z : Nat) : Nat → va_W → Prop := fun r u => u = [(p0, .inr (2, [.ref p1, .int (nI 0)])), (p1, .inl (K 3, 9, .inr (.inr (.inr (.inr pf))))), (a, .inr (0, [.ref b, .int (nI 0)]))] ∧ r = a
set_option maxHeartbeats 4000000 in
set_option maxRecDepth 100000 in
theorem c_Pl_uppermost_0 (l : Launch) (D : va_G) (K : Nat → ClassId) (p0 : Nat) (p1 : Nat) (pf : Nat → Option Nat) (a : Nat) (b : Nat) (z : Nat) (hf : pf 0 = some a) : CR l y_Pl_uppermost b_Pl_uppermost 1 (.object "SegmentIndex$HitSet") ({ frames := 2, cells := 0, slots := 0, locals := 60 } : Room) D K [.ref p0] [(p0, .inr (2, [.ref p1, .int (nI 0)])), (p1, .inl (K 3, 9, .inr (.inr (.inr (.inr pf))))), (a, .inr (0, [.ref b, .int (nI z)]))] (q_Pl_uppermost_0 K p0 p1 pf a b z) := by
  refine CR_of (by decide) (Nat.le_of_ble_eq_true rfl) ?_
  intro p e s m below meth c A b0 ls hF hA hP hD hl
  have hF2 := hF
  obtain ⟨hx, hb, hr, hml, hown, htw, hK, hlocks, hname⟩ := hF
  have hS : va_S A s.heap s.heap [] := va_S.rf
  have hl : lv_has ls 1 [(0, .ref p0)] := hl
  refine lv_aload_n hx hb d_Pl_uppermost_0 rfl (lv_at hl 0 rfl) ?_
  refine xg hx hb hown htw hK hP 0 1 rfl k_Pl (by decide) fl_Pl_17 rfl d_Pl_uppermost_1 ?_
  refine lv_iconst (v := nI 1) hx hb d_Pl_uppermost_4 (by decide) ?_
  refine xc_ge (tgt := 15) (a := 0) (b := 1) hx hb (by omega) (by omega) d_Pl_uppermost_5 (by decide) (fun c_5 => ?_) (fun c_5 => ?_)
  · omega
  · refine lv_aload_n hx hb d_Pl_uppermost_8 rfl (lv_at hl 0 rfl) ?_
    refine xcV_r (As := []) (rest := []) (wr := []) hx hb hml hown htw hK hA hl.1 hP hD hS (c_Pl_spare l D K p0 p1 0 pf a b z (by decide) (by first | assumption | omega)) [0, 1, 2] [] rfl rfl (by decide) (by decide) (by decide) 0 rfl k_Pl ml_Pl_25 w_Pl_spare rfl ⟨by decide, by decide⟩ rfl (Nat.le_of_ble_eq_true rfl) ⟨by decide, by decide⟩ d_Pl_uppermost_9 (fun r_9 u H locs hpost hP hD hS => ?_)
    obtain ⟨rfl, hr_9⟩ := hpost
    replace hr_9 := hr_9.symm
    subst hr_9
    have hP : va_P D classes [(p0, .inr (2, [.ref p1, .int (nI 0)])), (p1, .inl (K 3, 9, .inr (.inr (.inr (.inr pf))))), (a, .inr (0, [.ref b, .int (nI 0)]))] H := hP
    have hD : va_D A [(p0, .inr (2, [.ref p1, .int (nI 0)])), (p1, .inl (K 3, 9, .inr (.inr (.inr (.inr pf))))), (a, .inr (0, [.ref b, .int (nI 0)]))] := hD
    refine lv_goto (tgt := 26) hx hb d_Pl_uppermost_12 (by decide) ?_
    exact xr_aret (by first | exact Or.inl ⟨_, rfl⟩ | exact Or.inr ⟨_, rfl⟩) hx hb hr hlocks hP hD hS (Nat.le_of_ble_eq_true rfl) (Nat.le_of_ble_eq_true rfl) (⟨rfl, rfl⟩) d_Pl_uppermost_26

abbrev q_Pl_uppermost_1 (K : Nat → ClassId) (p0 : Nat) (p1 : Nat) (ht : Nat) (pf : Nat → Option Nat) (a : Nat) : Nat → va_W → Prop := fun r u => u = [(p0, .inr (2, [.ref p1, .int (nI ht)])), (p1, .inl (K 3, 9, .inr (.inr (.inr (.inr pf)))))] ∧ r = a
set_option maxHeartbeats 4000000 in
set_option maxRecDepth 100000 in
theorem c_Pl_uppermost_1 (l : Launch) (D : va_G) (K : Nat → ClassId) (p0 : Nat) (p1 : Nat) (ht : Nat) (pf : Nat → Option Nat) (a : Nat) (h0 : 0 < ht) (hht : ht < 9) (hf : pf (ht - 1) = some a) : CR l y_Pl_uppermost b_Pl_uppermost 1 (.object "SegmentIndex$HitSet") ({ frames := 2, cells := 0, slots := 0, locals := 60 } : Room) D K [.ref p0] [(p0, .inr (2, [.ref p1, .int (nI ht)])), (p1, .inl (K 3, 9, .inr (.inr (.inr (.inr pf)))))] (q_Pl_uppermost_1 K p0 p1 ht pf a) := by
  refine CR_of (by decide) (Nat.le_of_ble_eq_true rfl) ?_
  intro p e s m below meth c A b0 ls hF hA hP hD hl
  have hF2 := hF
  obtain ⟨hx, hb, hr, hml, hown, htw, hK, hlocks, hname⟩ := hF
  have hS : va_S A s.heap s.heap [] := va_S.rf
  have hl : lv_has ls 1 [(0, .ref p0)] := hl
  refine lv_aload_n hx hb d_Pl_uppermost_0 rfl (lv_at hl 0 rfl) ?_
  refine xg hx hb hown htw hK hP 0 1 rfl k_Pl (by decide) fl_Pl_17 rfl d_Pl_uppermost_1 ?_
  refine lv_iconst (v := nI 1) hx hb d_Pl_uppermost_4 (by decide) ?_
  refine xc_ge (tgt := 15) (a := ht) (b := 1) hx hb (by omega) (by omega) d_Pl_uppermost_5 (by decide) (fun c_5 => ?_) (fun c_5 => ?_)
  · refine lv_aload_n hx hb d_Pl_uppermost_15 rfl (lv_at hl 0 rfl) ?_
    refine xg hx hb hown htw hK hP 0 0 rfl k_Pl (by decide) fl_Pl_11 rfl d_Pl_uppermost_16 ?_
    refine lv_aload_n hx hb d_Pl_uppermost_19 rfl (lv_at hl 0 rfl) ?_
    refine xg hx hb hown htw hK hP 0 1 rfl k_Pl (by decide) fl_Pl_17 rfl d_Pl_uppermost_20 ?_
    refine lv_iconst (v := nI 1) hx hb d_Pl_uppermost_23 (by decide) ?_
    refine lv_isub hx hb d_Pl_uppermost_24 ?_
    refine xi (nI_sub (a := ht) (b := 1) (by omega)) ?_
    refine xald_q (t0 := 3) hx hb hK hP 1 rfl rfl (by omega) (by decide) (hf) d_Pl_uppermost_25 ?_
    exact xr_aret (by first | exact Or.inl ⟨_, rfl⟩ | exact Or.inr ⟨_, rfl⟩) hx hb hr hlocks hP hD hS (Nat.le_of_ble_eq_true rfl) (Nat.le_of_ble_eq_true rfl) (⟨rfl, rfl⟩) d_Pl_uppermost_26
  · omega

abbrev q_Pl_settle_0 (K : Nat → ClassId) (p0 : Nat) (p1 : Nat) (ht : Nat) (pf : Nat → Option Nat) (a : Nat) (b : Nat) (z : Nat) : Int32 → va_W → Prop := fun r u => u = [(p0, .inr (2, [.ref p1, .int (nI (ht + 1))])), (p1, .inl (K 3, 9, .inr (.inr (.inr (.inr (va_up (va_up pf ht (some a)) ht (some a))))))), (a, .inr (0, [.ref b, .int (nI z)]))] ∧ r = nI z
set_option maxHeartbeats 4000000 in
set_option maxRecDepth 100000 in
theorem c_Pl_settle_0 (l : Launch) (D : va_G) (K : Nat → ClassId) (p0 : Nat) (p1 : Nat) (ht : Nat) (pf : Nat → Option Nat) (a : Nat) (b : Nat) (z : Nat) (hht : ht < 8) (hf : pf ht = some a) : CI l y_Pl_settle b_Pl_settle 4 .int ({ frames := 0, cells := 0, slots := 0, locals := 0 } : Room) D K [.ref p0, .int (nI 0)] [(p0, .inr (2, [.ref p1, .int (nI ht)])), (p1, .inl (K 3, 9, .inr (.inr (.inr (.inr pf))))), (a, .inr (0, [.ref b, .int (nI z)]))] (q_Pl_settle_0 K p0 p1 ht pf a b z) := by
  refine CI_of (by decide) (Nat.le_of_ble_eq_true rfl) ?_
  intro p e s m below meth c A b0 ls hF hA hP hD hl
  have hF2 := hF
  obtain ⟨hx, hb, hr, hml, hown, htw, hK, hlocks, hname⟩ := hF
  have hS : va_S A s.heap s.heap [] := va_S.rf
  have hl : lv_has ls 4 [(0, .ref p0), (1, .int (nI 0))] := hl
  refine lv_aload_n hx hb d_Pl_settle_0 rfl (lv_at hl 0 rfl) ?_
  refine xg hx hb hown htw hK hP 0 1 rfl k_Pl (by decide) fl_Pl_17 rfl d_Pl_settle_1 ?_
  refine lv_iload_n hx hb d_Pl_settle_4 rfl (lv_at hl 1 rfl) ?_
  refine lv_isub hx hb d_Pl_settle_5 ?_
  refine xi (y := nI ht) (nI_sub (a := ht) (b := 0) (Nat.zero_le _)) ?_
  refine lv_istore_n (lv' := [(2, .int (nI ht)), (0, .ref p0), (1, .int (nI 0))]) hx hb d_Pl_settle_6 rfl hl (by decide) rfl (fun ls hl => ?_)
  refine lv_iload_n hx hb d_Pl_settle_7 rfl (lv_at hl 0 rfl) ?_
  refine xz_lt (a := ht) hx hb (by omega) d_Pl_settle_8 17 (by decide) ?_
  refine lv_iload_n hx hb d_Pl_settle_11 rfl (lv_at hl 0 rfl) ?_
  refine lv_bipush (v := nI 8) hx hb d_Pl_settle_12 (by decide) ?_
  refine xc_lt (tgt := 19) (a := ht) (b := 8) hx hb (by omega) (by omega) d_Pl_settle_14 (by decide) (fun c_14 => ?_) (fun c_14 => ?_)
  · refine lv_aload_n hx hb d_Pl_settle_19 rfl (lv_at hl 1 rfl) ?_
    refine xg hx hb hown htw hK hP 0 0 rfl k_Pl (by decide) fl_Pl_11 rfl d_Pl_settle_20 ?_
    refine lv_aload_n hx hb d_Pl_settle_23 rfl (lv_at hl 1 rfl) ?_
    refine xg hx hb hown htw hK hP 0 1 rfl k_Pl (by decide) fl_Pl_17 rfl d_Pl_settle_24 ?_
    refine xald_q (t0 := 3) hx hb hK hP 1 rfl rfl (by omega) (by decide) (hf) d_Pl_settle_27 ?_
    refine lv_astore_n (lv' := [(3, .ref a), (2, .int (nI ht)), (0, .ref p0), (1, .int (nI 0))]) hx hb d_Pl_settle_28 rfl hl (by decide) rfl (fun ls hl => ?_)
    refine lv_aload_n hx hb d_Pl_settle_29 rfl (lv_at hl 2 rfl) ?_
    refine xg hx hb hown htw hK hP 0 0 rfl k_Pl (by decide) fl_Pl_11 rfl d_Pl_settle_30 ?_
    refine lv_aload_n hx hb d_Pl_settle_33 rfl (lv_at hl 2 rfl) ?_
    refine xg hx hb hown htw hK hP 0 1 rfl k_Pl (by decide) fl_Pl_17 rfl d_Pl_settle_34 ?_
    refine lv_aload_n hx hb d_Pl_settle_37 rfl (lv_at hl 2 rfl) ?_
    refine xg hx hb hown htw hK hP 0 0 rfl k_Pl (by decide) fl_Pl_11 rfl d_Pl_settle_38 ?_
    refine lv_iload_n hx hb d_Pl_settle_41 rfl (lv_at hl 1 rfl) ?_
    refine xald_q (t0 := 3) hx hb hK hP 1 rfl rfl (by omega) (by decide) (hf) d_Pl_settle_42 ?_
    refine xast_q (t0 := 3) (qk := 2) hx hb hK hP hD hS 1 rfl rfl rfl k_HS (by omega) (by decide) d_Pl_settle_43 (fun H locs hP hD hS => ?_)
    have hP : va_P D classes [(p0, .inr (2, [.ref p1, .int (nI ht)])), (p1, .inl (K 3, 9, .inr (.inr (.inr (.inr (va_up pf ht (some a))))))), (a, .inr (0, [.ref b, .int (nI z)]))] H := hP
    have hD : va_D A [(p0, .inr (2, [.ref p1, .int (nI ht)])), (p1, .inl (K 3, 9, .inr (.inr (.inr (.inr (va_up pf ht (some a))))))), (a, .inr (0, [.ref b, .int (nI z)]))] := hD
    refine lv_aload_n hx hb d_Pl_settle_44 rfl (lv_at hl 2 rfl) ?_
    refine xg hx hb hown htw hK hP 0 0 rfl k_Pl (by decide) fl_Pl_11 rfl d_Pl_settle_45 ?_
    refine lv_iload_n hx hb d_Pl_settle_48 rfl (lv_at hl 1 rfl) ?_
    refine lv_aload_n hx hb d_Pl_settle_49 rfl (lv_at hl 0 rfl) ?_
    refine xast_q (t0 := 3) (qk := 2) hx hb hK hP hD hS 1 rfl rfl rfl k_HS (by omega) (by decide) d_Pl_settle_50 (fun H locs hP hD hS => ?_)
    have hP : va_P D classes [(p0, .inr (2, [.ref p1, .int (nI ht)])), (p1, .inl (K 3, 9, .inr (.inr (.inr (.inr (va_up (va_up pf ht (some a)) ht (some a))))))), (a, .inr (0, [.ref b, .int (nI z)]))] H := hP
    have hD : va_D A [(p0, .inr (2, [.ref p1, .int (nI ht)])), (p1, .inl (K 3, 9, .inr (.inr (.inr (.inr (va_up (va_up pf ht (some a)) ht (some a))))))), (a, .inr (0, [.ref b, .int (nI z)]))] := hD
    refine lv_aload_n hx hb d_Pl_settle_51 rfl (lv_at hl 2 rfl) ?_
    refine lv_iload_n hx hb d_Pl_settle_52 rfl (lv_at hl 1 rfl) ?_
    refine lv_iconst (v := nI 1) hx hb d_Pl_settle_53 (by decide) ?_
    refine lv_iadd hx hb d_Pl_settle_54 ?_
    refine xi (nI_add ht 1) ?_
    refine xpt hx hb hown htw hK hP hD hS 0 1 rfl k_Pl (by decide) fl_Pl_17 rfl rfl rfl (Nat.le_of_ble_eq_true rfl) d_Pl_settle_55 (fun H locs hP hD hS => ?_)
    have hP : va_P D classes [(p0, .inr (2, [.ref p1, .int (nI (ht + 1))])), (p1, .inl (K 3, 9, .inr (.inr (.inr (.inr (va_up (va_up pf ht (some a)) ht (some a))))))), (a, .inr (0, [.ref b, .int (nI z)]))] H := hP
    have hD : va_D A [(p0, .inr (2, [.ref p1, .int (nI (ht + 1))])), (p1, .inl (K 3, 9, .inr (.inr (.inr (.inr (va_up (va_up pf ht (some a)) ht (some a))))))), (a, .inr (0, [.ref b, .int (nI z)]))] := hD
    refine lv_aload_n hx hb d_Pl_settle_58 rfl (lv_at hl 0 rfl) ?_
    refine xg hx hb hown htw hK hP 2 1 rfl k_HS (by decide) fl_Pl_29 rfl d_Pl_settle_59 ?_
    exact xr_iret hx hb hr hlocks hP hD hS (Nat.le_of_ble_eq_true rfl) (Nat.le_of_ble_eq_true rfl) (⟨rfl, rfl⟩) d_Pl_settle_62
  · omega

abbrev q_Pl_settle_r (K : Nat → ClassId) (p0 : Nat) (p1 : Nat) (ht : Nat) (pf : Nat → Option Nat) (a : Nat) (b : Nat) (z : Nat) (rr : Nat) (a2 : Nat) (b2 : Nat) (z2 : Nat) : Int32 → va_W → Prop := fun r u => u = [(p0, .inr (2, [.ref p1, .int (nI (ht - rr + 1))])), (p1, .inl (K 3, 9, .inr (.inr (.inr (.inr (va_up (va_up pf ht (some a2)) (ht - rr) (some a))))))), (a, .inr (0, [.ref b, .int (nI z)])), (a2, .inr (0, [.ref b2, .int (nI z2)]))] ∧ r = nI z
set_option maxHeartbeats 4000000 in
set_option maxRecDepth 100000 in
theorem c_Pl_settle_r (l : Launch) (D : va_G) (K : Nat → ClassId) (p0 : Nat) (p1 : Nat) (ht : Nat) (pf : Nat → Option Nat) (a : Nat) (b : Nat) (z : Nat) (rr : Nat) (a2 : Nat) (b2 : Nat) (z2 : Nat) (hht : ht < 9) (hr1 : 1 ≤ rr) (hr2 : rr ≤ ht) (hf : pf ht = some a) (hf2 : pf (ht - rr) = some a2) : CI l y_Pl_settle b_Pl_settle 4 .int ({ frames := 0, cells := 0, slots := 0, locals := 0 } : Room) D K [.ref p0, .int (nI rr)] [(p0, .inr (2, [.ref p1, .int (nI ht)])), (p1, .inl (K 3, 9, .inr (.inr (.inr (.inr pf))))), (a, .inr (0, [.ref b, .int (nI z)])), (a2, .inr (0, [.ref b2, .int (nI z2)]))] (q_Pl_settle_r K p0 p1 ht pf a b z rr a2 b2 z2) := by
  refine CI_of (by decide) (Nat.le_of_ble_eq_true rfl) ?_
  intro p e s m below meth c A b0 ls hF hA hP hD hl
  have hF2 := hF
  obtain ⟨hx, hb, hr, hml, hown, htw, hK, hlocks, hname⟩ := hF
  have hS : va_S A s.heap s.heap [] := va_S.rf
  have hl : lv_has ls 4 [(0, .ref p0), (1, .int (nI rr))] := hl
  refine lv_aload_n hx hb d_Pl_settle_0 rfl (lv_at hl 0 rfl) ?_
  refine xg hx hb hown htw hK hP 0 1 rfl k_Pl (by decide) fl_Pl_17 rfl d_Pl_settle_1 ?_
  refine lv_iload_n hx hb d_Pl_settle_4 rfl (lv_at hl 1 rfl) ?_
  refine lv_isub hx hb d_Pl_settle_5 ?_
  refine xi (nI_sub (a := ht) (b := rr) (by omega)) ?_
  refine lv_istore_n (lv' := [(2, .int (nI (ht - rr))), (0, .ref p0), (1, .int (nI rr))]) hx hb d_Pl_settle_6 rfl hl (by decide) rfl (fun ls hl => ?_)
  refine lv_iload_n hx hb d_Pl_settle_7 rfl (lv_at hl 0 rfl) ?_
  refine xz_lt (a := ht - rr) hx hb (by omega) d_Pl_settle_8 17 (by decide) ?_
  refine lv_iload_n hx hb d_Pl_settle_11 rfl (lv_at hl 0 rfl) ?_
  refine lv_bipush (v := nI 8) hx hb d_Pl_settle_12 (by decide) ?_
  refine xc_lt (tgt := 19) (a := ht - rr) (b := 8) hx hb (by omega) (by omega) d_Pl_settle_14 (by decide) (fun c_14 => ?_) (fun c_14 => ?_)
  · refine lv_aload_n hx hb d_Pl_settle_19 rfl (lv_at hl 1 rfl) ?_
    refine xg hx hb hown htw hK hP 0 0 rfl k_Pl (by decide) fl_Pl_11 rfl d_Pl_settle_20 ?_
    refine lv_aload_n hx hb d_Pl_settle_23 rfl (lv_at hl 1 rfl) ?_
    refine xg hx hb hown htw hK hP 0 1 rfl k_Pl (by decide) fl_Pl_17 rfl d_Pl_settle_24 ?_
    refine xald_q (t0 := 3) hx hb hK hP 1 rfl rfl (by omega) (by decide) (hf) d_Pl_settle_27 ?_
    refine lv_astore_n (lv' := [(3, .ref a), (2, .int (nI (ht - rr))), (0, .ref p0), (1, .int (nI rr))]) hx hb d_Pl_settle_28 rfl hl (by decide) rfl (fun ls hl => ?_)
    refine lv_aload_n hx hb d_Pl_settle_29 rfl (lv_at hl 2 rfl) ?_
    refine xg hx hb hown htw hK hP 0 0 rfl k_Pl (by decide) fl_Pl_11 rfl d_Pl_settle_30 ?_
    refine lv_aload_n hx hb d_Pl_settle_33 rfl (lv_at hl 2 rfl) ?_
    refine xg hx hb hown htw hK hP 0 1 rfl k_Pl (by decide) fl_Pl_17 rfl d_Pl_settle_34 ?_
    refine lv_aload_n hx hb d_Pl_settle_37 rfl (lv_at hl 2 rfl) ?_
    refine xg hx hb hown htw hK hP 0 0 rfl k_Pl (by decide) fl_Pl_11 rfl d_Pl_settle_38 ?_
    refine lv_iload_n hx hb d_Pl_settle_41 rfl (lv_at hl 1 rfl) ?_
    refine xald_q (t0 := 3) hx hb hK hP 1 rfl rfl (by omega) (by decide) (hf2) d_Pl_settle_42 ?_
    refine xast_q (t0 := 3) (qk := 3) hx hb hK hP hD hS 1 rfl rfl rfl k_HS (by omega) (by decide) d_Pl_settle_43 (fun H locs hP hD hS => ?_)
    have hP : va_P D classes [(p0, .inr (2, [.ref p1, .int (nI ht)])), (p1, .inl (K 3, 9, .inr (.inr (.inr (.inr (va_up pf ht (some a2))))))), (a, .inr (0, [.ref b, .int (nI z)])), (a2, .inr (0, [.ref b2, .int (nI z2)]))] H := hP
    have hD : va_D A [(p0, .inr (2, [.ref p1, .int (nI ht)])), (p1, .inl (K 3, 9, .inr (.inr (.inr (.inr (va_up pf ht (some a2))))))), (a, .inr (0, [.ref b, .int (nI z)])), (a2, .inr (0, [.ref b2, .int (nI z2)]))] := hD
    refine lv_aload_n hx hb d_Pl_settle_44 rfl (lv_at hl 2 rfl) ?_
    refine xg hx hb hown htw hK hP 0 0 rfl k_Pl (by decide) fl_Pl_11 rfl d_Pl_settle_45 ?_
    refine lv_iload_n hx hb d_Pl_settle_48 rfl (lv_at hl 1 rfl) ?_
    refine lv_aload_n hx hb d_Pl_settle_49 rfl (lv_at hl 0 rfl) ?_
    refine xast_q (t0 := 3) (qk := 2) hx hb hK hP hD hS 1 rfl rfl rfl k_HS (by omega) (by decide) d_Pl_settle_50 (fun H locs hP hD hS => ?_)
    have hP : va_P D classes [(p0, .inr (2, [.ref p1, .int (nI ht)])), (p1, .inl (K 3, 9, .inr (.inr (.inr (.inr (va_up (va_up pf ht (some a2)) (ht - rr) (some a))))))), (a, .inr (0, [.ref b, .int (nI z)])), (a2, .inr (0, [.ref b2, .int (nI z2)]))] H := hP
    have hD : va_D A [(p0, .inr (2, [.ref p1, .int (nI ht)])), (p1, .inl (K 3, 9, .inr (.inr (.inr (.inr (va_up (va_up pf ht (some a2)) (ht - rr) (some a))))))), (a, .inr (0, [.ref b, .int (nI z)])), (a2, .inr (0, [.ref b2, .int (nI z2)]))] := hD
    refine lv_aload_n hx hb d_Pl_settle_51 rfl (lv_at hl 2 rfl) ?_
    refine lv_iload_n hx hb d_Pl_settle_52 rfl (lv_at hl 1 rfl) ?_
    refine lv_iconst (v := nI 1) hx hb d_Pl_settle_53 (by decide) ?_
    refine lv_iadd hx hb d_Pl_settle_54 ?_
    refine xi (nI_add (ht - rr) 1) ?_
    refine xpt hx hb hown htw hK hP hD hS 0 1 rfl k_Pl (by decide) fl_Pl_17 rfl rfl rfl (Nat.le_of_ble_eq_true rfl) d_Pl_settle_55 (fun H locs hP hD hS => ?_)
    have hP : va_P D classes [(p0, .inr (2, [.ref p1, .int (nI ((ht - rr) + 1))])), (p1, .inl (K 3, 9, .inr (.inr (.inr (.inr (va_up (va_up pf ht (some a2)) (ht - rr) (some a))))))), (a, .inr (0, [.ref b, .int (nI z)])), (a2, .inr (0, [.ref b2, .int (nI z2)]))] H := hP
    have hD : va_D A [(p0, .inr (2, [.ref p1, .int (nI ((ht - rr) + 1))])), (p1, .inl (K 3, 9, .inr (.inr (.inr (.inr (va_up (va_up pf ht (some a2)) (ht - rr) (some a))))))), (a, .inr (0, [.ref b, .int (nI z)])), (a2, .inr (0, [.ref b2, .int (nI z2)]))] := hD
    refine lv_aload_n hx hb d_Pl_settle_58 rfl (lv_at hl 0 rfl) ?_
    refine xg hx hb hown htw hK hP 2 1 rfl k_HS (by decide) fl_Pl_29 rfl d_Pl_settle_59 ?_
    exact xr_iret hx hb hr hlocks hP hD hS (Nat.le_of_ble_eq_true rfl) (Nat.le_of_ble_eq_true rfl) (⟨rfl, rfl⟩) d_Pl_settle_62
  · omega

abbrev q_Sg_init (K : Nat → ClassId) (q0 : Nat) (u1 : Nat) (u2 : Nat) (u3 : Nat) (u4 : Nat) (u5 : Nat) : va_W → Prop := fun u => u = [(q0, .inr (3, [.int (nI u1), .int (nI u2), .int (nI u3), .int (nI u4), .int (nI u5)]))]
set_option maxHeartbeats 4000000 in
set_option maxRecDepth 100000 in
theorem c_Sg_init (l : Launch) (D : va_G) (K : Nat → ClassId) (q0 : Nat) (u1 : Nat) (u2 : Nat) (u3 : Nat) (u4 : Nat) (u5 : Nat)  : CV l y_Sg_init b_Sg_init 6 ({ frames := 1, cells := 0, slots := 0, locals := 40 } : Room) D K [.ref q0, .int (nI u1), .int (nI u2), .int (nI u3), .int (nI u4), .int (nI u5)] [(q0, .inr (3, [.int (nI 0), .int (nI 0), .int (nI 0), .int (nI 0), .int (nI 0)]))] (q_Sg_init K q0 u1 u2 u3 u4 u5) := by
  refine CV_of (by decide) (Nat.le_of_ble_eq_true rfl) ?_
  intro p e s m below meth c A b0 ls hF hA hP hD hl
  have hF2 := hF
  obtain ⟨hx, hb, hr, hml, hown, htw, hK, hlocks, hname⟩ := hF
  have hS : va_S A s.heap s.heap [] := va_S.rf
  have hl : lv_has ls 6 [(0, .ref q0), (1, .int (nI u1)), (2, .int (nI u2)), (3, .int (nI u3)), (4, .int (nI u4)), (5, .int (nI u5))] := hl
  refine lv_aload_n hx hb d_Sg_init_0 rfl (lv_at hl 0 rfl) ?_
  refine W.objInit hx hb hown (htw _ ml_Sg_1 _) (htw _ w_objI _) (htw _ w_objC _) rfl (by rw [hml]; exact hl.1) rfl d_Sg_init_1 (Nat.le_of_ble_eq_true rfl) (Nat.le_of_ble_eq_true rfl) ?_
  refine W.eq (g2 := F0 m 4 ls []) rfl ?_
  refine lv_aload_n hx hb d_Sg_init_4 rfl (lv_at hl 0 rfl) ?_
  refine lv_iload_n hx hb d_Sg_init_5 rfl (lv_at hl 1 rfl) ?_
  refine xptF hx hb hown htw hK hP hD hS 0 0 rfl k_Sg (by decide) fl_Sg_7 rfl hname rfl rfl rfl (Nat.le_of_ble_eq_true rfl) d_Sg_init_6 (fun H locs hP hD hS => ?_)
  have hP : va_P D classes [(q0, .inr (3, [.int (nI u1), .int (nI 0), .int (nI 0), .int (nI 0), .int (nI 0)]))] H := hP
  have hD : va_D A [(q0, .inr (3, [.int (nI u1), .int (nI 0), .int (nI 0), .int (nI 0), .int (nI 0)]))] := hD
  refine lv_aload_n hx hb d_Sg_init_9 rfl (lv_at hl 0 rfl) ?_
  refine lv_iload_n hx hb d_Sg_init_10 rfl (lv_at hl 2 rfl) ?_
  refine xptF hx hb hown htw hK hP hD hS 0 1 rfl k_Sg (by decide) fl_Sg_13 rfl hname rfl rfl rfl (Nat.le_of_ble_eq_true rfl) d_Sg_init_11 (fun H locs hP hD hS => ?_)
  have hP : va_P D classes [(q0, .inr (3, [.int (nI u1), .int (nI u2), .int (nI 0), .int (nI 0), .int (nI 0)]))] H := hP
  have hD : va_D A [(q0, .inr (3, [.int (nI u1), .int (nI u2), .int (nI 0), .int (nI 0), .int (nI 0)]))] := hD
  refine lv_aload_n hx hb d_Sg_init_14 rfl (lv_at hl 0 rfl) ?_
  refine lv_iload_n hx hb d_Sg_init_15 rfl (lv_at hl 3 rfl) ?_
  refine xptF hx hb hown htw hK hP hD hS 0 2 rfl k_Sg (by decide) fl_Sg_16 rfl hname rfl rfl rfl (Nat.le_of_ble_eq_true rfl) d_Sg_init_16 (fun H locs hP hD hS => ?_)
  have hP : va_P D classes [(q0, .inr (3, [.int (nI u1), .int (nI u2), .int (nI u3), .int (nI 0), .int (nI 0)]))] H := hP
  have hD : va_D A [(q0, .inr (3, [.int (nI u1), .int (nI u2), .int (nI u3), .int (nI 0), .int (nI 0)]))] := hD
  refine lv_aload_n hx hb d_Sg_init_19 rfl (lv_at hl 0 rfl) ?_
  refine lv_iload hx hb d_Sg_init_20 (lv_at hl 4 rfl) ?_
  refine xptF hx hb hown htw hK hP hD hS 0 3 rfl k_Sg (by decide) fl_Sg_19 rfl hname rfl rfl rfl (Nat.le_of_ble_eq_true rfl) d_Sg_init_22 (fun H locs hP hD hS => ?_)
  have hP : va_P D classes [(q0, .inr (3, [.int (nI u1), .int (nI u2), .int (nI u3), .int (nI u4), .int (nI 0)]))] H := hP
  have hD : va_D A [(q0, .inr (3, [.int (nI u1), .int (nI u2), .int (nI u3), .int (nI u4), .int (nI 0)]))] := hD
  refine lv_aload_n hx hb d_Sg_init_25 rfl (lv_at hl 0 rfl) ?_
  refine lv_iload hx hb d_Sg_init_26 (lv_at hl 5 rfl) ?_
  refine xptF hx hb hown htw hK hP hD hS 0 4 rfl k_Sg (by decide) fl_Sg_22 rfl hname rfl rfl rfl (Nat.le_of_ble_eq_true rfl) d_Sg_init_28 (fun H locs hP hD hS => ?_)
  have hP : va_P D classes [(q0, .inr (3, [.int (nI u1), .int (nI u2), .int (nI u3), .int (nI u4), .int (nI u5)]))] H := hP
  have hD : va_D A [(q0, .inr (3, [.int (nI u1), .int (nI u2), .int (nI u3), .int (nI u4), .int (nI u5)]))] := hD
  exact xr_vret hx hb hr hlocks hP hD hS (Nat.le_of_ble_eq_true rfl) (Nat.le_of_ble_eq_true rfl) (rfl) d_Sg_init_31


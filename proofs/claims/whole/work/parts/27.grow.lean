abbrev q_Ar_copyOf_aLObjectILClassaLObject (K : Nat → ClassId) (l1 : Nat) (ef : Nat → Option Nat) (tl : va_W) : Nat → va_W → Prop := fun r u => ∃ qn : Nat, ∃ gn : Nat → Option Nat, u = ([(l1, .inl (K 4, 10, .inr (.inr (.inr (.inr ef))))), (qn, .inl (K 4, 15, .inr (.inr (.inr (.inr gn)))))] ++ tl) ∧ r = qn ∧ (∀ i, i < 10 → gn i = ef i)
set_option maxHeartbeats 4000000 in
set_option maxRecDepth 100000 in
theorem c_Ar_copyOf_aLObjectILClassaLObject (l : Launch) (D : va_G) (K : Nat → ClassId) (l1 : Nat) (ef : Nat → Option Nat) (tl : va_W) (hel : ∀ i, i < 10 → ∀ y : Nat, ef i = some y → ∃ (k : Nat) (fs : List Value), tl[k]? = some (y, .inr (3, fs))) : CR l y_Ar_copyOf_aLObjectILClassaLObject b_Ar_copyOf_aLObjectILClassaLObject 4 (.array (.object "java/lang/Object")) ({ frames := 1, cells := 1, slots := 15, locals := 40 } : Room) D K [.ref l1, .int (nI 15), .ref (K 6)] ([(l1, .inl (K 4, 10, .inr (.inr (.inr (.inr ef)))))] ++ tl) (q_Ar_copyOf_aLObjectILClassaLObject K l1 ef tl) := by
  refine CR_of (by decide) (Nat.le_of_ble_eq_true rfl) ?_
  intro p e s m below meth c A b0 ls hF hA hP hD hl
  have hF2 := hF
  obtain ⟨hx, hb, hr, hml, hown, htw, hK, hlocks, hname⟩ := hF
  have hS : va_S A s.heap s.heap [] := va_S.rf
  have hl : lv_has ls 4 [(0, .ref l1), (1, .int (nI 15)), (2, .ref (K 6))] := hl
  refine lv_aload_n hx hb d_Ar_copyOf_aLObjectILClassaLObject_0 rfl (lv_at hl 2 rfl) ?_
  refine xldcM hx hb hown htw hA cl_Ar_110 d_Ar_copyOf_aLObjectILClassaLObject_1 ?_
  refine lv_acmp_ne (tgt := 13) (rx := some (K 6)) (ry := some (K 6)) hx hb d_Ar_copyOf_aLObjectILClassaLObject_3 (by decide) (fun c_3 => ?_) (fun c_3 => ?_)
  · exact absurd rfl c_3
  · refine lv_iload_n hx hb d_Ar_copyOf_aLObjectILClassaLObject_6 rfl (lv_at hl 1 rfl) ?_
    refine xnewq_o (n := 15) hx hb hown cl_Ar_2 htw hK hP hD hS hA (by omega) (Nat.le_of_ble_eq_true rfl) (Nat.le_of_ble_eq_true rfl) d_Ar_copyOf_aLObjectILClassaLObject_7 (fun q7 H hP hD hS => ?_)
    obtain ⟨hP, hD⟩ := xperm (ws' := ([(l1, .inl (K 4, 10, .inr (.inr (.inr (.inr ef))))), (q7, .inl (K 4, 15, .inr (.inr (.inr (.inr (fun _ => none))))))] ++ tl)) (pm_new [(l1, .inl (K 4, 10, .inr (.inr (.inr (.inr ef)))))] tl [(q7, .inl (K 4, 15, .inr (.inr (.inr (.inr (fun _ => none))))))]) hP hD
    have hP : va_P D classes ([(l1, .inl (K 4, 10, .inr (.inr (.inr (.inr ef))))), (q7, .inl (K 4, 15, .inr (.inr (.inr (.inr (fun _ => none))))))] ++ tl) H := hP
    have hD : va_D A ([(l1, .inl (K 4, 10, .inr (.inr (.inr (.inr ef))))), (q7, .inl (K 4, 15, .inr (.inr (.inr (.inr (fun _ => none))))))] ++ tl) := hD
    refine lv_goto (tgt := 24) hx hb d_Ar_copyOf_aLObjectILClassaLObject_10 (by decide) ?_
    refine lv_astore_n (lv' := [(3, .ref q7), (0, .ref l1), (1, .int (nI 15)), (2, .ref (K 6))]) hx hb d_Ar_copyOf_aLObjectILClassaLObject_24 rfl hl (by decide) rfl (fun ls hl => ?_)
    refine lv_aload_n hx hb d_Ar_copyOf_aLObjectILClassaLObject_25 rfl (lv_at hl 1 rfl) ?_
    refine lv_iconst (v := nI 0) hx hb d_Ar_copyOf_aLObjectILClassaLObject_26 (by decide) ?_
    refine lv_aload_n hx hb d_Ar_copyOf_aLObjectILClassaLObject_27 rfl (lv_at hl 0 rfl) ?_
    refine lv_iconst (v := nI 0) hx hb d_Ar_copyOf_aLObjectILClassaLObject_28 (by decide) ?_
    refine lv_aload_n hx hb d_Ar_copyOf_aLObjectILClassaLObject_29 rfl (lv_at hl 1 rfl) ?_
    refine xalen (t0 := 4) (n := 10) hx hb hK hP 0 rfl rfl rfl d_Ar_copyOf_aLObjectILClassaLObject_30 ?_
    refine lv_iload_n hx hb d_Ar_copyOf_aLObjectILClassaLObject_31 rfl (lv_at hl 2 rfl) ?_
    refine va_mmin hx hb (by rw [hml]; exact hl.1.symm) hown (htw _ ml_Ar_304 _) (htw _ w_Ma_min.1 _) (htw _ w_Ma_min.2.1 _) (htw _ w_Ma_min.2.2.1 _) (Nat.le_of_ble_eq_true rfl) (Nat.le_of_ble_eq_true rfl) (Nat.le_of_ble_eq_true rfl) (Nat.le_of_ble_eq_true rfl) d_Ar_copyOf_aLObjectILClassaLObject_32 ?_
    refine xi (y := nI 10) (by decide) ?_
    refine xcpq (n := 10) hx hb (by rw [hml]; exact hl.1.symm) hown htw hK hP hD hS 0 1 rfl rfl ml_Ar_150 (by decide) (by decide) (by decide) (fun i hi y hy => (hel i hi y hy).elim fun k ⟨fs, hk⟩ => ⟨2 + k, fs, by rw [List.getElem?_append_right (by show 2 ≤ 2 + k; omega)]; show tl[2 + k - 2]? = _; rw [Nat.add_sub_cancel_left]; exact hk⟩) (Nat.le_of_ble_eq_true rfl) (Nat.le_of_ble_eq_true rfl) d_Ar_copyOf_aLObjectILClassaLObject_35 (fun H locs hP hD hS => ?_)
    have hP : va_P D classes ([(l1, .inl (K 4, 10, .inr (.inr (.inr (.inr ef))))), (q7, .inl (K 4, 15, .inr (.inr (.inr (.inr (va_cpy ef (fun _ => none) 0 0 10))))))] ++ tl) H := hP
    have hD : va_D A ([(l1, .inl (K 4, 10, .inr (.inr (.inr (.inr ef))))), (q7, .inl (K 4, 15, .inr (.inr (.inr (.inr (va_cpy ef (fun _ => none) 0 0 10))))))] ++ tl) := hD
    refine lv_aload_n hx hb d_Ar_copyOf_aLObjectILClassaLObject_38 rfl (lv_at hl 0 rfl) ?_
    exact xr_aret (by first | exact Or.inl ⟨_, rfl⟩ | exact Or.inr ⟨_, rfl⟩) hx hb hr hlocks hP hD hS (Nat.le_of_ble_eq_true rfl) (Nat.le_of_ble_eq_true rfl) (⟨_, _, rfl, rfl, fun i hi => by show va_cpy _ _ 0 0 10 i = _; rw [va_cpy, if_pos ⟨Nat.zero_le _, by omega⟩]; congr 1; omega⟩) d_Ar_copyOf_aLObjectILClassaLObject_39

abbrev q_Ar_copyOf_aLObjectIaLObject (K : Nat → ClassId) (l1 : Nat) (ef : Nat → Option Nat) (tl : va_W) : Nat → va_W → Prop := fun r u => ∃ qn : Nat, ∃ gn : Nat → Option Nat, u = ([(l1, .inl (K 4, 10, .inr (.inr (.inr (.inr ef))))), (qn, .inl (K 4, 15, .inr (.inr (.inr (.inr gn)))))] ++ tl) ∧ r = qn ∧ (∀ i, i < 10 → gn i = ef i)
set_option maxHeartbeats 4000000 in
set_option maxRecDepth 100000 in
theorem c_Ar_copyOf_aLObjectIaLObject (l : Launch) (D : va_G) (K : Nat → ClassId) (l1 : Nat) (ef : Nat → Option Nat) (tl : va_W) (hel : ∀ i, i < 10 → ∀ y : Nat, ef i = some y → ∃ (k : Nat) (fs : List Value), tl[k]? = some (y, .inr (3, fs))) : CR l y_Ar_copyOf_aLObjectIaLObject b_Ar_copyOf_aLObjectIaLObject 2 (.array (.object "java/lang/Object")) ({ frames := 2, cells := 1, slots := 15, locals := 63 } : Room) D K [.ref l1, .int (nI 15)] ([(l1, .inl (K 4, 10, .inr (.inr (.inr (.inr ef)))))] ++ tl) (q_Ar_copyOf_aLObjectIaLObject K l1 ef tl) := by
  refine CR_of (by decide) (Nat.le_of_ble_eq_true rfl) ?_
  intro p e s m below meth c A b0 ls hF hA hP hD hl
  have hF2 := hF
  obtain ⟨hx, hb, hr, hml, hown, htw, hK, hlocks, hname⟩ := hF
  have hS : va_S A s.heap s.heap [] := va_S.rf
  have hl : lv_has ls 2 [(0, .ref l1), (1, .int (nI 15))] := hl
  refine lv_aload_n hx hb d_Ar_copyOf_aLObjectIaLObject_0 rfl (lv_at hl 0 rfl) ?_
  refine lv_iload_n hx hb d_Ar_copyOf_aLObjectIaLObject_1 rfl (lv_at hl 1 rfl) ?_
  refine lv_aload_n hx hb d_Ar_copyOf_aLObjectIaLObject_2 rfl (lv_at hl 0 rfl) ?_
  refine xgetC (q0 := 0) hx hb (by rw [hml]; exact hl.1.symm) hown htw hK hA hP rfl ml_Ar_86 (Nat.le_of_ble_eq_true rfl) (Nat.le_of_ble_eq_true rfl) d_Ar_copyOf_aLObjectIaLObject_3 ?_
  obtain ⟨hP, hD⟩ := xpT (E' := [(l1, .inl (K 4, 10, .inr (.inr (.inr (.inr ef)))))]) [0] (by decide) rfl hP hD
  obtain ⟨hP, hD⟩ := xperm (ws' := [] ++ ([(l1, .inl (K 4, 10, .inr (.inr (.inr (.inr ef)))))] ++ tl)) (pm_as [] [(l1, .inl (K 4, 10, .inr (.inr (.inr (.inr ef)))))] tl) hP hD
  refine xcS_r (As := [.ref l1, .int (nI 15), .ref (K 6)]) (rest := []) (wr := []) hx hb hml hown htw hK hA hl.1 hP hD hS (c_Ar_copyOf_aLObjectILClassaLObject l D K l1 ef tl (by first | assumption | omega)) (ixC [] ([(l1, .inl (K 4, 10, .inr (.inr (.inr (.inr ef)))))] ++ tl)) (ixR []) (ap_C _ _) (ap_R _ _) (nd_C _ _) (nd_R _) (ds_RC _ _) ml_Ar_300 w_Ar_copyOf_aLObjectILClassaLObject rfl ⟨by decide, by decide⟩ rfl (Nat.le_of_ble_eq_true rfl) ⟨by decide, by decide⟩ d_Ar_copyOf_aLObjectIaLObject_6 (fun r_6 u H locs hpost hP hD hS => ?_)
  obtain ⟨qn_6, gn_6, rfl, hr_6, hgn_6⟩ := hpost
  replace hr_6 := hr_6.symm
  subst hr_6
  obtain ⟨hP, hD⟩ := xperm (ws' := ([(l1, .inl (K 4, 10, .inr (.inr (.inr (.inr ef))))), (qn_6, .inl (K 4, 15, .inr (.inr (.inr (.inr gn_6)))))] ++ tl)) (pm_as [] [(l1, .inl (K 4, 10, .inr (.inr (.inr (.inr ef))))), (qn_6, .inl (K 4, 15, .inr (.inr (.inr (.inr gn_6)))))] tl).symm hP hD
  have hP : va_P D classes ([(l1, .inl (K 4, 10, .inr (.inr (.inr (.inr ef))))), (qn_6, .inl (K 4, 15, .inr (.inr (.inr (.inr gn_6)))))] ++ tl) H := hP
  have hD : va_D A ([(l1, .inl (K 4, 10, .inr (.inr (.inr (.inr ef))))), (qn_6, .inl (K 4, 15, .inr (.inr (.inr (.inr gn_6)))))] ++ tl) := hD
  exact xr_aret (by first | exact Or.inl ⟨_, rfl⟩ | exact Or.inr ⟨_, rfl⟩) hx hb hr hlocks hP hD hS (Nat.le_of_ble_eq_true rfl) (Nat.le_of_ble_eq_true rfl) (⟨_, _, rfl, rfl, hgn_6⟩) d_Ar_copyOf_aLObjectIaLObject_9

abbrev q_AS_newLength (K : Nat → ClassId)  : Int32 → va_W → Prop := fun r u => u = [] ∧ r = nI 15
set_option maxHeartbeats 4000000 in
set_option maxRecDepth 100000 in
theorem c_AS_newLength (l : Launch) (D : va_G) (K : Nat → ClassId)   : CI l y_AS_newLength b_AS_newLength 4 .int ({ frames := 1, cells := 0, slots := 0, locals := 40 } : Room) D K [.int (nI 10), .int (nI 1), .int (nI 5)] [] (q_AS_newLength K ) := by
  refine CI_of (by decide) (Nat.le_of_ble_eq_true rfl) ?_
  intro p e s m below meth c A b0 ls hF hA hP hD hl
  have hF2 := hF
  obtain ⟨hx, hb, hr, hml, hown, htw, hK, hlocks, hname⟩ := hF
  have hS : va_S A s.heap s.heap [] := va_S.rf
  have hl : lv_has ls 4 [(0, .int (nI 10)), (1, .int (nI 1)), (2, .int (nI 5))] := hl
  refine lv_iload_n hx hb d_AS_newLength_0 rfl (lv_at hl 0 rfl) ?_
  refine lv_iload_n hx hb d_AS_newLength_1 rfl (lv_at hl 1 rfl) ?_
  refine lv_iload_n hx hb d_AS_newLength_2 rfl (lv_at hl 2 rfl) ?_
  refine va_mmax hx hb (by rw [hml]; exact hl.1.symm) hown (htw _ ml_AS_194 _) (htw _ w_Ma_max.1 _) (htw _ w_Ma_max.2.1 _) (htw _ w_Ma_max.2.2.1 _) (Nat.le_of_ble_eq_true rfl) (Nat.le_of_ble_eq_true rfl) (Nat.le_of_ble_eq_true rfl) (Nat.le_of_ble_eq_true rfl) d_AS_newLength_3 ?_
  refine xi (y := nI 5) (by decide) ?_
  refine lv_iadd hx hb d_AS_newLength_6 ?_
  refine xi (y := nI 15) (by decide) ?_
  refine lv_istore_n (lv' := [(3, .int (nI 15)), (0, .int (nI 10)), (1, .int (nI 1)), (2, .int (nI 5))]) hx hb d_AS_newLength_7 rfl hl (by decide) rfl (fun ls hl => ?_)
  refine lv_iconst (v := nI 0) hx hb d_AS_newLength_8 (by decide) ?_
  refine lv_iload_n hx hb d_AS_newLength_9 rfl (lv_at hl 0 rfl) ?_
  refine xc_ge (tgt := 21) (a := 0) (b := 15) hx hb (by omega) (by omega) d_AS_newLength_10 (by decide) (fun c_10 => ?_) (fun c_10 => ?_)
  · omega
  · refine lv_iload_n hx hb d_AS_newLength_13 rfl (lv_at hl 0 rfl) ?_
    refine lv_ldc (v := 2147483639) hx hb hown (htw _ cn_AS_200 _) d_AS_newLength_14 ?_
    refine lv_icmp_gt (tgt := 21) hx hb d_AS_newLength_16 (by decide) (fun c_16 => ?_) (fun c_16 => ?_)
    · exact absurd c_16 (by decide)
    · refine lv_iload_n hx hb d_AS_newLength_19 rfl (lv_at hl 0 rfl) ?_
      exact xr_iret hx hb hr hlocks hP hD hS (Nat.le_of_ble_eq_true rfl) (Nat.le_of_ble_eq_true rfl) (⟨rfl, rfl⟩) d_AS_newLength_20

abbrev q_AL_growI_first (K : Nat → ClassId) (l0 : Nat) (mc : Int32) : Nat → va_W → Prop := fun r u => ∃ qn : Nat, u = [(l0, .inr (7, [.int mc, .ref qn, .int (nI 0)])), (qn, .inl (K 4, 10, .inr (.inr (.inr (.inr (fun _ => none))))))] ∧ r = qn
set_option maxHeartbeats 4000000 in
set_option maxRecDepth 100000 in
theorem c_AL_growI_first (l : Launch) (D : va_G) (K : Nat → ClassId) (l0 : Nat) (mc : Int32)  : CR l y_AL_grow_IaLObject b_AL_grow_IaLObject 4 (.array (.object "java/lang/Object")) ({ frames := 1, cells := 1, slots := 10, locals := 40 } : Room) D K [.ref l0, .int (nI 1)] [(l0, .inr (7, [.int mc, .ref (K 5), .int (nI 0)]))] (q_AL_growI_first K l0 mc) := by
  refine CR_of (by decide) (Nat.le_of_ble_eq_true rfl) ?_
  intro p e s m below meth c A b0 ls hF hA hP hD hl
  have hF2 := hF
  obtain ⟨hx, hb, hr, hml, hown, htw, hK, hlocks, hname⟩ := hF
  have hS : va_S A s.heap s.heap [] := va_S.rf
  have hl : lv_has ls 4 [(0, .ref l0), (1, .int (nI 1))] := hl
  refine lv_aload_n hx hb d_AL_grow_IaLObject_0 rfl (lv_at hl 0 rfl) ?_
  refine xg hx hb hown htw hK hP 0 1 rfl k_AL (by decide) fl_AL_9 rfl d_AL_grow_IaLObject_1 ?_
  refine xtlen0 hx hb hA hS d_AL_grow_IaLObject_4 ?_
  refine lv_istore_n (lv' := [(2, .int (nI 0)), (0, .ref l0), (1, .int (nI 1))]) hx hb d_AL_grow_IaLObject_5 rfl hl (by decide) rfl (fun ls hl => ?_)
  refine lv_iload_n hx hb d_AL_grow_IaLObject_6 rfl (lv_at hl 0 rfl) ?_
  refine xz_gt (tgt := 20) (a := 0) hx hb (by omega) d_AL_grow_IaLObject_7 (by decide) (fun c_7 => ?_) (fun c_7 => ?_)
  · omega
  · refine lv_aload_n hx hb d_AL_grow_IaLObject_10 rfl (lv_at hl 1 rfl) ?_
    refine xg hx hb hown htw hK hP 0 1 rfl k_AL (by decide) fl_AL_9 rfl d_AL_grow_IaLObject_11 ?_
    refine xgetst hx hb hown htw hA hS fl_AL_39 d_AL_grow_IaLObject_14 ?_
    refine lv_acmp_eq (tgt := 45) (rx := some (K 5)) (ry := some (K 5)) hx hb d_AL_grow_IaLObject_17 (by decide) (fun c_17 => ?_) (fun c_17 => ?_)
    · refine lv_aload_n hx hb d_AL_grow_IaLObject_45 rfl (lv_at hl 1 rfl) ?_
      refine lv_bipush (v := nI 10) hx hb d_AL_grow_IaLObject_46 (by decide) ?_
      refine lv_iload_n hx hb d_AL_grow_IaLObject_48 rfl (lv_at hl 2 rfl) ?_
      refine va_mmax hx hb (by rw [hml]; exact hl.1.symm) hown (htw _ ml_AL_79 _) (htw _ w_Ma_max.1 _) (htw _ w_Ma_max.2.1 _) (htw _ w_Ma_max.2.2.1 _) (Nat.le_of_ble_eq_true rfl) (Nat.le_of_ble_eq_true rfl) (Nat.le_of_ble_eq_true rfl) (Nat.le_of_ble_eq_true rfl) d_AL_grow_IaLObject_49 ?_
      refine xi (y := nI 10) (by decide) ?_
      refine xnewq_o (n := 10) hx hb hown cl_AL_7 htw hK hP hD hS hA (by omega) (Nat.le_of_ble_eq_true rfl) (Nat.le_of_ble_eq_true rfl) d_AL_grow_IaLObject_52 (fun q52 H hP hD hS => ?_)
      have hP : va_P D classes [(l0, .inr (7, [.int mc, .ref (K 5), .int (nI 0)])), (q52, .inl (K 4, 10, .inr (.inr (.inr (.inr (fun _ => none))))))] H := hP
      have hD : va_D A [(l0, .inr (7, [.int mc, .ref (K 5), .int (nI 0)])), (q52, .inl (K 4, 10, .inr (.inr (.inr (.inr (fun _ => none))))))] := hD
      refine lv_dup_x1 hx hb d_AL_grow_IaLObject_55 rfl rfl ?_
      refine xpt hx hb hown htw hK hP hD hS 0 1 rfl k_AL (by decide) fl_AL_9 rfl rfl rfl (Nat.le_of_ble_eq_true rfl) d_AL_grow_IaLObject_56 (fun H locs hP hD hS => ?_)
      have hP : va_P D classes [(l0, .inr (7, [.int mc, .ref q52, .int (nI 0)])), (q52, .inl (K 4, 10, .inr (.inr (.inr (.inr (fun _ => none))))))] H := hP
      have hD : va_D A [(l0, .inr (7, [.int mc, .ref q52, .int (nI 0)])), (q52, .inl (K 4, 10, .inr (.inr (.inr (.inr (fun _ => none))))))] := hD
      exact xr_aret (by first | exact Or.inl ⟨_, rfl⟩ | exact Or.inr ⟨_, rfl⟩) hx hb hr hlocks hP hD hS (Nat.le_of_ble_eq_true rfl) (Nat.le_of_ble_eq_true rfl) (⟨_, rfl, rfl⟩) d_AL_grow_IaLObject_59
    · exact absurd rfl c_17

abbrev q_AL_growI_ten (K : Nat → ClassId) (l0 : Nat) (mc : Int32) (l1 : Nat) (ef : Nat → Option Nat) (tl : va_W) : Nat → va_W → Prop := fun r u => ∃ qn : Nat, ∃ gn : Nat → Option Nat, u = ([(l0, .inr (7, [.int mc, .ref qn, .int (nI 10)])), (qn, .inl (K 4, 15, .inr (.inr (.inr (.inr gn)))))] ++ tl) ∧ r = qn ∧ (∀ i, i < 10 → gn i = ef i)
set_option maxHeartbeats 4000000 in
set_option maxRecDepth 100000 in
theorem c_AL_growI_ten (l : Launch) (D : va_G) (K : Nat → ClassId) (l0 : Nat) (mc : Int32) (l1 : Nat) (ef : Nat → Option Nat) (tl : va_W) (hel : ∀ i, i < 10 → ∀ y : Nat, ef i = some y → ∃ (k : Nat) (fs : List Value), tl[k]? = some (y, .inr (3, fs))) : CR l y_AL_grow_IaLObject b_AL_grow_IaLObject 4 (.array (.object "java/lang/Object")) ({ frames := 3, cells := 1, slots := 15, locals := 100 } : Room) D K [.ref l0, .int (nI 11)] ([(l0, .inr (7, [.int mc, .ref l1, .int (nI 10)])), (l1, .inl (K 4, 10, .inr (.inr (.inr (.inr ef)))))] ++ tl) (q_AL_growI_ten K l0 mc l1 ef tl) := by
  refine CR_of (by decide) (Nat.le_of_ble_eq_true rfl) ?_
  intro p e s m below meth c A b0 ls hF hA hP hD hl
  have hF2 := hF
  obtain ⟨hx, hb, hr, hml, hown, htw, hK, hlocks, hname⟩ := hF
  have hS : va_S A s.heap s.heap [] := va_S.rf
  have hl : lv_has ls 4 [(0, .ref l0), (1, .int (nI 11))] := hl
  refine lv_aload_n hx hb d_AL_grow_IaLObject_0 rfl (lv_at hl 0 rfl) ?_
  refine xg hx hb hown htw hK hP 0 1 rfl k_AL (by decide) fl_AL_9 rfl d_AL_grow_IaLObject_1 ?_
  refine xalen (t0 := 4) (n := 10) hx hb hK hP 1 rfl rfl rfl d_AL_grow_IaLObject_4 ?_
  refine lv_istore_n (lv' := [(2, .int (nI 10)), (0, .ref l0), (1, .int (nI 11))]) hx hb d_AL_grow_IaLObject_5 rfl hl (by decide) rfl (fun ls hl => ?_)
  refine lv_iload_n hx hb d_AL_grow_IaLObject_6 rfl (lv_at hl 0 rfl) ?_
  refine xz_gt (tgt := 20) (a := 10) hx hb (by omega) d_AL_grow_IaLObject_7 (by decide) (fun c_7 => ?_) (fun c_7 => ?_)
  · refine lv_iload_n hx hb d_AL_grow_IaLObject_20 rfl (lv_at hl 0 rfl) ?_
    refine lv_iload_n hx hb d_AL_grow_IaLObject_21 rfl (lv_at hl 2 rfl) ?_
    refine lv_iload_n hx hb d_AL_grow_IaLObject_22 rfl (lv_at hl 0 rfl) ?_
    refine lv_isub hx hb d_AL_grow_IaLObject_23 ?_
    refine xi (y := nI 1) (by decide) ?_
    refine lv_iload_n hx hb d_AL_grow_IaLObject_24 rfl (lv_at hl 0 rfl) ?_
    refine lv_iconst (v := nI 1) hx hb d_AL_grow_IaLObject_25 (by decide) ?_
    refine lv_ishr hx hb d_AL_grow_IaLObject_26 ?_
    refine xi (y := nI 5) (by decide) ?_
    obtain ⟨hP, hD⟩ := xpT (E' := [(l0, .inr (7, [.int mc, .ref l1, .int (nI 10)])), (l1, .inl (K 4, 10, .inr (.inr (.inr (.inr ef)))))]) [0, 1] (by decide) rfl hP hD
    obtain ⟨hP, hD⟩ := xperm (ws' := ([(l0, .inr (7, [.int mc, .ref l1, .int (nI 10)])), (l1, .inl (K 4, 10, .inr (.inr (.inr (.inr ef)))))] ++ tl) ++ []) (pm_mid [(l0, .inr (7, [.int mc, .ref l1, .int (nI 10)])), (l1, .inl (K 4, 10, .inr (.inr (.inr (.inr ef)))))] [] tl) hP hD
    refine xcS_i (As := [.int (nI 10), .int (nI 1), .int (nI 5)]) (rest := []) (wr := ([(l0, .inr (7, [.int mc, .ref l1, .int (nI 10)])), (l1, .inl (K 4, 10, .inr (.inr (.inr (.inr ef)))))] ++ tl)) hx hb hml hown htw hK hA hl.1 hP hD hS (c_AS_newLength l D K  ) (ixC ([(l0, .inr (7, [.int mc, .ref l1, .int (nI 10)])), (l1, .inl (K 4, 10, .inr (.inr (.inr (.inr ef)))))] ++ tl) []) (ixR ([(l0, .inr (7, [.int mc, .ref l1, .int (nI 10)])), (l1, .inl (K 4, 10, .inr (.inr (.inr (.inr ef)))))] ++ tl)) (ap_C _ _) (ap_R _ _) (nd_C _ _) (nd_R _) (ds_RC _ _) ml_AL_73 w_AS_newLength rfl ⟨by decide, by decide⟩ rfl (Nat.le_of_ble_eq_true rfl) ⟨by decide, by decide⟩ d_AL_grow_IaLObject_27 (fun r u H locs hpost hP hD hS => ?_)
    obtain ⟨rfl, rfl⟩ := hpost
    obtain ⟨hP, hD⟩ := xperm (ws' := ([(l0, .inr (7, [.int mc, .ref l1, .int (nI 10)])), (l1, .inl (K 4, 10, .inr (.inr (.inr (.inr ef)))))] ++ tl)) (pm_new [(l0, .inr (7, [.int mc, .ref l1, .int (nI 10)])), (l1, .inl (K 4, 10, .inr (.inr (.inr (.inr ef)))))] tl []) hP hD
    have hP : va_P D classes ([(l0, .inr (7, [.int mc, .ref l1, .int (nI 10)])), (l1, .inl (K 4, 10, .inr (.inr (.inr (.inr ef)))))] ++ tl) H := hP
    have hD : va_D A ([(l0, .inr (7, [.int mc, .ref l1, .int (nI 10)])), (l1, .inl (K 4, 10, .inr (.inr (.inr (.inr ef)))))] ++ tl) := hD
    refine lv_istore_n (lv' := [(3, .int (nI 15)), (2, .int (nI 10)), (0, .ref l0), (1, .int (nI 11))]) hx hb d_AL_grow_IaLObject_30 rfl hl (by decide) rfl (fun ls hl => ?_)
    refine lv_aload_n hx hb d_AL_grow_IaLObject_31 rfl (lv_at hl 2 rfl) ?_
    refine lv_aload_n hx hb d_AL_grow_IaLObject_32 rfl (lv_at hl 2 rfl) ?_
    refine xg hx hb hown htw hK hP 0 1 rfl k_AL (by decide) fl_AL_9 rfl d_AL_grow_IaLObject_33 ?_
    refine lv_iload_n hx hb d_AL_grow_IaLObject_36 rfl (lv_at hl 0 rfl) ?_
    obtain ⟨hP, hD⟩ := xpT (E' := [(l0, .inr (7, [.int mc, .ref l1, .int (nI 10)])), (l1, .inl (K 4, 10, .inr (.inr (.inr (.inr ef)))))]) [0, 1] (by decide) rfl hP hD
    obtain ⟨hP, hD⟩ := xperm (ws' := [(l0, .inr (7, [.int mc, .ref l1, .int (nI 10)]))] ++ ([(l1, .inl (K 4, 10, .inr (.inr (.inr (.inr ef)))))] ++ tl)) (pm_as [(l0, .inr (7, [.int mc, .ref l1, .int (nI 10)]))] [(l1, .inl (K 4, 10, .inr (.inr (.inr (.inr ef)))))] tl) hP hD
    refine xcS_r (As := [.ref l1, .int (nI 15)]) (rest := [.ref l0]) (wr := [(l0, .inr (7, [.int mc, .ref l1, .int (nI 10)]))]) hx hb hml hown htw hK hA hl.1 hP hD hS (c_Ar_copyOf_aLObjectIaLObject l D K l1 ef tl (by first | assumption | omega)) (ixC [(l0, .inr (7, [.int mc, .ref l1, .int (nI 10)]))] ([(l1, .inl (K 4, 10, .inr (.inr (.inr (.inr ef)))))] ++ tl)) (ixR [(l0, .inr (7, [.int mc, .ref l1, .int (nI 10)]))]) (ap_C _ _) (ap_R _ _) (nd_C _ _) (nd_R _) (ds_RC _ _) ml_AL_66 w_Ar_copyOf_aLObjectIaLObject rfl ⟨by decide, by decide⟩ rfl (Nat.le_of_ble_eq_true rfl) ⟨by decide, by decide⟩ d_AL_grow_IaLObject_37 (fun r_37 u H locs hpost hP hD hS => ?_)
    obtain ⟨qn_37, gn_37, rfl, hr_37, hgn_37⟩ := hpost
    replace hr_37 := hr_37.symm
    subst hr_37
    obtain ⟨hP, hD⟩ := xperm (ws' := ([(l0, .inr (7, [.int mc, .ref l1, .int (nI 10)])), (l1, .inl (K 4, 10, .inr (.inr (.inr (.inr ef))))), (qn_37, .inl (K 4, 15, .inr (.inr (.inr (.inr gn_37)))))] ++ tl)) (pm_as [(l0, .inr (7, [.int mc, .ref l1, .int (nI 10)]))] [(l1, .inl (K 4, 10, .inr (.inr (.inr (.inr ef))))), (qn_37, .inl (K 4, 15, .inr (.inr (.inr (.inr gn_37)))))] tl).symm hP hD
    have hP : va_P D classes ([(l0, .inr (7, [.int mc, .ref l1, .int (nI 10)])), (l1, .inl (K 4, 10, .inr (.inr (.inr (.inr ef))))), (qn_37, .inl (K 4, 15, .inr (.inr (.inr (.inr gn_37)))))] ++ tl) H := hP
    have hD : va_D A ([(l0, .inr (7, [.int mc, .ref l1, .int (nI 10)])), (l1, .inl (K 4, 10, .inr (.inr (.inr (.inr ef))))), (qn_37, .inl (K 4, 15, .inr (.inr (.inr (.inr gn_37)))))] ++ tl) := hD
    refine lv_dup_x1 hx hb d_AL_grow_IaLObject_40 rfl rfl ?_
    refine xpt hx hb hown htw hK hP hD hS 0 1 rfl k_AL (by decide) fl_AL_9 rfl rfl rfl (Nat.le_of_ble_eq_true rfl) d_AL_grow_IaLObject_41 (fun H locs hP hD hS => ?_)
    have hP : va_P D classes ([(l0, .inr (7, [.int mc, .ref qn_37, .int (nI 10)])), (l1, .inl (K 4, 10, .inr (.inr (.inr (.inr ef))))), (qn_37, .inl (K 4, 15, .inr (.inr (.inr (.inr gn_37)))))] ++ tl) H := hP
    have hD : va_D A ([(l0, .inr (7, [.int mc, .ref qn_37, .int (nI 10)])), (l1, .inl (K 4, 10, .inr (.inr (.inr (.inr ef))))), (qn_37, .inl (K 4, 15, .inr (.inr (.inr (.inr gn_37)))))] ++ tl) := hD
    obtain ⟨hP, hD⟩ := xpT (E' := [(l0, .inr (7, [.int mc, .ref qn_37, .int (nI 10)])), (qn_37, .inl (K 4, 15, .inr (.inr (.inr (.inr gn_37)))))]) [0, 2] (by decide) rfl hP hD
    exact xr_aret (by first | exact Or.inl ⟨_, rfl⟩ | exact Or.inr ⟨_, rfl⟩) hx hb hr hlocks hP hD hS (Nat.le_of_ble_eq_true rfl) (Nat.le_of_ble_eq_true rfl) (⟨_, _, rfl, rfl, hgn_37⟩) d_AL_grow_IaLObject_44
  · omega

abbrev q_AL_grow_first (K : Nat → ClassId) (l0 : Nat) (mc : Int32) : Nat → va_W → Prop := fun r u => ∃ qn : Nat, u = [(l0, .inr (7, [.int mc, .ref qn, .int (nI 0)])), (qn, .inl (K 4, 10, .inr (.inr (.inr (.inr (fun _ => none))))))] ∧ r = qn
set_option maxHeartbeats 4000000 in
set_option maxRecDepth 100000 in
theorem c_AL_grow_first (l : Launch) (D : va_G) (K : Nat → ClassId) (l0 : Nat) (mc : Int32)  : CR l y_AL_grow_aLObject b_AL_grow_aLObject 1 (.array (.object "java/lang/Object")) ({ frames := 2, cells := 1, slots := 10, locals := 100 } : Room) D K [.ref l0] [(l0, .inr (7, [.int mc, .ref (K 5), .int (nI 0)]))] (q_AL_grow_first K l0 mc) := by
  refine CR_of (by decide) (Nat.le_of_ble_eq_true rfl) ?_
  intro p e s m below meth c A b0 ls hF hA hP hD hl
  have hF2 := hF
  obtain ⟨hx, hb, hr, hml, hown, htw, hK, hlocks, hname⟩ := hF
  have hS : va_S A s.heap s.heap [] := va_S.rf
  have hl : lv_has ls 1 [(0, .ref l0)] := hl
  refine lv_aload_n hx hb d_AL_grow_aLObject_0 rfl (lv_at hl 0 rfl) ?_
  refine lv_aload_n hx hb d_AL_grow_aLObject_1 rfl (lv_at hl 0 rfl) ?_
  refine xg hx hb hown htw hK hP 0 2 rfl k_AL (by decide) fl_AL_48 rfl d_AL_grow_aLObject_2 ?_
  refine lv_iconst (v := nI 1) hx hb d_AL_grow_aLObject_5 (by decide) ?_
  refine lv_iadd hx hb d_AL_grow_aLObject_6 ?_
  refine xi (y := nI 1) (by decide) ?_
  refine xcV_r (As := [.int (nI 1)]) (rest := []) (wr := []) hx hb hml hown htw hK hA hl.1 hP hD hS (c_AL_growI_first l D K l0 mc ) [0] [] rfl rfl (by decide) (by decide) (by decide) 0 rfl k_AL ml_AL_69 w_AL_grow_IaLObject rfl ⟨by decide, by decide⟩ rfl (Nat.le_of_ble_eq_true rfl) ⟨by decide, by decide⟩ d_AL_grow_aLObject_7 (fun r_7 u H locs hpost hP hD hS => ?_)
  obtain ⟨qn_7, rfl, hr_7⟩ := hpost
  replace hr_7 := hr_7.symm
  subst hr_7
  have hP : va_P D classes [(l0, .inr (7, [.int mc, .ref qn_7, .int (nI 0)])), (qn_7, .inl (K 4, 10, .inr (.inr (.inr (.inr (fun _ => none))))))] H := hP
  have hD : va_D A [(l0, .inr (7, [.int mc, .ref qn_7, .int (nI 0)])), (qn_7, .inl (K 4, 10, .inr (.inr (.inr (.inr (fun _ => none))))))] := hD
  exact xr_aret (by first | exact Or.inl ⟨_, rfl⟩ | exact Or.inr ⟨_, rfl⟩) hx hb hr hlocks hP hD hS (Nat.le_of_ble_eq_true rfl) (Nat.le_of_ble_eq_true rfl) (⟨_, rfl, rfl⟩) d_AL_grow_aLObject_10

abbrev q_AL_grow_ten (K : Nat → ClassId) (l0 : Nat) (mc : Int32) (l1 : Nat) (ef : Nat → Option Nat) (tl : va_W) : Nat → va_W → Prop := fun r u => ∃ qn : Nat, ∃ gn : Nat → Option Nat, u = ([(l0, .inr (7, [.int mc, .ref qn, .int (nI 10)])), (qn, .inl (K 4, 15, .inr (.inr (.inr (.inr gn)))))] ++ tl) ∧ r = qn ∧ (∀ i, i < 10 → gn i = ef i)
set_option maxHeartbeats 4000000 in
set_option maxRecDepth 100000 in
theorem c_AL_grow_ten (l : Launch) (D : va_G) (K : Nat → ClassId) (l0 : Nat) (mc : Int32) (l1 : Nat) (ef : Nat → Option Nat) (tl : va_W) (hel : ∀ i, i < 10 → ∀ y : Nat, ef i = some y → ∃ (k : Nat) (fs : List Value), tl[k]? = some (y, .inr (3, fs))) : CR l y_AL_grow_aLObject b_AL_grow_aLObject 1 (.array (.object "java/lang/Object")) ({ frames := 4, cells := 1, slots := 15, locals := 140 } : Room) D K [.ref l0] ([(l0, .inr (7, [.int mc, .ref l1, .int (nI 10)])), (l1, .inl (K 4, 10, .inr (.inr (.inr (.inr ef)))))] ++ tl) (q_AL_grow_ten K l0 mc l1 ef tl) := by
  refine CR_of (by decide) (Nat.le_of_ble_eq_true rfl) ?_
  intro p e s m below meth c A b0 ls hF hA hP hD hl
  have hF2 := hF
  obtain ⟨hx, hb, hr, hml, hown, htw, hK, hlocks, hname⟩ := hF
  have hS : va_S A s.heap s.heap [] := va_S.rf
  have hl : lv_has ls 1 [(0, .ref l0)] := hl
  refine lv_aload_n hx hb d_AL_grow_aLObject_0 rfl (lv_at hl 0 rfl) ?_
  refine lv_aload_n hx hb d_AL_grow_aLObject_1 rfl (lv_at hl 0 rfl) ?_
  refine xg hx hb hown htw hK hP 0 2 rfl k_AL (by decide) fl_AL_48 rfl d_AL_grow_aLObject_2 ?_
  refine lv_iconst (v := nI 1) hx hb d_AL_grow_aLObject_5 (by decide) ?_
  refine lv_iadd hx hb d_AL_grow_aLObject_6 ?_
  refine xi (y := nI 11) (by decide) ?_
  obtain ⟨hP, hD⟩ := xpT (E' := [(l0, .inr (7, [.int mc, .ref l1, .int (nI 10)])), (l1, .inl (K 4, 10, .inr (.inr (.inr (.inr ef)))))]) [0, 1] (by decide) rfl hP hD
  obtain ⟨hP, hD⟩ := xperm (ws' := [] ++ ([(l0, .inr (7, [.int mc, .ref l1, .int (nI 10)])), (l1, .inl (K 4, 10, .inr (.inr (.inr (.inr ef)))))] ++ tl)) (pm_as [] [(l0, .inr (7, [.int mc, .ref l1, .int (nI 10)])), (l1, .inl (K 4, 10, .inr (.inr (.inr (.inr ef)))))] tl) hP hD
  refine xcV_r (As := [.int (nI 11)]) (rest := []) (wr := []) hx hb hml hown htw hK hA hl.1 hP hD hS (c_AL_growI_ten l D K l0 mc l1 ef tl (by first | assumption | omega)) (ixC [] ([(l0, .inr (7, [.int mc, .ref l1, .int (nI 10)])), (l1, .inl (K 4, 10, .inr (.inr (.inr (.inr ef)))))] ++ tl)) (ixR []) (ap_C _ _) (ap_R _ _) (nd_C _ _) (nd_R _) (ds_RC _ _) 0 rfl k_AL ml_AL_69 w_AL_grow_IaLObject rfl ⟨by decide, by decide⟩ rfl (Nat.le_of_ble_eq_true rfl) ⟨by decide, by decide⟩ d_AL_grow_aLObject_7 (fun r_7 u H locs hpost hP hD hS => ?_)
  obtain ⟨qn_7, gn_7, rfl, hr_7, hgn_7⟩ := hpost
  replace hr_7 := hr_7.symm
  subst hr_7
  obtain ⟨hP, hD⟩ := xperm (ws' := ([(l0, .inr (7, [.int mc, .ref qn_7, .int (nI 10)])), (qn_7, .inl (K 4, 15, .inr (.inr (.inr (.inr gn_7)))))] ++ tl)) (pm_as [] [(l0, .inr (7, [.int mc, .ref qn_7, .int (nI 10)])), (qn_7, .inl (K 4, 15, .inr (.inr (.inr (.inr gn_7)))))] tl).symm hP hD
  have hP : va_P D classes ([(l0, .inr (7, [.int mc, .ref qn_7, .int (nI 10)])), (qn_7, .inl (K 4, 15, .inr (.inr (.inr (.inr gn_7)))))] ++ tl) H := hP
  have hD : va_D A ([(l0, .inr (7, [.int mc, .ref qn_7, .int (nI 10)])), (qn_7, .inl (K 4, 15, .inr (.inr (.inr (.inr gn_7)))))] ++ tl) := hD
  exact xr_aret (by first | exact Or.inl ⟨_, rfl⟩ | exact Or.inr ⟨_, rfl⟩) hx hb hr hlocks hP hD hS (Nat.le_of_ble_eq_true rfl) (Nat.le_of_ble_eq_true rfl) (⟨_, _, rfl, rfl, hgn_7⟩) d_AL_grow_aLObject_10

abbrev q_AL_addV_first (K : Nat → ClassId) (l0 : Nat) (mc : Int32) (q0 : Nat) (u1 : Nat) (u2 : Nat) (u3 : Nat) (u4 : Nat) (u5 : Nat) : va_W → Prop := fun u => ∃ qn : Nat, u = [(l0, .inr (7, [.int mc, .ref qn, .int (nI 1)])), (qn, .inl (K 4, 10, .inr (.inr (.inr (.inr (va_up (fun _ => none) 0 (some q0))))))), (q0, .inr (3, [.int (nI u1), .int (nI u2), .int (nI u3), .int (nI u4), .int (nI u5)]))]
set_option maxHeartbeats 4000000 in
set_option maxRecDepth 100000 in
theorem c_AL_addV_first (l : Launch) (D : va_G) (K : Nat → ClassId) (l0 : Nat) (mc : Int32) (q0 : Nat) (u1 : Nat) (u2 : Nat) (u3 : Nat) (u4 : Nat) (u5 : Nat)  : CV l y_AL_add_LObjectaLObjectIV b_AL_add_LObjectaLObjectIV 4 ({ frames := 3, cells := 1, slots := 10, locals := 140 } : Room) D K [.ref l0, .ref q0, .ref (K 5), .int (nI 0)] [(l0, .inr (7, [.int mc, .ref (K 5), .int (nI 0)])), (q0, .inr (3, [.int (nI u1), .int (nI u2), .int (nI u3), .int (nI u4), .int (nI u5)]))] (q_AL_addV_first K l0 mc q0 u1 u2 u3 u4 u5) := by
  refine CV_of (by decide) (Nat.le_of_ble_eq_true rfl) ?_
  intro p e s m below meth c A b0 ls hF hA hP hD hl
  have hF2 := hF
  obtain ⟨hx, hb, hr, hml, hown, htw, hK, hlocks, hname⟩ := hF
  have hS : va_S A s.heap s.heap [] := va_S.rf
  have hl : lv_has ls 4 [(0, .ref l0), (1, .ref q0), (2, .ref (K 5)), (3, .int (nI 0))] := hl
  refine lv_iload_n hx hb d_AL_add_LObjectaLObjectIV_0 rfl (lv_at hl 3 rfl) ?_
  refine lv_aload_n hx hb d_AL_add_LObjectaLObjectIV_1 rfl (lv_at hl 2 rfl) ?_
  refine xtlen0 hx hb hA hS d_AL_add_LObjectaLObjectIV_2 ?_
  refine xc_ne (tgt := 11) (a := 0) (b := 0) hx hb (by omega) (by omega) d_AL_add_LObjectaLObjectIV_3 (by decide) (fun c_3 => ?_) (fun c_3 => ?_)
  · omega
  · refine lv_aload_n hx hb d_AL_add_LObjectaLObjectIV_6 rfl (lv_at hl 0 rfl) ?_
    refine xcV_r (As := []) (rest := []) (wr := [(q0, .inr (3, [.int (nI u1), .int (nI u2), .int (nI u3), .int (nI u4), .int (nI u5)]))]) hx hb hml hown htw hK hA hl.1 hP hD hS (c_AL_grow_first l D K l0 mc ) [0] [1] rfl rfl (by decide) (by decide) (by decide) 0 rfl k_AL ml_AL_129 w_AL_grow_aLObject rfl ⟨by decide, by decide⟩ rfl (Nat.le_of_ble_eq_true rfl) ⟨by decide, by decide⟩ d_AL_add_LObjectaLObjectIV_7 (fun r_7 u H locs hpost hP hD hS => ?_)
    obtain ⟨qn_7, rfl, hr_7⟩ := hpost
    replace hr_7 := hr_7.symm
    subst hr_7
    have hP : va_P D classes [(q0, .inr (3, [.int (nI u1), .int (nI u2), .int (nI u3), .int (nI u4), .int (nI u5)])), (l0, .inr (7, [.int mc, .ref qn_7, .int (nI 0)])), (qn_7, .inl (K 4, 10, .inr (.inr (.inr (.inr (fun _ => none))))))] H := hP
    have hD : va_D A [(q0, .inr (3, [.int (nI u1), .int (nI u2), .int (nI u3), .int (nI u4), .int (nI u5)])), (l0, .inr (7, [.int mc, .ref qn_7, .int (nI 0)])), (qn_7, .inl (K 4, 10, .inr (.inr (.inr (.inr (fun _ => none))))))] := hD
    refine lv_astore_n (lv' := [(2, .ref qn_7), (0, .ref l0), (1, .ref q0), (3, .int (nI 0))]) hx hb d_AL_add_LObjectaLObjectIV_10 rfl hl (by decide) rfl (fun ls hl => ?_)
    refine lv_aload_n hx hb d_AL_add_LObjectaLObjectIV_11 rfl (lv_at hl 0 rfl) ?_
    refine lv_iload_n hx hb d_AL_add_LObjectaLObjectIV_12 rfl (lv_at hl 3 rfl) ?_
    refine lv_aload_n hx hb d_AL_add_LObjectaLObjectIV_13 rfl (lv_at hl 2 rfl) ?_
    refine xast_o (t0 := 4) (qk := 0) hx hb htw hK hP hD hS 2 rfl rfl w_casSg rfl k_Sg (by decide) (by decide) d_AL_add_LObjectaLObjectIV_14 (fun H locs hP hD hS => ?_)
    have hP : va_P D classes [(q0, .inr (3, [.int (nI u1), .int (nI u2), .int (nI u3), .int (nI u4), .int (nI u5)])), (l0, .inr (7, [.int mc, .ref qn_7, .int (nI 0)])), (qn_7, .inl (K 4, 10, .inr (.inr (.inr (.inr (va_up (fun _ => none) 0 (some q0)))))))] H := hP
    have hD : va_D A [(q0, .inr (3, [.int (nI u1), .int (nI u2), .int (nI u3), .int (nI u4), .int (nI u5)])), (l0, .inr (7, [.int mc, .ref qn_7, .int (nI 0)])), (qn_7, .inl (K 4, 10, .inr (.inr (.inr (.inr (va_up (fun _ => none) 0 (some q0)))))))] := hD
    refine lv_aload_n hx hb d_AL_add_LObjectaLObjectIV_15 rfl (lv_at hl 1 rfl) ?_
    refine lv_iload_n hx hb d_AL_add_LObjectaLObjectIV_16 rfl (lv_at hl 3 rfl) ?_
    refine lv_iconst (v := nI 1) hx hb d_AL_add_LObjectaLObjectIV_17 (by decide) ?_
    refine lv_iadd hx hb d_AL_add_LObjectaLObjectIV_18 ?_
    refine xi (y := nI 1) (by decide) ?_
    refine xpt hx hb hown htw hK hP hD hS 1 2 rfl k_AL (by decide) fl_AL_48 rfl rfl rfl (Nat.le_of_ble_eq_true rfl) d_AL_add_LObjectaLObjectIV_19 (fun H locs hP hD hS => ?_)
    have hP : va_P D classes [(q0, .inr (3, [.int (nI u1), .int (nI u2), .int (nI u3), .int (nI u4), .int (nI u5)])), (l0, .inr (7, [.int mc, .ref qn_7, .int (nI 1)])), (qn_7, .inl (K 4, 10, .inr (.inr (.inr (.inr (va_up (fun _ => none) 0 (some q0)))))))] H := hP
    have hD : va_D A [(q0, .inr (3, [.int (nI u1), .int (nI u2), .int (nI u3), .int (nI u4), .int (nI u5)])), (l0, .inr (7, [.int mc, .ref qn_7, .int (nI 1)])), (qn_7, .inl (K 4, 10, .inr (.inr (.inr (.inr (va_up (fun _ => none) 0 (some q0)))))))] := hD
    obtain ⟨hP, hD⟩ := xp (ws' := [(l0, .inr (7, [.int mc, .ref qn_7, .int (nI 1)])), (qn_7, .inl (K 4, 10, .inr (.inr (.inr (.inr (va_up (fun _ => none) 0 (some q0))))))), (q0, .inr (3, [.int (nI u1), .int (nI u2), .int (nI u3), .int (nI u4), .int (nI u5)]))]) hP hD [1, 2, 0] (by decide) rfl
    exact xr_vret hx hb hr hlocks hP hD hS (Nat.le_of_ble_eq_true rfl) (Nat.le_of_ble_eq_true rfl) (⟨_, rfl⟩) d_AL_add_LObjectaLObjectIV_22

abbrev q_AL_addV_ten (K : Nat → ClassId) (l0 : Nat) (mc : Int32) (l1 : Nat) (ef : Nat → Option Nat) (q0 : Nat) (u1 : Nat) (u2 : Nat) (u3 : Nat) (u4 : Nat) (u5 : Nat) (tl : va_W) : va_W → Prop := fun u => ∃ qn : Nat, ∃ gn : Nat → Option Nat, u = ([(l0, .inr (7, [.int mc, .ref qn, .int (nI 11)])), (qn, .inl (K 4, 15, .inr (.inr (.inr (.inr (va_up gn 10 (some q0))))))), (q0, .inr (3, [.int (nI u1), .int (nI u2), .int (nI u3), .int (nI u4), .int (nI u5)]))] ++ tl) ∧ (∀ i, i < 10 → gn i = ef i)
set_option maxHeartbeats 4000000 in
set_option maxRecDepth 100000 in
theorem c_AL_addV_ten (l : Launch) (D : va_G) (K : Nat → ClassId) (l0 : Nat) (mc : Int32) (l1 : Nat) (ef : Nat → Option Nat) (q0 : Nat) (u1 : Nat) (u2 : Nat) (u3 : Nat) (u4 : Nat) (u5 : Nat) (tl : va_W) (hel : ∀ i, i < 10 → ∀ y : Nat, ef i = some y → ∃ (k : Nat) (fs : List Value), tl[k]? = some (y, .inr (3, fs))) : CV l y_AL_add_LObjectaLObjectIV b_AL_add_LObjectaLObjectIV 4 ({ frames := 5, cells := 1, slots := 15, locals := 180 } : Room) D K [.ref l0, .ref q0, .ref l1, .int (nI 10)] ([(l0, .inr (7, [.int mc, .ref l1, .int (nI 10)])), (l1, .inl (K 4, 10, .inr (.inr (.inr (.inr ef))))), (q0, .inr (3, [.int (nI u1), .int (nI u2), .int (nI u3), .int (nI u4), .int (nI u5)]))] ++ tl) (q_AL_addV_ten K l0 mc l1 ef q0 u1 u2 u3 u4 u5 tl) := by
  refine CV_of (by decide) (Nat.le_of_ble_eq_true rfl) ?_
  intro p e s m below meth c A b0 ls hF hA hP hD hl
  have hF2 := hF
  obtain ⟨hx, hb, hr, hml, hown, htw, hK, hlocks, hname⟩ := hF
  have hS : va_S A s.heap s.heap [] := va_S.rf
  have hl : lv_has ls 4 [(0, .ref l0), (1, .ref q0), (2, .ref l1), (3, .int (nI 10))] := hl
  refine lv_iload_n hx hb d_AL_add_LObjectaLObjectIV_0 rfl (lv_at hl 3 rfl) ?_
  refine lv_aload_n hx hb d_AL_add_LObjectaLObjectIV_1 rfl (lv_at hl 2 rfl) ?_
  refine xalen (t0 := 4) (n := 10) hx hb hK hP 1 rfl rfl rfl d_AL_add_LObjectaLObjectIV_2 ?_
  refine xc_ne (tgt := 11) (a := 10) (b := 10) hx hb (by omega) (by omega) d_AL_add_LObjectaLObjectIV_3 (by decide) (fun c_3 => ?_) (fun c_3 => ?_)
  · omega
  · refine lv_aload_n hx hb d_AL_add_LObjectaLObjectIV_6 rfl (lv_at hl 0 rfl) ?_
    obtain ⟨hP, hD⟩ := xpT (E' := [(q0, .inr (3, [.int (nI u1), .int (nI u2), .int (nI u3), .int (nI u4), .int (nI u5)])), (l0, .inr (7, [.int mc, .ref l1, .int (nI 10)])), (l1, .inl (K 4, 10, .inr (.inr (.inr (.inr ef)))))]) [2, 0, 1] (by decide) rfl hP hD
    obtain ⟨hP, hD⟩ := xperm (ws' := [(q0, .inr (3, [.int (nI u1), .int (nI u2), .int (nI u3), .int (nI u4), .int (nI u5)]))] ++ ([(l0, .inr (7, [.int mc, .ref l1, .int (nI 10)])), (l1, .inl (K 4, 10, .inr (.inr (.inr (.inr ef)))))] ++ tl)) (pm_as [(q0, .inr (3, [.int (nI u1), .int (nI u2), .int (nI u3), .int (nI u4), .int (nI u5)]))] [(l0, .inr (7, [.int mc, .ref l1, .int (nI 10)])), (l1, .inl (K 4, 10, .inr (.inr (.inr (.inr ef)))))] tl) hP hD
    refine xcV_r (As := []) (rest := []) (wr := [(q0, .inr (3, [.int (nI u1), .int (nI u2), .int (nI u3), .int (nI u4), .int (nI u5)]))]) hx hb hml hown htw hK hA hl.1 hP hD hS (c_AL_grow_ten l D K l0 mc l1 ef tl (by first | assumption | omega)) (ixC [(q0, .inr (3, [.int (nI u1), .int (nI u2), .int (nI u3), .int (nI u4), .int (nI u5)]))] ([(l0, .inr (7, [.int mc, .ref l1, .int (nI 10)])), (l1, .inl (K 4, 10, .inr (.inr (.inr (.inr ef)))))] ++ tl)) (ixR [(q0, .inr (3, [.int (nI u1), .int (nI u2), .int (nI u3), .int (nI u4), .int (nI u5)]))]) (ap_C _ _) (ap_R _ _) (nd_C _ _) (nd_R _) (ds_RC _ _) 0 rfl k_AL ml_AL_129 w_AL_grow_aLObject rfl ⟨by decide, by decide⟩ rfl (Nat.le_of_ble_eq_true rfl) ⟨by decide, by decide⟩ d_AL_add_LObjectaLObjectIV_7 (fun r_7 u H locs hpost hP hD hS => ?_)
    obtain ⟨qn_7, gn_7, rfl, hr_7, hgn_7⟩ := hpost
    replace hr_7 := hr_7.symm
    subst hr_7
    obtain ⟨hP, hD⟩ := xperm (ws' := ([(q0, .inr (3, [.int (nI u1), .int (nI u2), .int (nI u3), .int (nI u4), .int (nI u5)])), (l0, .inr (7, [.int mc, .ref qn_7, .int (nI 10)])), (qn_7, .inl (K 4, 15, .inr (.inr (.inr (.inr gn_7)))))] ++ tl)) (pm_as [(q0, .inr (3, [.int (nI u1), .int (nI u2), .int (nI u3), .int (nI u4), .int (nI u5)]))] [(l0, .inr (7, [.int mc, .ref qn_7, .int (nI 10)])), (qn_7, .inl (K 4, 15, .inr (.inr (.inr (.inr gn_7)))))] tl).symm hP hD
    have hP : va_P D classes ([(q0, .inr (3, [.int (nI u1), .int (nI u2), .int (nI u3), .int (nI u4), .int (nI u5)])), (l0, .inr (7, [.int mc, .ref qn_7, .int (nI 10)])), (qn_7, .inl (K 4, 15, .inr (.inr (.inr (.inr gn_7)))))] ++ tl) H := hP
    have hD : va_D A ([(q0, .inr (3, [.int (nI u1), .int (nI u2), .int (nI u3), .int (nI u4), .int (nI u5)])), (l0, .inr (7, [.int mc, .ref qn_7, .int (nI 10)])), (qn_7, .inl (K 4, 15, .inr (.inr (.inr (.inr gn_7)))))] ++ tl) := hD
    refine lv_astore_n (lv' := [(2, .ref qn_7), (0, .ref l0), (1, .ref q0), (3, .int (nI 10))]) hx hb d_AL_add_LObjectaLObjectIV_10 rfl hl (by decide) rfl (fun ls hl => ?_)
    refine lv_aload_n hx hb d_AL_add_LObjectaLObjectIV_11 rfl (lv_at hl 0 rfl) ?_
    refine lv_iload_n hx hb d_AL_add_LObjectaLObjectIV_12 rfl (lv_at hl 3 rfl) ?_
    refine lv_aload_n hx hb d_AL_add_LObjectaLObjectIV_13 rfl (lv_at hl 2 rfl) ?_
    refine xast_o (t0 := 4) (qk := 0) hx hb htw hK hP hD hS 2 rfl rfl w_casSg rfl k_Sg (by decide) (by decide) d_AL_add_LObjectaLObjectIV_14 (fun H locs hP hD hS => ?_)
    have hP : va_P D classes ([(q0, .inr (3, [.int (nI u1), .int (nI u2), .int (nI u3), .int (nI u4), .int (nI u5)])), (l0, .inr (7, [.int mc, .ref qn_7, .int (nI 10)])), (qn_7, .inl (K 4, 15, .inr (.inr (.inr (.inr (va_up gn_7 10 (some q0)))))))] ++ tl) H := hP
    have hD : va_D A ([(q0, .inr (3, [.int (nI u1), .int (nI u2), .int (nI u3), .int (nI u4), .int (nI u5)])), (l0, .inr (7, [.int mc, .ref qn_7, .int (nI 10)])), (qn_7, .inl (K 4, 15, .inr (.inr (.inr (.inr (va_up gn_7 10 (some q0)))))))] ++ tl) := hD
    refine lv_aload_n hx hb d_AL_add_LObjectaLObjectIV_15 rfl (lv_at hl 1 rfl) ?_
    refine lv_iload_n hx hb d_AL_add_LObjectaLObjectIV_16 rfl (lv_at hl 3 rfl) ?_
    refine lv_iconst (v := nI 1) hx hb d_AL_add_LObjectaLObjectIV_17 (by decide) ?_
    refine lv_iadd hx hb d_AL_add_LObjectaLObjectIV_18 ?_
    refine xi (y := nI 11) (by decide) ?_
    refine xpt hx hb hown htw hK hP hD hS 1 2 rfl k_AL (by decide) fl_AL_48 rfl rfl rfl (Nat.le_of_ble_eq_true rfl) d_AL_add_LObjectaLObjectIV_19 (fun H locs hP hD hS => ?_)
    have hP : va_P D classes ([(q0, .inr (3, [.int (nI u1), .int (nI u2), .int (nI u3), .int (nI u4), .int (nI u5)])), (l0, .inr (7, [.int mc, .ref qn_7, .int (nI 11)])), (qn_7, .inl (K 4, 15, .inr (.inr (.inr (.inr (va_up gn_7 10 (some q0)))))))] ++ tl) H := hP
    have hD : va_D A ([(q0, .inr (3, [.int (nI u1), .int (nI u2), .int (nI u3), .int (nI u4), .int (nI u5)])), (l0, .inr (7, [.int mc, .ref qn_7, .int (nI 11)])), (qn_7, .inl (K 4, 15, .inr (.inr (.inr (.inr (va_up gn_7 10 (some q0)))))))] ++ tl) := hD
    obtain ⟨hP, hD⟩ := xpT (E' := [(l0, .inr (7, [.int mc, .ref qn_7, .int (nI 11)])), (qn_7, .inl (K 4, 15, .inr (.inr (.inr (.inr (va_up gn_7 10 (some q0))))))), (q0, .inr (3, [.int (nI u1), .int (nI u2), .int (nI u3), .int (nI u4), .int (nI u5)]))]) [1, 2, 0] (by decide) rfl hP hD
    exact xr_vret hx hb hr hlocks hP hD hS (Nat.le_of_ble_eq_true rfl) (Nat.le_of_ble_eq_true rfl) (⟨_, _, rfl, hgn_7⟩) d_AL_add_LObjectaLObjectIV_22

abbrev q_AL_add_first (K : Nat → ClassId) (l0 : Nat) (mc : Int32) (q0 : Nat) (u1 : Nat) (u2 : Nat) (u3 : Nat) (u4 : Nat) (u5 : Nat) : Int32 → va_W → Prop := fun r u => ∃ qn : Nat, u = [(l0, .inr (7, [.int (mc + nI 1), .ref qn, .int (nI 1)])), (qn, .inl (K 4, 10, .inr (.inr (.inr (.inr (va_up (fun _ => none) 0 (some q0))))))), (q0, .inr (3, [.int (nI u1), .int (nI u2), .int (nI u3), .int (nI u4), .int (nI u5)]))] ∧ r = nI 1
set_option maxHeartbeats 4000000 in
set_option maxRecDepth 100000 in
theorem c_AL_add_first (l : Launch) (D : va_G) (K : Nat → ClassId) (l0 : Nat) (mc : Int32) (q0 : Nat) (u1 : Nat) (u2 : Nat) (u3 : Nat) (u4 : Nat) (u5 : Nat)  : CI l y_AL_add_LObjectZ b_AL_add_LObjectZ 2 .boolean ({ frames := 6, cells := 1, slots := 15, locals := 220 } : Room) D K [.ref l0, .ref q0] [(l0, .inr (7, [.int mc, .ref (K 5), .int (nI 0)])), (q0, .inr (3, [.int (nI u1), .int (nI u2), .int (nI u3), .int (nI u4), .int (nI u5)]))] (q_AL_add_first K l0 mc q0 u1 u2 u3 u4 u5) := by
  refine CI_of (by decide) (Nat.le_of_ble_eq_true rfl) ?_
  intro p e s m below meth c A b0 ls hF hA hP hD hl
  have hF2 := hF
  obtain ⟨hx, hb, hr, hml, hown, htw, hK, hlocks, hname⟩ := hF
  have hS : va_S A s.heap s.heap [] := va_S.rf
  have hl : lv_has ls 2 [(0, .ref l0), (1, .ref q0)] := hl
  refine lv_aload_n hx hb d_AL_add_LObjectZ_0 rfl (lv_at hl 0 rfl) ?_
  refine lv_dup hx hb d_AL_add_LObjectZ_1 rfl ?_
  refine xgS hx hb hown htw hK hP 0 0 rfl k_AL (by decide) fl_AL_63 w_sfMC rfl d_AL_add_LObjectZ_2 ?_
  refine lv_iconst (v := nI 1) hx hb d_AL_add_LObjectZ_5 (by decide) ?_
  refine lv_iadd hx hb d_AL_add_LObjectZ_6 ?_
  refine xptS hx hb hown htw hK hP hD hS 0 0 rfl k_AL (by decide) fl_AL_63 w_sfMC rfl rfl rfl (Nat.le_of_ble_eq_true rfl) d_AL_add_LObjectZ_7 (fun H locs hP hD hS => ?_)
  have hP : va_P D classes [(l0, .inr (7, [.int (mc + (nI 1)), .ref (K 5), .int (nI 0)])), (q0, .inr (3, [.int (nI u1), .int (nI u2), .int (nI u3), .int (nI u4), .int (nI u5)]))] H := hP
  have hD : va_D A [(l0, .inr (7, [.int (mc + (nI 1)), .ref (K 5), .int (nI 0)])), (q0, .inr (3, [.int (nI u1), .int (nI u2), .int (nI u3), .int (nI u4), .int (nI u5)]))] := hD
  refine lv_aload_n hx hb d_AL_add_LObjectZ_10 rfl (lv_at hl 0 rfl) ?_
  refine lv_aload_n hx hb d_AL_add_LObjectZ_11 rfl (lv_at hl 1 rfl) ?_
  refine lv_aload_n hx hb d_AL_add_LObjectZ_12 rfl (lv_at hl 0 rfl) ?_
  refine xg hx hb hown htw hK hP 0 1 rfl k_AL (by decide) fl_AL_9 rfl d_AL_add_LObjectZ_13 ?_
  refine lv_aload_n hx hb d_AL_add_LObjectZ_16 rfl (lv_at hl 0 rfl) ?_
  refine xg hx hb hown htw hK hP 0 2 rfl k_AL (by decide) fl_AL_48 rfl d_AL_add_LObjectZ_17 ?_
  refine xcV_v (As := [.ref q0, .ref (K 5), .int (nI 0)]) (rest := []) (wr := []) hx hb hml hown htw hK hA hl.1 hP hD hS (c_AL_addV_first l D K l0 (mc + (nI 1)) q0 u1 u2 u3 u4 u5 ) [0, 1] [] rfl rfl (by decide) (by decide) (by decide) 0 rfl k_AL ml_AL_131 w_AL_add_LObjectaLObjectIV rfl ⟨by decide, by decide⟩ rfl (Nat.le_of_ble_eq_true rfl) ⟨by decide, by decide⟩ d_AL_add_LObjectZ_20 (fun u H locs hpost hP hD hS => ?_)
  obtain ⟨qn_20, rfl⟩ := hpost
  have hP : va_P D classes [(l0, .inr (7, [.int (mc + (nI 1)), .ref qn_20, .int (nI 1)])), (qn_20, .inl (K 4, 10, .inr (.inr (.inr (.inr (va_up (fun _ => none) 0 (some q0))))))), (q0, .inr (3, [.int (nI u1), .int (nI u2), .int (nI u3), .int (nI u4), .int (nI u5)]))] H := hP
  have hD : va_D A [(l0, .inr (7, [.int (mc + (nI 1)), .ref qn_20, .int (nI 1)])), (qn_20, .inl (K 4, 10, .inr (.inr (.inr (.inr (va_up (fun _ => none) 0 (some q0))))))), (q0, .inr (3, [.int (nI u1), .int (nI u2), .int (nI u3), .int (nI u4), .int (nI u5)]))] := hD
  refine lv_iconst (v := nI 1) hx hb d_AL_add_LObjectZ_23 (by decide) ?_
  exact xr_zret (by first | exact Or.inl rfl | exact Or.inr rfl | exact bN_v _) hx hb hr hlocks hP hD hS (Nat.le_of_ble_eq_true rfl) (Nat.le_of_ble_eq_true rfl) (⟨_, rfl, rfl⟩) d_AL_add_LObjectZ_24

abbrev q_AL_add_ten (K : Nat → ClassId) (l0 : Nat) (mc : Int32) (l1 : Nat) (ef : Nat → Option Nat) (q0 : Nat) (u1 : Nat) (u2 : Nat) (u3 : Nat) (u4 : Nat) (u5 : Nat) (tl : va_W) : Int32 → va_W → Prop := fun r u => ∃ qn : Nat, ∃ gn : Nat → Option Nat, u = ([(l0, .inr (7, [.int (mc + nI 1), .ref qn, .int (nI 11)])), (qn, .inl (K 4, 15, .inr (.inr (.inr (.inr (va_up gn 10 (some q0))))))), (q0, .inr (3, [.int (nI u1), .int (nI u2), .int (nI u3), .int (nI u4), .int (nI u5)]))] ++ tl) ∧ r = nI 1 ∧ (∀ i, i < 10 → gn i = ef i)
set_option maxHeartbeats 4000000 in
set_option maxRecDepth 100000 in
theorem c_AL_add_ten (l : Launch) (D : va_G) (K : Nat → ClassId) (l0 : Nat) (mc : Int32) (l1 : Nat) (ef : Nat → Option Nat) (q0 : Nat) (u1 : Nat) (u2 : Nat) (u3 : Nat) (u4 : Nat) (u5 : Nat) (tl : va_W) (hel : ∀ i, i < 10 → ∀ y : Nat, ef i = some y → ∃ (k : Nat) (fs : List Value), tl[k]? = some (y, .inr (3, fs))) : CI l y_AL_add_LObjectZ b_AL_add_LObjectZ 2 .boolean ({ frames := 6, cells := 1, slots := 15, locals := 220 } : Room) D K [.ref l0, .ref q0] ([(l0, .inr (7, [.int mc, .ref l1, .int (nI 10)])), (l1, .inl (K 4, 10, .inr (.inr (.inr (.inr ef))))), (q0, .inr (3, [.int (nI u1), .int (nI u2), .int (nI u3), .int (nI u4), .int (nI u5)]))] ++ tl) (q_AL_add_ten K l0 mc l1 ef q0 u1 u2 u3 u4 u5 tl) := by
  refine CI_of (by decide) (Nat.le_of_ble_eq_true rfl) ?_
  intro p e s m below meth c A b0 ls hF hA hP hD hl
  have hF2 := hF
  obtain ⟨hx, hb, hr, hml, hown, htw, hK, hlocks, hname⟩ := hF
  have hS : va_S A s.heap s.heap [] := va_S.rf
  have hl : lv_has ls 2 [(0, .ref l0), (1, .ref q0)] := hl
  refine lv_aload_n hx hb d_AL_add_LObjectZ_0 rfl (lv_at hl 0 rfl) ?_
  refine lv_dup hx hb d_AL_add_LObjectZ_1 rfl ?_
  refine xgS hx hb hown htw hK hP 0 0 rfl k_AL (by decide) fl_AL_63 w_sfMC rfl d_AL_add_LObjectZ_2 ?_
  refine lv_iconst (v := nI 1) hx hb d_AL_add_LObjectZ_5 (by decide) ?_
  refine lv_iadd hx hb d_AL_add_LObjectZ_6 ?_
  refine xptS hx hb hown htw hK hP hD hS 0 0 rfl k_AL (by decide) fl_AL_63 w_sfMC rfl rfl rfl (Nat.le_of_ble_eq_true rfl) d_AL_add_LObjectZ_7 (fun H locs hP hD hS => ?_)
  have hP : va_P D classes ([(l0, .inr (7, [.int (mc + (nI 1)), .ref l1, .int (nI 10)])), (l1, .inl (K 4, 10, .inr (.inr (.inr (.inr ef))))), (q0, .inr (3, [.int (nI u1), .int (nI u2), .int (nI u3), .int (nI u4), .int (nI u5)]))] ++ tl) H := hP
  have hD : va_D A ([(l0, .inr (7, [.int (mc + (nI 1)), .ref l1, .int (nI 10)])), (l1, .inl (K 4, 10, .inr (.inr (.inr (.inr ef))))), (q0, .inr (3, [.int (nI u1), .int (nI u2), .int (nI u3), .int (nI u4), .int (nI u5)]))] ++ tl) := hD
  refine lv_aload_n hx hb d_AL_add_LObjectZ_10 rfl (lv_at hl 0 rfl) ?_
  refine lv_aload_n hx hb d_AL_add_LObjectZ_11 rfl (lv_at hl 1 rfl) ?_
  refine lv_aload_n hx hb d_AL_add_LObjectZ_12 rfl (lv_at hl 0 rfl) ?_
  refine xg hx hb hown htw hK hP 0 1 rfl k_AL (by decide) fl_AL_9 rfl d_AL_add_LObjectZ_13 ?_
  refine lv_aload_n hx hb d_AL_add_LObjectZ_16 rfl (lv_at hl 0 rfl) ?_
  refine xg hx hb hown htw hK hP 0 2 rfl k_AL (by decide) fl_AL_48 rfl d_AL_add_LObjectZ_17 ?_
  obtain ⟨hP, hD⟩ := xpT (E' := [(l0, .inr (7, [.int (mc + (nI 1)), .ref l1, .int (nI 10)])), (l1, .inl (K 4, 10, .inr (.inr (.inr (.inr ef))))), (q0, .inr (3, [.int (nI u1), .int (nI u2), .int (nI u3), .int (nI u4), .int (nI u5)]))]) [0, 1, 2] (by decide) rfl hP hD
  obtain ⟨hP, hD⟩ := xperm (ws' := [] ++ ([(l0, .inr (7, [.int (mc + (nI 1)), .ref l1, .int (nI 10)])), (l1, .inl (K 4, 10, .inr (.inr (.inr (.inr ef))))), (q0, .inr (3, [.int (nI u1), .int (nI u2), .int (nI u3), .int (nI u4), .int (nI u5)]))] ++ tl)) (pm_as [] [(l0, .inr (7, [.int (mc + (nI 1)), .ref l1, .int (nI 10)])), (l1, .inl (K 4, 10, .inr (.inr (.inr (.inr ef))))), (q0, .inr (3, [.int (nI u1), .int (nI u2), .int (nI u3), .int (nI u4), .int (nI u5)]))] tl) hP hD
  refine xcV_v (As := [.ref q0, .ref l1, .int (nI 10)]) (rest := []) (wr := []) hx hb hml hown htw hK hA hl.1 hP hD hS (c_AL_addV_ten l D K l0 (mc + (nI 1)) l1 ef q0 u1 u2 u3 u4 u5 tl (by first | assumption | omega)) (ixC [] ([(l0, .inr (7, [.int (mc + (nI 1)), .ref l1, .int (nI 10)])), (l1, .inl (K 4, 10, .inr (.inr (.inr (.inr ef))))), (q0, .inr (3, [.int (nI u1), .int (nI u2), .int (nI u3), .int (nI u4), .int (nI u5)]))] ++ tl)) (ixR []) (ap_C _ _) (ap_R _ _) (nd_C _ _) (nd_R _) (ds_RC _ _) 0 rfl k_AL ml_AL_131 w_AL_add_LObjectaLObjectIV rfl ⟨by decide, by decide⟩ rfl (Nat.le_of_ble_eq_true rfl) ⟨by decide, by decide⟩ d_AL_add_LObjectZ_20 (fun u H locs hpost hP hD hS => ?_)
  obtain ⟨qn_20, gn_20, rfl, hgn_20⟩ := hpost
  obtain ⟨hP, hD⟩ := xperm (ws' := ([(l0, .inr (7, [.int (mc + (nI 1)), .ref qn_20, .int (nI 11)])), (qn_20, .inl (K 4, 15, .inr (.inr (.inr (.inr (va_up gn_20 10 (some q0))))))), (q0, .inr (3, [.int (nI u1), .int (nI u2), .int (nI u3), .int (nI u4), .int (nI u5)]))] ++ tl)) (pm_as [] [(l0, .inr (7, [.int (mc + (nI 1)), .ref qn_20, .int (nI 11)])), (qn_20, .inl (K 4, 15, .inr (.inr (.inr (.inr (va_up gn_20 10 (some q0))))))), (q0, .inr (3, [.int (nI u1), .int (nI u2), .int (nI u3), .int (nI u4), .int (nI u5)]))] tl).symm hP hD
  have hP : va_P D classes ([(l0, .inr (7, [.int (mc + (nI 1)), .ref qn_20, .int (nI 11)])), (qn_20, .inl (K 4, 15, .inr (.inr (.inr (.inr (va_up gn_20 10 (some q0))))))), (q0, .inr (3, [.int (nI u1), .int (nI u2), .int (nI u3), .int (nI u4), .int (nI u5)]))] ++ tl) H := hP
  have hD : va_D A ([(l0, .inr (7, [.int (mc + (nI 1)), .ref qn_20, .int (nI 11)])), (qn_20, .inl (K 4, 15, .inr (.inr (.inr (.inr (va_up gn_20 10 (some q0))))))), (q0, .inr (3, [.int (nI u1), .int (nI u2), .int (nI u3), .int (nI u4), .int (nI u5)]))] ++ tl) := hD
  refine lv_iconst (v := nI 1) hx hb d_AL_add_LObjectZ_23 (by decide) ?_
  exact xr_zret (by first | exact Or.inl rfl | exact Or.inr rfl | exact bN_v _) hx hb hr hlocks hP hD hS (Nat.le_of_ble_eq_true rfl) (Nat.le_of_ble_eq_true rfl) (⟨_, _, rfl, rfl, hgn_20⟩) d_AL_add_LObjectZ_24

abbrev q_AL_add_has (K : Nat → ClassId) (l0 : Nat) (mc : Int32) (l1 : Nat) (sg : Nat) (ne : Nat) (ef : Nat → Option Nat) (q0 : Nat) (u1 : Nat) (u2 : Nat) (u3 : Nat) (u4 : Nat) (u5 : Nat) : Int32 → va_W → Prop := fun r u => u = [(l0, .inr (7, [.int (mc + nI 1), .ref l1, .int (nI (sg + 1))])), (l1, .inl (K 4, ne, .inr (.inr (.inr (.inr (va_up ef sg (some q0))))))), (q0, .inr (3, [.int (nI u1), .int (nI u2), .int (nI u3), .int (nI u4), .int (nI u5)]))] ∧ r = nI 1
set_option maxHeartbeats 4000000 in
set_option maxRecDepth 100000 in
theorem c_AL_add_has (l : Launch) (D : va_G) (K : Nat → ClassId) (l0 : Nat) (mc : Int32) (l1 : Nat) (sg : Nat) (ne : Nat) (ef : Nat → Option Nat) (q0 : Nat) (u1 : Nat) (u2 : Nat) (u3 : Nat) (u4 : Nat) (u5 : Nat) (hne : ne < 2 ^ 20) (hi : sg < ne) : CI l y_AL_add_LObjectZ b_AL_add_LObjectZ 2 .boolean ({ frames := 6, cells := 1, slots := 15, locals := 220 } : Room) D K [.ref l0, .ref q0] [(l0, .inr (7, [.int mc, .ref l1, .int (nI sg)])), (l1, .inl (K 4, ne, .inr (.inr (.inr (.inr ef))))), (q0, .inr (3, [.int (nI u1), .int (nI u2), .int (nI u3), .int (nI u4), .int (nI u5)]))] (q_AL_add_has K l0 mc l1 sg ne ef q0 u1 u2 u3 u4 u5) := by
  refine CI_of (by decide) (Nat.le_of_ble_eq_true rfl) ?_
  intro p e s m below meth c A b0 ls hF hA hP hD hl
  have hF2 := hF
  obtain ⟨hx, hb, hr, hml, hown, htw, hK, hlocks, hname⟩ := hF
  have hS : va_S A s.heap s.heap [] := va_S.rf
  have hl : lv_has ls 2 [(0, .ref l0), (1, .ref q0)] := hl
  refine lv_aload_n hx hb d_AL_add_LObjectZ_0 rfl (lv_at hl 0 rfl) ?_
  refine lv_dup hx hb d_AL_add_LObjectZ_1 rfl ?_
  refine xgS hx hb hown htw hK hP 0 0 rfl k_AL (by decide) fl_AL_63 w_sfMC rfl d_AL_add_LObjectZ_2 ?_
  refine lv_iconst (v := nI 1) hx hb d_AL_add_LObjectZ_5 (by decide) ?_
  refine lv_iadd hx hb d_AL_add_LObjectZ_6 ?_
  refine xptS hx hb hown htw hK hP hD hS 0 0 rfl k_AL (by decide) fl_AL_63 w_sfMC rfl rfl rfl (Nat.le_of_ble_eq_true rfl) d_AL_add_LObjectZ_7 (fun H locs hP hD hS => ?_)
  have hP : va_P D classes [(l0, .inr (7, [.int (mc + (nI 1)), .ref l1, .int (nI sg)])), (l1, .inl (K 4, ne, .inr (.inr (.inr (.inr ef))))), (q0, .inr (3, [.int (nI u1), .int (nI u2), .int (nI u3), .int (nI u4), .int (nI u5)]))] H := hP
  have hD : va_D A [(l0, .inr (7, [.int (mc + (nI 1)), .ref l1, .int (nI sg)])), (l1, .inl (K 4, ne, .inr (.inr (.inr (.inr ef))))), (q0, .inr (3, [.int (nI u1), .int (nI u2), .int (nI u3), .int (nI u4), .int (nI u5)]))] := hD
  refine lv_aload_n hx hb d_AL_add_LObjectZ_10 rfl (lv_at hl 0 rfl) ?_
  refine lv_aload_n hx hb d_AL_add_LObjectZ_11 rfl (lv_at hl 1 rfl) ?_
  refine lv_aload_n hx hb d_AL_add_LObjectZ_12 rfl (lv_at hl 0 rfl) ?_
  refine xg hx hb hown htw hK hP 0 1 rfl k_AL (by decide) fl_AL_9 rfl d_AL_add_LObjectZ_13 ?_
  refine lv_aload_n hx hb d_AL_add_LObjectZ_16 rfl (lv_at hl 0 rfl) ?_
  refine xg hx hb hown htw hK hP 0 2 rfl k_AL (by decide) fl_AL_48 rfl d_AL_add_LObjectZ_17 ?_
  refine xcV_v (As := [.ref q0, .ref l1, .int (nI sg)]) (rest := []) (wr := []) hx hb hml hown htw hK hA hl.1 hP hD hS (c_AL_add_LObjectaLObjectIV l D K l0 (mc + (nI 1)) l1 sg ne ef q0 u1 u2 u3 u4 u5 (by first | assumption | omega) (by first | assumption | omega)) [0, 1, 2] [] rfl rfl (by decide) (by decide) (by decide) 0 rfl k_AL ml_AL_131 w_AL_add_LObjectaLObjectIV rfl ⟨by decide, by decide⟩ rfl (Nat.le_of_ble_eq_true rfl) ⟨by decide, by decide⟩ d_AL_add_LObjectZ_20 (fun u H locs hpost hP hD hS => ?_)
  subst hpost
  have hP : va_P D classes [(l0, .inr (7, [.int (mc + (nI 1)), .ref l1, .int (nI (sg + 1))])), (l1, .inl (K 4, ne, .inr (.inr (.inr (.inr (va_up ef sg (some q0))))))), (q0, .inr (3, [.int (nI u1), .int (nI u2), .int (nI u3), .int (nI u4), .int (nI u5)]))] H := hP
  have hD : va_D A [(l0, .inr (7, [.int (mc + (nI 1)), .ref l1, .int (nI (sg + 1))])), (l1, .inl (K 4, ne, .inr (.inr (.inr (.inr (va_up ef sg (some q0))))))), (q0, .inr (3, [.int (nI u1), .int (nI u2), .int (nI u3), .int (nI u4), .int (nI u5)]))] := hD
  refine lv_iconst (v := nI 1) hx hb d_AL_add_LObjectZ_23 (by decide) ?_
  exact xr_zret (by first | exact Or.inl rfl | exact Or.inr rfl | exact bN_v _) hx hb hr hlocks hP hD hS (Nat.le_of_ble_eq_true rfl) (Nat.le_of_ble_eq_true rfl) (⟨rfl, rfl⟩) d_AL_add_LObjectZ_24

abbrev q_AbC_init (K : Nat → ClassId) (l0 : Nat) : va_W → Prop := fun u => u = [(l0, .inr (7, [.int (nI 0), .null, .int (nI 0)]))]
set_option maxHeartbeats 4000000 in
set_option maxRecDepth 100000 in
theorem c_AbC_init (l : Launch) (D : va_G) (K : Nat → ClassId) (l0 : Nat)  : CV l y_AbC_init b_AbC_init 1 ({ frames := 1, cells := 0, slots := 0, locals := 40 } : Room) D K [.ref l0] [(l0, .inr (7, [.int (nI 0), .null, .int (nI 0)]))] (q_AbC_init K l0) := by
  refine CV_of (by decide) (Nat.le_of_ble_eq_true rfl) ?_
  intro p e s m below meth c A b0 ls hF hA hP hD hl
  have hF2 := hF
  obtain ⟨hx, hb, hr, hml, hown, htw, hK, hlocks, hname⟩ := hF
  have hS : va_S A s.heap s.heap [] := va_S.rf
  have hl : lv_has ls 1 [(0, .ref l0)] := hl
  refine lv_aload_n hx hb d_AbC_init_0 rfl (lv_at hl 0 rfl) ?_
  refine W.objInit hx hb hown (htw _ ml_AbC_1 _) (htw _ w_objI _) (htw _ w_objC _) rfl (by rw [hml]; exact hl.1) rfl d_AbC_init_1 (Nat.le_of_ble_eq_true rfl) (Nat.le_of_ble_eq_true rfl) ?_
  refine W.eq (g2 := F0 m 4 ls []) rfl ?_
  exact xr_vret hx hb hr hlocks hP hD hS (Nat.le_of_ble_eq_true rfl) (Nat.le_of_ble_eq_true rfl) (rfl) d_AbC_init_4

abbrev q_AbL_init (K : Nat → ClassId) (l0 : Nat) : va_W → Prop := fun u => u = [(l0, .inr (7, [.int (nI 0), .null, .int (nI 0)]))]
set_option maxHeartbeats 4000000 in
set_option maxRecDepth 100000 in
theorem c_AbL_init (l : Launch) (D : va_G) (K : Nat → ClassId) (l0 : Nat)  : CV l y_AbL_init b_AbL_init 1 ({ frames := 2, cells := 0, slots := 0, locals := 80 } : Room) D K [.ref l0] [(l0, .inr (7, [.int (nI 0), .null, .int (nI 0)]))] (q_AbL_init K l0) := by
  refine CV_of (by decide) (Nat.le_of_ble_eq_true rfl) ?_
  intro p e s m below meth c A b0 ls hF hA hP hD hl
  have hF2 := hF
  obtain ⟨hx, hb, hr, hml, hown, htw, hK, hlocks, hname⟩ := hF
  have hS : va_S A s.heap s.heap [] := va_S.rf
  have hl : lv_has ls 1 [(0, .ref l0)] := hl
  refine lv_aload_n hx hb d_AbL_init_0 rfl (lv_at hl 0 rfl) ?_
  refine xcI_v (As := []) (rest := []) (wr := []) hx hb hml hown htw hK hA hl.1 hP hD hS (c_AbC_init l D K l0 ) [0] [] rfl rfl (by decide) (by decide) (by decide) ml_AbL_1 w_AbC_init rfl ⟨by decide, by decide⟩ rfl (Nat.le_of_ble_eq_true rfl) ⟨by decide, by decide⟩ d_AbL_init_1 (fun u H locs hpost hP hD hS => ?_)
  subst hpost
  have hP : va_P D classes [(l0, .inr (7, [.int (nI 0), .null, .int (nI 0)]))] H := hP
  have hD : va_D A [(l0, .inr (7, [.int (nI 0), .null, .int (nI 0)]))] := hD
  refine lv_aload_n hx hb d_AbL_init_4 rfl (lv_at hl 0 rfl) ?_
  refine lv_iconst (v := nI 0) hx hb d_AbL_init_5 (by decide) ?_
  refine xpt hx hb hown htw hK hP hD hS 0 0 rfl k_AL (by decide) fl_AbL_7 rfl rfl rfl (Nat.le_of_ble_eq_true rfl) d_AbL_init_6 (fun H locs hP hD hS => ?_)
  have hP : va_P D classes [(l0, .inr (7, [.int (nI 0), .null, .int (nI 0)]))] H := hP
  have hD : va_D A [(l0, .inr (7, [.int (nI 0), .null, .int (nI 0)]))] := hD
  exact xr_vret hx hb hr hlocks hP hD hS (Nat.le_of_ble_eq_true rfl) (Nat.le_of_ble_eq_true rfl) (rfl) d_AbL_init_9

abbrev q_AL_init (K : Nat → ClassId) (l0 : Nat) : va_W → Prop := fun u => u = [(l0, .inr (7, [.int (nI 0), .ref (K 5), .int (nI 0)]))]
set_option maxHeartbeats 4000000 in
set_option maxRecDepth 100000 in
theorem c_AL_init (l : Launch) (D : va_G) (K : Nat → ClassId) (l0 : Nat)  : CV l y_AL_init b_AL_init 1 ({ frames := 3, cells := 0, slots := 0, locals := 120 } : Room) D K [.ref l0] [(l0, .inr (7, [.int (nI 0), .null, .int (nI 0)]))] (q_AL_init K l0) := by
  refine CV_of (by decide) (Nat.le_of_ble_eq_true rfl) ?_
  intro p e s m below meth c A b0 ls hF hA hP hD hl
  have hF2 := hF
  obtain ⟨hx, hb, hr, hml, hown, htw, hK, hlocks, hname⟩ := hF
  have hS : va_S A s.heap s.heap [] := va_S.rf
  have hl : lv_has ls 1 [(0, .ref l0)] := hl
  refine lv_aload_n hx hb d_AL_init_0 rfl (lv_at hl 0 rfl) ?_
  refine xcI_v (As := []) (rest := []) (wr := []) hx hb hml hown htw hK hA hl.1 hP hD hS (c_AbL_init l D K l0 ) [0] [] rfl rfl (by decide) (by decide) (by decide) ml_AL_1 w_AbL_init rfl ⟨by decide, by decide⟩ rfl (Nat.le_of_ble_eq_true rfl) ⟨by decide, by decide⟩ d_AL_init_1 (fun u H locs hpost hP hD hS => ?_)
  subst hpost
  have hP : va_P D classes [(l0, .inr (7, [.int (nI 0), .null, .int (nI 0)]))] H := hP
  have hD : va_D A [(l0, .inr (7, [.int (nI 0), .null, .int (nI 0)]))] := hD
  refine lv_aload_n hx hb d_AL_init_4 rfl (lv_at hl 0 rfl) ?_
  refine xgetst hx hb hown htw hA hS fl_AL_39 d_AL_init_5 ?_
  refine xpt hx hb hown htw hK hP hD hS 0 1 rfl k_AL (by decide) fl_AL_9 rfl rfl rfl (Nat.le_of_ble_eq_true rfl) d_AL_init_8 (fun H locs hP hD hS => ?_)
  have hP : va_P D classes [(l0, .inr (7, [.int (nI 0), .ref (K 5), .int (nI 0)]))] H := hP
  have hD : va_D A [(l0, .inr (7, [.int (nI 0), .ref (K 5), .int (nI 0)]))] := hD
  exact xr_vret hx hb hr hlocks hP hD hS (Nat.le_of_ble_eq_true rfl) (Nat.le_of_ble_eq_true rfl) (rfl) d_AL_init_11


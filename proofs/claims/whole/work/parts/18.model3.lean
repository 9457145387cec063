abbrev q_Mo_insert (K : Nat → ClassId) (m0 : Nat) (th : Nat) (T : Nat) (hd : Nat) (r1 : Nat) (r2 : Nat) (r3 : Nat) (r4 : Nat) (cm : Nat) (r5 : Nat) (r6 : Nat) (sg : Nat) (r7 : Nat) (sn : Nat) (r8 : Nat) (r9 : Nat) (rh : Nat → Nat) (sz : Nat → Nat) (q : Nat) (x : Nat) : va_W → Prop := fun u => ∃ rh' : Nat → Nat, ∃ z' : Nat, u = [(m0, .inr (8, [.int (nI th), .int (nI T), .int (nI hd), .ref r1, .ref r2, .ref r3, .ref r4, .int (nI cm), .ref r5, .ref r6, .int (nI sg), .ref r7, .int (nI sn), .ref r8, .ref r9])), (r8, .inl (K 0, 4680, .inl (nA rh'))), (r9, .inl (K 0, 9, .inl (nA (va_up sz q z'))))] ∧ (st_inc z' (rw_ rh' q)) ∧ (∀ v, st_mem z' (rw_ rh' q) v ↔ st_mem (sz q) (rw_ rh q) v ∨ v = x) ∧ (∀ j, (j < 520 * q ∨ 520 * q + 520 ≤ j) → rh' j = rh j) ∧ (z' ≤ sz q + 1)
set_option maxHeartbeats 4000000 in
set_option maxRecDepth 100000 in
theorem lp_Mo_insert_76 {p : Program} {l : Launch} {e : Env} {s : State} {m : MethodId} {below : List Frame} {meth : Method} {c : Code} {A : Nat → Prop} {D : va_G} {K : Nat → ClassId} (m0 : Nat) (th : Nat) (T : Nat) (hd : Nat) (r1 : Nat) (r2 : Nat) (r3 : Nat) (r4 : Nat) (cm : Nat) (r5 : Nat) (r6 : Nat) (sg : Nat) (r7 : Nat) (sn : Nat) (r8 : Nat) (r9 : Nat) (rh : Nat → Nat) (sz : Nat → Nat) (q : Nat) (x : Nat) (hq : q ≤ 8) (hz : sz q < 520) (hin : st_inc (sz q) (rw_ rh q)) (hbd : ∀ k, k < sz q → rh (520 * q + k) < 2 ^ 24) (hx1 : x < 2 ^ 24) (hF : Fx p s m meth c y_Mo_insert b_Mo_insert 5 none D K) {b0 : Nat} (hA : AS K s A b0) : ∀ fuel : Nat, ∀ k : Nat, ∀ i : Nat, (520 * q ≤ k) → (k ≤ 520 * q + sz q) → (∀ i, k ≤ i → i < 520 * q + sz q → x < rh i) → (520 * q < k → rh (k - 1) < x) → (k ≤ i) → (i ≤ 520 * q + sz q) → i < fuel → ∀ (H : Heap) (locs : List Loc), va_P D classes [(m0, .inr (8, [.int (nI th), .int (nI T), .int (nI hd), .ref r1, .ref r2, .ref r3, .ref r4, .int (nI cm), .ref r5, .ref r6, .int (nI sg), .ref r7, .int (nI sn), .ref r8, .ref r9])), (r8, .inl (K 0, 4680, .inl (nA (shf rh i (520 * q + sz q))))), (r9, .inl (K 0, 9, .inl (nA sz)))] H → va_D A [(m0, .inr (8, [.int (nI th), .int (nI T), .int (nI hd), .ref r1, .ref r2, .ref r3, .ref r4, .int (nI cm), .ref r5, .ref r6, .int (nI sg), .ref r7, .int (nI sn), .ref r8, .ref r9])), (r8, .inl (K 0, 4680, .inl (nA (shf rh i (520 * q + sz q))))), (r9, .inl (K 0, 9, .inl (nA sz)))] → va_S A s.heap H locs → ∀ ls : Array Slot, lv_has ls 5 [(0, .ref m0), (1, .int (nI q)), (2, .int (nI x)), (3, .int (nI k)), (4, .int (nI i))] → W p l e ({ frames := 0, cells := 0, slots := 0, locals := 0 } : Room) s m ([.ref m0, .int (nI q), .int (nI x)] : List Value).toArray below meth c H locs 0 0 (MQ below (va_Qv (q_Mo_insert K m0 th T hd r1 r2 r3 r4 cm r5 r6 sg r7 sn r8 r9 rh sz q x) (fun u t => va_P D classes u t.heap ∧ va_D A u) A) ([.ref m0, .int (nI q), .int (nI x)] : List Value).toArray s 0 0 A) (F0 m 76 ls []) := by
  have hF2 := hF
  obtain ⟨hx, hb, hr, hml, hown, htw, hK, hlocks, hname⟩ := hF
  intro fuel
  induction fuel with
  | zero => intros; omega
  | succ fuel ih =>
    intro k i hka hkb hgt hlt hi1 hi2 hfu H locs hP hD hS ls hl
    refine lv_iload hx hb d_Mo_insert_76 (lv_at hl 4 rfl) ?_
    refine lv_iload_n hx hb d_Mo_insert_78 rfl (lv_at hl 3 rfl) ?_
    refine xc_le (tgt := 104) (a := i) (b := k) hx hb (by omega) (by omega) d_Mo_insert_79 (by decide) (fun c_79 => ?_) (fun c_79 => ?_)
    · have hk2 : k = i := by omega
      subst hk2
      refine lv_aload_n hx hb d_Mo_insert_104 rfl (lv_at hl 0 rfl) ?_
      refine xg hx hb hown htw hK hP 0 13 rfl k_Mo (by decide) fl_Mo_32 rfl d_Mo_insert_105 ?_
      refine lv_iload_n hx hb d_Mo_insert_108 rfl (lv_at hl 3 rfl) ?_
      refine lv_iload_n hx hb d_Mo_insert_109 rfl (lv_at hl 2 rfl) ?_
      refine xast_i hx hb hK hP hD hS 1 rfl (by omega) (by omega) d_Mo_insert_110 (fun H locs hP hD hS => ?_)
      rw [upd_nA] at hP hD
      have hP : va_P D classes [(m0, .inr (8, [.int (nI th), .int (nI T), .int (nI hd), .ref r1, .ref r2, .ref r3, .ref r4, .int (nI cm), .ref r5, .ref r6, .int (nI sg), .ref r7, .int (nI sn), .ref r8, .ref r9])), (r8, .inl (K 0, 4680, .inl (nA (va_up (shf rh k (520 * q + sz q)) k x)))), (r9, .inl (K 0, 9, .inl (nA sz)))] H := hP
      have hD : va_D A [(m0, .inr (8, [.int (nI th), .int (nI T), .int (nI hd), .ref r1, .ref r2, .ref r3, .ref r4, .int (nI cm), .ref r5, .ref r6, .int (nI sg), .ref r7, .int (nI sn), .ref r8, .ref r9])), (r8, .inl (K 0, 4680, .inl (nA (va_up (shf rh k (520 * q + sz q)) k x)))), (r9, .inl (K 0, 9, .inl (nA sz)))] := hD
      have hP : va_P D classes [(m0, .inr (8, [.int (nI th), .int (nI T), .int (nI hd), .ref r1, .ref r2, .ref r3, .ref r4, .int (nI cm), .ref r5, .ref r6, .int (nI sg), .ref r7, .int (nI sn), .ref r8, .ref r9])), (r8, .inl (K 0, 4680, .inl (nA (insN rh k (520 * q + sz q) x)))), (r9, .inl (K 0, 9, .inl (nA sz)))] H := by rw [← shf_ins (g := rh) (k := k) (x := x) (by omega)]; exact hP
      have hD : va_D A [(m0, .inr (8, [.int (nI th), .int (nI T), .int (nI hd), .ref r1, .ref r2, .ref r3, .ref r4, .int (nI cm), .ref r5, .ref r6, .int (nI sg), .ref r7, .int (nI sn), .ref r8, .ref r9])), (r8, .inl (K 0, 4680, .inl (nA (insN rh k (520 * q + sz q) x)))), (r9, .inl (K 0, 9, .inl (nA sz)))] := by rw [← shf_ins (g := rh) (k := k) (x := x) (by omega)]; exact hD
      refine lv_aload_n hx hb d_Mo_insert_111 rfl (lv_at hl 0 rfl) ?_
      refine xg hx hb hown htw hK hP 0 14 rfl k_Mo (by decide) fl_Mo_35 rfl d_Mo_insert_112 ?_
      refine lv_iload_n hx hb d_Mo_insert_115 rfl (lv_at hl 1 rfl) ?_
      refine lv_dup2_11 hx hb d_Mo_insert_116 rfl rfl ?_
      refine xald_i hx hb hK hP 2 rfl (by omega) (by omega) d_Mo_insert_117 ?_
      refine xi (y := nI (sz q)) rfl ?_
      refine lv_iconst (v := nI 1) hx hb d_Mo_insert_118 (by decide) ?_
      refine lv_iadd hx hb d_Mo_insert_119 ?_
      refine xi (nI_add (sz q) 1) ?_
      refine xast_i hx hb hK hP hD hS 2 rfl (by omega) (by omega) d_Mo_insert_120 (fun H locs hP hD hS => ?_)
      rw [upd_nA] at hP hD
      have hP : va_P D classes [(m0, .inr (8, [.int (nI th), .int (nI T), .int (nI hd), .ref r1, .ref r2, .ref r3, .ref r4, .int (nI cm), .ref r5, .ref r6, .int (nI sg), .ref r7, .int (nI sn), .ref r8, .ref r9])), (r8, .inl (K 0, 4680, .inl (nA (insN rh k (520 * q + sz q) x)))), (r9, .inl (K 0, 9, .inl (nA (va_up sz q ((sz q) + 1)))))] H := hP
      have hD : va_D A [(m0, .inr (8, [.int (nI th), .int (nI T), .int (nI hd), .ref r1, .ref r2, .ref r3, .ref r4, .int (nI cm), .ref r5, .ref r6, .int (nI sg), .ref r7, .int (nI sn), .ref r8, .ref r9])), (r8, .inl (K 0, 4680, .inl (nA (insN rh k (520 * q + sz q) x)))), (r9, .inl (K 0, 9, .inl (nA (va_up sz q ((sz q) + 1)))))] := hD
      exact xr_vret hx hb hr hlocks hP hD hS (Nat.le_of_ble_eq_true rfl) (Nat.le_of_ble_eq_true rfl) (⟨_, _, rfl, (ins_ok hin hka hkb hgt hlt).1, (ins_ok hin hka hkb hgt hlt).2, fun j hj => insN_out (by omega) hkb, Nat.le_refl _⟩) d_Mo_insert_121
    · refine lv_aload_n hx hb d_Mo_insert_82 rfl (lv_at hl 0 rfl) ?_
      refine xg hx hb hown htw hK hP 0 13 rfl k_Mo (by decide) fl_Mo_32 rfl d_Mo_insert_83 ?_
      refine lv_iload hx hb d_Mo_insert_86 (lv_at hl 4 rfl) ?_
      refine lv_aload_n hx hb d_Mo_insert_88 rfl (lv_at hl 0 rfl) ?_
      refine xg hx hb hown htw hK hP 0 13 rfl k_Mo (by decide) fl_Mo_32 rfl d_Mo_insert_89 ?_
      refine lv_iload hx hb d_Mo_insert_92 (lv_at hl 4 rfl) ?_
      refine lv_iconst (v := nI 1) hx hb d_Mo_insert_94 (by decide) ?_
      refine lv_isub hx hb d_Mo_insert_95 ?_
      refine xi (nI_sub (a := i) (b := 1) (by omega)) ?_
      refine xald_i hx hb hK hP 1 rfl (by omega) (by omega) d_Mo_insert_96 ?_
      refine xi (y := nI ((shf rh i (520 * q + sz q)) (i - 1))) rfl ?_
      refine xast_i hx hb hK hP hD hS 1 rfl (by omega) (by omega) d_Mo_insert_97 (fun H locs hP hD hS => ?_)
      rw [upd_nA] at hP hD
      have hP : va_P D classes [(m0, .inr (8, [.int (nI th), .int (nI T), .int (nI hd), .ref r1, .ref r2, .ref r3, .ref r4, .int (nI cm), .ref r5, .ref r6, .int (nI sg), .ref r7, .int (nI sn), .ref r8, .ref r9])), (r8, .inl (K 0, 4680, .inl (nA (va_up (shf rh i (520 * q + sz q)) i ((shf rh i (520 * q + sz q)) (i - 1)))))), (r9, .inl (K 0, 9, .inl (nA sz)))] H := hP
      have hD : va_D A [(m0, .inr (8, [.int (nI th), .int (nI T), .int (nI hd), .ref r1, .ref r2, .ref r3, .ref r4, .int (nI cm), .ref r5, .ref r6, .int (nI sg), .ref r7, .int (nI sn), .ref r8, .ref r9])), (r8, .inl (K 0, 4680, .inl (nA (va_up (shf rh i (520 * q + sz q)) i ((shf rh i (520 * q + sz q)) (i - 1)))))), (r9, .inl (K 0, 9, .inl (nA sz)))] := hD
      have hP : va_P D classes [(m0, .inr (8, [.int (nI th), .int (nI T), .int (nI hd), .ref r1, .ref r2, .ref r3, .ref r4, .int (nI cm), .ref r5, .ref r6, .int (nI sg), .ref r7, .int (nI sn), .ref r8, .ref r9])), (r8, .inl (K 0, 4680, .inl (nA (shf rh (i - 1) (520 * q + sz q))))), (r9, .inl (K 0, 9, .inl (nA sz)))] H := by rw [← shf_step (g := rh) (i := i) (E := 520 * q + sz q) (by omega) (by omega)]; exact hP
      have hD : va_D A [(m0, .inr (8, [.int (nI th), .int (nI T), .int (nI hd), .ref r1, .ref r2, .ref r3, .ref r4, .int (nI cm), .ref r5, .ref r6, .int (nI sg), .ref r7, .int (nI sn), .ref r8, .ref r9])), (r8, .inl (K 0, 4680, .inl (nA (shf rh (i - 1) (520 * q + sz q))))), (r9, .inl (K 0, 9, .inl (nA sz)))] := by rw [← shf_step (g := rh) (i := i) (E := 520 * q + sz q) (by omega) (by omega)]; exact hD
      refine lv_iinc (v := nI (i - 1)) (lv' := [(4, .int (nI (i - 1))), (0, .ref m0), (1, .int (nI q)), (2, .int (nI x)), (3, .int (nI k))]) hx hb d_Mo_insert_98 hl (k := 4) rfl (dec_nI (a := i) (b := 1) (by omega)) (by decide) rfl (fun ls hl => ?_)
      refine lv_goto (tgt := 76) hx hb d_Mo_insert_101 (by decide) ?_
      exact ih k (i - 1) (by first | assumption | omega) (by first | assumption | omega) (by first | assumption | omega) (by first | assumption | omega) (by first | assumption | omega) (by first | assumption | omega) (by omega) _ _ hP hD hS _ (lv_sub hl [1, 2, 3, 4, 0] rfl)
set_option maxHeartbeats 4000000 in
set_option maxRecDepth 100000 in
theorem lp_Mo_insert_13 {p : Program} {l : Launch} {e : Env} {s : State} {m : MethodId} {below : List Frame} {meth : Method} {c : Code} {A : Nat → Prop} {D : va_G} {K : Nat → ClassId} (m0 : Nat) (th : Nat) (T : Nat) (hd : Nat) (r1 : Nat) (r2 : Nat) (r3 : Nat) (r4 : Nat) (cm : Nat) (r5 : Nat) (r6 : Nat) (sg : Nat) (r7 : Nat) (sn : Nat) (r8 : Nat) (r9 : Nat) (rh : Nat → Nat) (sz : Nat → Nat) (q : Nat) (x : Nat) (hq : q ≤ 8) (hz : sz q < 520) (hin : st_inc (sz q) (rw_ rh q)) (hbd : ∀ k, k < sz q → rh (520 * q + k) < 2 ^ 24) (hx1 : x < 2 ^ 24) (hF : Fx p s m meth c y_Mo_insert b_Mo_insert 5 none D K) {b0 : Nat} (hA : AS K s A b0) : ∀ fuel : Nat, ∀ k : Nat, (520 * q ≤ k) → (k ≤ 520 * q + sz q) → (∀ i, k ≤ i → i < 520 * q + sz q → x < rh i) → k < fuel → ∀ (H : Heap) (locs : List Loc), va_P D classes [(m0, .inr (8, [.int (nI th), .int (nI T), .int (nI hd), .ref r1, .ref r2, .ref r3, .ref r4, .int (nI cm), .ref r5, .ref r6, .int (nI sg), .ref r7, .int (nI sn), .ref r8, .ref r9])), (r8, .inl (K 0, 4680, .inl (nA rh))), (r9, .inl (K 0, 9, .inl (nA sz)))] H → va_D A [(m0, .inr (8, [.int (nI th), .int (nI T), .int (nI hd), .ref r1, .ref r2, .ref r3, .ref r4, .int (nI cm), .ref r5, .ref r6, .int (nI sg), .ref r7, .int (nI sn), .ref r8, .ref r9])), (r8, .inl (K 0, 4680, .inl (nA rh))), (r9, .inl (K 0, 9, .inl (nA sz)))] → va_S A s.heap H locs → ∀ ls : Array Slot, lv_has ls 5 [(0, .ref m0), (1, .int (nI q)), (2, .int (nI x)), (3, .int (nI k))] → W p l e ({ frames := 0, cells := 0, slots := 0, locals := 0 } : Room) s m ([.ref m0, .int (nI q), .int (nI x)] : List Value).toArray below meth c H locs 0 0 (MQ below (va_Qv (q_Mo_insert K m0 th T hd r1 r2 r3 r4 cm r5 r6 sg r7 sn r8 r9 rh sz q x) (fun u t => va_P D classes u t.heap ∧ va_D A u) A) ([.ref m0, .int (nI q), .int (nI x)] : List Value).toArray s 0 0 A) (F0 m 13 ls []) := by
  have hF2 := hF
  obtain ⟨hx, hb, hr, hml, hown, htw, hK, hlocks, hname⟩ := hF
  intro fuel
  induction fuel with
  | zero => intros; omega
  | succ fuel ih =>
    have jn_62 : ∀ k : Nat, (520 * q ≤ k) → (k ≤ 520 * q + sz q) → (∀ i, k ≤ i → i < 520 * q + sz q → x < rh i) → (520 * q < k → rh (k - 1) < x) → ∀ (H : Heap) (locs : List Loc), va_P D classes [(m0, .inr (8, [.int (nI th), .int (nI T), .int (nI hd), .ref r1, .ref r2, .ref r3, .ref r4, .int (nI cm), .ref r5, .ref r6, .int (nI sg), .ref r7, .int (nI sn), .ref r8, .ref r9])), (r8, .inl (K 0, 4680, .inl (nA rh))), (r9, .inl (K 0, 9, .inl (nA sz)))] H → va_D A [(m0, .inr (8, [.int (nI th), .int (nI T), .int (nI hd), .ref r1, .ref r2, .ref r3, .ref r4, .int (nI cm), .ref r5, .ref r6, .int (nI sg), .ref r7, .int (nI sn), .ref r8, .ref r9])), (r8, .inl (K 0, 4680, .inl (nA rh))), (r9, .inl (K 0, 9, .inl (nA sz)))] → va_S A s.heap H locs → ∀ ls : Array Slot, lv_has ls 5 [(0, .ref m0), (1, .int (nI q)), (2, .int (nI x)), (3, .int (nI k))] → W p l e ({ frames := 0, cells := 0, slots := 0, locals := 0 } : Room) s m ([.ref m0, .int (nI q), .int (nI x)] : List Value).toArray below meth c H locs 0 0 (MQ below (va_Qv (q_Mo_insert K m0 th T hd r1 r2 r3 r4 cm r5 r6 sg r7 sn r8 r9 rh sz q x) (fun u t => va_P D classes u t.heap ∧ va_D A u) A) ([.ref m0, .int (nI q), .int (nI x)] : List Value).toArray s 0 0 A) (F0 m 62 ls []) := by
      intro k hka hkb hgt hlt H locs hP hD hS ls hl
      refine lv_sipush (v := nI 520) hx hb d_Mo_insert_62 (by decide) ?_
      refine lv_iload_n hx hb d_Mo_insert_65 rfl (lv_at hl 1 rfl) ?_
      refine lv_imul hx hb d_Mo_insert_66 ?_
      refine xi (nI_mul 520 q) ?_
      refine lv_aload_n hx hb d_Mo_insert_67 rfl (lv_at hl 0 rfl) ?_
      refine xg hx hb hown htw hK hP 0 14 rfl k_Mo (by decide) fl_Mo_35 rfl d_Mo_insert_68 ?_
      refine lv_iload_n hx hb d_Mo_insert_71 rfl (lv_at hl 1 rfl) ?_
      refine xald_i hx hb hK hP 2 rfl (by omega) (by omega) d_Mo_insert_72 ?_
      refine xi (y := nI (sz q)) rfl ?_
      refine lv_iadd hx hb d_Mo_insert_73 ?_
      refine xi (nI_add (520 * q) (sz q)) ?_
      have hP : va_P D classes [(m0, .inr (8, [.int (nI th), .int (nI T), .int (nI hd), .ref r1, .ref r2, .ref r3, .ref r4, .int (nI cm), .ref r5, .ref r6, .int (nI sg), .ref r7, .int (nI sn), .ref r8, .ref r9])), (r8, .inl (K 0, 4680, .inl (nA (shf rh ((520 * q) + (sz q)) (520 * q + sz q))))), (r9, .inl (K 0, 9, .inl (nA sz)))] H := by rw [shf_0]; exact hP
      have hD : va_D A [(m0, .inr (8, [.int (nI th), .int (nI T), .int (nI hd), .ref r1, .ref r2, .ref r3, .ref r4, .int (nI cm), .ref r5, .ref r6, .int (nI sg), .ref r7, .int (nI sn), .ref r8, .ref r9])), (r8, .inl (K 0, 4680, .inl (nA (shf rh ((520 * q) + (sz q)) (520 * q + sz q))))), (r9, .inl (K 0, 9, .inl (nA sz)))] := by rw [shf_0]; exact hD
      refine lv_istore (lv' := [(4, .int (nI ((520 * q) + (sz q)))), (0, .ref m0), (1, .int (nI q)), (2, .int (nI x)), (3, .int (nI k))]) hx hb d_Mo_insert_74 hl (by decide) rfl (fun ls hl => ?_)
      exact lp_Mo_insert_76 (l := l) m0 th T hd r1 r2 r3 r4 cm r5 r6 sg r7 sn r8 r9 rh sz q x hq hz hin hbd hx1 hF2 hA _ k ((520 * q) + (sz q)) (by first | assumption | omega) (by first | assumption | omega) (by exact hgt) (by exact hlt) (by first | assumption | omega) (by first | assumption | omega) (Nat.lt_succ_self _) _ _ hP hD hS _ (lv_sub hl [1, 2, 3, 4, 0] rfl)
    have jn_40 : ∀ k : Nat, (520 * q ≤ k) → (k ≤ 520 * q + sz q) → (∀ i, k ≤ i → i < 520 * q + sz q → x < rh i) → (520 * q < k → rh (k - 1) ≤ x) → ∀ (H : Heap) (locs : List Loc), va_P D classes [(m0, .inr (8, [.int (nI th), .int (nI T), .int (nI hd), .ref r1, .ref r2, .ref r3, .ref r4, .int (nI cm), .ref r5, .ref r6, .int (nI sg), .ref r7, .int (nI sn), .ref r8, .ref r9])), (r8, .inl (K 0, 4680, .inl (nA rh))), (r9, .inl (K 0, 9, .inl (nA sz)))] H → va_D A [(m0, .inr (8, [.int (nI th), .int (nI T), .int (nI hd), .ref r1, .ref r2, .ref r3, .ref r4, .int (nI cm), .ref r5, .ref r6, .int (nI sg), .ref r7, .int (nI sn), .ref r8, .ref r9])), (r8, .inl (K 0, 4680, .inl (nA rh))), (r9, .inl (K 0, 9, .inl (nA sz)))] → va_S A s.heap H locs → ∀ ls : Array Slot, lv_has ls 5 [(0, .ref m0), (1, .int (nI q)), (2, .int (nI x)), (3, .int (nI k))] → W p l e ({ frames := 0, cells := 0, slots := 0, locals := 0 } : Room) s m ([.ref m0, .int (nI q), .int (nI x)] : List Value).toArray below meth c H locs 0 0 (MQ below (va_Qv (q_Mo_insert K m0 th T hd r1 r2 r3 r4 cm r5 r6 sg r7 sn r8 r9 rh sz q x) (fun u t => va_P D classes u t.heap ∧ va_D A u) A) ([.ref m0, .int (nI q), .int (nI x)] : List Value).toArray s 0 0 A) (F0 m 40 ls []) := by
      intro k hka hkb hgt hle H locs hP hD hS ls hl
      refine lv_iload_n hx hb d_Mo_insert_40 rfl (lv_at hl 3 rfl) ?_
      refine lv_sipush (v := nI 520) hx hb d_Mo_insert_41 (by decide) ?_
      refine lv_iload_n hx hb d_Mo_insert_44 rfl (lv_at hl 1 rfl) ?_
      refine lv_imul hx hb d_Mo_insert_45 ?_
      refine xi (nI_mul 520 q) ?_
      refine xc_le (tgt := 62) (a := k) (b := 520 * q) hx hb (by omega) (by omega) d_Mo_insert_46 (by decide) (fun c_46 => ?_) (fun c_46 => ?_)
      · exact jn_62 k (by first | assumption | omega) (by first | assumption | omega) (by first | assumption | omega) (by exact fun w => by omega) _ _ hP hD hS _ (lv_sub hl [0, 1, 2, 3] rfl)
      · refine lv_aload_n hx hb d_Mo_insert_49 rfl (lv_at hl 0 rfl) ?_
        refine xg hx hb hown htw hK hP 0 13 rfl k_Mo (by decide) fl_Mo_32 rfl d_Mo_insert_50 ?_
        refine lv_iload_n hx hb d_Mo_insert_53 rfl (lv_at hl 3 rfl) ?_
        refine lv_iconst (v := nI 1) hx hb d_Mo_insert_54 (by decide) ?_
        refine lv_isub hx hb d_Mo_insert_55 ?_
        refine xi (nI_sub (a := k) (b := 1) (by omega)) ?_
        refine xald_i hx hb hK hP 1 rfl (by omega) (by omega) d_Mo_insert_56 ?_
        refine xi (y := nI (rh (k - 1))) rfl ?_
        refine lv_iload_n hx hb d_Mo_insert_57 rfl (lv_at hl 2 rfl) ?_
        refine xc_ne (tgt := 62) (a := rh (k - 1)) (b := x) hx hb (by have := hbd (k - 1 - 520 * q) (by omega); rw [show 520 * q + (k - 1 - 520 * q) = k - 1 by omega] at this; omega) (by omega) d_Mo_insert_58 (by decide) (fun c_58 => ?_) (fun c_58 => ?_)
        · exact jn_62 k (by first | assumption | omega) (by first | assumption | omega) (by first | assumption | omega) (by exact fun w => by have := hle w; omega) _ _ hP hD hS _ (lv_sub hl [0, 1, 2, 3] rfl)
        · exact xr_vret hx hb hr hlocks hP hD hS (Nat.le_of_ble_eq_true rfl) (Nat.le_of_ble_eq_true rfl) (⟨rh, sz q, by rw [va_up_id], hin, fun v => ⟨Or.inl, fun w => w.elim id (fun w => ⟨k - 1 - 520 * q, by omega, by show rh (520 * q + (k - 1 - 520 * q)) = v; rw [show 520 * q + (k - 1 - 520 * q) = k - 1 by omega, w]; exact c_58⟩)⟩, fun _ _ => rfl, by omega⟩) d_Mo_insert_61
    intro k hka hkb hgt hfu H locs hP hD hS ls hl
    refine lv_iload_n hx hb d_Mo_insert_13 rfl (lv_at hl 3 rfl) ?_
    refine lv_sipush (v := nI 520) hx hb d_Mo_insert_14 (by decide) ?_
    refine lv_iload_n hx hb d_Mo_insert_17 rfl (lv_at hl 1 rfl) ?_
    refine lv_imul hx hb d_Mo_insert_18 ?_
    refine xi (nI_mul 520 q) ?_
    refine xc_le (tgt := 40) (a := k) (b := 520 * q) hx hb (by omega) (by omega) d_Mo_insert_19 (by decide) (fun c_19 => ?_) (fun c_19 => ?_)
    · exact jn_40 k (by first | assumption | omega) (by first | assumption | omega) (by first | assumption | omega) (by exact fun w => by omega) _ _ hP hD hS _ (lv_sub hl [0, 1, 2, 3] rfl)
    · refine lv_aload_n hx hb d_Mo_insert_22 rfl (lv_at hl 0 rfl) ?_
      refine xg hx hb hown htw hK hP 0 13 rfl k_Mo (by decide) fl_Mo_32 rfl d_Mo_insert_23 ?_
      refine lv_iload_n hx hb d_Mo_insert_26 rfl (lv_at hl 3 rfl) ?_
      refine lv_iconst (v := nI 1) hx hb d_Mo_insert_27 (by decide) ?_
      refine lv_isub hx hb d_Mo_insert_28 ?_
      refine xi (nI_sub (a := k) (b := 1) (by omega)) ?_
      refine xald_i hx hb hK hP 1 rfl (by omega) (by omega) d_Mo_insert_29 ?_
      refine xi (y := nI (rh (k - 1))) rfl ?_
      refine lv_iload_n hx hb d_Mo_insert_30 rfl (lv_at hl 2 rfl) ?_
      refine xc_le (tgt := 40) (a := rh (k - 1)) (b := x) hx hb (by have := hbd (k - 1 - 520 * q) (by omega); rw [show 520 * q + (k - 1 - 520 * q) = k - 1 by omega] at this; omega) (by omega) d_Mo_insert_31 (by decide) (fun c_31 => ?_) (fun c_31 => ?_)
      · exact jn_40 k (by first | assumption | omega) (by first | assumption | omega) (by first | assumption | omega) (by exact fun _ => c_31) _ _ hP hD hS _ (lv_sub hl [0, 1, 2, 3] rfl)
      · refine lv_iinc (v := nI (k - 1)) (lv' := [(3, .int (nI (k - 1))), (0, .ref m0), (1, .int (nI q)), (2, .int (nI x))]) hx hb d_Mo_insert_34 hl (k := 3) rfl (dec_nI (a := k) (b := 1) (by omega)) (by decide) rfl (fun ls hl => ?_)
        refine lv_goto (tgt := 13) hx hb d_Mo_insert_37 (by decide) ?_
        exact ih (k - 1) (by first | assumption | omega) (by first | assumption | omega) (by exact fun i a b => by rcases Nat.lt_or_ge i k with w | w; (have e : i = k - 1 := by omega); (rw [e]; exact c_31); (exact hgt i w b)) (by omega) _ _ hP hD hS _ (lv_sub hl [1, 2, 3, 0] rfl)
set_option maxHeartbeats 4000000 in
set_option maxRecDepth 100000 in
theorem c_Mo_insert (l : Launch) (D : va_G) (K : Nat → ClassId) (m0 : Nat) (th : Nat) (T : Nat) (hd : Nat) (r1 : Nat) (r2 : Nat) (r3 : Nat) (r4 : Nat) (cm : Nat) (r5 : Nat) (r6 : Nat) (sg : Nat) (r7 : Nat) (sn : Nat) (r8 : Nat) (r9 : Nat) (rh : Nat → Nat) (sz : Nat → Nat) (q : Nat) (x : Nat) (hq : q ≤ 8) (hz : sz q < 520) (hin : st_inc (sz q) (rw_ rh q)) (hbd : ∀ k, k < sz q → rh (520 * q + k) < 2 ^ 24) (hx1 : x < 2 ^ 24) : CV l y_Mo_insert b_Mo_insert 5 ({ frames := 0, cells := 0, slots := 0, locals := 0 } : Room) D K [.ref m0, .int (nI q), .int (nI x)] [(m0, .inr (8, [.int (nI th), .int (nI T), .int (nI hd), .ref r1, .ref r2, .ref r3, .ref r4, .int (nI cm), .ref r5, .ref r6, .int (nI sg), .ref r7, .int (nI sn), .ref r8, .ref r9])), (r8, .inl (K 0, 4680, .inl (nA rh))), (r9, .inl (K 0, 9, .inl (nA sz)))] (q_Mo_insert K m0 th T hd r1 r2 r3 r4 cm r5 r6 sg r7 sn r8 r9 rh sz q x) := by
  refine CV_of (by decide) (Nat.le_of_ble_eq_true rfl) ?_
  intro p e s m below meth c A b0 ls hF hA hP hD hl
  have hF2 := hF
  obtain ⟨hx, hb, hr, hml, hown, htw, hK, hlocks, hname⟩ := hF
  have hS : va_S A s.heap s.heap [] := va_S.rf
  have hl : lv_has ls 5 [(0, .ref m0), (1, .int (nI q)), (2, .int (nI x))] := hl
  refine lv_sipush (v := nI 520) hx hb d_Mo_insert_0 (by decide) ?_
  refine lv_iload_n hx hb d_Mo_insert_3 rfl (lv_at hl 1 rfl) ?_
  refine lv_imul hx hb d_Mo_insert_4 ?_
  refine xi (nI_mul 520 q) ?_
  refine lv_aload_n hx hb d_Mo_insert_5 rfl (lv_at hl 0 rfl) ?_
  refine xg hx hb hown htw hK hP 0 14 rfl k_Mo (by decide) fl_Mo_35 rfl d_Mo_insert_6 ?_
  refine lv_iload_n hx hb d_Mo_insert_9 rfl (lv_at hl 1 rfl) ?_
  refine xald_i hx hb hK hP 2 rfl (by omega) (by omega) d_Mo_insert_10 ?_
  refine xi (y := nI (sz q)) rfl ?_
  refine lv_iadd hx hb d_Mo_insert_11 ?_
  refine xi (nI_add (520 * q) (sz q)) ?_
  refine lv_istore_n (lv' := [(3, .int (nI ((520 * q) + (sz q)))), (0, .ref m0), (1, .int (nI q)), (2, .int (nI x))]) hx hb d_Mo_insert_12 rfl hl (by decide) rfl (fun ls hl => ?_)
  exact lp_Mo_insert_13 (l := l) m0 th T hd r1 r2 r3 r4 cm r5 r6 sg r7 sn r8 r9 rh sz q x hq hz hin hbd hx1 hF2 hA _ ((520 * q) + (sz q)) (by first | assumption | omega) (by first | assumption | omega) (by exact fun i a b => by omega) (Nat.lt_succ_self _) _ _ hP hD hS _ (lv_sub hl [1, 2, 3, 0] rfl)

abbrev q_Mo_has (K : Nat → ClassId) (m0 : Nat) (th : Nat) (T : Nat) (hd : Nat) (r1 : Nat) (r2 : Nat) (r3 : Nat) (r4 : Nat) (cm : Nat) (r5 : Nat) (r6 : Nat) (sg : Nat) (r7 : Nat) (sn : Nat) (r8 : Nat) (r9 : Nat) (rh : Nat → Nat) (sz : Nat → Nat) (q : Nat) (x : Nat) : Int32 → va_W → Prop := fun r u => u = [(m0, .inr (8, [.int (nI th), .int (nI T), .int (nI hd), .ref r1, .ref r2, .ref r3, .ref r4, .int (nI cm), .ref r5, .ref r6, .int (nI sg), .ref r7, .int (nI sn), .ref r8, .ref r9])), (r8, .inl (K 0, 4680, .inl (nA rh))), (r9, .inl (K 0, 9, .inl (nA sz)))] ∧ r = nI (bN (st_mem (sz q) (rw_ rh q) x))
set_option maxHeartbeats 4000000 in
set_option maxRecDepth 100000 in
theorem lp_Mo_has_2 {p : Program} {l : Launch} {e : Env} {s : State} {m : MethodId} {below : List Frame} {meth : Method} {c : Code} {A : Nat → Prop} {D : va_G} {K : Nat → ClassId} (m0 : Nat) (th : Nat) (T : Nat) (hd : Nat) (r1 : Nat) (r2 : Nat) (r3 : Nat) (r4 : Nat) (cm : Nat) (r5 : Nat) (r6 : Nat) (sg : Nat) (r7 : Nat) (sn : Nat) (r8 : Nat) (r9 : Nat) (rh : Nat → Nat) (sz : Nat → Nat) (q : Nat) (x : Nat) (hq : q ≤ 8) (hz : sz q ≤ 520) (hbd : ∀ k, k < sz q → rh (520 * q + k) < 2 ^ 24) (hx1 : x < 2 ^ 31) (hF : Fx p s m meth c y_Mo_has b_Mo_has 4 (some .boolean) D K) {b0 : Nat} (hA : AS K s A b0) : ∀ fuel : Nat, ∀ k : Nat, (k ≤ sz q) → (∀ i, i < k → ¬ rh (520 * q + i) = x) → sz q - k < fuel → ∀ (H : Heap) (locs : List Loc), va_P D classes [(m0, .inr (8, [.int (nI th), .int (nI T), .int (nI hd), .ref r1, .ref r2, .ref r3, .ref r4, .int (nI cm), .ref r5, .ref r6, .int (nI sg), .ref r7, .int (nI sn), .ref r8, .ref r9])), (r8, .inl (K 0, 4680, .inl (nA rh))), (r9, .inl (K 0, 9, .inl (nA sz)))] H → va_D A [(m0, .inr (8, [.int (nI th), .int (nI T), .int (nI hd), .ref r1, .ref r2, .ref r3, .ref r4, .int (nI cm), .ref r5, .ref r6, .int (nI sg), .ref r7, .int (nI sn), .ref r8, .ref r9])), (r8, .inl (K 0, 4680, .inl (nA rh))), (r9, .inl (K 0, 9, .inl (nA sz)))] → va_S A s.heap H locs → ∀ ls : Array Slot, lv_has ls 4 [(0, .ref m0), (1, .int (nI q)), (2, .int (nI x)), (3, .int (nI k))] → W p l e ({ frames := 0, cells := 0, slots := 0, locals := 0 } : Room) s m ([.ref m0, .int (nI q), .int (nI x)] : List Value).toArray below meth c H locs 0 0 (MQ below (va_Qi (q_Mo_has K m0 th T hd r1 r2 r3 r4 cm r5 r6 sg r7 sn r8 r9 rh sz q x) (fun u t => va_P D classes u t.heap ∧ va_D A u) A) ([.ref m0, .int (nI q), .int (nI x)] : List Value).toArray s 0 0 A) (F0 m 2 ls []) := by
  have hF2 := hF
  obtain ⟨hx, hb, hr, hml, hown, htw, hK, hlocks, hname⟩ := hF
  intro fuel
  induction fuel with
  | zero => intros; omega
  | succ fuel ih =>
    intro k hk1 hno hfu H locs hP hD hS ls hl
    refine lv_iload_n hx hb d_Mo_has_2 rfl (lv_at hl 3 rfl) ?_
    refine lv_aload_n hx hb d_Mo_has_3 rfl (lv_at hl 0 rfl) ?_
    refine xg hx hb hown htw hK hP 0 14 rfl k_Mo (by decide) fl_Mo_35 rfl d_Mo_has_4 ?_
    refine lv_iload_n hx hb d_Mo_has_7 rfl (lv_at hl 1 rfl) ?_
    refine xald_i hx hb hK hP 2 rfl (by omega) (by omega) d_Mo_has_8 ?_
    refine xi (y := nI (sz q)) rfl ?_
    refine xc_ge (tgt := 36) (a := k) (b := sz q) hx hb (by omega) (by omega) d_Mo_has_9 (by decide) (fun c_9 => ?_) (fun c_9 => ?_)
    · refine lv_iconst (v := nI 0) hx hb d_Mo_has_36 (by decide) ?_
      exact xr_zret (by first | exact Or.inl rfl | exact Or.inr rfl | exact bN_v _) hx hb hr hlocks hP hD hS (Nat.le_of_ble_eq_true rfl) (Nat.le_of_ble_eq_true rfl) (⟨rfl, by rw [bN_f (fun w => by obtain ⟨i, a, b⟩ := w; exact hno i (by omega) b)]⟩) d_Mo_has_37
    · refine lv_aload_n hx hb d_Mo_has_12 rfl (lv_at hl 0 rfl) ?_
      refine xg hx hb hown htw hK hP 0 13 rfl k_Mo (by decide) fl_Mo_32 rfl d_Mo_has_13 ?_
      refine lv_sipush (v := nI 520) hx hb d_Mo_has_16 (by decide) ?_
      refine lv_iload_n hx hb d_Mo_has_19 rfl (lv_at hl 1 rfl) ?_
      refine lv_imul hx hb d_Mo_has_20 ?_
      refine xi (nI_mul 520 q) ?_
      refine lv_iload_n hx hb d_Mo_has_21 rfl (lv_at hl 3 rfl) ?_
      refine lv_iadd hx hb d_Mo_has_22 ?_
      refine xi (nI_add (520 * q) k) ?_
      refine xald_i hx hb hK hP 1 rfl (by omega) (by omega) d_Mo_has_23 ?_
      refine xi (y := nI (rh ((520 * q) + k))) rfl ?_
      refine lv_iload_n hx hb d_Mo_has_24 rfl (lv_at hl 2 rfl) ?_
      refine xc_ne (tgt := 30) (a := rh ((520 * q) + k)) (b := x) hx hb (by have := hbd k (by omega); omega) (by omega) d_Mo_has_25 (by decide) (fun c_25 => ?_) (fun c_25 => ?_)
      · refine lv_iinc (v := nI (k + 1)) (lv' := [(3, .int (nI (k + 1))), (0, .ref m0), (1, .int (nI q)), (2, .int (nI x))]) hx hb d_Mo_has_30 hl (k := 3) rfl (inc_nI _ _) (by decide) rfl (fun ls hl => ?_)
        refine lv_goto (tgt := 2) hx hb d_Mo_has_33 (by decide) ?_
        exact ih (k + 1) (by first | assumption | omega) (by exact fun i hi w => by rcases Nat.lt_or_ge i k with v | v; (exact hno i v w); (have e : i = k := by omega); (rw [e] at w; exact c_25 w)) (by omega) _ _ hP hD hS _ (lv_sub hl [1, 2, 3, 0] rfl)
      · refine lv_iconst (v := nI 1) hx hb d_Mo_has_28 (by decide) ?_
        exact xr_zret (by first | exact Or.inl rfl | exact Or.inr rfl | exact bN_v _) hx hb hr hlocks hP hD hS (Nat.le_of_ble_eq_true rfl) (Nat.le_of_ble_eq_true rfl) (⟨rfl, by rw [bN_t ⟨k, c_9, c_25⟩]⟩) d_Mo_has_29
set_option maxHeartbeats 4000000 in
set_option maxRecDepth 100000 in
theorem c_Mo_has (l : Launch) (D : va_G) (K : Nat → ClassId) (m0 : Nat) (th : Nat) (T : Nat) (hd : Nat) (r1 : Nat) (r2 : Nat) (r3 : Nat) (r4 : Nat) (cm : Nat) (r5 : Nat) (r6 : Nat) (sg : Nat) (r7 : Nat) (sn : Nat) (r8 : Nat) (r9 : Nat) (rh : Nat → Nat) (sz : Nat → Nat) (q : Nat) (x : Nat) (hq : q ≤ 8) (hz : sz q ≤ 520) (hbd : ∀ k, k < sz q → rh (520 * q + k) < 2 ^ 24) (hx1 : x < 2 ^ 31) : CI l y_Mo_has b_Mo_has 4 .boolean ({ frames := 0, cells := 0, slots := 0, locals := 0 } : Room) D K [.ref m0, .int (nI q), .int (nI x)] [(m0, .inr (8, [.int (nI th), .int (nI T), .int (nI hd), .ref r1, .ref r2, .ref r3, .ref r4, .int (nI cm), .ref r5, .ref r6, .int (nI sg), .ref r7, .int (nI sn), .ref r8, .ref r9])), (r8, .inl (K 0, 4680, .inl (nA rh))), (r9, .inl (K 0, 9, .inl (nA sz)))] (q_Mo_has K m0 th T hd r1 r2 r3 r4 cm r5 r6 sg r7 sn r8 r9 rh sz q x) := by
  refine CI_of (by decide) (Nat.le_of_ble_eq_true rfl) ?_
  intro p e s m below meth c A b0 ls hF hA hP hD hl
  have hF2 := hF
  obtain ⟨hx, hb, hr, hml, hown, htw, hK, hlocks, hname⟩ := hF
  have hS : va_S A s.heap s.heap [] := va_S.rf
  have hl : lv_has ls 4 [(0, .ref m0), (1, .int (nI q)), (2, .int (nI x))] := hl
  refine lv_iconst (v := nI 0) hx hb d_Mo_has_0 (by decide) ?_
  refine lv_istore_n (lv' := [(3, .int (nI 0)), (0, .ref m0), (1, .int (nI q)), (2, .int (nI x))]) hx hb d_Mo_has_1 rfl hl (by decide) rfl (fun ls hl => ?_)
  exact lp_Mo_has_2 (l := l) m0 th T hd r1 r2 r3 r4 cm r5 r6 sg r7 sn r8 r9 rh sz q x hq hz hbd hx1 hF2 hA _ 0 (by first | assumption | omega) (by exact fun i hi => by omega) (Nat.lt_succ_self _) _ _ hP hD hS _ (lv_sub hl [1, 2, 3, 0] rfl)

abbrev q_Mo_many (K : Nat → ClassId) (m0 : Nat) (th : Nat) (T : Nat) (hd : Nat) (r1 : Nat) (r2 : Nat) (r3 : Nat) (r4 : Nat) (cm : Nat) (r5 : Nat) (r6 : Nat) (sg : Nat) (r7 : Nat) (sn : Nat) (r8 : Nat) (r9 : Nat) (rh : Nat → Nat) (sz : Nat → Nat) (q : Nat) (d : Nat) : Int32 → va_W → Prop := fun r u => u = [(m0, .inr (8, [.int (nI th), .int (nI T), .int (nI hd), .ref r1, .ref r2, .ref r3, .ref r4, .int (nI cm), .ref r5, .ref r6, .int (nI sg), .ref r7, .int (nI sn), .ref r8, .ref r9])), (r8, .inl (K 0, 4680, .inl (nA rh))), (r9, .inl (K 0, 9, .inl (nA sz)))] ∧ r = nI (cnP (fun j9 => rh (520 * q + j9) / 2 ^ 14 = d) (sz q))
set_option maxHeartbeats 4000000 in
set_option maxRecDepth 100000 in
theorem lp_Mo_many_5 {p : Program} {l : Launch} {e : Env} {s : State} {m : MethodId} {below : List Frame} {meth : Method} {c : Code} {A : Nat → Prop} {D : va_G} {K : Nat → ClassId} (m0 : Nat) (th : Nat) (T : Nat) (hd : Nat) (r1 : Nat) (r2 : Nat) (r3 : Nat) (r4 : Nat) (cm : Nat) (r5 : Nat) (r6 : Nat) (sg : Nat) (r7 : Nat) (sn : Nat) (r8 : Nat) (r9 : Nat) (rh : Nat → Nat) (sz : Nat → Nat) (q : Nat) (d : Nat) (hq : q ≤ 8) (hz : sz q ≤ 520) (hbd : ∀ k, k < sz q → rh (520 * q + k) < 2 ^ 24) (hd1 : d < 2 ^ 31) (hF : Fx p s m meth c y_Mo_many b_Mo_many 5 (some .int) D K) {b0 : Nat} (hA : AS K s A b0) : ∀ fuel : Nat, ∀ k : Nat, (k ≤ sz q) → sz q - k < fuel → ∀ (H : Heap) (locs : List Loc), va_P D classes [(m0, .inr (8, [.int (nI th), .int (nI T), .int (nI hd), .ref r1, .ref r2, .ref r3, .ref r4, .int (nI cm), .ref r5, .ref r6, .int (nI sg), .ref r7, .int (nI sn), .ref r8, .ref r9])), (r8, .inl (K 0, 4680, .inl (nA rh))), (r9, .inl (K 0, 9, .inl (nA sz)))] H → va_D A [(m0, .inr (8, [.int (nI th), .int (nI T), .int (nI hd), .ref r1, .ref r2, .ref r3, .ref r4, .int (nI cm), .ref r5, .ref r6, .int (nI sg), .ref r7, .int (nI sn), .ref r8, .ref r9])), (r8, .inl (K 0, 4680, .inl (nA rh))), (r9, .inl (K 0, 9, .inl (nA sz)))] → va_S A s.heap H locs → ∀ ls : Array Slot, lv_has ls 5 [(0, .ref m0), (1, .int (nI q)), (2, .int (nI d)), (3, .int (nI (cnP (fun j9 => rh (520 * q + j9) / 2 ^ 14 = d) k))), (4, .int (nI k))] → W p l e ({ frames := 0, cells := 0, slots := 0, locals := 0 } : Room) s m ([.ref m0, .int (nI q), .int (nI d)] : List Value).toArray below meth c H locs 0 0 (MQ below (va_Qi (q_Mo_many K m0 th T hd r1 r2 r3 r4 cm r5 r6 sg r7 sn r8 r9 rh sz q d) (fun u t => va_P D classes u t.heap ∧ va_D A u) A) ([.ref m0, .int (nI q), .int (nI d)] : List Value).toArray s 0 0 A) (F0 m 5 ls []) := by
  have hF2 := hF
  obtain ⟨hx, hb, hr, hml, hown, htw, hK, hlocks, hname⟩ := hF
  intro fuel
  induction fuel with
  | zero => intros; omega
  | succ fuel ih =>
    have jn_39 : ∀ k : Nat, ∀ cc2 : Nat, (k < sz q) → (sz q - k < fuel + 1) → (cc2 = cnP (fun j9 => rh (520 * q + j9) / 2 ^ 14 = d) (k + 1)) → ∀ (H : Heap) (locs : List Loc), va_P D classes [(m0, .inr (8, [.int (nI th), .int (nI T), .int (nI hd), .ref r1, .ref r2, .ref r3, .ref r4, .int (nI cm), .ref r5, .ref r6, .int (nI sg), .ref r7, .int (nI sn), .ref r8, .ref r9])), (r8, .inl (K 0, 4680, .inl (nA rh))), (r9, .inl (K 0, 9, .inl (nA sz)))] H → va_D A [(m0, .inr (8, [.int (nI th), .int (nI T), .int (nI hd), .ref r1, .ref r2, .ref r3, .ref r4, .int (nI cm), .ref r5, .ref r6, .int (nI sg), .ref r7, .int (nI sn), .ref r8, .ref r9])), (r8, .inl (K 0, 4680, .inl (nA rh))), (r9, .inl (K 0, 9, .inl (nA sz)))] → va_S A s.heap H locs → ∀ ls : Array Slot, lv_has ls 5 [(0, .ref m0), (1, .int (nI q)), (2, .int (nI d)), (3, .int (nI cc2)), (4, .int (nI k))] → W p l e ({ frames := 0, cells := 0, slots := 0, locals := 0 } : Room) s m ([.ref m0, .int (nI q), .int (nI d)] : List Value).toArray below meth c H locs 0 0 (MQ below (va_Qi (q_Mo_many K m0 th T hd r1 r2 r3 r4 cm r5 r6 sg r7 sn r8 r9 rh sz q d) (fun u t => va_P D classes u t.heap ∧ va_D A u) A) ([.ref m0, .int (nI q), .int (nI d)] : List Value).toArray s 0 0 A) (F0 m 39 ls []) := by
      intro k cc2 hk1 hfu hcc H locs hP hD hS ls hl
      subst hcc
      refine lv_iinc (v := nI (k + 1)) (lv' := [(4, .int (nI (k + 1))), (0, .ref m0), (1, .int (nI q)), (2, .int (nI d)), (3, .int (nI (cnP (fun j9 => rh (520 * q + j9) / 2 ^ 14 = d) (k + 1))))]) hx hb d_Mo_many_39 hl (k := 4) rfl (inc_nI _ _) (by decide) rfl (fun ls hl => ?_)
      refine lv_goto (tgt := 5) hx hb d_Mo_many_42 (by decide) ?_
      exact ih (k + 1) (by first | assumption | omega) (by omega) _ _ hP hD hS _ (lv_sub hl [1, 2, 3, 4, 0] rfl)
    intro k hk1 hfu H locs hP hD hS ls hl
    refine lv_iload hx hb d_Mo_many_5 (lv_at hl 4 rfl) ?_
    refine lv_aload_n hx hb d_Mo_many_7 rfl (lv_at hl 0 rfl) ?_
    refine xg hx hb hown htw hK hP 0 14 rfl k_Mo (by decide) fl_Mo_35 rfl d_Mo_many_8 ?_
    refine lv_iload_n hx hb d_Mo_many_11 rfl (lv_at hl 1 rfl) ?_
    refine xald_i hx hb hK hP 2 rfl (by omega) (by omega) d_Mo_many_12 ?_
    refine xi (y := nI (sz q)) rfl ?_
    refine xc_ge (tgt := 45) (a := k) (b := sz q) hx hb (by omega) (by omega) d_Mo_many_13 (by decide) (fun c_13 => ?_) (fun c_13 => ?_)
    · have hk2 : sz q = k := by omega
      subst hk2
      refine lv_iload_n hx hb d_Mo_many_45 rfl (lv_at hl 3 rfl) ?_
      exact xr_iret hx hb hr hlocks hP hD hS (Nat.le_of_ble_eq_true rfl) (Nat.le_of_ble_eq_true rfl) (⟨rfl, rfl⟩) d_Mo_many_46
    · refine lv_aload_n hx hb d_Mo_many_16 rfl (lv_at hl 0 rfl) ?_
      refine xg hx hb hown htw hK hP 0 13 rfl k_Mo (by decide) fl_Mo_32 rfl d_Mo_many_17 ?_
      refine lv_sipush (v := nI 520) hx hb d_Mo_many_20 (by decide) ?_
      refine lv_iload_n hx hb d_Mo_many_23 rfl (lv_at hl 1 rfl) ?_
      refine lv_imul hx hb d_Mo_many_24 ?_
      refine xi (nI_mul 520 q) ?_
      refine lv_iload hx hb d_Mo_many_25 (lv_at hl 4 rfl) ?_
      refine lv_iadd hx hb d_Mo_many_27 ?_
      refine xi (nI_add (520 * q) k) ?_
      refine xald_i hx hb hK hP 1 rfl (by omega) (by omega) d_Mo_many_28 ?_
      refine xi (y := nI (rh ((520 * q) + k))) rfl ?_
      refine lv_bipush (v := nI 14) hx hb d_Mo_many_29 (by decide) ?_
      refine lv_ishr hx hb d_Mo_many_31 ?_
      refine xi (y := nI (rh ((520 * q) + k) / 2 ^ 14)) (pk_shrN (by have := hbd k (by omega); omega) _ 14 (by decide)) ?_
      refine lv_iload_n hx hb d_Mo_many_32 rfl (lv_at hl 2 rfl) ?_
      refine xc_ne (tgt := 39) (a := rh ((520 * q) + k) / 2 ^ 14) (b := d) hx hb (by have := hbd k (by omega); omega) (by omega) d_Mo_many_33 (by decide) (fun c_33 => ?_) (fun c_33 => ?_)
      · exact jn_39 k (cnP (fun j9 => rh (520 * q + j9) / 2 ^ 14 = d) k) (by first | assumption | omega) (by first | assumption | omega) (by exact (cnP_n (P := (fun j9 => rh (520 * q + j9) / 2 ^ 14 = d)) (n := k) c_33).symm) _ _ hP hD hS _ (lv_sub hl [0, 1, 2, 3, 4] rfl)
      · refine lv_iinc (v := nI ((cnP (fun j9 => rh (520 * q + j9) / 2 ^ 14 = d) k) + 1)) (lv' := [(3, .int (nI ((cnP (fun j9 => rh (520 * q + j9) / 2 ^ 14 = d) k) + 1))), (0, .ref m0), (1, .int (nI q)), (2, .int (nI d)), (4, .int (nI k))]) hx hb d_Mo_many_36 hl (k := 3) rfl (inc_nI _ _) (by decide) rfl (fun ls hl => ?_)
        exact jn_39 k ((cnP (fun j9 => rh (520 * q + j9) / 2 ^ 14 = d) k) + 1) (by first | assumption | omega) (by first | assumption | omega) (by exact (cnP_y (P := (fun j9 => rh (520 * q + j9) / 2 ^ 14 = d)) (n := k) c_33).symm) _ _ hP hD hS _ (lv_sub hl [1, 2, 3, 0, 4] rfl)
set_option maxHeartbeats 4000000 in
set_option maxRecDepth 100000 in
theorem c_Mo_many (l : Launch) (D : va_G) (K : Nat → ClassId) (m0 : Nat) (th : Nat) (T : Nat) (hd : Nat) (r1 : Nat) (r2 : Nat) (r3 : Nat) (r4 : Nat) (cm : Nat) (r5 : Nat) (r6 : Nat) (sg : Nat) (r7 : Nat) (sn : Nat) (r8 : Nat) (r9 : Nat) (rh : Nat → Nat) (sz : Nat → Nat) (q : Nat) (d : Nat) (hq : q ≤ 8) (hz : sz q ≤ 520) (hbd : ∀ k, k < sz q → rh (520 * q + k) < 2 ^ 24) (hd1 : d < 2 ^ 31) : CI l y_Mo_many b_Mo_many 5 .int ({ frames := 0, cells := 0, slots := 0, locals := 0 } : Room) D K [.ref m0, .int (nI q), .int (nI d)] [(m0, .inr (8, [.int (nI th), .int (nI T), .int (nI hd), .ref r1, .ref r2, .ref r3, .ref r4, .int (nI cm), .ref r5, .ref r6, .int (nI sg), .ref r7, .int (nI sn), .ref r8, .ref r9])), (r8, .inl (K 0, 4680, .inl (nA rh))), (r9, .inl (K 0, 9, .inl (nA sz)))] (q_Mo_many K m0 th T hd r1 r2 r3 r4 cm r5 r6 sg r7 sn r8 r9 rh sz q d) := by
  refine CI_of (by decide) (Nat.le_of_ble_eq_true rfl) ?_
  intro p e s m below meth c A b0 ls hF hA hP hD hl
  have hF2 := hF
  obtain ⟨hx, hb, hr, hml, hown, htw, hK, hlocks, hname⟩ := hF
  have hS : va_S A s.heap s.heap [] := va_S.rf
  have hl : lv_has ls 5 [(0, .ref m0), (1, .int (nI q)), (2, .int (nI d))] := hl
  refine lv_iconst (v := nI 0) hx hb d_Mo_many_0 (by decide) ?_
  refine lv_istore_n (lv' := [(3, .int (nI 0)), (0, .ref m0), (1, .int (nI q)), (2, .int (nI d))]) hx hb d_Mo_many_1 rfl hl (by decide) rfl (fun ls hl => ?_)
  rw [show nI 0 = nI (cnP (fun j9 => rh (520 * q + j9) / 2 ^ 14 = d) 0) from rfl] at hl
  refine lv_iconst (v := nI 0) hx hb d_Mo_many_2 (by decide) ?_
  refine lv_istore (lv' := [(4, .int (nI 0)), (3, .int (nI (cnP (fun j9 => rh (520 * q + j9) / 2 ^ 14 = d) 0))), (0, .ref m0), (1, .int (nI q)), (2, .int (nI d))]) hx hb d_Mo_many_3 hl (by decide) rfl (fun ls hl => ?_)
  exact lp_Mo_many_5 (l := l) m0 th T hd r1 r2 r3 r4 cm r5 r6 sg r7 sn r8 r9 rh sz q d hq hz hbd hd1 hF2 hA _ 0 (by first | assumption | omega) (Nat.lt_succ_self _) _ _ hP hD hS _ (lv_sub hl [2, 3, 4, 1, 0] rfl)

abbrev q_Mo_byteAt (K : Nat → ClassId) (a : Int32) (b : Int32) (k : Nat) : Int32 → va_W → Prop := fun r u => u = [] ∧ r = byA a b k
set_option maxHeartbeats 4000000 in
set_option maxRecDepth 100000 in
theorem c_Mo_byteAt (l : Launch) (D : va_G) (K : Nat → ClassId) (a : Int32) (b : Int32) (k : Nat) (hk : k < 8) : CI l y_Mo_byteAt b_Mo_byteAt 3 .int ({ frames := 0, cells := 0, slots := 0, locals := 0 } : Room) D K [.int a, .int b, .int (nI k)] [] (q_Mo_byteAt K a b k) := by
  refine CI_of (by decide) (Nat.le_of_ble_eq_true rfl) ?_
  intro p e s m below meth c A b0 ls hF hA hP hD hl
  have hF2 := hF
  obtain ⟨hx, hb, hr, hml, hown, htw, hK, hlocks, hname⟩ := hF
  have hS : va_S A s.heap s.heap [] := va_S.rf
  have hl : lv_has ls 3 [(0, .int a), (1, .int b), (2, .int (nI k))] := hl
  refine lv_iload_n hx hb d_Mo_byteAt_0 rfl (lv_at hl 2 rfl) ?_
  refine lv_iconst (v := nI 4) hx hb d_Mo_byteAt_1 (by decide) ?_
  refine xc_ge (tgt := 17) (a := k) (b := 4) hx hb (by omega) (by omega) d_Mo_byteAt_2 (by decide) (fun c_2 => ?_) (fun c_2 => ?_)
  · refine lv_iload_n hx hb d_Mo_byteAt_17 rfl (lv_at hl 1 rfl) ?_
    refine lv_bipush (v := nI 56) hx hb d_Mo_byteAt_18 (by decide) ?_
    refine lv_bipush (v := nI 8) hx hb d_Mo_byteAt_20 (by decide) ?_
    refine lv_iload_n hx hb d_Mo_byteAt_22 rfl (lv_at hl 2 rfl) ?_
    refine lv_imul hx hb d_Mo_byteAt_23 ?_
    refine xi (nI_mul 8 k) ?_
    refine lv_isub hx hb d_Mo_byteAt_24 ?_
    refine xi (nI_sub (a := 56) (b := 8 * k) (by omega)) ?_
    refine lv_iushr hx hb d_Mo_byteAt_25 rfl ?_
    refine lv_sipush (v := nI 255) hx hb d_Mo_byteAt_26 (by decide) ?_
    refine lv_iand hx hb d_Mo_byteAt_29 ?_
    exact xr_iret hx hb hr hlocks hP hD hS (Nat.le_of_ble_eq_true rfl) (Nat.le_of_ble_eq_true rfl) (⟨rfl, by unfold byA; first | rw [if_pos c_2] | rw [if_neg (by omega)]⟩) d_Mo_byteAt_30
  · refine lv_iload_n hx hb d_Mo_byteAt_5 rfl (lv_at hl 0 rfl) ?_
    refine lv_bipush (v := nI 24) hx hb d_Mo_byteAt_6 (by decide) ?_
    refine lv_bipush (v := nI 8) hx hb d_Mo_byteAt_8 (by decide) ?_
    refine lv_iload_n hx hb d_Mo_byteAt_10 rfl (lv_at hl 2 rfl) ?_
    refine lv_imul hx hb d_Mo_byteAt_11 ?_
    refine xi (nI_mul 8 k) ?_
    refine lv_isub hx hb d_Mo_byteAt_12 ?_
    refine xi (nI_sub (a := 24) (b := 8 * k) (by omega)) ?_
    refine lv_iushr hx hb d_Mo_byteAt_13 rfl ?_
    refine lv_goto (tgt := 26) hx hb d_Mo_byteAt_14 (by decide) ?_
    refine lv_sipush (v := nI 255) hx hb d_Mo_byteAt_26 (by decide) ?_
    refine lv_iand hx hb d_Mo_byteAt_29 ?_
    exact xr_iret hx hb hr hlocks hP hD hS (Nat.le_of_ble_eq_true rfl) (Nat.le_of_ble_eq_true rfl) (⟨rfl, by unfold byA; first | rw [if_pos c_2] | rw [if_neg (by omega)]⟩) d_Mo_byteAt_30

abbrev q_Mo_alike (K : Nat → ClassId) (m0 : Nat) (th : Nat) (T : Nat) (hd : Nat) (r1 : Nat) (r2 : Nat) (r3 : Nat) (r4 : Nat) (cm : Nat) (r5 : Nat) (r6 : Nat) (sg : Nat) (r7 : Nat) (sn : Nat) (r8 : Nat) (r9 : Nat) (ru : Nat → Int32) (rl : Nat → Int32) (t : Nat) (a : Int32) (b : Int32) (n : Nat) : Int32 → va_W → Prop := fun r u => u = [(m0, .inr (8, [.int (nI th), .int (nI T), .int (nI hd), .ref r1, .ref r2, .ref r3, .ref r4, .int (nI cm), .ref r5, .ref r6, .int (nI sg), .ref r7, .int (nI sn), .ref r8, .ref r9])), (r3, .inl (K 0, 520, .inl ru)), (r4, .inl (K 0, 520, .inl rl))] ∧ r = nI (bN (∀ k, k < n → byA (ru t) (rl t) k = byA a b k))
set_option maxHeartbeats 4000000 in
set_option maxRecDepth 100000 in
theorem lp_Mo_alike_3 {p : Program} {l : Launch} {e : Env} {s : State} {m : MethodId} {below : List Frame} {meth : Method} {c : Code} {A : Nat → Prop} {D : va_G} {K : Nat → ClassId} (m0 : Nat) (th : Nat) (T : Nat) (hd : Nat) (r1 : Nat) (r2 : Nat) (r3 : Nat) (r4 : Nat) (cm : Nat) (r5 : Nat) (r6 : Nat) (sg : Nat) (r7 : Nat) (sn : Nat) (r8 : Nat) (r9 : Nat) (ru : Nat → Int32) (rl : Nat → Int32) (t : Nat) (a : Int32) (b : Int32) (n : Nat) (ht : t < 520) (hn8 : n ≤ 8) (hF : Fx p s m meth c y_Mo_alike b_Mo_alike 6 (some .boolean) D K) {b0 : Nat} (hA : AS K s A b0) : ∀ fuel : Nat, ∀ k : Nat, (k ≤ n) → (∀ i, i < k → byA (ru t) (rl t) i = byA a b i) → n - k < fuel → ∀ (H : Heap) (locs : List Loc), va_P D classes [(m0, .inr (8, [.int (nI th), .int (nI T), .int (nI hd), .ref r1, .ref r2, .ref r3, .ref r4, .int (nI cm), .ref r5, .ref r6, .int (nI sg), .ref r7, .int (nI sn), .ref r8, .ref r9])), (r3, .inl (K 0, 520, .inl ru)), (r4, .inl (K 0, 520, .inl rl))] H → va_D A [(m0, .inr (8, [.int (nI th), .int (nI T), .int (nI hd), .ref r1, .ref r2, .ref r3, .ref r4, .int (nI cm), .ref r5, .ref r6, .int (nI sg), .ref r7, .int (nI sn), .ref r8, .ref r9])), (r3, .inl (K 0, 520, .inl ru)), (r4, .inl (K 0, 520, .inl rl))] → va_S A s.heap H locs → ∀ ls : Array Slot, lv_has ls 6 [(0, .ref m0), (1, .int (nI t)), (2, .int a), (3, .int b), (4, .int (nI n)), (5, .int (nI k))] → W p l e ({ frames := 1, cells := 0, slots := 0, locals := 22 } : Room) s m ([.ref m0, .int (nI t), .int a, .int b, .int (nI n)] : List Value).toArray below meth c H locs 0 0 (MQ below (va_Qi (q_Mo_alike K m0 th T hd r1 r2 r3 r4 cm r5 r6 sg r7 sn r8 r9 ru rl t a b n) (fun u t => va_P D classes u t.heap ∧ va_D A u) A) ([.ref m0, .int (nI t), .int a, .int b, .int (nI n)] : List Value).toArray s 0 0 A) (F0 m 3 ls []) := by
  have hF2 := hF
  obtain ⟨hx, hb, hr, hml, hown, htw, hK, hlocks, hname⟩ := hF
  intro fuel
  induction fuel with
  | zero => intros; omega
  | succ fuel ih =>
    intro k hk1 hal hfu H locs hP hD hS ls hl
    refine lv_iload hx hb d_Mo_alike_3 (lv_at hl 5 rfl) ?_
    refine lv_iload hx hb d_Mo_alike_5 (lv_at hl 4 rfl) ?_
    refine xc_ge (tgt := 45) (a := k) (b := n) hx hb (by omega) (by omega) d_Mo_alike_7 (by decide) (fun c_7 => ?_) (fun c_7 => ?_)
    · refine lv_iconst (v := nI 1) hx hb d_Mo_alike_45 (by decide) ?_
      exact xr_zret (by first | exact Or.inl rfl | exact Or.inr rfl | exact bN_v _) hx hb hr hlocks hP hD hS (Nat.le_of_ble_eq_true rfl) (Nat.le_of_ble_eq_true rfl) (⟨rfl, by rw [bN_t (fun i hi => hal i (by omega))]⟩) d_Mo_alike_46
    · refine lv_aload_n hx hb d_Mo_alike_10 rfl (lv_at hl 0 rfl) ?_
      refine xg hx hb hown htw hK hP 0 5 rfl k_Mo (by decide) fl_Mo_16 rfl d_Mo_alike_11 ?_
      refine lv_iload_n hx hb d_Mo_alike_14 rfl (lv_at hl 1 rfl) ?_
      refine xald_i hx hb hK hP 1 rfl (by omega) (by omega) d_Mo_alike_15 ?_
      refine lv_aload_n hx hb d_Mo_alike_16 rfl (lv_at hl 0 rfl) ?_
      refine xg hx hb hown htw hK hP 0 6 rfl k_Mo (by decide) fl_Mo_19 rfl d_Mo_alike_17 ?_
      refine lv_iload_n hx hb d_Mo_alike_20 rfl (lv_at hl 1 rfl) ?_
      refine xald_i hx hb hK hP 2 rfl (by omega) (by omega) d_Mo_alike_21 ?_
      refine lv_iload hx hb d_Mo_alike_22 (lv_at hl 5 rfl) ?_
      refine xcS_i (As := [.int (ru t), .int (rl t), .int (nI k)]) (rest := []) (wr := [(m0, .inr (8, [.int (nI th), .int (nI T), .int (nI hd), .ref r1, .ref r2, .ref r3, .ref r4, .int (nI cm), .ref r5, .ref r6, .int (nI sg), .ref r7, .int (nI sn), .ref r8, .ref r9])), (r3, .inl (K 0, 520, .inl ru)), (r4, .inl (K 0, 520, .inl rl))]) hx hb hml hown htw hK hA hl.1 hP hD hS (c_Mo_byteAt l D K (ru t) (rl t) k (by first | assumption | omega)) [] [0, 1, 2] rfl rfl (by decide) (by decide) (by decide) ml_Mo_69 w_Mo_byteAt rfl ⟨by decide, by decide⟩ rfl (Nat.le_of_ble_eq_true rfl) ⟨by decide, by decide⟩ d_Mo_alike_24 (fun r u H locs hpost hP hD hS => ?_)
      obtain ⟨rfl, rfl⟩ := hpost
      have hP : va_P D classes [(m0, .inr (8, [.int (nI th), .int (nI T), .int (nI hd), .ref r1, .ref r2, .ref r3, .ref r4, .int (nI cm), .ref r5, .ref r6, .int (nI sg), .ref r7, .int (nI sn), .ref r8, .ref r9])), (r3, .inl (K 0, 520, .inl ru)), (r4, .inl (K 0, 520, .inl rl))] H := hP
      have hD : va_D A [(m0, .inr (8, [.int (nI th), .int (nI T), .int (nI hd), .ref r1, .ref r2, .ref r3, .ref r4, .int (nI cm), .ref r5, .ref r6, .int (nI sg), .ref r7, .int (nI sn), .ref r8, .ref r9])), (r3, .inl (K 0, 520, .inl ru)), (r4, .inl (K 0, 520, .inl rl))] := hD
      refine lv_iload_n hx hb d_Mo_alike_27 rfl (lv_at hl 2 rfl) ?_
      refine lv_iload_n hx hb d_Mo_alike_28 rfl (lv_at hl 3 rfl) ?_
      refine lv_iload hx hb d_Mo_alike_29 (lv_at hl 5 rfl) ?_
      refine xcS_i (As := [.int a, .int b, .int (nI k)]) (rest := [.int (byA (ru t) (rl t) k)]) (wr := [(m0, .inr (8, [.int (nI th), .int (nI T), .int (nI hd), .ref r1, .ref r2, .ref r3, .ref r4, .int (nI cm), .ref r5, .ref r6, .int (nI sg), .ref r7, .int (nI sn), .ref r8, .ref r9])), (r3, .inl (K 0, 520, .inl ru)), (r4, .inl (K 0, 520, .inl rl))]) hx hb hml hown htw hK hA hl.1 hP hD hS (c_Mo_byteAt l D K a b k (by first | assumption | omega)) [] [0, 1, 2] rfl rfl (by decide) (by decide) (by decide) ml_Mo_69 w_Mo_byteAt rfl ⟨by decide, by decide⟩ rfl (Nat.le_of_ble_eq_true rfl) ⟨by decide, by decide⟩ d_Mo_alike_31 (fun r u H locs hpost hP hD hS => ?_)
      obtain ⟨rfl, rfl⟩ := hpost
      have hP : va_P D classes [(m0, .inr (8, [.int (nI th), .int (nI T), .int (nI hd), .ref r1, .ref r2, .ref r3, .ref r4, .int (nI cm), .ref r5, .ref r6, .int (nI sg), .ref r7, .int (nI sn), .ref r8, .ref r9])), (r3, .inl (K 0, 520, .inl ru)), (r4, .inl (K 0, 520, .inl rl))] H := hP
      have hD : va_D A [(m0, .inr (8, [.int (nI th), .int (nI T), .int (nI hd), .ref r1, .ref r2, .ref r3, .ref r4, .int (nI cm), .ref r5, .ref r6, .int (nI sg), .ref r7, .int (nI sn), .ref r8, .ref r9])), (r3, .inl (K 0, 520, .inl ru)), (r4, .inl (K 0, 520, .inl rl))] := hD
      refine lv_icmp_eq (tgt := 39) hx hb d_Mo_alike_34 (by decide) (fun c_34 => ?_) (fun c_34 => ?_)
      · refine lv_iinc (v := nI (k + 1)) (lv' := [(5, .int (nI (k + 1))), (0, .ref m0), (1, .int (nI t)), (2, .int a), (3, .int b), (4, .int (nI n))]) hx hb d_Mo_alike_39 hl (k := 5) rfl (inc_nI _ _) (by decide) rfl (fun ls hl => ?_)
        refine lv_goto (tgt := 3) hx hb d_Mo_alike_42 (by decide) ?_
        exact ih (k + 1) (by first | assumption | omega) (by exact fun i hi => by rcases Nat.lt_or_ge i k with v | v; (exact hal i v); (have e : i = k := by omega); (rw [e]; exact c_34)) (by omega) _ _ hP hD hS _ (lv_sub hl [1, 2, 3, 4, 5, 0] rfl)
      · refine lv_iconst (v := nI 0) hx hb d_Mo_alike_37 (by decide) ?_
        exact xr_zret (by first | exact Or.inl rfl | exact Or.inr rfl | exact bN_v _) hx hb hr hlocks hP hD hS (Nat.le_of_ble_eq_true rfl) (Nat.le_of_ble_eq_true rfl) (⟨rfl, by rw [bN_f (fun w => c_34 (w k c_7))]⟩) d_Mo_alike_38
set_option maxHeartbeats 4000000 in
set_option maxRecDepth 100000 in
theorem c_Mo_alike (l : Launch) (D : va_G) (K : Nat → ClassId) (m0 : Nat) (th : Nat) (T : Nat) (hd : Nat) (r1 : Nat) (r2 : Nat) (r3 : Nat) (r4 : Nat) (cm : Nat) (r5 : Nat) (r6 : Nat) (sg : Nat) (r7 : Nat) (sn : Nat) (r8 : Nat) (r9 : Nat) (ru : Nat → Int32) (rl : Nat → Int32) (t : Nat) (a : Int32) (b : Int32) (n : Nat) (ht : t < 520) (hn8 : n ≤ 8) : CI l y_Mo_alike b_Mo_alike 6 .boolean ({ frames := 1, cells := 0, slots := 0, locals := 22 } : Room) D K [.ref m0, .int (nI t), .int a, .int b, .int (nI n)] [(m0, .inr (8, [.int (nI th), .int (nI T), .int (nI hd), .ref r1, .ref r2, .ref r3, .ref r4, .int (nI cm), .ref r5, .ref r6, .int (nI sg), .ref r7, .int (nI sn), .ref r8, .ref r9])), (r3, .inl (K 0, 520, .inl ru)), (r4, .inl (K 0, 520, .inl rl))] (q_Mo_alike K m0 th T hd r1 r2 r3 r4 cm r5 r6 sg r7 sn r8 r9 ru rl t a b n) := by
  refine CI_of (by decide) (Nat.le_of_ble_eq_true rfl) ?_
  intro p e s m below meth c A b0 ls hF hA hP hD hl
  have hF2 := hF
  obtain ⟨hx, hb, hr, hml, hown, htw, hK, hlocks, hname⟩ := hF
  have hS : va_S A s.heap s.heap [] := va_S.rf
  have hl : lv_has ls 6 [(0, .ref m0), (1, .int (nI t)), (2, .int a), (3, .int b), (4, .int (nI n))] := hl
  refine lv_iconst (v := nI 0) hx hb d_Mo_alike_0 (by decide) ?_
  refine lv_istore (lv' := [(5, .int (nI 0)), (0, .ref m0), (1, .int (nI t)), (2, .int a), (3, .int b), (4, .int (nI n))]) hx hb d_Mo_alike_1 hl (by decide) rfl (fun ls hl => ?_)
  exact lp_Mo_alike_3 (l := l) m0 th T hd r1 r2 r3 r4 cm r5 r6 sg r7 sn r8 r9 ru rl t a b n ht hn8 hF2 hA _ 0 (by first | assumption | omega) (by exact fun i hi => by omega) (Nat.lt_succ_self _) _ _ hP hD hS _ (lv_sub hl [1, 2, 3, 4, 5, 0] rfl)

abbrev q_Mo_found (K : Nat → ClassId) (m0 : Nat) (th : Nat) (T : Nat) (hd : Nat) (r1 : Nat) (r2 : Nat) (r3 : Nat) (r4 : Nat) (cm : Nat) (r5 : Nat) (r6 : Nat) (sg : Nat) (r7 : Nat) (sn : Nat) (r8 : Nat) (r9 : Nat) (rd : Nat → Nat) (tkn : Nat → Nat) (t : Nat) : Int32 → va_W → Prop := fun r u => u = [(m0, .inr (8, [.int (nI th), .int (nI T), .int (nI hd), .ref r1, .ref r2, .ref r3, .ref r4, .int (nI cm), .ref r5, .ref r6, .int (nI sg), .ref r7, .int (nI sn), .ref r8, .ref r9])), (r1, .inl (K 0, 520, .inl (nA rd))), (r6, .inl (K 2, 600, .inl (nA tkn)))] ∧ r = nI (bN (t < hd ∧ tkn (rd t) = 0))
set_option maxHeartbeats 4000000 in
set_option maxRecDepth 100000 in
theorem c_Mo_found (l : Launch) (D : va_G) (K : Nat → ClassId) (m0 : Nat) (th : Nat) (T : Nat) (hd : Nat) (r1 : Nat) (r2 : Nat) (r3 : Nat) (r4 : Nat) (cm : Nat) (r5 : Nat) (r6 : Nat) (sg : Nat) (r7 : Nat) (sn : Nat) (r8 : Nat) (r9 : Nat) (rd : Nat → Nat) (tkn : Nat → Nat) (t : Nat) (ht : t < 520) (hhd : hd < 2 ^ 31) (hrd : t < hd → rd t < 600 ∧ tkn (rd t) ≤ 1) : CI l y_Mo_found b_Mo_found 2 .boolean ({ frames := 0, cells := 0, slots := 0, locals := 0 } : Room) D K [.ref m0, .int (nI t)] [(m0, .inr (8, [.int (nI th), .int (nI T), .int (nI hd), .ref r1, .ref r2, .ref r3, .ref r4, .int (nI cm), .ref r5, .ref r6, .int (nI sg), .ref r7, .int (nI sn), .ref r8, .ref r9])), (r1, .inl (K 0, 520, .inl (nA rd))), (r6, .inl (K 2, 600, .inl (nA tkn)))] (q_Mo_found K m0 th T hd r1 r2 r3 r4 cm r5 r6 sg r7 sn r8 r9 rd tkn t) := by
  refine CI_of (by decide) (Nat.le_of_ble_eq_true rfl) ?_
  intro p e s m below meth c A b0 ls hF hA hP hD hl
  have hF2 := hF
  obtain ⟨hx, hb, hr, hml, hown, htw, hK, hlocks, hname⟩ := hF
  have jn_26 : (¬ (t < hd ∧ tkn (rd t) = 0)) → ∀ (H : Heap) (locs : List Loc), va_P D classes [(m0, .inr (8, [.int (nI th), .int (nI T), .int (nI hd), .ref r1, .ref r2, .ref r3, .ref r4, .int (nI cm), .ref r5, .ref r6, .int (nI sg), .ref r7, .int (nI sn), .ref r8, .ref r9])), (r1, .inl (K 0, 520, .inl (nA rd))), (r6, .inl (K 2, 600, .inl (nA tkn)))] H → va_D A [(m0, .inr (8, [.int (nI th), .int (nI T), .int (nI hd), .ref r1, .ref r2, .ref r3, .ref r4, .int (nI cm), .ref r5, .ref r6, .int (nI sg), .ref r7, .int (nI sn), .ref r8, .ref r9])), (r1, .inl (K 0, 520, .inl (nA rd))), (r6, .inl (K 2, 600, .inl (nA tkn)))] → va_S A s.heap H locs → ∀ ls : Array Slot, lv_has ls 2 [] → W p l e ({ frames := 0, cells := 0, slots := 0, locals := 0 } : Room) s m ([.ref m0, .int (nI t)] : List Value).toArray below meth c H locs 0 0 (MQ below (va_Qi (q_Mo_found K m0 th T hd r1 r2 r3 r4 cm r5 r6 sg r7 sn r8 r9 rd tkn t) (fun u t => va_P D classes u t.heap ∧ va_D A u) A) ([.ref m0, .int (nI t)] : List Value).toArray s 0 0 A) (F0 m 26 ls []) := by
    intro hno H locs hP hD hS ls hl
    refine lv_iconst (v := nI 0) hx hb d_Mo_found_26 (by decide) ?_
    exact xr_zret (by first | exact Or.inl rfl | exact Or.inr rfl | exact bN_v _) hx hb hr hlocks hP hD hS (Nat.le_of_ble_eq_true rfl) (Nat.le_of_ble_eq_true rfl) (⟨rfl, by first | rw [bN_f hno] | rw [bN_t ⟨c_5, c_19⟩]⟩) d_Mo_found_27
  have hS : va_S A s.heap s.heap [] := va_S.rf
  have hl : lv_has ls 2 [(0, .ref m0), (1, .int (nI t))] := hl
  refine lv_iload_n hx hb d_Mo_found_0 rfl (lv_at hl 1 rfl) ?_
  refine lv_aload_n hx hb d_Mo_found_1 rfl (lv_at hl 0 rfl) ?_
  refine xg hx hb hown htw hK hP 0 2 rfl k_Mo (by decide) fl_Mo_42 rfl d_Mo_found_2 ?_
  refine xc_ge (tgt := 26) (a := t) (b := hd) hx hb (by omega) (by omega) d_Mo_found_5 (by decide) (fun c_5 => ?_) (fun c_5 => ?_)
  · exact jn_26  (by exact fun w => by omega) _ _ hP hD hS _ (lv_sub hl [] rfl)
  · refine lv_aload_n hx hb d_Mo_found_8 rfl (lv_at hl 0 rfl) ?_
    refine xg hx hb hown htw hK hP 0 9 rfl k_Mo (by decide) fl_Mo_25 rfl d_Mo_found_9 ?_
    refine lv_aload_n hx hb d_Mo_found_12 rfl (lv_at hl 0 rfl) ?_
    refine xg hx hb hown htw hK hP 0 3 rfl k_Mo (by decide) fl_Mo_7 rfl d_Mo_found_13 ?_
    refine lv_iload_n hx hb d_Mo_found_16 rfl (lv_at hl 1 rfl) ?_
    refine xald_i hx hb hK hP 1 rfl (by omega) (by omega) d_Mo_found_17 ?_
    refine xi (y := nI (rd t)) rfl ?_
    refine xald_z hx hb hK hP 2 rfl (by have := hrd c_5; omega) (by omega) d_Mo_found_18 ?_
    refine xi (y := nI (tkn (rd t))) rfl ?_
    refine xz_ne (tgt := 26) (a := tkn (rd t)) hx hb (by have := hrd c_5; omega) d_Mo_found_19 (by decide) (fun c_19 => ?_) (fun c_19 => ?_)
    · exact jn_26  (by exact fun w => by omega) _ _ hP hD hS _ (lv_sub hl [] rfl)
    · refine lv_iconst (v := nI 1) hx hb d_Mo_found_22 (by decide) ?_
      refine lv_goto (tgt := 27) hx hb d_Mo_found_23 (by decide) ?_
      exact xr_zret (by first | exact Or.inl rfl | exact Or.inr rfl | exact bN_v _) hx hb hr hlocks hP hD hS (Nat.le_of_ble_eq_true rfl) (Nat.le_of_ble_eq_true rfl) (⟨rfl, by first | rw [bN_f hno] | rw [bN_t ⟨c_5, c_19⟩]⟩) d_Mo_found_27

abbrev q_Mo_hitOf (K : Nat → ClassId) (m0 : Nat) (th : Nat) (T : Nat) (hd : Nat) (r1 : Nat) (r2 : Nat) (r3 : Nat) (r4 : Nat) (cm : Nat) (r5 : Nat) (r6 : Nat) (sg : Nat) (r7 : Nat) (sn : Nat) (r8 : Nat) (r9 : Nat) (rd : Nat → Nat) (rs : Nat → Nat) (t : Nat) : Int32 → va_W → Prop := fun r u => u = [(m0, .inr (8, [.int (nI th), .int (nI T), .int (nI hd), .ref r1, .ref r2, .ref r3, .ref r4, .int (nI cm), .ref r5, .ref r6, .int (nI sg), .ref r7, .int (nI sn), .ref r8, .ref r9])), (r1, .inl (K 0, 520, .inl (nA rd))), (r2, .inl (K 0, 520, .inl (nA rs)))] ∧ r = nI ((16384 * (rd t)) + (rs t))
set_option maxHeartbeats 4000000 in
set_option maxRecDepth 100000 in
theorem c_Mo_hitOf (l : Launch) (D : va_G) (K : Nat → ClassId) (m0 : Nat) (th : Nat) (T : Nat) (hd : Nat) (r1 : Nat) (r2 : Nat) (r3 : Nat) (r4 : Nat) (cm : Nat) (r5 : Nat) (r6 : Nat) (sg : Nat) (r7 : Nat) (sn : Nat) (r8 : Nat) (r9 : Nat) (rd : Nat → Nat) (rs : Nat → Nat) (t : Nat) (ht : t < 520) : CI l y_Mo_hitOf b_Mo_hitOf 2 .int ({ frames := 0, cells := 0, slots := 0, locals := 0 } : Room) D K [.ref m0, .int (nI t)] [(m0, .inr (8, [.int (nI th), .int (nI T), .int (nI hd), .ref r1, .ref r2, .ref r3, .ref r4, .int (nI cm), .ref r5, .ref r6, .int (nI sg), .ref r7, .int (nI sn), .ref r8, .ref r9])), (r1, .inl (K 0, 520, .inl (nA rd))), (r2, .inl (K 0, 520, .inl (nA rs)))] (q_Mo_hitOf K m0 th T hd r1 r2 r3 r4 cm r5 r6 sg r7 sn r8 r9 rd rs t) := by
  refine CI_of (by decide) (Nat.le_of_ble_eq_true rfl) ?_
  intro p e s m below meth c A b0 ls hF hA hP hD hl
  have hF2 := hF
  obtain ⟨hx, hb, hr, hml, hown, htw, hK, hlocks, hname⟩ := hF
  have hS : va_S A s.heap s.heap [] := va_S.rf
  have hl : lv_has ls 2 [(0, .ref m0), (1, .int (nI t))] := hl
  refine lv_sipush (v := nI 16384) hx hb d_Mo_hitOf_0 (by decide) ?_
  refine lv_aload_n hx hb d_Mo_hitOf_3 rfl (lv_at hl 0 rfl) ?_
  refine xg hx hb hown htw hK hP 0 3 rfl k_Mo (by decide) fl_Mo_7 rfl d_Mo_hitOf_4 ?_
  refine lv_iload_n hx hb d_Mo_hitOf_7 rfl (lv_at hl 1 rfl) ?_
  refine xald_i hx hb hK hP 1 rfl (by omega) (by omega) d_Mo_hitOf_8 ?_
  refine xi (y := nI (rd t)) rfl ?_
  refine lv_imul hx hb d_Mo_hitOf_9 ?_
  refine xi (nI_mul 16384 (rd t)) ?_
  refine lv_aload_n hx hb d_Mo_hitOf_10 rfl (lv_at hl 0 rfl) ?_
  refine xg hx hb hown htw hK hP 0 4 rfl k_Mo (by decide) fl_Mo_13 rfl d_Mo_hitOf_11 ?_
  refine lv_iload_n hx hb d_Mo_hitOf_14 rfl (lv_at hl 1 rfl) ?_
  refine xald_i hx hb hK hP 2 rfl (by omega) (by omega) d_Mo_hitOf_15 ?_
  refine xi (y := nI (rs t)) rfl ?_
  refine lv_iadd hx hb d_Mo_hitOf_16 ?_
  refine xi (nI_add (16384 * (rd t)) (rs t)) ?_
  exact xr_iret hx hb hr hlocks hP hD hS (Nat.le_of_ble_eq_true rfl) (Nat.le_of_ble_eq_true rfl) (⟨rfl, rfl⟩) d_Mo_hitOf_17


abbrev q_Mo_join_no (K : Nat → ClassId) (m0 : Nat) (th : Nat) (T : Nat) (hd : Nat) (r1 : Nat) (r2 : Nat) (r3 : Nat) (r4 : Nat) (cm : Nat) (r5 : Nat) (r6 : Nat) (sg : Nat) (r7 : Nat) (sn : Nat) (r8 : Nat) (r9 : Nat) (x : Int32) : Int32 → va_W → Prop := fun r u => u = [(m0, .inr (8, [.int (nI 2), .int (nI T), .int (nI hd), .ref r1, .ref r2, .ref r3, .ref r4, .int (nI cm), .ref r5, .ref r6, .int (nI sg), .ref r7, .int (nI sn), .ref r8, .ref r9]))] ∧ r = nI 0
set_option maxHeartbeats 4000000 in
set_option maxRecDepth 100000 in
theorem c_Mo_join_no (l : Launch) (D : va_G) (K : Nat → ClassId) (m0 : Nat) (th : Nat) (T : Nat) (hd : Nat) (r1 : Nat) (r2 : Nat) (r3 : Nat) (r4 : Nat) (cm : Nat) (r5 : Nat) (r6 : Nat) (sg : Nat) (r7 : Nat) (sn : Nat) (r8 : Nat) (r9 : Nat) (x : Int32) (hsn : sn < 2) : CI l y_Mo_join b_Mo_join 7 .int ({ frames := 0, cells := 0, slots := 0, locals := 0 } : Room) D K [.ref m0, .int x] [(m0, .inr (8, [.int (nI th), .int (nI T), .int (nI hd), .ref r1, .ref r2, .ref r3, .ref r4, .int (nI cm), .ref r5, .ref r6, .int (nI sg), .ref r7, .int (nI sn), .ref r8, .ref r9]))] (q_Mo_join_no K m0 th T hd r1 r2 r3 r4 cm r5 r6 sg r7 sn r8 r9 x) := by
  refine CI_of (by decide) (Nat.le_of_ble_eq_true rfl) ?_
  intro p e s m below meth c A b0 ls hF hA hP hD hl
  have hF2 := hF
  obtain ⟨hx, hb, hr, hml, hown, htw, hK, hlocks, hname⟩ := hF
  have hS : va_S A s.heap s.heap [] := va_S.rf
  have hl : lv_has ls 7 [(0, .ref m0), (1, .int x)] := hl
  refine lv_aload_n hx hb d_Mo_join_0 rfl (lv_at hl 0 rfl) ?_
  refine lv_aload_n hx hb d_Mo_join_1 rfl (lv_at hl 0 rfl) ?_
  refine xg hx hb hown htw hK hP 0 12 rfl k_Mo (by decide) fl_Mo_73 rfl d_Mo_join_2 ?_
  refine lv_iconst (v := nI 2) hx hb d_Mo_join_5 (by decide) ?_
  refine xc_ge (tgt := 13) (a := sn) (b := 2) hx hb (by omega) (by omega) d_Mo_join_6 (by decide) (fun c_6 => ?_) (fun c_6 => ?_)
  · omega
  · refine lv_iconst (v := nI 2) hx hb d_Mo_join_9 (by decide) ?_
    refine lv_goto (tgt := 27) hx hb d_Mo_join_10 (by decide) ?_
    refine xpt hx hb hown htw hK hP hD hS 0 0 rfl k_Mo (by decide) fl_Mo_38 rfl rfl rfl (Nat.le_of_ble_eq_true rfl) d_Mo_join_27 (fun H locs hP hD hS => ?_)
    have hP : va_P D classes [(m0, .inr (8, [.int (nI 2), .int (nI T), .int (nI hd), .ref r1, .ref r2, .ref r3, .ref r4, .int (nI cm), .ref r5, .ref r6, .int (nI sg), .ref r7, .int (nI sn), .ref r8, .ref r9]))] H := hP
    have hD : va_D A [(m0, .inr (8, [.int (nI 2), .int (nI T), .int (nI hd), .ref r1, .ref r2, .ref r3, .ref r4, .int (nI cm), .ref r5, .ref r6, .int (nI sg), .ref r7, .int (nI sn), .ref r8, .ref r9]))] := hD
    refine lv_aload_n hx hb d_Mo_join_30 rfl (lv_at hl 0 rfl) ?_
    refine xg hx hb hown htw hK hP 0 0 rfl k_Mo (by decide) fl_Mo_38 rfl d_Mo_join_31 ?_
    refine xz_le (tgt := 39) (a := 2) hx hb (by omega) d_Mo_join_34 (by decide) (fun c_34 => ?_) (fun c_34 => ?_)
    · omega
    · refine lv_iconst (v := nI 0) hx hb d_Mo_join_37 (by decide) ?_
      exact xr_iret hx hb hr hlocks hP hD hS (Nat.le_of_ble_eq_true rfl) (Nat.le_of_ble_eq_true rfl) (⟨rfl, rfl⟩) d_Mo_join_38

abbrev q_Mo_join_bad (K : Nat → ClassId) (m0 : Nat) (th : Nat) (T : Nat) (hd : Nat) (r1 : Nat) (r2 : Nat) (r3 : Nat) (r4 : Nat) (cm : Nat) (r5 : Nat) (r6 : Nat) (sg : Nat) (r7 : Nat) (sn : Nat) (r8 : Nat) (r9 : Nat) (x : Int32) : Int32 → va_W → Prop := fun r u => u = [(m0, .inr (8, [.int (nI 1), .int (nI T), .int (nI hd), .ref r1, .ref r2, .ref r3, .ref r4, .int (nI cm), .ref r5, .ref r6, .int (nI sg), .ref r7, .int (nI sn), .ref r8, .ref r9]))] ∧ r = nI 0
set_option maxHeartbeats 4000000 in
set_option maxRecDepth 100000 in
theorem c_Mo_join_bad (l : Launch) (D : va_G) (K : Nat → ClassId) (m0 : Nat) (th : Nat) (T : Nat) (hd : Nat) (r1 : Nat) (r2 : Nat) (r3 : Nat) (r4 : Nat) (cm : Nat) (r5 : Nat) (r6 : Nat) (sg : Nat) (r7 : Nat) (sn : Nat) (r8 : Nat) (r9 : Nat) (x : Int32) (hsn : 2 ≤ sn) (hsn2 : sn ≤ 8) (hbad : x < 0 ∨ nI 3 < x) : CI l y_Mo_join b_Mo_join 7 .int ({ frames := 0, cells := 0, slots := 0, locals := 0 } : Room) D K [.ref m0, .int x] [(m0, .inr (8, [.int (nI th), .int (nI T), .int (nI hd), .ref r1, .ref r2, .ref r3, .ref r4, .int (nI cm), .ref r5, .ref r6, .int (nI sg), .ref r7, .int (nI sn), .ref r8, .ref r9]))] (q_Mo_join_bad K m0 th T hd r1 r2 r3 r4 cm r5 r6 sg r7 sn r8 r9 x) := by
  refine CI_of (by decide) (Nat.le_of_ble_eq_true rfl) ?_
  intro p e s m below meth c A b0 ls hF hA hP hD hl
  have hF2 := hF
  obtain ⟨hx, hb, hr, hml, hown, htw, hK, hlocks, hname⟩ := hF
  have hS : va_S A s.heap s.heap [] := va_S.rf
  have hl : lv_has ls 7 [(0, .ref m0), (1, .int x)] := hl
  refine lv_aload_n hx hb d_Mo_join_0 rfl (lv_at hl 0 rfl) ?_
  refine lv_aload_n hx hb d_Mo_join_1 rfl (lv_at hl 0 rfl) ?_
  refine xg hx hb hown htw hK hP 0 12 rfl k_Mo (by decide) fl_Mo_73 rfl d_Mo_join_2 ?_
  refine lv_iconst (v := nI 2) hx hb d_Mo_join_5 (by decide) ?_
  refine xc_ge (tgt := 13) (a := sn) (b := 2) hx hb (by omega) (by omega) d_Mo_join_6 (by decide) (fun c_6 => ?_) (fun c_6 => ?_)
  · refine lv_iload_n hx hb d_Mo_join_13 rfl (lv_at hl 1 rfl) ?_
    refine lv_if_lt (tgt := 22) hx hb d_Mo_join_14 (by decide) (fun c_14 => ?_) (fun c_14 => ?_)
    · refine lv_iconst (v := nI 1) hx hb d_Mo_join_22 (by decide) ?_
      refine lv_goto (tgt := 27) hx hb d_Mo_join_23 (by decide) ?_
      refine xpt hx hb hown htw hK hP hD hS 0 0 rfl k_Mo (by decide) fl_Mo_38 rfl rfl rfl (Nat.le_of_ble_eq_true rfl) d_Mo_join_27 (fun H locs hP hD hS => ?_)
      have hP : va_P D classes [(m0, .inr (8, [.int (nI 1), .int (nI T), .int (nI hd), .ref r1, .ref r2, .ref r3, .ref r4, .int (nI cm), .ref r5, .ref r6, .int (nI sg), .ref r7, .int (nI sn), .ref r8, .ref r9]))] H := hP
      have hD : va_D A [(m0, .inr (8, [.int (nI 1), .int (nI T), .int (nI hd), .ref r1, .ref r2, .ref r3, .ref r4, .int (nI cm), .ref r5, .ref r6, .int (nI sg), .ref r7, .int (nI sn), .ref r8, .ref r9]))] := hD
      refine lv_aload_n hx hb d_Mo_join_30 rfl (lv_at hl 0 rfl) ?_
      refine xg hx hb hown htw hK hP 0 0 rfl k_Mo (by decide) fl_Mo_38 rfl d_Mo_join_31 ?_
      refine xz_le (tgt := 39) (a := 1) hx hb (by omega) d_Mo_join_34 (by decide) (fun c_34 => ?_) (fun c_34 => ?_)
      · omega
      · refine lv_iconst (v := nI 0) hx hb d_Mo_join_37 (by decide) ?_
        exact xr_iret hx hb hr hlocks hP hD hS (Nat.le_of_ble_eq_true rfl) (Nat.le_of_ble_eq_true rfl) (⟨rfl, rfl⟩) d_Mo_join_38
    · refine lv_iload_n hx hb d_Mo_join_17 rfl (lv_at hl 1 rfl) ?_
      refine lv_iconst (v := nI 3) hx hb d_Mo_join_18 (by decide) ?_
      refine lv_icmp_le (tgt := 26) hx hb d_Mo_join_19 (by decide) (fun c_19 => ?_) (fun c_19 => ?_)
      · exact absurd hbad (fun q => q.elim c_14 (fun q => absurd c_19 (Int32.not_le.mpr q)))
      · refine lv_iconst (v := nI 1) hx hb d_Mo_join_22 (by decide) ?_
        refine lv_goto (tgt := 27) hx hb d_Mo_join_23 (by decide) ?_
        refine xpt hx hb hown htw hK hP hD hS 0 0 rfl k_Mo (by decide) fl_Mo_38 rfl rfl rfl (Nat.le_of_ble_eq_true rfl) d_Mo_join_27 (fun H locs hP hD hS => ?_)
        have hP : va_P D classes [(m0, .inr (8, [.int (nI 1), .int (nI T), .int (nI hd), .ref r1, .ref r2, .ref r3, .ref r4, .int (nI cm), .ref r5, .ref r6, .int (nI sg), .ref r7, .int (nI sn), .ref r8, .ref r9]))] H := hP
        have hD : va_D A [(m0, .inr (8, [.int (nI 1), .int (nI T), .int (nI hd), .ref r1, .ref r2, .ref r3, .ref r4, .int (nI cm), .ref r5, .ref r6, .int (nI sg), .ref r7, .int (nI sn), .ref r8, .ref r9]))] := hD
        refine lv_aload_n hx hb d_Mo_join_30 rfl (lv_at hl 0 rfl) ?_
        refine xg hx hb hown htw hK hP 0 0 rfl k_Mo (by decide) fl_Mo_38 rfl d_Mo_join_31 ?_
        refine xz_le (tgt := 39) (a := 1) hx hb (by omega) d_Mo_join_34 (by decide) (fun c_34 => ?_) (fun c_34 => ?_)
        · omega
        · refine lv_iconst (v := nI 0) hx hb d_Mo_join_37 (by decide) ?_
          exact xr_iret hx hb hr hlocks hP hD hS (Nat.le_of_ble_eq_true rfl) (Nat.le_of_ble_eq_true rfl) (⟨rfl, rfl⟩) d_Mo_join_38
  · omega

abbrev q_Mo_join_ok (K : Nat → ClassId) (m0 : Nat) (th : Nat) (T : Nat) (hd : Nat) (r1 : Nat) (r2 : Nat) (r3 : Nat) (r4 : Nat) (cm : Nat) (r5 : Nat) (r6 : Nat) (sg : Nat) (r7 : Nat) (sn : Nat) (r8 : Nat) (r9 : Nat) (rh : Nat → Nat) (sz : Nat → Nat) (hw : Nat) (t : Nat) (T2 : Nat → Nat) : Int32 → va_W → Prop := fun r u => ∃ rh' : Nat → Nat, ∃ z' : Nat, u = [(m0, .inr (8, [.int (nI 0), .int (nI T), .int (nI hd), .ref r1, .ref r2, .ref r3, .ref r4, .int (nI cm), .ref r5, .ref r6, .int (nI sg), .ref r7, .int (nI (sn - 1)), .ref r8, .ref r9])), (r8, .inl (K 0, 4680, .inl (nA rh'))), (r9, .inl (K 0, 9, .inl (nA (va_up (va_up sz 8 z') (sn - 2) z'))))] ∧ r = nI z' ∧ (st_inc z' (rw_ rh' (sn - 2))) ∧ (∀ v, st_mem z' (rw_ rh' (sn - 2)) v ↔ jnM2 rh sz sn hw (sz (sn - 1)) v) ∧ (∀ j, j < 4160 → (j < 520 * (sn - 2) ∨ 520 * (sn - 2) + 520 ≤ j) → rh' j = rh j) ∧ (z' ≤ t)
set_option maxHeartbeats 4000000 in
set_option maxRecDepth 100000 in
theorem lp_Mo_join_ok_143 {p : Program} {l : Launch} {e : Env} {s : State} {m : MethodId} {below : List Frame} {meth : Method} {c : Code} {A : Nat → Prop} {D : va_G} {K : Nat → ClassId} (m0 : Nat) (th : Nat) (T : Nat) (hd : Nat) (r1 : Nat) (r2 : Nat) (r3 : Nat) (r4 : Nat) (cm : Nat) (r5 : Nat) (r6 : Nat) (sg : Nat) (r7 : Nat) (sn : Nat) (r8 : Nat) (r9 : Nat) (rh : Nat → Nat) (sz : Nat → Nat) (hw : Nat) (t : Nat) (T2 : Nat → Nat) (hsn : 2 ≤ sn) (hsn2 : sn ≤ 8) (hhw : hw ≤ 3) (hsz : ∀ q, q < sn → sz q ≤ 520) (hbd : ∀ q k, q < sn → k < sz q → rh (520 * q + k) < 2 ^ 24) (ht : t < 520) (hT : ∀ v, (st_mem (sz (sn - 2)) (rw_ rh (sn - 2)) v ∨ st_mem (sz (sn - 1)) (rw_ rh (sn - 1)) v) → st_mem t T2 v) (hF : Fx p s m meth c y_Mo_join b_Mo_join 7 (some .int) D K) {b0 : Nat} (hA : AS K s A b0) : ∀ fuel : Nat, ∀ k : Nat, ∀ gg : Nat → Nat, ∀ zz : Nat, (k ≤ sz (sn - 1)) → (rf_fill rh gg 8 zz (jnM2 rh sz sn hw k)) → sz (sn - 1) - k < fuel → ∀ (H : Heap) (locs : List Loc), va_P D classes [(m0, .inr (8, [.int (nI 0), .int (nI T), .int (nI hd), .ref r1, .ref r2, .ref r3, .ref r4, .int (nI cm), .ref r5, .ref r6, .int (nI sg), .ref r7, .int (nI sn), .ref r8, .ref r9])), (r8, .inl (K 0, 4680, .inl (nA gg))), (r9, .inl (K 0, 9, .inl (nA (va_up sz 8 zz))))] H → va_D A [(m0, .inr (8, [.int (nI 0), .int (nI T), .int (nI hd), .ref r1, .ref r2, .ref r3, .ref r4, .int (nI cm), .ref r5, .ref r6, .int (nI sg), .ref r7, .int (nI sn), .ref r8, .ref r9])), (r8, .inl (K 0, 4680, .inl (nA gg))), (r9, .inl (K 0, 9, .inl (nA (va_up sz 8 zz))))] → va_S A s.heap H locs → ∀ ls : Array Slot, lv_has ls 7 [(0, .ref m0), (1, .int (nI hw)), (2, .int (nI (sn - 2))), (3, .int (nI (sn - 1))), (4, .int (nI k))] → W p l e ({ frames := 2, cells := 0, slots := 0, locals := 47 } : Room) s m ([.ref m0, .int (nI hw)] : List Value).toArray below meth c H locs 0 0 (MQ below (va_Qi (q_Mo_join_ok K m0 th T hd r1 r2 r3 r4 cm r5 r6 sg r7 sn r8 r9 rh sz hw t T2) (fun u t => va_P D classes u t.heap ∧ va_D A u) A) ([.ref m0, .int (nI hw)] : List Value).toArray s 0 0 A) (F0 m 143 ls []) := by
  have hF2 := hF
  obtain ⟨hx, hb, hr, hml, hown, htw, hK, hlocks, hname⟩ := hF
  intro fuel
  induction fuel with
  | zero => intros; omega
  | succ fuel ih =>
    have jn_214 : ∀ k : Nat, ∀ gg : Nat → Nat, ∀ zz : Nat, (k < sz (sn - 1)) → (rf_fill rh gg 8 zz (jnM2 rh sz sn hw (k + 1))) → (sz (sn - 1) - k < fuel + 1) → ∀ (H : Heap) (locs : List Loc), va_P D classes [(m0, .inr (8, [.int (nI 0), .int (nI T), .int (nI hd), .ref r1, .ref r2, .ref r3, .ref r4, .int (nI cm), .ref r5, .ref r6, .int (nI sg), .ref r7, .int (nI sn), .ref r8, .ref r9])), (r8, .inl (K 0, 4680, .inl (nA gg))), (r9, .inl (K 0, 9, .inl (nA (va_up sz 8 zz))))] H → va_D A [(m0, .inr (8, [.int (nI 0), .int (nI T), .int (nI hd), .ref r1, .ref r2, .ref r3, .ref r4, .int (nI cm), .ref r5, .ref r6, .int (nI sg), .ref r7, .int (nI sn), .ref r8, .ref r9])), (r8, .inl (K 0, 4680, .inl (nA gg))), (r9, .inl (K 0, 9, .inl (nA (va_up sz 8 zz))))] → va_S A s.heap H locs → ∀ ls : Array Slot, lv_has ls 7 [(0, .ref m0), (1, .int (nI hw)), (2, .int (nI (sn - 2))), (3, .int (nI (sn - 1))), (4, .int (nI k))] → W p l e ({ frames := 2, cells := 0, slots := 0, locals := 47 } : Room) s m ([.ref m0, .int (nI hw)] : List Value).toArray below meth c H locs 0 0 (MQ below (va_Qi (q_Mo_join_ok K m0 th T hd r1 r2 r3 r4 cm r5 r6 sg r7 sn r8 r9 rh sz hw t T2) (fun u t => va_P D classes u t.heap ∧ va_D A u) A) ([.ref m0, .int (nI hw)] : List Value).toArray s 0 0 A) (F0 m 214 ls []) := by
      intro k gg zz hk1 hfl hfu H locs hP hD hS ls hl
      refine lv_iinc (v := nI (k + 1)) (lv' := [(4, .int (nI (k + 1))), (0, .ref m0), (1, .int (nI hw)), (2, .int (nI (sn - 2))), (3, .int (nI (sn - 1)))]) hx hb d_Mo_join_214 hl (k := 4) rfl (inc_nI _ _) (by decide) rfl (fun ls hl => ?_)
      refine lv_goto (tgt := 143) hx hb d_Mo_join_217 (by decide) ?_
      exact ih (k + 1) gg zz (by first | assumption | omega) (by first | assumption | omega) (by omega) _ _ hP hD hS _ (lv_sub hl [1, 2, 3, 4, 0] rfl)
    have jn_206 : ∀ k : Nat, ∀ gg : Nat → Nat, ∀ zz : Nat, (k < sz (sn - 1)) → (rf_fill rh gg 8 zz (jnM2 rh sz sn hw k)) → (sz (sn - 1) - k < fuel + 1) → (jnP2 hw (rcnt rh sz (sn - 2) (rh ((520 * (sn - 1)) + k) / 2 ^ 14)) (rnear rh sz (sn - 2) (rh ((520 * (sn - 1)) + k)))) → ∀ (H : Heap) (locs : List Loc), va_P D classes [(m0, .inr (8, [.int (nI 0), .int (nI T), .int (nI hd), .ref r1, .ref r2, .ref r3, .ref r4, .int (nI cm), .ref r5, .ref r6, .int (nI sg), .ref r7, .int (nI sn), .ref r8, .ref r9])), (r8, .inl (K 0, 4680, .inl (nA gg))), (r9, .inl (K 0, 9, .inl (nA (va_up sz 8 zz))))] H → va_D A [(m0, .inr (8, [.int (nI 0), .int (nI T), .int (nI hd), .ref r1, .ref r2, .ref r3, .ref r4, .int (nI cm), .ref r5, .ref r6, .int (nI sg), .ref r7, .int (nI sn), .ref r8, .ref r9])), (r8, .inl (K 0, 4680, .inl (nA gg))), (r9, .inl (K 0, 9, .inl (nA (va_up sz 8 zz))))] → va_S A s.heap H locs → ∀ ls : Array Slot, lv_has ls 7 [(0, .ref m0), (1, .int (nI hw)), (2, .int (nI (sn - 2))), (3, .int (nI (sn - 1))), (4, .int (nI k)), (5, .int (nI (rh ((520 * (sn - 1)) + k))))] → W p l e ({ frames := 2, cells := 0, slots := 0, locals := 47 } : Room) s m ([.ref m0, .int (nI hw)] : List Value).toArray below meth c H locs 0 0 (MQ below (va_Qi (q_Mo_join_ok K m0 th T hd r1 r2 r3 r4 cm r5 r6 sg r7 sn r8 r9 rh sz hw t T2) (fun u t => va_P D classes u t.heap ∧ va_D A u) A) ([.ref m0, .int (nI hw)] : List Value).toArray s 0 0 A) (F0 m 206 ls []) := by
      intro k gg zz hk1 hfl hfu hp2 H locs hP hD hS ls hl
      refine lv_aload_n hx hb d_Mo_join_206 rfl (lv_at hl 0 rfl) ?_
      refine lv_bipush (v := nI 8) hx hb d_Mo_join_207 (by decide) ?_
      refine lv_iload hx hb d_Mo_join_209 (lv_at hl 5 rfl) ?_
      refine xcV_v (As := [.int (nI 8), .int (nI (rh ((520 * (sn - 1)) + k)))]) (rest := []) (wr := []) hx hb hml hown htw hK hA hl.1 hP hD hS (c_Mo_insert l D K m0 0 T hd r1 r2 r3 r4 cm r5 r6 sg r7 sn r8 r9 gg (va_up sz 8 zz) 8 (rh ((520 * (sn - 1)) + k)) (by omega) (by rw [va_up_self]; have := jn_card hfl (fun v w => hT v (jnM2_mem (by omega) w)); omega) (by rw [va_up_self]; exact hfl.1) (by exact fun i hi => by rw [va_up_self] at hi; exact jn_bd hfl (fun v w => by rcases jnM2_mem (show k ≤ sz (sn - 1) by omega) w with ⟨i, a1, a2⟩ | ⟨i, a1, a2⟩; (have := hbd (sn - 2) i (by omega) a1; rw [← a2]; exact this); (have := hbd (sn - 1) i (by omega) a1; rw [← a2]; exact this)) i hi) (by have := hbd (sn - 1) k (by omega) (by omega); omega)) [0, 1, 2] [] rfl rfl (by decide) (by decide) (by decide) 0 rfl k_Mo ml_Mo_87 w_Mo_insert rfl ⟨by decide, by decide⟩ rfl (Nat.le_of_ble_eq_true rfl) ⟨by decide, by decide⟩ d_Mo_join_211 (fun u H locs hpost hP hD hS => ?_)
      obtain ⟨rh'_211, z'_211, rfl, hin2_211, hm2_211, ho2_211, hz2_211⟩ := hpost
      have hP : va_P D classes [(m0, .inr (8, [.int (nI 0), .int (nI T), .int (nI hd), .ref r1, .ref r2, .ref r3, .ref r4, .int (nI cm), .ref r5, .ref r6, .int (nI sg), .ref r7, .int (nI sn), .ref r8, .ref r9])), (r8, .inl (K 0, 4680, .inl (nA rh'_211))), (r9, .inl (K 0, 9, .inl (nA (va_up (va_up sz 8 zz) 8 z'_211))))] H := hP
      have hD : va_D A [(m0, .inr (8, [.int (nI 0), .int (nI T), .int (nI hd), .ref r1, .ref r2, .ref r3, .ref r4, .int (nI cm), .ref r5, .ref r6, .int (nI sg), .ref r7, .int (nI sn), .ref r8, .ref r9])), (r8, .inl (K 0, 4680, .inl (nA rh'_211))), (r9, .inl (K 0, 9, .inl (nA (va_up (va_up sz 8 zz) 8 z'_211))))] := hD
      have hP : va_P D classes [(m0, .inr (8, [.int (nI 0), .int (nI T), .int (nI hd), .ref r1, .ref r2, .ref r3, .ref r4, .int (nI cm), .ref r5, .ref r6, .int (nI sg), .ref r7, .int (nI sn), .ref r8, .ref r9])), (r8, .inl (K 0, 4680, .inl (nA rh'_211))), (r9, .inl (K 0, 9, .inl (nA (va_up sz 8 z'_211))))] H := by rw [← up_up sz 8 zz]; exact hP
      have hD : va_D A [(m0, .inr (8, [.int (nI 0), .int (nI T), .int (nI hd), .ref r1, .ref r2, .ref r3, .ref r4, .int (nI cm), .ref r5, .ref r6, .int (nI sg), .ref r7, .int (nI sn), .ref r8, .ref r9])), (r8, .inl (K 0, 4680, .inl (nA rh'_211))), (r9, .inl (K 0, 9, .inl (nA (va_up sz 8 z'_211))))] := by rw [← up_up sz 8 zz]; exact hD
      exact jn_214 k rh'_211 z'_211 (by first | assumption | omega) (by exact rf_fill_put hfl hin2_211 (fun v => by rw [hm2_211, va_up_self]) ho2_211 (jnM2_y hp2)) (by first | assumption | omega) _ _ hP hD hS _ (lv_sub hl [0, 1, 2, 3, 4] rfl)
    have jn_191 : ∀ k : Nat, ∀ gg : Nat → Nat, ∀ zz : Nat, (k < sz (sn - 1)) → (rf_fill rh gg 8 zz (jnM2 rh sz sn hw k)) → (sz (sn - 1) - k < fuel + 1) → (¬ hw = 1) → (hw = 0 → rcnt rh sz (sn - 2) (rh ((520 * (sn - 1)) + k) / 2 ^ 14) = 0) → ∀ (H : Heap) (locs : List Loc), va_P D classes [(m0, .inr (8, [.int (nI 0), .int (nI T), .int (nI hd), .ref r1, .ref r2, .ref r3, .ref r4, .int (nI cm), .ref r5, .ref r6, .int (nI sg), .ref r7, .int (nI sn), .ref r8, .ref r9])), (r8, .inl (K 0, 4680, .inl (nA gg))), (r9, .inl (K 0, 9, .inl (nA (va_up sz 8 zz))))] H → va_D A [(m0, .inr (8, [.int (nI 0), .int (nI T), .int (nI hd), .ref r1, .ref r2, .ref r3, .ref r4, .int (nI cm), .ref r5, .ref r6, .int (nI sg), .ref r7, .int (nI sn), .ref r8, .ref r9])), (r8, .inl (K 0, 4680, .inl (nA gg))), (r9, .inl (K 0, 9, .inl (nA (va_up sz 8 zz))))] → va_S A s.heap H locs → ∀ ls : Array Slot, lv_has ls 7 [(0, .ref m0), (1, .int (nI hw)), (2, .int (nI (sn - 2))), (3, .int (nI (sn - 1))), (4, .int (nI k)), (5, .int (nI (rh ((520 * (sn - 1)) + k))))] → W p l e ({ frames := 2, cells := 0, slots := 0, locals := 47 } : Room) s m ([.ref m0, .int (nI hw)] : List Value).toArray below meth c H locs 0 0 (MQ below (va_Qi (q_Mo_join_ok K m0 th T hd r1 r2 r3 r4 cm r5 r6 sg r7 sn r8 r9 rh sz hw t T2) (fun u t => va_P D classes u t.heap ∧ va_D A u) A) ([.ref m0, .int (nI hw)] : List Value).toArray s 0 0 A) (F0 m 191 ls []) := by
      intro k gg zz hk1 hfl hfu hn1 hn0 H locs hP hD hS ls hl
      refine lv_iload_n hx hb d_Mo_join_191 rfl (lv_at hl 1 rfl) ?_
      refine lv_iconst (v := nI 3) hx hb d_Mo_join_192 (by decide) ?_
      refine xc_ne (tgt := 214) (a := hw) (b := 3) hx hb (by omega) (by omega) d_Mo_join_193 (by decide) (fun c_193 => ?_) (fun c_193 => ?_)
      · exact jn_214 k gg zz (by first | assumption | omega) (by exact rf_fill_congr hfl (jnM2_n (fun w => w.elim hn1 (fun w => w.elim (fun w => by have := hn0 w.1; omega) (fun w => c_193 w.1))))) (by first | assumption | omega) _ _ hP hD hS _ (lv_sub hl [0, 1, 2, 3, 4] rfl)
      · refine lv_aload_n hx hb d_Mo_join_196 rfl (lv_at hl 0 rfl) ?_
        refine lv_iload_n hx hb d_Mo_join_197 rfl (lv_at hl 2 rfl) ?_
        refine lv_iload hx hb d_Mo_join_198 (lv_at hl 5 rfl) ?_
        refine xcV_i (As := [.int (nI (sn - 2)), .int (nI (rh ((520 * (sn - 1)) + k)))]) (rest := []) (wr := []) hx hb hml hown htw hK hA hl.1 hP hD hS (c_Mo_near l D K m0 0 T hd r1 r2 r3 r4 cm r5 r6 sg r7 sn r8 r9 gg (va_up sz 8 zz) (sn - 2) (rh ((520 * (sn - 1)) + k)) (by omega) (by rw [va_up_ne sz _ (show sn - 2 ≠ 8 by omega)]; exact hsz _ (by omega)) (by exact fun i hi => by rw [va_up_ne sz _ (show sn - 2 ≠ 8 by omega)] at hi; have := hsz (sn - 2) (by omega); rw [hfl.2.2 _ (by omega)]; exact hbd _ i (by omega) hi) (by have := hbd (sn - 1) k (by omega) (by omega); omega)) [0, 1, 2] [] rfl rfl (by decide) (by decide) (by decide) 0 rfl k_Mo ml_Mo_106 w_Mo_near rfl ⟨by decide, by decide⟩ rfl (Nat.le_of_ble_eq_true rfl) ⟨by decide, by decide⟩ d_Mo_join_200 (fun r u H locs hpost hP hD hS => ?_)
        obtain ⟨rfl, rfl⟩ := hpost
        have hP : va_P D classes [(m0, .inr (8, [.int (nI 0), .int (nI T), .int (nI hd), .ref r1, .ref r2, .ref r3, .ref r4, .int (nI cm), .ref r5, .ref r6, .int (nI sg), .ref r7, .int (nI sn), .ref r8, .ref r9])), (r8, .inl (K 0, 4680, .inl (nA gg))), (r9, .inl (K 0, 9, .inl (nA (va_up sz 8 zz))))] H := hP
        have hD : va_D A [(m0, .inr (8, [.int (nI 0), .int (nI T), .int (nI hd), .ref r1, .ref r2, .ref r3, .ref r4, .int (nI cm), .ref r5, .ref r6, .int (nI sg), .ref r7, .int (nI sn), .ref r8, .ref r9])), (r8, .inl (K 0, 4680, .inl (nA gg))), (r9, .inl (K 0, 9, .inl (nA (va_up sz 8 zz))))] := hD
        refine xi (y := nI (bN (rnear rh sz (sn - 2) (rh ((520 * (sn - 1)) + k))))) (congrArg nI (bN_congr (near_same hfl.2.2 (show sn - 2 < 8 by omega) (hsz (sn - 2) (by omega))))) ?_
        refine xz_eq (tgt := 214) (a := bN (rnear rh sz (sn - 2) (rh ((520 * (sn - 1)) + k)))) hx hb (by exact bN_31 _) d_Mo_join_203 (by decide) (fun c_203 => ?_) (fun c_203 => ?_)
        · exact jn_214 k gg zz (by first | assumption | omega) (by exact rf_fill_congr hfl (jnM2_n (fun w => w.elim hn1 (fun w => w.elim (fun w => by omega) (fun w => (bN_0.mp c_203) w.2))))) (by first | assumption | omega) _ _ hP hD hS _ (lv_sub hl [0, 1, 2, 3, 4] rfl)
        · exact jn_206 k gg zz (by first | assumption | omega) (by first | assumption | omega) (by first | assumption | omega) (by exact Or.inr (Or.inr ⟨c_193, bN_pos.mp c_203⟩)) _ _ hP hD hS _ (lv_sub hl [0, 1, 2, 3, 4, 5] rfl)
    intro k gg zz hk1 hfl hfu H locs hP hD hS ls hl
    refine lv_iload hx hb d_Mo_join_143 (lv_at hl 4 rfl) ?_
    refine lv_aload_n hx hb d_Mo_join_145 rfl (lv_at hl 0 rfl) ?_
    refine xg hx hb hown htw hK hP 0 14 rfl k_Mo (by decide) fl_Mo_35 rfl d_Mo_join_146 ?_
    refine lv_iload_n hx hb d_Mo_join_149 rfl (lv_at hl 3 rfl) ?_
    refine xald_i hx hb hK hP 2 rfl (by omega) (by omega) d_Mo_join_150 ?_
    refine xi (y := nI ((va_up sz 8 zz) (sn - 1))) rfl ?_
    refine xi (y := nI (sz (sn - 1))) (congrArg nI (va_up_ne sz _ (show sn - 1 ≠ 8 by omega))) ?_
    refine xc_ge (tgt := 220) (a := k) (b := sz (sn - 1)) hx hb (by have := hsz (sn - 1) (by omega); omega) (by have := hsz (sn - 1) (by omega); omega) d_Mo_join_151 (by decide) (fun c_151 => ?_) (fun c_151 => ?_)
    · have hk2 : sz (sn - 1) = k := by omega
      subst hk2
      refine lv_aload_n hx hb d_Mo_join_220 rfl (lv_at hl 0 rfl) ?_
      refine lv_dup hx hb d_Mo_join_221 rfl ?_
      refine xg hx hb hown htw hK hP 0 12 rfl k_Mo (by decide) fl_Mo_73 rfl d_Mo_join_222 ?_
      refine lv_iconst (v := nI 1) hx hb d_Mo_join_225 (by decide) ?_
      refine lv_isub hx hb d_Mo_join_226 ?_
      refine xi (nI_sub (a := sn) (b := 1) (by omega)) ?_
      refine xpt hx hb hown htw hK hP hD hS 0 12 rfl k_Mo (by decide) fl_Mo_73 rfl rfl rfl (Nat.le_of_ble_eq_true rfl) d_Mo_join_227 (fun H locs hP hD hS => ?_)
      have hP : va_P D classes [(m0, .inr (8, [.int (nI 0), .int (nI T), .int (nI hd), .ref r1, .ref r2, .ref r3, .ref r4, .int (nI cm), .ref r5, .ref r6, .int (nI sg), .ref r7, .int (nI (sn - 1)), .ref r8, .ref r9])), (r8, .inl (K 0, 4680, .inl (nA gg))), (r9, .inl (K 0, 9, .inl (nA (va_up sz 8 zz))))] H := hP
      have hD : va_D A [(m0, .inr (8, [.int (nI 0), .int (nI T), .int (nI hd), .ref r1, .ref r2, .ref r3, .ref r4, .int (nI cm), .ref r5, .ref r6, .int (nI sg), .ref r7, .int (nI (sn - 1)), .ref r8, .ref r9])), (r8, .inl (K 0, 4680, .inl (nA gg))), (r9, .inl (K 0, 9, .inl (nA (va_up sz 8 zz))))] := hD
      refine lv_aload_n hx hb d_Mo_join_230 rfl (lv_at hl 0 rfl) ?_
      refine lv_iload_n hx hb d_Mo_join_231 rfl (lv_at hl 2 rfl) ?_
      refine xcV_i (As := [.int (nI (sn - 2))]) (rest := []) (wr := []) hx hb hml hown htw hK hA hl.1 hP hD hS (c_Mo_place l D K m0 0 T hd r1 r2 r3 r4 cm r5 r6 sg r7 (sn - 1) r8 r9 gg (va_up sz 8 zz) (sn - 2) (by omega) (by rw [va_up_self]; have := jn_card hfl (fun v w => hT v (jnM2_mem (Nat.le_refl _) w)); omega)) [0, 1, 2] [] rfl rfl (by decide) (by decide) (by decide) 0 rfl k_Mo ml_Mo_99 w_Mo_place rfl ⟨by decide, by decide⟩ rfl (Nat.le_of_ble_eq_true rfl) ⟨by decide, by decide⟩ d_Mo_join_232 (fun r u H locs hpost hP hD hS => ?_)
      obtain ⟨rh'_232, rfl, rfl, hcp_232, hot_232⟩ := hpost
      have hP : va_P D classes [(m0, .inr (8, [.int (nI 0), .int (nI T), .int (nI hd), .ref r1, .ref r2, .ref r3, .ref r4, .int (nI cm), .ref r5, .ref r6, .int (nI sg), .ref r7, .int (nI (sn - 1)), .ref r8, .ref r9])), (r8, .inl (K 0, 4680, .inl (nA rh'_232))), (r9, .inl (K 0, 9, .inl (nA (va_up (va_up sz 8 zz) (sn - 2) ((va_up sz 8 zz) 8)))))] H := hP
      have hD : va_D A [(m0, .inr (8, [.int (nI 0), .int (nI T), .int (nI hd), .ref r1, .ref r2, .ref r3, .ref r4, .int (nI cm), .ref r5, .ref r6, .int (nI sg), .ref r7, .int (nI (sn - 1)), .ref r8, .ref r9])), (r8, .inl (K 0, 4680, .inl (nA rh'_232))), (r9, .inl (K 0, 9, .inl (nA (va_up (va_up sz 8 zz) (sn - 2) ((va_up sz 8 zz) 8)))))] := hD
      refine xi (y := nI zz) (congrArg nI (va_up_self _ _ _)) ?_
      have hP : va_P D classes [(m0, .inr (8, [.int (nI 0), .int (nI T), .int (nI hd), .ref r1, .ref r2, .ref r3, .ref r4, .int (nI cm), .ref r5, .ref r6, .int (nI sg), .ref r7, .int (nI (sn - 1)), .ref r8, .ref r9])), (r8, .inl (K 0, 4680, .inl (nA rh'_232))), (r9, .inl (K 0, 9, .inl (nA (va_up (va_up sz 8 zz) (sn - 2) zz))))] H := by rw [show va_up (va_up sz 8 zz) (sn - 2) zz = va_up (va_up sz 8 zz) (sn - 2) ((va_up sz 8 zz) 8) by rw [va_up_self]]; exact hP
      have hD : va_D A [(m0, .inr (8, [.int (nI 0), .int (nI T), .int (nI hd), .ref r1, .ref r2, .ref r3, .ref r4, .int (nI cm), .ref r5, .ref r6, .int (nI sg), .ref r7, .int (nI (sn - 1)), .ref r8, .ref r9])), (r8, .inl (K 0, 4680, .inl (nA rh'_232))), (r9, .inl (K 0, 9, .inl (nA (va_up (va_up sz 8 zz) (sn - 2) zz))))] := by rw [show va_up (va_up sz 8 zz) (sn - 2) zz = va_up (va_up sz 8 zz) (sn - 2) ((va_up sz 8 zz) 8) by rw [va_up_self]]; exact hD
      exact xr_iret hx hb hr hlocks hP hD hS (Nat.le_of_ble_eq_true rfl) (Nat.le_of_ble_eq_true rfl) (⟨_, _, rfl, rfl, (placed hfl (show sn - 2 < 8 by omega) (fun i hi => hcp_232 i (by rw [va_up_self]; exact hi)) hot_232).1, (placed hfl (show sn - 2 < 8 by omega) (fun i hi => hcp_232 i (by rw [va_up_self]; exact hi)) hot_232).2.1, (placed hfl (show sn - 2 < 8 by omega) (fun i hi => hcp_232 i (by rw [va_up_self]; exact hi)) hot_232).2.2, by exact jn_card hfl (fun v w => hT v (jnM2_mem (Nat.le_refl _) w))⟩) d_Mo_join_235
    · refine lv_aload_n hx hb d_Mo_join_154 rfl (lv_at hl 0 rfl) ?_
      refine xg hx hb hown htw hK hP 0 13 rfl k_Mo (by decide) fl_Mo_32 rfl d_Mo_join_155 ?_
      refine lv_sipush (v := nI 520) hx hb d_Mo_join_158 (by decide) ?_
      refine lv_iload_n hx hb d_Mo_join_161 rfl (lv_at hl 3 rfl) ?_
      refine lv_imul hx hb d_Mo_join_162 ?_
      refine xi (nI_mul 520 (sn - 1)) ?_
      refine lv_iload hx hb d_Mo_join_163 (lv_at hl 4 rfl) ?_
      refine lv_iadd hx hb d_Mo_join_165 ?_
      refine xi (nI_add (520 * (sn - 1)) k) ?_
      refine xald_i hx hb hK hP 1 rfl (by have := hsz (sn - 1) (by omega); omega) (by omega) d_Mo_join_166 ?_
      refine xi (y := nI (gg ((520 * (sn - 1)) + k))) rfl ?_
      refine xi (y := nI (rh ((520 * (sn - 1)) + k))) (congrArg nI (hfl.2.2 _ (by have := hsz (sn - 1) (by omega); omega))) ?_
      refine lv_istore (lv' := [(5, .int (nI (rh ((520 * (sn - 1)) + k)))), (0, .ref m0), (1, .int (nI hw)), (2, .int (nI (sn - 2))), (3, .int (nI (sn - 1))), (4, .int (nI k))]) hx hb d_Mo_join_167 hl (by decide) rfl (fun ls hl => ?_)
      refine lv_iload_n hx hb d_Mo_join_169 rfl (lv_at hl 2 rfl) ?_
      refine lv_iconst (v := nI 1) hx hb d_Mo_join_170 (by decide) ?_
      refine xc_eq (tgt := 206) (a := hw) (b := 1) hx hb (by omega) (by omega) d_Mo_join_171 (by decide) (fun c_171 => ?_) (fun c_171 => ?_)
      · exact jn_206 k gg zz (by first | assumption | omega) (by first | assumption | omega) (by first | assumption | omega) (by exact Or.inl c_171) _ _ hP hD hS _ (lv_sub hl [1, 2, 3, 4, 5, 0] rfl)
      · refine lv_iload_n hx hb d_Mo_join_174 rfl (lv_at hl 2 rfl) ?_
        refine xz_ne (tgt := 191) (a := hw) hx hb (by omega) d_Mo_join_175 (by decide) (fun c_175 => ?_) (fun c_175 => ?_)
        · exact jn_191 k gg zz (by first | assumption | omega) (by first | assumption | omega) (by first | assumption | omega) (by first | assumption | omega) (by exact fun w => by omega) _ _ hP hD hS _ (lv_sub hl [1, 2, 3, 4, 5, 0] rfl)
        · refine lv_aload_n hx hb d_Mo_join_178 rfl (lv_at hl 1 rfl) ?_
          refine lv_iload_n hx hb d_Mo_join_179 rfl (lv_at hl 3 rfl) ?_
          refine lv_iload hx hb d_Mo_join_180 (lv_at hl 0 rfl) ?_
          refine lv_bipush (v := nI 14) hx hb d_Mo_join_182 (by decide) ?_
          refine lv_ishr hx hb d_Mo_join_184 ?_
          refine xi (y := nI (rh ((520 * (sn - 1)) + k) / 2 ^ 14)) (pk_shrN (by have := hbd (sn - 1) k (by omega) (by omega); omega) _ 14 (by decide)) ?_
          refine xcV_i (As := [.int (nI (sn - 2)), .int (nI (rh ((520 * (sn - 1)) + k) / 2 ^ 14))]) (rest := []) (wr := []) hx hb hml hown htw hK hA hl.1 hP hD hS (c_Mo_many l D K m0 0 T hd r1 r2 r3 r4 cm r5 r6 sg r7 sn r8 r9 gg (va_up sz 8 zz) (sn - 2) (rh ((520 * (sn - 1)) + k) / 2 ^ 14) (by omega) (by rw [va_up_ne sz _ (show sn - 2 ≠ 8 by omega)]; exact hsz _ (by omega)) (by exact fun i hi => by rw [va_up_ne sz _ (show sn - 2 ≠ 8 by omega)] at hi; have := hsz (sn - 2) (by omega); rw [hfl.2.2 _ (by omega)]; exact hbd _ i (by omega) hi) (by have := hbd (sn - 1) k (by omega) (by omega); omega)) [0, 1, 2] [] rfl rfl (by decide) (by decide) (by decide) 0 rfl k_Mo ml_Mo_102 w_Mo_many rfl ⟨by decide, by decide⟩ rfl (Nat.le_of_ble_eq_true rfl) ⟨by decide, by decide⟩ d_Mo_join_185 (fun r u H locs hpost hP hD hS => ?_)
          obtain ⟨rfl, rfl⟩ := hpost
          have hP : va_P D classes [(m0, .inr (8, [.int (nI 0), .int (nI T), .int (nI hd), .ref r1, .ref r2, .ref r3, .ref r4, .int (nI cm), .ref r5, .ref r6, .int (nI sg), .ref r7, .int (nI sn), .ref r8, .ref r9])), (r8, .inl (K 0, 4680, .inl (nA gg))), (r9, .inl (K 0, 9, .inl (nA (va_up sz 8 zz))))] H := hP
          have hD : va_D A [(m0, .inr (8, [.int (nI 0), .int (nI T), .int (nI hd), .ref r1, .ref r2, .ref r3, .ref r4, .int (nI cm), .ref r5, .ref r6, .int (nI sg), .ref r7, .int (nI sn), .ref r8, .ref r9])), (r8, .inl (K 0, 4680, .inl (nA gg))), (r9, .inl (K 0, 9, .inl (nA (va_up sz 8 zz))))] := hD
          refine xi (y := nI (rcnt rh sz (sn - 2) (rh ((520 * (sn - 1)) + k) / 2 ^ 14))) (congrArg nI (cnt_same hfl.2.2 (show sn - 2 < 8 by omega) (hsz (sn - 2) (by omega)))) ?_
          refine xz_gt (tgt := 206) (a := rcnt rh sz (sn - 2) (rh ((520 * (sn - 1)) + k) / 2 ^ 14)) hx hb (by have := hsz (sn - 2) (by omega); have := rcnt_le (rh := rh) (d := rh ((520 * (sn - 1)) + k) / 2 ^ 14) this; omega) d_Mo_join_188 (by decide) (fun c_188 => ?_) (fun c_188 => ?_)
          · exact jn_206 k gg zz (by first | assumption | omega) (by first | assumption | omega) (by first | assumption | omega) (by exact Or.inr (Or.inl ⟨c_175, c_188⟩)) _ _ hP hD hS _ (lv_sub hl [1, 2, 3, 4, 5, 0] rfl)
          · exact jn_191 k gg zz (by first | assumption | omega) (by first | assumption | omega) (by first | assumption | omega) (by first | assumption | omega) (by exact fun _ => c_188) _ _ hP hD hS _ (lv_sub hl [1, 2, 3, 4, 5, 0] rfl)
set_option maxHeartbeats 4000000 in
set_option maxRecDepth 100000 in
theorem lp_Mo_join_ok_64 {p : Program} {l : Launch} {e : Env} {s : State} {m : MethodId} {below : List Frame} {meth : Method} {c : Code} {A : Nat → Prop} {D : va_G} {K : Nat → ClassId} (m0 : Nat) (th : Nat) (T : Nat) (hd : Nat) (r1 : Nat) (r2 : Nat) (r3 : Nat) (r4 : Nat) (cm : Nat) (r5 : Nat) (r6 : Nat) (sg : Nat) (r7 : Nat) (sn : Nat) (r8 : Nat) (r9 : Nat) (rh : Nat → Nat) (sz : Nat → Nat) (hw : Nat) (t : Nat) (T2 : Nat → Nat) (hsn : 2 ≤ sn) (hsn2 : sn ≤ 8) (hhw : hw ≤ 3) (hsz : ∀ q, q < sn → sz q ≤ 520) (hbd : ∀ q k, q < sn → k < sz q → rh (520 * q + k) < 2 ^ 24) (ht : t < 520) (hT : ∀ v, (st_mem (sz (sn - 2)) (rw_ rh (sn - 2)) v ∨ st_mem (sz (sn - 1)) (rw_ rh (sn - 1)) v) → st_mem t T2 v) (hF : Fx p s m meth c y_Mo_join b_Mo_join 7 (some .int) D K) {b0 : Nat} (hA : AS K s A b0) : ∀ fuel : Nat, ∀ k : Nat, ∀ gg : Nat → Nat, ∀ zz : Nat, (k ≤ sz (sn - 2)) → (rf_fill rh gg 8 zz (jnM1 rh sz sn hw k)) → sz (sn - 2) - k < fuel → ∀ (H : Heap) (locs : List Loc), va_P D classes [(m0, .inr (8, [.int (nI 0), .int (nI T), .int (nI hd), .ref r1, .ref r2, .ref r3, .ref r4, .int (nI cm), .ref r5, .ref r6, .int (nI sg), .ref r7, .int (nI sn), .ref r8, .ref r9])), (r8, .inl (K 0, 4680, .inl (nA gg))), (r9, .inl (K 0, 9, .inl (nA (va_up sz 8 zz))))] H → va_D A [(m0, .inr (8, [.int (nI 0), .int (nI T), .int (nI hd), .ref r1, .ref r2, .ref r3, .ref r4, .int (nI cm), .ref r5, .ref r6, .int (nI sg), .ref r7, .int (nI sn), .ref r8, .ref r9])), (r8, .inl (K 0, 4680, .inl (nA gg))), (r9, .inl (K 0, 9, .inl (nA (va_up sz 8 zz))))] → va_S A s.heap H locs → ∀ ls : Array Slot, lv_has ls 7 [(0, .ref m0), (1, .int (nI hw)), (2, .int (nI (sn - 2))), (3, .int (nI (sn - 1))), (4, .int (nI k))] → W p l e ({ frames := 2, cells := 0, slots := 0, locals := 47 } : Room) s m ([.ref m0, .int (nI hw)] : List Value).toArray below meth c H locs 0 0 (MQ below (va_Qi (q_Mo_join_ok K m0 th T hd r1 r2 r3 r4 cm r5 r6 sg r7 sn r8 r9 rh sz hw t T2) (fun u t => va_P D classes u t.heap ∧ va_D A u) A) ([.ref m0, .int (nI hw)] : List Value).toArray s 0 0 A) (F0 m 64 ls []) := by
  have hF2 := hF
  obtain ⟨hx, hb, hr, hml, hown, htw, hK, hlocks, hname⟩ := hF
  intro fuel
  induction fuel with
  | zero => intros; omega
  | succ fuel ih =>
    have jn_134 : ∀ k : Nat, ∀ gg : Nat → Nat, ∀ zz : Nat, (k < sz (sn - 2)) → (rf_fill rh gg 8 zz (jnM1 rh sz sn hw (k + 1))) → (sz (sn - 2) - k < fuel + 1) → ∀ (H : Heap) (locs : List Loc), va_P D classes [(m0, .inr (8, [.int (nI 0), .int (nI T), .int (nI hd), .ref r1, .ref r2, .ref r3, .ref r4, .int (nI cm), .ref r5, .ref r6, .int (nI sg), .ref r7, .int (nI sn), .ref r8, .ref r9])), (r8, .inl (K 0, 4680, .inl (nA gg))), (r9, .inl (K 0, 9, .inl (nA (va_up sz 8 zz))))] H → va_D A [(m0, .inr (8, [.int (nI 0), .int (nI T), .int (nI hd), .ref r1, .ref r2, .ref r3, .ref r4, .int (nI cm), .ref r5, .ref r6, .int (nI sg), .ref r7, .int (nI sn), .ref r8, .ref r9])), (r8, .inl (K 0, 4680, .inl (nA gg))), (r9, .inl (K 0, 9, .inl (nA (va_up sz 8 zz))))] → va_S A s.heap H locs → ∀ ls : Array Slot, lv_has ls 7 [(0, .ref m0), (1, .int (nI hw)), (2, .int (nI (sn - 2))), (3, .int (nI (sn - 1))), (4, .int (nI k))] → W p l e ({ frames := 2, cells := 0, slots := 0, locals := 47 } : Room) s m ([.ref m0, .int (nI hw)] : List Value).toArray below meth c H locs 0 0 (MQ below (va_Qi (q_Mo_join_ok K m0 th T hd r1 r2 r3 r4 cm r5 r6 sg r7 sn r8 r9 rh sz hw t T2) (fun u t => va_P D classes u t.heap ∧ va_D A u) A) ([.ref m0, .int (nI hw)] : List Value).toArray s 0 0 A) (F0 m 134 ls []) := by
      intro k gg zz hk1 hfl hfu H locs hP hD hS ls hl
      refine lv_iinc (v := nI (k + 1)) (lv' := [(4, .int (nI (k + 1))), (0, .ref m0), (1, .int (nI hw)), (2, .int (nI (sn - 2))), (3, .int (nI (sn - 1)))]) hx hb d_Mo_join_134 hl (k := 4) rfl (inc_nI _ _) (by decide) rfl (fun ls hl => ?_)
      refine lv_goto (tgt := 64) hx hb d_Mo_join_137 (by decide) ?_
      exact ih (k + 1) gg zz (by first | assumption | omega) (by first | assumption | omega) (by omega) _ _ hP hD hS _ (lv_sub hl [1, 2, 3, 4, 0] rfl)
    have jn_126 : ∀ k : Nat, ∀ gg : Nat → Nat, ∀ zz : Nat, (k < sz (sn - 2)) → (rf_fill rh gg 8 zz (jnM1 rh sz sn hw k)) → (sz (sn - 2) - k < fuel + 1) → (jnP1 hw (rcnt rh sz (sn - 1) (rh ((520 * (sn - 2)) + k) / 2 ^ 14))) → ∀ (H : Heap) (locs : List Loc), va_P D classes [(m0, .inr (8, [.int (nI 0), .int (nI T), .int (nI hd), .ref r1, .ref r2, .ref r3, .ref r4, .int (nI cm), .ref r5, .ref r6, .int (nI sg), .ref r7, .int (nI sn), .ref r8, .ref r9])), (r8, .inl (K 0, 4680, .inl (nA gg))), (r9, .inl (K 0, 9, .inl (nA (va_up sz 8 zz))))] H → va_D A [(m0, .inr (8, [.int (nI 0), .int (nI T), .int (nI hd), .ref r1, .ref r2, .ref r3, .ref r4, .int (nI cm), .ref r5, .ref r6, .int (nI sg), .ref r7, .int (nI sn), .ref r8, .ref r9])), (r8, .inl (K 0, 4680, .inl (nA gg))), (r9, .inl (K 0, 9, .inl (nA (va_up sz 8 zz))))] → va_S A s.heap H locs → ∀ ls : Array Slot, lv_has ls 7 [(0, .ref m0), (1, .int (nI hw)), (2, .int (nI (sn - 2))), (3, .int (nI (sn - 1))), (4, .int (nI k)), (5, .int (nI (rh ((520 * (sn - 2)) + k))))] → W p l e ({ frames := 2, cells := 0, slots := 0, locals := 47 } : Room) s m ([.ref m0, .int (nI hw)] : List Value).toArray below meth c H locs 0 0 (MQ below (va_Qi (q_Mo_join_ok K m0 th T hd r1 r2 r3 r4 cm r5 r6 sg r7 sn r8 r9 rh sz hw t T2) (fun u t => va_P D classes u t.heap ∧ va_D A u) A) ([.ref m0, .int (nI hw)] : List Value).toArray s 0 0 A) (F0 m 126 ls []) := by
      intro k gg zz hk1 hfl hfu hp1 H locs hP hD hS ls hl
      refine lv_aload_n hx hb d_Mo_join_126 rfl (lv_at hl 0 rfl) ?_
      refine lv_bipush (v := nI 8) hx hb d_Mo_join_127 (by decide) ?_
      refine lv_iload hx hb d_Mo_join_129 (lv_at hl 5 rfl) ?_
      refine xcV_v (As := [.int (nI 8), .int (nI (rh ((520 * (sn - 2)) + k)))]) (rest := []) (wr := []) hx hb hml hown htw hK hA hl.1 hP hD hS (c_Mo_insert l D K m0 0 T hd r1 r2 r3 r4 cm r5 r6 sg r7 sn r8 r9 gg (va_up sz 8 zz) 8 (rh ((520 * (sn - 2)) + k)) (by omega) (by rw [va_up_self]; have := jn_card hfl (fun v w => hT v (Or.inl (jnM1_mem (by omega) w))); omega) (by rw [va_up_self]; exact hfl.1) (by exact fun i hi => by rw [va_up_self] at hi; exact jn_bd hfl (fun v w => by obtain ⟨i, a1, a2⟩ := jnM1_mem (show k ≤ sz (sn - 2) by omega) w; have := hbd (sn - 2) i (by omega) a1; rw [← a2]; exact this) i hi) (by have := hbd (sn - 2) k (by omega) (by omega); omega)) [0, 1, 2] [] rfl rfl (by decide) (by decide) (by decide) 0 rfl k_Mo ml_Mo_87 w_Mo_insert rfl ⟨by decide, by decide⟩ rfl (Nat.le_of_ble_eq_true rfl) ⟨by decide, by decide⟩ d_Mo_join_131 (fun u H locs hpost hP hD hS => ?_)
      obtain ⟨rh'_131, z'_131, rfl, hin2_131, hm2_131, ho2_131, hz2_131⟩ := hpost
      have hP : va_P D classes [(m0, .inr (8, [.int (nI 0), .int (nI T), .int (nI hd), .ref r1, .ref r2, .ref r3, .ref r4, .int (nI cm), .ref r5, .ref r6, .int (nI sg), .ref r7, .int (nI sn), .ref r8, .ref r9])), (r8, .inl (K 0, 4680, .inl (nA rh'_131))), (r9, .inl (K 0, 9, .inl (nA (va_up (va_up sz 8 zz) 8 z'_131))))] H := hP
      have hD : va_D A [(m0, .inr (8, [.int (nI 0), .int (nI T), .int (nI hd), .ref r1, .ref r2, .ref r3, .ref r4, .int (nI cm), .ref r5, .ref r6, .int (nI sg), .ref r7, .int (nI sn), .ref r8, .ref r9])), (r8, .inl (K 0, 4680, .inl (nA rh'_131))), (r9, .inl (K 0, 9, .inl (nA (va_up (va_up sz 8 zz) 8 z'_131))))] := hD
      have hP : va_P D classes [(m0, .inr (8, [.int (nI 0), .int (nI T), .int (nI hd), .ref r1, .ref r2, .ref r3, .ref r4, .int (nI cm), .ref r5, .ref r6, .int (nI sg), .ref r7, .int (nI sn), .ref r8, .ref r9])), (r8, .inl (K 0, 4680, .inl (nA rh'_131))), (r9, .inl (K 0, 9, .inl (nA (va_up sz 8 z'_131))))] H := by rw [← up_up sz 8 zz]; exact hP
      have hD : va_D A [(m0, .inr (8, [.int (nI 0), .int (nI T), .int (nI hd), .ref r1, .ref r2, .ref r3, .ref r4, .int (nI cm), .ref r5, .ref r6, .int (nI sg), .ref r7, .int (nI sn), .ref r8, .ref r9])), (r8, .inl (K 0, 4680, .inl (nA rh'_131))), (r9, .inl (K 0, 9, .inl (nA (va_up sz 8 z'_131))))] := by rw [← up_up sz 8 zz]; exact hD
      exact jn_134 k rh'_131 z'_131 (by first | assumption | omega) (by exact rf_fill_put hfl hin2_131 (fun v => by rw [hm2_131, va_up_self]) ho2_131 (jnM1_y hp1)) (by first | assumption | omega) _ _ hP hD hS _ (lv_sub hl [0, 1, 2, 3, 4] rfl)
    have jn_116 : ∀ k : Nat, ∀ gg : Nat → Nat, ∀ zz : Nat, (k < sz (sn - 2)) → (rf_fill rh gg 8 zz (jnM1 rh sz sn hw k)) → (sz (sn - 2) - k < fuel + 1) → (¬ hw = 1) → (hw = 0 → rcnt rh sz (sn - 1) (rh ((520 * (sn - 2)) + k) / 2 ^ 14) = 0) → ∀ (H : Heap) (locs : List Loc), va_P D classes [(m0, .inr (8, [.int (nI 0), .int (nI T), .int (nI hd), .ref r1, .ref r2, .ref r3, .ref r4, .int (nI cm), .ref r5, .ref r6, .int (nI sg), .ref r7, .int (nI sn), .ref r8, .ref r9])), (r8, .inl (K 0, 4680, .inl (nA gg))), (r9, .inl (K 0, 9, .inl (nA (va_up sz 8 zz))))] H → va_D A [(m0, .inr (8, [.int (nI 0), .int (nI T), .int (nI hd), .ref r1, .ref r2, .ref r3, .ref r4, .int (nI cm), .ref r5, .ref r6, .int (nI sg), .ref r7, .int (nI sn), .ref r8, .ref r9])), (r8, .inl (K 0, 4680, .inl (nA gg))), (r9, .inl (K 0, 9, .inl (nA (va_up sz 8 zz))))] → va_S A s.heap H locs → ∀ ls : Array Slot, lv_has ls 7 [(0, .ref m0), (1, .int (nI hw)), (2, .int (nI (sn - 2))), (3, .int (nI (sn - 1))), (4, .int (nI k)), (5, .int (nI (rh ((520 * (sn - 2)) + k)))), (6, .int (nI (rcnt rh sz (sn - 1) (rh ((520 * (sn - 2)) + k) / 2 ^ 14))))] → W p l e ({ frames := 2, cells := 0, slots := 0, locals := 47 } : Room) s m ([.ref m0, .int (nI hw)] : List Value).toArray below meth c H locs 0 0 (MQ below (va_Qi (q_Mo_join_ok K m0 th T hd r1 r2 r3 r4 cm r5 r6 sg r7 sn r8 r9 rh sz hw t T2) (fun u t => va_P D classes u t.heap ∧ va_D A u) A) ([.ref m0, .int (nI hw)] : List Value).toArray s 0 0 A) (F0 m 116 ls []) := by
      intro k gg zz hk1 hfl hfu hn1 hn0 H locs hP hD hS ls hl
      refine lv_iload_n hx hb d_Mo_join_116 rfl (lv_at hl 1 rfl) ?_
      refine lv_iconst (v := nI 2) hx hb d_Mo_join_117 (by decide) ?_
      refine xc_ne (tgt := 134) (a := hw) (b := 2) hx hb (by omega) (by omega) d_Mo_join_118 (by decide) (fun c_118 => ?_) (fun c_118 => ?_)
      · exact jn_134 k gg zz (by first | assumption | omega) (by exact rf_fill_congr hfl (jnM1_n (fun w => w.elim hn1 (fun w => w.elim (fun w => by have := hn0 w.1; omega) (fun w => c_118 w.1))))) (by first | assumption | omega) _ _ hP hD hS _ (lv_sub hl [0, 1, 2, 3, 4] rfl)
      · refine lv_iload hx hb d_Mo_join_121 (lv_at hl 6 rfl) ?_
        refine xz_ne (tgt := 134) (a := rcnt rh sz (sn - 1) (rh ((520 * (sn - 2)) + k) / 2 ^ 14)) hx hb (by have := hsz (sn - 1) (by omega); have := rcnt_le (rh := rh) (d := rh ((520 * (sn - 2)) + k) / 2 ^ 14) this; omega) d_Mo_join_123 (by decide) (fun c_123 => ?_) (fun c_123 => ?_)
        · exact jn_134 k gg zz (by first | assumption | omega) (by exact rf_fill_congr hfl (jnM1_n (fun w => w.elim hn1 (fun w => w.elim (fun w => by omega) (fun w => by omega))))) (by first | assumption | omega) _ _ hP hD hS _ (lv_sub hl [0, 1, 2, 3, 4] rfl)
        · exact jn_126 k gg zz (by first | assumption | omega) (by first | assumption | omega) (by first | assumption | omega) (by exact Or.inr (Or.inr ⟨c_118, c_123⟩)) _ _ hP hD hS _ (lv_sub hl [0, 1, 2, 3, 4, 5] rfl)
    intro k gg zz hk1 hfl hfu H locs hP hD hS ls hl
    refine lv_iload hx hb d_Mo_join_64 (lv_at hl 4 rfl) ?_
    refine lv_aload_n hx hb d_Mo_join_66 rfl (lv_at hl 0 rfl) ?_
    refine xg hx hb hown htw hK hP 0 14 rfl k_Mo (by decide) fl_Mo_35 rfl d_Mo_join_67 ?_
    refine lv_iload_n hx hb d_Mo_join_70 rfl (lv_at hl 2 rfl) ?_
    refine xald_i hx hb hK hP 2 rfl (by omega) (by omega) d_Mo_join_71 ?_
    refine xi (y := nI ((va_up sz 8 zz) (sn - 2))) rfl ?_
    refine xi (y := nI (sz (sn - 2))) (congrArg nI (va_up_ne sz _ (show sn - 2 ≠ 8 by omega))) ?_
    refine xc_ge (tgt := 140) (a := k) (b := sz (sn - 2)) hx hb (by have := hsz (sn - 2) (by omega); omega) (by have := hsz (sn - 2) (by omega); omega) d_Mo_join_72 (by decide) (fun c_72 => ?_) (fun c_72 => ?_)
    · have hk2 : sz (sn - 2) = k := by omega
      subst hk2
      refine lv_iconst (v := nI 0) hx hb d_Mo_join_140 (by decide) ?_
      refine lv_istore (lv' := [(4, .int (nI 0)), (0, .ref m0), (1, .int (nI hw)), (2, .int (nI (sn - 2))), (3, .int (nI (sn - 1)))]) hx hb d_Mo_join_141 hl (by decide) rfl (fun ls hl => ?_)
      exact lp_Mo_join_ok_143 (l := l) m0 th T hd r1 r2 r3 r4 cm r5 r6 sg r7 sn r8 r9 rh sz hw t T2 hsn hsn2 hhw hsz hbd ht hT hF2 hA _ 0 gg zz (by first | assumption | omega) (by exact rf_fill_congr hfl jnM2_0) (Nat.lt_succ_self _) _ _ hP hD hS _ (lv_sub hl [1, 2, 3, 4, 0] rfl)
    · refine lv_aload_n hx hb d_Mo_join_75 rfl (lv_at hl 0 rfl) ?_
      refine xg hx hb hown htw hK hP 0 13 rfl k_Mo (by decide) fl_Mo_32 rfl d_Mo_join_76 ?_
      refine lv_sipush (v := nI 520) hx hb d_Mo_join_79 (by decide) ?_
      refine lv_iload_n hx hb d_Mo_join_82 rfl (lv_at hl 2 rfl) ?_
      refine lv_imul hx hb d_Mo_join_83 ?_
      refine xi (nI_mul 520 (sn - 2)) ?_
      refine lv_iload hx hb d_Mo_join_84 (lv_at hl 4 rfl) ?_
      refine lv_iadd hx hb d_Mo_join_86 ?_
      refine xi (nI_add (520 * (sn - 2)) k) ?_
      refine xald_i hx hb hK hP 1 rfl (by have := hsz (sn - 2) (by omega); omega) (by omega) d_Mo_join_87 ?_
      refine xi (y := nI (gg ((520 * (sn - 2)) + k))) rfl ?_
      refine xi (y := nI (rh ((520 * (sn - 2)) + k))) (congrArg nI (hfl.2.2 _ (by have := hsz (sn - 2) (by omega); omega))) ?_
      refine lv_istore (lv' := [(5, .int (nI (rh ((520 * (sn - 2)) + k)))), (0, .ref m0), (1, .int (nI hw)), (2, .int (nI (sn - 2))), (3, .int (nI (sn - 1))), (4, .int (nI k))]) hx hb d_Mo_join_88 hl (by decide) rfl (fun ls hl => ?_)
      refine lv_aload_n hx hb d_Mo_join_90 rfl (lv_at hl 1 rfl) ?_
      refine lv_iload_n hx hb d_Mo_join_91 rfl (lv_at hl 4 rfl) ?_
      refine lv_iload hx hb d_Mo_join_92 (lv_at hl 0 rfl) ?_
      refine lv_bipush (v := nI 14) hx hb d_Mo_join_94 (by decide) ?_
      refine lv_ishr hx hb d_Mo_join_96 ?_
      refine xi (y := nI (rh ((520 * (sn - 2)) + k) / 2 ^ 14)) (pk_shrN (by have := hbd (sn - 2) k (by omega) (by omega); omega) _ 14 (by decide)) ?_
      refine xcV_i (As := [.int (nI (sn - 1)), .int (nI (rh ((520 * (sn - 2)) + k) / 2 ^ 14))]) (rest := []) (wr := []) hx hb hml hown htw hK hA hl.1 hP hD hS (c_Mo_many l D K m0 0 T hd r1 r2 r3 r4 cm r5 r6 sg r7 sn r8 r9 gg (va_up sz 8 zz) (sn - 1) (rh ((520 * (sn - 2)) + k) / 2 ^ 14) (by omega) (by rw [va_up_ne sz _ (show sn - 1 ≠ 8 by omega)]; exact hsz _ (by omega)) (by exact fun i hi => by rw [va_up_ne sz _ (show sn - 1 ≠ 8 by omega)] at hi; have := hsz (sn - 1) (by omega); rw [hfl.2.2 _ (by omega)]; exact hbd _ i (by omega) hi) (by have := hbd (sn - 2) k (by omega) (by omega); omega)) [0, 1, 2] [] rfl rfl (by decide) (by decide) (by decide) 0 rfl k_Mo ml_Mo_102 w_Mo_many rfl ⟨by decide, by decide⟩ rfl (Nat.le_of_ble_eq_true rfl) ⟨by decide, by decide⟩ d_Mo_join_97 (fun r u H locs hpost hP hD hS => ?_)
      obtain ⟨rfl, rfl⟩ := hpost
      have hP : va_P D classes [(m0, .inr (8, [.int (nI 0), .int (nI T), .int (nI hd), .ref r1, .ref r2, .ref r3, .ref r4, .int (nI cm), .ref r5, .ref r6, .int (nI sg), .ref r7, .int (nI sn), .ref r8, .ref r9])), (r8, .inl (K 0, 4680, .inl (nA gg))), (r9, .inl (K 0, 9, .inl (nA (va_up sz 8 zz))))] H := hP
      have hD : va_D A [(m0, .inr (8, [.int (nI 0), .int (nI T), .int (nI hd), .ref r1, .ref r2, .ref r3, .ref r4, .int (nI cm), .ref r5, .ref r6, .int (nI sg), .ref r7, .int (nI sn), .ref r8, .ref r9])), (r8, .inl (K 0, 4680, .inl (nA gg))), (r9, .inl (K 0, 9, .inl (nA (va_up sz 8 zz))))] := hD
      refine xi (y := nI (rcnt rh sz (sn - 1) (rh ((520 * (sn - 2)) + k) / 2 ^ 14))) (congrArg nI (cnt_same hfl.2.2 (show sn - 1 < 8 by omega) (hsz (sn - 1) (by omega)))) ?_
      refine lv_istore (lv' := [(6, .int (nI (rcnt rh sz (sn - 1) (rh ((520 * (sn - 2)) + k) / 2 ^ 14)))), (5, .int (nI (rh ((520 * (sn - 2)) + k)))), (0, .ref m0), (1, .int (nI hw)), (2, .int (nI (sn - 2))), (3, .int (nI (sn - 1))), (4, .int (nI k))]) hx hb d_Mo_join_100 hl (by decide) rfl (fun ls hl => ?_)
      refine lv_iload_n hx hb d_Mo_join_102 rfl (lv_at hl 3 rfl) ?_
      refine lv_iconst (v := nI 1) hx hb d_Mo_join_103 (by decide) ?_
      refine xc_eq (tgt := 126) (a := hw) (b := 1) hx hb (by omega) (by omega) d_Mo_join_104 (by decide) (fun c_104 => ?_) (fun c_104 => ?_)
      · exact jn_126 k gg zz (by first | assumption | omega) (by first | assumption | omega) (by first | assumption | omega) (by exact Or.inl c_104) _ _ hP hD hS _ (lv_sub hl [2, 3, 4, 5, 6, 1] rfl)
      · refine lv_iload_n hx hb d_Mo_join_107 rfl (lv_at hl 3 rfl) ?_
        refine xz_ne (tgt := 116) (a := hw) hx hb (by omega) d_Mo_join_108 (by decide) (fun c_108 => ?_) (fun c_108 => ?_)
        · exact jn_116 k gg zz (by first | assumption | omega) (by first | assumption | omega) (by first | assumption | omega) (by first | assumption | omega) (by exact fun w => by omega) _ _ hP hD hS _ (lv_sub hl [2, 3, 4, 5, 6, 1, 0] rfl)
        · refine lv_iload hx hb d_Mo_join_111 (lv_at hl 0 rfl) ?_
          refine xz_gt (tgt := 126) (a := rcnt rh sz (sn - 1) (rh ((520 * (sn - 2)) + k) / 2 ^ 14)) hx hb (by have := hsz (sn - 1) (by omega); have := rcnt_le (rh := rh) (d := rh ((520 * (sn - 2)) + k) / 2 ^ 14) this; omega) d_Mo_join_113 (by decide) (fun c_113 => ?_) (fun c_113 => ?_)
          · exact jn_126 k gg zz (by first | assumption | omega) (by first | assumption | omega) (by first | assumption | omega) (by exact Or.inr (Or.inl ⟨c_108, c_113⟩)) _ _ hP hD hS _ (lv_sub hl [2, 3, 4, 5, 6, 1] rfl)
          · exact jn_116 k gg zz (by first | assumption | omega) (by first | assumption | omega) (by first | assumption | omega) (by first | assumption | omega) (by exact fun _ => c_113) _ _ hP hD hS _ (lv_sub hl [2, 3, 4, 5, 6, 1, 0] rfl)
set_option maxHeartbeats 4000000 in
set_option maxRecDepth 100000 in
theorem c_Mo_join_ok (l : Launch) (D : va_G) (K : Nat → ClassId) (m0 : Nat) (th : Nat) (T : Nat) (hd : Nat) (r1 : Nat) (r2 : Nat) (r3 : Nat) (r4 : Nat) (cm : Nat) (r5 : Nat) (r6 : Nat) (sg : Nat) (r7 : Nat) (sn : Nat) (r8 : Nat) (r9 : Nat) (rh : Nat → Nat) (sz : Nat → Nat) (hw : Nat) (t : Nat) (T2 : Nat → Nat) (hsn : 2 ≤ sn) (hsn2 : sn ≤ 8) (hhw : hw ≤ 3) (hsz : ∀ q, q < sn → sz q ≤ 520) (hbd : ∀ q k, q < sn → k < sz q → rh (520 * q + k) < 2 ^ 24) (ht : t < 520) (hT : ∀ v, (st_mem (sz (sn - 2)) (rw_ rh (sn - 2)) v ∨ st_mem (sz (sn - 1)) (rw_ rh (sn - 1)) v) → st_mem t T2 v) : CI l y_Mo_join b_Mo_join 7 .int ({ frames := 2, cells := 0, slots := 0, locals := 47 } : Room) D K [.ref m0, .int (nI hw)] [(m0, .inr (8, [.int (nI th), .int (nI T), .int (nI hd), .ref r1, .ref r2, .ref r3, .ref r4, .int (nI cm), .ref r5, .ref r6, .int (nI sg), .ref r7, .int (nI sn), .ref r8, .ref r9])), (r8, .inl (K 0, 4680, .inl (nA rh))), (r9, .inl (K 0, 9, .inl (nA sz)))] (q_Mo_join_ok K m0 th T hd r1 r2 r3 r4 cm r5 r6 sg r7 sn r8 r9 rh sz hw t T2) := by
  refine CI_of (by decide) (Nat.le_of_ble_eq_true rfl) ?_
  intro p e s m below meth c A b0 ls hF hA hP hD hl
  have hF2 := hF
  obtain ⟨hx, hb, hr, hml, hown, htw, hK, hlocks, hname⟩ := hF
  have hS : va_S A s.heap s.heap [] := va_S.rf
  have hl : lv_has ls 7 [(0, .ref m0), (1, .int (nI hw))] := hl
  refine lv_aload_n hx hb d_Mo_join_0 rfl (lv_at hl 0 rfl) ?_
  refine lv_aload_n hx hb d_Mo_join_1 rfl (lv_at hl 0 rfl) ?_
  refine xg hx hb hown htw hK hP 0 12 rfl k_Mo (by decide) fl_Mo_73 rfl d_Mo_join_2 ?_
  refine lv_iconst (v := nI 2) hx hb d_Mo_join_5 (by decide) ?_
  refine xc_ge (tgt := 13) (a := sn) (b := 2) hx hb (by omega) (by omega) d_Mo_join_6 (by decide) (fun c_6 => ?_) (fun c_6 => ?_)
  · refine lv_iload_n hx hb d_Mo_join_13 rfl (lv_at hl 1 rfl) ?_
    refine xz_lt (a := hw) hx hb (by omega) d_Mo_join_14 22 (by decide) ?_
    refine lv_iload_n hx hb d_Mo_join_17 rfl (lv_at hl 1 rfl) ?_
    refine lv_iconst (v := nI 3) hx hb d_Mo_join_18 (by decide) ?_
    refine xc_le (tgt := 26) (a := hw) (b := 3) hx hb (by omega) (by omega) d_Mo_join_19 (by decide) (fun c_19 => ?_) (fun c_19 => ?_)
    · refine lv_iconst (v := nI 0) hx hb d_Mo_join_26 (by decide) ?_
      refine xpt hx hb hown htw hK hP hD hS 0 0 rfl k_Mo (by decide) fl_Mo_38 rfl rfl rfl (Nat.le_of_ble_eq_true rfl) d_Mo_join_27 (fun H locs hP hD hS => ?_)
      have hP : va_P D classes [(m0, .inr (8, [.int (nI 0), .int (nI T), .int (nI hd), .ref r1, .ref r2, .ref r3, .ref r4, .int (nI cm), .ref r5, .ref r6, .int (nI sg), .ref r7, .int (nI sn), .ref r8, .ref r9])), (r8, .inl (K 0, 4680, .inl (nA rh))), (r9, .inl (K 0, 9, .inl (nA sz)))] H := hP
      have hD : va_D A [(m0, .inr (8, [.int (nI 0), .int (nI T), .int (nI hd), .ref r1, .ref r2, .ref r3, .ref r4, .int (nI cm), .ref r5, .ref r6, .int (nI sg), .ref r7, .int (nI sn), .ref r8, .ref r9])), (r8, .inl (K 0, 4680, .inl (nA rh))), (r9, .inl (K 0, 9, .inl (nA sz)))] := hD
      refine lv_aload_n hx hb d_Mo_join_30 rfl (lv_at hl 0 rfl) ?_
      refine xg hx hb hown htw hK hP 0 0 rfl k_Mo (by decide) fl_Mo_38 rfl d_Mo_join_31 ?_
      refine xz_le (tgt := 39) (a := 0) hx hb (by omega) d_Mo_join_34 (by decide) (fun c_34 => ?_) (fun c_34 => ?_)
      · refine lv_aload_n hx hb d_Mo_join_39 rfl (lv_at hl 0 rfl) ?_
        refine xg hx hb hown htw hK hP 0 12 rfl k_Mo (by decide) fl_Mo_73 rfl d_Mo_join_40 ?_
        refine lv_iconst (v := nI 2) hx hb d_Mo_join_43 (by decide) ?_
        refine lv_isub hx hb d_Mo_join_44 ?_
        refine xi (nI_sub (a := sn) (b := 2) (by omega)) ?_
        refine lv_istore_n (lv' := [(2, .int (nI (sn - 2))), (0, .ref m0), (1, .int (nI hw))]) hx hb d_Mo_join_45 rfl hl (by decide) rfl (fun ls hl => ?_)
        refine lv_aload_n hx hb d_Mo_join_46 rfl (lv_at hl 1 rfl) ?_
        refine xg hx hb hown htw hK hP 0 12 rfl k_Mo (by decide) fl_Mo_73 rfl d_Mo_join_47 ?_
        refine lv_iconst (v := nI 1) hx hb d_Mo_join_50 (by decide) ?_
        refine lv_isub hx hb d_Mo_join_51 ?_
        refine xi (nI_sub (a := sn) (b := 1) (by omega)) ?_
        refine lv_istore_n (lv' := [(3, .int (nI (sn - 1))), (2, .int (nI (sn - 2))), (0, .ref m0), (1, .int (nI hw))]) hx hb d_Mo_join_52 rfl hl (by decide) rfl (fun ls hl => ?_)
        refine lv_aload_n hx hb d_Mo_join_53 rfl (lv_at hl 2 rfl) ?_
        refine xg hx hb hown htw hK hP 0 14 rfl k_Mo (by decide) fl_Mo_35 rfl d_Mo_join_54 ?_
        refine lv_bipush (v := nI 8) hx hb d_Mo_join_57 (by decide) ?_
        refine lv_iconst (v := nI 0) hx hb d_Mo_join_59 (by decide) ?_
        refine xast_i hx hb hK hP hD hS 2 rfl (by omega) (by omega) d_Mo_join_60 (fun H locs hP hD hS => ?_)
        rw [upd_nA] at hP hD
        have hP : va_P D classes [(m0, .inr (8, [.int (nI 0), .int (nI T), .int (nI hd), .ref r1, .ref r2, .ref r3, .ref r4, .int (nI cm), .ref r5, .ref r6, .int (nI sg), .ref r7, .int (nI sn), .ref r8, .ref r9])), (r8, .inl (K 0, 4680, .inl (nA rh))), (r9, .inl (K 0, 9, .inl (nA (va_up sz 8 0))))] H := hP
        have hD : va_D A [(m0, .inr (8, [.int (nI 0), .int (nI T), .int (nI hd), .ref r1, .ref r2, .ref r3, .ref r4, .int (nI cm), .ref r5, .ref r6, .int (nI sg), .ref r7, .int (nI sn), .ref r8, .ref r9])), (r8, .inl (K 0, 4680, .inl (nA rh))), (r9, .inl (K 0, 9, .inl (nA (va_up sz 8 0))))] := hD
        refine lv_iconst (v := nI 0) hx hb d_Mo_join_61 (by decide) ?_
        refine lv_istore (lv' := [(4, .int (nI 0)), (3, .int (nI (sn - 1))), (2, .int (nI (sn - 2))), (0, .ref m0), (1, .int (nI hw))]) hx hb d_Mo_join_62 hl (by decide) rfl (fun ls hl => ?_)
        exact lp_Mo_join_ok_64 (l := l) m0 th T hd r1 r2 r3 r4 cm r5 r6 sg r7 sn r8 r9 rh sz hw t T2 hsn hsn2 hhw hsz hbd ht hT hF2 hA _ 0 rh 0 (by first | assumption | omega) (by exact rf_fill_0 (fun v w => by obtain ⟨i, a1, _⟩ := w; omega)) (Nat.lt_succ_self _) _ _ hP hD hS _ (lv_sub hl [3, 4, 2, 1, 0] rfl)
      · omega
    · omega
  · omega

abbrev q_Mo_hit_no (K : Nat → ClassId) (m0 : Nat) (th : Nat) (T : Nat) (hd : Nat) (r1 : Nat) (r2 : Nat) (r3 : Nat) (r4 : Nat) (cm : Nat) (r5 : Nat) (r6 : Nat) (sg : Nat) (r7 : Nat) (sn : Nat) (r8 : Nat) (r9 : Nat) (sz : Nat → Nat) (x : Int32) (y : Int32) : Int32 → va_W → Prop := fun r u => u = [(m0, .inr (8, [.int (nI 0), .int (nI T), .int (nI hd), .ref r1, .ref r2, .ref r3, .ref r4, .int (nI cm), .ref r5, .ref r6, .int (nI sg), .ref r7, .int (nI sn), .ref r8, .ref r9])), (r9, .inl (K 0, 9, .inl (nA sz)))] ∧ r = zI (-1)
set_option maxHeartbeats 4000000 in
set_option maxRecDepth 100000 in
theorem c_Mo_hit_no (l : Launch) (D : va_G) (K : Nat → ClassId) (m0 : Nat) (th : Nat) (T : Nat) (hd : Nat) (r1 : Nat) (r2 : Nat) (r3 : Nat) (r4 : Nat) (cm : Nat) (r5 : Nat) (r6 : Nat) (sg : Nat) (r7 : Nat) (sn : Nat) (r8 : Nat) (r9 : Nat) (sz : Nat → Nat) (x : Int32) (y : Int32) (hsn2 : sn ≤ 8) (hno : sn = 0 ∨ x < 0 ∨ nI (sz (sn - 1)) ≤ x) : CI l y_Mo_hit b_Mo_hit 4 .int ({ frames := 0, cells := 0, slots := 0, locals := 0 } : Room) D K [.ref m0, .int x, .int y] [(m0, .inr (8, [.int (nI th), .int (nI T), .int (nI hd), .ref r1, .ref r2, .ref r3, .ref r4, .int (nI cm), .ref r5, .ref r6, .int (nI sg), .ref r7, .int (nI sn), .ref r8, .ref r9])), (r9, .inl (K 0, 9, .inl (nA sz)))] (q_Mo_hit_no K m0 th T hd r1 r2 r3 r4 cm r5 r6 sg r7 sn r8 r9 sz x y) := by
  refine CI_of (by decide) (Nat.le_of_ble_eq_true rfl) ?_
  intro p e s m below meth c A b0 ls hF hA hP hD hl
  have hF2 := hF
  obtain ⟨hx, hb, hr, hml, hown, htw, hK, hlocks, hname⟩ := hF
  have hS : va_S A s.heap s.heap [] := va_S.rf
  have hl : lv_has ls 4 [(0, .ref m0), (1, .int x), (2, .int y)] := hl
  refine lv_aload_n hx hb d_Mo_hit_0 rfl (lv_at hl 0 rfl) ?_
  refine lv_iconst (v := nI 0) hx hb d_Mo_hit_1 (by decide) ?_
  refine xpt hx hb hown htw hK hP hD hS 0 0 rfl k_Mo (by decide) fl_Mo_38 rfl rfl rfl (Nat.le_of_ble_eq_true rfl) d_Mo_hit_2 (fun H locs hP hD hS => ?_)
  have hP : va_P D classes [(m0, .inr (8, [.int (nI 0), .int (nI T), .int (nI hd), .ref r1, .ref r2, .ref r3, .ref r4, .int (nI cm), .ref r5, .ref r6, .int (nI sg), .ref r7, .int (nI sn), .ref r8, .ref r9])), (r9, .inl (K 0, 9, .inl (nA sz)))] H := hP
  have hD : va_D A [(m0, .inr (8, [.int (nI 0), .int (nI T), .int (nI hd), .ref r1, .ref r2, .ref r3, .ref r4, .int (nI cm), .ref r5, .ref r6, .int (nI sg), .ref r7, .int (nI sn), .ref r8, .ref r9])), (r9, .inl (K 0, 9, .inl (nA sz)))] := hD
  refine lv_aload_n hx hb d_Mo_hit_5 rfl (lv_at hl 0 rfl) ?_
  refine xg hx hb hown htw hK hP 0 12 rfl k_Mo (by decide) fl_Mo_73 rfl d_Mo_hit_6 ?_
  refine xz_eq (tgt := 31) (a := sn) hx hb (by omega) d_Mo_hit_9 (by decide) (fun c_9 => ?_) (fun c_9 => ?_)
  · refine lv_iconst (v := zI (-1)) hx hb d_Mo_hit_31 (by decide) ?_
    exact xr_iret hx hb hr hlocks hP hD hS (Nat.le_of_ble_eq_true rfl) (Nat.le_of_ble_eq_true rfl) (⟨rfl, rfl⟩) d_Mo_hit_32
  · refine lv_iload_n hx hb d_Mo_hit_12 rfl (lv_at hl 1 rfl) ?_
    refine lv_if_lt (tgt := 31) hx hb d_Mo_hit_13 (by decide) (fun c_13 => ?_) (fun c_13 => ?_)
    · refine lv_iconst (v := zI (-1)) hx hb d_Mo_hit_31 (by decide) ?_
      exact xr_iret hx hb hr hlocks hP hD hS (Nat.le_of_ble_eq_true rfl) (Nat.le_of_ble_eq_true rfl) (⟨rfl, rfl⟩) d_Mo_hit_32
    · refine lv_iload_n hx hb d_Mo_hit_16 rfl (lv_at hl 1 rfl) ?_
      refine lv_aload_n hx hb d_Mo_hit_17 rfl (lv_at hl 0 rfl) ?_
      refine xg hx hb hown htw hK hP 0 14 rfl k_Mo (by decide) fl_Mo_35 rfl d_Mo_hit_18 ?_
      refine lv_aload_n hx hb d_Mo_hit_21 rfl (lv_at hl 0 rfl) ?_
      refine xg hx hb hown htw hK hP 0 12 rfl k_Mo (by decide) fl_Mo_73 rfl d_Mo_hit_22 ?_
      refine lv_iconst (v := nI 1) hx hb d_Mo_hit_25 (by decide) ?_
      refine lv_isub hx hb d_Mo_hit_26 ?_
      refine xi (nI_sub (a := sn) (b := 1) (by omega)) ?_
      refine xald_i hx hb hK hP 1 rfl (by omega) (by omega) d_Mo_hit_27 ?_
      refine xi (y := nI (sz (sn - 1))) rfl ?_
      refine lv_icmp_lt (tgt := 33) hx hb d_Mo_hit_28 (by decide) (fun c_28 => ?_) (fun c_28 => ?_)
      · exact absurd hno (fun q => q.elim (fun q => by omega) (fun q => q.elim c_13 (fun q => absurd c_28 (Int32.not_lt.mpr q))))
      · refine lv_iconst (v := zI (-1)) hx hb d_Mo_hit_31 (by decide) ?_
        exact xr_iret hx hb hr hlocks hP hD hS (Nat.le_of_ble_eq_true rfl) (Nat.le_of_ble_eq_true rfl) (⟨rfl, rfl⟩) d_Mo_hit_32

abbrev q_Mo_hit_ok (K : Nat → ClassId) (m0 : Nat) (th : Nat) (T : Nat) (hd : Nat) (r1 : Nat) (r2 : Nat) (r3 : Nat) (r4 : Nat) (cm : Nat) (r5 : Nat) (r6 : Nat) (sg : Nat) (r7 : Nat) (sn : Nat) (r8 : Nat) (r9 : Nat) (rh : Nat → Nat) (sz : Nat → Nat) (k : Nat) (y : Int32) : Int32 → va_W → Prop := fun r u => u = [(m0, .inr (8, [.int (nI 0), .int (nI T), .int (nI hd), .ref r1, .ref r2, .ref r3, .ref r4, .int (nI cm), .ref r5, .ref r6, .int (nI sg), .ref r7, .int (nI sn), .ref r8, .ref r9])), (r8, .inl (K 0, 4680, .inl (nA rh))), (r9, .inl (K 0, 9, .inl (nA sz)))] ∧ r = hitW y (rh (520 * (sn - 1) + k))
set_option maxHeartbeats 4000000 in
set_option maxRecDepth 100000 in
theorem c_Mo_hit_ok (l : Launch) (D : va_G) (K : Nat → ClassId) (m0 : Nat) (th : Nat) (T : Nat) (hd : Nat) (r1 : Nat) (r2 : Nat) (r3 : Nat) (r4 : Nat) (cm : Nat) (r5 : Nat) (r6 : Nat) (sg : Nat) (r7 : Nat) (sn : Nat) (r8 : Nat) (r9 : Nat) (rh : Nat → Nat) (sz : Nat → Nat) (k : Nat) (y : Int32) (hsn2 : sn ≤ 8) (hsn : 0 < sn) (hk : k < sz (sn - 1)) (hsz : ∀ q, q < sn → sz q ≤ 520) (hbd : ∀ q k, q < sn → k < sz q → rh (520 * q + k) < 2 ^ 24) : CI l y_Mo_hit b_Mo_hit 4 .int ({ frames := 0, cells := 0, slots := 0, locals := 0 } : Room) D K [.ref m0, .int (nI k), .int y] [(m0, .inr (8, [.int (nI th), .int (nI T), .int (nI hd), .ref r1, .ref r2, .ref r3, .ref r4, .int (nI cm), .ref r5, .ref r6, .int (nI sg), .ref r7, .int (nI sn), .ref r8, .ref r9])), (r8, .inl (K 0, 4680, .inl (nA rh))), (r9, .inl (K 0, 9, .inl (nA sz)))] (q_Mo_hit_ok K m0 th T hd r1 r2 r3 r4 cm r5 r6 sg r7 sn r8 r9 rh sz k y) := by
  refine CI_of (by decide) (Nat.le_of_ble_eq_true rfl) ?_
  intro p e s m below meth c A b0 ls hF hA hP hD hl
  have hF2 := hF
  obtain ⟨hx, hb, hr, hml, hown, htw, hK, hlocks, hname⟩ := hF
  have hS : va_S A s.heap s.heap [] := va_S.rf
  have hl : lv_has ls 4 [(0, .ref m0), (1, .int (nI k)), (2, .int y)] := hl
  refine lv_aload_n hx hb d_Mo_hit_0 rfl (lv_at hl 0 rfl) ?_
  refine lv_iconst (v := nI 0) hx hb d_Mo_hit_1 (by decide) ?_
  refine xpt hx hb hown htw hK hP hD hS 0 0 rfl k_Mo (by decide) fl_Mo_38 rfl rfl rfl (Nat.le_of_ble_eq_true rfl) d_Mo_hit_2 (fun H locs hP hD hS => ?_)
  have hP : va_P D classes [(m0, .inr (8, [.int (nI 0), .int (nI T), .int (nI hd), .ref r1, .ref r2, .ref r3, .ref r4, .int (nI cm), .ref r5, .ref r6, .int (nI sg), .ref r7, .int (nI sn), .ref r8, .ref r9])), (r8, .inl (K 0, 4680, .inl (nA rh))), (r9, .inl (K 0, 9, .inl (nA sz)))] H := hP
  have hD : va_D A [(m0, .inr (8, [.int (nI 0), .int (nI T), .int (nI hd), .ref r1, .ref r2, .ref r3, .ref r4, .int (nI cm), .ref r5, .ref r6, .int (nI sg), .ref r7, .int (nI sn), .ref r8, .ref r9])), (r8, .inl (K 0, 4680, .inl (nA rh))), (r9, .inl (K 0, 9, .inl (nA sz)))] := hD
  refine lv_aload_n hx hb d_Mo_hit_5 rfl (lv_at hl 0 rfl) ?_
  refine xg hx hb hown htw hK hP 0 12 rfl k_Mo (by decide) fl_Mo_73 rfl d_Mo_hit_6 ?_
  refine xz_eq (tgt := 31) (a := sn) hx hb (by omega) d_Mo_hit_9 (by decide) (fun c_9 => ?_) (fun c_9 => ?_)
  · omega
  · refine lv_iload_n hx hb d_Mo_hit_12 rfl (lv_at hl 1 rfl) ?_
    refine xz_lt (a := k) hx hb (by have := hsz (sn - 1) (by omega); omega) d_Mo_hit_13 31 (by decide) ?_
    refine lv_iload_n hx hb d_Mo_hit_16 rfl (lv_at hl 1 rfl) ?_
    refine lv_aload_n hx hb d_Mo_hit_17 rfl (lv_at hl 0 rfl) ?_
    refine xg hx hb hown htw hK hP 0 14 rfl k_Mo (by decide) fl_Mo_35 rfl d_Mo_hit_18 ?_
    refine lv_aload_n hx hb d_Mo_hit_21 rfl (lv_at hl 0 rfl) ?_
    refine xg hx hb hown htw hK hP 0 12 rfl k_Mo (by decide) fl_Mo_73 rfl d_Mo_hit_22 ?_
    refine lv_iconst (v := nI 1) hx hb d_Mo_hit_25 (by decide) ?_
    refine lv_isub hx hb d_Mo_hit_26 ?_
    refine xi (nI_sub (a := sn) (b := 1) (by omega)) ?_
    refine xald_i hx hb hK hP 2 rfl (by omega) (by omega) d_Mo_hit_27 ?_
    refine xi (y := nI (sz (sn - 1))) rfl ?_
    refine xc_lt (tgt := 33) (a := k) (b := sz (sn - 1)) hx hb (by have := hsz (sn - 1) (by omega); omega) (by have := hsz (sn - 1) (by omega); omega) d_Mo_hit_28 (by decide) (fun c_28 => ?_) (fun c_28 => ?_)
    · refine lv_aload_n hx hb d_Mo_hit_33 rfl (lv_at hl 0 rfl) ?_
      refine xg hx hb hown htw hK hP 0 13 rfl k_Mo (by decide) fl_Mo_32 rfl d_Mo_hit_34 ?_
      refine lv_sipush (v := nI 520) hx hb d_Mo_hit_37 (by decide) ?_
      refine lv_aload_n hx hb d_Mo_hit_40 rfl (lv_at hl 0 rfl) ?_
      refine xg hx hb hown htw hK hP 0 12 rfl k_Mo (by decide) fl_Mo_73 rfl d_Mo_hit_41 ?_
      refine lv_iconst (v := nI 1) hx hb d_Mo_hit_44 (by decide) ?_
      refine lv_isub hx hb d_Mo_hit_45 ?_
      refine xi (nI_sub (a := sn) (b := 1) (by omega)) ?_
      refine lv_imul hx hb d_Mo_hit_46 ?_
      refine xi (nI_mul 520 (sn - 1)) ?_
      refine lv_iload_n hx hb d_Mo_hit_47 rfl (lv_at hl 1 rfl) ?_
      refine lv_iadd hx hb d_Mo_hit_48 ?_
      refine xi (nI_add (520 * (sn - 1)) k) ?_
      refine xald_i hx hb hK hP 1 rfl (by have := hsz (sn - 1) (by omega); omega) (by omega) d_Mo_hit_49 ?_
      refine xi (y := nI (rh ((520 * (sn - 1)) + k))) rfl ?_
      refine lv_istore_n (lv' := [(3, .int (nI (rh ((520 * (sn - 1)) + k)))), (0, .ref m0), (1, .int (nI k)), (2, .int y)]) hx hb d_Mo_hit_50 rfl hl (by decide) rfl (fun ls hl => ?_)
      refine lv_iload_n hx hb d_Mo_hit_51 rfl (lv_at hl 3 rfl) ?_
      refine lv_if_ne (tgt := 62) hx hb d_Mo_hit_52 (by decide) (fun c_52 => ?_) (fun c_52 => ?_)
      · refine lv_iload_n hx hb d_Mo_hit_62 rfl (lv_at hl 3 rfl) ?_
        refine lv_iconst (v := nI 1) hx hb d_Mo_hit_63 (by decide) ?_
        refine lv_icmp_ne (tgt := 76) hx hb d_Mo_hit_64 (by decide) (fun c_64 => ?_) (fun c_64 => ?_)
        · refine lv_iload_n hx hb d_Mo_hit_76 rfl (lv_at hl 3 rfl) ?_
          refine lv_iconst (v := nI 2) hx hb d_Mo_hit_77 (by decide) ?_
          refine lv_icmp_ne (tgt := 89) hx hb d_Mo_hit_78 (by decide) (fun c_78 => ?_) (fun c_78 => ?_)
          · refine lv_iconst (v := zI (-1)) hx hb d_Mo_hit_89 (by decide) ?_
            exact xr_iret hx hb hr hlocks hP hD hS (Nat.le_of_ble_eq_true rfl) (Nat.le_of_ble_eq_true rfl) (⟨rfl, by unfold hitW; first | rw [if_pos c_52] | rw [if_neg c_52, if_pos c_64] | rw [if_neg c_52, if_neg c_64, if_pos c_78] | rw [if_neg c_52, if_neg c_64, if_neg c_78]⟩) d_Mo_hit_90
          · refine lv_iload_n hx hb d_Mo_hit_81 rfl (lv_at hl 0 rfl) ?_
            refine lv_sipush (v := nI 4095) hx hb d_Mo_hit_82 (by decide) ?_
            refine lv_iand hx hb d_Mo_hit_85 ?_
            refine xi (y := nI (rh ((520 * (sn - 1)) + k) % 2 ^ 12)) (pk_andN (by have := hbd (sn - 1) k (by omega) (by omega); omega) 12 (by decide)) ?_
            refine lv_goto (tgt := 90) hx hb d_Mo_hit_86 (by decide) ?_
            exact xr_iret hx hb hr hlocks hP hD hS (Nat.le_of_ble_eq_true rfl) (Nat.le_of_ble_eq_true rfl) (⟨rfl, by unfold hitW; first | rw [if_pos c_52] | rw [if_neg c_52, if_pos c_64] | rw [if_neg c_52, if_neg c_64, if_pos c_78] | rw [if_neg c_52, if_neg c_64, if_neg c_78]⟩) d_Mo_hit_90
        · refine lv_iload_n hx hb d_Mo_hit_67 rfl (lv_at hl 0 rfl) ?_
          refine lv_bipush (v := nI 12) hx hb d_Mo_hit_68 (by decide) ?_
          refine lv_ishr hx hb d_Mo_hit_70 ?_
          refine xi (y := nI (rh ((520 * (sn - 1)) + k) / 2 ^ 12)) (pk_shrN (by have := hbd (sn - 1) k (by omega) (by omega); omega) _ 12 (by decide)) ?_
          refine lv_iconst (v := nI 3) hx hb d_Mo_hit_71 (by decide) ?_
          refine lv_iand hx hb d_Mo_hit_72 ?_
          refine xi (y := nI (rh ((520 * (sn - 1)) + k) / 2 ^ 12 % 2 ^ 2)) (pk_andN (by have := hbd (sn - 1) k (by omega) (by omega); omega) 2 (by decide)) ?_
          refine lv_goto (tgt := 90) hx hb d_Mo_hit_73 (by decide) ?_
          exact xr_iret hx hb hr hlocks hP hD hS (Nat.le_of_ble_eq_true rfl) (Nat.le_of_ble_eq_true rfl) (⟨rfl, by unfold hitW; first | rw [if_pos c_52] | rw [if_neg c_52, if_pos c_64] | rw [if_neg c_52, if_neg c_64, if_pos c_78] | rw [if_neg c_52, if_neg c_64, if_neg c_78]⟩) d_Mo_hit_90
      · refine lv_iload_n hx hb d_Mo_hit_55 rfl (lv_at hl 0 rfl) ?_
        refine lv_bipush (v := nI 14) hx hb d_Mo_hit_56 (by decide) ?_
        refine lv_ishr hx hb d_Mo_hit_58 ?_
        refine xi (y := nI (rh ((520 * (sn - 1)) + k) / 2 ^ 14)) (pk_shrN (by have := hbd (sn - 1) k (by omega) (by omega); omega) _ 14 (by decide)) ?_
        refine lv_goto (tgt := 90) hx hb d_Mo_hit_59 (by decide) ?_
        exact xr_iret hx hb hr hlocks hP hD hS (Nat.le_of_ble_eq_true rfl) (Nat.le_of_ble_eq_true rfl) (⟨rfl, by unfold hitW; first | rw [if_pos c_52] | rw [if_neg c_52, if_pos c_64] | rw [if_neg c_52, if_neg c_64, if_pos c_78] | rw [if_neg c_52, if_neg c_64, if_neg c_78]⟩) d_Mo_hit_90
    · omega

abbrev q_Mo_documents_no (K : Nat → ClassId) (m0 : Nat) (th : Nat) (T : Nat) (hd : Nat) (r1 : Nat) (r2 : Nat) (r3 : Nat) (r4 : Nat) (cm : Nat) (r5 : Nat) (r6 : Nat) (sg : Nat) (r7 : Nat) (sn : Nat) (r8 : Nat) (r9 : Nat) : Int32 → va_W → Prop := fun r u => u = [(m0, .inr (8, [.int (nI 0), .int (nI T), .int (nI hd), .ref r1, .ref r2, .ref r3, .ref r4, .int (nI cm), .ref r5, .ref r6, .int (nI sg), .ref r7, .int (nI sn), .ref r8, .ref r9]))] ∧ r = nI 0
set_option maxHeartbeats 4000000 in
set_option maxRecDepth 100000 in
theorem c_Mo_documents_no (l : Launch) (D : va_G) (K : Nat → ClassId) (m0 : Nat) (th : Nat) (T : Nat) (hd : Nat) (r1 : Nat) (r2 : Nat) (r3 : Nat) (r4 : Nat) (cm : Nat) (r5 : Nat) (r6 : Nat) (sg : Nat) (r7 : Nat) (sn : Nat) (r8 : Nat) (r9 : Nat) (hsn : sn = 0) (hcm : cm ≤ 600) : CI l y_Mo_documents b_Mo_documents 3 .int ({ frames := 0, cells := 0, slots := 0, locals := 0 } : Room) D K [.ref m0] [(m0, .inr (8, [.int (nI th), .int (nI T), .int (nI hd), .ref r1, .ref r2, .ref r3, .ref r4, .int (nI cm), .ref r5, .ref r6, .int (nI sg), .ref r7, .int (nI sn), .ref r8, .ref r9]))] (q_Mo_documents_no K m0 th T hd r1 r2 r3 r4 cm r5 r6 sg r7 sn r8 r9) := by
  refine CI_of (by decide) (Nat.le_of_ble_eq_true rfl) ?_
  intro p e s m below meth c A b0 ls hF hA hP hD hl
  have hF2 := hF
  obtain ⟨hx, hb, hr, hml, hown, htw, hK, hlocks, hname⟩ := hF
  have hS : va_S A s.heap s.heap [] := va_S.rf
  have hl : lv_has ls 3 [(0, .ref m0)] := hl
  refine lv_aload_n hx hb d_Mo_documents_0 rfl (lv_at hl 0 rfl) ?_
  refine lv_iconst (v := nI 0) hx hb d_Mo_documents_1 (by decide) ?_
  refine xpt hx hb hown htw hK hP hD hS 0 0 rfl k_Mo (by decide) fl_Mo_38 rfl rfl rfl (Nat.le_of_ble_eq_true rfl) d_Mo_documents_2 (fun H locs hP hD hS => ?_)
  have hP : va_P D classes [(m0, .inr (8, [.int (nI 0), .int (nI T), .int (nI hd), .ref r1, .ref r2, .ref r3, .ref r4, .int (nI cm), .ref r5, .ref r6, .int (nI sg), .ref r7, .int (nI sn), .ref r8, .ref r9]))] H := hP
  have hD : va_D A [(m0, .inr (8, [.int (nI 0), .int (nI T), .int (nI hd), .ref r1, .ref r2, .ref r3, .ref r4, .int (nI cm), .ref r5, .ref r6, .int (nI sg), .ref r7, .int (nI sn), .ref r8, .ref r9]))] := hD
  refine lv_iconst (v := nI 0) hx hb d_Mo_documents_5 (by decide) ?_
  refine lv_istore_n (lv' := [(1, .int (nI 0)), (0, .ref m0)]) hx hb d_Mo_documents_6 rfl hl (by decide) rfl (fun ls hl => ?_)
  refine lv_iconst (v := nI 0) hx hb d_Mo_documents_7 (by decide) ?_
  refine lv_istore_n (lv' := [(2, .int (nI 0)), (1, .int (nI 0)), (0, .ref m0)]) hx hb d_Mo_documents_8 rfl hl (by decide) rfl (fun ls hl => ?_)
  refine lv_iload_n hx hb d_Mo_documents_9 rfl (lv_at hl 0 rfl) ?_
  refine lv_aload_n hx hb d_Mo_documents_10 rfl (lv_at hl 2 rfl) ?_
  refine xg hx hb hown htw hK hP 0 7 rfl k_Mo (by decide) fl_Mo_48 rfl d_Mo_documents_11 ?_
  refine xc_ge (tgt := 47) (a := 0) (b := cm) hx hb (by omega) (by omega) d_Mo_documents_14 (by decide) (fun c_14 => ?_) (fun c_14 => ?_)
  · refine lv_iload_n hx hb d_Mo_documents_47 rfl (lv_at hl 1 rfl) ?_
    exact xr_iret hx hb hr hlocks hP hD hS (Nat.le_of_ble_eq_true rfl) (Nat.le_of_ble_eq_true rfl) (⟨rfl, rfl⟩) d_Mo_documents_48
  · refine lv_aload_n hx hb d_Mo_documents_17 rfl (lv_at hl 2 rfl) ?_
    refine xg hx hb hown htw hK hP 0 12 rfl k_Mo (by decide) fl_Mo_73 rfl d_Mo_documents_18 ?_
    refine xz_le (tgt := 47) (a := sn) hx hb (by omega) d_Mo_documents_21 (by decide) (fun c_21 => ?_) (fun c_21 => ?_)
    · refine lv_iload_n hx hb d_Mo_documents_47 rfl (lv_at hl 1 rfl) ?_
      exact xr_iret hx hb hr hlocks hP hD hS (Nat.le_of_ble_eq_true rfl) (Nat.le_of_ble_eq_true rfl) (⟨rfl, rfl⟩) d_Mo_documents_48
    · omega

abbrev q_Mo_documents_ok (K : Nat → ClassId) (m0 : Nat) (th : Nat) (T : Nat) (hd : Nat) (r1 : Nat) (r2 : Nat) (r3 : Nat) (r4 : Nat) (cm : Nat) (r5 : Nat) (r6 : Nat) (sg : Nat) (r7 : Nat) (sn : Nat) (r8 : Nat) (r9 : Nat) (rh : Nat → Nat) (sz : Nat → Nat) : Int32 → va_W → Prop := fun r u => u = [(m0, .inr (8, [.int (nI 0), .int (nI T), .int (nI hd), .ref r1, .ref r2, .ref r3, .ref r4, .int (nI cm), .ref r5, .ref r6, .int (nI sg), .ref r7, .int (nI sn), .ref r8, .ref r9])), (r8, .inl (K 0, 4680, .inl (nA rh))), (r9, .inl (K 0, 9, .inl (nA sz)))] ∧ r = nI (cnP (fun d9 => 0 < rcnt rh sz (sn - 1) d9) cm)
set_option maxHeartbeats 4000000 in
set_option maxRecDepth 100000 in
theorem lp_Mo_documents_ok_9 {p : Program} {l : Launch} {e : Env} {s : State} {m : MethodId} {below : List Frame} {meth : Method} {c : Code} {A : Nat → Prop} {D : va_G} {K : Nat → ClassId} (m0 : Nat) (th : Nat) (T : Nat) (hd : Nat) (r1 : Nat) (r2 : Nat) (r3 : Nat) (r4 : Nat) (cm : Nat) (r5 : Nat) (r6 : Nat) (sg : Nat) (r7 : Nat) (sn : Nat) (r8 : Nat) (r9 : Nat) (rh : Nat → Nat) (sz : Nat → Nat) (hsn2 : sn ≤ 8) (hcm : cm ≤ 600) (hsz : ∀ q, q < sn → sz q ≤ 520) (hbd : ∀ q k, q < sn → k < sz q → rh (520 * q + k) < 2 ^ 24) (hsn : 0 < sn) (hF : Fx p s m meth c y_Mo_documents b_Mo_documents 3 (some .int) D K) {b0 : Nat} (hA : AS K s A b0) : ∀ fuel : Nat, ∀ d : Nat, (d ≤ cm) → cm - d < fuel → ∀ (H : Heap) (locs : List Loc), va_P D classes [(m0, .inr (8, [.int (nI 0), .int (nI T), .int (nI hd), .ref r1, .ref r2, .ref r3, .ref r4, .int (nI cm), .ref r5, .ref r6, .int (nI sg), .ref r7, .int (nI sn), .ref r8, .ref r9])), (r8, .inl (K 0, 4680, .inl (nA rh))), (r9, .inl (K 0, 9, .inl (nA sz)))] H → va_D A [(m0, .inr (8, [.int (nI 0), .int (nI T), .int (nI hd), .ref r1, .ref r2, .ref r3, .ref r4, .int (nI cm), .ref r5, .ref r6, .int (nI sg), .ref r7, .int (nI sn), .ref r8, .ref r9])), (r8, .inl (K 0, 4680, .inl (nA rh))), (r9, .inl (K 0, 9, .inl (nA sz)))] → va_S A s.heap H locs → ∀ ls : Array Slot, lv_has ls 3 [(0, .ref m0), (1, .int (nI (cnP (fun d9 => 0 < rcnt rh sz (sn - 1) d9) d))), (2, .int (nI d))] → W p l e ({ frames := 1, cells := 0, slots := 0, locals := 24 } : Room) s m ([.ref m0] : List Value).toArray below meth c H locs 0 0 (MQ below (va_Qi (q_Mo_documents_ok K m0 th T hd r1 r2 r3 r4 cm r5 r6 sg r7 sn r8 r9 rh sz) (fun u t => va_P D classes u t.heap ∧ va_D A u) A) ([.ref m0] : List Value).toArray s 0 0 A) (F0 m 9 ls []) := by
  have hF2 := hF
  obtain ⟨hx, hb, hr, hml, hown, htw, hK, hlocks, hname⟩ := hF
  intro fuel
  induction fuel with
  | zero => intros; omega
  | succ fuel ih =>
    have jn_41 : ∀ d : Nat, ∀ cc2 : Nat, (d < cm) → (cm - d < fuel + 1) → (cc2 = cnP (fun d9 => 0 < rcnt rh sz (sn - 1) d9) (d + 1)) → ∀ (H : Heap) (locs : List Loc), va_P D classes [(m0, .inr (8, [.int (nI 0), .int (nI T), .int (nI hd), .ref r1, .ref r2, .ref r3, .ref r4, .int (nI cm), .ref r5, .ref r6, .int (nI sg), .ref r7, .int (nI sn), .ref r8, .ref r9])), (r8, .inl (K 0, 4680, .inl (nA rh))), (r9, .inl (K 0, 9, .inl (nA sz)))] H → va_D A [(m0, .inr (8, [.int (nI 0), .int (nI T), .int (nI hd), .ref r1, .ref r2, .ref r3, .ref r4, .int (nI cm), .ref r5, .ref r6, .int (nI sg), .ref r7, .int (nI sn), .ref r8, .ref r9])), (r8, .inl (K 0, 4680, .inl (nA rh))), (r9, .inl (K 0, 9, .inl (nA sz)))] → va_S A s.heap H locs → ∀ ls : Array Slot, lv_has ls 3 [(0, .ref m0), (1, .int (nI cc2)), (2, .int (nI d))] → W p l e ({ frames := 1, cells := 0, slots := 0, locals := 24 } : Room) s m ([.ref m0] : List Value).toArray below meth c H locs 0 0 (MQ below (va_Qi (q_Mo_documents_ok K m0 th T hd r1 r2 r3 r4 cm r5 r6 sg r7 sn r8 r9 rh sz) (fun u t => va_P D classes u t.heap ∧ va_D A u) A) ([.ref m0] : List Value).toArray s 0 0 A) (F0 m 41 ls []) := by
      intro d cc2 hd1 hfu hcc H locs hP hD hS ls hl
      subst hcc
      refine lv_iinc (v := nI (d + 1)) (lv' := [(2, .int (nI (d + 1))), (0, .ref m0), (1, .int (nI (cnP (fun d9 => 0 < rcnt rh sz (sn - 1) d9) (d + 1))))]) hx hb d_Mo_documents_41 hl (k := 2) rfl (inc_nI _ _) (by decide) rfl (fun ls hl => ?_)
      refine lv_goto (tgt := 9) hx hb d_Mo_documents_44 (by decide) ?_
      exact ih (d + 1) (by first | assumption | omega) (by omega) _ _ hP hD hS _ (lv_sub hl [1, 2, 0] rfl)
    intro d hd1 hfu H locs hP hD hS ls hl
    refine lv_iload_n hx hb d_Mo_documents_9 rfl (lv_at hl 2 rfl) ?_
    refine lv_aload_n hx hb d_Mo_documents_10 rfl (lv_at hl 0 rfl) ?_
    refine xg hx hb hown htw hK hP 0 7 rfl k_Mo (by decide) fl_Mo_48 rfl d_Mo_documents_11 ?_
    refine xc_ge (tgt := 47) (a := d) (b := cm) hx hb (by omega) (by omega) d_Mo_documents_14 (by decide) (fun c_14 => ?_) (fun c_14 => ?_)
    · have hk2 : cm = d := by omega
      subst hk2
      refine lv_iload_n hx hb d_Mo_documents_47 rfl (lv_at hl 1 rfl) ?_
      exact xr_iret hx hb hr hlocks hP hD hS (Nat.le_of_ble_eq_true rfl) (Nat.le_of_ble_eq_true rfl) (⟨rfl, rfl⟩) d_Mo_documents_48
    · refine lv_aload_n hx hb d_Mo_documents_17 rfl (lv_at hl 0 rfl) ?_
      refine xg hx hb hown htw hK hP 0 12 rfl k_Mo (by decide) fl_Mo_73 rfl d_Mo_documents_18 ?_
      refine xz_le (tgt := 47) (a := sn) hx hb (by omega) d_Mo_documents_21 (by decide) (fun c_21 => ?_) (fun c_21 => ?_)
      · omega
      · refine lv_aload_n hx hb d_Mo_documents_24 rfl (lv_at hl 0 rfl) ?_
        refine lv_aload_n hx hb d_Mo_documents_25 rfl (lv_at hl 0 rfl) ?_
        refine xg hx hb hown htw hK hP 0 12 rfl k_Mo (by decide) fl_Mo_73 rfl d_Mo_documents_26 ?_
        refine lv_iconst (v := nI 1) hx hb d_Mo_documents_29 (by decide) ?_
        refine lv_isub hx hb d_Mo_documents_30 ?_
        refine xi (nI_sub (a := sn) (b := 1) (by omega)) ?_
        refine lv_iload_n hx hb d_Mo_documents_31 rfl (lv_at hl 2 rfl) ?_
        refine xcV_i (As := [.int (nI (sn - 1)), .int (nI d)]) (rest := []) (wr := []) hx hb hml hown htw hK hA hl.1 hP hD hS (c_Mo_many l D K m0 0 T hd r1 r2 r3 r4 cm r5 r6 sg r7 sn r8 r9 rh sz (sn - 1) d (by omega) (by exact hsz _ (by omega)) (by exact fun i hi => hbd _ i (by omega) hi) (by first | assumption | omega)) [0, 1, 2] [] rfl rfl (by decide) (by decide) (by decide) 0 rfl k_Mo ml_Mo_102 w_Mo_many rfl ⟨by decide, by decide⟩ rfl (Nat.le_of_ble_eq_true rfl) ⟨by decide, by decide⟩ d_Mo_documents_32 (fun r u H locs hpost hP hD hS => ?_)
        obtain ⟨rfl, rfl⟩ := hpost
        have hP : va_P D classes [(m0, .inr (8, [.int (nI 0), .int (nI T), .int (nI hd), .ref r1, .ref r2, .ref r3, .ref r4, .int (nI cm), .ref r5, .ref r6, .int (nI sg), .ref r7, .int (nI sn), .ref r8, .ref r9])), (r8, .inl (K 0, 4680, .inl (nA rh))), (r9, .inl (K 0, 9, .inl (nA sz)))] H := hP
        have hD : va_D A [(m0, .inr (8, [.int (nI 0), .int (nI T), .int (nI hd), .ref r1, .ref r2, .ref r3, .ref r4, .int (nI cm), .ref r5, .ref r6, .int (nI sg), .ref r7, .int (nI sn), .ref r8, .ref r9])), (r8, .inl (K 0, 4680, .inl (nA rh))), (r9, .inl (K 0, 9, .inl (nA sz)))] := hD
        refine xi (y := nI (rcnt rh sz (sn - 1) d)) (rfl) ?_
        refine xz_le (tgt := 41) (a := rcnt rh sz (sn - 1) d) hx hb (by have := hsz (sn - 1) (by omega); have := rcnt_le (rh := rh) (d := d) this; omega) d_Mo_documents_35 (by decide) (fun c_35 => ?_) (fun c_35 => ?_)
        · exact jn_41 d (cnP (fun d9 => 0 < rcnt rh sz (sn - 1) d9) d) (by first | assumption | omega) (by first | assumption | omega) (by exact (cnP_n (P := (fun d9 => 0 < rcnt rh sz (sn - 1) d9)) (n := d) (by omega)).symm) _ _ hP hD hS _ (lv_sub hl [0, 1, 2] rfl)
        · refine lv_iinc (v := nI ((cnP (fun d9 => 0 < rcnt rh sz (sn - 1) d9) d) + 1)) (lv' := [(1, .int (nI ((cnP (fun d9 => 0 < rcnt rh sz (sn - 1) d9) d) + 1))), (0, .ref m0), (2, .int (nI d))]) hx hb d_Mo_documents_38 hl (k := 1) rfl (inc_nI _ _) (by decide) rfl (fun ls hl => ?_)
          exact jn_41 d ((cnP (fun d9 => 0 < rcnt rh sz (sn - 1) d9) d) + 1) (by first | assumption | omega) (by first | assumption | omega) (by exact (cnP_y (P := (fun d9 => 0 < rcnt rh sz (sn - 1) d9)) (n := d) c_35).symm) _ _ hP hD hS _ (lv_sub hl [1, 0, 2] rfl)
set_option maxHeartbeats 4000000 in
set_option maxRecDepth 100000 in
theorem c_Mo_documents_ok (l : Launch) (D : va_G) (K : Nat → ClassId) (m0 : Nat) (th : Nat) (T : Nat) (hd : Nat) (r1 : Nat) (r2 : Nat) (r3 : Nat) (r4 : Nat) (cm : Nat) (r5 : Nat) (r6 : Nat) (sg : Nat) (r7 : Nat) (sn : Nat) (r8 : Nat) (r9 : Nat) (rh : Nat → Nat) (sz : Nat → Nat) (hsn2 : sn ≤ 8) (hcm : cm ≤ 600) (hsz : ∀ q, q < sn → sz q ≤ 520) (hbd : ∀ q k, q < sn → k < sz q → rh (520 * q + k) < 2 ^ 24) (hsn : 0 < sn) : CI l y_Mo_documents b_Mo_documents 3 .int ({ frames := 1, cells := 0, slots := 0, locals := 24 } : Room) D K [.ref m0] [(m0, .inr (8, [.int (nI th), .int (nI T), .int (nI hd), .ref r1, .ref r2, .ref r3, .ref r4, .int (nI cm), .ref r5, .ref r6, .int (nI sg), .ref r7, .int (nI sn), .ref r8, .ref r9])), (r8, .inl (K 0, 4680, .inl (nA rh))), (r9, .inl (K 0, 9, .inl (nA sz)))] (q_Mo_documents_ok K m0 th T hd r1 r2 r3 r4 cm r5 r6 sg r7 sn r8 r9 rh sz) := by
  refine CI_of (by decide) (Nat.le_of_ble_eq_true rfl) ?_
  intro p e s m below meth c A b0 ls hF hA hP hD hl
  have hF2 := hF
  obtain ⟨hx, hb, hr, hml, hown, htw, hK, hlocks, hname⟩ := hF
  have hS : va_S A s.heap s.heap [] := va_S.rf
  have hl : lv_has ls 3 [(0, .ref m0)] := hl
  refine lv_aload_n hx hb d_Mo_documents_0 rfl (lv_at hl 0 rfl) ?_
  refine lv_iconst (v := nI 0) hx hb d_Mo_documents_1 (by decide) ?_
  refine xpt hx hb hown htw hK hP hD hS 0 0 rfl k_Mo (by decide) fl_Mo_38 rfl rfl rfl (Nat.le_of_ble_eq_true rfl) d_Mo_documents_2 (fun H locs hP hD hS => ?_)
  have hP : va_P D classes [(m0, .inr (8, [.int (nI 0), .int (nI T), .int (nI hd), .ref r1, .ref r2, .ref r3, .ref r4, .int (nI cm), .ref r5, .ref r6, .int (nI sg), .ref r7, .int (nI sn), .ref r8, .ref r9])), (r8, .inl (K 0, 4680, .inl (nA rh))), (r9, .inl (K 0, 9, .inl (nA sz)))] H := hP
  have hD : va_D A [(m0, .inr (8, [.int (nI 0), .int (nI T), .int (nI hd), .ref r1, .ref r2, .ref r3, .ref r4, .int (nI cm), .ref r5, .ref r6, .int (nI sg), .ref r7, .int (nI sn), .ref r8, .ref r9])), (r8, .inl (K 0, 4680, .inl (nA rh))), (r9, .inl (K 0, 9, .inl (nA sz)))] := hD
  refine lv_iconst (v := nI 0) hx hb d_Mo_documents_5 (by decide) ?_
  refine lv_istore_n (lv' := [(1, .int (nI 0)), (0, .ref m0)]) hx hb d_Mo_documents_6 rfl hl (by decide) rfl (fun ls hl => ?_)
  rw [show nI 0 = nI (cnP (fun d9 => 0 < rcnt rh sz (sn - 1) d9) 0) from rfl] at hl
  refine lv_iconst (v := nI 0) hx hb d_Mo_documents_7 (by decide) ?_
  refine lv_istore_n (lv' := [(2, .int (nI 0)), (1, .int (nI (cnP (fun d9 => 0 < rcnt rh sz (sn - 1) d9) 0))), (0, .ref m0)]) hx hb d_Mo_documents_8 rfl hl (by decide) rfl (fun ls hl => ?_)
  exact lp_Mo_documents_ok_9 (l := l) m0 th T hd r1 r2 r3 r4 cm r5 r6 sg r7 sn r8 r9 rh sz hsn2 hcm hsz hbd hsn hF2 hA _ 0 (by first | assumption | omega) (Nat.lt_succ_self _) _ _ hP hD hS _ (lv_sub hl [2, 1, 0] rfl)

abbrev q_Mo_ahead (K : Nat → ClassId) (m0 : Nat) (th : Nat) (T : Nat) (hd : Nat) (r1 : Nat) (r2 : Nat) (r3 : Nat) (r4 : Nat) (cm : Nat) (r5 : Nat) (r6 : Nat) (sg : Nat) (r7 : Nat) (sn : Nat) (r8 : Nat) (r9 : Nat) (rh : Nat → Nat) (sz : Nat → Nat) (q : Nat) (d : Nat) : Int32 → va_W → Prop := fun r u => u = [(m0, .inr (8, [.int (nI th), .int (nI T), .int (nI hd), .ref r1, .ref r2, .ref r3, .ref r4, .int (nI cm), .ref r5, .ref r6, .int (nI sg), .ref r7, .int (nI sn), .ref r8, .ref r9])), (r8, .inl (K 0, 4680, .inl (nA rh))), (r9, .inl (K 0, 9, .inl (nA sz)))] ∧ r = nI (rahead rh sz q cm d)
set_option maxHeartbeats 4000000 in
set_option maxRecDepth 100000 in
theorem lp_Mo_ahead_13 {p : Program} {l : Launch} {e : Env} {s : State} {m : MethodId} {below : List Frame} {meth : Method} {c : Code} {A : Nat → Prop} {D : va_G} {K : Nat → ClassId} (m0 : Nat) (th : Nat) (T : Nat) (hd : Nat) (r1 : Nat) (r2 : Nat) (r3 : Nat) (r4 : Nat) (cm : Nat) (r5 : Nat) (r6 : Nat) (sg : Nat) (r7 : Nat) (sn : Nat) (r8 : Nat) (r9 : Nat) (rh : Nat → Nat) (sz : Nat → Nat) (q : Nat) (d : Nat) (hcm : cm ≤ 600) (hq : q ≤ 8) (hz : sz q ≤ 520) (hbd : ∀ k, k < sz q → rh (520 * q + k) < 2 ^ 24) (hdd : d < 2 ^ 31) (hF : Fx p s m meth c y_Mo_ahead b_Mo_ahead 7 (some .int) D K) {b0 : Nat} (hA : AS K s A b0) : ∀ fuel : Nat, ∀ i : Nat, (i ≤ cm) → cm - i < fuel → ∀ (H : Heap) (locs : List Loc), va_P D classes [(m0, .inr (8, [.int (nI th), .int (nI T), .int (nI hd), .ref r1, .ref r2, .ref r3, .ref r4, .int (nI cm), .ref r5, .ref r6, .int (nI sg), .ref r7, .int (nI sn), .ref r8, .ref r9])), (r8, .inl (K 0, 4680, .inl (nA rh))), (r9, .inl (K 0, 9, .inl (nA sz)))] H → va_D A [(m0, .inr (8, [.int (nI th), .int (nI T), .int (nI hd), .ref r1, .ref r2, .ref r3, .ref r4, .int (nI cm), .ref r5, .ref r6, .int (nI sg), .ref r7, .int (nI sn), .ref r8, .ref r9])), (r8, .inl (K 0, 4680, .inl (nA rh))), (r9, .inl (K 0, 9, .inl (nA sz)))] → va_S A s.heap H locs → ∀ ls : Array Slot, lv_has ls 7 [(0, .ref m0), (1, .int (nI q)), (2, .int (nI d)), (3, .int (nI (rcnt rh sz q d))), (4, .int (nI (rahead rh sz q i d))), (5, .int (nI i))] → W p l e ({ frames := 1, cells := 0, slots := 0, locals := 24 } : Room) s m ([.ref m0, .int (nI q), .int (nI d)] : List Value).toArray below meth c H locs 0 0 (MQ below (va_Qi (q_Mo_ahead K m0 th T hd r1 r2 r3 r4 cm r5 r6 sg r7 sn r8 r9 rh sz q d) (fun u t => va_P D classes u t.heap ∧ va_D A u) A) ([.ref m0, .int (nI q), .int (nI d)] : List Value).toArray s 0 0 A) (F0 m 13 ls []) := by
  have hF2 := hF
  obtain ⟨hx, hb, hr, hml, hown, htw, hK, hlocks, hname⟩ := hF
  intro fuel
  induction fuel with
  | zero => intros; omega
  | succ fuel ih =>
    have jn_52 : ∀ i : Nat, ∀ cc2 : Nat, (i < cm) → (cm - i < fuel + 1) → (cc2 = rahead rh sz q (i + 1) d) → ∀ (H : Heap) (locs : List Loc), va_P D classes [(m0, .inr (8, [.int (nI th), .int (nI T), .int (nI hd), .ref r1, .ref r2, .ref r3, .ref r4, .int (nI cm), .ref r5, .ref r6, .int (nI sg), .ref r7, .int (nI sn), .ref r8, .ref r9])), (r8, .inl (K 0, 4680, .inl (nA rh))), (r9, .inl (K 0, 9, .inl (nA sz)))] H → va_D A [(m0, .inr (8, [.int (nI th), .int (nI T), .int (nI hd), .ref r1, .ref r2, .ref r3, .ref r4, .int (nI cm), .ref r5, .ref r6, .int (nI sg), .ref r7, .int (nI sn), .ref r8, .ref r9])), (r8, .inl (K 0, 4680, .inl (nA rh))), (r9, .inl (K 0, 9, .inl (nA sz)))] → va_S A s.heap H locs → ∀ ls : Array Slot, lv_has ls 7 [(0, .ref m0), (1, .int (nI q)), (2, .int (nI d)), (3, .int (nI (rcnt rh sz q d))), (4, .int (nI cc2)), (5, .int (nI i))] → W p l e ({ frames := 1, cells := 0, slots := 0, locals := 24 } : Room) s m ([.ref m0, .int (nI q), .int (nI d)] : List Value).toArray below meth c H locs 0 0 (MQ below (va_Qi (q_Mo_ahead K m0 th T hd r1 r2 r3 r4 cm r5 r6 sg r7 sn r8 r9 rh sz q d) (fun u t => va_P D classes u t.heap ∧ va_D A u) A) ([.ref m0, .int (nI q), .int (nI d)] : List Value).toArray s 0 0 A) (F0 m 52 ls []) := by
      intro i cc2 hi1 hfu hcc H locs hP hD hS ls hl
      subst hcc
      refine lv_iinc (v := nI (i + 1)) (lv' := [(5, .int (nI (i + 1))), (0, .ref m0), (1, .int (nI q)), (2, .int (nI d)), (3, .int (nI (rcnt rh sz q d))), (4, .int (nI (rahead rh sz q (i + 1) d)))]) hx hb d_Mo_ahead_52 hl (k := 5) rfl (inc_nI _ _) (by decide) rfl (fun ls hl => ?_)
      refine lv_goto (tgt := 13) hx hb d_Mo_ahead_55 (by decide) ?_
      exact ih (i + 1) (by first | assumption | omega) (by omega) _ _ hP hD hS _ (lv_sub hl [1, 2, 3, 4, 5, 0] rfl)
    have jn_49 : ∀ i : Nat, (i < cm) → (cm - i < fuel + 1) → (rcnt rh sz q d < rcnt rh sz q i ∨ (rcnt rh sz q i = rcnt rh sz q d ∧ i < d)) → ∀ (H : Heap) (locs : List Loc), va_P D classes [(m0, .inr (8, [.int (nI th), .int (nI T), .int (nI hd), .ref r1, .ref r2, .ref r3, .ref r4, .int (nI cm), .ref r5, .ref r6, .int (nI sg), .ref r7, .int (nI sn), .ref r8, .ref r9])), (r8, .inl (K 0, 4680, .inl (nA rh))), (r9, .inl (K 0, 9, .inl (nA sz)))] H → va_D A [(m0, .inr (8, [.int (nI th), .int (nI T), .int (nI hd), .ref r1, .ref r2, .ref r3, .ref r4, .int (nI cm), .ref r5, .ref r6, .int (nI sg), .ref r7, .int (nI sn), .ref r8, .ref r9])), (r8, .inl (K 0, 4680, .inl (nA rh))), (r9, .inl (K 0, 9, .inl (nA sz)))] → va_S A s.heap H locs → ∀ ls : Array Slot, lv_has ls 7 [(0, .ref m0), (1, .int (nI q)), (2, .int (nI d)), (3, .int (nI (rcnt rh sz q d))), (4, .int (nI (rahead rh sz q i d))), (5, .int (nI i))] → W p l e ({ frames := 1, cells := 0, slots := 0, locals := 24 } : Room) s m ([.ref m0, .int (nI q), .int (nI d)] : List Value).toArray below meth c H locs 0 0 (MQ below (va_Qi (q_Mo_ahead K m0 th T hd r1 r2 r3 r4 cm r5 r6 sg r7 sn r8 r9 rh sz q d) (fun u t => va_P D classes u t.heap ∧ va_D A u) A) ([.ref m0, .int (nI q), .int (nI d)] : List Value).toArray s 0 0 A) (F0 m 49 ls []) := by
      intro i hi1 hfu hy H locs hP hD hS ls hl
      refine lv_iinc (v := nI ((rahead rh sz q i d) + 1)) (lv' := [(4, .int (nI ((rahead rh sz q i d) + 1))), (0, .ref m0), (1, .int (nI q)), (2, .int (nI d)), (3, .int (nI (rcnt rh sz q d))), (5, .int (nI i))]) hx hb d_Mo_ahead_49 hl (k := 4) rfl (inc_nI _ _) (by decide) rfl (fun ls hl => ?_)
      exact jn_52 i ((rahead rh sz q i d) + 1) (by first | assumption | omega) (by first | assumption | omega) (by exact (cnP_y (P := (fun e9 => rcnt rh sz q d < rcnt rh sz q e9 ∨ (rcnt rh sz q e9 = rcnt rh sz q d ∧ e9 < d))) (n := i) hy).symm) _ _ hP hD hS _ (lv_sub hl [1, 2, 3, 4, 0, 5] rfl)
    intro i hi1 hfu H locs hP hD hS ls hl
    refine lv_iload hx hb d_Mo_ahead_13 (lv_at hl 5 rfl) ?_
    refine lv_aload_n hx hb d_Mo_ahead_15 rfl (lv_at hl 0 rfl) ?_
    refine xg hx hb hown htw hK hP 0 7 rfl k_Mo (by decide) fl_Mo_48 rfl d_Mo_ahead_16 ?_
    refine xc_ge (tgt := 58) (a := i) (b := cm) hx hb (by omega) (by omega) d_Mo_ahead_19 (by decide) (fun c_19 => ?_) (fun c_19 => ?_)
    · have hk2 : cm = i := by omega
      subst hk2
      refine lv_iload hx hb d_Mo_ahead_58 (lv_at hl 4 rfl) ?_
      exact xr_iret hx hb hr hlocks hP hD hS (Nat.le_of_ble_eq_true rfl) (Nat.le_of_ble_eq_true rfl) (⟨rfl, rfl⟩) d_Mo_ahead_60
    · refine lv_aload_n hx hb d_Mo_ahead_22 rfl (lv_at hl 0 rfl) ?_
      refine lv_iload_n hx hb d_Mo_ahead_23 rfl (lv_at hl 1 rfl) ?_
      refine lv_iload hx hb d_Mo_ahead_24 (lv_at hl 5 rfl) ?_
      refine xcV_i (As := [.int (nI q), .int (nI i)]) (rest := []) (wr := []) hx hb hml hown htw hK hA hl.1 hP hD hS (c_Mo_many l D K m0 th T hd r1 r2 r3 r4 cm r5 r6 sg r7 sn r8 r9 rh sz q i (by first | assumption | omega) (by first | assumption | omega) (by first | assumption | omega) (by first | assumption | omega)) [0, 1, 2] [] rfl rfl (by decide) (by decide) (by decide) 0 rfl k_Mo ml_Mo_102 w_Mo_many rfl ⟨by decide, by decide⟩ rfl (Nat.le_of_ble_eq_true rfl) ⟨by decide, by decide⟩ d_Mo_ahead_26 (fun r u H locs hpost hP hD hS => ?_)
      obtain ⟨rfl, rfl⟩ := hpost
      have hP : va_P D classes [(m0, .inr (8, [.int (nI th), .int (nI T), .int (nI hd), .ref r1, .ref r2, .ref r3, .ref r4, .int (nI cm), .ref r5, .ref r6, .int (nI sg), .ref r7, .int (nI sn), .ref r8, .ref r9])), (r8, .inl (K 0, 4680, .inl (nA rh))), (r9, .inl (K 0, 9, .inl (nA sz)))] H := hP
      have hD : va_D A [(m0, .inr (8, [.int (nI th), .int (nI T), .int (nI hd), .ref r1, .ref r2, .ref r3, .ref r4, .int (nI cm), .ref r5, .ref r6, .int (nI sg), .ref r7, .int (nI sn), .ref r8, .ref r9])), (r8, .inl (K 0, 4680, .inl (nA rh))), (r9, .inl (K 0, 9, .inl (nA sz)))] := hD
      refine xi (y := nI (rcnt rh sz q i)) (rfl) ?_
      refine lv_istore (lv' := [(6, .int (nI (rcnt rh sz q i))), (0, .ref m0), (1, .int (nI q)), (2, .int (nI d)), (3, .int (nI (rcnt rh sz q d))), (4, .int (nI (rahead rh sz q i d))), (5, .int (nI i))]) hx hb d_Mo_ahead_29 hl (by decide) rfl (fun ls hl => ?_)
      refine lv_iload hx hb d_Mo_ahead_31 (lv_at hl 0 rfl) ?_
      refine lv_iload_n hx hb d_Mo_ahead_33 rfl (lv_at hl 4 rfl) ?_
      refine xc_gt (tgt := 49) (a := rcnt rh sz q i) (b := rcnt rh sz q d) hx hb (by have := rcnt_le (rh := rh) (d := i) hz; omega) (by have := rcnt_le (rh := rh) (d := d) hz; omega) d_Mo_ahead_34 (by decide) (fun c_34 => ?_) (fun c_34 => ?_)
      · exact jn_49 i (by first | assumption | omega) (by first | assumption | omega) (by exact Or.inl c_34) _ _ hP hD hS _ (lv_sub hl [1, 2, 3, 4, 5, 6] rfl)
      · refine lv_iload hx hb d_Mo_ahead_37 (lv_at hl 0 rfl) ?_
        refine lv_iload_n hx hb d_Mo_ahead_39 rfl (lv_at hl 4 rfl) ?_
        refine xc_ne (tgt := 52) (a := rcnt rh sz q i) (b := rcnt rh sz q d) hx hb (by have := rcnt_le (rh := rh) (d := i) hz; omega) (by have := rcnt_le (rh := rh) (d := d) hz; omega) d_Mo_ahead_40 (by decide) (fun c_40 => ?_) (fun c_40 => ?_)
        · exact jn_52 i (rahead rh sz q i d) (by first | assumption | omega) (by first | assumption | omega) (by exact (cnP_n (P := (fun e9 => rcnt rh sz q d < rcnt rh sz q e9 ∨ (rcnt rh sz q e9 = rcnt rh sz q d ∧ e9 < d))) (n := i) (fun w => by omega)).symm) _ _ hP hD hS _ (lv_sub hl [1, 2, 3, 4, 5, 6] rfl)
        · refine lv_iload hx hb d_Mo_ahead_43 (lv_at hl 6 rfl) ?_
          refine lv_iload_n hx hb d_Mo_ahead_45 rfl (lv_at hl 3 rfl) ?_
          refine xc_ge (tgt := 52) (a := i) (b := d) hx hb (by omega) (by omega) d_Mo_ahead_46 (by decide) (fun c_46 => ?_) (fun c_46 => ?_)
          · exact jn_52 i (rahead rh sz q i d) (by first | assumption | omega) (by first | assumption | omega) (by exact (cnP_n (P := (fun e9 => rcnt rh sz q d < rcnt rh sz q e9 ∨ (rcnt rh sz q e9 = rcnt rh sz q d ∧ e9 < d))) (n := i) (fun w => by omega)).symm) _ _ hP hD hS _ (lv_sub hl [1, 2, 3, 4, 5, 6] rfl)
          · exact jn_49 i (by first | assumption | omega) (by first | assumption | omega) (by exact Or.inr ⟨c_40, c_46⟩) _ _ hP hD hS _ (lv_sub hl [1, 2, 3, 4, 5, 6] rfl)
set_option maxHeartbeats 4000000 in
set_option maxRecDepth 100000 in
theorem c_Mo_ahead (l : Launch) (D : va_G) (K : Nat → ClassId) (m0 : Nat) (th : Nat) (T : Nat) (hd : Nat) (r1 : Nat) (r2 : Nat) (r3 : Nat) (r4 : Nat) (cm : Nat) (r5 : Nat) (r6 : Nat) (sg : Nat) (r7 : Nat) (sn : Nat) (r8 : Nat) (r9 : Nat) (rh : Nat → Nat) (sz : Nat → Nat) (q : Nat) (d : Nat) (hcm : cm ≤ 600) (hq : q ≤ 8) (hz : sz q ≤ 520) (hbd : ∀ k, k < sz q → rh (520 * q + k) < 2 ^ 24) (hdd : d < 2 ^ 31) : CI l y_Mo_ahead b_Mo_ahead 7 .int ({ frames := 1, cells := 0, slots := 0, locals := 24 } : Room) D K [.ref m0, .int (nI q), .int (nI d)] [(m0, .inr (8, [.int (nI th), .int (nI T), .int (nI hd), .ref r1, .ref r2, .ref r3, .ref r4, .int (nI cm), .ref r5, .ref r6, .int (nI sg), .ref r7, .int (nI sn), .ref r8, .ref r9])), (r8, .inl (K 0, 4680, .inl (nA rh))), (r9, .inl (K 0, 9, .inl (nA sz)))] (q_Mo_ahead K m0 th T hd r1 r2 r3 r4 cm r5 r6 sg r7 sn r8 r9 rh sz q d) := by
  refine CI_of (by decide) (Nat.le_of_ble_eq_true rfl) ?_
  intro p e s m below meth c A b0 ls hF hA hP hD hl
  have hF2 := hF
  obtain ⟨hx, hb, hr, hml, hown, htw, hK, hlocks, hname⟩ := hF
  have hS : va_S A s.heap s.heap [] := va_S.rf
  have hl : lv_has ls 7 [(0, .ref m0), (1, .int (nI q)), (2, .int (nI d))] := hl
  refine lv_aload_n hx hb d_Mo_ahead_0 rfl (lv_at hl 0 rfl) ?_
  refine lv_iload_n hx hb d_Mo_ahead_1 rfl (lv_at hl 1 rfl) ?_
  refine lv_iload_n hx hb d_Mo_ahead_2 rfl (lv_at hl 2 rfl) ?_
  refine xcV_i (As := [.int (nI q), .int (nI d)]) (rest := []) (wr := []) hx hb hml hown htw hK hA hl.1 hP hD hS (c_Mo_many l D K m0 th T hd r1 r2 r3 r4 cm r5 r6 sg r7 sn r8 r9 rh sz q d (by first | assumption | omega) (by first | assumption | omega) (by first | assumption | omega) (by first | assumption | omega)) [0, 1, 2] [] rfl rfl (by decide) (by decide) (by decide) 0 rfl k_Mo ml_Mo_102 w_Mo_many rfl ⟨by decide, by decide⟩ rfl (Nat.le_of_ble_eq_true rfl) ⟨by decide, by decide⟩ d_Mo_ahead_3 (fun r u H locs hpost hP hD hS => ?_)
  obtain ⟨rfl, rfl⟩ := hpost
  have hP : va_P D classes [(m0, .inr (8, [.int (nI th), .int (nI T), .int (nI hd), .ref r1, .ref r2, .ref r3, .ref r4, .int (nI cm), .ref r5, .ref r6, .int (nI sg), .ref r7, .int (nI sn), .ref r8, .ref r9])), (r8, .inl (K 0, 4680, .inl (nA rh))), (r9, .inl (K 0, 9, .inl (nA sz)))] H := hP
  have hD : va_D A [(m0, .inr (8, [.int (nI th), .int (nI T), .int (nI hd), .ref r1, .ref r2, .ref r3, .ref r4, .int (nI cm), .ref r5, .ref r6, .int (nI sg), .ref r7, .int (nI sn), .ref r8, .ref r9])), (r8, .inl (K 0, 4680, .inl (nA rh))), (r9, .inl (K 0, 9, .inl (nA sz)))] := hD
  refine xi (y := nI (rcnt rh sz q d)) (rfl) ?_
  refine lv_istore_n (lv' := [(3, .int (nI (rcnt rh sz q d))), (0, .ref m0), (1, .int (nI q)), (2, .int (nI d))]) hx hb d_Mo_ahead_6 rfl hl (by decide) rfl (fun ls hl => ?_)
  refine lv_iconst (v := nI 0) hx hb d_Mo_ahead_7 (by decide) ?_
  refine lv_istore (lv' := [(4, .int (nI 0)), (3, .int (nI (rcnt rh sz q d))), (0, .ref m0), (1, .int (nI q)), (2, .int (nI d))]) hx hb d_Mo_ahead_8 hl (by decide) rfl (fun ls hl => ?_)
  rw [show nI 0 = nI (rahead rh sz q 0 d) from rfl] at hl
  refine lv_iconst (v := nI 0) hx hb d_Mo_ahead_10 (by decide) ?_
  refine lv_istore (lv' := [(5, .int (nI 0)), (4, .int (nI (rahead rh sz q 0 d))), (3, .int (nI (rcnt rh sz q d))), (0, .ref m0), (1, .int (nI q)), (2, .int (nI d))]) hx hb d_Mo_ahead_11 hl (by decide) rfl (fun ls hl => ?_)
  exact lp_Mo_ahead_13 (l := l) m0 th T hd r1 r2 r3 r4 cm r5 r6 sg r7 sn r8 r9 rh sz q d hcm hq hz hbd hdd hF2 hA _ 0 (by first | assumption | omega) (Nat.lt_succ_self _) _ _ hP hD hS _ (lv_sub hl [3, 4, 5, 2, 1, 0] rfl)

abbrev q_Mo_best_no (K : Nat → ClassId) (m0 : Nat) (th : Nat) (T : Nat) (hd : Nat) (r1 : Nat) (r2 : Nat) (r3 : Nat) (r4 : Nat) (cm : Nat) (r5 : Nat) (r6 : Nat) (sg : Nat) (r7 : Nat) (sn : Nat) (r8 : Nat) (r9 : Nat) (x : Int32) : Int32 → va_W → Prop := fun r u => u = [(m0, .inr (8, [.int (nI 0), .int (nI T), .int (nI hd), .ref r1, .ref r2, .ref r3, .ref r4, .int (nI cm), .ref r5, .ref r6, .int (nI sg), .ref r7, .int (nI sn), .ref r8, .ref r9]))] ∧ r = zI (-1)
set_option maxHeartbeats 4000000 in
set_option maxRecDepth 100000 in
theorem c_Mo_best_no (l : Launch) (D : va_G) (K : Nat → ClassId) (m0 : Nat) (th : Nat) (T : Nat) (hd : Nat) (r1 : Nat) (r2 : Nat) (r3 : Nat) (r4 : Nat) (cm : Nat) (r5 : Nat) (r6 : Nat) (sg : Nat) (r7 : Nat) (sn : Nat) (r8 : Nat) (r9 : Nat) (x : Int32) (hsn : sn = 0) (hcm : cm ≤ 600) : CI l y_Mo_best b_Mo_best 3 .int ({ frames := 0, cells := 0, slots := 0, locals := 0 } : Room) D K [.ref m0, .int x] [(m0, .inr (8, [.int (nI th), .int (nI T), .int (nI hd), .ref r1, .ref r2, .ref r3, .ref r4, .int (nI cm), .ref r5, .ref r6, .int (nI sg), .ref r7, .int (nI sn), .ref r8, .ref r9]))] (q_Mo_best_no K m0 th T hd r1 r2 r3 r4 cm r5 r6 sg r7 sn r8 r9 x) := by
  refine CI_of (by decide) (Nat.le_of_ble_eq_true rfl) ?_
  intro p e s m below meth c A b0 ls hF hA hP hD hl
  have hF2 := hF
  obtain ⟨hx, hb, hr, hml, hown, htw, hK, hlocks, hname⟩ := hF
  have hS : va_S A s.heap s.heap [] := va_S.rf
  have hl : lv_has ls 3 [(0, .ref m0), (1, .int x)] := hl
  refine lv_aload_n hx hb d_Mo_best_0 rfl (lv_at hl 0 rfl) ?_
  refine lv_iconst (v := nI 0) hx hb d_Mo_best_1 (by decide) ?_
  refine xpt hx hb hown htw hK hP hD hS 0 0 rfl k_Mo (by decide) fl_Mo_38 rfl rfl rfl (Nat.le_of_ble_eq_true rfl) d_Mo_best_2 (fun H locs hP hD hS => ?_)
  have hP : va_P D classes [(m0, .inr (8, [.int (nI 0), .int (nI T), .int (nI hd), .ref r1, .ref r2, .ref r3, .ref r4, .int (nI cm), .ref r5, .ref r6, .int (nI sg), .ref r7, .int (nI sn), .ref r8, .ref r9]))] H := hP
  have hD : va_D A [(m0, .inr (8, [.int (nI 0), .int (nI T), .int (nI hd), .ref r1, .ref r2, .ref r3, .ref r4, .int (nI cm), .ref r5, .ref r6, .int (nI sg), .ref r7, .int (nI sn), .ref r8, .ref r9]))] := hD
  refine lv_iconst (v := nI 0) hx hb d_Mo_best_5 (by decide) ?_
  refine lv_istore_n (lv' := [(2, .int (nI 0)), (0, .ref m0), (1, .int x)]) hx hb d_Mo_best_6 rfl hl (by decide) rfl (fun ls hl => ?_)
  refine lv_iload_n hx hb d_Mo_best_7 rfl (lv_at hl 0 rfl) ?_
  refine lv_aload_n hx hb d_Mo_best_8 rfl (lv_at hl 1 rfl) ?_
  refine xg hx hb hown htw hK hP 0 7 rfl k_Mo (by decide) fl_Mo_48 rfl d_Mo_best_9 ?_
  refine xc_ge (tgt := 59) (a := 0) (b := cm) hx hb (by omega) (by omega) d_Mo_best_12 (by decide) (fun c_12 => ?_) (fun c_12 => ?_)
  · refine lv_iconst (v := zI (-1)) hx hb d_Mo_best_59 (by decide) ?_
    exact xr_iret hx hb hr hlocks hP hD hS (Nat.le_of_ble_eq_true rfl) (Nat.le_of_ble_eq_true rfl) (⟨rfl, rfl⟩) d_Mo_best_60
  · refine lv_aload_n hx hb d_Mo_best_15 rfl (lv_at hl 1 rfl) ?_
    refine xg hx hb hown htw hK hP 0 12 rfl k_Mo (by decide) fl_Mo_73 rfl d_Mo_best_16 ?_
    refine xz_le (tgt := 59) (a := sn) hx hb (by omega) d_Mo_best_19 (by decide) (fun c_19 => ?_) (fun c_19 => ?_)
    · refine lv_iconst (v := zI (-1)) hx hb d_Mo_best_59 (by decide) ?_
      exact xr_iret hx hb hr hlocks hP hD hS (Nat.le_of_ble_eq_true rfl) (Nat.le_of_ble_eq_true rfl) (⟨rfl, rfl⟩) d_Mo_best_60
    · omega

abbrev q_Mo_best_ok (K : Nat → ClassId) (m0 : Nat) (th : Nat) (T : Nat) (hd : Nat) (r1 : Nat) (r2 : Nat) (r3 : Nat) (r4 : Nat) (cm : Nat) (r5 : Nat) (r6 : Nat) (sg : Nat) (r7 : Nat) (sn : Nat) (r8 : Nat) (r9 : Nat) (rh : Nat → Nat) (sz : Nat → Nat) (x : Int32) : Int32 → va_W → Prop := fun r u => ∃ rr : Int32, u = [(m0, .inr (8, [.int (nI 0), .int (nI T), .int (nI hd), .ref r1, .ref r2, .ref r3, .ref r4, .int (nI cm), .ref r5, .ref r6, .int (nI sg), .ref r7, .int (nI sn), .ref r8, .ref r9])), (r8, .inl (K 0, 4680, .inl (nA rh))), (r9, .inl (K 0, 9, .inl (nA sz)))] ∧ r = rr ∧ ((∃ d, d < cm ∧ 0 < rcnt rh sz (sn - 1) d ∧ nI (rahead rh sz (sn - 1) cm d) = x ∧ rr = nI d) ∨ ((∀ d, d < cm → ¬ (0 < rcnt rh sz (sn - 1) d ∧ nI (rahead rh sz (sn - 1) cm d) = x)) ∧ rr = zI (-1)))
set_option maxHeartbeats 4000000 in
set_option maxRecDepth 100000 in
theorem lp_Mo_best_ok_7 {p : Program} {l : Launch} {e : Env} {s : State} {m : MethodId} {below : List Frame} {meth : Method} {c : Code} {A : Nat → Prop} {D : va_G} {K : Nat → ClassId} (m0 : Nat) (th : Nat) (T : Nat) (hd : Nat) (r1 : Nat) (r2 : Nat) (r3 : Nat) (r4 : Nat) (cm : Nat) (r5 : Nat) (r6 : Nat) (sg : Nat) (r7 : Nat) (sn : Nat) (r8 : Nat) (r9 : Nat) (rh : Nat → Nat) (sz : Nat → Nat) (x : Int32) (hsn2 : sn ≤ 8) (hcm : cm ≤ 600) (hsz : ∀ q, q < sn → sz q ≤ 520) (hbd : ∀ q k, q < sn → k < sz q → rh (520 * q + k) < 2 ^ 24) (hsn : 0 < sn) (hF : Fx p s m meth c y_Mo_best b_Mo_best 3 (some .int) D K) {b0 : Nat} (hA : AS K s A b0) : ∀ fuel : Nat, ∀ d : Nat, (d ≤ cm) → (∀ i, i < d → ¬ (0 < rcnt rh sz (sn - 1) i ∧ nI (rahead rh sz (sn - 1) cm i) = x)) → cm - d < fuel → ∀ (H : Heap) (locs : List Loc), va_P D classes [(m0, .inr (8, [.int (nI 0), .int (nI T), .int (nI hd), .ref r1, .ref r2, .ref r3, .ref r4, .int (nI cm), .ref r5, .ref r6, .int (nI sg), .ref r7, .int (nI sn), .ref r8, .ref r9])), (r8, .inl (K 0, 4680, .inl (nA rh))), (r9, .inl (K 0, 9, .inl (nA sz)))] H → va_D A [(m0, .inr (8, [.int (nI 0), .int (nI T), .int (nI hd), .ref r1, .ref r2, .ref r3, .ref r4, .int (nI cm), .ref r5, .ref r6, .int (nI sg), .ref r7, .int (nI sn), .ref r8, .ref r9])), (r8, .inl (K 0, 4680, .inl (nA rh))), (r9, .inl (K 0, 9, .inl (nA sz)))] → va_S A s.heap H locs → ∀ ls : Array Slot, lv_has ls 3 [(0, .ref m0), (1, .int x), (2, .int (nI d))] → W p l e ({ frames := 2, cells := 0, slots := 0, locals := 50 } : Room) s m ([.ref m0, .int x] : List Value).toArray below meth c H locs 0 0 (MQ below (va_Qi (q_Mo_best_ok K m0 th T hd r1 r2 r3 r4 cm r5 r6 sg r7 sn r8 r9 rh sz x) (fun u t => va_P D classes u t.heap ∧ va_D A u) A) ([.ref m0, .int x] : List Value).toArray s 0 0 A) (F0 m 7 ls []) := by
  have hF2 := hF
  obtain ⟨hx, hb, hr, hml, hown, htw, hK, hlocks, hname⟩ := hF
  intro fuel
  induction fuel with
  | zero => intros; omega
  | succ fuel ih =>
    have jn_53 : ∀ d : Nat, (d < cm) → (cm - d < fuel + 1) → (∀ i, i < d + 1 → ¬ (0 < rcnt rh sz (sn - 1) i ∧ nI (rahead rh sz (sn - 1) cm i) = x)) → ∀ (H : Heap) (locs : List Loc), va_P D classes [(m0, .inr (8, [.int (nI 0), .int (nI T), .int (nI hd), .ref r1, .ref r2, .ref r3, .ref r4, .int (nI cm), .ref r5, .ref r6, .int (nI sg), .ref r7, .int (nI sn), .ref r8, .ref r9])), (r8, .inl (K 0, 4680, .inl (nA rh))), (r9, .inl (K 0, 9, .inl (nA sz)))] H → va_D A [(m0, .inr (8, [.int (nI 0), .int (nI T), .int (nI hd), .ref r1, .ref r2, .ref r3, .ref r4, .int (nI cm), .ref r5, .ref r6, .int (nI sg), .ref r7, .int (nI sn), .ref r8, .ref r9])), (r8, .inl (K 0, 4680, .inl (nA rh))), (r9, .inl (K 0, 9, .inl (nA sz)))] → va_S A s.heap H locs → ∀ ls : Array Slot, lv_has ls 3 [(0, .ref m0), (1, .int x), (2, .int (nI d))] → W p l e ({ frames := 2, cells := 0, slots := 0, locals := 50 } : Room) s m ([.ref m0, .int x] : List Value).toArray below meth c H locs 0 0 (MQ below (va_Qi (q_Mo_best_ok K m0 th T hd r1 r2 r3 r4 cm r5 r6 sg r7 sn r8 r9 rh sz x) (fun u t => va_P D classes u t.heap ∧ va_D A u) A) ([.ref m0, .int x] : List Value).toArray s 0 0 A) (F0 m 53 ls []) := by
      intro d hd1 hfu hno H locs hP hD hS ls hl
      refine lv_iinc (v := nI (d + 1)) (lv' := [(2, .int (nI (d + 1))), (0, .ref m0), (1, .int x)]) hx hb d_Mo_best_53 hl (k := 2) rfl (inc_nI _ _) (by decide) rfl (fun ls hl => ?_)
      refine lv_goto (tgt := 7) hx hb d_Mo_best_56 (by decide) ?_
      exact ih (d + 1) (by first | assumption | omega) (by first | assumption | omega) (by omega) _ _ hP hD hS _ (lv_sub hl [1, 2, 0] rfl)
    intro d hd1 hno hfu H locs hP hD hS ls hl
    refine lv_iload_n hx hb d_Mo_best_7 rfl (lv_at hl 2 rfl) ?_
    refine lv_aload_n hx hb d_Mo_best_8 rfl (lv_at hl 0 rfl) ?_
    refine xg hx hb hown htw hK hP 0 7 rfl k_Mo (by decide) fl_Mo_48 rfl d_Mo_best_9 ?_
    refine xc_ge (tgt := 59) (a := d) (b := cm) hx hb (by omega) (by omega) d_Mo_best_12 (by decide) (fun c_12 => ?_) (fun c_12 => ?_)
    · refine lv_iconst (v := zI (-1)) hx hb d_Mo_best_59 (by decide) ?_
      exact xr_iret hx hb hr hlocks hP hD hS (Nat.le_of_ble_eq_true rfl) (Nat.le_of_ble_eq_true rfl) (⟨_, rfl, rfl, Or.inr ⟨fun i hi => hno i (by omega), rfl⟩⟩) d_Mo_best_60
    · refine lv_aload_n hx hb d_Mo_best_15 rfl (lv_at hl 0 rfl) ?_
      refine xg hx hb hown htw hK hP 0 12 rfl k_Mo (by decide) fl_Mo_73 rfl d_Mo_best_16 ?_
      refine xz_le (tgt := 59) (a := sn) hx hb (by omega) d_Mo_best_19 (by decide) (fun c_19 => ?_) (fun c_19 => ?_)
      · omega
      · refine lv_aload_n hx hb d_Mo_best_22 rfl (lv_at hl 0 rfl) ?_
        refine lv_aload_n hx hb d_Mo_best_23 rfl (lv_at hl 0 rfl) ?_
        refine xg hx hb hown htw hK hP 0 12 rfl k_Mo (by decide) fl_Mo_73 rfl d_Mo_best_24 ?_
        refine lv_iconst (v := nI 1) hx hb d_Mo_best_27 (by decide) ?_
        refine lv_isub hx hb d_Mo_best_28 ?_
        refine xi (nI_sub (a := sn) (b := 1) (by omega)) ?_
        refine lv_iload_n hx hb d_Mo_best_29 rfl (lv_at hl 2 rfl) ?_
        refine xcV_i (As := [.int (nI (sn - 1)), .int (nI d)]) (rest := []) (wr := []) hx hb hml hown htw hK hA hl.1 hP hD hS (c_Mo_many l D K m0 0 T hd r1 r2 r3 r4 cm r5 r6 sg r7 sn r8 r9 rh sz (sn - 1) d (by omega) (by exact hsz _ (by omega)) (by exact fun i hi => hbd _ i (by omega) hi) (by first | assumption | omega)) [0, 1, 2] [] rfl rfl (by decide) (by decide) (by decide) 0 rfl k_Mo ml_Mo_102 w_Mo_many rfl ⟨by decide, by decide⟩ rfl (Nat.le_of_ble_eq_true rfl) ⟨by decide, by decide⟩ d_Mo_best_30 (fun r u H locs hpost hP hD hS => ?_)
        obtain ⟨rfl, rfl⟩ := hpost
        have hP : va_P D classes [(m0, .inr (8, [.int (nI 0), .int (nI T), .int (nI hd), .ref r1, .ref r2, .ref r3, .ref r4, .int (nI cm), .ref r5, .ref r6, .int (nI sg), .ref r7, .int (nI sn), .ref r8, .ref r9])), (r8, .inl (K 0, 4680, .inl (nA rh))), (r9, .inl (K 0, 9, .inl (nA sz)))] H := hP
        have hD : va_D A [(m0, .inr (8, [.int (nI 0), .int (nI T), .int (nI hd), .ref r1, .ref r2, .ref r3, .ref r4, .int (nI cm), .ref r5, .ref r6, .int (nI sg), .ref r7, .int (nI sn), .ref r8, .ref r9])), (r8, .inl (K 0, 4680, .inl (nA rh))), (r9, .inl (K 0, 9, .inl (nA sz)))] := hD
        refine xi (y := nI (rcnt rh sz (sn - 1) d)) (rfl) ?_
        refine xz_le (tgt := 53) (a := rcnt rh sz (sn - 1) d) hx hb (by have := hsz (sn - 1) (by omega); have := rcnt_le (rh := rh) (d := d) this; omega) d_Mo_best_33 (by decide) (fun c_33 => ?_) (fun c_33 => ?_)
        · exact jn_53 d (by first | assumption | omega) (by first | assumption | omega) (by exact fun i hi w => by rcases Nat.lt_or_ge i d with v | v; (exact hno i v w); (have e : i = d := by omega); (rw [e] at w; exact absurd w.1 (by omega))) _ _ hP hD hS _ (lv_sub hl [0, 1, 2] rfl)
        · refine lv_aload_n hx hb d_Mo_best_36 rfl (lv_at hl 0 rfl) ?_
          refine lv_aload_n hx hb d_Mo_best_37 rfl (lv_at hl 0 rfl) ?_
          refine xg hx hb hown htw hK hP 0 12 rfl k_Mo (by decide) fl_Mo_73 rfl d_Mo_best_38 ?_
          refine lv_iconst (v := nI 1) hx hb d_Mo_best_41 (by decide) ?_
          refine lv_isub hx hb d_Mo_best_42 ?_
          refine xi (nI_sub (a := sn) (b := 1) (by omega)) ?_
          refine lv_iload_n hx hb d_Mo_best_43 rfl (lv_at hl 2 rfl) ?_
          refine xcV_i (As := [.int (nI (sn - 1)), .int (nI d)]) (rest := []) (wr := []) hx hb hml hown htw hK hA hl.1 hP hD hS (c_Mo_ahead l D K m0 0 T hd r1 r2 r3 r4 cm r5 r6 sg r7 sn r8 r9 rh sz (sn - 1) d (by first | assumption | omega) (by omega) (by exact hsz _ (by omega)) (by exact fun i hi => hbd _ i (by omega) hi) (by first | assumption | omega)) [0, 1, 2] [] rfl rfl (by decide) (by decide) (by decide) 0 rfl k_Mo ml_Mo_109 w_Mo_ahead rfl ⟨by decide, by decide⟩ rfl (Nat.le_of_ble_eq_true rfl) ⟨by decide, by decide⟩ d_Mo_best_44 (fun r u H locs hpost hP hD hS => ?_)
          obtain ⟨rfl, rfl⟩ := hpost
          have hP : va_P D classes [(m0, .inr (8, [.int (nI 0), .int (nI T), .int (nI hd), .ref r1, .ref r2, .ref r3, .ref r4, .int (nI cm), .ref r5, .ref r6, .int (nI sg), .ref r7, .int (nI sn), .ref r8, .ref r9])), (r8, .inl (K 0, 4680, .inl (nA rh))), (r9, .inl (K 0, 9, .inl (nA sz)))] H := hP
          have hD : va_D A [(m0, .inr (8, [.int (nI 0), .int (nI T), .int (nI hd), .ref r1, .ref r2, .ref r3, .ref r4, .int (nI cm), .ref r5, .ref r6, .int (nI sg), .ref r7, .int (nI sn), .ref r8, .ref r9])), (r8, .inl (K 0, 4680, .inl (nA rh))), (r9, .inl (K 0, 9, .inl (nA sz)))] := hD
          refine lv_iload_n hx hb d_Mo_best_47 rfl (lv_at hl 1 rfl) ?_
          refine lv_icmp_ne (tgt := 53) hx hb d_Mo_best_48 (by decide) (fun c_48 => ?_) (fun c_48 => ?_)
          · exact jn_53 d (by first | assumption | omega) (by first | assumption | omega) (by exact fun i hi w => by rcases Nat.lt_or_ge i d with v | v; (exact hno i v w); (have e : i = d := by omega); (rw [e] at w; exact c_48 w.2)) _ _ hP hD hS _ (lv_sub hl [0, 1, 2] rfl)
          · refine lv_iload_n hx hb d_Mo_best_51 rfl (lv_at hl 2 rfl) ?_
            exact xr_iret hx hb hr hlocks hP hD hS (Nat.le_of_ble_eq_true rfl) (Nat.le_of_ble_eq_true rfl) (⟨_, rfl, rfl, Or.inl ⟨d, c_12, c_33, c_48, rfl⟩⟩) d_Mo_best_52
set_option maxHeartbeats 4000000 in
set_option maxRecDepth 100000 in
theorem c_Mo_best_ok (l : Launch) (D : va_G) (K : Nat → ClassId) (m0 : Nat) (th : Nat) (T : Nat) (hd : Nat) (r1 : Nat) (r2 : Nat) (r3 : Nat) (r4 : Nat) (cm : Nat) (r5 : Nat) (r6 : Nat) (sg : Nat) (r7 : Nat) (sn : Nat) (r8 : Nat) (r9 : Nat) (rh : Nat → Nat) (sz : Nat → Nat) (x : Int32) (hsn2 : sn ≤ 8) (hcm : cm ≤ 600) (hsz : ∀ q, q < sn → sz q ≤ 520) (hbd : ∀ q k, q < sn → k < sz q → rh (520 * q + k) < 2 ^ 24) (hsn : 0 < sn) : CI l y_Mo_best b_Mo_best 3 .int ({ frames := 2, cells := 0, slots := 0, locals := 50 } : Room) D K [.ref m0, .int x] [(m0, .inr (8, [.int (nI th), .int (nI T), .int (nI hd), .ref r1, .ref r2, .ref r3, .ref r4, .int (nI cm), .ref r5, .ref r6, .int (nI sg), .ref r7, .int (nI sn), .ref r8, .ref r9])), (r8, .inl (K 0, 4680, .inl (nA rh))), (r9, .inl (K 0, 9, .inl (nA sz)))] (q_Mo_best_ok K m0 th T hd r1 r2 r3 r4 cm r5 r6 sg r7 sn r8 r9 rh sz x) := by
  refine CI_of (by decide) (Nat.le_of_ble_eq_true rfl) ?_
  intro p e s m below meth c A b0 ls hF hA hP hD hl
  have hF2 := hF
  obtain ⟨hx, hb, hr, hml, hown, htw, hK, hlocks, hname⟩ := hF
  have hS : va_S A s.heap s.heap [] := va_S.rf
  have hl : lv_has ls 3 [(0, .ref m0), (1, .int x)] := hl
  refine lv_aload_n hx hb d_Mo_best_0 rfl (lv_at hl 0 rfl) ?_
  refine lv_iconst (v := nI 0) hx hb d_Mo_best_1 (by decide) ?_
  refine xpt hx hb hown htw hK hP hD hS 0 0 rfl k_Mo (by decide) fl_Mo_38 rfl rfl rfl (Nat.le_of_ble_eq_true rfl) d_Mo_best_2 (fun H locs hP hD hS => ?_)
  have hP : va_P D classes [(m0, .inr (8, [.int (nI 0), .int (nI T), .int (nI hd), .ref r1, .ref r2, .ref r3, .ref r4, .int (nI cm), .ref r5, .ref r6, .int (nI sg), .ref r7, .int (nI sn), .ref r8, .ref r9])), (r8, .inl (K 0, 4680, .inl (nA rh))), (r9, .inl (K 0, 9, .inl (nA sz)))] H := hP
  have hD : va_D A [(m0, .inr (8, [.int (nI 0), .int (nI T), .int (nI hd), .ref r1, .ref r2, .ref r3, .ref r4, .int (nI cm), .ref r5, .ref r6, .int (nI sg), .ref r7, .int (nI sn), .ref r8, .ref r9])), (r8, .inl (K 0, 4680, .inl (nA rh))), (r9, .inl (K 0, 9, .inl (nA sz)))] := hD
  refine lv_iconst (v := nI 0) hx hb d_Mo_best_5 (by decide) ?_
  refine lv_istore_n (lv' := [(2, .int (nI 0)), (0, .ref m0), (1, .int x)]) hx hb d_Mo_best_6 rfl hl (by decide) rfl (fun ls hl => ?_)
  exact lp_Mo_best_ok_7 (l := l) m0 th T hd r1 r2 r3 r4 cm r5 r6 sg r7 sn r8 r9 rh sz x hsn2 hcm hsz hbd hsn hF2 hA _ 0 (by first | assumption | omega) (by exact fun i hi => by omega) (Nat.lt_succ_self _) _ _ hP hD hS _ (lv_sub hl [1, 2, 0] rfl)

